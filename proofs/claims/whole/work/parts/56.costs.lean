theorem p_fill {K : Sg → Prop} {c : Nat} {x : Int32} {σ0 : Sg} (hl : ln c < 2147483648) (hK : ∀ τ : Sg, (∀ d, d ≠ c → τ d = σ0 d) → (∀ j, j < ln c → τ c j = x) → (∀ j, ln c ≤ j → τ c j = σ0 c j) → K τ) : w_Ja_fill c x σ0 K := by
  have key : ∀ n i (σ : Sg), i + n = ln c → (∀ d, d ≠ c → σ d = σ0 d) → (∀ j, j < i → σ c j = x) → (∀ j, i ≤ j → σ c j = σ0 c j) → L_Ja_fill_5 c x (nI (ln c)) K (n + 1) (nI i) σ := by
    intro n
    induction n with
    | zero =>
      intro i σ hi h1 h2 h3
      have : i = ln c := by omega
      subst this
      unfold L_Ja_fill_5
      exact ⟨fun _ => hK σ h1 h2 h3, fun g => absurd ((n_le (by omega) (by omega)).mpr (Nat.le_refl _)) g⟩
    | succ n ih =>
      intro i σ hi h1 h2 h3
      unfold L_Ja_fill_5
      refine ⟨fun g => absurd ((n_le (by omega) (by omega)).mp g) (by omega), fun _ => ⟨n_in (by omega) (by omega), fun τ hτ => ?_⟩⟩
      rw [nI_c (by omega)] at hτ
      subst hτ
      rw [show (1 : Int32) = nI 1 from rfl, nI_add]
      refine ih (i + 1) _ (by omega) (fun d hd => by rw [s2_ne hd]; exact h1 d hd) (fun j hj => ?_) (fun j hj => ?_)
      · by_cases e : j = i
        · subst e; exact s2_at
        · rw [s2_ai e]; exact h2 j (by omega)
      · rw [s2_ai (by omega)]; exact h3 j (by omega)
  unfold w_Ja_fill
  intro y hy
  rw [hy]
  exact ⟨ln c + 1, key (ln c) 0 σ0 (by omega) (fun _ _ => rfl) (fun j hj => absurd hj (by omega)) (fun _ _ => rfl)⟩
/-- the two rows of costs: which is ahead, which is spare -/
def UE (σ : Sg) (E Q : Nat) : Prop := (E = 26 ∧ Q = 27 ∨ E = 27 ∧ Q = 26) ∧ σ 22 3 = nI E ∧ σ 22 4 = nI Q
theorem UE.ia {σ : Sg} {E Q : Nat} (h : UE σ E Q) : ia E 256 ∧ ia Q 256 := by
  rcases h.1 with ⟨e1, e2⟩ | ⟨e1, e2⟩ <;> (subst e1; subst e2; exact ⟨⟨rfl, rfl⟩, ⟨rfl, rfl⟩⟩)
theorem UE.b {σ : Sg} {E Q : Nat} (h : UE σ E Q) : 25 < E ∧ E < 28 ∧ 25 < Q ∧ Q < 28 ∧ E ≠ Q := by
  rcases h.1 with ⟨e1, e2⟩ | ⟨e1, e2⟩ <;> omega
/-- what stands ahead -/
def AH (D : Dt) (σ : Sg) (A : Nat → Nat) : Prop := ∃ E Q, UE σ E Q ∧ ∀ r, vr D r → σ E (fl D 0 r) = nI (A r)
theorem fl_inj {D : Dt} {r q : Nat} (hr : vr D r) (hq : vr D q) (e : fl D 0 r = fl D 0 q) : r = q := by
  have h1 := (fl_le hr hq).mp (by omega)
  have h2 := (fl_le hq hr).mp (by omega)
  omega
theorem p_letGoOn {h : Hh} {K : Sg → Prop} {a : Nat} {A : Nat → Nat} {σ0 : Sg} (ok : HOk h) (ha : a < hm h) (L : LT (Dh h) 0 σ0) (H : AH (Dh h) σ0 A) (hA : ∀ r, A r < 1000000000)
    (hK : ∀ τ : Sg, (∀ c, c ≠ 22 → c ≠ 26 → c ≠ 27 → τ c = σ0 c) → (∀ j, j ≠ 3 → j ≠ 4 → τ 22 j = σ0 22 j) → AH (Dh h) τ (fun r => min (A r) (A (adv (Dh h) a r) + 1)) → K τ) : w_Un_letGoOn (nI a) σ0 K := by
  have hD := Dh_ok ok
  have hm4 := ok.1
  have hW := Wp_le hD 0
  obtain ⟨E, Q, u, H⟩ := H
  have ub := u.b
  obtain ⟨l1, l2, l3⟩ := L
  obtain ⟨l4, l5⟩ := l3 a (by omega) ha
  have key : ∀ n i (σ : Sg), i + n = Wp (Dh h) 0 → (∀ c, c ≠ Q → σ c = σ0 c) → (∀ r, vr (Dh h) r → fl (Dh h) 0 r < i → σ Q (fl (Dh h) 0 r) = nI (min (A r) (A (adv (Dh h) a r) + 1))) → L_Un_letGoOn_8 (nI a) (nI (a * 256)) K (n + 1) (nI i) σ := by
    intro n
    induction n with
    | zero =>
      intro i σ hi h1 h2
      have : i = Wp (Dh h) 0 := by omega
      subst this
      unfold L_Un_letGoOn_8
      rw [h1 22 (by omega), u.2.1, u.2.2, l1, nI_c (by omega), nI_c (by omega)]
      refine ⟨fun _ => ⟨u.ia.2, u.ia.1, fun τ1 e1 τ2 e2 => ?_⟩, fun g => absurd ((n_le (by omega) (by omega)).mpr (Nat.le_refl _)) g⟩
      subst e1; subst e2
      refine hK _ (fun c c1 c2 c3 => ?_) (fun j j1 j2 => ?_) ⟨Q, E, ⟨by omega, ?_, ?_⟩, fun r hr => ?_⟩
      · rw [s2_ne c1, s2_ne c1]; exact h1 c (by omega)
      · rw [s2_ai j1, s2_ai j2, h1 22 (by omega)]
      · rw [s2_at]
      · rw [s2_ai (by omega), s2_at]
      · rw [s2_ne (by omega), s2_ne (by omega)]
        exact h2 r hr (fl_lt hr 0 (by omega))
    | succ n ih =>
      intro i σ hi h1 h2
      obtain ⟨y, y1, y2⟩ := l5 i (by omega)
      unfold L_Un_letGoOn_8
      rw [h1 22 (by omega), u.2.1, u.2.2, l1, nI_add, nI_c (n := E) (by omega), nI_c (n := Q) (by omega), nI_c (n := i) (by omega), nI_c (n := a * 256 + i) (by omega), h1 24 (by omega), show a * 256 + i = 256 * a + i by omega, y2, nI_c (n := y) (by omega), h1 E (by omega)]
      refine ⟨fun g => absurd ((n_le (by omega) (by omega)).mp g) (by omega), fun _ => ⟨u.ia.2, u.ia.1, n_in (by omega) (by omega), u.ia.1, n_in (by omega) (by omega), n_in (by omega) (by omega), n_in (by omega) (by omega), fun τ hτ => ?_⟩⟩
      subst hτ
      rw [show (1 : Int32) = nI 1 from rfl, nI_add]
      refine ih (i + 1) _ (by omega) (fun c hc => by rw [s2_ne hc]; exact h1 c hc) (fun r hr hlt => ?_)
      by_cases e : fl (Dh h) 0 r = i
      · rw [e, s2_at]
        have e2 : y = fl (Dh h) 0 (adv (Dh h) a r) := by
          have := l4 r hr
          rw [e, y2] at this
          exact (n_eq (by omega) (by have := fl_lt (vr_adv hD hr a) 0 (by omega); omega)).mp this
        have e3 := H r hr
        rw [e] at e3
        have e4 := H _ (vr_adv hD hr a)
        rw [← e2] at e4
        have b1 := hA r
        have b2 := hA (adv (Dh h) a r)
        rw [e3, e4, nI_add]
        by_cases g : A (adv (Dh h) a r) + 1 < A r
        · rw [if_pos ((n_lt (by omega) (by omega)).mpr g), Nat.min_eq_right (by omega)]
        · rw [if_neg (fun q => g ((n_lt (by omega) (by omega)).mp q)), Nat.min_eq_left (by omega)]
      · rw [s2_ai e]
        exact h2 r hr (by omega)
  unfold w_Un_letGoOn
  intro y hy
  rw [hy, show (256 : Int32) = nI 256 from rfl, pk_mul]
  exact ⟨Wp (Dh h) 0 + 1, key (Wp (Dh h) 0) 0 σ0 (by omega) (fun _ _ => rfl) (fun r hr hlt => absurd hlt (by omega))⟩
theorem mn_bound {D : Dt} {f : Nat → Nat} {B : Nat} (hf : ∀ r, f r ≤ B) : ∀ a r, mn D f a r ≤ B
  | 0, r => hf r
  | a + 1, r => by
    have := mn_bound (D := D) hf a r
    simp only [mn]
    omega
/-- all appliances go on, one after the other -/
theorem q_L115 {o1 : Nat} {h : Hh} {K : Sg → Prop} {r15 : Int32 → Sg → Prop} {t : Nat} {f : Nat → Nat} {σ0 : Sg} (ok : HOk h) (ho : kd o1 = 2) (hm0 : σ0 o1 4 = nI (hm h)) (L : LT (Dh h) 0 σ0) (H : AH (Dh h) σ0 f) (hf : ∀ r, f r ≤ 600000000)
    (hK : ∀ τ : Sg, (∀ c, c ≠ 22 → c ≠ 26 → c ≠ 27 → τ c = σ0 c) → (∀ j, j ≠ 3 → j ≠ 4 → τ 22 j = σ0 22 j) → AH (Dh h) τ (mn (Dh h) f (hm h)) → r15 (nI t + (-1)) τ) :
    ∃ n, L_Un_findCosts_115 o1 (nI t) K r15 n (nI 0) σ0 := by
  have hm4 := ok.1
  have ho22 : o1 ≠ 22 ∧ o1 ≠ 26 ∧ o1 ≠ 27 := by
    have : ∀ c, c < 67 → kd c = 2 → c ≠ 22 ∧ c ≠ 26 ∧ c ≠ 27 := by decide +kernel
    exact this o1 (kd_lt (by rw [ho]; decide)) ho
  have key : ∀ n i (σ : Sg), i + n = hm h → (∀ c, c ≠ 22 → c ≠ 26 → c ≠ 27 → σ c = σ0 c) → (∀ j, j ≠ 3 → j ≠ 4 → σ 22 j = σ0 22 j) → AH (Dh h) σ (mn (Dh h) f i) → L_Un_findCosts_115 o1 (nI t) K r15 (n + 1) (nI i) σ := by
    intro n
    induction n with
    | zero =>
      intro i σ hi h1 h2 h3
      have : i = hm h := by omega
      subst this
      unfold L_Un_findCosts_115
      rw [h1 o1 ho22.1 ho22.2.1 ho22.2.2, hm0]
      exact ⟨fun _ => hK σ h1 h2 h3, fun g => absurd ((n_le (by omega) (by omega)).mpr (Nat.le_refl _)) g⟩
    | succ n ih =>
      intro i σ hi h1 h2 h3
      unfold L_Un_findCosts_115
      rw [h1 o1 ho22.1 ho22.2.1 ho22.2.2, hm0]
      refine ⟨fun g => absurd ((n_le (by omega) (by omega)).mp g) (by omega), fun _ => ?_⟩
      have L' : LT (Dh h) 0 σ := by
        obtain ⟨a1, a2, a3⟩ := L
        refine ⟨by rw [h2 5 (by omega) (by omega)]; exact a1, ?_, ?_⟩
        · rw [h1 23 (by omega) (by omega) (by omega)]; exact a2
        · rw [h1 24 (by omega) (by omega) (by omega)]; exact a3
      refine p_letGoOn ok (by omega) L' h3 (fun r => by have := mn_bound (D := Dh h) hf i r; omega) (fun τ g1 g2 g3 => ?_)
      rw [show (1 : Int32) = nI 1 from rfl, nI_add]
      exact ih (i + 1) τ (by omega) (fun c c1 c2 c3 => (g1 c c1 c2 c3).trans (h1 c c1 c2 c3)) (fun j j1 j2 => (g2 j j1 j2).trans (h2 j j1 j2)) g3
  exact ⟨hm h + 1, key (hm h) 0 σ0 (by omega) (fun _ _ _ _ => rfl) (fun _ _ _ => rfl) H⟩
