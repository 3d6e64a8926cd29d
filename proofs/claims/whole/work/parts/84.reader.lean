def RCp (H : Hp) (σ : Sg) : Prop := σ 11 4 = nI H.1 ∧ ∀ a, a < H.1 → σ 12 a = nI (H.2.1 a) ∧ σ 13 a = nI (H.2.2.1 a) ∧ ∀ k, k < H.2.2.1 a → σ 14 (3 * a + k) = nI (H.2.2.2 (3 * a + k))
def FT (σ0 σ : Sg) : Prop := (∀ c, c ≠ 28 → c ≠ 11 → c ≠ 12 → c ≠ 13 → c ≠ 14 → σ c = σ0 c) ∧ ∀ j, j ≠ 4 → σ 11 j = σ0 11 j
theorem RCp.aw {H : Hp} {σ : Sg} {v : Int32} (R : RCp H σ) : RCp H (s2 σ 28 1 v) := by
  unfold RCp at R ⊢
  rw [s2_ne (by omega), s2_ne (by omega), s2_ne (by omega), s2_ne (by omega)]
  exact R
theorem FT.aw {σ0 σ : Sg} {v : Int32} (f : FT σ0 σ) : FT σ0 (s2 σ 28 1 v) := ⟨fun c c0 c1 c2 c3 c4 => by rw [s2_ne c0]; exact f.1 c c0 c1 c2 c3 c4, fun j hj => by rw [s2_ne (by omega)]; exact f.2 j hj⟩
section TR
variable {σ0 σ : Sg} {K : Int32 → Sg → Prop} {x : Int32} {H : Hp}
theorem p_mark (h4 : H.1 ≤ 4) (R : RCp H σ) (f : FT σ0 σ) (hS : ∀ τ, x = 59 → H.1 < 4 → FT σ0 τ → RCp H τ → τ 28 1 = nI 2 → K 1 τ) (hN : ∀ τ, ¬ (x = 59 ∧ H.1 < 4) → FT σ0 τ → K 0 τ) : w_Tr_takesMark x σ K := by
  unfold w_Tr_takesMark
  intro τ e
  subst e
  have R2 := R.aw (v := 2)
  rw [R2.1]
  refine ⟨fun c => hN _ (fun q => c q.1) f.aw, fun c => ⟨fun c2 => hN _ (fun q => ?_) f.aw, fun c2 => hS _ c ?_ f.aw R2 (by rw [s2_at]; rfl)⟩⟩
  · have := (show nI 4 ≤ nI H.1 ↔ 4 ≤ H.1 from n_le (by omega) (by omega)).mp c2
    omega
  · by_cases q : H.1 < 4
    · exact q
    · exact absurd ((show nI 4 ≤ nI H.1 ↔ 4 ≤ H.1 from n_le (by omega) (by omega)).mpr (by omega)) c2
theorem p_addL {v : Nat} {y : Int32} (m1 : 1 ≤ H.1) (h4 : H.1 ≤ 4) (l3 : H.2.2.1 (H.1 - 1) ≤ 3) (ev : y = nI v) (R : RCp H σ) (f : FT σ0 σ) (hS : ∀ τ, H.2.2.1 (H.1 - 1) < 3 → FT σ0 τ → RCp (adL H v) τ → τ 28 = σ 28 → K 1 τ) (hN : ¬ H.2.2.1 (H.1 - 1) < 3 → K 0 σ) : w_Ho_addLevel 11 y σ K := by
  subst ev
  unfold w_Ho_addLevel
  intro y ey
  rw [R.1, show (1 : Int32) = nI 1 from rfl, n_sub m1] at ey
  subst ey
  have r := R.2 (H.1 - 1) (by omega)
  rw [nI_c (by omega), r.2.1]
  refine ⟨fun c => absurd c (n_neg _ (by omega)), fun _ => ⟨n_in (by omega) (by omega), fun c => ⟨n_in (by omega) (by omega), n_in (by omega) (by omega), fun t1 q1 => ⟨n_in (by omega) (by omega), ?_⟩⟩, fun c => hN (fun q => c ((show nI (H.2.2.1 (H.1 - 1)) < nI 3 ↔ H.2.2.1 (H.1 - 1) < 3 from n_lt (by omega) (by omega)).mpr q))⟩⟩
  have c3 : H.2.2.1 (H.1 - 1) < 3 := (show nI (H.2.2.1 (H.1 - 1)) < nI 3 ↔ H.2.2.1 (H.1 - 1) < 3 from n_lt (by omega) (by omega)).mp c
  rw [show (1 : Int32) = nI 1 from rfl, nI_add] at q1
  unfold w_Ho_setLevel
  rw [q1, s2_at, ← q1, show (1 : Int32) = nI 1 from rfl, n_sub (by omega), Nat.add_sub_cancel, show (3 : Int32) = nI 3 from rfl, pk_mul, nI_add, nI_c (by omega)]
  refine ⟨n_in (by omega) (by omega), fun t2 q2 => hS t2 c3 ⟨fun c c0 c1 c2 c3 c4 => ?_, fun j hj => ?_⟩ ⟨?_, fun a ha => ⟨?_, ?_, fun k hk2 => ?_⟩⟩ ?_⟩
  · rw [q2, s2_ne c4, q1, s2_ne c3]
    exact f.1 c c0 c1 c2 c3 c4
  · rw [q2, s2_ne (by omega), q1, s2_ne (by omega)]
    exact f.2 j hj
  · rw [q2, s2_ne (by omega), q1, s2_ne (by omega)]
    exact R.1
  · rw [q2, s2_ne (by omega), q1, s2_ne (by omega)]
    exact (R.2 a ha).1
  · show t2 13 a = nI (up H.2.2.1 (H.1 - 1) (H.2.2.1 (H.1 - 1) + 1) a)
    rw [q2, s2_ne (by omega), q1]
    by_cases e : a = H.1 - 1
    · rw [e, up_s, s2_at]
    · rw [up_n e, s2_ai e]
      exact (R.2 a ha).2.1
  · have hk2 : k < up H.2.2.1 (H.1 - 1) (H.2.2.1 (H.1 - 1) + 1) a := hk2
    show t2 14 (3 * a + k) = nI (up H.2.2.2 (3 * (H.1 - 1) + H.2.2.1 (H.1 - 1)) v (3 * a + k))
    rw [q2, s2_eq, q1, s2_ne (by omega)]
    by_cases e : 3 * a + k = 3 * (H.1 - 1) + H.2.2.1 (H.1 - 1)
    · rw [e, up_s, pk_us]
    · rw [up_n e, pk_un e]
      refine (R.2 a ha).2.2 k ?_
      by_cases e2 : a = H.1 - 1
      · rw [e2, up_s] at hk2
        rw [e2] at e ⊢
        omega
      · rw [up_n e2] at hk2
        exact hk2
  · rw [q2, s2_ne (by omega), q1, s2_ne (by omega)]
theorem p_level (m1 : 1 ≤ H.1) (h4 : H.1 ≤ 4) (l3 : H.2.2.1 (H.1 - 1) ≤ 3) (R : RCp H σ) (f : FT σ0 σ) (hS : ∀ τ, isd x → H.2.2.1 (H.1 - 1) < 3 → FT σ0 τ → RCp (adL H (dvl x)) τ → τ 28 1 = nI 4 → K 1 τ) (hN : ∀ τ, ¬ (isd x ∧ H.2.2.1 (H.1 - 1) < 3) → FT σ0 τ → RCp H τ → K 0 τ) : w_Tr_takesLevel x σ K := by
  unfold w_Tr_takesLevel
  intro τ e
  subst e
  have q := isd_iff (x := x)
  unfold w_Lc_isLevelValue
  refine ⟨fun c => cb0 (hN _ (fun d => (q.mp d.1).1 c) f.aw R.aw), fun c => ⟨fun c2 => cb0 (hN _ (fun d => (q.mp d.1).2 c2) f.aw R.aw), fun c2 => cb1 ?_⟩⟩
  have d : isd x := q.mpr ⟨c, c2⟩
  refine p_addL (v := dvl x) m1 h4 l3 (isd_v d).1 R.aw f.aw (fun τ l f2 R2 e28 => cb1 (hS τ d l f2 R2 (by rw [e28, s2_at]; rfl))) (fun l => cb0 (hN _ (fun q => l q.2) f.aw R.aw))
theorem p_addA {k : Nat} (h4 : H.1 < 4) (R : RCp H σ) (f : FT σ0 σ) (hS : ∀ τ, FT σ0 τ → RCp (adA H k) τ → τ 28 = σ 28 → K 1 τ) : w_Ho_addAppliance 11 (nI k) σ K := by
  unfold w_Ho_addAppliance
  rw [R.1, nI_c (by omega)]
  refine ⟨fun _ => ⟨n_in (by omega) (by omega), fun t1 q1 => ?_⟩, fun c => absurd ((show nI H.1 < nI 4 ↔ H.1 < 4 from n_lt (by omega) (by omega)).mpr h4) c⟩
  have u1 : t1 11 4 = nI H.1 := by rw [q1, s2_ne (by omega)]; exact R.1
  rw [u1, nI_c (by omega)]
  refine ⟨n_in (by omega) (by omega), fun t2 q2 t3 q3 => ?_⟩
  have u2 : t2 11 4 = nI H.1 := by rw [q2, s2_ne (by omega)]; exact u1
  rw [u2, show (1 : Int32) = nI 1 from rfl, nI_add] at q3
  refine hS t3 ⟨fun c c0 c1 c2 c3 c4 => ?_, fun j hj => ?_⟩ ⟨?_, fun a ha => ⟨?_, ?_, fun j hj => ?_⟩⟩ ?_
  · rw [q3, s2_ne c1, q2, s2_ne c3, q1, s2_ne c2]
    exact f.1 c c0 c1 c2 c3 c4
  · rw [q3, s2_ai hj, q2, s2_ne (by omega), q1, s2_ne (by omega)]
    exact f.2 j hj
  · rw [q3, s2_at]; rfl
  · have ha : a < H.1 + 1 := ha
    show t3 12 a = nI (up H.2.1 H.1 k a)
    rw [q3, s2_ne (by omega), q2, s2_ne (by omega), q1]
    by_cases e : a = H.1
    · rw [e, up_s, s2_at]
    · rw [up_n e, s2_ai e]; exact (R.2 a (by omega)).1
  · have ha : a < H.1 + 1 := ha
    show t3 13 a = nI (up H.2.2.1 H.1 0 a)
    rw [q3, s2_ne (by omega), q2]
    by_cases e : a = H.1
    · rw [e, up_s, s2_at]; rfl
    · rw [up_n e, s2_ai e, q1, s2_ne (by omega)]; exact (R.2 a (by omega)).2.1
  · have ha : a < H.1 + 1 := ha
    have hj : j < up H.2.2.1 H.1 0 a := hj
    show t3 14 (3 * a + j) = nI (H.2.2.2 (3 * a + j))
    by_cases e : a = H.1
    · rw [e, up_s] at hj
      exact absurd hj (by omega)
    · rw [up_n e] at hj
      rw [q3, s2_ne (by omega), q2, s2_ne (by omega), q1, s2_ne (by omega)]
      exact (R.2 a (by omega)).2.2 j hj
  · rw [q3, s2_ne (by omega), q2, s2_ne (by omega), q1, s2_ne (by omega)]
theorem p_goesOn {aw : Nat} (w : WF aw H) (R : RCp H σ) (ea : σ 28 1 = nI aw) (f : FT σ0 σ) (hS : ∀ aw' H' τ, pst aw x H = some (aw', H') → FT σ0 τ → RCp H' τ → τ 28 1 = nI aw' → WF aw' H' → K 1 τ) (hN : ∀ τ, pst aw x H = none → FT σ0 τ → K 0 τ) : w_Tr_goesOn x σ K := by
  obtain ⟨w1, w2, w3, w4, w5, w6, w7⟩ := id w
  unfold w_Tr_goesOn
  rw [ea]
  have n0 : aw ≠ 0 → ¬ nI aw = 0 := fun q e => q ((n_eq0 (by omega)).mp e)
  have nk : ∀ k, k < 5 → nI aw = nI k → aw = k := fun k hk5 e => (n_eq (by omega) (by omega)).mp e
  refine ⟨fun c => ?_, fun c => ?_, fun c => ?_, fun c => ?_, fun c0 c1 c2 c3 => ?_⟩
  · have e : aw = 0 := nk 0 (by omega) c
    subst e
    unfold w_Tr_takesOpening
    intro τ e
    subst e
    refine ⟨fun c => ⟨bz0, hN _ ?_ f.aw⟩, fun c => ⟨bz1, hS 1 H _ ?_ f.aw R.aw (by rw [s2_at]; rfl) ?_⟩⟩
    · unfold pst; rw [if_pos rfl, if_neg c]
    · unfold pst; rw [if_pos rfl, if_pos c]
    · have m0 := w3 (by omega)
      exact ⟨by omega, w2, fun _ => m0, fun e => absurd e (by omega), fun e => absurd e (by omega), fun e => absurd e (by omega), fun a ha _ => absurd ha (by omega)⟩
  · have e : aw = 1 := nk 1 (by omega) c
    subst e
    refine p_mark w2 R f (fun τ c1 c2 f2 R2 e2 => ⟨bz1, hS 2 H τ ?_ f2 R2 e2 (WF_M w (Or.inl rfl) c2)⟩) (fun τ c f2 => ⟨bz0, hN τ ?_ f2⟩)
    · unfold pst; rw [if_neg (by omega), if_pos rfl, if_pos ⟨c1, c2⟩]
    · unfold pst; rw [if_neg (by omega), if_pos rfl, if_neg c]
  · have e : aw = 2 := nk 2 (by omega) c
    subst e
    have m4 := w4 rfl
    unfold w_Tr_takesKind
    intro τ e
    subst e
    have go : ∀ k : Nat, kdc x = k → k ≤ 2 → w_Ho_addAppliance 11 (nI k) (s2 σ 28 1 3) (fun u τ => bz u ∧ (bz u ∧ K u τ)) := fun k ek k2 => by
      refine p_addA m4 R.aw f.aw (fun τ f2 R2 e2 => ⟨bz1, bz1, hS 3 (adA H k) τ ?_ f2 R2 (by rw [e2, s2_at]; rfl) (WF_A w k2)⟩)
      unfold pst
      rw [if_neg (by omega), if_neg (by omega), if_pos rfl, if_neg (by omega), ek]
    refine ⟨fun c => go 2 ?_ (by omega), fun c => go 1 ?_ (by omega), fun c => go 0 ?_ (by omega), fun c1 c2 c3 => ⟨bz0, hN _ ?_ f.aw⟩⟩
    · subst c; rfl
    · subst c; rfl
    · subst c; rfl
    · unfold pst
      rw [if_neg (by omega), if_neg (by omega), if_pos rfl, if_pos]
      unfold kdc
      rw [if_neg c3, if_neg c2, if_neg c1]
  · have e : aw = 3 := nk 3 (by omega) c
    subst e
    obtain ⟨m1, k2, l0⟩ := w5 rfl
    refine p_level m1 w2 (by omega) R f (fun τ d l f2 R2 e2 => ⟨bz1, hS 4 (adL H (dvl x)) τ ?_ f2 R2 e2 (WF_L w (Or.inl rfl) (isd_v d).2.1 (isd_v d).2.2)⟩) (fun τ d f2 R2 => ⟨bz0, hN τ ?_ f2⟩)
    · unfold pst; rw [if_neg (by omega), if_neg (by omega), if_neg (by omega), if_pos rfl, if_pos d]
    · unfold pst; rw [if_neg (by omega), if_neg (by omega), if_neg (by omega), if_pos rfl, if_neg (fun q => d ⟨q, by omega⟩)]
  · have e : aw = 4 := by
      have h0 : aw ≠ 0 := fun e => c0 (by rw [e]; rfl)
      have h1 : aw ≠ 1 := fun e => c1 (by rw [e]; rfl)
      have h2 : aw ≠ 2 := fun e => c2 (by rw [e]; rfl)
      have h3 : aw ≠ 3 := fun e => c3 (by rw [e]; rfl)
      omega
    subst e
    have m1 := w6 rfl
    have l3 := (w7 (H.1 - 1) (by omega) (fun q => absurd q (by omega))).2.2.1
    refine p_level m1 w2 l3 R f (fun τ d l f2 R2 e2 => ca1 (hS 4 (adL H (dvl x)) τ ?_ f2 R2 e2 (WF_L w (Or.inr ⟨rfl, l⟩) (isd_v d).2.1 (isd_v d).2.2))) (fun τ d f2 R2 => ca0 (p_mark w2 R2 f2 (fun τ2 c1 c2 f3 R3 e3 => cb1 (hS 2 H τ2 ?_ f3 R3 e3 (WF_M w (Or.inr rfl) c2))) (fun τ2 c f3 => cb0 (hN τ2 ?_ f3))))
    · unfold pst; rw [if_neg (by omega), if_neg (by omega), if_neg (by omega), if_neg (by omega), if_pos ⟨d, l⟩]
    · unfold pst; rw [if_neg (by omega), if_neg (by omega), if_neg (by omega), if_neg (by omega), if_neg d, if_pos ⟨c1, c2⟩]
    · unfold pst; rw [if_neg (by omega), if_neg (by omega), if_neg (by omega), if_neg (by omega), if_neg d, if_neg c]
end TR
theorem p_firstFault {o1 a n : Nat} {σ0 : Sg} {K : Int32 → Sg → Prop} {c : Nat → Int32} (ho : o1 + 1 ≠ 11 ∧ o1 + 1 ≠ 12 ∧ o1 + 1 ≠ 13 ∧ o1 + 1 ≠ 14 ∧ o1 + 1 ≠ 28) (han : a + n ≤ 60) (hc : ∀ j, j < n → σ0 (o1 + 1) (a + j) = c j)
    (hS : ∀ τ H, psr c n 0 0 (0, (fun _ => 0), (fun _ => 0), (fun _ => 0)) = Sum.inr H → FT σ0 τ → RCp H τ → WF 4 H → K (-9) τ) (hN : ∀ τ e, psr c n 0 0 (0, (fun _ => 0), (fun _ => 0), (fun _ => 0)) = Sum.inl e → e ≤ n → FT σ0 τ → K (nI e) τ) : w_Tr_firstFault o1 (nI a) (nI n) σ0 K := by
  have key : ∀ r i aw H (σ : Sg), i + r = n → WF aw H → RCp H σ → σ 28 1 = nI aw → FT σ0 σ → psr c n 0 0 (0, (fun _ => 0), (fun _ => 0), (fun _ => 0)) = psr c r i aw H → L_Tr_firstFault_16 o1 (nI a) (nI n) K (r + 1) (nI i) σ := by
    intro r
    induction r with
    | zero =>
      intro i aw H σ hi w R ea f e
      have : i = n := by omega
      subst this
      unfold L_Tr_firstFault_16
      rw [ea]
      refine ⟨fun _ => ⟨fun q => hN σ i ?_ (Nat.le_refl _) f, fun q => ?_⟩, fun q => absurd ((n_le (by omega) (by omega)).mpr (Nat.le_refl _)) q⟩
      · rw [e]
        exact if_neg (fun e4 => q (by rw [e4]; rfl))
      · have e4 : aw = 4 := (n_eq (by have := w.1; omega) (by omega)).mp q
        refine hS σ H ?_ f R (e4 ▸ w)
        rw [e]
        exact if_pos e4
    | succ r ih =>
      intro i aw H σ hi w R ea f e
      unfold L_Tr_firstFault_16
      rw [nI_add a i, show (nI (a + i)).toNatClampNeg = a + i from nI_c (by omega), f.1 (o1 + 1) (by omega) (by omega) (by omega) (by omega) (by omega), hc i (by omega)]
      refine ⟨fun q => absurd ((n_le (by omega) (by omega)).mp q) (by omega), fun _ => ⟨n_in (by omega) (by omega), p_goesOn w R ea f (fun aw' H' τ ep f2 R2 e2 w2 => ca1 ?_) (fun τ ep f2 => ca0 (hN τ i (by rw [e, psr_none ep]) (by omega) f2))⟩⟩
      rw [show (1 : Int32) = nI 1 from rfl, nI_add i 1]
      exact ih (i + 1) aw' H' τ (by omega) w2 R2 e2 f2 (by rw [e, psr_some ep])
  unfold w_Tr_firstFault
  intro τ1 e1 τ2 e2
  refine ⟨n + 1, key n 0 0 _ τ2 (by omega) ⟨by omega, by show 0 ≤ 4; omega, fun _ => rfl, fun e => absurd e (by omega), fun e => absurd e (by omega), fun e => absurd e (by omega), fun b hb' _ => absurd hb' (Nat.not_lt_zero _)⟩ ⟨?_, fun b hb' => absurd hb' (Nat.not_lt_zero _)⟩ (by rw [e2, s2_at]; rfl) ⟨fun c c0 c1 _ _ _ => ?_, fun j hj => ?_⟩ rfl⟩
  · rw [e2, s2_ne (by omega), e1, s2_at]; rfl
  · rw [e2, s2_ne c0, e1, s2_ne c1]
  · rw [e2, s2_ne (by omega), e1, s2_ai hj]
