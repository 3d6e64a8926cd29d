theorem kd2 {c : Nat} (h : kd c = 2) : c = 1 ∨ c = 6 ∨ c = 11 := by
  have : ∀ c, c < 67 → kd c = 2 → c = 1 ∨ c = 6 ∨ c = 11 := by decide +kernel
  exact this c (kd_lt (by rw [h]; decide)) h
theorem kd0 {c : Nat} (h : kd c = 0) : c = 16 ∨ c = 19 := by
  have : ∀ c, c < 67 → kd c = 0 → c = 16 ∨ c = 19 := by decide +kernel
  exact this c (kd_lt (by rw [h]; decide)) h
theorem i_ss (x y z : Int32) : x - y - z = x - (y + z) := by
  first
    | exact Int32.sub_sub x y z
    | (rw [Int32.sub_eq_add_neg, Int32.sub_eq_add_neg, Int32.sub_eq_add_neg, Int32.neg_add, Int32.add_assoc])
    | grind
def su1 (r q a : Nat) : Nat := if dg r a = 0 ∧ dg q a ≠ 0 then 1 else 0
def s4 (r q : Nat) : Nat := su1 r q 0 + su1 r q 1 + su1 r q 2 + su1 r q 3
def sdv (D : Dt) : Nat → Nat
  | 0 => 0
  | n + 1 => sdv D n + dv D n
def sv (h : Hh) : Nat → Nat
  | 0 => 0
  | n + 1 => sv h n + hv h n
def en (D : Dt) (p : Nat → Nat) (a : Nat) : Nat → Nat
  | 0 => 0
  | n + 1 => en D p a n + dp D a (dg (p n) a)
def pe (D : Dt) (p : Nat → Nat) : Nat → Nat
  | 0 => 0
  | n + 1 => pe D p n + PP D (p n)
def sgn (p : Nat → Nat) : Nat → Nat
  | 0 => 0
  | n + 1 => sgn p n + s4 (pv p n) (p n)
def pu (D : Dt) (r : Nat) : Nat → Nat
  | 0 => 0
  | i + 1 => pu D r i + dp D i (dg r i)
def cu (r q : Nat) : Nat → Nat
  | 0 => 0
  | i + 1 => cu r q i + c1 r q i
def su (r q : Nat) : Nat → Nat
  | 0 => 0
  | i + 1 => su r q i + su1 r q i
section DU
variable {D : Dt}
theorem dg_off (hD : DOk D) {r a : Nat} (hr : vr D r) (ha : dm D ≤ a) : dg r a = 0 := by
  rcases Nat.lt_or_ge a 4 with g | g
  · have := hr.2 a g
    rw [hD.2.2.2.1 a ha] at this
    omega
  · match a, g with
    | n + 4, _ => rfl
theorem pu_m (hD : DOk D) {r : Nat} (hr : vr D r) : pu D r (dm D) = PP D r := by
  have h0 := hD.2.2.2.2.1
  have e : ∀ a, dm D ≤ a → dp D a (dg r a) = 0 := fun a ha => by rw [dg_off hD hr ha, h0]
  have hm := hD.1
  unfold PP
  generalize hmm : dm D = m at hm e
  match m, hm with
  | 0, _ => simp only [pu, e 0 (by omega), e 1 (by omega), e 2 (by omega), e 3 (by omega)]
  | 1, _ => simp only [pu, e 1 (by omega), e 2 (by omega), e 3 (by omega)]; omega
  | 2, _ => simp only [pu, e 2 (by omega), e 3 (by omega)]; omega
  | 3, _ => simp only [pu, e 3 (by omega)]; omega
  | 4, _ => simp only [pu]; omega
  | n + 5, h => exact absurd h (by omega)
theorem cu_m (hD : DOk D) {r q : Nat} (hr : vr D r) (hq : vr D q) : cu r q (dm D) = ch r q := by
  have e : ∀ a, dm D ≤ a → c1 r q a = 0 := fun a ha => by unfold c1; rw [dg_off hD hr ha, dg_off hD hq ha, if_pos rfl]
  have hm := hD.1
  unfold ch
  generalize hmm : dm D = m at hm e
  match m, hm with
  | 0, _ => simp only [cu, e 0 (by omega), e 1 (by omega), e 2 (by omega), e 3 (by omega)]
  | 1, _ => simp only [cu, e 1 (by omega), e 2 (by omega), e 3 (by omega)]; omega
  | 2, _ => simp only [cu, e 2 (by omega), e 3 (by omega)]; omega
  | 3, _ => simp only [cu, e 3 (by omega)]; omega
  | 4, _ => simp only [cu]; omega
  | n + 5, h => exact absurd h (by omega)
theorem su_m (hD : DOk D) {r q : Nat} (hr : vr D r) (hq : vr D q) : su r q (dm D) = s4 r q := by
  have e : ∀ a, dm D ≤ a → su1 r q a = 0 := fun a ha => by unfold su1; rw [dg_off hD hr ha, dg_off hD hq ha, if_neg (fun g => g.2 rfl)]
  have hm := hD.1
  unfold s4
  generalize hmm : dm D = m at hm e
  match m, hm with
  | 0, _ => simp only [su, e 0 (by omega), e 1 (by omega), e 2 (by omega), e 3 (by omega)]
  | 1, _ => simp only [su, e 1 (by omega), e 2 (by omega), e 3 (by omega)]; omega
  | 2, _ => simp only [su, e 2 (by omega), e 3 (by omega)]; omega
  | 3, _ => simp only [su, e 3 (by omega)]; omega
  | 4, _ => simp only [su]; omega
  | n + 5, h => exact absurd h (by omega)
theorem en_congr {p q : Nat → Nat} {a : Nat} : ∀ {n : Nat}, (∀ s, s < n → p s = q s) → en D p a n = en D q a n
  | 0, _ => rfl
  | n + 1, h => by simp only [en, en_congr (n := n) (fun s hs => h s (by omega)), h n (by omega)]
theorem pe_congr {p q : Nat → Nat} : ∀ {n : Nat}, (∀ s, s < n → p s = q s) → pe D p n = pe D q n
  | 0, _ => rfl
  | n + 1, h => by simp only [pe, pe_congr (n := n) (fun s hs => h s (by omega)), h n (by omega)]
theorem cg_congr {p q : Nat → Nat} : ∀ {n : Nat}, (∀ s, s < n → p s = q s) → cg n p = cg n q
  | 0, _ => rfl
  | n + 1, h => by simp only [cg, cg_congr (n := n) (fun s hs => h s (by omega)), h n (by omega), pv_congr (p := p) (q := q) (t := n) (fun s hs => h s (by omega))]
theorem sgn_congr {p q : Nat → Nat} : ∀ {n : Nat}, (∀ s, s < n → p s = q s) → sgn p n = sgn q n
  | 0, _ => rfl
  | n + 1, h => by simp only [sgn, sgn_congr (n := n) (fun s hs => h s (by omega)), h n (by omega), pv_congr (p := p) (q := q) (t := n) (fun s hs => h s (by omega))]
theorem re_congr {p q : Nat → Nat} : ∀ {n : Nat}, (∀ s, s < n → p s = q s) → re D n p = re D n q
  | 0, _ => rfl
  | n + 1, h => by simp only [re, re_congr (n := n) (fun s hs => h s (by omega)), h n (by omega)]
theorem pe_re {p : Nat → Nat} : ∀ {n : Nat}, fe D n p → pe D p n + re D n p = sdv D n
  | 0, _ => rfl
  | n + 1, h => by
    have h1 := pe_re (n := n) (fe_mono h (by omega))
    have h2 := (h n (by omega)).2
    simp only [pe, re, sdv]
    omega
theorem en_le (hD : DOk D) (p : Nat → Nat) (a : Nat) : ∀ n, en D p a n ≤ 18 * n
  | 0 => by simp [en]
  | n + 1 => by
    have h1 := en_le hD p a n
    have h2 := hD.2.2.2.2.2.1 a (dg (p n) a)
    simp only [en]; omega
theorem pe_le (hD : DOk D) (p : Nat → Nat) : ∀ n, pe D p n ≤ 72 * n
  | 0 => by simp [pe]
  | n + 1 => by
    have h1 := pe_le hD p n
    have h2 := PP_le hD (p n)
    simp only [pe]; omega
theorem sdv_le (hD : DOk D) : ∀ n, sdv D n ≤ 99 * n
  | 0 => by simp [sdv]
  | n + 1 => by
    have h1 := sdv_le hD n
    have h2 := hD.2.2.2.2.2.2.2 n
    simp only [sdv]; omega
theorem s4_le (r q : Nat) : s4 r q ≤ 4 := by
  have h : ∀ a, su1 r q a ≤ 1 := fun a => by unfold su1; split <;> omega
  have h0 := h 0
  have h1 := h 1
  have h2 := h 2
  have h3 := h 3
  unfold s4; omega
theorem sgn_le (p : Nat → Nat) : ∀ n, sgn p n ≤ 4 * n
  | 0 => by simp [sgn]
  | n + 1 => by
    have h1 := sgn_le p n
    have h2 := s4_le (pv p n) (p n)
    simp only [sgn]; omega
end DU
theorem sv_sdv {h : Hh} (ok : HOk h) : ∀ n, n ≤ hT h → sv h n = sdv (Dh h) n + n * hb h
  | 0, _ => by simp [sv, sdv]
  | n + 1, hn => by
    have h1 := sv_sdv ok n (by omega)
    have h2 := (ok.2.2.2.2 n (by omega)).1
    simp only [sv, sdv, dv_h (show n < hT h by omega), Nat.add_mul]
    omega
theorem sv_le {h : Hh} (ok : HOk h) : ∀ n, n ≤ hT h → sv h n ≤ 99 * n
  | 0, _ => by simp [sv]
  | n + 1, hn => by
    have h1 := sv_le ok n (by omega)
    have h2 := (ok.2.2.2.2 n (by omega)).2
    simp only [sv]; omega
theorem p_Ho_allValues {o : Nat} {h : Hh} {σ : Sg} {K : Int32 → Prop} (ok : HOk h) (R : RC' o h σ) (hK : K (nI (sv h (hT h)))) : w_Ho_allValues o σ K := by
  have hT20 := ok.2.2.1
  have key : ∀ n i, i + n = hT h → L_Ho_allValues_4 o σ K (n + 1) (nI (sv h i)) (nI i) := by
    intro n
    induction n with
    | zero =>
      intro i hi
      have : i = hT h := by omega
      subst this
      unfold L_Ho_allValues_4
      rw [R.2.1]
      exact ⟨fun _ => hK, fun g => absurd ((n_le (by omega) (by omega)).mpr (Nat.le_refl _)) g⟩
    | succ n ih =>
      intro i hi
      unfold L_Ho_allValues_4
      rw [R.2.1, nI_c (by omega), R.2.2.2.2 i (by omega), nI_add]
      refine ⟨fun g => absurd ((n_le (by omega) (by omega)).mp g) (by omega), fun _ => ⟨n_in (by omega) (by omega), fun y hy => ?_⟩⟩
      rw [hy, show (1 : Int32) = nI 1 from rfl, nI_add]
      exact ih (i + 1) (by omega)
  unfold w_Ho_allValues
  exact ⟨hT h + 1, key (hT h) 0 (by omega)⟩
/-- what is done, as far as told: t times whole, of time t the first i appliances -/
def DS (o : Nat) (h : Hh) (p : Nat → Nat) (t i : Nat) (σ : Sg) : Prop :=
  (∀ s a, s < t → a < hm h → σ (o + 1) (4 * s + a) = nI (dg (p s) a)) ∧ (∀ a, a < i → σ (o + 1) (4 * t + a) = nI (dg (p t) a)) ∧
  (∀ a, a < hm h → σ (o + 2) a = nI (en (Dh h) p a t + if a < i then dp (Dh h) a (dg (p t) a) else 0)) ∧
  σ o 2 = nI (pe (Dh h) p t + pu (Dh h) (p t) i) ∧ σ o 3 = nI (sdv (Dh h) (hT h)) - nI (pe (Dh h) p t + pu (Dh h) (p t) i) ∧
  σ o 4 = nI (cg t p + cu (pv p t) (p t) i) ∧ σ o 5 = nI (sgn p t + su (pv p t) (p t) i)
theorem p_Do_begin {o o1 : Nat} {h : Hh} {σ : Sg} {K : Sg → Prop} {p : Nat → Nat} (ok : HOk h) (ho : kd o = 0) (ho1 : kd o1 = 2) (R : RC' o1 h σ) (hK : ∀ τ : Sg, (∀ c, c ≠ o → c ≠ o + 1 → c ≠ o + 2 → τ c = σ c) → DS o h p 0 0 τ → K τ) : w_Do_begin o o1 σ K := by
  have hD := Dh_ok ok
  have hm4 := ok.1
  have hT20 := ok.2.2.1
  have hb99 := ok.2.2.2.1
  have hne : ∀ j, j < 5 → ∀ k, k < 3 → o1 + j ≠ o + k := by
    have := kd2 ho1
    have := kd0 ho
    omega
  have hR : ∀ τ : Sg, (∀ c, c ≠ o → c ≠ o + 1 → c ≠ o + 2 → τ c = σ c) → RC' o1 h τ := fun τ e => by
    have q : ∀ j, j < 5 → τ (o1 + j) = σ (o1 + j) := fun j hj => e _ (hne j hj 0 (by omega)) (hne j hj 1 (by omega)) (hne j hj 2 (by omega))
    exact R.of (q 0 (by omega)) (q 1 (by omega)) (q 2 (by omega)) (q 3 (by omega)) (q 4 (by omega))
  have hia : ia (o + 2) 4 := k0_2 ho
  have hln : ln (o + 2) = 4 := hia.2
  unfold w_Do_begin
  refine p_fill (by omega) (fun τ f1 f2 f3 τ10 e10 => ?_)
  have fr10 : ∀ c, c ≠ o → c ≠ o + 1 → c ≠ o + 2 → τ10 c = σ c := fun c c1 c2 c3 => by rw [e10, s2_ne c1]; exact f1 c c3
  refine p_Ho_allValues ok (hR τ10 fr10) ?_
  intro τ28 e28 τ33 e33 τ38 e38
  have R10 := hR τ10 fr10
  rw [R10.2.1, R10.2.2.1, pk_mul] at e28
  have hsum := sv_sdv ok (hT h) (Nat.le_refl _)
  rw [n_sub (by omega), show sv h (hT h) - hT h * hb h = sdv (Dh h) (hT h) by omega] at e28
  subst e38; subst e33; subst e28; subst e10
  refine hK _ (fun c c1 c2 c3 => ?_) ⟨fun s a hs => absurd hs (by omega), fun a ha => absurd ha (by omega), fun a ha => ?_, ?_, ?_, ?_, ?_⟩
  · rw [s2_ne c1, s2_ne c1, s2_ne c1, s2_ne c1]; exact f1 c c3
  · rw [s2_ne (by omega), s2_ne (by omega), s2_ne (by omega), s2_ne (by omega), f2 a (by omega), if_neg (by omega)]
    rfl
  · rw [s2_ai (by omega), s2_ai (by omega), s2_ai (by omega), s2_at]
    rfl
  · rw [s2_ai (by omega), s2_ai (by omega), s2_at]
    show nI _ = nI _ - nI 0
    rw [n_sub (by omega)]
    rfl
  · rw [s2_ai (by omega), s2_at]
    rfl
  · rw [s2_at]
    rfl
