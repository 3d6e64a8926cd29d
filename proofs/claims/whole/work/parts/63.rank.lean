def cnt (P : Nat → Bool) : Nat → Nat
  | 0 => 0
  | n + 1 => cnt P n + (if P n = true then 1 else 0)
def qe (rc : Nat → Bool) (κ : Nat → Nat) (x : Nat) : Nat → Bool := fun q => rc q && decide (κ q = x)
def ql (rc : Nat → Bool) (κ : Nat → Nat) (x : Nat) : Nat → Bool := fun q => rc q && decide (κ q < x)
theorem cnt_le (P : Nat → Bool) : ∀ n, cnt P n ≤ n
  | 0 => Nat.le_refl _
  | n + 1 => by
    have := cnt_le P n
    simp only [cnt]
    split <;> omega
theorem cnt_mono (P : Nat → Bool) {i : Nat} : ∀ {j : Nat}, i ≤ j → cnt P i ≤ cnt P j
  | 0, h => by rw [show i = 0 by omega]; exact Nat.le_refl _
  | j + 1, h => by
    rcases Nat.eq_or_lt_of_le h with e | e
    · rw [e]; exact Nat.le_refl _
    · have := cnt_mono P (i := i) (j := j) (by omega)
      simp only [cnt]
      omega
theorem cnt_q (rc : Nat → Bool) (κ : Nat → Nat) (x : Nat) : ∀ n, cnt (ql rc κ (x + 1)) n = cnt (ql rc κ x) n + cnt (qe rc κ x) n
  | 0 => rfl
  | n + 1 => by
    have ih := cnt_q rc κ x n
    simp only [cnt, ih]
    have : (if ql rc κ (x + 1) n = true then 1 else 0 : Nat) = (if ql rc κ x n = true then 1 else 0) + (if qe rc κ x n = true then 1 else 0) := by
      unfold ql qe
      cases rc n with
      | false => simp
      | true =>
        simp only [Bool.true_and, decide_eq_true_eq]
        by_cases h1 : κ n < x
        · rw [if_pos (by omega), if_pos h1, if_neg (by omega)]
        · by_cases h2 : κ n = x
          · rw [if_pos (by omega), if_neg h1, if_pos h2]
          · rw [if_neg (by omega), if_neg h1, if_neg h2]
    omega
theorem cnt_q0 (rc : Nat → Bool) (κ : Nat → Nat) : ∀ n, cnt (ql rc κ 0) n = 0
  | 0 => rfl
  | n + 1 => by
    simp only [cnt, cnt_q0 rc κ n]
    unfold ql
    simp
theorem cnt_qm (rc : Nat → Bool) (κ : Nat → Nat) {x : Nat} : ∀ {y : Nat}, x ≤ y → cnt (ql rc κ x) 256 ≤ cnt (ql rc κ y) 256
  | 0, h => by rw [show x = 0 by omega]; exact Nat.le_refl _
  | y + 1, h => by
    rcases Nat.eq_or_lt_of_le h with e | e
    · rw [e]; exact Nat.le_refl _
    · have := cnt_qm rc κ (x := x) (y := y) (by omega)
      rw [cnt_q]
      omega
/-- the rank that is given -/
def rk (rc : Nat → Bool) (κ : Nat → Nat) (q : Nat) : Nat := cnt (ql rc κ (κ q)) 256 + cnt (qe rc κ (κ q)) q
theorem rk_up {rc : Nat → Bool} {κ : Nat → Nat} {q : Nat} (h : rc q = true) (hq : q < 256) : rk rc κ q < cnt (ql rc κ (κ q + 1)) 256 := by
  have h1 : cnt (qe rc κ (κ q)) (q + 1) = cnt (qe rc κ (κ q)) q + 1 := by
    simp only [cnt]
    rw [if_pos (by unfold qe; rw [h]; simp)]
  have h2 := cnt_mono (qe rc κ (κ q)) (i := q + 1) (j := 256) (by omega)
  rw [cnt_q]
  unfold rk
  omega
theorem rk_lt {rc : Nat → Bool} {κ : Nat → Nat} {q : Nat} (h : rc q = true) (hq : q < 256) : rk rc κ q < 256 := by
  have h1 := rk_up (κ := κ) h hq
  have h2 := cnt_le (ql rc κ (κ q + 1)) 256
  omega
theorem rk_ord {rc : Nat → Bool} {κ : Nat → Nat} {r q : Nat} (hr : rc r = true) (hq : rc q = true) (hr2 : r < 256) (hq2 : q < 256) : rk rc κ r < rk rc κ q ↔ κ r < κ q ∨ (κ r = κ q ∧ r < q) := by
  have up : ∀ {a b : Nat}, rc a = true → a < 256 → κ a < κ b → rk rc κ a < rk rc κ b := fun {a b} ha ha2 hlt => by
    have h1 := rk_up (κ := κ) ha ha2
    have h2 := cnt_qm rc κ (x := κ a + 1) (y := κ b) (by omega)
    have h3 : cnt (ql rc κ (κ b)) 256 ≤ rk rc κ b := by unfold rk; omega
    omega
  have eq : ∀ {a b : Nat}, rc a = true → κ a = κ b → a < b → rk rc κ a < rk rc κ b := fun {a b} ha he hlt => by
    have h1 : cnt (qe rc κ (κ a)) (a + 1) = cnt (qe rc κ (κ a)) a + 1 := by
      simp only [cnt]
      rw [if_pos (by unfold qe; rw [ha]; simp)]
    have h2 := cnt_mono (qe rc κ (κ a)) (i := a + 1) (j := b) (by omega)
    unfold rk
    rw [← he]
    omega
  constructor
  · intro h
    rcases Nat.lt_trichotomy (κ r) (κ q) with g | g | g
    · exact Or.inl g
    · refine Or.inr ⟨g, ?_⟩
      rcases Nat.lt_trichotomy r q with e | e | e
      · exact e
      · subst e; omega
      · have := eq hq g.symm e; omega
    · have := up hq hq2 g; omega
  · rintro (g | ⟨g, e⟩)
    · exact up hr hr2 g
    · exact eq hr g e
/-- what rankAll reads -/
def RK (n : Nat) (rc : Nat → Bool) (κ : Nat → Nat) (σ : Sg) : Prop := ∀ q, q < 256 → (rc q = true → σ 58 q ≠ -9 ∧ ∃ f, f < 256 ∧ σ 61 (256 * n + q) = nI f ∧ σ 57 f = nI (κ q) ∧ κ q < 256) ∧ (rc q = false → σ 58 q = -9)
theorem p_rankAll {K : Sg → Prop} {n : Nat} {rc : Nat → Bool} {κ : Nat → Nat} {σ0 : Sg} (hn : n < 20) (H : RK n rc κ σ0) (hK : ∀ τ : Sg, (∀ c, c ≠ 59 → c ≠ 60 → τ c = σ0 c) → (∀ q, q < 256 → rc q = true → τ 59 q = nI (rk rc κ q)) → K τ) : w_Md_rankAll (nI n) σ0 K := by
  have e256 : ∀ q : Nat, (256 : Int32) * nI n + nI q = nI (256 * n + q) := fun q => by rw [show (256 : Int32) = nI 256 from rfl, pk_mul, nI_add]
  have hcl : ∀ P j, j ≤ 256 → cnt P j ≤ 256 := fun P j hj => by have := cnt_le P j; omega
  -- the last loop
  have k4 : ∀ m i (σ : Sg), i + m = 256 → (∀ c, c ≠ 59 → c ≠ 60 → σ c = σ0 c) → (∀ q, q < i → rc q = true → σ 59 q = nI (rk rc κ q)) → (∀ x, x < 256 → σ 60 x = nI (cnt (ql rc κ x) 256 + cnt (qe rc κ x) i)) → L_Md_rankAll_110 (nI n) K (m + 1) (nI i) σ := by
    intro m
    induction m with
    | zero =>
      intro i σ hi h1 h2 h3
      have : i = 256 := by omega
      subst this
      unfold L_Md_rankAll_110
      exact ⟨fun _ => hK σ h1 h2, fun g => absurd (show (256 : Int32) ≤ nI 256 by decide) g⟩
    | succ m ih =>
      intro i σ hi h1 h2 h3
      unfold L_Md_rankAll_110
      refine ⟨fun g => absurd (show 256 ≤ i from (n_le (by omega) (by omega)).mp g) (by omega), fun _ => ⟨n_in (by omega) (by omega), ?_⟩⟩
      rw [nI_c (n := i) (by omega), h1 58 (by omega) (by omega), e256, nI_c (n := 256 * n + i) (by omega), h1 61 (by omega) (by omega), show (1 : Int32) = nI 1 from rfl, nI_add]
      obtain ⟨H1, H2⟩ := H i (by omega)
      cases hrc : rc i with
      | false =>
        refine ⟨fun _ => ih (i + 1) σ (by omega) h1 (fun q hq hr => ?_) (fun x hx => ?_), fun g => absurd (H2 hrc) g⟩
        · by_cases e : q = i
          · subst e; rw [hrc] at hr; cases hr
          · exact h2 q (by omega) hr
        · rw [h3 x hx]
          have : cnt (qe rc κ x) (i + 1) = cnt (qe rc κ x) i := by
            simp only [cnt]
            rw [if_neg (by unfold qe; rw [hrc]; simp)]
            rfl
          rw [this]
      | true =>
        obtain ⟨hne, f, hf, ef, ek, hk⟩ := H1 hrc
        refine ⟨fun g => absurd g hne, fun _ => ?_⟩
        rw [ef, nI_c (n := f) (by omega), h1 57 (by omega) (by omega), ek]
        refine ⟨n_in (by omega) (by omega), n_in (by omega) (by omega), fun y hy => ?_⟩
        subst hy
        rw [nI_c (n := κ i) (by omega)]
        refine ⟨n_in (by omega) (by omega), n_in (by omega) (by omega), fun τ e1 => ⟨n_in (by omega) (by omega), n_in (by omega) (by omega), fun τ2 e2 => ?_⟩⟩
        subst e2; subst e1
        refine ih (i + 1) _ (by omega) (fun c c1 c2 => by rw [s2_ne c2, s2_ne c1]; exact h1 c c1 c2) (fun q hq hr => ?_) (fun x hx => ?_)
        · rw [s2_ne (by omega)]
          by_cases e : q = i
          · subst e
            rw [s2_at, h3 _ hk]
            rfl
          · rw [s2_ai e]; exact h2 q (by omega) hr
        · have hc : cnt (qe rc κ x) (i + 1) = cnt (qe rc κ x) i + if x = κ i then 1 else 0 := by
            simp only [cnt]
            unfold qe
            rw [hrc]
            by_cases e : x = κ i
            · rw [if_pos e, if_pos (by simp [e])]
            · rw [if_neg e, if_neg (by simp; exact fun q => e q.symm)]
          by_cases e : x = κ i
          · subst e
            rw [s2_at, s2_ne (by omega), h3 _ hx, hc, if_pos rfl, nI_add, Nat.add_assoc]
          · rw [s2_ai e, s2_ne (by omega), h3 x hx, hc, if_neg e]
            rfl
  have k3 : ∀ m i (σ : Sg), i + m = 256 → (∀ c, c ≠ 59 → c ≠ 60 → σ c = σ0 c) → (∀ x, x ≤ i → σ 60 x = nI (cnt (ql rc κ x) 256)) → (∀ x, i < x → x ≤ 256 → σ 60 x = nI (cnt (qe rc κ (x - 1)) 256)) → L_Md_rankAll_78 (nI n) K (m + 1) (nI i) σ := by
    intro m
    induction m with
    | zero =>
      intro i σ hi h1 h2 h3
      have : i = 256 := by omega
      subst this
      unfold L_Md_rankAll_78
      refine ⟨fun _ => ⟨257, k4 256 0 σ (by omega) h1 (fun q hq => absurd hq (by omega)) (fun x hx => ?_)⟩, fun g => absurd (show (256 : Int32) ≤ nI 256 by decide) g⟩
      rw [h2 x (by omega), show cnt (qe rc κ x) 0 = 0 from rfl, Nat.add_zero]
    | succ m ih =>
      intro i σ hi h1 h2 h3
      unfold L_Md_rankAll_78
      rw [show (1 : Int32) = nI 1 from rfl, nI_add, nI_c (n := i) (by omega), nI_c (n := i + 1) (by omega)]
      refine ⟨fun g => absurd (show 256 ≤ i from (n_le (by omega) (by omega)).mp g) (by omega), fun _ => ⟨n_in (by omega) (by omega), n_in (by omega) (by omega), n_in (by omega) (by omega), fun τ e => ?_⟩⟩
      subst e
      refine ih (i + 1) _ (by omega) (fun c c1 c2 => by rw [s2_ne c2]; exact h1 c c1 c2) (fun x hx => ?_) (fun x hx1 hx2 => ?_)
      · by_cases e : x = i + 1
        · subst e
          rw [s2_at, h3 _ (by omega) (by omega), h2 i (by omega), nI_add, cnt_q, Nat.add_comm]
          rfl
        · rw [s2_ai e]; exact h2 x (by omega)
      · rw [s2_ai (by omega)]; exact h3 x (by omega) hx2
  have k2 : ∀ m i (σ : Sg), i + m = 256 → (∀ c, c ≠ 59 → c ≠ 60 → σ c = σ0 c) → σ 60 0 = nI 0 → (∀ x, x < 256 → σ 60 (x + 1) = nI (cnt (qe rc κ x) i)) → L_Md_rankAll_24 (nI n) K (m + 1) (nI i) σ := by
    intro m
    induction m with
    | zero =>
      intro i σ hi h1 h0 h3
      have : i = 256 := by omega
      subst this
      unfold L_Md_rankAll_24
      refine ⟨fun _ => ⟨257, k3 256 0 σ (by omega) h1 (fun x hx => ?_) (fun x hx1 hx2 => ?_)⟩, fun g => absurd (show (256 : Int32) ≤ nI 256 by decide) g⟩
      · rw [show x = 0 by omega, h0, cnt_q0]
      · have := h3 (x - 1) (by omega)
        rw [show x - 1 + 1 = x by omega] at this
        exact this
    | succ m ih =>
      intro i σ hi h1 h0 h3
      unfold L_Md_rankAll_24
      refine ⟨fun g => absurd (show 256 ≤ i from (n_le (by omega) (by omega)).mp g) (by omega), fun _ => ⟨n_in (by omega) (by omega), ?_⟩⟩
      rw [nI_c (n := i) (by omega), h1 58 (by omega) (by omega), e256, nI_c (n := 256 * n + i) (by omega), h1 61 (by omega) (by omega), show (1 : Int32) = nI 1 from rfl, nI_add]
      obtain ⟨H1, H2⟩ := H i (by omega)
      cases hrc : rc i with
      | false =>
        refine ⟨fun _ => ih (i + 1) σ (by omega) h1 h0 (fun x hx => ?_), fun g => absurd (H2 hrc) g⟩
        rw [h3 x hx]
        have : cnt (qe rc κ x) (i + 1) = cnt (qe rc κ x) i := by
          simp only [cnt]
          rw [if_neg (by unfold qe; rw [hrc]; simp)]
          rfl
        rw [this]
      | true =>
        obtain ⟨hne, f, hf, ef, ek, hk⟩ := H1 hrc
        refine ⟨fun g => absurd g hne, fun _ => ?_⟩
        rw [ef, nI_c (n := f) (by omega), h1 57 (by omega) (by omega), ek, nI_add, nI_c (n := κ i + 1) (by omega)]
        refine ⟨n_in (by omega) (by omega), n_in (by omega) (by omega), n_in (by omega) (by omega), n_in (by omega) (by omega), fun τ e1 => ?_⟩
        subst e1
        refine ih (i + 1) _ (by omega) (fun c c1 c2 => by rw [s2_ne c2]; exact h1 c c1 c2) (by rw [s2_ai (by omega)]; exact h0) (fun x hx => ?_)
        have hc : cnt (qe rc κ x) (i + 1) = cnt (qe rc κ x) i + if x = κ i then 1 else 0 := by
          simp only [cnt]
          unfold qe
          rw [hrc]
          by_cases e : x = κ i
          · rw [if_pos e, if_pos (by simp [e])]
          · rw [if_neg e, if_neg (by simp; exact fun q => e q.symm)]
        by_cases e : x = κ i
        · subst e
          rw [s2_at, h3 _ hx, hc, if_pos rfl, nI_add]
        · rw [s2_ai (by omega), h3 x hx, hc, if_neg e]
          rfl
  have k1 : ∀ m i (σ : Sg), i + m = 257 → (∀ c, c ≠ 59 → c ≠ 60 → σ c = σ0 c) → (∀ x, x < i → σ 60 x = nI 0) → L_Md_rankAll_2 (nI n) K (m + 1) (nI i) σ := by
    intro m
    induction m with
    | zero =>
      intro i σ hi h1 h2
      have : i = 257 := by omega
      subst this
      unfold L_Md_rankAll_2
      exact ⟨fun _ => ⟨257, k2 256 0 σ (by omega) h1 (h2 0 (by omega)) (fun x hx => by rw [h2 (x + 1) (by omega)]; rfl)⟩, fun g => absurd (show (256 : Int32) < nI 257 by decide) g⟩
    | succ m ih =>
      intro i σ hi h1 h2
      unfold L_Md_rankAll_2
      refine ⟨fun g => absurd (show 256 < i from (n_lt (by omega) (by omega)).mp g) (by omega), fun _ => ⟨n_in (by omega) (by omega), fun τ e => ?_⟩⟩
      rw [nI_c (by omega)] at e
      subst e
      rw [show (1 : Int32) = nI 1 from rfl, nI_add]
      refine ih (i + 1) _ (by omega) (fun c c1 c2 => by rw [s2_ne c2]; exact h1 c c1 c2) (fun x hx => ?_)
      by_cases e : x = i
      · subst e; rw [s2_at]; rfl
      · rw [s2_ai e]; exact h2 x (by omega)
  unfold w_Md_rankAll
  exact ⟨258, k1 257 0 σ0 (by omega) (fun _ _ _ => rfl) (fun x hx => absurd hx (by omega))⟩
