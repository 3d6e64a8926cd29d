def ISk (k : Nat) (σ : Sg) : Prop := ((σ (33 + 2 * k) 2 = -1 ∧ σ 44 k = -9) ∨ ∃ L n : Nat, L ≤ 2 ∧ n ≤ 60 ∧ σ (33 + 2 * k) 1 = nI L ∧ σ 44 k = nI L ∧ σ (33 + 2 * k) 2 = nI n ∧ σ 45 k = nI n) ∧ ∀ i, i < 60 → σ (34 + 2 * k) i = σ 46 (60 * k + i)
/-- one sheet has changed -/
theorem ISh.set {σ τ : Sg} {k : Nat} (k4 : k < 4) (g : ISh σ) (ec : ∀ c, 33 ≤ c → c ≤ 40 → c ≠ 33 + 2 * k → c ≠ 34 + 2 * k → τ c = σ c) (e44 : ∀ j, j ≠ k → τ 44 j = σ 44 j) (e45 : ∀ j, j ≠ k → τ 45 j = σ 45 j) (e46 : ∀ j, j < 60 * k ∨ 60 * k + 60 ≤ j → τ 46 j = σ 46 j) (n : ISk k τ) : ISh τ := by
  intro q hq
  by_cases e : q = k
  · subst e
    exact n
  · rw [ec (33 + 2 * q) (by omega) (by omega) (by omega) (by omega), ec (34 + 2 * q) (by omega) (by omega) (by omega) (by omega), e44 q e, e45 q e]
    refine ⟨(g q hq).1, fun i hi => ?_⟩
    rw [e46 (60 * q + i) (by omega)]
    exact (g q hq).2 i hi
theorem ln_sh {k : Nat} (h : k < 4) : ln (33 + 2 * k + 1) = 60 := by
  match k, h with
  | 0, _ => rfl
  | 1, _ => rfl
  | 2, _ => rfl
  | 3, _ => rfl
  | n + 4, q => exact absurd q (by omega)
theorem p_L57 {k : Nat} {x2 x3 : Int32} {K : Int32 → Sg → Prop} {σ0 : Sg} (k4 : k < 4) (hK : ∀ τ : Sg, (∀ c, c ≠ 46 → τ c = σ0 c) → (∀ j, j < 60 * k ∨ 60 * k + 60 ≤ j → τ 46 j = σ0 46 j) → (∀ i, i < 60 → τ 46 (60 * k + i) = 0) → K 1 τ) : ∃ n : Nat, L_Md_sheet_57 (nI k) x2 x3 K n 0 σ0 := by
  have key : ∀ n i (σ : Sg), i + n = 60 → (∀ c, c ≠ 46 → σ c = σ0 c) → (∀ j, j < 60 * k ∨ 60 * k + 60 ≤ j → σ 46 j = σ0 46 j) → (∀ j, j < i → σ 46 (60 * k + j) = 0) → L_Md_sheet_57 (nI k) x2 x3 K (n + 1) (nI i) σ := by
    intro n
    induction n with
    | zero =>
      intro i σ hi h1 h2 h3
      have : i = 60 := by omega
      subst this
      unfold L_Md_sheet_57
      exact ⟨fun _ => hK σ h1 h2 h3, fun c => absurd (show nI 60 ≤ nI 60 from (n_le (by omega) (by omega)).mpr (Nat.le_refl _)) c⟩
    | succ n ih =>
      intro i σ hi h1 h2 h3
      unfold L_Md_sheet_57
      rw [show (60 : Int32) = nI 60 from rfl, pk_mul, nI_add (60 * k) i, nI_c (by omega)]
      refine ⟨fun c => absurd ((n_le (by omega) (by omega)).mp c) (by omega), fun _ => ⟨n_in (by omega) (by omega), fun τ e => ?_⟩⟩
      rw [show (1 : Int32) = nI 1 from rfl, nI_add]
      refine ih (i + 1) τ (by omega) (fun c hc => by rw [e, s2_ne hc]; exact h1 c hc) (fun j hj => by rw [e, s2_ai (by omega)]; exact h2 j hj) (fun j hj => ?_)
      by_cases q : j = i
      · subst q
        rw [e, s2_at]
      · rw [e, s2_ai (by omega)]
        exact h3 j (by omega)
  exact ⟨61, key 60 0 σ0 (by omega) (fun _ _ => rfl) (fun _ _ => rfl) (fun j hj => absurd hj (by omega))⟩
theorem H_sheet (σ : Sg) (a1 a2 a3 : Int32) (I : Inv σ) : w_Lc_sheet a1 a2 a3 σ (fun r0 τ0 => w_Md_sheet a1 a2 a3 τ0 (fun r1 τ1 => r0 = r1 ∧ Inv τ1)) := by
  obtain ⟨h, g⟩ := I
  unfold w_Lc_sheet
  intro τ2 e2
  have f2 : FzC 0 σ τ2 := by rw [e2]; exact fzc
  clear e2
  rcases ix a1 4 (by omega) with o | ⟨k, k4, rfl⟩
  · refine cs_out o (ca0 ?_)
    show w_Md_sheet a1 a2 a3 τ2 _
    unfold w_Md_sheet
    intro τ3 e3
    subst e3
    exact ms_out o (ca0 ⟨rfl, g.fz f2 fzm⟩)
  · refine cs_in k4 (ca1 ?_)
    rcases ix a2 3 (by omega) with o | ⟨L, L3, rfl⟩
    · refine cl_out o (cb0 ?_)
      show w_Md_sheet (nI k) a2 a3 τ2 _
      unfold w_Md_sheet
      intro τ3 e3
      subst e3
      exact ms_in k4 (ca1 (ml_out o (cb0 ⟨rfl, g.fz f2 fzm⟩)))
    · refine cl_in L3 (cb1 ⟨fun c => ⟨fun c0 => ⟨n_in (by omega) (by omega), ?_⟩, fun c0 => ?_⟩, fun c => ?_⟩)
      · obtain ⟨n, n60, rfl⟩ : ∃ n : Nat, n ≤ 60 ∧ a3 = nI n := by
          have c' := c
          have c0' := c0
          rw [le_toInt] at c' c0'
          have z1 : (0 : Int32).toInt = 0 := rfl
          have z2 : (60 : Int32).toInt = 60 := rfl
          exact ⟨a3.toInt.toNat, by omega, of_toInt (by omega)⟩
        rw [nI_c (by omega)]
        unfold w_Sh_renew
        intro τ4 e4 τ5 e5
        refine p_fill (by rw [ln_sh k4]; omega) (fun τ6 w1 w2 w3 => ?_)
        rw [ln_sh k4] at w2
        show w_Md_sheet (nI k) (nI L) (nI n) τ6 _
        unfold w_Md_sheet
        intro t1 q1
        refine ms_in k4 (ca1 (ml_in L3 (cb1 ⟨fun _ => ⟨fun _ => ⟨n_in (by omega) (by omega), fun t2 q2 => ⟨n_in (by omega) (by omega), fun t3 q3 => ?_⟩⟩, fun c1 => absurd c0 c1⟩, fun c1 => absurd c c1⟩)))
        rw [nI_c (by omega)] at q2 q3
        refine p_L57 k4 (fun t4 v1 v2 v3 => ⟨rfl, ?_⟩)
        have z33 : ∀ c, c ≠ 33 + 2 * k → c ≠ 33 + 2 * k + 1 → τ6 c = τ2 c := fun c c1 c2 => by rw [w1 c c2, e5, s2_ne c1, e4, s2_ne c1]
        have y : ∀ c, c ≠ 43 → c ≠ 44 → c ≠ 45 → c ≠ 46 → t4 c = τ6 c := fun c c1 c2 c3 c4 => by rw [v1 c c4, q3, s2_ne c3, q2, s2_ne c2, q1, s2_ne c1]
        have y43 : ∀ j, t4 43 j = (s2 τ6 43 0 0) 43 j := fun j => by rw [v1 43 (by omega), q3, s2_ne (by omega), q2, s2_ne (by omega), q1]
        refine g.sh (fun c c0 c1 c2 c3 c4 c5 => ?_) (fun j hj => ?_) (fun j hj => ?_) ?_ (ISh.set (k := k) k4 g.2.2.2.1 (fun c c1 c2 c3 c4 => ?_) (fun j hj => ?_) (fun j hj => ?_) (fun j hj => ?_) ⟨Or.inr ⟨L, n, by omega, n60, ?_, ?_, ?_, ?_⟩, fun i hi => ?_⟩)
        · rw [y c c1 c3 c4 c5, z33 c (by omega) (by omega), f2.1 c c0]
        · rw [y 0 (by omega) (by omega) (by omega) (by omega), z33 0 (by omega) (by omega)]
          exact f2.2.1 j hj
        · rw [y43, s2_ai hj, z33 43 (by omega) (by omega), f2.1 43 (by omega)]
        · rw [y43, s2_at, y 0 (by omega) (by omega) (by omega) (by omega), z33 0 (by omega) (by omega)]
          exact f2.2.2
        · rw [y c (by omega) (by omega) (by omega) (by omega), z33 c (by omega) (by omega), f2.1 c (by omega)]
        · rw [v1 44 (by omega), q3, s2_ne (by omega), q2, s2_ai hj, q1, s2_ne (by omega), z33 44 (by omega) (by omega), f2.1 44 (by omega)]
        · rw [v1 45 (by omega), q3, s2_ai hj, q2, s2_ne (by omega), q1, s2_ne (by omega), z33 45 (by omega) (by omega), f2.1 45 (by omega)]
        · rw [v2 j hj, q3, s2_ne (by omega), q2, s2_ne (by omega), q1, s2_ne (by omega), z33 46 (by omega) (by omega), f2.1 46 (by omega)]
        · rw [y _ (by omega) (by omega) (by omega) (by omega), w1 _ (by omega), e5, s2_ai (by omega), e4, s2_at]
        · rw [v1 44 (by omega), q3, s2_ne (by omega), q2, s2_at]
        · rw [y _ (by omega) (by omega) (by omega) (by omega), w1 _ (by omega), e5, s2_at]
        · rw [v1 45 (by omega), q3, s2_at]
        · rw [y _ (by omega) (by omega) (by omega) (by omega), v3 i hi, show 34 + 2 * k = 33 + 2 * k + 1 by omega]
          exact w2 i hi
      · unfold w_Lc_faulted
        intro τ4 e4
        have f4 : FzC 4 σ τ4 := by rw [e4]; exact f2.again
        show w_Md_sheet (nI k) (nI L) a3 τ4 _
        unfold w_Md_sheet
        intro τ3 e3
        subst e3
        refine ms_in k4 (ca1 (ml_in L3 (cb1 ⟨fun _ => ⟨fun c1 => absurd c1 c0, fun _ => ?_⟩, fun c1 => absurd c c1⟩)))
        unfold w_Md_fails
        intro τ5 e5
        subst e5
        exact ⟨rfl, g.fz f4 (fzm.again (u := 0))⟩
      · show w_Md_sheet (nI k) (nI L) a3 τ2 _
        unfold w_Md_sheet
        intro τ3 e3
        subst e3
        exact ms_in k4 (ca1 (ml_in L3 (cb1 ⟨fun c1 => absurd c1 c, fun _ => ⟨rfl, g.fz f2 fzm⟩⟩)))
theorem H_lose (σ : Sg) (a1 : Int32) (I : Inv σ) : w_Lc_lose a1 σ (fun r0 τ0 => w_Md_lose a1 τ0 (fun r1 τ1 => r0 = r1 ∧ Inv τ1)) := by
  obtain ⟨h, g⟩ := I
  unfold w_Lc_lose
  rcases ix a1 4 (by omega) with o | ⟨k, k4, rfl⟩
  · refine cs_out o (ca0 ?_)
    show w_Md_lose a1 σ _
    unfold w_Md_lose
    exact ms_out o (ca0 ⟨rfl, h, g⟩)
  · have fin : ∀ {τ t : Sg}, τ = s2 σ (33 + 2 * k) 2 (-1) → t = s2 τ 44 k (-9) → Inv t := fun {τ t} e q => by
      refine g.sh (fun c c0 c1 c2 c3 c4 c5 => ?_) (fun j hj => ?_) (fun j hj => ?_) ?_ (ISh.set (k := k) k4 g.2.2.2.1 (fun c c1 c2 c3 c4 => ?_) (fun j hj => ?_) (fun j hj => ?_) (fun j hj => ?_) ⟨Or.inl ⟨?_, ?_⟩, fun i hi => ?_⟩)
      · rw [q, s2_ne c3, e, s2_ne (by omega)]
      · rw [q, s2_ne (by omega), e, s2_ne (by omega)]
      · rw [q, s2_ne (by omega), e, s2_ne (by omega)]
      · rw [q, s2_ne (by omega), s2_ne (by omega), e, s2_ne (by omega), s2_ne (by omega)]
        exact g.2.2.2.2.1.1
      · rw [q, s2_ne (by omega), e, s2_ne c3]
      · rw [q, s2_ai hj, e, s2_ne (by omega)]
      · rw [q, s2_ne (by omega), e, s2_ne (by omega)]
      · rw [q, s2_ne (by omega), e, s2_ne (by omega)]
      · rw [q, s2_ne (by omega), e, s2_at]
      · rw [q, s2_at]
      · rw [q, s2_ne (by omega), s2_ne (by omega), e, s2_ne (by omega), s2_ne (by omega)]
        exact (g.2.2.2.1 k k4).2 i hi
    refine cs_in k4 (ca1 ⟨n_in (by omega) (by omega), ?_⟩)
    rw [nI_c (by omega)]
    rcases (g.2.2.2.1 k k4).1 with ⟨s1, s2'⟩ | ⟨L, n, hL, hn, s1, s2', s3, s4⟩
    · refine p_hasRow0 s1 ⟨n_in (by omega) (by omega), ?_⟩
      unfold w_Sh_empty
      refine fun τ e => cb0 ?_
      show w_Md_lose (nI k) τ _
      unfold w_Md_lose
      refine ms_in k4 (ca1 ⟨n_in (by omega) (by omega), ?_⟩)
      rw [nI_c (by omega), e, s2_ne (by omega), s2', ← e]
      refine ⟨fun c => absurd rfl c, fun _ => ?_⟩
      unfold B_Md_lose_25
      refine ⟨n_in (by omega) (by omega), fun t q => ⟨rfl, ?_⟩⟩
      rw [nI_c (by omega)] at q
      exact fin e q
    · refine p_hasRow1 s3 hn ⟨n_in (by omega) (by omega), ?_⟩
      unfold w_Sh_empty
      refine fun τ e => cb1 ?_
      show w_Md_lose (nI k) τ _
      unfold w_Md_lose
      refine ms_in k4 (ca1 ⟨n_in (by omega) (by omega), ?_⟩)
      rw [nI_c (by omega), e, s2_ne (by omega), s2', ← e]
      refine ⟨fun _ => ?_, fun c => absurd c (n9 L (by omega))⟩
      unfold B_Md_lose_25
      refine ⟨n_in (by omega) (by omega), fun t q => ⟨rfl, ?_⟩⟩
      rw [nI_c (by omega)] at q
      exact fin e q
