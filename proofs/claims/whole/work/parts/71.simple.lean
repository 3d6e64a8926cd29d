theorem H_trace (σ : Sg) (I : Inv σ) : w_Lc_trace σ (fun r0 => w_Md_trace σ (fun r1 => r0 = r1 ∧ Inv σ)) := by
  obtain ⟨h, g⟩ := I
  exact ⟨g.2.2.2.2.1.2, h, g⟩
theorem H_fault (σ : Sg) (I : Inv σ) : w_Lc_fault σ (fun r0 => w_Md_fault σ (fun r1 => r0 = r1 ∧ Inv σ)) := by
  obtain ⟨h, g⟩ := I
  exact ⟨g.2.2.2.2.1.1, h, g⟩
def slv (h : Hh) : Nat → Nat
  | 0 => 0
  | n + 1 => slv h n + hl h n
theorem p_allLevels {σ : Sg} {K : Int32 → Prop} {o : Nat} {h : Hh} (ok : HOk h) (R : RC' o h σ) (hK : K (nI (slv h (hm h)))) : w_Ho_allLevels o σ K := by
  have hm4 := ok.1
  have key : ∀ n i, i + n = hm h → L_Ho_allLevels_4 o σ K (n + 1) (nI (slv h i)) (nI i) := by
    intro n
    induction n with
    | zero =>
      intro i hi
      have : i = hm h := by omega
      subst this
      unfold L_Ho_allLevels_4
      rw [R.1]
      exact ⟨fun _ => hK, fun g => absurd ((n_le (by omega) (by omega)).mpr (Nat.le_refl _)) g⟩
    | succ n ih =>
      intro i hi
      unfold L_Ho_allLevels_4
      rw [R.1, nI_c (by omega), (R.2.2.2.1 i (by omega)).2.1, nI_add]
      refine ⟨fun g => absurd ((n_le (by omega) (by omega)).mp g) (by omega), fun _ => ⟨n_in (by omega) (by omega), fun y hy => ?_⟩⟩
      rw [hy, show (1 : Int32) = nI 1 from rfl, nI_add]
      exact ih (i + 1) (by omega)
  unfold w_Ho_allLevels
  exact ⟨hm h + 1, key (hm h) 0 (by omega)⟩
theorem H_many (σ : Sg) (a1 : Int32) (I : Inv σ) : w_Lc_many a1 σ (fun r0 => w_Md_many a1 σ (fun r1 => r0 = r1 ∧ Inv σ)) := by
  obtain ⟨h, g⟩ := I
  have ok := g.1
  have RC := g.2.1
  have RM := g.2.2.1
  have hm4 := ok.1
  have hI : Inv σ := ⟨h, g⟩
  obtain ⟨n, -, r1, r2, -⟩ := g.2.2.2.2.2.1
  have lev : ∀ a, a < 4 → σ 48 a = nI (if a < hm h then hl h a else 0) := fun a ha => by
    by_cases q : a < hm h
    · rw [if_pos q, (RM.2.2.2.1 a q).2.1]
    · rw [if_neg q, RM.2.2.2.2.1 a (by omega) ha]
  have esum : slv h (hm h) = (if 0 < hm h then hl h 0 else 0) + (if 1 < hm h then hl h 1 else 0) + (if 2 < hm h then hl h 2 else 0) + (if 3 < hm h then hl h 3 else 0) := by
    generalize hm h = m at hm4
    match m, hm4 with
    | 0, _ => simp [slv]
    | 1, _ => simp [slv]
    | 2, _ => simp [slv]
    | 3, _ => simp [slv]
    | 4, _ => simp [slv]
    | n + 5, q => exact absurd q (by omega)
  have m_ : ∀ r0 : Int32, ((a1 = 0 → r0 = σ 43 5) ∧ (a1 = 1 → r0 = σ 43 9) ∧ (a1 = 2 → r0 = nI (slv h (hm h))) ∧ (a1 = 3 → r0 = σ 43 11) ∧ (a1 = 4 → r0 = σ 43 30) ∧ (¬ a1 = 0 → ¬ a1 = 1 → ¬ a1 = 2 → ¬ a1 = 3 → ¬ a1 = 4 → r0 = -2)) → w_Md_many a1 σ (fun r1 => r0 = r1 ∧ Inv σ) := fun r0 hr => by
    unfold w_Md_many
    refine ⟨fun e => ⟨hr.1 e, hI⟩, fun e => ⟨hr.2.1 e, hI⟩, fun e => ⟨n_in (n := 0) (by omega) (by omega), n_in (n := 1) (by omega) (by omega), n_in (n := 2) (by omega) (by omega), n_in (n := 3) (by omega) (by omega), ?_, hI⟩, fun e => ⟨hr.2.2.2.1 e, hI⟩, fun e => ⟨hr.2.2.2.2.1 e, hI⟩, fun e0 e1 e2 e3 e4 => ⟨hr.2.2.2.2.2 e0 e1 e2 e3 e4, hI⟩⟩
    rw [show (0 : Int32).toNatClampNeg = 0 from rfl, show (1 : Int32).toNatClampNeg = 1 from rfl, show (2 : Int32).toNatClampNeg = 2 from rfl, show (3 : Int32).toNatClampNeg = 3 from rfl, lev 0 (by omega), lev 1 (by omega), lev 2 (by omega), lev 3 (by omega), nI_add, nI_add, nI_add, ← esum]
    exact hr.2.2.1 e
  unfold w_Lc_many
  refine ⟨fun e => m_ _ ?_, fun e => m_ _ ?_, fun e => p_allLevels ok RC (m_ _ ?_), fun e => m_ _ ?_, fun e => m_ _ ?_, fun e0 e1 e2 e3 e4 => m_ _ ?_⟩
  · refine ⟨fun _ => by rw [RC.1, RM.1], ?_, ?_, ?_, ?_, ?_⟩ <;> (subst e; intro q; exact absurd q (by decide))
  · refine ⟨?_, fun _ => by rw [RC.2.1, RM.2.1], ?_, ?_, ?_, ?_⟩
    · subst e; intro q; exact absurd q (by decide)
    · subst e; intro q; exact absurd q (by decide)
    · subst e; intro q; exact absurd q (by decide)
    · subst e; intro q; exact absurd q (by decide)
    · intro _ q; exact absurd e q
  · refine ⟨?_, ?_, fun _ => rfl, ?_, ?_, ?_⟩
    · subst e; intro q; exact absurd q (by decide)
    · subst e; intro q; exact absurd q (by decide)
    · subst e; intro q; exact absurd q (by decide)
    · subst e; intro q; exact absurd q (by decide)
    · intro _ _ q; exact absurd e q
  · refine ⟨?_, ?_, ?_, fun _ => by rw [RC.2.2.1, RM.2.2.1], ?_, ?_⟩
    · subst e; intro q; exact absurd q (by decide)
    · subst e; intro q; exact absurd q (by decide)
    · subst e; intro q; exact absurd q (by decide)
    · subst e; intro q; exact absurd q (by decide)
    · intro _ _ _ q; exact absurd e q
  · refine ⟨?_, ?_, ?_, ?_, fun _ => by rw [r1, r2], ?_⟩
    · subst e; intro q; exact absurd q (by decide)
    · subst e; intro q; exact absurd q (by decide)
    · subst e; intro q; exact absurd q (by decide)
    · subst e; intro q; exact absurd q (by decide)
    · intro _ _ _ _ q; exact absurd e q
  · exact ⟨fun q => absurd q e0, fun q => absurd q e1, fun q => absurd q e2, fun q => absurd q e3, fun q => absurd q e4, fun _ _ _ _ _ => rfl⟩
theorem H_value (σ : Sg) (a1 : Int32) (I : Inv σ) : w_Lc_value a1 σ (fun r0 => w_Md_value a1 σ (fun r1 => r0 = r1 ∧ Inv σ)) := by
  obtain ⟨h, g⟩ := I
  have RC := g.2.1
  have RM := g.2.2.1
  have hT20 := g.1.2.2.1
  unfold w_Lc_value w_Md_value
  rcases ix a1 (hT h) (by omega) with o | ⟨t, ht, rfl⟩
  · exact ct_out RC.2.1 o (cb0 (mt_out RM.2.1 hT20 o (cb0 ⟨rfl, h, g⟩)))
  · refine ct_in RC.2.1 hT20 ht (cb1 ⟨n_in (by omega) (by omega), mt_in RM.2.1 hT20 ht (cb1 ⟨n_in (by omega) (by omega), ?_, h, g⟩)⟩)
    rw [nI_c (by omega), RC.2.2.2.2 t ht, RM.2.2.2.2.2 t ht]
theorem p_jumpTo {σ : Sg} {K : Int32 → Prop} {o : Nat} {h : Hh} (ok : HOk h) (R : RC' o h σ) {t : Nat} (ht : t < hT h) (hK : K (nI (hv h t) - nI (if t = 0 then hb h else hv h (t - 1)))) : w_Ho_jumpTo o (nI t) σ K := by
  have hT20 := ok.2.2.1
  unfold w_Ho_jumpTo
  rw [nI_c (by omega), R.2.2.2.2 t ht]
  refine ⟨n_in (by omega) (by omega), fun q => ?_, fun q => ?_⟩
  · have h0 : t ≠ 0 := fun e => q (by rw [e]; rfl)
    rw [show (1 : Int32) = nI 1 from rfl, n_sub (by omega), nI_c (by omega), R.2.2.2.2 (t - 1) (by omega)]
    rw [if_neg h0] at hK
    exact ⟨n_in (by omega) (by omega), hK⟩
  · have h0 : t = 0 := (n_eq (by omega) (by omega)).mp q
    rw [if_pos h0] at hK
    rw [R.2.2.1]
    exact hK
theorem p_jumpOf {σ : Sg} {K : Int32 → Prop} {h : Hh} (ok : HOk h) (R : RM' h σ) {t : Nat} (ht : t < hT h) (hK : K (nI (hv h t) - nI (if t = 0 then hb h else hv h (t - 1)))) : w_Md_jumpOf (nI t) σ K := by
  have hT20 := ok.2.2.1
  unfold w_Md_jumpOf
  rw [nI_c (by omega), R.2.2.2.2.2 t ht]
  refine ⟨n_in (by omega) (by omega), fun q => ?_, fun q => ?_⟩
  · have h0 : t ≠ 0 := fun e => q (by rw [e]; rfl)
    rw [show (1 : Int32) = nI 1 from rfl, n_sub (by omega), nI_c (by omega), R.2.2.2.2.2 (t - 1) (by omega)]
    rw [if_neg h0] at hK
    exact ⟨n_in (by omega) (by omega), hK⟩
  · have h0 : t = 0 := (n_eq (by omega) (by omega)).mp q
    rw [if_pos h0] at hK
    rw [R.2.2.1]
    exact hK
theorem H_jump (σ : Sg) (a1 : Int32) (I : Inv σ) : w_Lc_jump a1 σ (fun r0 => w_Md_jump a1 σ (fun r1 => r0 = r1 ∧ Inv σ)) := by
  obtain ⟨h, g⟩ := I
  have RC := g.2.1
  have RM := g.2.2.1
  have hT20 := g.1.2.2.1
  unfold w_Lc_jump w_Md_jump
  rcases ix a1 (hT h) (by omega) with o | ⟨t, ht, rfl⟩
  · exact ct_out RC.2.1 o (cb0 (mt_out RM.2.1 hT20 o (cb0 ⟨rfl, h, g⟩)))
  · exact ct_in RC.2.1 hT20 ht (cb1 (p_jumpTo g.1 RC ht (mt_in RM.2.1 hT20 ht (cb1 (p_jumpOf g.1 RM ht ⟨rfl, h, g⟩)))))
theorem H_ofAppliance (σ : Sg) (a1 a2 : Int32) (I : Inv σ) : w_Lc_ofAppliance a1 a2 σ (fun r0 => w_Md_ofAppliance a1 a2 σ (fun r1 => r0 = r1 ∧ Inv σ)) := by
  obtain ⟨h, g⟩ := I
  have ok := g.1
  have RC := g.2.1
  have RM := g.2.2.1
  have hm4 := g.1.1
  have hI : Inv σ := ⟨h, g⟩
  rcases ix a1 (hm h) (by omega) with o | ⟨a, ha, rfl⟩
  · unfold w_Lc_ofAppliance
    refine ch_out RC.1 o (ca0 ?_)
    unfold w_Md_ofAppliance
    exact mh_out RM.1 hm4 o (ca0 ⟨rfl, hI⟩)
  · have r := RC.2.2.2.1 a ha
    have q := RM.2.2.2.1 a ha
    have hl3 := (ok.2.1 a ha).2.2.1
    have hl1 := (ok.2.1 a ha).2.1
    -- the reference's answer
    have mref : ∀ r0 : Int32, (a2 = 0 → r0 = nI (hk h a)) → (a2 = 1 → r0 = nI (hl h a)) → (∀ k : Nat, k < 3 → a2 = nI (10 + k) → r0 = if k < hl h a then nI (ht h (3 * a + k)) else -9) → (∀ k : Nat, k < 3 → a2 = nI (20 + k) → r0 = if k < hl h a then nI (pwr (hk h a) (ht h (3 * a + k))) else -9) → (¬ a2 = 0 → ¬ a2 = 1 → (a2 < 10 ∨ 12 < a2) → (a2 < 20 ∨ 22 < a2) → r0 = -2) → w_Md_ofAppliance (nI a) a2 σ (fun r1 => r0 = r1 ∧ Inv σ) := fun r0 e0 e1 e2 e3 e4 => by
      unfold w_Md_ofAppliance
      refine mh_in RM.1 hm4 ha (ca1 ⟨fun n0 => ⟨fun n1 => ?_, fun c => ⟨n_in (by omega) (by omega), ?_, hI⟩⟩, fun c => ⟨n_in (by omega) (by omega), ?_, hI⟩⟩)
      · by_cases c10 : a2 < 10 ∨ 12 < a2
        · refine wi_out (l := 10) (u := 12) rfl rfl c10 (cb0 ?_)
          by_cases c20 : a2 < 20 ∨ 22 < a2
          · exact wi_out (l := 20) (u := 22) rfl rfl c20 (cb0 ⟨e4 n0 n1 c10 c20, hI⟩)
          · have l1 : (20 : Int32) ≤ a2 := by rw [le_toInt]; rw [lt_toInt, lt_toInt] at c20; omega
            have l2 : a2 ≤ (22 : Int32) := by rw [le_toInt]; rw [lt_toInt, lt_toInt] at c20; omega
            obtain ⟨k, hk, ek⟩ : ∃ k : Nat, k < 3 ∧ a2 = nI (20 + k) := by
              rw [le_toInt] at l1 l2
              have z1 : (20 : Int32).toInt = 20 := rfl
              have z2 : (22 : Int32).toInt = 22 := rfl
              exact ⟨(a2.toInt - 20).toNat, by omega, of_toInt (by omega)⟩
            refine wi_in (l := 20) (u := 22) rfl rfl l1 l2 (cb1 ⟨n_in (by omega) (by omega), ?_, ?_⟩)
            · intro c
              rw [nI_c (by omega), q.2.1, ek, show (20 : Int32) = nI 20 from rfl, n_sub (by omega)] at c
              have c := (n_le (by omega) (by omega)).mp c
              exact ⟨by rw [e3 k hk ek, if_neg (by omega)], hI⟩
            · intro c
              rw [nI_c (by omega), q.2.1, ek, show (20 : Int32) = nI 20 from rfl, n_sub (by omega)] at c
              have c : ¬ hl h a ≤ 20 + k - 20 := fun e => c ((n_le (by omega) (by omega)).mpr e)
              rw [ek, show (20 : Int32) = nI 20 from rfl, n_sub (by omega), show 20 + k - 20 = k by omega]
              refine p_Md_powerOf ok RM ha (by omega) ⟨?_, hI⟩
              rw [e3 k hk ek, if_pos (by omega)]
        · have l1 : (10 : Int32) ≤ a2 := by rw [le_toInt]; rw [lt_toInt, lt_toInt] at c10; omega
          have l2 : a2 ≤ (12 : Int32) := by rw [le_toInt]; rw [lt_toInt, lt_toInt] at c10; omega
          obtain ⟨k, hk, ek⟩ : ∃ k : Nat, k < 3 ∧ a2 = nI (10 + k) := by
            rw [le_toInt] at l1 l2
            have z1 : (10 : Int32).toInt = 10 := rfl
            have z2 : (12 : Int32).toInt = 12 := rfl
            exact ⟨(a2.toInt - 10).toNat, by omega, of_toInt (by omega)⟩
          refine wi_in (l := 10) (u := 12) rfl rfl l1 l2 (cb1 ⟨n_in (by omega) (by omega), ?_, ?_⟩)
          · intro c
            rw [nI_c (by omega), q.2.1, ek, show (10 : Int32) = nI 10 from rfl, n_sub (by omega)] at c
            have c := (n_le (by omega) (by omega)).mp c
            exact ⟨by rw [e2 k hk ek, if_neg (by omega)], hI⟩
          · intro c
            rw [nI_c (by omega), q.2.1, ek, show (10 : Int32) = nI 10 from rfl, n_sub (by omega)] at c
            have c : ¬ hl h a ≤ 10 + k - 10 := fun e => c ((n_le (by omega) (by omega)).mpr e)
            rw [ek, show (10 : Int32) = nI 10 from rfl, show (3 : Int32) = nI 3 from rfl, pk_mul, nI_add, n_sub (by omega), show 3 * a + (10 + k) - 10 = 3 * a + k by omega, nI_c (by omega), q.2.2.1 k (by omega)]
            refine ⟨n_in (by omega) (by omega), ?_, hI⟩
            rw [e2 k hk ek, if_pos (by omega)]
      · rw [nI_c (by omega), q.2.1]; exact e1 c
      · rw [nI_c (by omega), q.1]; exact e0 c
    unfold w_Lc_ofAppliance
    refine ch_in RC.1 hm4 ha (ca1 ⟨fun n0 => ⟨fun n1 => ?_, fun c => ⟨n_in (by omega) (by omega), ?_⟩⟩, fun c => ⟨n_in (by omega) (by omega), ?_⟩⟩)
    · have lowhigh : (a2 < 10 ∨ 12 < a2) → B_Lc_ofAppliance_87 (nI a) a2 σ (fun r0 => w_Md_ofAppliance (nI a) a2 σ (fun r1 => r0 = r1 ∧ Inv σ)) := fun c10 => by
        have no2 : ∀ k : Nat, k < 3 → a2 = nI (10 + k) → False := fun k hk e => by
          rw [e, show (10 : Int32) = nI 10 from rfl, show (12 : Int32) = nI 12 from rfl] at c10
          rcases c10 with c | c
          · have := (n_lt (by omega) (by omega)).mp c; omega
          · have := (n_lt (by omega) (by omega)).mp c; omega
        unfold B_Lc_ofAppliance_87
        have out : (a2 < 20 ∨ 22 < a2) → w_Md_ofAppliance (nI a) a2 σ (fun r1 => (-2 : Int32) = r1 ∧ Inv σ) := fun c20 => by
          refine mref _ (fun e => absurd e n0) (fun e => absurd e n1) (fun k hk e => (no2 k hk e).elim) (fun k hk e => ?_) (fun _ _ _ _ => rfl)
          exfalso
          rw [e, show (20 : Int32) = nI 20 from rfl, show (22 : Int32) = nI 22 from rfl] at c20
          rcases c20 with c | c
          · have := (n_lt (by omega) (by omega)).mp c; omega
          · have := (n_lt (by omega) (by omega)).mp c; omega
        refine ⟨fun c => out (Or.inl c), fun c => ⟨fun c2 => out (Or.inr ?_), fun c2 => ?_⟩⟩
        · rw [le_toInt] at c2
          rw [lt_toInt]
          have z1 : (23 : Int32).toInt = 23 := rfl
          have z2 : (22 : Int32).toInt = 22 := rfl
          omega
        · obtain ⟨k, hk3, ek⟩ : ∃ k : Nat, k < 3 ∧ a2 = nI (20 + k) := by
            rw [le_toInt] at c2
            rw [lt_toInt] at c
            have z1 : (20 : Int32).toInt = 20 := rfl
            have z2 : (23 : Int32).toInt = 23 := rfl
            exact ⟨(a2.toInt - 20).toNat, by omega, of_toInt (by omega)⟩
          have fin : ∀ r0 : Int32, (r0 = if k < hl h a then nI (pwr (hk h a) (ht h (3 * a + k))) else -9) → w_Md_ofAppliance (nI a) a2 σ (fun r1 => r0 = r1 ∧ Inv σ) := fun r0 hr => by
            refine mref _ (fun e => absurd e n0) (fun e => absurd e n1) (fun k hk e => (no2 k hk e).elim) (fun k' hk' e => ?_) (fun _ _ _ c3 => ?_)
            · have : k = k' := by
                have := (n_eq (by omega) (by omega)).mp (ek.symm.trans e)
                omega
              rw [← this]; exact hr
            · exfalso
              rw [ek, show (20 : Int32) = nI 20 from rfl, show (22 : Int32) = nI 22 from rfl] at c3
              rcases c3 with c | c
              · have := (n_lt (by omega) (by omega)).mp c; omega
              · have := (n_lt (by omega) (by omega)).mp c; omega
          have e20 : a2 - (20 : Int32) = nI k := by rw [ek, show (20 : Int32) = nI 20 from rfl, n_sub (by omega), show 20 + k - 20 = k by omega]
          rw [e20]
          by_cases hkl : k < hl h a
          · refine hl_in ok RC ha hkl (cb1 (p_Ho_powerOf ok RC ha hkl (fin _ ?_)))
            rw [if_pos hkl]
          · refine hl_out ok RC ha (Or.inr ((n_le (by omega) (by omega)).mpr (by omega))) (cb0 (fin _ ?_))
            rw [if_neg hkl]
      refine ⟨fun c => lowhigh (Or.inl c), fun c => ⟨fun c2 => lowhigh (Or.inr ?_), fun c2 => ?_⟩⟩
      · rw [le_toInt] at c2
        rw [lt_toInt]
        have z1 : (13 : Int32).toInt = 13 := rfl
        have z2 : (12 : Int32).toInt = 12 := rfl
        omega
      · obtain ⟨k, hk, ek⟩ : ∃ k : Nat, k < 3 ∧ a2 = nI (10 + k) := by
          rw [le_toInt] at c2
          rw [lt_toInt] at c
          have z1 : (10 : Int32).toInt = 10 := rfl
          have z2 : (13 : Int32).toInt = 13 := rfl
          exact ⟨(a2.toInt - 10).toNat, by omega, of_toInt (by omega)⟩
        have fin : ∀ r0 : Int32, (r0 = if k < hl h a then nI (ht h (3 * a + k)) else -9) → w_Md_ofAppliance (nI a) a2 σ (fun r1 => r0 = r1 ∧ Inv σ) := fun r0 hr => by
          refine mref _ (fun e => absurd e n0) (fun e => absurd e n1) (fun k' hk' e => ?_) (fun k' hk' e => ?_) (fun _ _ c3 _ => ?_)
          · have : k = k' := by
              have := (n_eq (by omega) (by omega)).mp (ek.symm.trans e)
              omega
            rw [← this]; exact hr
          · exfalso
            have := (n_eq (by omega) (by omega)).mp (ek.symm.trans e)
            omega
          · exfalso
            rw [ek, show (10 : Int32) = nI 10 from rfl, show (12 : Int32) = nI 12 from rfl] at c3
            rcases c3 with c | c
            · have := (n_lt (by omega) (by omega)).mp c; omega
            · have := (n_lt (by omega) (by omega)).mp c; omega
        have e10 : a2 - (10 : Int32) = nI k := by rw [ek, show (10 : Int32) = nI 10 from rfl, n_sub (by omega), show 10 + k - 10 = k by omega]
        rw [e10]
        by_cases hkl : k < hl h a
        · refine hl_in ok RC ha hkl (cb1 (tl_ok ok RC ha hkl (fin _ ?_)))
          rw [if_pos hkl]
        · refine hl_out ok RC ha (Or.inr ((n_le (by omega) (by omega)).mpr (by omega))) (cb0 (fin _ ?_))
          rw [if_neg hkl]
    · subst c
      refine mref _ (fun e => absurd e (by decide)) (fun _ => by rw [nI_c (by omega)]; exact r.2.1) (fun k hk e => ?_) (fun k hk e => ?_) (fun _ e => absurd rfl e)
      · exact absurd (show 1 = 10 + k from (n_eq (by omega) (by omega)).mp e) (by omega)
      · exact absurd (show 1 = 20 + k from (n_eq (by omega) (by omega)).mp e) (by omega)
    · subst c
      refine mref _ (fun _ => by rw [nI_c (by omega)]; exact r.1) (fun e => absurd e (by decide)) (fun k hk e => ?_) (fun k hk e => ?_) (fun e => absurd rfl e)
      · exact absurd (show 0 = 10 + k from (n_eq (by omega) (by omega)).mp e) (by omega)
      · exact absurd (show 0 = 20 + k from (n_eq (by omega) (by omega)).mp e) (by omega)
