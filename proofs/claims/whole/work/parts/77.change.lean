theorem p_forget {σ0 : Sg} {K : Sg → Prop} (hK : ∀ τ : Sg, (∀ c, c ≠ 0 → c ≠ 30 → τ c = σ0 c) → (∀ j, j ≠ 11 → τ 0 j = σ0 0 j) → τ 0 11 = 0 → (∀ j, j < 48 → τ 30 j = 0) → K τ) : w_Lc_forgetBest σ0 K := by
  have key : ∀ n i (σ : Sg), i + n = 48 → (∀ c, c ≠ 0 → c ≠ 30 → σ c = σ0 c) → (∀ j, j ≠ 11 → σ 0 j = σ0 0 j) → σ 0 11 = 0 → (∀ j, j < i → σ 30 j = 0) → L_Gu_forget_2 K (n + 1) (nI i) σ := by
    intro n
    induction n with
    | zero =>
      intro i σ hi h1 h2 h3 h4
      have : i = 48 := by omega
      subst this
      unfold L_Gu_forget_2
      exact ⟨fun _ => hK σ h1 h2 h3 h4, fun c => absurd (show nI 48 ≤ nI 48 from (n_le (by omega) (by omega)).mpr (Nat.le_refl _)) c⟩
    | succ n ih =>
      intro i σ hi h1 h2 h3 h4
      unfold L_Gu_forget_2
      rw [nI_c (by omega)]
      refine ⟨fun c => absurd (show 48 ≤ i from (n_le (by omega) (by omega)).mp c) (by omega), fun _ => ⟨n_in (by omega) (by omega), fun τ e => ?_⟩⟩
      rw [show (1 : Int32) = nI 1 from rfl, nI_add]
      refine ih (i + 1) τ (by omega) (fun c c0 c1 => by rw [e, s2_ne c1]; exact h1 c c0 c1) (fun j hj => by rw [e, s2_ne (by omega)]; exact h2 j hj) (by rw [e, s2_ne (by omega)]; exact h3) (fun j hj => ?_)
      by_cases q : j = i
      · subst q
        rw [e, s2_at]
      · rw [e, s2_ai q]
        exact h4 j (by omega)
  unfold w_Lc_forgetBest
  intro τ e
  unfold w_Gu_forget
  exact ⟨49, key 48 0 τ (by omega) (fun c c0 _ => by rw [e, s2_ne c0]) (fun j hj => by rw [e, s2_ai hj]) (by rw [e, s2_at]) (fun j hj => absurd hj (by omega))⟩
theorem Iv_new {h : Hh} {τ : Sg} (ok : HOk h) (r1 : RC' 1 h τ) (r2 : RM' h τ) (sh : ISh τ) (ft : IFt τ) (rd : IRd h τ) (c : τ 0 11 = 0) (m : τ 43 17 = 0) (k : ∀ j, j < 48 → τ 30 j = 0) (u : IUn τ) : Inv τ := by
  refine ⟨h, ok, r1, r2, sh, ft, rd, fun q => absurd c q, fun q => absurd m q, ⟨fun j hj => Or.inl (k j hj), fun a g ha hg e => ?_⟩, u⟩
  have h4 := ok.1
  rw [k _ (by omega)] at e
  exact absurd e (by decide)
theorem H_level (σ : Sg) (a1 a2 a3 : Int32) (I : Inv σ) : w_Lc_level a1 a2 a3 σ (fun r0 τ0 => w_Md_level a1 a2 a3 τ0 (fun r1 τ1 => r0 = r1 ∧ Inv τ1)) := by
  obtain ⟨h, g⟩ := I
  have ok := g.1
  have hm4 := g.1.1
  have RC := g.2.1
  have RM := g.2.2.1
  unfold w_Lc_level
  rcases ix a1 (hm h) (by omega) with o | ⟨a, ha, rfl⟩
  · refine ch_out RC.1 o (cb0 ?_)
    show w_Md_level a1 a2 a3 σ _
    unfold w_Md_level
    exact mh_out RM.1 hm4 o (cb0 ⟨rfl, h, g⟩)
  · refine ch_in RC.1 hm4 ha (cb1 ?_)
    have l3 := (ok.2.1 a ha).2.2.1
    rcases ix a2 (hl h a) (by omega) with o | ⟨k, hk3, rfl⟩
    · refine hl_out ok RC ha o (ca0 ?_)
      show w_Md_level (nI a) a2 a3 σ _
      unfold w_Md_level
      rw [nI_c (by omega), (RM.2.2.2.1 a ha).2.1]
      exact mh_in RM.1 hm4 ha (cb1 ⟨n_in (by omega) (by omega), wn_out rfl o (by omega) (ca0 ⟨rfl, h, g⟩)⟩)
    · refine hl_in ok RC ha hk3 (ca1 ?_)
      have out : (a3 < 1 ∨ 9 < a3) → w_Md_level (nI a) (nI k) a3 σ (fun r1 τ1 => (-2 : Int32) = r1 ∧ Inv τ1) := fun c => by
        unfold w_Md_level
        rw [nI_c (by omega), (RM.2.2.2.1 a ha).2.1]
        exact mh_in RM.1 hm4 ha (cb1 ⟨n_in (by omega) (by omega), wn_in rfl hk3 (by omega) (ca1 (wi_out (l := 1) (u := 9) rfl rfl c (ca0 ⟨rfl, h, g⟩)))⟩)
      unfold w_Lc_isLevelValue
      refine ⟨fun c => ca0 (out (Or.inl c)), fun c => ⟨fun c2 => ca0 (out (Or.inr c2)), fun c2 => ca1 ?_⟩⟩
      have lo : (1 : Int32) ≤ a3 := by rw [le_toInt]; rw [lt_toInt] at c; omega
      have hi : a3 ≤ (9 : Int32) := by rw [le_toInt]; rw [lt_toInt] at c2; omega
      obtain ⟨v, v1, v9, rfl⟩ : ∃ v : Nat, 1 ≤ v ∧ v ≤ 9 ∧ a3 = nI v := by
        have q1 := lo
        have q2 := hi
        rw [le_toInt] at q1 q2
        have z1 : (1 : Int32).toInt = 1 := rfl
        have z2 : (9 : Int32).toInt = 9 := rfl
        exact ⟨a3.toInt.toNat, by omega, by omega, of_toInt (by omega)⟩
      refine tl_ok ok RC ha hk3 ?_
      unfold w_Ho_setLevel
      rw [show (3 : Int32) = nI 3 from rfl, pk_mul, nI_add, nI_c (by omega)]
      refine ⟨n_in (by omega) (by omega), fun τ1 e1 => p_forget (fun τ w1 w2 w3 w4 => ?_)⟩
      show w_Md_level (nI a) (nI k) (nI v) τ _
      have y : ∀ c, c ≠ 0 → c ≠ 30 → c ≠ 4 → τ c = σ c := fun c c0 c1 c2 => by rw [w1 c c0 c1, e1, s2_ne c2]
      have y0 : ∀ j, j ≠ 11 → τ 0 j = σ 0 j := fun j hj => by rw [w2 j hj, e1, s2_ne (by omega)]
      have y4 : τ 4 = upd (σ 4) (3 * a + k) (nI v) := by rw [w1 4 (by omega) (by omega), e1, s2_eq]
      unfold w_Md_level
      rw [nI_c (by omega), y 48 (by omega) (by omega) (by omega), (RM.2.2.2.1 a ha).2.1]
      refine mh_in (by rw [y 43 (by omega) (by omega) (by omega)]; exact RM.1) hm4 ha (cb1 ⟨n_in (by omega) (by omega), wn_in rfl hk3 (by omega) (ca1 (wi_in (l := 1) (u := 9) rfl rfl lo hi (ca1 ?_)))⟩)
      rw [show (3 : Int32) = nI 3 from rfl, pk_mul, nI_add, nI_c (by omega)]
      refine ⟨n_in (by omega) (by omega), fun b eb => ⟨n_in (by omega) (by omega), fun t1 q1 t2 q2 => ⟨?_, ?_⟩⟩⟩
      · rw [eb, y 49 (by omega) (by omega) (by omega)]
        exact ((RM.2.2.2.1 a ha).2.2.1 k hk3).symm
      · have z : ∀ c, c ≠ 43 → c ≠ 49 → t2 c = τ c := fun c c0 c1 => by rw [q2, s2_ne c0, q1, s2_ne c1]
        have z43 : ∀ j, j ≠ 17 → t2 43 j = σ 43 j := fun j hj => by rw [q2, s2_ai hj, q1, s2_ne (by omega), y 43 (by omega) (by omega) (by omega)]
        have z49 : t2 49 = upd (σ 49) (3 * a + k) (nI v) := by rw [q2, s2_ne (by omega), q1, s2_eq, y 49 (by omega) (by omega) (by omega)]
        have x : ∀ c, c ≠ 0 ∧ c ≠ 30 ∧ c ≠ 4 ∧ c ≠ 43 ∧ c ≠ 49 → t2 c = σ c := fun c p => by rw [z c p.2.2.2.1 p.2.2.2.2, y c p.1 p.2.1 p.2.2.1]
        refine Iv_new (h := (hm h, hk h, hl h, (fun j => if j = 3 * a + k then v else ht h j), hT h, hv h, hb h)) ⟨ok.1, fun b hb' => ⟨(ok.2.1 b hb').1, (ok.2.1 b hb').2.1, (ok.2.1 b hb').2.2.1, fun j hj => ?_⟩, ok.2.2.1, ok.2.2.2.1, ok.2.2.2.2⟩ ⟨?_, ?_, ?_, fun b hb' => ⟨?_, ?_, fun j hj => ?_⟩, fun t ht' => ?_⟩ ⟨?_, ?_, ?_, fun b hb' => ⟨?_, ?_, fun j hj => ?_, fun j hj j3 => ?_⟩, fun b hb' b4 => ?_, fun t ht' => ?_⟩ (g.2.2.2.1.of (fun c c1 c2 => x c (by omega)) (x 44 (by omega)) (x 45 (by omega)) (x 46 (by omega))) ⟨?_, ?_⟩ (g.2.2.2.2.2.1.of (by rw [z 0 (by omega) (by omega), y0 10 (by omega)]) (z43 30 (by omega)) (x 41 (by omega)) (x 42 (by omega)) (x 65 (by omega)) (x 66 (by omega))) (by rw [z 0 (by omega) (by omega)]; exact w3) (by rw [q2, s2_at]) (fun j hj => by rw [z 30 (by omega) (by omega)]; exact w4 j hj) (g.2.2.2.2.2.2.2.2.2.of (by rw [x 22 (by omega)]) (by rw [x 22 (by omega)]) (by rw [x 11 (by omega)]) (by rw [x 11 (by omega)]))
        · show 1 ≤ (if 3 * b + j = 3 * a + k then v else ht h (3 * b + j)) ∧ (if 3 * b + j = 3 * a + k then v else ht h (3 * b + j)) ≤ 9
          by_cases q : 3 * b + j = 3 * a + k
          · rw [if_pos q]; exact ⟨v1, v9⟩
          · rw [if_neg q]; exact (ok.2.1 b hb').2.2.2 j hj
        · rw [x 1 (by omega)]; exact RC.1
        · rw [x 1 (by omega)]; exact RC.2.1
        · rw [x 1 (by omega)]; exact RC.2.2.1
        · rw [x 2 (by omega)]; exact (RC.2.2.2.1 b hb').1
        · rw [x 3 (by omega)]; exact (RC.2.2.2.1 b hb').2.1
        · show t2 4 (3 * b + j) = nI (if 3 * b + j = 3 * a + k then v else ht h (3 * b + j))
          rw [z 4 (by omega) (by omega), y4]
          by_cases q : 3 * b + j = 3 * a + k
          · rw [if_pos q, q, pk_us]
          · rw [if_neg q, pk_un q]; exact (RC.2.2.2.1 b hb').2.2 j hj
        · rw [x 5 (by omega)]; exact RC.2.2.2.2 t ht'
        · rw [z43 5 (by omega)]; exact RM.1
        · rw [z43 9 (by omega)]; exact RM.2.1
        · rw [z43 11 (by omega)]; exact RM.2.2.1
        · rw [x 47 (by omega)]; exact (RM.2.2.2.1 b hb').1
        · rw [x 48 (by omega)]; exact (RM.2.2.2.1 b hb').2.1
        · show t2 49 (3 * b + j) = nI (if 3 * b + j = 3 * a + k then v else ht h (3 * b + j))
          rw [z49]
          by_cases q : 3 * b + j = 3 * a + k
          · rw [if_pos q, q, pk_us]
          · rw [if_neg q, pk_un q]; exact (RM.2.2.2.1 b hb').2.2.1 j hj
        · have hj : hl h b ≤ j := hj
          rw [z49, pk_un]
          · exact (RM.2.2.2.1 b hb').2.2.2 j hj j3
          · intro q
            have e1 : b = a := by omega
            subst e1
            omega
        · rw [x 48 (by omega)]; exact RM.2.2.2.2.1 b hb' b4
        · rw [x 50 (by omega)]; exact RM.2.2.2.2.2 t ht'
        · rw [z 0 (by omega) (by omega), y0 13 (by omega), z43 0 (by omega)]; exact g.2.2.2.2.1.1
        · rw [z 0 (by omega) (by omega), y0 12 (by omega), z43 1 (by omega)]; exact g.2.2.2.2.1.2
