theorem p_Md_allValues {h : Hh} {σ : Sg} {K : Int32 → Prop} (ok : HOk h) (R : RM' h σ) (hK : K (nI (sv h (hT h)))) : w_Md_allValues σ K := by
  have T20 := ok.2.2.1
  have key : ∀ n i, i + n = hT h → L_Md_allValues_4 σ K (n + 1) (nI (sv h i)) (nI i) := by
    intro n
    induction n with
    | zero =>
      intro i hi
      have : i = hT h := by omega
      subst this
      unfold L_Md_allValues_4
      rw [R.2.1]
      exact ⟨fun _ => hK, fun c => absurd ((n_le (by omega) (by omega)).mpr (Nat.le_refl _)) c⟩
    | succ n ih =>
      intro i hi
      unfold L_Md_allValues_4
      rw [R.2.1, nI_c (by omega), R.2.2.2.2.2 i (by omega)]
      refine ⟨fun c => absurd ((n_le (by omega) (by omega)).mp c) (by omega), fun _ => ⟨n_in (by omega) (by omega), fun y ey => ?_⟩⟩
      rw [nI_add] at ey
      rw [ey, show nI i + 1 = nI (i + 1) from nI_add i 1]
      exact ih (i + 1) (by omega)
  unfold w_Md_allValues
  exact ⟨hT h + 1, key (hT h) 0 (by omega)⟩
theorem nbC0 {y : Int64} {x4 x5 : Int32} {σ : Sg} {K : Int64 → Prop} (hK : K 0) : w_Lc_nearestBits (lN 0) y x4 x5 σ K := by
  unfold w_Lc_nearestBits
  rw [lg_cmp_le]
  exact ⟨fun _ => hK, fun c => absurd (show (lN 0) ≤ (0 : Int64) by decide) c⟩
theorem nbC1 {x : Int64} {x4 x5 : Int32} {σ : Sg} {K : Int64 → Prop} (hK : K 0) : w_Lc_nearestBits x (lN 0) x4 x5 σ K := by
  unfold w_Lc_nearestBits
  rw [lg_cmp_gt]
  exact ⟨fun _ => hK, fun _ => ⟨fun c => absurd c (show ¬ (0 : Int64) < lN 0 by decide), fun _ => hK⟩⟩
theorem H_mean (σ : Sg) (I : Inv σ) : w_Lc_mean σ (fun r0 => w_Md_mean σ (fun r1 => r0 = r1 ∧ Inv σ)) := by
  have I0 := I
  obtain ⟨h, g⟩ := I
  have ok := g.1
  have T20 := ok.2.2.1
  have sl := sv_le ok (hT h) (Nat.le_refl _)
  unfold w_Lc_mean
  rw [g.2.1.2.1]
  refine ⟨fun c => ?_, fun c => ?_⟩
  · have T0 : ¬ hT h = 0 := fun e => c ((n_eq0 (by omega)).mpr e)
    refine p_Ho_allValues ok g.2.1 ?_
    rw [show (nI (sv h (hT h))).toInt64 = lN (sv h (hT h)) from nI_l (by omega), show (nI (hT h)).toInt64 = lN (hT h) from nI_l (by omega)]
    have enter : ∀ {K : Int64 → Prop}, w_Md_nearestBits (nI (sv h (hT h))) (nI (hT h)) 53 1023 σ K → w_Md_mean σ K := fun {K} hK => by
      unfold w_Md_mean
      rw [g.2.2.1.2.1]
      exact ⟨fun _ => p_Md_allValues ok g.2.2.1 hK, fun q => absurd q c⟩
    by_cases s0 : sv h (hT h) = 0
    · rw [s0]
      refine nbC0 (enter ?_)
      rw [s0]
      unfold w_Md_nearestBits
      exact ⟨fun q => absurd rfl q, fun _ => ⟨rfl, I0⟩⟩
    · obtain ⟨k, k60, F, x62, q2⟩ := fst_b (e := sv h (hT h)) (d := hT h) (P := 4503599627370496) (by omega) (by omega) (by omega) (by omega)
      refine p_nbC (P := 4503599627370496) (W := 1075 - k) (by omega) (by omega) (by omega) (by omega) (by omega) F k60 x62 nb52a (nb52c k k60) (fun u => enter ?_) (fun u => enter ?_)
      · exact p_nbM (P := 4503599627370496) (W := 1075 - k) (by omega) (by omega) (by omega) (by omega) (by omega) q2 F x62 nb52b (nb52d k k60) (nb52e k k60) (fun _ => ⟨rfl, I0⟩) (fun q => absurd u q)
      · exact p_nbM (P := 4503599627370496) (W := 1075 - k) (by omega) (by omega) (by omega) (by omega) (by omega) q2 F x62 nb52b (nb52d k k60) (nb52e k k60) (fun q => absurd q u) (fun _ => ⟨rfl, I0⟩)
  · unfold w_Md_mean
    rw [g.2.2.1.2.1]
    exact ⟨fun q => absurd c q, fun _ => ⟨rfl, I0⟩⟩
theorem H_share (σ : Sg) (a1 : Int32) (I : Inv σ) : w_Lc_share a1 σ (fun r0 τ0 => w_Md_share a1 τ0 (fun r1 τ1 => r0 = r1 ∧ Inv τ1)) := by
  obtain ⟨h, g⟩ := I
  have ok := g.1
  have hm4 := g.1.1
  have T20 := ok.2.2.1
  have sl := sv_le ok (hT h) (Nat.le_refl _)
  unfold w_Lc_share
  rcases ix a1 (hm h) (by omega) with o | ⟨a, ha, rfl⟩
  · refine ch_out g.2.1.1 o (ca0 ?_)
    show w_Md_share a1 σ _
    unfold w_Md_share
    exact mh_out g.2.2.1.1 hm4 o (ca0 ⟨rfl, h, g⟩)
  · refine ch_in g.2.1.1 hm4 ha (ca1 (p_known g (fun τ g d _ => ⟨rfl, n_in (by omega) (by omega), p_Ho_allValues ok g.2.1 ?_⟩)))
    have el : en (Dh h) (bst (Dh h)) a (hT h) ≤ 18 * hT h := en_le (Dh_ok ok) _ _ _
    rw [nI_c (by omega), d.2.1 a ha, show (nI (sv h (hT h))).toInt64 = lN (sv h (hT h)) from nI_l (by omega), show (nI (en (Dh h) (bst (Dh h)) a (hT h))).toInt64 = lN (en (Dh h) (bst (Dh h)) a (hT h)) from nI_l (by omega)]
    have enter0 : sv h (hT h) = 0 → w_Md_share (nI a) τ (fun r1 τ1 => (0 : Int32) = r1 ∧ Inv τ1) := fun s0 => by
      unfold w_Md_share
      refine mh_in g.2.2.1.1 hm4 ha (ca1 (p_Md_allValues ok g.2.2.1 ?_))
      rw [s0]
      exact ⟨fun q => absurd rfl q, fun _ => ⟨rfl, h, g⟩⟩
    have enter : ∀ z : Int32, ¬ sv h (hT h) = 0 → (∀ τ2, Iv h τ2 → w_Md_nearestBits (nI (en (Dh h) (bst (Dh h)) a (hT h))) (nI (sv h (hT h))) 24 127 τ2 (fun u33 => z = u33.toInt32 ∧ Inv τ2)) → w_Md_share (nI a) τ (fun r1 τ1 => z = r1 ∧ Inv τ1) := fun z s0 hK => by
      unfold w_Md_share
      exact mh_in g.2.2.1.1 hm4 ha (ca1 (p_Md_allValues ok g.2.2.1 ⟨fun _ => p_energyOf g ha (fun τ2 g2 _ _ _ => hK τ2 g2), fun q => absurd ((n_eq0 (by omega)).mp q) s0⟩))
    by_cases s0 : sv h (hT h) = 0
    · have e0 := enter0 s0
      rw [s0]
      exact nbC1 e0
    · by_cases e0 : en (Dh h) (bst (Dh h)) a (hT h) = 0
      · have en0 := enter 0 s0
        rw [e0] at en0
        rw [e0]
        refine nbC0 (en0 (fun τ2 g2 => ?_))
        unfold w_Md_nearestBits
        exact ⟨fun q => absurd rfl q, fun _ => ⟨rfl, h, g2⟩⟩
      · obtain ⟨k, k60, F, x62, q2⟩ := fst_b (e := en (Dh h) (bst (Dh h)) a (hT h)) (d := sv h (hT h)) (P := 8388608) (by omega) (by omega) (by omega) (by omega)
        refine p_nbC (P := 8388608) (W := 150 - k) (by omega) (by omega) (by omega) (by omega) (by omega) F k60 x62 nb23a (nb23c k k60) (fun u => enter _ s0 (fun τ2 g2 => ?_)) (fun u => enter _ s0 (fun τ2 g2 => ?_))
        · exact p_nbM (P := 8388608) (W := 150 - k) (by omega) (by omega) (by omega) (by omega) (by omega) q2 F x62 nb23b (nb23d k k60) (nb23e k k60) (fun _ => ⟨rfl, h, g2⟩) (fun q => absurd u q)
        · exact p_nbM (P := 8388608) (W := 150 - k) (by omega) (by omega) (by omega) (by omega) (by omega) q2 F x62 nb23b (nb23d k k60) (nb23e k k60) (fun q => absurd q u) (fun _ => ⟨rfl, h, g2⟩)
