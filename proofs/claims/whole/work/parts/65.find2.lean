/-- what the reference keeps of BEST -/
def MB (h : Hh) (σ : Sg) : Prop := (∀ t, t < hT h → σ 62 t = nI (bst (Dh h) t) ∧ vr (Dh h) (bst (Dh h) t)) ∧ ∀ r, r < 256 → σ 54 r = nI (pu (Dh h) r (hm h))
theorem p_walkBack {h : Hh} {K : Sg → Prop} {σ0 : Sg} (ok : HOk h) (B : FB h (hT h) σ0) (hK : ∀ τ : Sg, (∀ d, d ≠ 62 → τ d = σ0 d) → MB h τ → K τ) : w_Md_walkBack σ0 K := by
  have hD := Dh_ok ok
  have hT20 := ok.2.2.1
  obtain ⟨R, M, c, k, A, I, Ch⟩ := B
  have m9 : (-9 : Int32).toInt = -9 := rfl
  have h00 : c 0 ≠ -9 := by
    have e := (I.2.1 (fun _ => 0) (fe_off hD (hT h))).1
    have e1 : pv (fun _ => 0) (hT h) = 0 := by cases hT h <;> rfl
    rw [e1] at e
    exact e
  -- the second loop: back along the way
  have back : ∀ (last : Nat), last < 256 → c last ≠ -9 → (∀ q, q < 256 → c q ≠ -9 → c last < c q ∨ (c last = c q ∧ k last ≤ k q)) → ∃ m, L_Md_walkBack_92 K m (nI last) (nI (hT h) - 1) σ0 := by
    intro last hlast hc hmin
    have hB : IsB (Dh h) 100 (bp (Fs σ0) (hT h) last) := FI_best (D := Dh h) I hlast hc hmin hD
    have eb : ∀ t, t < hT h → bp (Fs σ0) (hT h) last t = bst (Dh h) t := bst_eq hB
    have ech := Ch last hlast hc
    have hpvT : pv (bp (Fs σ0) (hT h) last) (hT h) = last := (I.1 last hlast hc).2.2.1
    have go2 : ∀ j v (σ : Sg), j ≤ hT h → dn j v → (∀ d, d ≠ 62 → σ d = σ0 d) → (∀ t, j ≤ t → t < hT h → σ 62 t = nI (bst (Dh h) t)) → L_Md_walkBack_92 K (j + 1) (nI (pv (bp (Fs σ0) (hT h) last) j)) v σ := by
      intro j
      induction j with
      | zero =>
        intro v σ _ hv h1 h2
        unfold L_Md_walkBack_92
        refine ⟨fun _ => hK σ h1 ⟨fun t ht => ⟨h2 t (by omega) ht, ?_⟩, fun q hq => by rw [h1 54 (by omega)]; exact M.1 q hq⟩, fun g => absurd hv g⟩
        rw [← eb t ht]
        exact fe_vrp hD hB.1 t ht
      | succ t ih =>
        intro v σ hj hv h1 h2
        have hv : v = nI t := hv
        subst hv
        have htT : t < hT h := by omega
        obtain ⟨e1, e2⟩ := ech t htT
        show L_Md_walkBack_92 K (t + 1 + 1) (nI (bp (Fs σ0) (hT h) last t)) (nI t) σ
        unfold L_Md_walkBack_92
        refine ⟨fun g => absurd g (n_neg t (by omega)), fun _ => ⟨n_in (by omega) (by omega), fun τ e => ?_⟩⟩
        rw [nI_c (by omega)] at e
        subst e
        rw [show (256 : Int32) = nI 256 from rfl, pk_mul, nI_add, nI_c (by omega)]
        refine ⟨n_in (by omega) (by omega), fun y hy => ?_⟩
        rw [s2_ne (by omega), h1 61 (by omega), e1] at hy
        rw [hy]
        refine ih _ _ (by omega) dn_s (fun d hd => by rw [s2_ne hd]; exact h1 d hd) (fun u hu1 hu2 => ?_)
        by_cases e : u = t
        · subst e
          rw [s2_at, eb u htT]
        · rw [s2_ai e]; exact h2 u (by omega) hu2
    have := go2 (hT h) _ σ0 (Nat.le_refl _) dn_of (fun _ _ => rfl) (fun t h1 h2 => absurd h2 (by omega))
    rw [hpvT] at this
    exact ⟨_, this⟩
  have key : ∀ m i last, i + m = 256 → last < 256 → c last ≠ -9 → (∀ q, q < i → c q ≠ -9 → c last < c q ∨ (c last = c q ∧ k last ≤ k q)) → L_Md_walkBack_4 K (m + 1) (nI last) (nI i) σ0 := by
    intro m
    induction m with
    | zero =>
      intro i last hi hl hc hmin
      have : i = 256 := by omega
      subst this
      unfold L_Md_walkBack_4
      refine ⟨fun _ y hy => ?_, fun g => absurd (show (256 : Int32) ≤ nI 256 by decide) g⟩
      rw [hy, R.2.1]
      exact back last hl hc hmin
    | succ m ih =>
      intro i last hi hl hc hmin
      have hAl := A.2 last hl hc
      have stay : (c i ≠ -9 → c last < c i ∨ (c last = c i ∧ k last ≤ k i)) → L_Md_walkBack_4 K (m + 1) (nI last) (nI i + 1) σ0 := fun g => by
        rw [show (1 : Int32) = nI 1 from rfl, nI_add]
        refine ih (i + 1) last (by omega) hl hc (fun q hq hcq => ?_)
        by_cases e : q = i
        · subst e; exact g hcq
        · exact hmin q (by omega) hcq
      have take : c i ≠ -9 → (c i < c last ∨ (c i = c last ∧ k i ≤ k last)) → L_Md_walkBack_4 K (m + 1) (nI i) (nI i + 1) σ0 := fun hci g => by
        rw [show (1 : Int32) = nI 1 from rfl, nI_add]
        refine ih (i + 1) i (by omega) (by omega) hci (fun q hq hcq => ?_)
        by_cases e : q = i
        · subst e; exact Or.inr ⟨rfl, Nat.le_refl _⟩
        · rcases hmin q (by omega) hcq with g1 | ⟨g1, g2⟩
          · left; omega
          · rcases g with g | ⟨g, g3⟩
            · left; omega
            · right; exact ⟨by omega, by omega⟩
      have b56 : (c i ≠ -9 → (c i < c last ∨ (c i = c last ∧ k i ≤ k last))) → B_Md_walkBack_56 K (fun a0 a1 a2 => L_Md_walkBack_4 K (m + 1) a0 a1 a2) (nI last) (nI i) σ0 := fun g => by
        unfold B_Md_walkBack_56 B_Md_walkBack_61
        rw [nI_c (by omega)]
        refine ⟨n_in (by omega) (by omega), fun g2 => stay (fun hci => absurd (by rw [← A.1 i (by omega), g2]; rfl) hci), fun g2 => ⟨fun e => absurd e (by decide), fun _ => ?_⟩⟩
        have hci : c i ≠ -9 := fun e => g2 (by rw [eq_toInt, A.1 i (by omega), e]; rfl)
        exact take hci (g hci)
      have b60 : (c i ≠ -9 → c last < c i ∨ (c last = c i ∧ k last ≤ k i)) → B_Md_walkBack_60 K (fun a0 a1 a2 => L_Md_walkBack_4 K (m + 1) a0 a1 a2) (nI last) (nI i) σ0 := fun g => by
        unfold B_Md_walkBack_60 B_Md_walkBack_61
        rw [nI_c (by omega)]
        refine ⟨n_in (by omega) (by omega), fun g2 => stay g, fun g2 => ⟨fun _ => stay g, fun e => absurd rfl e⟩⟩
      unfold L_Md_walkBack_4
      rw [nI_c (n := i) (by omega), nI_c (n := last) (by omega)]
      refine ⟨fun g => absurd (show 256 ≤ i from (n_le (by omega) (by omega)).mp g) (by omega), fun _ => ⟨n_in (by omega) (by omega), n_in (by omega) (by omega), fun g => ?_, fun g => ⟨n_in (by omega) (by omega), n_in (by omega) (by omega), fun g2 => ?_, fun g2 => ⟨n_in (by omega) (by omega), n_in (by omega) (by omega), fun g3 => ?_, fun g3 => ?_⟩⟩⟩⟩
      · rw [lt_toInt, A.1 i (by omega), A.1 last hl] at g
        exact b56 (fun _ => Or.inl g)
      · rw [lt_toInt, A.1 i (by omega), A.1 last hl] at g
        rw [eq_toInt, A.1 i (by omega), A.1 last hl] at g2
        exact b60 (fun _ => Or.inl (by omega))
      · rw [eq_toInt, A.1 i (by omega), A.1 last hl] at g2
        have hAi := A.2 i (by omega) (by rw [g2]; exact hc)
        rw [hAl.2.2.2.1, hAi.2.2.2.1] at g3
        have b1 := hAl.2.2.2.2
        have b2 := hAi.2.2.2.2
        have g3 := (n_le (by omega) (by omega)).mp g3
        exact b60 (fun _ => Or.inr ⟨g2.symm, g3⟩)
      · rw [eq_toInt, A.1 i (by omega), A.1 last hl] at g2
        have hAi := A.2 i (by omega) (by rw [g2]; exact hc)
        rw [hAl.2.2.2.1, hAi.2.2.2.1] at g3
        have b1 := hAl.2.2.2.2
        have b2 := hAi.2.2.2.2
        have g3 : ¬ k last ≤ k i := fun e => g3 ((n_le (by omega) (by omega)).mpr e)
        exact b56 (fun _ => Or.inr ⟨g2, by omega⟩)
  unfold w_Md_walkBack
  exact ⟨257, key 256 0 0 (by omega) (by omega) h00 (fun q hq => absurd hq (by omega))⟩
theorem p_findBest {h : Hh} {K : Sg → Prop} {σ0 : Sg} (ok : HOk h) (R : RM' h σ0) (hc : ¬ σ0 43 17 = 0 → MB h σ0)
    (hK : ∀ τ : Sg, (∀ d, d ≠ 43 → d < 54 ∨ 63 ≤ d → τ d = σ0 d) → (∀ j, j ≠ 17 → τ 43 j = σ0 43 j) → (¬ τ 43 17 = 0) → MB h τ → K τ) : w_Md_findBest σ0 K := by
  have hD := Dh_ok ok
  have hT20 := ok.2.2.1
  unfold w_Md_findBest
  refine ⟨fun _ τ1 e1 => ?_, fun g => hK σ0 (fun _ _ _ => rfl) (fun _ _ => rfl) g (hc g)⟩
  have f1 : ∀ d, d ≠ 43 → τ1 d = σ0 d := fun d hd => by rw [e1, s2_ne hd]
  have f43 : ∀ j, j ≠ 17 → τ1 43 j = σ0 43 j := fun j hj => by rw [e1, s2_ai hj]
  have R1 : RM' h τ1 := R.of (f43 5 (by omega)) (f43 9 (by omega)) (f43 11 (by omega)) (f1 47 (by omega)) (f1 48 (by omega)) (f1 49 (by omega)) (f1 50 (by omega))
  have e17 : ¬ τ1 43 17 = 0 := by rw [e1, s2_at]; decide
  refine p_Md_prepare ok R1 (fun τ2 a1 M a2 a3 a4 => ?_)
  have a5 : ∀ d, d < 54 ∨ 58 ≤ d → τ2 d = τ1 d := fun d hd => a1 d (by omega) (by omega) (by omega) (by omega)
  have m9 : (-9 : Int32).toInt = -9 := rfl
  have B0 : FB h 0 τ2 := by
    refine ⟨R1.fr (fun d hd => a5 d (by omega)), M, fun r => (τ2 56 r).toInt, fun r => 0, ⟨fun r _ => rfl, fun r hr hcr => ?_⟩, FI_0 hD ?_ (fun r hr h0 => ?_) (by omega), fun r hr _ t ht => absurd ht (by omega)⟩
    · have : r = 0 := by
        rcases Nat.eq_zero_or_pos r with e | e
        · exact e
        · exact absurd (by show (τ2 56 r).toInt = -9; rw [a3 r hr (by omega)]; rfl) hcr
      subst this
      refine ⟨vr_0 hD, ?_, ?_, a4 0 (by omega), by omega⟩
      · show 0 ≤ (τ2 56 0).toInt
        rw [a2]; decide
      · show (τ2 56 0).toInt ≤ 200000
        rw [a2]; decide
    · show (τ2 56 0).toInt = 0
      rw [a2]; rfl
    · show (τ2 56 r).toInt = -9
      rw [a3 r hr h0]; rfl
  have key : ∀ m n (σ : Sg), n + m = hT h → (∀ d, d < 54 ∨ 62 ≤ d → σ d = τ1 d) → FB h n σ → L_Md_findBest_19 K (m + 1) (nI n) σ := by
    intro m
    induction m with
    | zero =>
      intro n σ hn h1 B
      have : n = hT h := by omega
      subst this
      unfold L_Md_findBest_19
      rw [B.1.2.1]
      refine ⟨fun _ => p_walkBack ok B (fun τ g1 g2 => ?_), fun g => absurd ((n_le (by omega) (by omega)).mpr (Nat.le_refl _)) g⟩
      refine hK τ (fun d d1 d2 => ?_) (fun j hj => ?_) ?_ g2
      · rw [g1 d (by omega), h1 d (by omega), f1 d d1]
      · rw [g1 43 (by omega), h1 43 (by omega), f43 j hj]
      · rw [g1 43 (by omega), h1 43 (by omega)]; exact e17
    | succ m ih =>
      intro n σ hn h1 B
      unfold L_Md_findBest_19
      rw [B.1.2.1]
      refine ⟨fun g => absurd ((n_le (by omega) (by omega)).mp g) (by omega), fun _ => ?_⟩
      refine q_time ok (by omega) B (fun τ g1 g2 => ih (n + 1) τ (by omega) (fun d hd => ?_) g2)
      rw [g1 d (by omega)]
      exact h1 d hd
  exact ⟨hT h + 1, key (hT h) 0 τ2 (by omega) (fun d hd => a5 d (by omega)) B0⟩
