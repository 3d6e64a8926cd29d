theorem q_areSo {h : Hh} {n : Nat} {σ : Sg} {K : Int32 → Sg → Prop} (ok : HOk h) (R : RM' h σ) (n8 : n ≤ 8) (r2 : σ 43 30 = nI n) (r3 : ∀ r, r < n → ∃ b v : Nat, b < hm h ∧ v ≤ 2000 ∧ σ 65 r = nI b ∧ σ 66 r = nI v) (hS : ∀ τ, FF σ τ → (∀ r, r < n → en (Dh h) (bst (Dh h)) (σ 65 r).toNatClampNeg (hT h) = (σ 66 r).toNatClampNeg) → K 1 τ) (hN : ∀ τ, FF σ τ → ¬ (∀ r, r < n → en (Dh h) (bst (Dh h)) (σ 65 r).toNatClampNeg (hT h) = (σ 66 r).toNatClampNeg) → K 0 τ) : w_Md_areSo σ K := by
  have hm4 := ok.1
  have T20 := ok.2.2.1
  have key : ∀ m i τ, i + m = n → IM h τ → FF σ τ → (∀ r, r < i → en (Dh h) (bst (Dh h)) (σ 65 r).toNatClampNeg (hT h) = (σ 66 r).toNatClampNeg) → L_Md_areSo_7 K (m + 1) (nI i) τ := by
    intro m
    induction m with
    | zero =>
      intro i τ hi g f hh
      have : i = n := by omega
      subst this
      unfold L_Md_areSo_7
      rw [f.2 30 (by omega), r2]
      exact ⟨fun _ => hS τ f hh, fun q => absurd ((n_le (by omega) (by omega)).mpr (Nat.le_refl _)) q⟩
    | succ m ih =>
      intro i τ hi g f hh
      obtain ⟨b, v, hb2, v2, e65, e66⟩ := r3 i (by omega)
      have el : en (Dh h) (bst (Dh h)) b (hT h) ≤ 18 * hT h := en_le (Dh_ok ok) _ _ _
      unfold L_Md_areSo_7
      rw [f.2 30 (by omega), r2, nI_c (by omega), f.1 65 (by omega) (by omega), e65]
      refine ⟨fun q => absurd ((n_le (by omega) (by omega)).mp q) (by omega), fun _ => ⟨n_in (by omega) (by omega), q_energyOf g hb2 (fun τ2 g2 _ _ f2 => ?_)⟩⟩
      rw [(f.trans f2).1 66 (by omega) (by omega), e66]
      refine ⟨n_in (by omega) (by omega), fun q => ?_, fun q => hN τ2 (f.trans f2) (fun hh' => q ?_)⟩
      · have q := (n_eq (by omega) (by omega)).mp q
        rw [show (1 : Int32) = nI 1 from rfl, nI_add i 1]
        refine ih (i + 1) τ2 (by omega) g2 (f.trans f2) (fun r hr => ?_)
        by_cases e : r = i
        · subst e
          rw [e65, e66, nI_c (by omega), nI_c (by omega)]
          exact q
        · exact hh r (by omega)
      · have q2 := hh' i (by omega)
        rw [e65, e66, nI_c (by omega), nI_c (by omega)] at q2
        rw [q2]
  unfold w_Md_areSo
  intro τ e
  have f : FF σ τ := ⟨fun d h1 _ => by rw [e, s2_ne h1], fun j hj => by rw [e, s2_ai hj]⟩
  exact ⟨n + 1, key n 0 τ (by omega) ⟨ok, R.of (f.2 5 (by omega)) (f.2 9 (by omega)) (f.2 11 (by omega)) (f.1 47 (by omega) (by omega)) (f.1 48 (by omega) (by omega)) (f.1 49 (by omega) (by omega)) (f.1 50 (by omega) (by omega)), fun q => absurd (by rw [e, s2_at]) q⟩ f (fun r hr => absurd hr (by omega))⟩
def msk (b : Nat → Bool) (s : Nat) : Nat → Int32
  | 0 => 0
  | g + 1 => if b g = true then msk b s g ||| (1 <<< (nI (s + g) &&& 31)) else msk b s g
theorem H_kinds (σ : Sg) (a1 : Int32) (I : Inv σ) : w_Lc_kinds a1 σ (fun r0 τ0 => w_Md_kinds a1 τ0 (fun r1 τ1 => r0 = r1 ∧ Inv τ1)) := by
  obtain ⟨h, g⟩ := I
  have ok := g.1
  have hm4 := g.1.1
  unfold w_Lc_kinds
  rcases ix a1 (hm h) (by omega) with o | ⟨a, ha, rfl⟩
  · refine ch_out g.2.1.1 o (ca0 ?_)
    show w_Md_kinds a1 σ _
    unfold w_Md_kinds
    exact mh_out g.2.2.1.1 hm4 o (ca0 ⟨rfl, h, g⟩)
  · refine ch_in g.2.1.1 hm4 ha (ca1 ?_)
    obtain ⟨n, n8, r1, r2, r3⟩ := g.2.2.2.2.2.1
    have ra : ∀ r, r < n → ∃ b v : Nat, b < hm h ∧ v ≤ 2000 ∧ σ 41 r = nI b ∧ σ 42 r = nI v := fun r hr => by
      obtain ⟨b, v, h1, h2, h3, h4, h5, h6⟩ := r3 r hr
      exact ⟨b, v, h1, h2, h3, h5⟩
    have rb : ∀ r, r < n → ∃ b v : Nat, b < hm h ∧ v ≤ 2000 ∧ σ 65 r = nI b ∧ σ 66 r = nI v := fun r hr => by
      obtain ⟨b, v, h1, h2, h3, h4, h5, h6⟩ := r3 r hr
      exact ⟨b, v, h1, h2, h4, h6⟩
    have rab : ∀ r, r < n → σ 41 r = σ 65 r ∧ σ 42 r = σ 66 r := fun r hr => by
      obtain ⟨b, v, h1, h2, h3, h4, h5, h6⟩ := r3 r hr
      exact ⟨by rw [h3, h4], by rw [h5, h6]⟩
    obtain ⟨b, hb⟩ : ∃ b : Nat → Bool, ∀ g, b g = true ↔ hold h a g σ n := ⟨fun g => @decide (hold h a g σ n) (Classical.propDecidable _), fun g => @decide_eq_true_iff _ (Classical.propDecidable _)⟩
    have fin : ∀ τ, Iv h τ → SR σ τ → w_Md_kinds (nI a) τ (fun r1 τ1 => msk b 0 3 = r1 ∧ Inv τ1) := fun τ iv s => by
      sorry
    have key : ∀ m i τ, i + m = 3 → Iv h τ → SR σ τ → L_Lc_kinds_17 (nI a) (fun r0 τ0 => w_Md_kinds (nI a) τ0 (fun r1 τ1 => r0 = r1 ∧ Inv τ1)) (m + 1) (msk b 0 i) (nI i) τ := by
      sorry
    exact ⟨4, key 3 0 σ (by omega) g ⟨fun _ _ => rfl, rfl, rfl, rfl⟩⟩
