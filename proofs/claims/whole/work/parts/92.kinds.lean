theorem q_areSo {h : Hh} {n : Nat} {σ : Sg} {K : Int32 → Sg → Prop} (ok : HOk h) (R : RM' h σ) (n8 : n ≤ 8) (r2 : σ 43 30 = nI n) (r3 : ∀ r, r < n → ∃ b v : Nat, b < hm h ∧ v ≤ 2000 ∧ σ 65 r = nI b ∧ σ 66 r = nI v) (hS : ∀ τ, FF σ τ → (∀ r, r < n → en (Dh h) (bst (Dh h)) (σ 65 r).toNatClampNeg (hT h) = (σ 66 r).toNatClampNeg) → K 1 τ) (hN : ∀ τ, FF σ τ → ¬ (∀ r, r < n → en (Dh h) (bst (Dh h)) (σ 65 r).toNatClampNeg (hT h) = (σ 66 r).toNatClampNeg) → K 0 τ) : w_Md_areSo σ K := by
  have hm4 := ok.1
  have T20 := ok.2.2.1
  have key : ∀ m i τ, i + m = n → IM h τ → FF σ τ → (∀ r, r < i → en (Dh h) (bst (Dh h)) (σ 65 r).toNatClampNeg (hT h) = (σ 66 r).toNatClampNeg) → L_Md_areSo_7 K (m + 1) (nI i) τ := by
    intro m
    induction m with
    | zero =>
      intro i τ hi g f hh
      have : i = n := by omega
      subst this
      unfold L_Md_areSo_7
      rw [f.2 30 (by omega), r2]
      exact ⟨fun _ => hS τ f hh, fun q => absurd ((n_le (by omega) (by omega)).mpr (Nat.le_refl _)) q⟩
    | succ m ih =>
      intro i τ hi g f hh
      obtain ⟨b, v, hb2, v2, e65, e66⟩ := r3 i (by omega)
      have el : en (Dh h) (bst (Dh h)) b (hT h) ≤ 18 * hT h := en_le (Dh_ok ok) _ _ _
      unfold L_Md_areSo_7
      rw [f.2 30 (by omega), r2, nI_c (by omega), f.1 65 (by omega) (by omega), e65]
      refine ⟨fun q => absurd ((n_le (by omega) (by omega)).mp q) (by omega), fun _ => ⟨n_in (by omega) (by omega), q_energyOf g hb2 (fun τ2 g2 _ _ f2 => ?_)⟩⟩
      rw [(f.trans f2).1 66 (by omega) (by omega), e66]
      refine ⟨n_in (by omega) (by omega), fun q => ?_, fun q => hN τ2 (f.trans f2) (fun hh' => q ?_)⟩
      · have q := (n_eq (by omega) (by omega)).mp q
        rw [show (1 : Int32) = nI 1 from rfl, nI_add i 1]
        refine ih (i + 1) τ2 (by omega) g2 (f.trans f2) (fun r hr => ?_)
        by_cases e : r = i
        · subst e
          rw [e65, e66, nI_c (by omega), nI_c (by omega)]
          exact q
        · exact hh r (by omega)
      · have q2 := hh' i (by omega)
        rw [e65, e66, nI_c (by omega), nI_c (by omega)] at q2
        rw [q2]
  unfold w_Md_areSo
  intro τ e
  have f : FF σ τ := ⟨fun d h1 _ => by rw [e, s2_ne h1], fun j hj => by rw [e, s2_ai hj]⟩
  exact ⟨n + 1, key n 0 τ (by omega) ⟨ok, R.of (f.2 5 (by omega)) (f.2 9 (by omega)) (f.2 11 (by omega)) (f.1 47 (by omega) (by omega)) (f.1 48 (by omega) (by omega)) (f.1 49 (by omega) (by omega)) (f.1 50 (by omega) (by omega)), fun q => absurd (by rw [e, s2_at]) q⟩ f (fun r hr => absurd hr (by omega))⟩
/-- the reference has asked itself, and holds its house again -/
theorem Iv.mq {h : Hh} {σ τ : Sg} (g : Iv h σ) (e : ∀ d, d ≠ 43 ∧ (d < 54 ∨ 63 ≤ d) → τ d = σ d) (e43 : ∀ j, j ≠ 17 → τ 43 j = σ 43 j) (z : τ 43 17 = 0) : Iv h τ := by
  obtain ⟨g1, g2, g3, g4, g5, g6, g7, g8, g9, g10⟩ := g
  exact ⟨g1, g2.of (e 1 (by omega)) (e 2 (by omega)) (e 3 (by omega)) (e 4 (by omega)) (e 5 (by omega)), g3.of (e43 5 (by omega)) (e43 9 (by omega)) (e43 11 (by omega)) (e 47 (by omega)) (e 48 (by omega)) (e 49 (by omega)) (e 50 (by omega)), g4.of (fun c h1 h2 => e c (by omega)) (e 44 (by omega)) (e 45 (by omega)) (e 46 (by omega)), ⟨by rw [e 0 (by omega), e43 0 (by omega)]; exact g5.1, by rw [e 0 (by omega), e43 1 (by omega)]; exact g5.2⟩, g6.of (by rw [e 0 (by omega)]) (e43 30 (by omega)) (e 41 (by omega)) (e 42 (by omega)) (e 65 (by omega)) (e 66 (by omega)), g7.of (by rw [e 0 (by omega)]) (e 16 (by omega)) (e 17 (by omega)) (e 18 (by omega)), fun q => absurd z q, g9.of (e 30 (by omega)) (e 31 (by omega)), g10.of (by rw [e 22 (by omega)]) (by rw [e 22 (by omega)]) (by rw [e 11 (by omega)]) (by rw [e 11 (by omega)])⟩
def msk (b : Nat → Bool) (s : Nat) : Nat → Int32
  | 0 => 0
  | g + 1 => if b g = true then msk b s g ||| (1 <<< (nI (s + g) &&& 31)) else msk b s g
theorem H_kinds (σ : Sg) (a1 : Int32) (I : Inv σ) : w_Lc_kinds a1 σ (fun r0 τ0 => w_Md_kinds a1 τ0 (fun r1 τ1 => r0 = r1 ∧ Inv τ1)) := by
  obtain ⟨h, g⟩ := I
  have ok := g.1
  have hm4 := g.1.1
  unfold w_Lc_kinds
  rcases ix a1 (hm h) (by omega) with o | ⟨a, ha, rfl⟩
  · refine ch_out g.2.1.1 o (ca0 ?_)
    show w_Md_kinds a1 σ _
    unfold w_Md_kinds
    exact mh_out g.2.2.1.1 hm4 o (ca0 ⟨rfl, h, g⟩)
  · refine ch_in g.2.1.1 hm4 ha (ca1 ?_)
    obtain ⟨n, n8, r1, r2, r3⟩ := g.2.2.2.2.2.1
    have ra : ∀ r, r < n → ∃ b v : Nat, b < hm h ∧ v ≤ 2000 ∧ σ 41 r = nI b ∧ σ 42 r = nI v := fun r hr => by
      obtain ⟨b, v, h1, h2, h3, h4, h5, h6⟩ := r3 r hr
      exact ⟨b, v, h1, h2, h3, h5⟩
    have rb : ∀ r, r < n → ∃ b v : Nat, b < hm h ∧ v ≤ 2000 ∧ σ 65 r = nI b ∧ σ 66 r = nI v := fun r hr => by
      obtain ⟨b, v, h1, h2, h3, h4, h5, h6⟩ := r3 r hr
      exact ⟨b, v, h1, h2, h4, h6⟩
    have rab : ∀ r, r < n → σ 41 r = σ 65 r ∧ σ 42 r = σ 66 r := fun r hr => by
      obtain ⟨b, v, h1, h2, h3, h4, h5, h6⟩ := r3 r hr
      exact ⟨by rw [h3, h4], by rw [h5, h6]⟩
    obtain ⟨b, hb⟩ : ∃ b : Nat → Bool, ∀ g, b g = true ↔ hold h a g σ n := ⟨fun g => @decide (hold h a g σ n) (Classical.propDecidable _), fun g => @decide_eq_true_iff _ (Classical.propDecidable _)⟩
    have fin : ∀ τ, Iv h τ → SR σ τ → w_Md_kinds (nI a) τ (fun r1 τ1 => msk b 0 3 = r1 ∧ Inv τ1) := fun τ iv s => by
      have RM := iv.2.2.1
      have key2 : ∀ m i (t : Sg), i + m = 3 → (∀ d, d ≠ 43 → d ≠ 47 → d < 54 ∨ 63 ≤ d → t d = τ d) → (∀ j, j ≠ 17 → t 43 j = τ 43 j) → (∀ j, j ≠ a → t 47 j = τ 47 j) → L_Md_kinds_22 (nI a) (τ 47 a) (fun r1 τ1 => msk b 0 3 = r1 ∧ Inv τ1) (m + 1) (msk b 0 i) (nI i) t := by
        intro m
        induction m with
        | zero =>
          intro i t hi f1 f2 f3
          have i3 : i = 3 := hi
          subst i3
          unfold L_Md_kinds_22
          refine ⟨fun _ => ⟨n_in (by omega) (by omega), fun t1 q1 t2 q2 => ⟨rfl, ?_⟩⟩, fun q => absurd (show nI 3 ≤ nI 3 from (n_le (by omega) (by omega)).mpr (Nat.le_refl _)) q⟩
          rw [nI_c (by omega)] at q1
          have x47 : t2 47 = τ 47 := by
            funext j
            rw [q2, s2_ne (by omega), q1]
            by_cases e : j = a
            · rw [e, s2_at]
            · rw [s2_ai e]; exact f3 j e
          have x : ∀ d, d ≠ 43 ∧ (d < 54 ∨ 63 ≤ d) → t2 d = τ d := fun d p => by
            by_cases e : d = 47
            · rw [e]; exact x47
            · rw [q2, s2_ne p.1, q1, s2_ne e, f1 d p.1 e p.2]
          have x43 : ∀ j, j ≠ 17 → t2 43 j = τ 43 j := fun j hj => by rw [q2, s2_ai hj, q1, s2_ne (by omega), f2 j hj]
          exact ⟨h, iv.mq x x43 (by rw [q2, s2_at])⟩
        | succ m ih =>
          intro i t hi f1 f2 f3
          unfold L_Md_kinds_22
          rw [nI_c (by omega)]
          refine ⟨fun q => absurd ((show nI 3 ≤ nI i ↔ 3 ≤ i from n_le (by omega) (by omega)).mp q) (by omega), fun _ => ⟨n_in (by omega) (by omega), fun t1 q1 => ?_⟩⟩
          have x : ∀ d, d ≠ 43 → d ≠ 47 → d < 54 ∨ 63 ≤ d → t1 d = τ d := fun d p1 p2 p3 => by rw [q1, s2_ne p2, f1 d p1 p2 p3]
          have x43 : ∀ j, j ≠ 17 → t1 43 j = τ 43 j := fun j hj => by rw [q1, s2_ne (by omega), f2 j hj]
          have R1 : RM' (gh h a i) t1 := by
            refine ⟨by rw [x43 5 (by omega)]; exact RM.1, by rw [x43 9 (by omega)]; exact RM.2.1, by rw [x43 11 (by omega)]; exact RM.2.2.1, fun c hc => ⟨?_, ?_, fun k hk2 => ?_, fun k hk2 k3 => ?_⟩, fun c hc c4 => by rw [x 48 (by omega) (by omega) (by omega)]; exact RM.2.2.2.2.1 c hc c4, fun t' ht' => by rw [x 50 (by omega) (by omega) (by omega)]; exact RM.2.2.2.2.2 t' ht'⟩
            · show t1 47 c = nI (if c = a ∧ i < 3 then i else hk h c)
              by_cases e : c = a
              · rw [if_pos ⟨e, by omega⟩, q1, e, s2_at]
              · rw [if_neg (by omega), q1, s2_ai e, f3 c e]; exact (RM.2.2.2.1 c hc).1
            · rw [x 48 (by omega) (by omega) (by omega)]; exact (RM.2.2.2.1 c hc).2.1
            · show t1 49 (3 * c + k) = nI (if 3 * c + k = 3 * a ∧ ¬ i < 3 then i - 2 else ht h (3 * c + k))
              rw [if_neg (by omega), x 49 (by omega) (by omega) (by omega)]; exact (RM.2.2.2.1 c hc).2.2.1 k hk2
            · rw [x 49 (by omega) (by omega) (by omega)]; exact (RM.2.2.2.1 c hc).2.2.2 k hk2 k3
          have e65 : t1 65 = σ 65 := by rw [x 65 (by omega) (by omega) (by omega), s.1 65 (by omega)]
          have e66 : t1 66 = σ 66 := by rw [x 66 (by omega) (by omega) (by omega), s.1 66 (by omega)]
          have same : (∀ r, r < n → en (Dh (gh h a i)) (bst (Dh (gh h a i))) (t1 65 r).toNatClampNeg (hT (gh h a i)) = (t1 66 r).toNatClampNeg) ↔ b i = true := by
            rw [hb i, e65, e66]
            exact ⟨fun q r hr => by rw [(rab r hr).1, (rab r hr).2]; exact q r hr, fun q r hr => by rw [← (rab r hr).1, ← (rab r hr).2]; exact q r hr⟩
          have next : ∀ t2, FF t1 t2 → L_Md_kinds_22 (nI a) (τ 47 a) (fun r1 τ1 => msk b 0 3 = r1 ∧ Inv τ1) (m + 1) (msk b 0 (i + 1)) (nI (i + 1)) t2 := fun t2 f => ih (i + 1) t2 (by omega) (fun d p1 p2 p3 => by rw [f.1 d p1 p3, x d p1 p2 p3]) (fun j hj => by rw [f.2 j hj, x43 j hj]) (fun j hj => by rw [f.1 47 (by omega) (by omega), q1, s2_ai hj, f3 j hj])
          refine q_areSo (gh_ok ok ha (by omega)) R1 n8 (by rw [x43 30 (by omega), s.1 43 (by omega)]; exact r2) (by rw [e65, e66]; exact rb) (fun t2 f q => cb1 ?_) (fun t2 f q => cb0 ?_)
          · unfold B_Md_kinds_52
            intro y ey
            have nx := next t2 f
            rw [show msk b 0 (i + 1) = msk b 0 i ||| (1 <<< (nI (0 + i) &&& 31)) from if_pos (same.mp q), Nat.zero_add] at nx
            rw [ey, show nI i + 1 = nI (i + 1) from nI_add i 1]
            exact nx
          · unfold B_Md_kinds_52
            intro y ey
            have nx := next t2 f
            rw [show msk b 0 (i + 1) = msk b 0 i from if_neg (fun e => q (same.mpr e))] at nx
            rw [ey, Int32.or_zero, show nI i + 1 = nI (i + 1) from nI_add i 1]
            exact nx
      unfold w_Md_kinds
      rw [nI_c (by omega)]
      refine mh_in RM.1 hm4 ha (ca1 ⟨n_in (by omega) (by omega), fun y ey => ?_⟩)
      subst ey
      exact ⟨4, key2 3 0 τ (by omega) (fun _ _ _ _ => rfl) (fun _ _ => rfl) (fun _ _ => rfl)⟩
    have key : ∀ m i τ, i + m = 3 → Iv h τ → SR σ τ → L_Lc_kinds_17 (nI a) (fun r0 τ0 => w_Md_kinds (nI a) τ0 (fun r1 τ1 => r0 = r1 ∧ Inv τ1)) (m + 1) (msk b 0 i) (nI i) τ := by
      intro m
      induction m with
      | zero =>
        intro i τ hi iv s
        have i3 : i = 3 := hi
        subst i3
        unfold L_Lc_kinds_17
        exact ⟨fun _ => fin τ iv s, fun q => absurd (show nI 3 ≤ nI 3 from (n_le (by omega) (by omega)).mpr (Nat.le_refl _)) q⟩
      | succ m ih =>
        intro i τ hi iv s
        have same : hold h a i τ n ↔ b i = true := by
          rw [hb i]
          unfold hold
          rw [s.2.1, s.2.2.1]
        have st : ∀ τ2, SR τ τ2 → SR σ τ2 := fun τ2 q => ⟨fun c hc => by rw [q.1 c hc, s.1 c hc], by rw [q.2.1, s.2.1], by rw [q.2.2.1, s.2.2.1], by rw [q.2.2.2, s.2.2.2]⟩
        unfold L_Lc_kinds_17
        refine ⟨fun q => absurd ((show nI 3 ≤ nI i ↔ 3 ≤ i from n_le (by omega) (by omega)).mp q) (by omega), fun _ => p_hold iv ha (by omega) n8 (by rw [s.2.2.2]; exact r1) (by rw [s.2.1, s.2.2.1]; exact ra) (fun τ2 iv2 s2 hh => cb1 (fun y ey => ?_)) (fun τ2 iv2 s2 hh => cb0 ?_)⟩
        · have nx := ih (i + 1) τ2 (by omega) iv2 (st τ2 s2)
          rw [show msk b 0 (i + 1) = msk b 0 i ||| (1 <<< (nI (0 + i) &&& 31)) from if_pos (same.mp hh), Nat.zero_add] at nx
          rw [ey, show nI i + 1 = nI (i + 1) from nI_add i 1]
          exact nx
        · have nx := ih (i + 1) τ2 (by omega) iv2 (st τ2 s2)
          rw [show msk b 0 (i + 1) = msk b 0 i from if_neg (fun e => hh (same.mpr e))] at nx
          rw [show nI i + 1 = nI (i + 1) from nI_add i 1]
          exact nx
    exact ⟨4, key 3 0 σ (by omega) g ⟨fun _ _ => rfl, rfl, rfl, rfl⟩⟩
