theorem H_firsts (σ : Sg) (a1 : Int32) (I : Inv σ) : w_Lc_firsts a1 σ (fun r0 τ0 => w_Md_firsts a1 τ0 (fun r1 τ1 => r0 = r1 ∧ Inv τ1)) := by
  obtain ⟨h, g⟩ := I
  have ok := g.1
  have hm4 := g.1.1
  unfold w_Lc_firsts
  rcases ix a1 (hm h) (by omega) with o | ⟨a, ha, rfl⟩
  · refine ch_out g.2.1.1 o (ca0 ?_)
    show w_Md_firsts a1 σ _
    unfold w_Md_firsts
    exact mh_out g.2.2.1.1 hm4 o (ca0 ⟨rfl, h, g⟩)
  · refine ch_in g.2.1.1 hm4 ha (ca1 ?_)
    have l1 := (ok.2.1 a ha).2.1
    obtain ⟨n, n8, r1, r2, r3⟩ := g.2.2.2.2.2.1
    have ra : ∀ r, r < n → ∃ b v : Nat, b < hm h ∧ v ≤ 2000 ∧ σ 41 r = nI b ∧ σ 42 r = nI v := fun r hr => by
      obtain ⟨b, v, h1, h2, h3, h4, h5, h6⟩ := r3 r hr
      exact ⟨b, v, h1, h2, h3, h5⟩
    have rb : ∀ r, r < n → ∃ b v : Nat, b < hm h ∧ v ≤ 2000 ∧ σ 65 r = nI b ∧ σ 66 r = nI v := fun r hr => by
      obtain ⟨b, v, h1, h2, h3, h4, h5, h6⟩ := r3 r hr
      exact ⟨b, v, h1, h2, h4, h6⟩
    have rab : ∀ r, r < n → σ 41 r = σ 65 r ∧ σ 42 r = σ 66 r := fun r hr => by
      obtain ⟨b, v, h1, h2, h3, h4, h5, h6⟩ := r3 r hr
      exact ⟨by rw [h3, h4], by rw [h5, h6]⟩
    obtain ⟨b, hb⟩ : ∃ b : Nat → Bool, ∀ g, b g = true ↔ hold h a (3 + g) σ n := ⟨fun g => @decide (hold h a (3 + g) σ n) (Classical.propDecidable _), fun g => @decide_eq_true_iff _ (Classical.propDecidable _)⟩
    have ex : (3 : Int32) * nI a = nI (3 * a) := by rw [show (3 : Int32) = nI 3 from rfl, pk_mul]
    have fin : ∀ τ, Iv h τ → SR σ τ → w_Md_firsts (nI a) τ (fun r1 τ1 => msk b 1 9 = r1 ∧ Inv τ1) := fun τ iv s => by
      have RM := iv.2.2.1
      have key2 : ∀ m i (t : Sg), i + m = 9 → (∀ d, d ≠ 43 → d ≠ 49 → d < 54 ∨ 63 ≤ d → t d = τ d) → (∀ j, j ≠ 17 → t 43 j = τ 43 j) → (∀ j, j ≠ 3 * a → t 49 j = τ 49 j) → L_Md_firsts_24 (nI a) (τ 49 (3 * a)) (fun r1 τ1 => msk b 1 9 = r1 ∧ Inv τ1) (m + 1) (msk b 1 i) (nI (i + 1)) t := by
        intro m
        induction m with
        | zero =>
          intro i t hi f1 f2 f3
          have i3 : i = 9 := hi
          subst i3
          unfold L_Md_firsts_24
          rw [ex, nI_c (by omega)]
          refine ⟨fun _ => ⟨n_in (by omega) (by omega), fun t1 q1 t2 q2 => ⟨rfl, ?_⟩⟩, fun q => absurd (show nI 9 < nI (9 + 1) from (n_lt (by omega) (by omega)).mpr (by omega)) q⟩
          have x49 : t2 49 = τ 49 := by
            funext j
            rw [q2, s2_ne (by omega), q1]
            by_cases e : j = 3 * a
            · rw [e, s2_at]
            · rw [s2_ai e]; exact f3 j e
          have x : ∀ d, d ≠ 43 ∧ (d < 54 ∨ 63 ≤ d) → t2 d = τ d := fun d p => by
            by_cases e : d = 49
            · rw [e]; exact x49
            · rw [q2, s2_ne p.1, q1, s2_ne e, f1 d p.1 e p.2]
          have x43 : ∀ j, j ≠ 17 → t2 43 j = τ 43 j := fun j hj => by rw [q2, s2_ai hj, q1, s2_ne (by omega), f2 j hj]
          exact ⟨h, iv.mq x x43 (by rw [q2, s2_at])⟩
        | succ m ih =>
          intro i t hi f1 f2 f3
          unfold L_Md_firsts_24
          rw [ex, nI_c (by omega)]
          refine ⟨fun q => absurd ((show nI 9 < nI (i + 1) ↔ 9 < i + 1 from n_lt (by omega) (by omega)).mp q) (by omega), fun _ => ⟨n_in (by omega) (by omega), fun t1 q1 => ?_⟩⟩
          have x : ∀ d, d ≠ 43 → d ≠ 49 → d < 54 ∨ 63 ≤ d → t1 d = τ d := fun d p1 p2 p3 => by rw [q1, s2_ne p2, f1 d p1 p2 p3]
          have x43 : ∀ j, j ≠ 17 → t1 43 j = τ 43 j := fun j hj => by rw [q1, s2_ne (by omega), f2 j hj]
          have R1 : RM' (gh h a (3 + i)) t1 := by
            refine ⟨by rw [x43 5 (by omega)]; exact RM.1, by rw [x43 9 (by omega)]; exact RM.2.1, by rw [x43 11 (by omega)]; exact RM.2.2.1, fun c hc => ⟨?_, ?_, fun k hk2 => ?_, fun k hk2 k3 => ?_⟩, fun c hc c4 => by rw [x 48 (by omega) (by omega) (by omega)]; exact RM.2.2.2.2.1 c hc c4, fun t' ht' => by rw [x 50 (by omega) (by omega) (by omega)]; exact RM.2.2.2.2.2 t' ht'⟩
            · show t1 47 c = nI (if c = a ∧ 3 + i < 3 then 3 + i else hk h c)
              rw [if_neg (by omega), x 47 (by omega) (by omega) (by omega)]; exact (RM.2.2.2.1 c hc).1
            · rw [x 48 (by omega) (by omega) (by omega)]; exact (RM.2.2.2.1 c hc).2.1
            · show t1 49 (3 * c + k) = nI (if 3 * c + k = 3 * a ∧ ¬ 3 + i < 3 then 3 + i - 2 else ht h (3 * c + k))
              by_cases e : 3 * c + k = 3 * a
              · rw [if_pos ⟨e, by omega⟩, q1, e, s2_at, show 3 + i - 2 = i + 1 by omega]
              · rw [if_neg (by omega), q1, s2_ai e, f3 _ e]; exact (RM.2.2.2.1 c hc).2.2.1 k hk2
            · have hk2' : hl h c ≤ k := hk2
              have l1c := (ok.2.1 c hc).2.1
              rw [q1, s2_ai (by omega), f3 _ (by omega)]; exact (RM.2.2.2.1 c hc).2.2.2 k hk2 k3
          have e65 : t1 65 = σ 65 := by rw [x 65 (by omega) (by omega) (by omega), s.1 65 (by omega)]
          have e66 : t1 66 = σ 66 := by rw [x 66 (by omega) (by omega) (by omega), s.1 66 (by omega)]
          have same : (∀ r, r < n → en (Dh (gh h a (3 + i))) (bst (Dh (gh h a (3 + i)))) (t1 65 r).toNatClampNeg (hT (gh h a (3 + i))) = (t1 66 r).toNatClampNeg) ↔ b i = true := by
            rw [hb i, e65, e66]
            exact ⟨fun q r hr => by rw [(rab r hr).1, (rab r hr).2]; exact q r hr, fun q r hr => by rw [← (rab r hr).1, ← (rab r hr).2]; exact q r hr⟩
          have next : ∀ t2, FF t1 t2 → L_Md_firsts_24 (nI a) (τ 49 (3 * a)) (fun r1 τ1 => msk b 1 9 = r1 ∧ Inv τ1) (m + 1) (msk b 1 (i + 1)) (nI (i + 1 + 1)) t2 := fun t2 f => ih (i + 1) t2 (by omega) (fun d p1 p2 p3 => by rw [f.1 d p1 p3, x d p1 p2 p3]) (fun j hj => by rw [f.2 j hj, x43 j hj]) (fun j hj => by rw [f.1 49 (by omega) (by omega), q1, s2_ai hj, f3 j hj])
          refine q_areSo (gh_ok ok ha (by omega)) R1 n8 (by rw [x43 30 (by omega), s.1 43 (by omega)]; exact r2) (by rw [e65, e66]; exact rb) (fun t2 f q => cb1 ?_) (fun t2 f q => cb0 ?_)
          · unfold B_Md_firsts_57
            intro y ey
            have nx := next t2 f
            rw [show msk b 1 (i + 1) = msk b 1 i ||| (1 <<< (nI (1 + i) &&& 31)) from if_pos (same.mp q), Nat.add_comm 1 i] at nx
            rw [ey, show nI (i + 1) + 1 = nI (i + 1 + 1) from nI_add (i + 1) 1]
            exact nx
          · unfold B_Md_firsts_57
            intro y ey
            have nx := next t2 f
            rw [show msk b 1 (i + 1) = msk b 1 i from if_neg (fun e => q (same.mpr e))] at nx
            rw [ey, Int32.or_zero, show nI (i + 1) + 1 = nI (i + 1 + 1) from nI_add (i + 1) 1]
            exact nx
      unfold w_Md_firsts
      rw [ex, nI_c (by omega)]
      refine mh_in RM.1 hm4 ha (ca1 ⟨n_in (by omega) (by omega), fun y ey => ?_⟩)
      subst ey
      exact ⟨10, key2 9 0 τ (by omega) (fun _ _ _ _ => rfl) (fun _ _ => rfl) (fun _ _ => rfl)⟩
    have key : ∀ m i τ, i + m = 9 → Iv h τ → SR σ τ → L_Lc_firsts_17 (nI a) (fun r0 τ0 => w_Md_firsts (nI a) τ0 (fun r1 τ1 => r0 = r1 ∧ Inv τ1)) (m + 1) (msk b 1 i) (nI (i + 1)) τ := by
      intro m
      induction m with
      | zero =>
        intro i τ hi iv s
        have i3 : i = 9 := hi
        subst i3
        unfold L_Lc_firsts_17
        exact ⟨fun _ => fin τ iv s, fun q => absurd (show nI 9 < nI (9 + 1) from (n_lt (by omega) (by omega)).mpr (by omega)) q⟩
      | succ m ih =>
        intro i τ hi iv s
        have same : hold h a (3 + i) τ n ↔ b i = true := by
          rw [hb i]
          unfold hold
          rw [s.2.1, s.2.2.1]
        have st : ∀ τ2, SR τ τ2 → SR σ τ2 := fun τ2 q => ⟨fun c hc => by rw [q.1 c hc, s.1 c hc], by rw [q.2.1, s.2.1], by rw [q.2.2.1, s.2.2.1], by rw [q.2.2.2, s.2.2.2]⟩
        have gx : ((3 : Int32) + nI (i + 1)) - 1 = nI (3 + i) := by
          rw [show (3 : Int32) = nI 3 from rfl, show (1 : Int32) = nI 1 from rfl, nI_add, n_sub (by omega), show 3 + (i + 1) - 1 = 3 + i by omega]
        unfold L_Lc_firsts_17
        rw [gx]
        refine ⟨fun q => absurd ((show nI 9 < nI (i + 1) ↔ 9 < i + 1 from n_lt (by omega) (by omega)).mp q) (by omega), fun _ => p_hold iv ha (by omega) n8 (by rw [s.2.2.2]; exact r1) (by rw [s.2.1, s.2.2.1]; exact ra) (fun τ2 iv2 s2 hh => cb1 (fun y ey => ?_)) (fun τ2 iv2 s2 hh => cb0 ?_)⟩
        · have nx := ih (i + 1) τ2 (by omega) iv2 (st τ2 s2)
          rw [show msk b 1 (i + 1) = msk b 1 i ||| (1 <<< (nI (1 + i) &&& 31)) from if_pos (same.mp hh), Nat.add_comm 1 i] at nx
          rw [ey, show nI (i + 1) + 1 = nI (i + 1 + 1) from nI_add (i + 1) 1]
          exact nx
        · have nx := ih (i + 1) τ2 (by omega) iv2 (st τ2 s2)
          rw [show msk b 1 (i + 1) = msk b 1 i from if_neg (fun e => hh (same.mpr e))] at nx
          rw [show nI (i + 1) + 1 = nI (i + 1 + 1) from nI_add (i + 1) 1]
          exact nx
    exact ⟨10, key 9 0 σ (by omega) g ⟨fun _ _ => rfl, rfl, rfl, rfl⟩⟩
