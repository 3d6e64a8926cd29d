def H0 : Hp := (0, (fun _ => 0), (fun _ => 0), (fun _ => 0))
theorem p_readAll {σ0 : Sg} {K : Int32 → Sg → Prop} {P n : Nat} {c : Nat → Int32} (hP : P + n ≤ 240) (hc : ∀ j, j < n → σ0 46 (P + j) = c j) (ea : σ0 43 12 = nI P) (hS : ∀ τ H, psr c n 0 0 H0 = Sum.inr H → FR σ0 τ → RdM H τ → WF 4 H → K 1 τ) (hN : ∀ τ e, psr c n 0 0 H0 = Sum.inl e → e ≤ n → FR σ0 τ → τ 43 12 = nI (P + e) → K 0 τ) : w_Md_readAll (nI (P + n)) σ0 K := by
  have loop : ∀ g j (H : Hp) (τ : Sg), H.1 + g = 4 → j ≤ n → FR σ0 τ → psr c n 0 0 H0 = psr c (n - j) j 4 H → (H.2.2.1 (H.1 - 1) = 3 ∨ j = n ∨ ¬ isd (c j)) → WF 4 H → RdM H τ → τ 43 12 = nI (P + j) → L_Md_readAll_35 (nI (P + n)) K (g + 1) τ := by
    intro g
    induction g with
    | zero =>
      intro j H τ hg hj f e stop w R a
      unfold L_Md_readAll_35
      rw [R.1]
      refine ⟨fun _ => ?_, fun q => absurd ((show nI 4 ≤ nI H.1 ↔ 4 ≤ H.1 from n_le (by omega) (by omega)).mpr (by omega)) q⟩
      unfold B_Md_readAll_63
      rw [a]
      refine ⟨fun q => hN τ j ?_ hj f a, fun q => hS τ H ?_ f R w⟩
      · have jn : j ≠ n := fun e => q (by rw [e])
        rw [e, show n - j = n - (j + 1) + 1 by omega]
        refine psr_none ?_
        unfold pst
        rw [if_neg (by omega), if_neg (by omega), if_neg (by omega), if_neg (by omega), if_neg, if_neg (fun q => by omega)]
        rintro ⟨d, l⟩
        rcases stop with z | z | z
        · omega
        · exact jn z
        · exact z d
      · have jn : P + j = P + n := (n_eq (by omega) (by omega)).mp q
        rw [e, show n - j = 0 by omega]
        rfl
    | succ g ih =>
      intro j H τ hg hj f e stop w R a
      unfold L_Md_readAll_35
      rw [R.1]
      refine ⟨fun q => absurd ((show nI 4 ≤ nI H.1 ↔ 4 ≤ H.1 from n_le (by omega) (by omega)).mp q) (by omega), fun _ => p_sign hP hj hc f a (fun jn ce => cb1 ?_) (fun st => cb0 ?_)⟩
      · have e2 : psr c n 0 0 H0 = psr c (n - (j + 1)) (j + 1) 2 H := by
          rw [e, show n - j = n - (j + 1) + 1 by omega]
          refine psr_some ?_
          unfold pst
          rw [if_neg (by omega), if_neg (by omega), if_neg (by omega), if_neg (by omega), if_neg, if_pos ⟨ce, by omega⟩]
          rintro ⟨d, -⟩
          rw [ce] at d
          exact absurd d (by decide)
        refine p_readApp hP (by omega) hc f.at (WF_M w (Or.inr rfl) (by omega)) R.at s2_at (fun τ2 e3 f2 h1 h2 h3 => ca0 (hN τ2 e3 (by rw [e2, h2]) h1 f2 h3)) (fun τ2 j2 H2 f2 h1 h2 h3 h4 h5 h6 h7 => ca1 (ih j2 H2 τ2 (by omega) h1 f2 (by rw [e2, h2]) h4 h5 h6 h7))
      · unfold B_Md_readAll_63
        rw [a]
        refine ⟨fun q => hN τ j ?_ hj f a, fun q => hS τ H ?_ f R w⟩
        · have jn : j ≠ n := fun e => q (by rw [e])
          rw [e, show n - j = n - (j + 1) + 1 by omega]
          refine psr_none ?_
          unfold pst
          rw [if_neg (by omega), if_neg (by omega), if_neg (by omega), if_neg (by omega), if_neg, if_neg (fun q => st.elim jn (fun z => z q.1))]
          rintro ⟨d, l⟩
          rcases stop with z | z | z
          · omega
          · exact jn z
          · exact z d
        · have jn : P + j = P + n := (n_eq (by omega) (by omega)).mp q
          rw [e, show n - j = 0 by omega]
          rfl
  unfold w_Md_readAll
  intro τ2 e2
  have f2 : FR σ0 τ2 := ⟨fun c c0 _ _ _ => by rw [e2, s2_ne c0], fun j _ h2 => by rw [e2, s2_ai h2]⟩
  have R2 : RdM H0 τ2 := ⟨by rw [e2, s2_at]; rfl, fun a ha => absurd ha (Nat.not_lt_zero _)⟩
  have a2 : τ2 43 12 = nI (P + 0) := by rw [e2, s2_ai (by omega)]; exact ea
  refine p_sign (i := 0) hP (by omega) hc f2 a2 (fun n0 c0 => cb1 ?_) (fun st => cb0 (hN τ2 0 ?_ (by omega) f2 a2))
  · have e1 : psr c n 0 0 H0 = psr c (n - 1) 1 1 H0 := by
      rw [show n = n - 1 + 1 by omega]
      refine psr_some ?_
      unfold pst
      rw [if_pos rfl, if_pos c0]
    refine p_sign (i := 1) hP (by omega) hc f2.at s2_at (fun n1 c1 => cb1 ?_) (fun st => cb0 (hN _ 1 ?_ (by omega) f2.at s2_at))
    · have e3 : psr c n 0 0 H0 = psr c (n - 2) 2 2 H0 := by
        rw [e1, show n - 1 = n - 2 + 1 by omega]
        refine psr_some ?_
        unfold pst
        rw [if_neg (by omega), if_pos rfl, if_pos ⟨c1, by decide⟩]
      have w2 : WF 2 H0 := ⟨by omega, by decide, fun e => absurd e (by omega), fun _ => by decide, fun e => absurd e (by omega), fun e => absurd e (by omega), fun a ha _ => absurd ha (Nat.not_lt_zero _)⟩
      refine p_readApp (i := 2) hP (by omega) hc f2.at.at w2 R2.at.at s2_at (fun τ3 e4 f3 h1 h2 h3 => ca0 (hN τ3 e4 (by rw [e3, h2]) h1 f3 h3)) (fun τ3 j H f3 h1 h2 h3 h4 h5 h6 h7 => ca1 ⟨3 + 1, loop 3 j H τ3 (by rw [h3]; rfl) h1 f3 (by rw [e3, h2]) h4 h5 h6 h7⟩)
    · rw [e1]
      by_cases jn : 1 = n
      · rw [← jn]; rfl
      · rw [show n - 1 = n - 2 + 1 by omega]
        refine psr_none ?_
        unfold pst
        rw [if_neg (by omega), if_pos rfl, if_neg (fun q => st.elim jn (fun z => z q.1))]
  · by_cases jn : 0 = n
    · rw [← jn]; rfl
    · rw [show n = n - 1 + 1 by omega]
      refine psr_none ?_
      unfold pst
      rw [if_pos rfl, if_neg (fun q => st.elim jn (fun z => z q))]
