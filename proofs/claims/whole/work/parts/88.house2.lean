theorem Iv.txt {h : Hh} {σ τ : Sg} (g : Iv h σ) (e : ∀ c, c ≠ 0 ∧ c ≠ 28 ∧ c ≠ 11 ∧ c ≠ 12 ∧ c ≠ 13 ∧ c ≠ 14 ∧ c ≠ 43 ∧ c ≠ 51 ∧ c ≠ 52 ∧ c ≠ 53 → τ c = σ c) (e0 : ∀ j, j ≠ 13 → τ 0 j = σ 0 j) (e43 : ∀ j, j ≠ 0 → j ≠ 12 → j ≠ 13 → τ 43 j = σ 43 j) (ef : τ 0 13 = τ 43 0) (e11 : ∀ j, j ≠ 4 → τ 11 j = σ 11 j) : Inv τ := by
  obtain ⟨g1, g2, g3, g4, g5, g6, g7, g8, g9, g10⟩ := g
  exact ⟨h, g1, g2.of (e 1 (by omega)) (e 2 (by omega)) (e 3 (by omega)) (e 4 (by omega)) (e 5 (by omega)), g3.of (e43 5 (by omega) (by omega) (by omega)) (e43 9 (by omega) (by omega) (by omega)) (e43 11 (by omega) (by omega) (by omega)) (e 47 (by omega)) (e 48 (by omega)) (e 49 (by omega)) (e 50 (by omega)), g4.of (fun c h1 h2 => e c (by omega)) (e 44 (by omega)) (e 45 (by omega)) (e 46 (by omega)), ⟨ef, by rw [e0 12 (by omega), e43 1 (by omega) (by omega) (by omega)]; exact g5.2⟩, g6.of (e0 10 (by omega)) (e43 30 (by omega) (by omega) (by omega)) (e 41 (by omega)) (e 42 (by omega)) (e 65 (by omega)) (e 66 (by omega)), g7.of (e0 11 (by omega)) (e 16 (by omega)) (e 17 (by omega)) (e 18 (by omega)), g8.of (e43 17 (by omega) (by omega) (by omega)) (e 62 (by omega)) (e 54 (by omega)), g9.of (e 30 (by omega)) (e 31 (by omega)), g10.of (by rw [e 22 (by omega)]) (by rw [e 22 (by omega)]) (e11 5 (by omega)) (e11 6 (by omega))⟩
theorem H_house (σ : Sg) (a1 a2 a3 a4 : Int32) (I : Inv σ) : w_Lc_house a1 a2 a3 a4 σ (fun r0 τ0 => w_Md_house a1 a2 a3 a4 τ0 (fun r1 τ1 => r0 = r1 ∧ Inv τ1)) := by
  obtain ⟨h, g⟩ := I
  unfold w_Lc_house
  intro τ2 e2
  have f2 : FzC 0 σ τ2 := by rw [e2]; exact fzc
  clear e2
  rcases ix a1 4 (by omega) with o | ⟨k, k4, rfl⟩
  · refine cs_out o (ca0 ?_)
    show w_Md_house a1 a2 a3 a4 τ2 _
    unfold w_Md_house
    intro τ3 e3
    subst e3
    exact ms_out o (ca0 ⟨rfl, g.fz f2 fzm⟩)
  · refine cs_in k4 (ca1 ?_)
    rcases ix a2 3 (by omega) with o | ⟨l, l3, rfl⟩
    · refine cl_out o (ca0 ?_)
      show w_Md_house (nI k) a2 a3 a4 τ2 _
      unfold w_Md_house
      intro τ3 e3
      subst e3
      exact ms_in k4 (ca1 (ml_out o (ca0 ⟨rfl, g.fz f2 fzm⟩)))
    · refine cl_in l3 (ca1 ⟨n_in (by omega) (by omega), ?_⟩)
      rw [nI_c (by omega)]
      have S2 := f2.sh g.2.2.2.1
      have fault : ∀ v : Int32, ¬ v = 0 → (∀ (K : Int32 → Prop) (t : Sg), t 44 = τ2 44 → t 45 = τ2 45 → K v → w_Md_against (nI k) (nI l) a3 a4 t K) → B_Lc_house_72 (nI k) (nI l) a3 a4 (fun r0 τ0 => w_Md_house (nI k) (nI l) a3 a4 τ0 (fun r1 τ1 => r0 = r1 ∧ Inv τ1)) (33 + 2 * k) v τ2 := fun v v0 ag => by
        unfold B_Lc_house_72
        refine ⟨fun e => absurd e v0, fun _ => ?_⟩
        unfold w_Lc_faulted
        intro τ4 e4
        have f4 : FzC v σ τ4 := by rw [e4]; exact f2.again
        show w_Md_house (nI k) (nI l) a3 a4 τ4 _
        unfold w_Md_house
        intro t1 q1
        refine ms_in k4 (ca1 (ml_in l3 (ca1 (ag _ t1 (by rw [q1, s2_ne (by omega), e4, s2_ne (by omega)]) (by rw [q1, s2_ne (by omega), e4, s2_ne (by omega)]) ⟨fun e => absurd e v0, fun _ => ?_⟩))))
        unfold w_Md_fails
        intro t2 q2
        subst q2
        subst q1
        exact ⟨rfl, g.fz f4 (fzm.again (u := 0))⟩
      have fault53 : ∀ v : Int32, ¬ v = 0 → (∀ (K : Int32 → Prop) (t : Sg), t 44 = τ2 44 → t 45 = τ2 45 → K v → w_Md_against (nI k) (nI l) a3 a4 t K) → B_Lc_house_53 (nI k) (nI l) a3 a4 (fun r0 τ0 => w_Md_house (nI k) (nI l) a3 a4 τ0 (fun r1 τ1 => r0 = r1 ∧ Inv τ1)) (33 + 2 * k) v τ2 := fun v v0 ag => by
        unfold B_Lc_house_53
        exact ⟨fun _ => fault v v0 ag, fun e => absurd e v0⟩
      rcases (S2 k k4).1 with ⟨s1, s2'⟩ | ⟨L, n0, hL, hn, s1, s2', s3, s4⟩
      · exact p_fRow0 s1 (ca1 (fault53 1 (by decide) (fun K t e _ hK => p_ag0 k4 (by rw [e]; exact s2') hK)))
      · refine p_fRow s3 hn s1 hL l3 (fun eL => ca0 ⟨fun c => ?_, fun c => ?_⟩) (fun eL => ca2 (fault53 2 (by decide) (fun K t e1 e2 hK => p_ag k4 (by rw [e1]; exact s2') hL l3 (by rw [e2]; exact s4) hn (fun _ => hK) (fun q => absurd q eL) (fun q => absurd q eL) (fun q => absurd q eL))))
        · have cn : ¬ a4 < 0 := by rw [le_toInt] at c; rw [lt_toInt]; omega
          unfold B_Lc_house_53
          refine ca0 (p_holds s3 hn (fun hd => ca1 ?_) (fun hd => ca0 (fault 3 (by decide) (fun K t e1 e2 hK => p_ag k4 (by rw [e1]; exact s2') hL l3 (by rw [e2]; exact s4) hn (fun q => absurd eL q) (fun _ q => absurd q cn) (fun _ _ _ => hK) (fun _ q => absurd q hd)))))
          have hd0 := hd
          obtain ⟨a, n, rfl, rfl, han⟩ := hd
          have enter : ∀ {τ : Sg} {K : Int32 → Sg → Prop}, τ 44 = τ2 44 → τ 45 = τ2 45 → (∀ t : Sg, t = s2 (s2 τ 43 0 0) 43 12 (nI (60 * k + a)) → w_Md_readAll (nI (60 * k + a + n)) t (fun u67 τ67 => ((¬ u67 = 0 → (∀ τ89 : Sg, τ89 = s2 τ67 43 5 (τ67 43 13) → (∃ n19 : Nat, L_Md_house_95 (nI k) (nI l) (nI a) (nI n) K n19 0 τ89))) ∧ (u67 = 0 → K ((-100) - ((τ67 43 12) - nI (60 * k + a))) τ67)))) → w_Md_house (nI k) (nI l) (nI a) (nI n) τ K := fun {τ K} e44 e45 hK => by
            unfold w_Md_house
            intro t1 q1
            have u44 : t1 44 = τ2 44 := by rw [q1, s2_ne (by omega), e44]
            have u45 : t1 45 = τ2 45 := by rw [q1, s2_ne (by omega), e45]
            refine ms_in k4 (ca1 (ml_in l3 (ca1 (p_ag k4 (by rw [u44]; exact s2') hL l3 (by rw [u45]; exact s4) hn (fun q => absurd eL q) (fun _ q => absurd q cn) (fun _ _ q => absurd hd0 q) (fun _ _ => cb0 (fun y ey t2 q2 => ?_))))))
            rw [show (60 : Int32) = nI 60 from rfl, pk_mul, nI_add] at ey
            subst ey
            rw [nI_add]
            subst q1
            exact hK t2 q2
          unfold B_Lc_house_72
          refine cb0 (p_firstFault (c := fun j => τ2 (34 + 2 * k) (a + j)) ⟨by omega, by omega, by omega, by omega, by omega⟩ (by omega) (fun j hj => by rw [show 33 + 2 * k + 1 = 34 + 2 * k by omega]) (fun τ H eH f3 R3 w3 => ?_) (fun τ e ee en' f3 => ?_))
          · -- a house is told
            refine ⟨fun _ => ?_, fun q => absurd rfl q⟩
            have u5 : τ 11 5 = nI 0 := by rw [f3.2 5 (by omega), f2.1 11 (by omega)]; exact g.2.2.2.2.2.2.2.2.2.2.1
            have u6 : τ 11 6 = nI 0 := by rw [f3.2 6 (by omega), f2.1 11 (by omega)]; exact g.2.2.2.2.2.2.2.2.2.2.2
            have ok' : HOk (H.1, H.2.1, H.2.2.1, H.2.2.2, 0, (fun _ => 0), 0) := ⟨w3.2.1, fun a ha => w3.2.2.2.2.2.2 a ha (fun q => absurd q (by omega)), Nat.zero_le _, Nat.zero_le _, fun t ht' => absurd ht' (Nat.not_lt_zero _)⟩
            have RC11 : RC' 11 (H.1, H.2.1, H.2.2.1, H.2.2.2, 0, (fun _ => 0), 0) τ := ⟨R3.1, u5, u6, R3.2, fun t ht' => absurd ht' (Nat.not_lt_zero _)⟩
            refine p_become ok' rfl rfl (by omega) RC11 (fun t1 b1 b2 b3 t2 q2 => p_forget (fun t3 w1 w2 w3' w4 => ?_))
            have y : ∀ c, c ≠ 0 → c ≠ 30 → c ≠ 1 → c ≠ 2 → c ≠ 3 → c ≠ 4 → c ≠ 5 → t3 c = τ c := fun c c0 c1 c2 c3 c4 c5 c6 => by rw [w1 c c0 c1, q2, s2_ne c0, b1 c c2 c3 c4 c5 c6]
            have z : ∀ c, c ≠ 0 ∧ c ≠ 30 ∧ c ≠ 1 ∧ c ≠ 2 ∧ c ≠ 3 ∧ c ≠ 4 ∧ c ≠ 5 ∧ c ≠ 28 ∧ c ≠ 11 ∧ c ≠ 12 ∧ c ≠ 13 ∧ c ≠ 14 → t3 c = τ2 c := fun c p => by rw [y c p.1 p.2.1 p.2.2.1 p.2.2.2.1 p.2.2.2.2.1 p.2.2.2.2.2.1 p.2.2.2.2.2.2.1, f3.1 c p.2.2.2.2.2.2.2.1 p.2.2.2.2.2.2.2.2.1 p.2.2.2.2.2.2.2.2.2.1 p.2.2.2.2.2.2.2.2.2.2.1 p.2.2.2.2.2.2.2.2.2.2.2]
            have RC1 : RC' 1 (H.1, H.2.1, H.2.2.1, H.2.2.2, 0, (fun _ => 0), 0) t3 := b3.of (by rw [w1 1 (by omega) (by omega), q2, s2_ne (by omega)]) (by rw [w1 2 (by omega) (by omega), q2, s2_ne (by omega)]) (by rw [w1 3 (by omega) (by omega), q2, s2_ne (by omega)]) (by rw [w1 4 (by omega) (by omega), q2, s2_ne (by omega)]) (by rw [w1 5 (by omega) (by omega), q2, s2_ne (by omega)])
            rw [RC1.1]
            show w_Md_house (nI k) (nI l) (nI a) (nI n) t3 _
            refine enter (z 44 (by omega)) (z 45 (by omega)) (fun t4 q4 => ?_)
            have t46 : t4 46 = τ2 46 := by rw [q4, s2_ne (by omega), s2_ne (by omega), z 46 (by omega)]
            refine p_readAll (P := 60 * k + a) (c := fun j => τ2 (34 + 2 * k) (a + j)) (by omega) (fun j hj => ?_) (by rw [q4, s2_at]) (fun t5 H' eH' f5 R5 w5 => ca1 (fun t6 q6 => ?_)) (fun t5 e eN _ _ _ => ?_)
            · rw [t46, show 60 * k + a + j = 60 * k + (a + j) by omega]
              exact ((S2 k k4).2 (a + j) (by omega)).symm
            · have eHH : H = H' := by
                have := eH.symm.trans eH'
                exact Sum.inr.inj this
              subst eHH
              refine p_L95 w5 ⟨by rw [q6, s2_ai (by omega)]; exact R5.1, fun b hb' => by rw [q6, s2_ne (by omega), s2_ne (by omega), s2_ne (by omega)]; exact R5.2 b hb'⟩ (by rw [q6, s2_at]; exact R5.1) (fun t7 v1 v2 v3 v4 v5 v6 v7 => ⟨rfl, ?_⟩)
              have x : ∀ c, c ≠ 43 → c ≠ 47 → c ≠ 48 → c ≠ 49 → c ≠ 51 → c ≠ 52 → c ≠ 53 → t7 c = t3 c := fun c c0 c1 c2 c3 c4 c5 c6 => by rw [v1 c c0 c1 c2 c3, q6, s2_ne c0, f5.1 c c0 c4 c5 c6, q4, s2_ne c0, s2_ne c0]
              have x' : ∀ c, c ≠ 43 ∧ c ≠ 47 ∧ c ≠ 48 ∧ c ≠ 49 ∧ c ≠ 51 ∧ c ≠ 52 ∧ c ≠ 53 ∧ c ≠ 0 ∧ c ≠ 30 ∧ c ≠ 1 ∧ c ≠ 2 ∧ c ≠ 3 ∧ c ≠ 4 ∧ c ≠ 5 ∧ c ≠ 28 ∧ c ≠ 11 ∧ c ≠ 12 ∧ c ≠ 13 ∧ c ≠ 14 → t7 c = σ c := fun c p => by rw [x c p.1 p.2.1 p.2.2.1 p.2.2.2.1 p.2.2.2.2.1 p.2.2.2.2.2.1 p.2.2.2.2.2.2.1, z c (by omega), f2.1 c (by omega)]
              have x43 : ∀ j, j ≠ 9 → j ≠ 11 → j ≠ 30 → j ≠ 17 → j ≠ 5 → j ≠ 12 → j ≠ 13 → t7 43 j = (s2 τ2 43 0 0) 43 j := fun j j1 j2 j3 j4 j5 j6 j7 => by rw [v2 j j1 j2 j3 j4, q6, s2_ai j5, f5.2 j j6 j7, q4, s2_ai j6, s2_eq, s2_eq, z 43 (by omega)]
              have x0 : ∀ j, j ≠ 11 → j ≠ 10 → t7 0 j = τ2 0 j := fun j j1 j2 => by rw [x 0 (by omega) (by omega) (by omega) (by omega) (by omega) (by omega) (by omega), w2 j j1, q2, s2_ai j2, b1 0 (by omega) (by omega) (by omega) (by omega) (by omega), f3.1 0 (by omega) (by omega) (by omega) (by omega) (by omega)]
              have x010 : t7 0 10 = 0 := by rw [x 0 (by omega) (by omega) (by omega) (by omega) (by omega) (by omega) (by omega), w2 10 (by omega), q2, s2_at]
              refine Iv_new ok' (RC1.of (x 1 (by omega) (by omega) (by omega) (by omega) (by omega) (by omega) (by omega)) (x 2 (by omega) (by omega) (by omega) (by omega) (by omega) (by omega) (by omega)) (x 3 (by omega) (by omega) (by omega) (by omega) (by omega) (by omega) (by omega)) (x 4 (by omega) (by omega) (by omega) (by omega) (by omega) (by omega) (by omega)) (x 5 (by omega) (by omega) (by omega) (by omega) (by omega) (by omega) (by omega))) ⟨?_, v3, v4, fun b hb' => (v7 b (by have := w5.2.1; have hb2 : b < H.1 := hb'; omega)).1 hb', fun b hb' b4 => (v7 b b4).2 hb', fun t ht' => absurd ht' (Nat.not_lt_zero _)⟩ (g.2.2.2.1.of (fun c c1 c2 => x' c (by omega)) (x' 44 (by omega)) (x' 45 (by omega)) (x' 46 (by omega))) ⟨?_, ?_⟩ ⟨0, by omega, x010, v5, fun r hr => absurd hr (by omega)⟩ ?_ v6 (fun j hj => ?_) (g.2.2.2.2.2.2.2.2.2.of (by rw [x' 22 (by omega)]) (by rw [x' 22 (by omega)]) ?_ ?_)
              · rw [v2 5 (by omega) (by omega) (by omega) (by omega), q6, s2_at]; exact R5.1
              · rw [x0 13 (by omega) (by omega), f2.2.2, x43 0 (by omega) (by omega) (by omega) (by omega) (by omega) (by omega) (by omega), s2_at]
              · rw [x0 12 (by omega) (by omega), f2.2.1 12 (by omega), x43 1 (by omega) (by omega) (by omega) (by omega) (by omega) (by omega) (by omega), s2_ai (by omega), f2.1 43 (by omega)]; exact g.2.2.2.2.1.2
              · rw [x 0 (by omega) (by omega) (by omega) (by omega) (by omega) (by omega) (by omega)]; exact w3'
              · rw [x 30 (by omega) (by omega) (by omega) (by omega) (by omega) (by omega) (by omega)]; exact w4 j hj
              · rw [x 11 (by omega) (by omega) (by omega) (by omega) (by omega) (by omega) (by omega), y 11 (by omega) (by omega) (by omega) (by omega) (by omega) (by omega) (by omega), f3.2 5 (by omega), f2.1 11 (by omega)]
              · rw [x 11 (by omega) (by omega) (by omega) (by omega) (by omega) (by omega) (by omega), y 11 (by omega) (by omega) (by omega) (by omega) (by omega) (by omega) (by omega), f3.2 6 (by omega), f2.1 11 (by omega)]
            · exact absurd (eH.symm.trans eN) (by intro q; cases q)
          · -- no house is told
            refine ⟨fun q => absurd q (n9 e (by omega)), fun _ => ?_⟩
            have z : ∀ c, c ≠ 28 ∧ c ≠ 11 ∧ c ≠ 12 ∧ c ≠ 13 ∧ c ≠ 14 → τ c = τ2 c := fun c p => f3.1 c p.1 p.2.1 p.2.2.1 p.2.2.2.1 p.2.2.2.2
            show w_Md_house (nI k) (nI l) (nI a) (nI n) τ _
            refine enter (z 44 (by omega)) (z 45 (by omega)) (fun t4 q4 => ?_)
            have t46 : t4 46 = τ2 46 := by rw [q4, s2_ne (by omega), s2_ne (by omega), z 46 (by omega)]
            refine p_readAll (P := 60 * k + a) (c := fun j => τ2 (34 + 2 * k) (a + j)) (by omega) (fun j hj => ?_) (by rw [q4, s2_at]) (fun t5 H' eH' f5 R5 w5 => ?_) (fun t5 e' eN e'n f5 a5 => ca0 ⟨?_, ?_⟩)
            · rw [t46, show 60 * k + a + j = 60 * k + (a + j) by omega]
              exact ((S2 k k4).2 (a + j) (by omega)).symm
            · exact absurd (ee.symm.trans eH') (by intro q; cases q)
            · have : e = e' := Sum.inl.inj (ee.symm.trans eN)
              subst this
              rw [a5, n_sub (by omega), show 60 * k + a + e - (60 * k + a) = e by omega]
            · refine g.txt (fun c p => ?_) (fun j hj => ?_) (fun j j0 j1 j2 => ?_) ?_ (fun j hj => ?_)
              · rw [f5.1 c (by omega) (by omega) (by omega) (by omega), q4, s2_ne (by omega), s2_ne (by omega), z c (by omega), f2.1 c (by omega)]
              · rw [f5.1 0 (by omega) (by omega) (by omega) (by omega), q4, s2_ne (by omega), s2_ne (by omega), z 0 (by omega)]
                exact f2.2.1 j hj
              · rw [f5.2 j j1 j2, q4, s2_ai j1, s2_ai j0, z 43 (by omega), f2.1 43 (by omega)]
              · rw [f5.1 0 (by omega) (by omega) (by omega) (by omega), q4, s2_ne (by omega), s2_ne (by omega), z 0 (by omega), f2.2.2, f5.2 0 (by omega) (by omega), q4, s2_ai (by omega), s2_at]
              · rw [f5.1 11 (by omega) (by omega) (by omega) (by omega), q4, s2_ne (by omega), s2_ne (by omega), f3.2 j hj, f2.1 11 (by omega)]
        · have cn : a4 < 0 := by rw [le_toInt] at c; rw [lt_toInt]; omega
          exact fault53 4 (by decide) (fun K t e1 e2 hK => p_ag k4 (by rw [e1]; exact s2') hL l3 (by rw [e2]; exact s4) hn (fun q => absurd eL q) (fun _ _ => hK) (fun _ q => absurd cn q) (fun _ q => absurd cn ((hd_iff hn).mp q).2.2.1))
