theorem hd1 {x : Int32} {len : Nat} (h60 : len ≤ 60) : (∃ j, j < len ∧ x = nI j ∧ hd3 x 1 len) ∨ (ox x len ∧ ¬ hd3 x 1 len) := by
  rcases ix x len (by omega) with o | ⟨j, hj, rfl⟩
  · right
    refine ⟨o, ?_⟩
    rintro ⟨a, b, rfl, e, hab⟩
    have : 1 = b := (n_eq (a := 1) (by omega) (by omega)).mp e
    rcases o with o | o
    · exact n_neg a (by omega) o
    · have := (n_le (by omega) (by omega)).mp o
      omega
  · exact Or.inl ⟨j, hj, rfl, j, 1, rfl, rfl, by omega⟩
theorem FzC.sh {v : Int32} {σ τ : Sg} (g : ISh σ) (f : FzC v σ τ) : ISh τ := g.of (fun c h1 h2 => f.1 c (by omega)) (f.1 44 (by omega)) (f.1 45 (by omega)) (f.1 46 (by omega))
theorem FzM.sh {v : Int32} {σ τ : Sg} (g : ISh σ) (f : FzM v σ τ) : ISh τ := g.of (fun c h1 h2 => f.1 c (by omega)) (f.1 44 (by omega)) (f.1 45 (by omega)) (f.1 46 (by omega))
theorem H_put (σ : Sg) (a1 a2 a3 : Int32) (I : Inv σ) : w_Lc_put a1 a2 a3 σ (fun r0 τ0 => w_Md_put a1 a2 a3 τ0 (fun r1 τ1 => r0 = r1 ∧ Inv τ1)) := by
  obtain ⟨h, g⟩ := I
  unfold w_Lc_put
  intro τ2 e2
  have f2 : FzC 0 σ τ2 := by rw [e2]; exact fzc
  clear e2
  rcases ix a1 4 (by omega) with o | ⟨k, k4, rfl⟩
  · refine cs_out o (ca0 ?_)
    show w_Md_put a1 a2 a3 τ2 _
    unfold w_Md_put
    intro τ3 e3
    subst e3
    exact ms_out o (ca0 ⟨rfl, g.fz f2 fzm⟩)
  · refine cs_in k4 (ca1 ⟨n_in (by omega) (by omega), ?_⟩)
    rw [nI_c (by omega)]
    have S2 := f2.sh g.2.2.2.1
    rcases (S2 k k4).1 with ⟨s1, s2'⟩ | ⟨L, n, hL, hn, s1, s2', s3, s4⟩
    · refine p_hasRow0 s1 (ca0 ?_)
      unfold w_Lc_faulted
      intro τ4 e4
      have f4 : FzC 1 σ τ4 := by rw [e4]; exact f2.again
      show w_Md_put (nI k) a2 a3 τ4 _
      unfold w_Md_put
      intro t1 q1
      have u44 : t1 44 k = -9 := by rw [q1, s2_ne (by omega), e4, s2_ne (by omega), s2']
      refine ms_in k4 (ca1 ⟨n_in (by omega) (by omega), ?_⟩)
      rw [nI_c (by omega), u44]
      refine ⟨fun c => absurd rfl c, fun _ => ?_⟩
      unfold w_Md_fails
      intro τ5 e5
      subst e5
      subst q1
      exact ⟨rfl, g.fz f4 (fzm.again (u := 0))⟩
    · refine p_hasRow1 s3 hn (ca1 ?_)
      rcases hd1 (x := a2) hn with ⟨j, hj, rfl, hd⟩ | ⟨o, hd⟩
      · refine p_holds s3 hn (fun _ => ca1 ?_) (fun x => absurd hd x)
        obtain ⟨v, hv⟩ : ∃ v : Int32, v = if L = 0 then a3.toInt8.toInt32 else if L = 1 then a3.toInt16.toInt32 else a3 := ⟨_, rfl⟩
        have fin : ∀ τ : Sg, τ = s2 τ2 (34 + 2 * k) j v → w_Md_put (nI k) (nI j) a3 τ (fun r1 τ1 => (1 : Int32) = r1 ∧ Inv τ1) := fun τ e => by
          unfold w_Md_put
          intro t1 q1
          have u : ∀ c, c ≠ 43 → c ≠ 34 + 2 * k → t1 c = τ2 c := fun c c1 c2 => by rw [q1, s2_ne c1, e, s2_ne c2]
          have last : B_Md_put_95 (nI k) (nI j) a3 (fun r1 τ1 => (1 : Int32) = r1 ∧ Inv τ1) v (60 * nI k + nI j) t1 := by
            unfold B_Md_put_95
            rw [show (60 : Int32) = nI 60 from rfl, pk_mul, nI_add, nI_c (by omega)]
            refine ⟨n_in (by omega) (by omega), fun t2 q2 => ⟨rfl, ?_⟩⟩
            have w : ∀ c, c ≠ 43 → c ≠ 34 + 2 * k → c ≠ 46 → t2 c = σ c ∨ c = 0 := fun c c1 c2 c3 => by
              by_cases c0 : c = 0
              · exact Or.inr c0
              · left; rw [q2, s2_ne c3, u c c1 c2, f2.1 c c0]
            have w' : ∀ c, c ≠ 43 → c ≠ 34 + 2 * k → c ≠ 46 → c ≠ 0 → t2 c = σ c := fun c c1 c2 c3 c4 => (w c c1 c2 c3).resolve_right c4
            refine g.sh (fun c c0 c1 c2 c3 c4 c5 => w' c c1 (by omega) c5 c0) (fun i hi => ?_) (fun i hi => ?_) ?_ (ISh.set (k := k) k4 g.2.2.2.1 (fun c c1 c2 c3 c4 => w' c (by omega) c4 (by omega) (by omega)) (fun i hi => by rw [w' 44 (by omega) (by omega) (by omega) (by omega)]) (fun i hi => by rw [w' 45 (by omega) (by omega) (by omega) (by omega)]) (fun i hi => ?_) ⟨Or.inr ⟨L, n, hL, hn, ?_, ?_, ?_, ?_⟩, fun i hi => ?_⟩)
            · rw [q2, s2_ne (by omega), u 0 (by omega) (by omega)]
              exact f2.2.1 i hi
            · rw [q2, s2_ne (by omega), q1, s2_ai hi, e, s2_ne (by omega), f2.1 43 (by omega)]
            · rw [q2, s2_ne (by omega), s2_ne (by omega), u 0 (by omega) (by omega), f2.2.2, q1, s2_at]
            · rw [q2, s2_ai (by omega), u 46 (by omega) (by omega), f2.1 46 (by omega)]
            · rw [w' _ (by omega) (by omega) (by omega) (by omega), ← f2.1 _ (by omega)]; exact s1
            · rw [w' _ (by omega) (by omega) (by omega) (by omega), ← f2.1 _ (by omega)]; exact s2'
            · rw [w' _ (by omega) (by omega) (by omega) (by omega), ← f2.1 _ (by omega)]; exact s3
            · rw [w' _ (by omega) (by omega) (by omega) (by omega), ← f2.1 _ (by omega)]; exact s4
            · rw [q2, s2_ne (by omega), q1, s2_ne (by omega), e, s2_eq, s2_eq, ← e, ← q1, u 46 (by omega) (by omega)]
              by_cases qi : i = j
              · subst qi
                rw [pk_us, pk_us]
              · rw [pk_un qi, pk_un (by omega)]
                exact (S2 k k4).2 i hi
          refine ms_in k4 (ca1 ⟨n_in (by omega) (by omega), ?_⟩)
          rw [nI_c (by omega), u 44 (by omega) (by omega), u 45 (by omega) (by omega), s2', s4]
          refine ⟨fun _ => ⟨n_in (by omega) (by omega), wn_in rfl hj (by omega) (ca1 ⟨n_in (by omega) (by omega), fun c => ⟨n_in (by omega) (by omega), fun c1 => ?_, fun c1 => ?_⟩, fun c => ?_⟩)⟩, fun c => absurd c (n9 L (by omega))⟩
          · have l0 : L ≠ 0 := fun e => c (by rw [e]; rfl)
            have l1 : L ≠ 1 := fun e => c1 (by rw [e]; rfl)
            rw [hv, if_neg l0, if_neg l1] at last
            exact last
          · have l1 : L = 1 := (n_eq (by omega) (by omega)).mp c1
            rw [hv, if_neg (by omega), if_pos l1] at last
            exact last
          · have l0 : L = 0 := (n_eq (by omega) (by omega)).mp c
            rw [hv, if_pos l0] at last
            exact last
        have st : ∀ u : Int32, u = v → (vp_in (nI j) 60 ∧ (∀ τ64 : Sg, τ64 = s2 τ2 ((33 + 2 * k) + 1) (nI j).toNatClampNeg u → w_Md_put (nI k) (nI j) a3 τ64 (fun r1 τ1 => (1 : Int32) = r1 ∧ Inv τ1))) := fun u eu => by
          subst eu
          rw [nI_c (by omega)]
          refine ⟨n_in (by omega) (by omega), fun τ e => fin τ (by rw [e, show 34 + 2 * k = 33 + 2 * k + 1 by omega])⟩
        unfold w_Sh_cut
        rw [s1]
        refine ⟨fun c => st _ ?_, fun c => st _ ?_, fun c c1 => st _ ?_⟩
        · have l0 : L = 0 := (n_eq (by omega) (by omega)).mp c
          rw [hv, if_pos l0]
        · have l1 : L = 1 := (n_eq (by omega) (by omega)).mp c
          rw [hv, if_neg (by omega), if_pos l1]
        · have l0 : L ≠ 0 := fun e => c (by rw [e]; rfl)
          have l1 : L ≠ 1 := fun e => c1 (by rw [e]; rfl)
          rw [hv, if_neg l0, if_neg l1]
      · refine p_holds s3 hn (fun x => absurd x hd) (fun _ => ca0 ?_)
        unfold w_Lc_faulted
        intro τ4 e4
        have f4 : FzC 3 σ τ4 := by rw [e4]; exact f2.again
        show w_Md_put (nI k) a2 a3 τ4 _
        unfold w_Md_put
        intro t1 q1
        have u44 : t1 44 k = nI L := by rw [q1, s2_ne (by omega), e4, s2_ne (by omega), s2']
        have u45 : t1 45 k = nI n := by rw [q1, s2_ne (by omega), e4, s2_ne (by omega), s4]
        refine ms_in k4 (ca1 ⟨n_in (by omega) (by omega), ?_⟩)
        rw [nI_c (by omega), u44, u45]
        refine ⟨fun _ => ⟨n_in (by omega) (by omega), wn_out rfl o (by omega) (ca0 ?_)⟩, fun c => absurd c (n9 L (by omega))⟩
        unfold w_Md_fails
        intro τ5 e5
        subst e5
        subst q1
        exact ⟨rfl, g.fz f4 (fzm.again (u := 0))⟩
theorem H_cell (σ : Sg) (a1 a2 a3 : Int32) (I : Inv σ) : w_Lc_cell a1 a2 a3 σ (fun r0 τ0 => w_Md_cell a1 a2 a3 τ0 (fun r1 τ1 => r0 = r1 ∧ Inv τ1)) := by
  obtain ⟨h, g⟩ := I
  unfold w_Lc_cell
  intro τ2 e2
  have f2 : FzC 0 σ τ2 := by rw [e2]; exact fzc
  clear e2
  rcases ix a1 4 (by omega) with o | ⟨k, k4, rfl⟩
  · refine cs_out o (cb0 ?_)
    show w_Md_cell a1 a2 a3 τ2 _
    unfold w_Md_cell
    intro τ3 e3
    subst e3
    exact ms_out o (cb0 ⟨rfl, g.fz f2 fzm⟩)
  · refine cs_in k4 (cb1 ?_)
    rcases ix a3 3 (by omega) with o | ⟨l, l3, rfl⟩
    · refine cl_out o (ca0 ?_)
      show w_Md_cell (nI k) a2 a3 τ2 _
      unfold w_Md_cell
      intro τ3 e3
      subst e3
      exact ms_in k4 (cb1 (ml_out o (ca0 ⟨rfl, g.fz f2 fzm⟩)))
    · refine cl_in l3 (ca1 ⟨n_in (by omega) (by omega), ?_⟩)
      rw [nI_c (by omega)]
      have S2 := f2.sh g.2.2.2.1
      have lose : ∀ {v : Int32} {τ t : Sg}, FzC v σ τ → t = s2 τ 43 0 0 → w_Md_lost v t (fun r1 τ1 => (-9223372036854775808 : Int64) = r1 ∧ Inv τ1) := fun {v τ t} f q => by
        unfold w_Md_lost
        intro t2 q2
        subst q2
        subst q
        exact ⟨rfl, g.fz f (fzm.again (u := 0))⟩
      rcases (S2 k k4).1 with ⟨s1, s2'⟩ | ⟨L, n, hL, hn, s1, s2', s3, s4⟩
      · refine p_fCells0 s1 (fun τ4 e4 => ?_)
        have f4 : FzC 1 σ τ4 := by rw [e4]; exact f2.again
        rw [f4.2.2]
        refine ca1 ?_
        show w_Md_cell (nI k) a2 (nI l) τ4 _
        unfold w_Md_cell
        intro t1 q1
        have u44 : t1 44 k = -9 := by rw [q1, s2_ne (by omega), e4, s2_ne (by omega), s2']
        refine ms_in k4 (cb1 (ml_in l3 (ca1 ⟨n_in (by omega) (by omega), ?_⟩)))
        rw [nI_c (by omega), u44]
        refine ⟨fun _ => ?_, fun c => absurd rfl c⟩
        unfold B_Md_cell_50
        rw [nI_c (by omega), u44]
        exact ⟨n_in (by omega) (by omega), fun c => absurd rfl c, fun _ => lose f4 q1⟩
      · refine p_fCells s3 hn s1 hL l3 (fun eL hd τ4 e4 => ?_) (fun eL hd τ4 e4 => ?_) (fun eL τ4 e4 => ?_)
        · have f4 : FzC 0 σ τ4 := by rw [e4]; exact f2.again
          rw [f4.2.2]
          rcases hd1 (x := a2) hn with ⟨j, hj, rfl, -⟩ | ⟨o, hd'⟩
          · refine ca0 ⟨n_in (by omega) (by omega), ?_⟩
            show w_Md_cell (nI k) (nI j) (nI l) τ4 _
            unfold w_Md_cell
            intro t1 q1
            have u44 : t1 44 k = nI L := by rw [q1, s2_ne (by omega), e4, s2_ne (by omega), s2']
            have u45 : t1 45 k = nI n := by rw [q1, s2_ne (by omega), e4, s2_ne (by omega), s4]
            refine ms_in k4 (cb1 (ml_in l3 (ca1 ⟨n_in (by omega) (by omega), ?_⟩)))
            rw [nI_c (by omega), u44]
            refine ⟨fun c => absurd c (n9 L (by omega)), fun _ => ⟨n_in (by omega) (by omega), fun _ => ?_, fun c => absurd (by rw [eL]) c⟩⟩
            unfold B_Md_cell_50
            rw [nI_c (by omega), u44, u45]
            refine ⟨n_in (by omega) (by omega), fun _ => ⟨n_in (by omega) (by omega), wn_in rfl hj (by omega) (ca1 ?_)⟩, fun c => absurd c (n9 L (by omega))⟩
            rw [show (60 : Int32) = nI 60 from rfl, pk_mul, nI_add, nI_c (by omega), nI_c (by omega)]
            refine ⟨n_in (by omega) (by omega), ?_, ?_⟩
            · rw [q1, s2_ne (by omega), show 33 + 2 * k + 1 = 34 + 2 * k by omega, (f4.sh g.2.2.2.1 k k4).2 j (by omega)]
            · subst q1
              exact g.fz f4 fzm
          · exact absurd hd hd'
        · have f4 : FzC 3 σ τ4 := by rw [e4]; exact f2.again
          rw [f4.2.2]
          refine ⟨fun _ => ?_, fun c => absurd c (by decide)⟩
          rcases hd1 (x := a2) hn with ⟨j, hj, rfl, hd'⟩ | ⟨o, -⟩
          · exact absurd hd' hd
          · show w_Md_cell (nI k) a2 (nI l) τ4 _
            unfold w_Md_cell
            intro t1 q1
            have u44 : t1 44 k = nI L := by rw [q1, s2_ne (by omega), e4, s2_ne (by omega), s2']
            have u45 : t1 45 k = nI n := by rw [q1, s2_ne (by omega), e4, s2_ne (by omega), s4]
            refine ms_in k4 (cb1 (ml_in l3 (ca1 ⟨n_in (by omega) (by omega), ?_⟩)))
            rw [nI_c (by omega), u44]
            refine ⟨fun c => absurd c (n9 L (by omega)), fun _ => ⟨n_in (by omega) (by omega), fun _ => ?_, fun c => absurd (by rw [eL]) c⟩⟩
            unfold B_Md_cell_50
            rw [nI_c (by omega), u44, u45]
            refine ⟨n_in (by omega) (by omega), fun _ => ⟨n_in (by omega) (by omega), wn_out rfl o (by omega) (ca0 ?_)⟩, fun c => absurd c (n9 L (by omega))⟩
            exact lose f4 q1
        · have f4 : FzC 2 σ τ4 := by rw [e4]; exact f2.again
          rw [f4.2.2]
          refine ca2 ?_
          show w_Md_cell (nI k) a2 (nI l) τ4 _
          unfold w_Md_cell
          intro t1 q1
          have u44 : t1 44 k = nI L := by rw [q1, s2_ne (by omega), e4, s2_ne (by omega), s2']
          refine ms_in k4 (cb1 (ml_in l3 (ca1 ⟨n_in (by omega) (by omega), ?_⟩)))
          rw [nI_c (by omega), u44]
          exact ⟨fun c => absurd c (n9 L (by omega)), fun _ => ⟨n_in (by omega) (by omega), fun c => absurd ((n_eq (by omega) (by omega)).mp c) eL, fun _ => lose f4 q1⟩⟩
