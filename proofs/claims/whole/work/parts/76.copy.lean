theorem p_L166 {k1 k3 a b n : Nat} {v7 : Int32} {K : Int32 → Sg → Prop} {σ0 : Sg} (s : Nat → Nat) (h1 : k1 < 4) (h3 : k3 < 4) (ha : a + n ≤ 60) (hb : b + n ≤ 60) (hs : ∀ v, v < n → s v < n ∧ (v7 = 0 → s v = v) ∧ (¬ v7 = 0 → s v = n - 1 - v)) (hn : ∀ u v, u < v → v < n → s u ≠ s v ∧ 60 * k1 + a + s v ≠ 60 * k3 + b + s u)
    (hK : ∀ τ : Sg, (∀ c, c ≠ 46 → τ c = σ0 c) → (∀ j, (∀ u, u < n → j ≠ 60 * k3 + b + s u) → τ 46 j = σ0 46 j) → (∀ u, u < n → τ 46 (60 * k3 + b + s u) = σ0 46 (60 * k1 + a + s u)) → K (nI n) τ) : ∃ m : Nat, L_Md_copy_166 (nI k1) (nI a) (nI k3) (nI b) (nI n) v7 K m 0 σ0 := by
  have key : ∀ m i (σ : Sg), i + m = n → (∀ c, c ≠ 46 → σ c = σ0 c) → (∀ j, (∀ u, u < i → j ≠ 60 * k3 + b + s u) → σ 46 j = σ0 46 j) → (∀ u, u < i → σ 46 (60 * k3 + b + s u) = σ0 46 (60 * k1 + a + s u)) → L_Md_copy_166 (nI k1) (nI a) (nI k3) (nI b) (nI n) v7 K (m + 1) (nI i) σ := by
    intro m
    induction m with
    | zero =>
      intro i σ hi g1 g2 g3
      have : i = n := by omega
      subst this
      unfold L_Md_copy_166
      exact ⟨fun _ => hK σ g1 g2 g3, fun c => absurd ((n_le (by omega) (by omega)).mpr (Nat.le_refl _)) c⟩
    | succ m ih =>
      intro i σ hi g1 g2 g3
      obtain ⟨q0, q1, q2⟩ := hs i (by omega)
      have step : ∀ w : Int32, w = nI (s i) → B_Md_copy_190 (nI k1) (nI a) (nI k3) (nI b) (nI n) K (fun a0 a1 => L_Md_copy_166 (nI k1) (nI a) (nI k3) (nI b) (nI n) v7 K (m + 1) a0 a1) v7 (nI i) w σ := fun w ew => by
        subst ew
        unfold B_Md_copy_190
        rw [show (60 : Int32) = nI 60 from rfl, pk_mul, pk_mul, nI_add (60 * k1) a, nI_add (60 * k3) b, nI_add (60 * k1 + a) (s i), nI_add (60 * k3 + b) (s i), nI_c (by omega), nI_c (by omega)]
        refine ⟨n_in (by omega) (by omega), n_in (by omega) (by omega), fun τ e => ?_⟩
        show L_Md_copy_166 (nI k1) (nI a) (nI k3) (nI b) (nI n) v7 K (m + 1) (nI i + 1) τ
        rw [show (1 : Int32) = nI 1 from rfl, nI_add i 1]
        refine ih (i + 1) τ (by omega) (fun c hc => by rw [e, s2_ne hc]; exact g1 c hc) (fun j hj => ?_) (fun u hu => ?_)
        · rw [e, s2_ai (hj i (by omega))]
          exact g2 j (fun u hu => hj u (by omega))
        · by_cases qu : u = i
          · subst qu
            rw [e, s2_at]
            exact g2 _ (fun v hv => (hn v u hv (by omega)).2)
          · have := (hn u i (by omega) (by omega)).1
            rw [e, s2_ai (by omega)]
            exact g3 u (by omega)
      unfold L_Md_copy_166
      refine ⟨fun c => absurd ((n_le (by omega) (by omega)).mp c) (by omega), fun _ => ⟨fun c => step _ (by rw [q1 c]), fun c => step _ ?_⟩⟩
      rw [show (1 : Int32) = nI 1 from rfl, n_sub (by omega), n_sub (by omega), q2 c]
  exact ⟨n + 1, key n 0 σ0 (by omega) (fun _ _ => rfl) (fun _ _ => rfl) (fun u hu => absurd hu (by omega))⟩
theorem H_copy (σ : Sg) (a1 a2 a3 a4 a5 : Int32) (I : Inv σ) : w_Lc_copy a1 a2 a3 a4 a5 σ (fun r0 τ0 => w_Md_copy a1 a2 a3 a4 a5 τ0 (fun r1 τ1 => r0 = r1 ∧ Inv τ1)) := by
  obtain ⟨h, g⟩ := I
  unfold w_Lc_copy
  intro τ2 e2
  have f2 : FzC 0 σ τ2 := by rw [e2]; exact fzc
  clear e2
  rcases ix a1 4 (by omega) with o | ⟨k, k4, rfl⟩
  · refine cs_out o (cb0 ?_)
    show w_Md_copy a1 a2 a3 a4 a5 τ2 _
    unfold w_Md_copy
    intro τ3 e3
    subst e3
    exact ms_out o (cb0 ⟨rfl, g.fz f2 fzm⟩)
  · refine cs_in k4 (cb1 ?_)
    rcases ix a3 4 (by omega) with o | ⟨d, d4, rfl⟩
    · refine cs_out o (ca0 ?_)
      show w_Md_copy (nI k) a2 a3 a4 a5 τ2 _
      unfold w_Md_copy
      intro τ3 e3
      subst e3
      exact ms_in k4 (cb1 (ms_out o (ca0 ⟨rfl, g.fz f2 fzm⟩)))
    · refine cs_in d4 (ca1 ⟨n_in (by omega) (by omega), n_in (by omega) (by omega), ?_⟩)
      rw [nI_c (by omega), nI_c (by omega)]
      have S2 := f2.sh g.2.2.2.1
      have lose : ∀ {v : Int32} {τ t : Sg}, FzC v σ τ → t = s2 τ 43 0 0 → w_Md_fails v t (fun r1 τ1 => (-10 - v : Int32) = r1 ∧ Inv τ1) := fun {v τ t} f q => by
        unfold w_Md_fails
        intro t2 q2
        subst q2
        subst q
        exact ⟨rfl, g.fz f (fzm.again (u := 0))⟩
      have norow : (τ2 44 k = -9 ∨ τ2 44 d = -9) → B_Lc_copy_53 (nI k) a2 (nI d) a4 a5 (fun r0 τ0 => w_Md_copy (nI k) a2 (nI d) a4 a5 τ0 (fun r1 τ1 => r0 = r1 ∧ Inv τ1)) τ2 := fun c => by
        unfold B_Lc_copy_53 w_Lc_faulted
        intro τ4 e4
        have f4 : FzC 1 σ τ4 := by rw [e4]; exact f2.again
        show w_Md_copy (nI k) a2 (nI d) a4 a5 τ4 _
        unfold w_Md_copy
        intro t1 q1
        have u44 : t1 44 = τ2 44 := by rw [q1, s2_ne (by omega), e4, s2_ne (by omega)]
        have fin : B_Md_copy_43 (nI k) a2 (nI d) a4 a5 (fun r1 τ1 => (-10 - 1 : Int32) = r1 ∧ Inv τ1) t1 := by
          unfold B_Md_copy_43
          exact lose f4 q1
        refine ms_in k4 (cb1 (ms_in d4 (ca1 ⟨n_in (by omega) (by omega), fun _ => fin, fun c1 => ⟨n_in (by omega) (by omega), fun c2 => ?_, fun _ => fin⟩⟩)))
        rw [nI_c (by omega), u44] at c1 c2
        exact absurd c (fun q => q.elim c1 c2)
      rcases (S2 k k4).1 with ⟨s1, s2'⟩ | ⟨L, n, hL, hn, s1, s2', s3, s4⟩
      · exact p_hasRow0 s1 (cb0 (norow (Or.inl s2')))
      · refine p_hasRow1 s3 hn (cb1 ?_)
        rcases (S2 d d4).1 with ⟨z1, z2⟩ | ⟨L', n', hL', hn', z1, z2, z3, z4⟩
        · exact p_hasRow0 z1 (ca0 (norow (Or.inr z2)))
        · refine p_hasRow1 z3 hn' (ca1 ?_)
          rw [s1, z1]
          refine ⟨fun eL => ?_, fun eL => ?_⟩
          · have out : (¬ hd3 a2 a5 n ∨ ¬ hd3 a4 a5 n') → B_Lc_copy_101 (nI k) a2 (nI d) a4 a5 (fun r0 τ0 => w_Md_copy (nI k) a2 (nI d) a4 a5 τ0 (fun r1 τ1 => r0 = r1 ∧ Inv τ1)) τ2 := fun c => by
              unfold B_Lc_copy_101 w_Lc_faulted
              intro τ4 e4
              have f4 : FzC 3 σ τ4 := by rw [e4]; exact f2.again
              show w_Md_copy (nI k) a2 (nI d) a4 a5 τ4 _
              unfold w_Md_copy
              intro t1 q1
              have u44 : t1 44 = τ2 44 := by rw [q1, s2_ne (by omega), e4, s2_ne (by omega)]
              have u45 : t1 45 = τ2 45 := by rw [q1, s2_ne (by omega), e4, s2_ne (by omega)]
              have fin : B_Md_copy_144 (nI k) a2 (nI d) a4 a5 (fun r1 τ1 => (-10 - 3 : Int32) = r1 ∧ Inv τ1) t1 := by
                unfold B_Md_copy_144
                exact lose f4 q1
              have fin2 : B_Md_copy_109 (nI k) a2 (nI d) a4 a5 (fun r1 τ1 => (-10 - 3 : Int32) = r1 ∧ Inv τ1) t1 := by
                unfold B_Md_copy_109 B_Md_copy_110
                exact cb0 fin
              refine ms_in k4 (cb1 (ms_in d4 (ca1 ⟨n_in (by omega) (by omega), ?_⟩)))
              rw [nI_c (by omega), nI_c (by omega), u44, u45, s2', z2, s4, z4]
              refine ⟨fun c => absurd c (n9 L (by omega)), fun _ => ⟨n_in (by omega) (by omega), fun _ => ⟨n_in (by omega) (by omega), n_in (by omega) (by omega), fun _ => ?_, fun c => absurd eL c⟩, fun c => absurd c (n9 L' (by omega))⟩⟩
              refine ⟨fun _ => fin2, fun c1 => ⟨fun _ => fin2, fun c2 => ⟨fun _ => fin2, fun c3 => ⟨n_in (by omega) (by omega), fun _ => fin2, fun c4 => ⟨n_in (by omega) (by omega), fun _ => fin2, fun c5 => ?_⟩⟩⟩⟩⟩
              unfold B_Md_copy_110
              rw [nI_c (by omega), nI_c (by omega), u45, s4, z4]
              refine cb1 ⟨n_in (by omega) (by omega), fun _ => fin, fun c6 => ⟨n_in (by omega) (by omega), fun c7 => ?_, fun _ => fin⟩⟩
              refine absurd c (fun q => q.elim (fun q => q ((hd_iff hn).mpr ⟨c1, c4, c3, c6⟩)) (fun q => q ((hd_iff hn').mpr ⟨c2, c5, c3, ?_⟩)))
              rw [le_toInt] at c7; rw [lt_toInt]; omega
            refine p_holds s3 hn (fun h1 => cb1 ?_) (fun h1 => cb0 (out (Or.inl h1)))
            refine p_holds z3 hn' (fun h2 => ca1 ?_) (fun h2 => ca0 (out (Or.inr h2)))
            obtain ⟨a, m, rfl, rfl, ham⟩ := h1
            obtain ⟨b, m', rfl, em, hbm⟩ := h2
            have em : m = m' := (n_eq (by omega) (by omega)).mp em
            subst em
            rw [nI_c (by omega), nI_c (by omega), nI_c (by omega)]
            refine ⟨cpk_nI (by omega) (by omega) (by omega) (by omega), fun τ4 e4 => ?_⟩
            have y : ∀ c, c ≠ 33 + 2 * d + 1 → τ4 c = τ2 c := fun c hc => by rw [e4, s1_ne hc]
            have yd : τ4 (34 + 2 * d) = va_cpy (τ2 (34 + 2 * k)) (τ2 (34 + 2 * d)) a b m := by
              rw [e4, show 33 + 2 * k + 1 = 34 + 2 * k by omega, show 33 + 2 * d + 1 = 34 + 2 * d by omega, s1_eq]
            clear e4
            show w_Md_copy (nI k) (nI a) (nI d) (nI b) (nI m) τ4 _
            unfold w_Md_copy
            intro t1 q1
            have u44 : t1 44 = τ2 44 := by rw [q1, s2_ne (by omega), y 44 (by omega)]
            have u45 : t1 45 = τ2 45 := by rw [q1, s2_ne (by omega), y 45 (by omega)]
            have u46 : t1 46 = τ2 46 := by rw [q1, s2_ne (by omega), y 46 (by omega)]
            have fin : ∀ t : Sg, (∀ c, c ≠ 46 → t c = t1 c) → (∀ j, (∀ u, u < m → j ≠ 60 * d + b + u) → t 46 j = t1 46 j) → (∀ u, u < m → t 46 (60 * d + b + u) = t1 46 (60 * k + a + u)) → Inv t := fun t v1 v2 v3 => by
              have w : ∀ c, c ≠ 43 → c ≠ 46 → c ≠ 34 + 2 * d → t c = τ2 c := fun c c1 c2 c3 => by rw [v1 c c2, q1, s2_ne c1, y c (by omega)]
              have w' : ∀ c, c ≠ 43 → c ≠ 46 → c ≠ 34 + 2 * d → c ≠ 0 → t c = σ c := fun c c1 c2 c3 c4 => by rw [w c c1 c2 c3, f2.1 c c4]
              refine g.sh (fun c c0 c1 c2 c3 c4 c5 => w' c c1 c5 (by omega) c0) (fun i hi => ?_) (fun i hi => ?_) ?_ (ISh.set (k := d) d4 g.2.2.2.1 (fun c c1 c2 c3 c4 => w' c (by omega) (by omega) c4 (by omega)) (fun i hi => by rw [w' 44 (by omega) (by omega) (by omega) (by omega)]) (fun i hi => by rw [w' 45 (by omega) (by omega) (by omega) (by omega)]) (fun i hi => ?_) ⟨Or.inr ⟨L', n', hL', hn', ?_, ?_, ?_, ?_⟩, fun i hi => ?_⟩)
              · rw [w 0 (by omega) (by omega) (by omega)]
                exact f2.2.1 i hi
              · rw [v1 43 (by omega), q1, s2_ai hi, y 43 (by omega), f2.1 43 (by omega)]
              · rw [w 0 (by omega) (by omega) (by omega), f2.2.2, v1 43 (by omega), q1, s2_at]
              · rw [v2 i (fun u hu => by omega), u46, f2.1 46 (by omega)]
              · rw [w _ (by omega) (by omega) (by omega)]; exact z1
              · rw [w _ (by omega) (by omega) (by omega)]; exact z2
              · rw [w _ (by omega) (by omega) (by omega)]; exact z3
              · rw [w _ (by omega) (by omega) (by omega)]; exact z4
              · rw [v1 _ (by omega), q1, s2_ne (by omega), yd]
                by_cases c : b ≤ i ∧ i < b + m
                · have e := v3 (i - b) (by omega)
                  rw [show 60 * d + b + (i - b) = 60 * d + i by omega] at e
                  rw [pk_cpy_in c.1 c.2, e, u46, show 60 * k + a + (i - b) = 60 * k + (a + (i - b)) by omega]
                  exact (S2 k k4).2 (a + (i - b)) (by omega)
                · rw [pk_cpy_out (by omega), v2 (60 * d + i) (fun u hu => by omega), u46]
                  exact (S2 d d4).2 i hi
            refine ms_in k4 (cb1 (ms_in d4 (ca1 ⟨n_in (by omega) (by omega), ?_⟩)))
            rw [nI_c (by omega), nI_c (by omega), u44, u45, s2', z2, s4, z4]
            refine ⟨fun c => absurd c (n9 L (by omega)), fun _ => ⟨n_in (by omega) (by omega), fun _ => ⟨n_in (by omega) (by omega), n_in (by omega) (by omega), fun _ => ?_, fun c => absurd eL c⟩, fun c => absurd c (n9 L' (by omega))⟩⟩
            obtain ⟨p1, p2, p3, p4⟩ := (hd_iff (i := nI a) (n := nI m) hn).mp ⟨a, m, rfl, rfl, ham⟩
            obtain ⟨p5, p6, -, p7⟩ := (hd_iff (i := nI b) (n := nI m) hn').mp ⟨b, m, rfl, rfl, hbm⟩
            refine ⟨fun c => absurd c p1, fun _ => ⟨fun c => absurd c p5, fun _ => ⟨fun c => absurd c p3, fun _ => ⟨n_in (by omega) (by omega), fun c => absurd c p2, fun _ => ⟨n_in (by omega) (by omega), fun c => absurd c p6, fun _ => ?_⟩⟩⟩⟩⟩
            unfold B_Md_copy_110
            rw [nI_c (by omega), nI_c (by omega), u45, s4, z4]
            refine cb1 ⟨n_in (by omega) (by omega), fun c => absurd c p4, fun _ => ⟨n_in (by omega) (by omega), fun _ => ⟨fun c => ?_, fun c => ?_⟩, fun c => ?_⟩⟩
            · have c : b ≤ a := (n_le (by omega) (by omega)).mp c
              unfold B_Md_copy_161
              refine p_L166 (fun v => v) k4 d4 (by omega) (by omega) (fun v hv => ⟨hv, fun _ => rfl, fun e => absurd rfl e⟩) (fun u v huv hv => ⟨by omega, by omega⟩) (fun t v1 v2 v3 => ⟨rfl, fin t v1 v2 v3⟩)
            · have c : ¬ b ≤ a := fun e => c ((n_le (by omega) (by omega)).mpr e)
              unfold B_Md_copy_161
              refine p_L166 (fun v => m - 1 - v) k4 d4 (by omega) (by omega) (fun v hv => ⟨by show m - 1 - v < m; omega, fun e => absurd e (by decide), fun _ => rfl⟩) (fun u v huv hv => ⟨by show m - 1 - u ≠ m - 1 - v; omega, by show 60 * k + a + (m - 1 - v) ≠ 60 * d + b + (m - 1 - u); omega⟩) (fun t v1 v2 v3 => ⟨rfl, fin t v1 (fun j hj => v2 j (fun u hu => hj (m - 1 - u) (by omega))) (fun u hu => ?_)⟩)
              have := v3 (m - 1 - u) (by omega)
              rw [show m - 1 - (m - 1 - u) = u by omega] at this
              exact this
            · refine absurd ?_ c
              rw [le_toInt]; rw [lt_toInt] at p7; omega
          · unfold w_Lc_faulted
            intro τ4 e4
            have f4 : FzC 2 σ τ4 := by rw [e4]; exact f2.again
            show w_Md_copy (nI k) a2 (nI d) a4 a5 τ4 _
            unfold w_Md_copy
            intro t1 q1
            have u44 : t1 44 = τ2 44 := by rw [q1, s2_ne (by omega), e4, s2_ne (by omega)]
            refine ms_in k4 (cb1 (ms_in d4 (ca1 ⟨n_in (by omega) (by omega), ?_⟩)))
            rw [nI_c (by omega), nI_c (by omega), u44, s2', z2]
            exact ⟨fun c => absurd c (n9 L (by omega)), fun _ => ⟨n_in (by omega) (by omega), fun _ => ⟨n_in (by omega) (by omega), n_in (by omega) (by omega), fun c => absurd c eL, fun _ => lose f4 q1⟩, fun c => absurd c (n9 L' (by omega))⟩⟩
