/-! ===== a day: both ===== -/
theorem Iv.dy {h : Hh} {σ τ : Sg} (g : Iv h σ) (e : ∀ c, c ≠ 0 ∧ (c < 6 ∨ 10 < c) ∧ (c < 19 ∨ 27 < c) ∧ c ≠ 43 ∧ (c < 54 ∨ 65 ≤ c) → τ c = σ c) (e0 : ∀ j, j ≠ 13 → τ 0 j = σ 0 j) (ef : τ 0 13 = τ 43 0) (e43 : ∀ j, j ≠ 0 → j ≠ 17 → j ≠ 29 → τ 43 j = σ 43 j) (z : τ 43 17 = 0) (u : ∃ E Q, UE τ E Q) : Inv τ := by
  obtain ⟨g1, g2, g3, g4, g5, g6, g7, g8, g9, g10⟩ := g
  exact ⟨h, g1, g2.of (e 1 (by omega)) (e 2 (by omega)) (e 3 (by omega)) (e 4 (by omega)) (e 5 (by omega)), g3.of (e43 5 (by omega) (by omega) (by omega)) (e43 9 (by omega) (by omega) (by omega)) (e43 11 (by omega) (by omega) (by omega)) (e 47 (by omega)) (e 48 (by omega)) (e 49 (by omega)) (e 50 (by omega)), g4.of (fun c h1 h2 => e c (by omega)) (e 44 (by omega)) (e 45 (by omega)) (e 46 (by omega)), ⟨ef, by rw [e0 12 (by omega), e43 1 (by omega) (by omega) (by omega)]; exact g5.2⟩, g6.of (e0 10 (by omega)) (e43 30 (by omega) (by omega) (by omega)) (e 41 (by omega)) (e 42 (by omega)) (e 65 (by omega)) (e 66 (by omega)), g7.of (e0 11 (by omega)) (e 16 (by omega)) (e 17 (by omega)) (e 18 (by omega)), fun q => absurd z q, g9.of (e 30 (by omega)) (e 31 (by omega)), ⟨u, by rw [e 11 (by omega)]; exact g10.2.1, by rw [e 11 (by omega)]; exact g10.2.2⟩⟩
def ask (x : Int32) : Prop := (0 ≤ x.toInt ∧ x.toInt ≤ 4) ∨ (10 ≤ x.toInt ∧ x.toInt ≤ 13)
theorem p_askC {x : Int32} {σ : Sg} {K : Int32 → Prop} (h1 : ask x → K 1) (h0 : ¬ ask x → K 0) : w_Lc_isAskedOfDay x σ K := by
  have z0 : (0 : Int32).toInt = 0 := rfl
  have z4 : (4 : Int32).toInt = 4 := rfl
  have z10 : (10 : Int32).toInt = 10 := rfl
  have z14 : (14 : Int32).toInt = 14 := rfl
  unfold ask at h1 h0
  have b9 : (x.toInt < 0 ∨ 4 < x.toInt) → B_Lc_isAskedOfDay_9 x σ K := fun q => by
    unfold B_Lc_isAskedOfDay_9
    refine ⟨fun c => h0 ?_, fun c => ⟨fun c2 => h0 ?_, fun c2 => h1 ?_⟩⟩
    · rw [lt_toInt] at c; omega
    · rw [le_toInt] at c2; omega
    · rw [lt_toInt] at c; rw [le_toInt] at c2; omega
  unfold w_Lc_isAskedOfDay
  refine ⟨fun c => b9 (by rw [lt_toInt] at c; omega), fun c => ⟨fun c2 => h1 ?_, fun c2 => b9 (by rw [le_toInt] at c2; omega)⟩⟩
  rw [lt_toInt] at c
  rw [le_toInt] at c2
  omega
theorem p_askM {x : Int32} {σ : Sg} {B N : Prop} (h1 : ask x → B) (h0 : ¬ ask x → N) : w_Md_within x.toInt64 (0 : Int64) (4 : Int64) σ (fun u41 => ((¬ u41 = 0 → B) ∧ (u41 = 0 → w_Md_within x.toInt64 (10 : Int64) (13 : Int64) σ (fun u56 => ((¬ u56 = 0 → B) ∧ (u56 = 0 → N)))))) := by
  have z0 : (0 : Int32).toInt = 0 := rfl
  have z4 : (4 : Int32).toInt = 4 := rfl
  have z10 : (10 : Int32).toInt = 10 := rfl
  have z13 : (13 : Int32).toInt = 13 := rfl
  unfold ask at h1 h0
  by_cases c : 0 ≤ x.toInt ∧ x.toInt ≤ 4
  · exact wi_in (l := 0) (u := 4) rfl rfl (by rw [le_toInt]; omega) (by rw [le_toInt]; omega) (ca1 (h1 (Or.inl c)))
  · refine wi_out (l := 0) (u := 4) rfl rfl (by rw [lt_toInt, lt_toInt]; omega) (ca0 ?_)
    by_cases d : 10 ≤ x.toInt ∧ x.toInt ≤ 13
    · exact wi_in (l := 10) (u := 13) rfl rfl (by rw [le_toInt]; omega) (by rw [le_toInt]; omega) (ca1 (h1 (Or.inr d)))
    · exact wi_out (l := 10) (u := 13) rfl rfl (by rw [lt_toInt, lt_toInt]; omega) (ca0 (h0 (by omega)))
theorem dyr_lt {V A : Nat → Nat} {j : Nat} {h' : Hh} : ∀ {m k : Nat} {h : Hh}, dyr V A m k h = (some j, h') → j < k + m := by
  intro m
  induction m with
  | zero =>
    intro k h e
    exact absurd (congrArg Prod.fst e) (fun q => nomatch q)
  | succ m ih =>
    intro k h e
    by_cases c : canA h (V k) (A k)
    · rw [dyr_s c] at e
      have := ih e
      omega
    · rw [dyr_n c] at e
      have := Option.some.inj (congrArg Prod.fst e)
      omega
theorem n_m9 {k : Nat} (h : k < 1000) : ¬ nI k = -9 := fun e => by
  have := eq_toInt.mp e
  rw [nI_t (by omega), show (-9 : Int32).toInt = -9 from rfl] at this
  omega
theorem p_L111 {x1 x2 x3 x5 : Int32} {P n : Nat} {K : Int32 → Sg → Prop} {σ : Sg} (n20 : n ≤ 20) (hP : P + 2 * n ≤ 240) (hbad : ¬ (∀ k, k < n → isp (σ 46 (P + 2 * k)) (σ 46 (P + 2 * k + 1))) → K (-2) σ)
    (hgood : (∀ k, k < n → isp (σ 46 (P + 2 * k)) (σ 46 (P + 2 * k + 1))) → w_Md_keep σ (fun τ160 => w_Md_goDay (nI P) (nI n) τ160 (fun u168 τ168 => w_Md_tellDay x5 τ168 (fun u176 τ176 => w_Md_putBack τ176 (fun τ182 => ((¬ x5 = (1 : Int32) → ((¬ u168 = (-9 : Int32) → K ((-100 : Int32) - u168) τ182) ∧ (u168 = (-9 : Int32) → K u176 τ182))) ∧ (x5 = (1 : Int32) → K u168 τ182))))))) : ∃ m, L_Md_day_111 x1 x2 x3 (nI n) x5 (nI P) K m 0 σ := by
  have key : ∀ m i, i + m = n → (∀ k, k < i → isp (σ 46 (P + 2 * k)) (σ 46 (P + 2 * k + 1))) → L_Md_day_111 x1 x2 x3 (nI n) x5 (nI P) K (m + 1) (nI i) σ := by
    intro m
    induction m with
    | zero =>
      intro i hi g
      have : i = n := by omega
      subst this
      unfold L_Md_day_111
      exact ⟨fun _ => hgood g, fun c => absurd ((n_le (by omega) (by omega)).mpr (Nat.le_refl _)) c⟩
    | succ m ih =>
      intro i hi g
      unfold L_Md_day_111
      refine ⟨fun c => absurd ((n_le (by omega) (by omega)).mp c) (by omega), fun _ => ?_⟩
      rw [show (2 : Int32) = nI 2 from rfl, pk_mul, nI_add, show nI (P + 2 * i) + 1 = nI (P + 2 * i + 1) from nI_add (P + 2 * i) 1, nI_c (by omega), nI_c (by omega), show nI i + 1 = nI (i + 1) from nI_add i 1]
      refine ⟨n_in (by omega) (by omega), n_in (by omega) (by omega), p_isPairM (fun q => ca1 (ih (i + 1) (by omega) (fun k hk2 => ?_))) (fun q => ca0 (hbad (fun g2 => q (g2 i (by omega)))))⟩
      by_cases e : k = i
      · rw [e]; exact q
      · exact g k (by omega)
  exact ⟨n + 1, key n 0 (by omega) (fun k hk2 => absurd hk2 (by omega))⟩
theorem H_day (σ : Sg) (a1 a2 a3 a4 a5 : Int32) (I : Inv σ) : w_Lc_day a1 a2 a3 a4 a5 σ (fun r0 τ0 => w_Md_day a1 a2 a3 a4 a5 τ0 (fun r1 τ1 => r0 = r1 ∧ Inv τ1)) := by
  obtain ⟨h, g⟩ := I
  have ok := g.1
  have hm4 := g.1.1
  unfold w_Lc_day
  intro τ2 e2
  have f2 : FzC 0 σ τ2 := by rw [e2]; exact fzc
  clear e2
  rcases ix a1 4 (by omega) with o | ⟨k, k4, rfl⟩
  · refine cs_out o (ca0 ?_)
    show w_Md_day a1 a2 a3 a4 a5 τ2 _
    unfold w_Md_day
    intro τ3 e3
    subst e3
    exact ms_out o (ca0 ⟨rfl, g.fz f2 fzm⟩)
  · refine cs_in k4 (ca1 ?_)
    rcases ix a2 3 (by omega) with o | ⟨l, l3, rfl⟩
    · refine cl_out o (cb0 ?_)
      show w_Md_day (nI k) a2 a3 a4 a5 τ2 _
      unfold w_Md_day
      intro τ3 e3
      subst e3
      exact ms_in k4 (ca1 (ml_out o (cb0 ⟨rfl, g.fz f2 fzm⟩)))
    · refine cl_in l3 (cb1 ?_)
      have out : (a4 < 0 ∨ 20 < a4) → w_Md_day (nI k) (nI l) a3 a4 a5 τ2 (fun r1 τ1 => (-2 : Int32) = r1 ∧ Inv τ1) := fun c => by
        unfold w_Md_day
        intro τ3 e3
        subst e3
        exact ms_in k4 (ca1 (ml_in l3 (cb1 (wi_out (l := 0) (u := 20) rfl rfl c (cb0 ⟨rfl, g.fz f2 fzm⟩)))))
      refine ⟨fun c => out (Or.inl c), fun c => ⟨fun c2 => out (Or.inr c2), fun c2 => ?_⟩⟩
      obtain ⟨m, m20, rfl⟩ : ∃ m : Nat, m ≤ 20 ∧ a4 = nI m := by
        rw [lt_toInt] at c c2
        have z1 : (0 : Int32).toInt = 0 := rfl
        have z2 : (20 : Int32).toInt = 20 := rfl
        exact ⟨a4.toInt.toNat, by omega, of_toInt (by omega)⟩
      have lo : (0 : Int32) ≤ nI m := nI_pos' (by omega)
      have hi : nI m ≤ (20 : Int32) := (show nI m ≤ nI 20 ↔ m ≤ 20 from n_le (by omega) (by omega)).mpr m20
      have e2m : (2 : Int32) * nI m = nI (2 * m) := by rw [show (2 : Int32) = nI 2 from rfl, pk_mul]
      refine p_askC (fun as => ca1 ⟨n_in (by omega) (by omega), ?_⟩) (fun nas => ca0 ?_)
      · obtain ⟨w, hw, rfl⟩ : ∃ w : Nat, (w ≤ 4 ∨ (10 ≤ w ∧ w ≤ 13)) ∧ a5 = nI w := by
          have as := as
          unfold ask at as
          exact ⟨a5.toInt.toNat, by omega, of_toInt (by omega)⟩
        rw [e2m, nI_c (by omega)]
        have S2 := f2.sh g.2.2.2.1
        have fault : ∀ v : Int32, ¬ v = 0 → (∀ (K : Int32 → Prop) (t : Sg), t 44 = τ2 44 → t 45 = τ2 45 → K v → w_Md_against (nI k) (nI l) a3 (nI (2 * m)) t K) → w_Lc_faulted v τ2 (fun r0 τ0 => w_Md_day (nI k) (nI l) a3 (nI m) (nI w) τ0 (fun r1 τ1 => r0 = r1 ∧ Inv τ1)) := fun v v0 ag => by
          unfold w_Lc_faulted
          intro τ4 e4
          have f4 : FzC v σ τ4 := by rw [e4]; exact f2.again
          show w_Md_day (nI k) (nI l) a3 (nI m) (nI w) τ4 _
          unfold w_Md_day
          intro t1 q1
          refine ms_in k4 (ca1 (ml_in l3 (cb1 (wi_in (l := 0) (u := 20) rfl rfl lo hi (cb1 (p_askM (fun _ => ?_) (fun q => absurd as q)))))))
          unfold B_Md_day_65
          rw [e2m]
          refine ag _ t1 (by rw [q1, s2_ne (by omega), e4, s2_ne (by omega)]) (by rw [q1, s2_ne (by omega), e4, s2_ne (by omega)]) ⟨fun e => absurd e v0, fun _ => ?_⟩
          unfold w_Md_fails
          intro t2 q2
          subst q2
          subst q1
          exact ⟨rfl, g.fz f4 (fzm.again (u := 0))⟩
        rcases (S2 k k4).1 with ⟨s1, s2'⟩ | ⟨L, n, hL, hn, s1, s2', s3, s4⟩
        · exact p_fCells0 s1 (cb1 (fault 1 (by decide) (fun K t e _ hK => p_ag0 k4 (by rw [e]; exact s2') hK)))
        · have c' : ¬ nI (2 * m) < 0 := n_neg (2 * m) (by omega)
          refine p_fCells s3 hn s1 hL l3 (fun eL hd => cb0 ?_) (fun eL hd => ⟨fun e => absurd e (by decide), fun _ => fault 3 (by decide) (fun K t e1 e2 hK => p_ag k4 (by rw [e1]; exact s2') hL l3 (by rw [e2]; exact s4) hn (fun q => absurd eL q) (fun _ q => absurd q c') (fun _ _ _ => hK) (fun _ q => absurd q hd))⟩) (fun eL => ⟨fun e => absurd e (by decide), fun _ => fault 2 (by decide) (fun K t e1 e2 hK => p_ag k4 (by rw [e1]; exact s2') hL l3 (by rw [e2]; exact s4) hn (fun _ => hK) (fun q => absurd q eL) (fun q => absurd q eL) (fun q => absurd q eL))⟩)
          unfold w_Lc_hasHouse
          have RC : RC' 1 h τ2 := g.2.1.of (f2.1 1 (by omega)) (f2.1 2 (by omega)) (f2.1 3 (by omega)) (f2.1 4 (by omega)) (f2.1 5 (by omega))
          rw [RC.1]
          have hd0 := hd
          obtain ⟨a, m2, rfl, em2, ham⟩ := hd
          have em2 : 2 * m = m2 := (n_eq (by omega) (by omega)).mp em2
          subst em2
          have enter : ∀ {τ : Sg} {K : Int32 → Sg → Prop}, τ 43 5 = nI (hm h) → τ 44 = τ2 44 → τ 45 = τ2 45 → (∀ t : Sg, t = s2 τ 43 0 0 → ((hm h = 0 → K (-3) t) ∧ (¬ hm h = 0 → ∃ n, L_Md_day_111 (nI k) (nI l) (nI a) (nI m) (nI w) (nI (60 * k + a)) K n 0 t))) → w_Md_day (nI k) (nI l) (nI a) (nI m) (nI w) τ K := fun {τ K} e5 e44 e45 hK => by
            unfold w_Md_day
            intro t1 q1
            have u5 : t1 43 5 = nI (hm h) := by rw [q1, s2_ai (by omega), e5]
            have u44 : t1 44 = τ2 44 := by rw [q1, s2_ne (by omega), e44]
            have u45 : t1 45 = τ2 45 := by rw [q1, s2_ne (by omega), e45]
            refine ms_in k4 (ca1 (ml_in l3 (cb1 (wi_in (l := 0) (u := 20) rfl rfl lo hi (cb1 (p_askM (fun _ => ?_) (fun q => absurd as q)))))))
            unfold B_Md_day_65
            rw [e2m]
            refine p_ag k4 (by rw [u44]; exact s2') hL l3 (by rw [u45]; exact s4) hn (fun q => absurd eL q) (fun _ q => absurd q c') (fun _ _ q => absurd hd0 q) (fun _ _ => cb0 ?_)
            rw [u5]
            refine ⟨fun q => fun y ey => ?_, fun q => (hK t1 q1).1 ((n_eq0 (by omega)).mp q)⟩
            rw [show (60 : Int32) = nI 60 from rfl, pk_mul, nI_add] at ey
            subst ey
            exact (hK t1 q1).2 (fun e => q ((n_eq0 (by omega)).mpr e))
          have M43 : τ2 43 = σ 43 := f2.1 43 (by omega)
          refine ⟨fun c3 => ca0 ?_, fun c3 => ca1 ?_⟩
          · have m0 := (n_le0 (by omega)).mp c3
            show w_Md_day (nI k) (nI l) (nI a) (nI m) (nI w) τ2 _
            refine enter (by rw [M43]; exact g.2.2.1.1) rfl rfl (fun t q => ⟨fun _ => ⟨rfl, ?_⟩, fun e => absurd m0 e⟩)
            subst q
            exact g.fz f2 fzm
          · have m0 : ¬ hm h = 0 := fun e => c3 ((n_le0 (by omega)).mpr e)
            have same : ∀ j, j < 2 * m → τ2 (33 + 2 * k + 1) (a + j) = τ2 46 (60 * k + a + j) := fun j hj => by
              rw [show 60 * k + a + j = 60 * k + (a + j) by omega, show 33 + 2 * k + 1 = 34 + 2 * k by omega]
              exact (S2 k k4).2 (a + j) (by omega)
            have sp : ∀ i, i < m → (isp (τ2 (33 + 2 * k + 1) (a + 2 * i)) (τ2 (33 + 2 * k + 1) (a + 2 * i + 1)) ↔ isp (τ2 46 (60 * k + a + 2 * i)) (τ2 46 (60 * k + a + 2 * i + 1))) := fun i hi2 => by
              rw [same (2 * i) (by omega), show a + 2 * i + 1 = a + (2 * i + 1) by omega, same (2 * i + 1) (by omega), show 60 * k + a + (2 * i + 1) = 60 * k + a + 2 * i + 1 by omega]
            refine p_arePairsC (by omega) (fun good => ca1 ?_) (fun bad => ca0 ?_)
            · have fin : ∀ (τb : Sg) (z : Int32), (∀ c, (c < 6 ∨ 10 < c) ∧ (c < 19 ∨ 27 < c) → τb c = τ2 c) → (∃ E Q, UE τb E Q) → (∀ r h', dyr (fun i => (τ2 (33 + 2 * k + 1) (a + 2 * i)).toInt.toNat) (fun i => (τ2 (33 + 2 * k + 1) (a + 2 * i + 1)).toInt.toNat) m 0 h = (r, h') → (w = 1 → z = rv r) ∧ (¬ w = 1 → (r = none → z = dAns h' w) ∧ ∀ i, r = some i → z = -100 - nI i)) → w_Md_day (nI k) (nI l) (nI a) (nI m) (nI w) τb (fun r1 τ1 => z = r1 ∧ Inv τ1) := fun τb z fb ub hz => by
                refine enter (by rw [fb 43 (by omega), M43]; exact g.2.2.1.1) (fb 44 (by omega)) (fb 45 (by omega)) (fun t q => ⟨fun e => absurd e m0, fun _ => ?_⟩)
                have t46 : t 46 = τ2 46 := by rw [q, s2_ne (by omega), fb 46 (by omega)]
                have t43 : ∀ j, j ≠ 0 → t 43 j = σ 43 j := fun j hj => by rw [q, s2_ai hj, fb 43 (by omega), M43]
                refine p_L111 m20 (by omega) (fun bad => absurd (fun i hi2 => by rw [t46]; exact (sp i hi2).mp (good i hi2)) bad) (fun _ => ?_)
                refine p_keep (fun t1 k1 k2 k3 k4' k5 k6 => ?_)
                have x1 : ∀ c, c ≠ 43 → c ≠ 63 → c ≠ 64 → t1 c = τb c := fun c c0 c1 c2 => by rw [k1 c c0 c1 c2, q, s2_ne c0]
                have RM := g.2.2.1
                have Rt : RM' h t1 := RM.of (by rw [k2 5 (by omega) (by omega), t43 5 (by omega)]) (by rw [k2 9 (by omega) (by omega), t43 9 (by omega)]) (by rw [k2 11 (by omega) (by omega), t43 11 (by omega)]) (by rw [x1 47 (by omega) (by omega) (by omega), fb 47 (by omega), f2.1 47 (by omega)]) (by rw [x1 48 (by omega) (by omega) (by omega), fb 48 (by omega), f2.1 48 (by omega)]) (by rw [x1 49 (by omega) (by omega) (by omega), fb 49 (by omega), f2.1 49 (by omega)]) (by rw [x1 50 (by omega) (by omega) (by omega), fb 50 (by omega), f2.1 50 (by omega)])
                refine p_goDay (V := fun i => (τ2 (33 + 2 * k + 1) (a + 2 * i)).toInt.toNat) (A := fun i => (τ2 (33 + 2 * k + 1) (a + 2 * i + 1)).toInt.toNat) ok Rt m20 (by omega) (fun i hi2 => ?_) (fun t2 r h' ed fg okh Rh => ?_)
                · obtain ⟨n1, n2, n3⟩ := isp_n (good i hi2)
                  rw [k1 46 (by omega) (by omega) (by omega), t46, ← same (2 * i) (by omega), show 60 * k + a + 2 * i + 1 = 60 * k + a + (2 * i + 1) by omega, ← same (2 * i + 1) (by omega), show a + (2 * i + 1) = a + 2 * i + 1 by omega]
                  exact ⟨n1, n2, n3⟩
                · refine p_tellDay ⟨okh, Rh, fun qq => absurd (by rw [fg.2.1 17 (by omega)]; exact k3) qq⟩ hw (fun t3 zz hzz ff => p_putBack (fun t4 p1 p2 p3 p4 p5 p6 p7 p8 => ?_))
                  have Y : ∀ c, c ≠ 43 ∧ c ≠ 49 ∧ c ≠ 50 ∧ c ≠ 63 ∧ c ≠ 64 ∧ (c < 54 ∨ 63 ≤ c) → t4 c = τb c := fun c p => by rw [p1 c p.1 p.2.1 p.2.2.1, ff.1 c p.1 p.2.2.2.2.2, fg.1 c p.1 p.2.1 p.2.2.1, x1 c p.1 p.2.2.2.1 p.2.2.2.2.1]
                  have Y49 : t4 49 = τb 49 := by
                    funext j
                    by_cases hj : j < 12
                    · rw [p5 j hj, ff.1 63 (by omega) (by omega), fg.1 63 (by omega) (by omega) (by omega), k5 j hj, q, s2_ne (by omega)]
                    · rw [p6 j (by omega), ff.1 49 (by omega) (by omega), fg.2.2.1 j (by omega), x1 49 (by omega) (by omega) (by omega)]
                  have Y50 : t4 50 = τb 50 := by
                    funext j
                    by_cases hj : j < 20
                    · rw [p7 j hj, ff.1 64 (by omega) (by omega), fg.1 64 (by omega) (by omega) (by omega), k6 j hj, q, s2_ne (by omega)]
                    · rw [p8 j (by omega), ff.1 50 (by omega) (by omega), fg.2.2.2 j (by omega), x1 50 (by omega) (by omega) (by omega)]
                  have Y43 : ∀ j, j ≠ 17 → j ≠ 29 → t4 43 j = t 43 j := fun j j1 j2 => by
                    by_cases hj : j = 11
                    · rw [hj, p4, ff.2 29 (by omega), fg.2.1 29 (by omega), k4']
                    · rw [p2 j j1 hj, ff.2 j j1, fg.2.1 j hj, k2 j j1 j2]
                  have IV : Inv t4 := by
                    refine g.dy (fun c p => ?_) (fun j hj => ?_) ?_ (fun j j0 j1 j2 => by rw [Y43 j j1 j2, t43 j j0]) p3 ?_
                    · have e1 : t4 c = τb c := by
                        by_cases q49 : c = 49
                        · rw [q49]; exact Y49
                        · by_cases q50 : c = 50
                          · rw [q50]; exact Y50
                          · exact Y c (by omega)
                      rw [e1, fb c (by omega), f2.1 c p.1]
                    · rw [Y 0 (by omega), fb 0 (by omega), f2.2.1 j hj]
                    · rw [Y 0 (by omega), fb 0 (by omega), f2.2.2, Y43 0 (by omega) (by omega), q, s2_at]
                    · obtain ⟨E, Q, u⟩ := ub
                      exact ⟨E, Q, u.1, by rw [Y 22 (by omega)]; exact u.2.1, by rw [Y 22 (by omega)]; exact u.2.2⟩
                  have hz := hz r h' ed
                  refine ⟨fun w1 => ?_, fun w1 => ⟨hz.1 ((show nI w = nI 1 ↔ w = 1 from n_eq (by omega) (by omega)).mp w1), IV⟩⟩
                  have w1 : ¬ w = 1 := fun e => w1 (by rw [e]; rfl)
                  have hz := hz.2 w1
                  match r, ed, hz with
                  | none, _, hz => exact ⟨fun e => absurd rfl e, fun _ => ⟨by rw [hz.1 rfl, hzz w1], IV⟩⟩
                  | some i, ed, hz => exact ⟨fun _ => ⟨hz.2 i rfl, IV⟩, fun e => absurd e (n_m9 (by have := dyr_lt ed; omega))⟩
              have fa' : ∀ τa, FH τ2 τa → ∀ c, (c < 6 ∨ 10 < c) ∧ (c < 19 ∨ 27 < c) → τa c = τ2 c := fun τa fa c p => fa c (by omega) (by omega) (by omega) (by omega) (by omega)
              have ua : ∀ τa, FH τ2 τa → ∃ E Q, UE τa E Q := fun τa fa => by
                obtain ⟨E, Q, u⟩ := g.2.2.2.2.2.2.2.2.2.1
                have e22 : τa 22 = σ 22 := by rw [fa 22 (by omega) (by omega) (by omega) (by omega) (by omega), f2.1 22 (by omega)]
                exact ⟨E, Q, u.1, by rw [e22]; exact u.2.1, by rw [e22]; exact u.2.2⟩
              refine p_live (V := fun i => (τ2 (33 + 2 * k + 1) (a + 2 * i)).toInt.toNat) (A := fun i => (τ2 (33 + 2 * k + 1) (a + 2 * i + 1)).toInt.toNat) ok RC (by omega) m20 (by omega) (fun i hi2 => isp_n (good i hi2)) (fun τa h' ed fa okh Rh => ?_) (fun τa i h' ed hi2 fa => ?_)
              · refine ⟨fun w1 => ⟨fun e => absurd rfl e, fun _ => p_answer okh Rh (ua τa fa) ⟨fun e => w1 (by rw [e]; rfl), hw⟩ (fun τb b1 b2 => ?_)⟩, fun w1 => ?_⟩
                · refine fin τb _ (fun c p => ?_) b2 (fun r h2 ed2 => ?_)
                  · rw [b1 c (by omega) (by omega) (by omega) (by omega) (by omega) (by omega) (by omega) (by omega) (by omega)]
                    exact fa' τa fa c p
                  · rw [ed] at ed2
                    obtain ⟨rfl, rfl⟩ := Prod.mk.inj ed2
                    exact ⟨fun e => absurd (by rw [e]; rfl) w1, fun _ => ⟨fun _ => rfl, fun i e => nomatch e⟩⟩
                · refine fin τa _ (fa' τa fa) (ua τa fa) (fun r h2 ed2 => ?_)
                  rw [ed] at ed2
                  obtain ⟨rfl, rfl⟩ := Prod.mk.inj ed2
                  exact ⟨fun _ => rfl, fun e => absurd ((show nI w = nI 1 ↔ w = 1 from n_eq (by omega) (by omega)).mp w1) e⟩
              · refine ⟨fun w1 => ⟨fun _ => ?_, fun e => absurd e (n_m9 (by omega))⟩, fun w1 => ?_⟩
                · refine fin τa _ (fa' τa fa) (ua τa fa) (fun r h2 ed2 => ?_)
                  rw [ed] at ed2
                  obtain ⟨rfl, rfl⟩ := Prod.mk.inj ed2
                  exact ⟨fun e => absurd (by rw [e]; rfl) w1, fun _ => ⟨fun e => (nomatch e), fun j e => by rw [Option.some.inj e]⟩⟩
                · refine fin τa _ (fa' τa fa) (ua τa fa) (fun r h2 ed2 => ?_)
                  rw [ed] at ed2
                  obtain ⟨rfl, rfl⟩ := Prod.mk.inj ed2
                  exact ⟨fun _ => rfl, fun e => absurd ((show nI w = nI 1 ↔ w = 1 from n_eq (by omega) (by omega)).mp w1) e⟩
            · show w_Md_day (nI k) (nI l) (nI a) (nI m) (nI w) τ2 _
              refine enter (by rw [M43]; exact g.2.2.1.1) rfl rfl (fun t q => ⟨fun e => absurd e m0, fun _ => ?_⟩)
              have t46 : t 46 = τ2 46 := by rw [q, s2_ne (by omega)]
              refine p_L111 m20 (by omega) (fun _ => ⟨rfl, ?_⟩) (fun good => absurd (fun i hi2 => ?_) bad)
              · subst q
                exact g.fz f2 fzm
              · have := good i hi2
                rw [t46] at this
                exact (sp i hi2).mpr this
      · show w_Md_day (nI k) (nI l) a3 (nI m) a5 τ2 _
        unfold w_Md_day
        intro τ3 e3
        subst e3
        exact ms_in k4 (ca1 (ml_in l3 (cb1 (wi_in (l := 0) (u := 20) rfl rfl lo hi (cb1 (p_askM (fun q => absurd q nas) (fun _ => ⟨rfl, g.fz f2 fzm⟩)))))))
