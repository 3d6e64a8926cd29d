theorem p_allowsBase {o T : Nat} {x : Int32} {σ : Sg} {K : Int32 → Prop} {f : Nat → Nat} (e : σ o 5 = nI T) (T20 : T ≤ 20) (ev : ∀ t, t < T → σ (o + 4) t = nI (f t)) (h1 : (∀ t, t < T → x ≤ nI (f t)) → K 1) (h0 : ¬ (∀ t, t < T → x ≤ nI (f t)) → K 0) : w_Ho_allowsBase o x σ K := by
  have key : ∀ n i, i + n = T → (∀ t, t < i → x ≤ nI (f t)) → L_Ho_allowsBase_2 o x σ K (n + 1) (nI i) := by
    intro n
    induction n with
    | zero =>
      intro i hi g
      have : i = T := by omega
      subst this
      unfold L_Ho_allowsBase_2
      rw [e]
      exact ⟨fun _ => h1 g, fun c => absurd ((n_le (by omega) (by omega)).mpr (Nat.le_refl _)) c⟩
    | succ n ih =>
      intro i hi g
      unfold L_Ho_allowsBase_2
      rw [e, nI_c (by omega), ev i (by omega)]
      refine ⟨fun c => absurd ((n_le (by omega) (by omega)).mp c) (by omega), fun _ => ⟨n_in (by omega) (by omega), fun c => ?_, fun c => h0 (fun q => c (q i (by omega)))⟩⟩
      rw [show (1 : Int32) = nI 1 from rfl, nI_add]
      refine ih (i + 1) (by omega) (fun t ht' => ?_)
      by_cases q : t = i
      · rw [q]; exact c
      · exact g t (by omega)
  unfold w_Ho_allowsBase
  exact ⟨T + 1, key T 0 (by omega) (fun t q => absurd q (by omega))⟩
theorem p_canBase {T : Nat} {x : Int32} {σ : Sg} {K : Int32 → Prop} {f : Nat → Nat} (e : σ 43 9 = nI T) (T20 : T ≤ 20) (ev : ∀ t, t < T → σ 50 t = nI (f t)) (h1 : (∀ t, t < T → x ≤ nI (f t)) → K 1) (h0 : ¬ (∀ t, t < T → x ≤ nI (f t)) → K 0) : w_Md_canBase x σ K := by
  have key : ∀ n i, i + n = T → (∀ t, t < i → x ≤ nI (f t)) → L_Md_canBase_2 x σ K (n + 1) (nI i) := by
    intro n
    induction n with
    | zero =>
      intro i hi g
      have : i = T := by omega
      subst this
      unfold L_Md_canBase_2
      rw [e]
      exact ⟨fun _ => h1 g, fun c => absurd ((n_le (by omega) (by omega)).mpr (Nat.le_refl _)) c⟩
    | succ n ih =>
      intro i hi g
      unfold L_Md_canBase_2
      rw [e, nI_c (by omega), ev i (by omega)]
      refine ⟨fun c => absurd ((n_le (by omega) (by omega)).mp c) (by omega), fun _ => ⟨n_in (by omega) (by omega), fun c => ?_, fun c => h0 (fun q => c (q i (by omega)))⟩⟩
      rw [show (1 : Int32) = nI 1 from rfl, nI_add]
      refine ih (i + 1) (by omega) (fun t ht' => ?_)
      by_cases q : t = i
      · rw [q]; exact c
      · exact g t (by omega)
  unfold w_Md_canBase
  exact ⟨T + 1, key T 0 (by omega) (fun t q => absurd q (by omega))⟩
theorem n_le0 {n : Nat} (h : n < 1000000) : nI n ≤ 0 ↔ n = 0 := by
  constructor
  · intro c
    have := (show nI n ≤ nI 0 ↔ n ≤ 0 from n_le (by omega) (by omega)).mp c
    omega
  · intro c
    subst c
    exact (show nI 0 ≤ nI 0 ↔ 0 ≤ 0 from n_le (by omega) (by omega)).mpr (Nat.le_refl _)
theorem n_eq0 {n : Nat} (h : n < 1000000) : nI n = 0 ↔ n = 0 := (show nI n = nI 0 ↔ n = 0 from n_eq (by omega) (by omega))
theorem H_base (σ : Sg) (a1 : Int32) (I : Inv σ) : w_Lc_base a1 σ (fun r0 τ0 => w_Md_base a1 τ0 (fun r1 τ1 => r0 = r1 ∧ Inv τ1)) := by
  obtain ⟨h, g⟩ := I
  have ok := g.1
  have hm4 := g.1.1
  have T20 := ok.2.2.1
  have RC := g.2.1
  have RM := g.2.2.1
  have out : (a1 < 0 ∨ 99 < a1) → w_Md_base a1 σ (fun r1 τ1 => (-2 : Int32) = r1 ∧ Inv τ1) := fun c => by
    unfold w_Md_base
    exact wi_out (l := 0) (u := 99) rfl rfl c (ca0 ⟨rfl, h, g⟩)
  unfold w_Lc_base w_Lc_isMeterValue
  refine ⟨fun c => ca0 (out (Or.inl c)), fun c => ⟨fun c2 => ca0 (out (Or.inr c2)), fun c2 => ca1 ?_⟩⟩
  have lo : (0 : Int32) ≤ a1 := by rw [le_toInt]; rw [lt_toInt] at c; omega
  have hi : a1 ≤ (99 : Int32) := by rw [le_toInt]; rw [lt_toInt] at c2; omega
  obtain ⟨v, v99, rfl⟩ : ∃ v : Nat, v ≤ 99 ∧ a1 = nI v := by
    have q1 := lo
    have q2 := hi
    rw [le_toInt] at q1 q2
    have z1 : (0 : Int32).toInt = 0 := rfl
    have z2 : (99 : Int32).toInt = 99 := rfl
    exact ⟨a1.toInt.toNat, by omega, of_toInt (by omega)⟩
  unfold w_Lc_hasHouse
  rw [RC.1]
  refine ⟨fun c3 => cb0 ?_, fun c3 => cb1 ?_⟩
  · have m0 := (n_le0 (by omega)).mp c3
    show w_Md_base (nI v) σ _
    unfold w_Md_base
    rw [RM.1, m0]
    exact wi_in (l := 0) (u := 99) rfl rfl lo hi (ca1 ⟨fun _ => ⟨rfl, h, g⟩, fun c => absurd rfl c⟩)
  · have m0 : ¬ hm h = 0 := fun e => c3 ((n_le0 (by omega)).mpr e)
    have m0' : ¬ nI (hm h) = 0 := fun e => m0 ((n_eq0 (by omega)).mp e)
    refine p_allowsBase RC.2.1 T20 RC.2.2.2.2 (fun all => ca1 (fun y ey τ1 e1 => p_forget (fun τ w1 w2 w3 w4 => ?_))) (fun nall => ca0 ?_)
    · show w_Md_base (nI v) τ _
      have z : ∀ c, c ≠ 0 → c ≠ 30 → c ≠ 1 → τ c = σ c := fun c c0 c1 c2 => by rw [w1 c c0 c1, e1, s2_ne c2]
      have z0 : ∀ j, j ≠ 11 → τ 0 j = σ 0 j := fun j hj => by rw [w2 j hj, e1, s2_ne (by omega)]
      have z1 : ∀ j, j ≠ 6 → τ 1 j = σ 1 j := fun j hj => by rw [w1 1 (by omega) (by omega), e1, s2_ai hj]
      have z6 : τ 1 6 = nI v := by rw [w1 1 (by omega) (by omega), e1, s2_at]
      unfold w_Md_base
      rw [z 43 (by omega) (by omega) (by omega), RM.1]
      refine wi_in (l := 0) (u := 99) rfl rfl lo hi (ca1 ⟨fun c => absurd c m0', fun _ => p_canBase (by rw [z 43 (by omega) (by omega) (by omega)]; exact RM.2.1) T20 (fun t ht' => by rw [z 50 (by omega) (by omega) (by omega)]; exact RM.2.2.2.2.2 t ht') (fun _ => ca1 (fun b eb t1 q1 t2 q2 => ⟨?_, ?_⟩)) (fun q => absurd all q)⟩)
      · rw [ey, eb, RC.2.2.1, RM.2.2.1]
      · have u : ∀ c, c ≠ 43 → t2 c = τ c := fun c c0 => by rw [q2, s2_ne c0, q1, s2_ne c0]
        have u43 : ∀ j, j ≠ 11 → j ≠ 17 → t2 43 j = σ 43 j := fun j h1 h2 => by rw [q2, s2_ai h2, q1, s2_ai h1, z 43 (by omega) (by omega) (by omega)]
        have x : ∀ c, c ≠ 0 ∧ c ≠ 30 ∧ c ≠ 1 ∧ c ≠ 43 → t2 c = σ c := fun c p => by rw [u c p.2.2.2, z c p.1 p.2.1 p.2.2.1]
        refine Iv_new (h := (hm h, hk h, hl h, ht h, hT h, hv h, v)) ⟨ok.1, ok.2.1, ok.2.2.1, v99, fun t ht' => ⟨?_, (ok.2.2.2.2 t ht').2⟩⟩ ⟨?_, ?_, ?_, fun b hb' => ?_, fun t ht' => ?_⟩ ⟨?_, ?_, ?_, fun b hb' => ?_, fun b hb' b4 => ?_, fun t ht' => ?_⟩ (g.2.2.2.1.of (fun c c1 c2 => x c (by omega)) (x 44 (by omega)) (x 45 (by omega)) (x 46 (by omega))) ⟨?_, ?_⟩ (g.2.2.2.2.2.1.of (by rw [u 0 (by omega), z0 10 (by omega)]) (u43 30 (by omega) (by omega)) (x 41 (by omega)) (x 42 (by omega)) (x 65 (by omega)) (x 66 (by omega))) (by rw [u 0 (by omega)]; exact w3) (by rw [q2, s2_at]) (fun j hj => by rw [u 30 (by omega)]; exact w4 j hj) (g.2.2.2.2.2.2.2.2.2.of (by rw [x 22 (by omega)]) (by rw [x 22 (by omega)]) (by rw [x 11 (by omega)]) (by rw [x 11 (by omega)]))
        · have := (ok.2.2.2.2 t ht').2
          have q := (show nI v ≤ nI (hv h t) ↔ v ≤ hv h t from n_le (by omega) (by omega)).mp (all t ht')
          exact q
        · rw [u 1 (by omega), z1 4 (by omega)]; exact RC.1
        · rw [u 1 (by omega), z1 5 (by omega)]; exact RC.2.1
        · rw [u 1 (by omega)]; exact z6
        · rw [x 2 (by omega), x 3 (by omega), x 4 (by omega)]; exact RC.2.2.2.1 b hb'
        · rw [x 5 (by omega)]; exact RC.2.2.2.2 t ht'
        · rw [u43 5 (by omega) (by omega)]; exact RM.1
        · rw [u43 9 (by omega) (by omega)]; exact RM.2.1
        · rw [q2, s2_ai (by omega), q1, s2_at]
        · rw [x 47 (by omega), x 48 (by omega), x 49 (by omega)]; exact RM.2.2.2.1 b hb'
        · rw [x 48 (by omega)]; exact RM.2.2.2.2.1 b hb' b4
        · rw [x 50 (by omega)]; exact RM.2.2.2.2.2 t ht'
        · rw [u 0 (by omega), z0 13 (by omega), u43 0 (by omega) (by omega)]; exact g.2.2.2.2.1.1
        · rw [u 0 (by omega), z0 12 (by omega), u43 1 (by omega) (by omega)]; exact g.2.2.2.2.1.2
    · show w_Md_base (nI v) σ _
      unfold w_Md_base
      rw [RM.1]
      exact wi_in (l := 0) (u := 99) rfl rfl lo hi (ca1 ⟨fun c => absurd c m0', fun _ => p_canBase RM.2.1 T20 RM.2.2.2.2.2 (fun q => absurd q nall) (fun _ => ca0 ⟨rfl, h, g⟩)⟩)
/-! meter -/
def gcl (b : Nat) (x : Int32) : Prop := nI b ≤ x ∧ x ≤ 99
theorem gcl_n {b : Nat} {x : Int32} (hb' : b ≤ 99) (g : gcl b x) : x = nI x.toInt.toNat ∧ b ≤ x.toInt.toNat ∧ x.toInt.toNat ≤ 99 := by
  obtain ⟨g1, g2⟩ := g
  rw [le_toInt] at g1 g2
  rw [nI_t (by omega)] at g1
  have z2 : (99 : Int32).toInt = 99 := rfl
  exact ⟨of_toInt (by omega), by omega, by omega⟩
theorem p_L80 {x1 x2 : Int32} {k a n b : Nat} {K : Int32 → Sg → Prop} {σ : Sg} (k4 : k < 4) (h60 : a + n ≤ 60) (n20 : n ≤ 20) (b99 : b ≤ 99) (eb : σ 1 6 = nI b) (hbad : ¬ (∀ j, j < n → gcl b (σ (34 + 2 * k) (a + j))) → K (-2) σ)
    (hgood : (∀ j, j < n → gcl b (σ (34 + 2 * k) (a + j))) → ∀ τ : Sg, (∀ c, c ≠ 0 → c ≠ 30 → c ≠ 1 → c ≠ 5 → τ c = σ c) → (∀ j, j ≠ 11 → τ 0 j = σ 0 j) → τ 0 11 = 0 → (∀ j, j < 48 → τ 30 j = 0) → (∀ j, j ≠ 5 → τ 1 j = σ 1 j) → τ 1 5 = nI n → (∀ j, j < n → τ 5 j = σ (34 + 2 * k) (a + j)) → K (nI n) τ) : ∃ m, L_Lc_meter_80 x1 x2 (nI a) (nI n) (33 + 2 * k) K m 0 σ := by
  have key : ∀ m i, i + m = n → (∀ j, j < i → gcl b (σ (34 + 2 * k) (a + j))) → L_Lc_meter_80 x1 x2 (nI a) (nI n) (33 + 2 * k) K (m + 1) (nI i) σ := by
    intro m
    induction m with
    | zero =>
      intro i hi g
      have : i = n := by omega
      subst this
      unfold L_Lc_meter_80
      refine ⟨fun _ => ⟨cpk_nI (b := 0) (by omega) (by omega) (by omega) (by omega), fun τ1 e1 τ2 e2 => p_forget (fun τ w1 w2 w3 w4 => ?_)⟩, fun c => absurd ((n_le (by omega) (by omega)).mpr (Nat.le_refl _)) c⟩
      rw [show (0 : Int32) = nI 0 from rfl, nI_c (by omega), nI_c (by omega), nI_c (by omega)] at e1
      refine hgood g τ (fun c c0 c1 c2 c3 => by rw [w1 c c0 c1, e2, s2_ne c2, e1, s1_ne c3]) (fun j hj => by rw [w2 j hj, e2, s2_ne (by omega), e1, s1_ne (by omega)]) w3 w4 (fun j hj => by rw [w1 1 (by omega) (by omega), e2, s2_ai hj, e1, s1_ne (by omega)]) (by rw [w1 1 (by omega) (by omega), e2, s2_at]) (fun j hj => ?_)
      rw [w1 5 (by omega) (by omega), e2, s2_ne (by omega), e1, s1_eq, pk_cpy_in (by omega) (by omega), show 33 + 2 * k + 1 = 34 + 2 * k by omega]
      rfl
    | succ m ih =>
      intro i hi g
      unfold L_Lc_meter_80
      rw [nI_add a i, show (nI (a + i)).toNatClampNeg = a + i from nI_c (by omega), show 33 + 2 * k + 1 = 34 + 2 * k by omega, eb]
      refine ⟨fun c => absurd ((n_le (by omega) (by omega)).mp c) (by omega), fun _ => ⟨n_in (by omega) (by omega), fun c => hbad (fun q => ?_), fun c => ⟨n_in (by omega) (by omega), fun c2 => ?_, fun c2 => hbad (fun q => c2 (q i (by omega)).2)⟩⟩⟩
      · have := (q i (by omega)).1
        rw [le_toInt] at this
        rw [lt_toInt] at c
        omega
      · rw [show (1 : Int32) = nI 1 from rfl, nI_add i 1]
        refine ih (i + 1) (by omega) (fun j hj => ?_)
        by_cases q : j = i
        · subst q
          exact ⟨by rw [le_toInt]; rw [lt_toInt] at c; omega, c2⟩
        · exact g j (by omega)
  exact ⟨n + 1, key n 0 (by omega) (fun j hj => absurd hj (by omega))⟩
theorem p_L131 {x1 x2 x3 : Int32} {p n : Nat} {K : Int32 → Sg → Prop} {σ0 : Sg} (hp : p + n ≤ 240) (n20 : n ≤ 20) (hK : ∀ τ : Sg, (∀ c, c ≠ 43 → c ≠ 50 → τ c = σ0 c) → (∀ j, j ≠ 17 → τ 43 j = σ0 43 j) → τ 43 17 = 0 → (∀ j, j < n → τ 50 j = σ0 46 (p + j)) → K (nI n) τ) : ∃ m, L_Md_meter_131 x1 x2 x3 (nI n) (nI p) K m 0 σ0 := by
  have key : ∀ m i (σ : Sg), i + m = n → (∀ c, c ≠ 50 → σ c = σ0 c) → (∀ j, j < i → σ 50 j = σ0 46 (p + j)) → L_Md_meter_131 x1 x2 x3 (nI n) (nI p) K (m + 1) (nI i) σ := by
    intro m
    induction m with
    | zero =>
      intro i σ hi g1 g2
      have : i = n := by omega
      subst this
      unfold L_Md_meter_131
      exact ⟨fun _ τ e => hK τ (fun c c0 c1 => by rw [e, s2_ne c0]; exact g1 c c1) (fun j hj => by rw [e, s2_ai hj, g1 43 (by omega)]) (by rw [e, s2_at]) (fun j hj => by rw [e, s2_ne (by omega)]; exact g2 j hj), fun c => absurd ((n_le (by omega) (by omega)).mpr (Nat.le_refl _)) c⟩
    | succ m ih =>
      intro i σ hi g1 g2
      unfold L_Md_meter_131
      rw [nI_add p i, nI_c (by omega), nI_c (by omega)]
      refine ⟨fun c => absurd ((n_le (by omega) (by omega)).mp c) (by omega), fun _ => ⟨n_in (by omega) (by omega), n_in (by omega) (by omega), fun τ e => ?_⟩⟩
      rw [show (1 : Int32) = nI 1 from rfl, nI_add i 1]
      refine ih (i + 1) τ (by omega) (fun c hc => by rw [e, s2_ne hc]; exact g1 c hc) (fun j hj => ?_)
      by_cases q : j = i
      · subst q
        rw [e, s2_at, g1 46 (by omega)]
      · rw [e, s2_ai q]
        exact g2 j (by omega)
  exact ⟨n + 1, key n 0 σ0 (by omega) (fun _ _ => rfl) (fun j hj => absurd hj (by omega))⟩
theorem p_L81 {x1 x2 x3 : Int32} {p n b : Nat} {K : Int32 → Sg → Prop} {σ : Sg} (hp : p + n ≤ 240) (n20 : n ≤ 20) (b99 : b ≤ 99) (eb : σ 43 11 = nI b) (hbad : ¬ (∀ j, j < n → gcl b (σ 46 (p + j))) → K (-2) σ)
    (hgood : (∀ j, j < n → gcl b (σ 46 (p + j))) → ∀ τ : Sg, (∀ c, c ≠ 43 → c ≠ 50 → τ c = σ c) → (∀ j, j ≠ 9 → j ≠ 17 → τ 43 j = σ 43 j) → τ 43 9 = nI n → τ 43 17 = 0 → (∀ j, j < n → τ 50 j = σ 46 (p + j)) → K (nI n) τ) : ∃ m, L_Md_meter_81 x1 x2 x3 (nI n) (nI p) K m 0 σ := by
  have key : ∀ m i, i + m = n → (∀ j, j < i → gcl b (σ 46 (p + j))) → L_Md_meter_81 x1 x2 x3 (nI n) (nI p) K (m + 1) (nI i) σ := by
    intro m
    induction m with
    | zero =>
      intro i hi g
      have : i = n := by omega
      subst this
      unfold L_Md_meter_81
      refine ⟨fun _ τ1 e1 => p_L131 hp n20 (fun τ w1 w2 w3 w4 => ?_), fun c => absurd ((n_le (by omega) (by omega)).mpr (Nat.le_refl _)) c⟩
      refine hgood g τ (fun c c0 c1 => by rw [w1 c c0 c1, e1, s2_ne c0]) (fun j h1 h2 => by rw [w2 j h2, e1, s2_ai h1]) (by rw [w2 9 (by omega), e1, s2_at]) w3 (fun j hj => by rw [w4 j hj, e1, s2_ne (by omega)])
    | succ m ih =>
      intro i hi g
      unfold L_Md_meter_81
      rw [nI_add p i, nI_c (by omega), eb]
      refine ⟨fun c => absurd ((n_le (by omega) (by omega)).mp c) (by omega), fun _ => ⟨n_in (by omega) (by omega), ?_⟩⟩
      by_cases c : gcl b (σ 46 (p + i))
      · refine wi_in (l := nI b) (u := 99) rfl rfl c.1 c.2 (ca1 ?_)
        rw [show (1 : Int32) = nI 1 from rfl, nI_add i 1]
        refine ih (i + 1) (by omega) (fun j hj => ?_)
        by_cases q : j = i
        · subst q; exact c
        · exact g j (by omega)
      · refine wi_out (l := nI b) (u := 99) rfl rfl ?_ (ca0 (hbad (fun q => c (q i (by omega)))))
        by_cases c1 : σ 46 (p + i) < nI b
        · exact Or.inl c1
        · right
          rw [lt_toInt] at c1 ⊢
          by_cases c2 : σ 46 (p + i) ≤ 99
          · exact absurd ⟨by rw [le_toInt]; omega, c2⟩ c
          · rw [le_toInt] at c2; omega
  exact ⟨n + 1, key n 0 (by omega) (fun j hj => absurd hj (by omega))⟩
theorem H_meter (σ : Sg) (a1 a2 a3 a4 : Int32) (I : Inv σ) : w_Lc_meter a1 a2 a3 a4 σ (fun r0 τ0 => w_Md_meter a1 a2 a3 a4 τ0 (fun r1 τ1 => r0 = r1 ∧ Inv τ1)) := by
  obtain ⟨h, g⟩ := I
  have ok := g.1
  have hm4 := g.1.1
  have b99 := ok.2.2.2.1
  unfold w_Lc_meter
  intro τ2 e2
  have f2 : FzC 0 σ τ2 := by rw [e2]; exact fzc
  clear e2
  rcases ix a1 4 (by omega) with o | ⟨k, k4, rfl⟩
  · refine cs_out o (ca0 ?_)
    show w_Md_meter a1 a2 a3 a4 τ2 _
    unfold w_Md_meter
    intro τ3 e3
    subst e3
    exact ms_out o (ca0 ⟨rfl, g.fz f2 fzm⟩)
  · refine cs_in k4 (ca1 ?_)
    rcases ix a2 3 (by omega) with o | ⟨l, l3, rfl⟩
    · refine cl_out o (cb0 ?_)
      show w_Md_meter (nI k) a2 a3 a4 τ2 _
      unfold w_Md_meter
      intro τ3 e3
      subst e3
      exact ms_in k4 (ca1 (ml_out o (cb0 ⟨rfl, g.fz f2 fzm⟩)))
    · refine cl_in l3 (cb1 ?_)
      have out : (a4 < 0 ∨ 20 < a4) → w_Md_meter (nI k) (nI l) a3 a4 τ2 (fun r1 τ1 => (-2 : Int32) = r1 ∧ Inv τ1) := fun c => by
        unfold w_Md_meter
        intro τ3 e3
        subst e3
        exact ms_in k4 (ca1 (ml_in l3 (cb1 (wi_out (l := 0) (u := 20) rfl rfl c (ca0 ⟨rfl, g.fz f2 fzm⟩)))))
      refine ⟨fun c => out (Or.inl c), fun c => ⟨fun c2 => ⟨n_in (by omega) (by omega), ?_⟩, fun c2 => out (Or.inr (by rw [le_toInt] at c2; rw [lt_toInt]; omega))⟩⟩
      have lo : (0 : Int32) ≤ a4 := by rw [le_toInt]; rw [lt_toInt] at c; omega
      rw [nI_c (by omega)]
      have S2 := f2.sh g.2.2.2.1
      have fault : ∀ v : Int32, ¬ v = 0 → (∀ (K : Int32 → Prop) (t : Sg), t 44 = τ2 44 → t 45 = τ2 45 → K v → w_Md_against (nI k) (nI l) a3 a4 t K) → w_Lc_faulted v τ2 (fun r0 τ0 => w_Md_meter (nI k) (nI l) a3 a4 τ0 (fun r1 τ1 => r0 = r1 ∧ Inv τ1)) := fun v v0 ag => by
        unfold w_Lc_faulted
        intro τ4 e4
        have f4 : FzC v σ τ4 := by rw [e4]; exact f2.again
        show w_Md_meter (nI k) (nI l) a3 a4 τ4 _
        unfold w_Md_meter
        intro t1 q1
        refine ms_in k4 (ca1 (ml_in l3 (cb1 (wi_in (l := 0) (u := 20) rfl rfl lo c2 (ca1 (ag _ t1 (by rw [q1, s2_ne (by omega), e4, s2_ne (by omega)]) (by rw [q1, s2_ne (by omega), e4, s2_ne (by omega)]) ⟨fun e => absurd e v0, fun _ => ?_⟩))))))
        unfold w_Md_fails
        intro t2 q2
        subst q2
        subst q1
        exact ⟨rfl, g.fz f4 (fzm.again (u := 0))⟩
      rcases (S2 k k4).1 with ⟨s1, s2'⟩ | ⟨L, n, hL, hn, s1, s2', s3, s4⟩
      · exact p_fCells0 s1 (cb1 (fault 1 (by decide) (fun K t e _ hK => p_ag0 k4 (by rw [e]; exact s2') hK)))
      · refine p_fCells s3 hn s1 hL l3 (fun eL hd => cb0 ?_) (fun eL hd => ⟨fun e => absurd e (by decide), fun _ => fault 3 (by decide) (fun K t e1 e2 hK => p_ag k4 (by rw [e1]; exact s2') hL l3 (by rw [e2]; exact s4) hn (fun q => absurd eL q) (fun _ q => absurd q c) (fun _ _ _ => hK) (fun _ q => absurd q hd))⟩) (fun eL => ⟨fun e => absurd e (by decide), fun _ => fault 2 (by decide) (fun K t e1 e2 hK => p_ag k4 (by rw [e1]; exact s2') hL l3 (by rw [e2]; exact s4) hn (fun _ => hK) (fun q => absurd q eL) (fun q => absurd q eL) (fun q => absurd q eL))⟩)
        unfold w_Lc_hasHouse
        have RC : RC' 1 h τ2 := g.2.1.of (f2.1 1 (by omega)) (f2.1 2 (by omega)) (f2.1 3 (by omega)) (f2.1 4 (by omega)) (f2.1 5 (by omega))
        rw [RC.1]
        have hd0 := hd
        obtain ⟨a, m, rfl, rfl, ham⟩ := hd
        have m20 : m ≤ 20 := (show nI m ≤ nI 20 ↔ m ≤ 20 from n_le (by omega) (by omega)).mp c2
        have enter : ∀ {τ : Sg} {K : Int32 → Sg → Prop}, τ 43 5 = nI (hm h) → τ 44 = τ2 44 → τ 45 = τ2 45 → (∀ t : Sg, t = s2 τ 43 0 0 → ((hm h = 0 → K (-3) t) ∧ (¬ hm h = 0 → ∃ n, L_Md_meter_81 (nI k) (nI l) (nI a) (nI m) (nI (60 * k + a)) K n 0 t))) → w_Md_meter (nI k) (nI l) (nI a) (nI m) τ K := fun {τ K} e5 e44 e45 hK => by
          unfold w_Md_meter
          intro t1 q1
          have u5 : t1 43 5 = nI (hm h) := by rw [q1, s2_ai (by omega), e5]
          have u44 : t1 44 = τ2 44 := by rw [q1, s2_ne (by omega), e44]
          have u45 : t1 45 = τ2 45 := by rw [q1, s2_ne (by omega), e45]
          refine ms_in k4 (ca1 (ml_in l3 (cb1 (wi_in (l := 0) (u := 20) rfl rfl lo c2 (ca1 (p_ag k4 (by rw [u44]; exact s2') hL l3 (by rw [u45]; exact s4) hn (fun q => absurd eL q) (fun _ q => absurd q c) (fun _ _ q => absurd hd0 q) (fun _ _ => cb0 ?_)))))))
          rw [u5]
          refine ⟨fun q => fun y ey => ?_, fun q => (hK t1 q1).1 ((n_eq0 (by omega)).mp q)⟩
          rw [show (60 : Int32) = nI 60 from rfl, pk_mul, nI_add] at ey
          subst ey
          exact (hK t1 q1).2 (fun e => q ((n_eq0 (by omega)).mpr e))
        have M43 : τ2 43 = σ 43 := f2.1 43 (by omega)
        refine ⟨fun c3 => ca0 ?_, fun c3 => ca1 ?_⟩
        · have m0 := (n_le0 (by omega)).mp c3
          show w_Md_meter (nI k) (nI l) (nI a) (nI m) τ2 _
          refine enter (by rw [M43]; exact g.2.2.1.1) rfl rfl (fun t q => ⟨fun _ => ⟨rfl, ?_⟩, fun e => absurd m0 e⟩)
          subst q
          exact g.fz f2 fzm
        · have m0 : ¬ hm h = 0 := fun e => c3 ((n_le0 (by omega)).mpr e)
          have same : ∀ j, j < m → τ2 (34 + 2 * k) (a + j) = τ2 46 (60 * k + a + j) := fun j hj => by
            rw [show 60 * k + a + j = 60 * k + (a + j) by omega]
            exact (S2 k k4).2 (a + j) (by omega)
          refine p_L80 k4 (by omega) m20 b99 RC.2.2.1 (fun bad => ?_) (fun good τ w1 w2 w3 w4 w5 w6 w7 => ?_)
          · show w_Md_meter (nI k) (nI l) (nI a) (nI m) τ2 _
            refine enter (by rw [M43]; exact g.2.2.1.1) rfl rfl (fun t q => ⟨fun e => absurd e m0, fun _ => ?_⟩)
            have t46 : t 46 = τ2 46 := by rw [q, s2_ne (by omega)]
            refine p_L81 (b := hb h) (by omega) m20 b99 (by rw [q, s2_ai (by omega), M43]; exact g.2.2.1.2.2.1) (fun _ => ⟨rfl, ?_⟩) (fun good => absurd (fun j hj => ?_) bad)
            · subst q
              exact g.fz f2 fzm
            · rw [same j hj, ← t46]
              exact good j hj
          · show w_Md_meter (nI k) (nI l) (nI a) (nI m) τ _
            refine enter (by rw [w1 43 (by omega) (by omega) (by omega) (by omega), M43]; exact g.2.2.1.1) (w1 44 (by omega) (by omega) (by omega) (by omega)) (w1 45 (by omega) (by omega) (by omega) (by omega)) (fun t q => ⟨fun e => absurd e m0, fun _ => ?_⟩)
            have t46 : t 46 = τ2 46 := by rw [q, s2_ne (by omega), w1 46 (by omega) (by omega) (by omega) (by omega)]
            have t43 : ∀ j, j ≠ 0 → t 43 j = σ 43 j := fun j hj => by rw [q, s2_ai hj, w1 43 (by omega) (by omega) (by omega) (by omega), M43]
            refine p_L81 (b := hb h) (by omega) m20 b99 (by rw [t43 11 (by omega)]; exact g.2.2.1.2.2.1) (fun bad => absurd (fun j hj => ?_) bad) (fun _ t' v1 v2 v3 v4 v5 => ⟨rfl, ?_⟩)
            · rw [t46, ← same j hj]
              exact good j hj
            · have RM := g.2.2.1
              have u : ∀ c, c ≠ 43 → c ≠ 50 → t' c = τ c := fun c c0 c1 => by rw [v1 c c0 c1, q, s2_ne c0]
              have u43 : ∀ j, j ≠ 9 → j ≠ 17 → j ≠ 0 → t' 43 j = σ 43 j := fun j h1 h2 h3 => by rw [v2 j h1 h2, t43 j h3]
              have x : ∀ c, c ≠ 0 ∧ c ≠ 30 ∧ c ≠ 1 ∧ c ≠ 5 ∧ c ≠ 43 ∧ c ≠ 50 → t' c = σ c := fun c p => by rw [u c p.2.2.2.2.1 p.2.2.2.2.2, w1 c p.1 p.2.1 p.2.2.1 p.2.2.2.1, f2.1 c p.1]
              have x0 : ∀ j, j ≠ 11 → t' 0 j = τ2 0 j := fun j hj => by rw [u 0 (by omega) (by omega), w2 j hj]
              have x1 : ∀ j, j ≠ 5 → t' 1 j = σ 1 j := fun j hj => by rw [u 1 (by omega) (by omega), w5 j hj, f2.1 1 (by omega)]
              refine Iv_new (h := (hm h, hk h, hl h, ht h, m, (fun j => (τ2 (34 + 2 * k) (a + j)).toInt.toNat), hb h)) ⟨ok.1, ok.2.1, m20, b99, fun t ht' => (gcl_n b99 (good t ht')).2⟩ ⟨?_, ?_, ?_, fun b hb' => ?_, fun t ht' => ?_⟩ ⟨?_, ?_, ?_, fun b hb' => ?_, fun b hb' b4 => ?_, fun t ht' => ?_⟩ (g.2.2.2.1.of (fun c c1 c2 => x c (by omega)) (x 44 (by omega)) (x 45 (by omega)) (x 46 (by omega))) ⟨?_, ?_⟩ (g.2.2.2.2.2.1.of (by rw [x0 10 (by omega)]; exact f2.2.1 10 (by omega)) (u43 30 (by omega) (by omega) (by omega)) (x 41 (by omega)) (x 42 (by omega)) (x 65 (by omega)) (x 66 (by omega))) (by rw [u 0 (by omega) (by omega)]; exact w3) v4 (fun j hj => by rw [u 30 (by omega) (by omega)]; exact w4 j hj) (g.2.2.2.2.2.2.2.2.2.of (by rw [x 22 (by omega)]) (by rw [x 22 (by omega)]) (by rw [x 11 (by omega)]) (by rw [x 11 (by omega)]))
              · rw [x1 4 (by omega)]; exact g.2.1.1
              · rw [u 1 (by omega) (by omega)]; exact w6
              · rw [x1 6 (by omega)]; exact g.2.1.2.2.1
              · rw [x 2 (by omega), x 3 (by omega), x 4 (by omega)]; exact g.2.1.2.2.2.1 b hb'
              · rw [u 5 (by omega) (by omega), w7 t ht']
                exact (gcl_n b99 (good t ht')).1
              · rw [u43 5 (by omega) (by omega) (by omega)]; exact RM.1
              · exact v3
              · rw [u43 11 (by omega) (by omega) (by omega)]; exact RM.2.2.1
              · rw [x 47 (by omega), x 48 (by omega), x 49 (by omega)]; exact RM.2.2.2.1 b hb'
              · rw [x 48 (by omega)]; exact RM.2.2.2.2.1 b hb' b4
              · rw [v5 t ht', t46, ← same t ht']
                exact (gcl_n b99 (good t ht')).1
              · rw [x0 13 (by omega), f2.2.2, v2 0 (by omega) (by omega), q, s2_at]
              · rw [x0 12 (by omega), f2.2.1 12 (by omega), u43 1 (by omega) (by omega) (by omega)]; exact g.2.2.2.2.1.2
