/-! ===== a day: the reference ===== -/
theorem p_keep {σ0 : Sg} {K : Sg → Prop} (hK : ∀ τ : Sg, (∀ c, c ≠ 43 → c ≠ 63 → c ≠ 64 → τ c = σ0 c) → (∀ j, j ≠ 17 → j ≠ 29 → τ 43 j = σ0 43 j) → τ 43 17 = 0 → τ 43 29 = σ0 43 11 → (∀ j, j < 12 → τ 63 j = σ0 49 j) → (∀ j, j < 20 → τ 64 j = σ0 50 j) → K τ) : w_Md_keep σ0 K := by
  have key2 : ∀ m i (σ : Sg), i + m = 20 → (∀ c, c ≠ 63 → c ≠ 64 → σ c = σ0 c) → (∀ j, j < 12 → σ 63 j = σ0 49 j) → (∀ j, j < i → σ 64 j = σ0 50 j) → L_Md_keep_28 K (m + 1) (nI i) σ := by
    intro m
    induction m with
    | zero =>
      intro i σ hi h1 h2 h3
      have i20 : i = 20 := hi
      subst i20
      unfold L_Md_keep_28
      refine ⟨fun _ t1 e1 t2 e2 => hK t2 (fun c c0 c1 c2 => by rw [e2, s2_ne c0, e1, s2_ne c0]; exact h1 c c1 c2) (fun j j1 j2 => by rw [e2, s2_ai j1, e1, s2_ai j2, h1 43 (by omega) (by omega)]) (by rw [e2, s2_at]) (by rw [e2, s2_ai (by omega), e1, s2_at, h1 43 (by omega) (by omega)]) (fun j hj => by rw [e2, s2_ne (by omega), e1, s2_ne (by omega)]; exact h2 j hj) (fun j hj => by rw [e2, s2_ne (by omega), e1, s2_ne (by omega)]; exact h3 j hj), fun q => absurd (show nI 20 ≤ nI 20 from (n_le (by omega) (by omega)).mpr (Nat.le_refl _)) q⟩
    | succ m ih =>
      intro i σ hi h1 h2 h3
      unfold L_Md_keep_28
      rw [nI_c (by omega), show nI i + 1 = nI (i + 1) from nI_add i 1]
      refine ⟨fun q => absurd ((show nI 20 ≤ nI i ↔ 20 ≤ i from n_le (by omega) (by omega)).mp q) (by omega), fun _ => ⟨n_in (by omega) (by omega), n_in (by omega) (by omega), fun τ e => ?_⟩⟩
      refine ih (i + 1) τ (by omega) (fun c c1 c2 => by rw [e, s2_ne c2]; exact h1 c c1 c2) (fun j hj => by rw [e, s2_ne (by omega)]; exact h2 j hj) (fun j hj => ?_)
      by_cases q : j = i
      · rw [e, q, s2_at, h1 50 (by omega) (by omega)]
      · rw [e, s2_ai q]; exact h3 j (by omega)
  have key : ∀ m i (σ : Sg), i + m = 12 → (∀ c, c ≠ 63 → σ c = σ0 c) → (∀ j, j < i → σ 63 j = σ0 49 j) → L_Md_keep_2 K (m + 1) (nI i) σ := by
    intro m
    induction m with
    | zero =>
      intro i σ hi h1 h2
      have i12 : i = 12 := hi
      subst i12
      unfold L_Md_keep_2
      exact ⟨fun _ => ⟨21, key2 20 0 σ (by omega) (fun c c1 _ => h1 c c1) h2 (fun j hj => absurd hj (by omega))⟩, fun q => absurd (show nI 12 ≤ nI 12 from (n_le (by omega) (by omega)).mpr (Nat.le_refl _)) q⟩
    | succ m ih =>
      intro i σ hi h1 h2
      unfold L_Md_keep_2
      rw [nI_c (by omega), show nI i + 1 = nI (i + 1) from nI_add i 1]
      refine ⟨fun q => absurd ((show nI 12 ≤ nI i ↔ 12 ≤ i from n_le (by omega) (by omega)).mp q) (by omega), fun _ => ⟨n_in (by omega) (by omega), n_in (by omega) (by omega), fun τ e => ?_⟩⟩
      refine ih (i + 1) τ (by omega) (fun c c1 => by rw [e, s2_ne c1]; exact h1 c c1) (fun j hj => ?_)
      by_cases q : j = i
      · rw [e, q, s2_at, h1 49 (by omega)]
      · rw [e, s2_ai q]; exact h2 j (by omega)
  unfold w_Md_keep
  exact ⟨13, key 12 0 σ0 (by omega) (fun _ _ => rfl) (fun j hj => absurd hj (by omega))⟩
theorem p_putBack {σ0 : Sg} {K : Sg → Prop} (hK : ∀ τ : Sg, (∀ c, c ≠ 43 → c ≠ 49 → c ≠ 50 → τ c = σ0 c) → (∀ j, j ≠ 17 → j ≠ 11 → τ 43 j = σ0 43 j) → τ 43 17 = 0 → τ 43 11 = σ0 43 29 → (∀ j, j < 12 → τ 49 j = σ0 63 j) → (∀ j, 12 ≤ j → τ 49 j = σ0 49 j) → (∀ j, j < 20 → τ 50 j = σ0 64 j) → (∀ j, 20 ≤ j → τ 50 j = σ0 50 j) → K τ) : w_Md_putBack σ0 K := by
  have key2 : ∀ m i (σ : Sg), i + m = 20 → (∀ c, c ≠ 49 → c ≠ 50 → σ c = σ0 c) → (∀ j, j < 12 → σ 49 j = σ0 63 j) → (∀ j, 12 ≤ j → σ 49 j = σ0 49 j) → (∀ j, j < i → σ 50 j = σ0 64 j) → (∀ j, i ≤ j → σ 50 j = σ0 50 j) → L_Md_putBack_28 K (m + 1) (nI i) σ := by
    intro m
    induction m with
    | zero =>
      intro i σ hi h1 h2 h3 h4 h5
      have i20 : i = 20 := hi
      subst i20
      unfold L_Md_putBack_28
      refine ⟨fun _ t1 e1 t2 e2 => hK t2 (fun c c0 c1 c2 => by rw [e2, s2_ne c0, e1, s2_ne c0]; exact h1 c c1 c2) (fun j j1 j2 => by rw [e2, s2_ai j1, e1, s2_ai j2, h1 43 (by omega) (by omega)]) (by rw [e2, s2_at]) (by rw [e2, s2_ai (by omega), e1, s2_at, h1 43 (by omega) (by omega)]) (fun j hj => by rw [e2, s2_ne (by omega), e1, s2_ne (by omega)]; exact h2 j hj) (fun j hj => by rw [e2, s2_ne (by omega), e1, s2_ne (by omega)]; exact h3 j hj) (fun j hj => by rw [e2, s2_ne (by omega), e1, s2_ne (by omega)]; exact h4 j hj) (fun j hj => by rw [e2, s2_ne (by omega), e1, s2_ne (by omega)]; exact h5 j hj), fun q => absurd (show nI 20 ≤ nI 20 from (n_le (by omega) (by omega)).mpr (Nat.le_refl _)) q⟩
    | succ m ih =>
      intro i σ hi h1 h2 h3 h4 h5
      unfold L_Md_putBack_28
      rw [nI_c (by omega), show nI i + 1 = nI (i + 1) from nI_add i 1]
      refine ⟨fun q => absurd ((show nI 20 ≤ nI i ↔ 20 ≤ i from n_le (by omega) (by omega)).mp q) (by omega), fun _ => ⟨n_in (by omega) (by omega), n_in (by omega) (by omega), fun τ e => ?_⟩⟩
      refine ih (i + 1) τ (by omega) (fun c c1 c2 => by rw [e, s2_ne c2]; exact h1 c c1 c2) (fun j hj => by rw [e, s2_ne (by omega)]; exact h2 j hj) (fun j hj => by rw [e, s2_ne (by omega)]; exact h3 j hj) (fun j hj => ?_) (fun j hj => by rw [e, s2_ai (by omega)]; exact h5 j (by omega))
      by_cases q : j = i
      · rw [e, q, s2_at, h1 64 (by omega) (by omega)]
      · rw [e, s2_ai q]; exact h4 j (by omega)
  have key : ∀ m i (σ : Sg), i + m = 12 → (∀ c, c ≠ 49 → σ c = σ0 c) → (∀ j, j < i → σ 49 j = σ0 63 j) → (∀ j, i ≤ j → σ 49 j = σ0 49 j) → L_Md_putBack_2 K (m + 1) (nI i) σ := by
    intro m
    induction m with
    | zero =>
      intro i σ hi h1 h2 h3
      have i12 : i = 12 := hi
      subst i12
      unfold L_Md_putBack_2
      exact ⟨fun _ => ⟨21, key2 20 0 σ (by omega) (fun c c1 _ => h1 c c1) h2 h3 (fun j hj => absurd hj (by omega)) (fun j _ => by rw [h1 50 (by omega)])⟩, fun q => absurd (show nI 12 ≤ nI 12 from (n_le (by omega) (by omega)).mpr (Nat.le_refl _)) q⟩
    | succ m ih =>
      intro i σ hi h1 h2 h3
      unfold L_Md_putBack_2
      rw [nI_c (by omega), show nI i + 1 = nI (i + 1) from nI_add i 1]
      refine ⟨fun q => absurd ((show nI 12 ≤ nI i ↔ 12 ≤ i from n_le (by omega) (by omega)).mp q) (by omega), fun _ => ⟨n_in (by omega) (by omega), n_in (by omega) (by omega), fun τ e => ?_⟩⟩
      refine ih (i + 1) τ (by omega) (fun c c1 => by rw [e, s2_ne c1]; exact h1 c c1) (fun j hj => ?_) (fun j hj => by rw [e, s2_ai (by omega)]; exact h3 j (by omega))
      by_cases q : j = i
      · rw [e, q, s2_at, h1 63 (by omega)]
      · rw [e, s2_ai q]; exact h2 j (by omega)
  unfold w_Md_putBack
  exact ⟨13, key 12 0 σ0 (by omega) (fun _ _ => rfl) (fun j hj => absurd hj (by omega)) (fun _ _ => rfl)⟩
theorem p_canAct {V A : Nat} {h : Hh} {σ : Sg} {K : Int32 → Prop} (ok : HOk h) (R : RM' h σ) (p : ispn V A) (hS : canA h V A → K 1) (hN : ¬ canA h V A → K 0) : w_Md_canAct (nI V) (nI A) σ K := by
  have hm4 := ok.1
  have T20 := ok.2.2.1
  have b99 := ok.2.2.2.1
  unfold ispn at p
  have V99 : V ≤ 99 := by omega
  have A50 : A < 50 := by omega
  unfold w_Md_canAct
  refine ⟨fun c12 => ⟨fun n20 => ?_, fun e20 => ?_⟩, fun c12 => ⟨by decide, ?_⟩⟩
  · have c12 : 12 ≤ A := (show nI 12 ≤ nI A ↔ 12 ≤ A from n_le (by omega) (by omega)).mp c12
    have n20 : ¬ A = 20 := fun e => n20 (by rw [e]; rfl)
    rw [show (30 : Int32) = nI 30 from rfl, n_sub (by omega), R.2.1, R.2.2.1]
    refine ⟨fun c => hN (fun q => ?_), fun c => ⟨fun c2 => hN (fun q => ?_), fun c2 => hS ⟨fun q => absurd q (by omega), fun q => absurd q n20, fun _ => ⟨?_, ?_⟩⟩⟩⟩
    · have c := (show nI (hT h) ≤ nI (A - 30) ↔ hT h ≤ A - 30 from n_le (by omega) (by omega)).mp c
      have := (q.2.2 (by omega)).1
      omega
    · have c2 := (show nI V < nI (hb h) ↔ V < hb h from n_lt (by omega) (by omega)).mp c2
      have := (q.2.2 (by omega)).2
      omega
    · exact Nat.lt_of_not_le (fun e => c ((n_le (by omega) (by omega)).mpr e))
    · exact Nat.le_of_not_lt (fun e => c2 ((n_lt (by omega) (by omega)).mpr e))
  · have e20 : A = 20 := (show nI A = nI 20 ↔ A = 20 from n_eq (by omega) (by omega)).mp e20
    have up : ∀ t, t < hT h → (nI V ≤ nI (hv h t) ↔ V ≤ hv h t) := fun t ht' => n_le (by omega) (by have := (ok.2.2.2.2 t ht').2; omega)
    exact p_canBase R.2.1 T20 R.2.2.2.2.2 (fun all => ⟨bz1, hS ⟨fun q => absurd q (by omega), fun _ t ht' => (up t ht').mp (all t ht'), fun q => absurd q (by omega)⟩⟩) (fun nall => ⟨bz0, hN (fun q => nall (fun t ht' => (up t ht').mpr (q.2.1 e20 t ht')))⟩)
  · have c12 : A < 12 := Nat.lt_of_not_le (fun e => c12 ((show nI 12 ≤ nI A ↔ 12 ≤ A from n_le (by omega) (by omega)).mpr e))
    rw [show (3 : Int32) = nI 3 from rfl, n_rem (by omega) (by omega) (by omega), pk_div (by omega) (by omega) (by omega), R.1]
    refine ⟨fun c => hN (fun q => ?_), fun c => ⟨by decide, by decide, n_in (by omega) (by omega), ?_⟩⟩
    · have c := (n_le (by omega) (by omega)).mp c
      have := (q.1 c12).1
      omega
    · have ca : A / 3 < hm h := Nat.lt_of_not_le (fun e => c ((n_le (by omega) (by omega)).mpr e))
      have l3 := (ok.2.1 _ ca).2.2.1
      rw [nI_c (by omega), (R.2.2.2.1 _ ca).2.1]
      refine ⟨fun d => hN (fun q => ?_), fun d => hS ⟨fun _ => ⟨ca, Nat.lt_of_not_le (fun e => d ((n_le (by omega) (by omega)).mpr e))⟩, fun q => absurd q (by omega), fun q => absurd q (by omega)⟩⟩
      have d := (n_le (by omega) (by omega)).mp d
      have := (q.1 c12).2
      omega
def rv (r : Option Nat) : Int32 := match r with
  | none => -9
  | some k => nI k
def FG (σ τ : Sg) : Prop := (∀ c, c ≠ 43 → c ≠ 49 → c ≠ 50 → τ c = σ c) ∧ (∀ j, j ≠ 11 → τ 43 j = σ 43 j) ∧ (∀ j, 12 ≤ j → τ 49 j = σ 49 j) ∧ ∀ j, 20 ≤ j → τ 50 j = σ 50 j
theorem p_goDay {P n : Nat} {h : Hh} {σ : Sg} {K : Int32 → Sg → Prop} {V A : Nat → Nat} (ok : HOk h) (R : RM' h σ) (n20 : n ≤ 20) (hP : P + 2 * n ≤ 240) (hc : ∀ k, k < n → σ 46 (P + 2 * k) = nI (V k) ∧ σ 46 (P + 2 * k + 1) = nI (A k) ∧ ispn (V k) (A k))
    (hK : ∀ τ r h', dyr V A n 0 h = (r, h') → FG σ τ → HOk h' → RM' h' τ → K (rv r) τ) : w_Md_goDay (nI P) (nI n) σ K := by
  have key : ∀ m i h1 (τ : Sg), i + m = n → dyr V A n 0 h = dyr V A m i h1 → FG σ τ → HOk h1 → RM' h1 τ → L_Md_goDay_2 (nI P) (nI n) K (m + 1) (nI i) τ := by
    intro m
    induction m with
    | zero =>
      intro i h1 τ hi e f ok1 R1
      have : i = n := by omega
      subst this
      unfold L_Md_goDay_2
      exact ⟨fun _ => hK τ none h1 e f ok1 R1, fun c => absurd ((n_le (by omega) (by omega)).mpr (Nat.le_refl _)) c⟩
    | succ m ih =>
      intro i h1 τ hi e f ok1 R1
      obtain ⟨c1, c2, c3⟩ := hc i (by omega)
      have p := c3
      unfold ispn at p
      unfold L_Md_goDay_2
      rw [show (2 : Int32) = nI 2 from rfl, pk_mul, nI_add, show (1 : Int32) = nI 1 from rfl, nI_add (P + 2 * i) 1, nI_c (by omega), nI_c (by omega), nI_add i 1, f.1 46 (by omega) (by omega) (by omega), c1, c2]
      refine ⟨fun c => absurd ((n_le (by omega) (by omega)).mp c) (by omega), fun _ => ⟨n_in (by omega) (by omega), fun y4 ey4 => ⟨n_in (by omega) (by omega), fun y5 ey5 => ?_⟩⟩⟩
      subst ey4
      subst ey5
      refine p_canAct ok1 R1 c3 (fun ca => ca1 ⟨fun c12 => ⟨fun n20 => ?_, fun e20 t et => ?_⟩, fun c12 => ?_⟩) (fun ca => ca0 (hK τ (some i) h1 (by rw [e, dyr_n ca]) f ok1 R1))
      · have c12 : 12 ≤ A i := (show nI 12 ≤ nI (A i) ↔ 12 ≤ A i from n_le (by omega) (by omega)).mp c12
        have n20 : ¬ A i = 20 := fun e => n20 (by rw [e]; rfl)
        rw [show (30 : Int32) = nI 30 from rfl, n_sub (by omega), nI_c (by omega)]
        refine ⟨n_in (by omega) (by omega), fun t et => ih (i + 1) _ t (by omega) (by rw [e, dyr_s ca]) ⟨fun c q1 q2 q3 => by rw [et, s2_ne q3]; exact f.1 c q1 q2 q3, fun j hj => by rw [et, s2_ne (by omega)]; exact f.2.1 j hj, fun j hj => by rw [et, s2_ne (by omega)]; exact f.2.2.1 j hj, fun j hj => by rw [et, s2_ai (by omega)]; exact f.2.2.2 j hj⟩ (actH_ok ok1 c3 ca) ?_⟩
        rw [show actH h1 (V i) (A i) = hV h1 (V i) (A i - 30) by unfold actH; rw [if_neg (by omega), if_neg n20]]
        refine ⟨by rw [et, s2_ne (by omega)]; exact R1.1, by rw [et, s2_ne (by omega)]; exact R1.2.1, by rw [et, s2_ne (by omega)]; exact R1.2.2.1, fun b hb' => by rw [et, s2_ne (by omega), s2_ne (by omega), s2_ne (by omega)]; exact R1.2.2.2.1 b hb', fun b hb' b4 => by rw [et, s2_ne (by omega)]; exact R1.2.2.2.2.1 b hb' b4, fun s hs => ?_⟩
        show t 50 s = nI (if s = A i - 30 then V i else hv h1 s)
        by_cases q : s = A i - 30
        · rw [if_pos q, et, q, s2_at]
        · rw [if_neg q, et, s2_ai q]; exact R1.2.2.2.2.2 s hs
      · have e20 : A i = 20 := (show nI (A i) = nI 20 ↔ A i = 20 from n_eq (by omega) (by omega)).mp e20
        refine ih (i + 1) _ t (by omega) (by rw [e, dyr_s ca]) ⟨fun c q1 q2 q3 => by rw [et, s2_ne q1]; exact f.1 c q1 q2 q3, fun j hj => by rw [et, s2_ai hj]; exact f.2.1 j hj, fun j hj => by rw [et, s2_ne (by omega)]; exact f.2.2.1 j hj, fun j hj => by rw [et, s2_ne (by omega)]; exact f.2.2.2 j hj⟩ (actH_ok ok1 c3 ca) ?_
        rw [show actH h1 (V i) (A i) = hB h1 (V i) by unfold actH; rw [if_neg (by omega), if_pos e20]]
        exact ⟨by rw [et, s2_ai (by omega)]; exact R1.1, by rw [et, s2_ai (by omega)]; exact R1.2.1, by rw [et, s2_at]; rfl, fun b hb' => by rw [et, s2_ne (by omega), s2_ne (by omega), s2_ne (by omega)]; exact R1.2.2.2.1 b hb', fun b hb' b4 => by rw [et, s2_ne (by omega)]; exact R1.2.2.2.2.1 b hb' b4, fun s hs => by rw [et, s2_ne (by omega)]; exact R1.2.2.2.2.2 s hs⟩
      · have c12 : A i < 12 := Nat.lt_of_not_le (fun e => c12 ((show nI 12 ≤ nI (A i) ↔ 12 ≤ A i from n_le (by omega) (by omega)).mpr e))
        have cl := ca.1 c12
        rw [nI_c (by omega)]
        refine ⟨n_in (by omega) (by omega), fun t et => ih (i + 1) _ t (by omega) (by rw [e, dyr_s ca]) ⟨fun c q1 q2 q3 => by rw [et, s2_ne q2]; exact f.1 c q1 q2 q3, fun j hj => by rw [et, s2_ne (by omega)]; exact f.2.1 j hj, fun j hj => by rw [et, s2_ai (by omega)]; exact f.2.2.1 j hj, fun j hj => by rw [et, s2_ne (by omega)]; exact f.2.2.2 j hj⟩ (actH_ok ok1 c3 ca) ?_⟩
        rw [show actH h1 (V i) (A i) = hL h1 (V i) (A i) from if_pos c12]
        refine ⟨by rw [et, s2_ne (by omega)]; exact R1.1, by rw [et, s2_ne (by omega)]; exact R1.2.1, by rw [et, s2_ne (by omega)]; exact R1.2.2.1, fun b hb' => ⟨by rw [et, s2_ne (by omega)]; exact (R1.2.2.2.1 b hb').1, by rw [et, s2_ne (by omega)]; exact (R1.2.2.2.1 b hb').2.1, fun k hk2 => ?_, fun k hk2 k3 => ?_⟩, fun b hb' b4 => by rw [et, s2_ne (by omega)]; exact R1.2.2.2.2.1 b hb' b4, fun s hs => by rw [et, s2_ne (by omega)]; exact R1.2.2.2.2.2 s hs⟩
        · show t 49 (3 * b + k) = nI (if 3 * b + k = A i then V i else ht h1 (3 * b + k))
          by_cases q : 3 * b + k = A i
          · rw [if_pos q, et, q, s2_at]
          · rw [if_neg q, et, s2_ai q]; exact (R1.2.2.2.1 b hb').2.2.1 k hk2
        · have hk2' : hl h1 b ≤ k := hk2
          have ne : 3 * b + k ≠ A i := fun q => by
            have e1 : A i / 3 = b := by omega
            have e2 : A i % 3 = k := by omega
            rw [e1, e2] at cl
            omega
          rw [et, s2_ai ne]; exact (R1.2.2.2.1 b hb').2.2.2 k hk2 k3
  unfold w_Md_goDay
  exact ⟨n + 1, key n 0 h σ (by omega) rfl ⟨fun _ _ _ _ => rfl, fun _ _ => rfl, fun _ _ => rfl, fun _ _ => rfl⟩ ok R⟩
theorem p_tellDay {h : Hh} {w : Nat} {σ : Sg} {K : Int32 → Sg → Prop} (g : IM h σ) (hw : w ≤ 4 ∨ (10 ≤ w ∧ w ≤ 13)) (hK : ∀ τ z, (w ≠ 1 → z = dAns h w) → FF σ τ → K z τ) : w_Md_tellDay (nI w) σ K := by
  have ok := g.1
  have hm4 := ok.1
  have hD := Dh_ok ok
  have hB := bst_ok hD
  have wn : ∀ k : Nat, k < 100 → (nI w = nI k ↔ w = k) := fun k _ => n_eq (by omega) (by omega)
  unfold w_Md_tellDay
  refine ⟨fun e => ?_, fun e => ?_, fun e => ?_, fun e => ?_, fun e => ?_, fun e0 e1 e2 e3 e4 => ?_⟩
  · have e := (wn 0 (by omega)).mp e
    exact q_rests g (fun τ _ f => hK τ _ (fun _ => by unfold dAns; rw [if_pos e]) f)
  · have e := (wn 1 (by omega)).mp e
    exact hK σ _ (fun q => absurd e q) FF.rfl'
  · have e' := (wn 2 (by omega)).mp e
    refine q_changes (x := 0) (A := fun n => cg n (bst (Dh h))) (S := cu) (e := c1) (by omega) g (fun _ _ => rfl) (fun _ _ _ => rfl) (fun r q a => ⟨fun e => ?_, fun e _ => ?_, fun _ e => absurd rfl e, fun _ e => absurd rfl e⟩) rfl (fun n hn => ?_) (fun τ2 g2 f => hK τ2 _ (fun _ => by unfold dAns; rw [if_neg (by omega), if_pos e']) f)
    · unfold c1; rw [if_pos e.symm]
    · unfold c1; rw [if_neg (fun q => e q.symm)]
    · have := cu_m hD (fe_vr hD hB.1 n (Nat.le_of_lt hn)) (fe_vrp hD hB.1 n hn)
      show cg n (bst (Dh h)) + ch (pv (bst (Dh h)) n) (bst (Dh h) n) = _
      rw [← this]
      rfl
  · have e' := (wn 3 (by omega)).mp e
    refine q_changes (x := 1) (A := fun n => sgn (bst (Dh h)) n) (S := su) (e := su1) (by omega) g (fun _ _ => rfl) (fun _ _ _ => rfl) (fun r q a => ⟨fun e => ?_, fun _ e => absurd e (by omega), fun _ _ e => ?_, fun e _ e0 => ?_⟩) rfl (fun n hn => ?_) (fun τ2 g2 f => hK τ2 _ (fun _ => by unfold dAns; rw [if_neg (by omega), if_neg (by omega), if_pos e']) f)
    · unfold su1; rw [if_neg (fun q => q.2 (by rw [e]; exact q.1))]
    · unfold su1; rw [if_neg (fun q => e q.1)]
    · unfold su1; rw [if_pos ⟨e0, fun q => e (by rw [q, e0])⟩]
    · have := su_m hD (fe_vr hD hB.1 n (Nat.le_of_lt hn)) (fe_vrp hD hB.1 n hn)
      show sgn (bst (Dh h)) n + s4 (pv (bst (Dh h)) n) (bst (Dh h) n) = _
      rw [← this]
      rfl
  · have e := (wn 4 (by omega)).mp e
    exact q_energies g (fun τ _ f => hK τ _ (fun _ => by unfold dAns; rw [if_neg (by omega), if_neg (by omega), if_neg (by omega), if_pos e]) f)
  · have n0 : ¬ w = 0 := fun e => e0 (by rw [e]; rfl)
    have n1 : ¬ w = 1 := fun e => e1 (by rw [e]; rfl)
    have n2 : ¬ w = 2 := fun e => e2 (by rw [e]; rfl)
    have n3 : ¬ w = 3 := fun e => e3 (by rw [e]; rfl)
    have n4 : ¬ w = 4 := fun e => e4 (by rw [e]; rfl)
    rw [show (10 : Int32) = nI 10 from rfl, n_sub (by omega)]
    by_cases ca : w - 10 < hm h
    · refine mh_in g.2.1.1 hm4 ca (cb1 (q_energyOf g ca (fun τ _ _ _ f => hK τ _ (fun _ => ?_) f)))
      unfold dAns
      rw [if_neg n0, if_neg n2, if_neg n3, if_neg n4, if_pos ca]
    · refine mh_out g.2.1.1 hm4 (Or.inr ((n_le (by omega) (by omega)).mpr (by omega))) (cb0 (hK σ _ (fun _ => ?_) FF.rfl'))
      unfold dAns
      rw [if_neg n0, if_neg n2, if_neg n3, if_neg n4, if_neg ca]
