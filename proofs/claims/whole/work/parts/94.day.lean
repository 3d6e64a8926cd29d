/-! ===== a day: pairs, acts, the class ===== -/
def isp (v a : Int32) : Prop := (0 ≤ a.toInt ∧ a.toInt < 12 ∧ 1 ≤ v.toInt ∧ v.toInt ≤ 9) ∨ ((a.toInt = 20 ∨ (30 ≤ a.toInt ∧ a.toInt < 50)) ∧ 0 ≤ v.toInt ∧ v.toInt ≤ 99)
def ispn (V A : Nat) : Prop := (A < 12 ∧ 1 ≤ V ∧ V ≤ 9) ∨ ((A = 20 ∨ (30 ≤ A ∧ A < 50)) ∧ V ≤ 99)
theorem isp_n {v a : Int32} (h : isp v a) : v = nI v.toInt.toNat ∧ a = nI a.toInt.toNat ∧ ispn v.toInt.toNat a.toInt.toNat := by
  unfold isp at h
  unfold ispn
  exact ⟨of_toInt (by omega), of_toInt (by omega), by omega⟩
theorem p_isPairC {v a : Int32} {σ : Sg} {K : Int32 → Prop} (h1 : isp v a → K 1) (h0 : ¬ isp v a → K 0) : w_Lc_isPair v a σ K := by
  have z0 : (0 : Int32).toInt = 0 := rfl
  have z1 : (1 : Int32).toInt = 1 := rfl
  have z9 : (9 : Int32).toInt = 9 := rfl
  have z12 : (12 : Int32).toInt = 12 := rfl
  have z20 : (20 : Int32).toInt = 20 := rfl
  have z30 : (30 : Int32).toInt = 30 := rfl
  have z50 : (50 : Int32).toInt = 50 := rfl
  have z99 : (99 : Int32).toInt = 99 := rfl
  unfold isp at h1 h0
  have mv : (a.toInt = 20 ∨ (30 ≤ a.toInt ∧ a.toInt < 50)) → B_Lc_isPair_33 v a σ K := fun q => by
    unfold B_Lc_isPair_33 w_Lc_isMeterValue
    refine ⟨fun c => cb0 (h0 ?_), fun c => ⟨fun c2 => cb0 (h0 ?_), fun c2 => cb1 (h1 ?_)⟩⟩
    · rw [lt_toInt] at c; omega
    · rw [lt_toInt] at c2; omega
    · rw [lt_toInt] at c c2; omega
  have b15 : (a.toInt < 0 ∨ 12 ≤ a.toInt) → B_Lc_isPair_15 v a σ K := fun q => by
    unfold B_Lc_isPair_15
    refine ⟨fun e => mv (Or.inl (by rw [e]; rfl)), fun e => ?_⟩
    have e' : ¬ a.toInt = 20 := fun q => e (eq_toInt.mpr (by rw [q]; rfl))
    refine ⟨fun c => h0 ?_, fun c => ⟨fun c2 => h0 ?_, fun c2 => mv (Or.inr ?_)⟩⟩
    · rw [lt_toInt] at c; omega
    · rw [le_toInt] at c2; omega
    · rw [lt_toInt] at c; rw [le_toInt] at c2; omega
  unfold w_Lc_isPair
  refine ⟨fun c => b15 (by rw [lt_toInt] at c; omega), fun c => ⟨fun c2 => b15 (by rw [le_toInt] at c2; omega), fun c2 => ?_⟩⟩
  rw [lt_toInt] at c
  rw [le_toInt] at c2
  unfold w_Lc_isLevelValue
  refine ⟨fun d => ⟨bz0, h0 ?_⟩, fun d => ⟨fun d2 => ⟨bz0, h0 ?_⟩, fun d2 => ⟨bz1, h1 ?_⟩⟩⟩
  · rw [lt_toInt] at d; omega
  · rw [lt_toInt] at d2; omega
  · rw [lt_toInt] at d d2; omega
theorem p_isPairM {v a : Int32} {σ : Sg} {K : Int32 → Prop} (h1 : isp v a → K 1) (h0 : ¬ isp v a → K 0) : w_Md_isPair v a σ K := by
  have z0 : (0 : Int32).toInt = 0 := rfl
  have z1 : (1 : Int32).toInt = 1 := rfl
  have z9 : (9 : Int32).toInt = 9 := rfl
  have z11 : (11 : Int32).toInt = 11 := rfl
  have z30 : (30 : Int32).toInt = 30 := rfl
  have z49 : (49 : Int32).toInt = 49 := rfl
  have z99 : (99 : Int32).toInt = 99 := rfl
  unfold isp at h1 h0
  have mv : (a.toInt = 20 ∨ (30 ≤ a.toInt ∧ a.toInt < 50)) → B_Md_isPair_42 v a σ K := fun q => by
    unfold B_Md_isPair_42
    by_cases c : 0 ≤ v.toInt ∧ v.toInt ≤ 99
    · exact wi_in (l := 0) (u := 99) rfl rfl (by rw [le_toInt]; omega) (by rw [le_toInt]; omega) (cb1 (h1 (by omega)))
    · exact wi_out (l := 0) (u := 99) rfl rfl (by rw [lt_toInt, lt_toInt]; omega) (cb0 (h0 (by omega)))
  unfold w_Md_isPair
  by_cases c : 0 ≤ a.toInt ∧ a.toInt < 12
  · refine wi_in (l := 0) (u := 11) rfl rfl (by rw [le_toInt]; omega) (by rw [le_toInt]; omega) (cb1 ?_)
    by_cases d : 1 ≤ v.toInt ∧ v.toInt ≤ 9
    · exact wi_in (l := 1) (u := 9) rfl rfl (by rw [le_toInt]; omega) (by rw [le_toInt]; omega) ⟨bz1, h1 (by omega)⟩
    · exact wi_out (l := 1) (u := 9) rfl rfl (by rw [lt_toInt, lt_toInt]; omega) ⟨bz0, h0 (by omega)⟩
  · refine wi_out (l := 0) (u := 11) rfl rfl (by rw [lt_toInt, lt_toInt]; omega) (cb0 ⟨fun e => mv (Or.inl (by rw [e]; rfl)), fun e => ?_⟩)
    have e' : ¬ a.toInt = 20 := fun q => e (eq_toInt.mpr (by rw [q]; rfl))
    by_cases d : 30 ≤ a.toInt ∧ a.toInt < 50
    · exact wi_in (l := 30) (u := 49) rfl rfl (by rw [le_toInt]; omega) (by rw [le_toInt]; omega) (cb1 (mv (Or.inr d)))
    · exact wi_out (l := 30) (u := 49) rfl rfl (by rw [lt_toInt, lt_toInt]; omega) (cb0 (h0 (by omega)))
def hL (h : Hh) (V A : Nat) : Hh := (hm h, hk h, hl h, (fun j => if j = A then V else ht h j), hT h, hv h, hb h)
def hB (h : Hh) (V : Nat) : Hh := (hm h, hk h, hl h, ht h, hT h, hv h, V)
def hV (h : Hh) (V t : Nat) : Hh := (hm h, hk h, hl h, ht h, hT h, (fun s => if s = t then V else hv h s), hb h)
def canA (h : Hh) (V A : Nat) : Prop := (A < 12 → A / 3 < hm h ∧ A % 3 < hl h (A / 3)) ∧ (A = 20 → ∀ t, t < hT h → V ≤ hv h t) ∧ (30 ≤ A → A - 30 < hT h ∧ hb h ≤ V)
def actH (h : Hh) (V A : Nat) : Hh := if A < 12 then hL h V A else if A = 20 then hB h V else hV h V (A - 30)
theorem hL_ok {h : Hh} {V A : Nat} (ok : HOk h) (h1 : 1 ≤ V) (h9 : V ≤ 9) : HOk (hL h V A) := by
  refine ⟨ok.1, fun b hb' => ⟨(ok.2.1 b hb').1, (ok.2.1 b hb').2.1, (ok.2.1 b hb').2.2.1, fun k hk2 => ?_⟩, ok.2.2⟩
  show 1 ≤ (if 3 * b + k = A then V else ht h (3 * b + k)) ∧ (if 3 * b + k = A then V else ht h (3 * b + k)) ≤ 9
  split
  · exact ⟨h1, h9⟩
  · exact (ok.2.1 b hb').2.2.2 k hk2
theorem hB_ok {h : Hh} {V : Nat} (ok : HOk h) (h99 : V ≤ 99) (c : ∀ t, t < hT h → V ≤ hv h t) : HOk (hB h V) :=
  ⟨ok.1, ok.2.1, ok.2.2.1, h99, fun t ht' => ⟨c t ht', (ok.2.2.2.2 t ht').2⟩⟩
theorem hV_ok {h : Hh} {V t : Nat} (ok : HOk h) (h99 : V ≤ 99) (c : hb h ≤ V) : HOk (hV h V t) := by
  refine ⟨ok.1, ok.2.1, ok.2.2.1, ok.2.2.2.1, fun s hs => ?_⟩
  show hb h ≤ (if s = t then V else hv h s) ∧ (if s = t then V else hv h s) ≤ 99
  split
  · exact ⟨c, h99⟩
  · exact ok.2.2.2.2 s hs
theorem actH_ok {h : Hh} {V A : Nat} (ok : HOk h) (p : ispn V A) (c : canA h V A) : HOk (actH h V A) := by
  unfold ispn at p
  unfold actH
  by_cases e : A < 12
  · rw [if_pos e]; exact hL_ok ok (by omega) (by omega)
  · rw [if_neg e]
    by_cases e2 : A = 20
    · rw [if_pos e2]; exact hB_ok ok (by omega) (c.2.1 e2)
    · rw [if_neg e2]; exact hV_ok ok (by omega) (c.2.2 (by omega)).2
theorem actH_m {h : Hh} {V A : Nat} : hm (actH h V A) = hm h ∧ hT (actH h V A) = hT h := by
  unfold actH
  split
  · exact ⟨rfl, rfl⟩
  · split
    · exact ⟨rfl, rfl⟩
    · exact ⟨rfl, rfl⟩
theorem p_acted {o V A : Nat} {h : Hh} {σ : Sg} {K : Int32 → Sg → Prop} (ok : HOk h) (ho : kd o = 2) (R : RC' o h σ) (p : ispn V A) (hS : canA h V A → ∀ τ : Sg, (∀ c, c ≠ o → c ≠ o + 1 → c ≠ o + 2 → c ≠ o + 3 → c ≠ o + 4 → τ c = σ c) → RC' o (actH h V A) τ → K 1 τ) (hN : ¬ canA h V A → K 0 σ) : w_Ho_acted o (nI V) (nI A) σ K := by
  have hm4 := ok.1
  have T20 := ok.2.2.1
  have b99 := ok.2.2.2.1
  have o3 := kd2 ho
  unfold ispn at p
  have V99 : V ≤ 99 := by omega
  have A50 : A < 50 := by omega
  unfold w_Ho_acted
  refine ⟨fun n20 => ⟨fun l30 => ⟨by decide, by decide, ?_⟩, fun l30 => ?_⟩, fun e20 => ?_⟩
  · have n20 : ¬ A = 20 := fun e => n20 (by rw [e]; rfl)
    have l30 : A < 30 := (show nI A < nI 30 ↔ A < 30 from n_lt (by omega) (by omega)).mp l30
    have A12 : A < 12 := by omega
    rw [show (3 : Int32) = nI 3 from rfl, n_rem (by omega) (by omega) (by omega), pk_div (by omega) (by omega) (by omega)]
    unfold w_Ho_actedOnLevel
    by_cases ca : A / 3 < hm h
    · refine ch_in R.1 hm4 ca (cb1 ?_)
      by_cases cl : A % 3 < hl h (A / 3)
      · refine hl_in ok R ca cl (ca1 ?_)
        unfold w_Ho_setLevel
        rw [show (3 : Int32) = nI 3 from rfl, pk_mul, nI_add, show 3 * (A / 3) + A % 3 = A by omega, nI_c (by omega)]
        refine ⟨n_in (by omega) (by omega), fun τ e => ⟨bz1, hS ⟨fun _ => ⟨ca, cl⟩, fun q => absurd q n20, fun q => absurd q (by omega)⟩ τ (fun c c0 c1 c2 c3 c4 => by rw [e, s2_ne c3]) ?_⟩⟩
        rw [show actH h V A = hL h V A from if_pos A12]
        refine ⟨?_, ?_, ?_, fun b hb' => ⟨?_, ?_, fun k hk2 => ?_⟩, fun t ht' => ?_⟩
        · rw [e, s2_ne (by omega)]; exact R.1
        · rw [e, s2_ne (by omega)]; exact R.2.1
        · rw [e, s2_ne (by omega)]; exact R.2.2.1
        · rw [e, s2_ne (by omega)]; exact (R.2.2.2.1 b hb').1
        · rw [e, s2_ne (by omega)]; exact (R.2.2.2.1 b hb').2.1
        · show τ (o + 3) (3 * b + k) = nI (if 3 * b + k = A then V else ht h (3 * b + k))
          by_cases q : 3 * b + k = A
          · rw [if_pos q, e, q, s2_at]
          · rw [if_neg q, e, s2_ai q]; exact (R.2.2.2.1 b hb').2.2 k hk2
        · rw [e, s2_ne (by omega)]; exact R.2.2.2.2 t ht'
      · exact hl_out ok R ca (Or.inr ((n_le (by have := (ok.2.1 _ ca).2.2.1; omega) (by omega)).mpr (by omega))) (ca0 ⟨bz0, hN (fun q => cl (q.1 A12).2)⟩)
    · exact ch_out R.1 (Or.inr ((n_le (by omega) (by omega)).mpr (by omega))) (cb0 ⟨bz0, hN (fun q => ca (q.1 A12).1)⟩)
  · have n20 : ¬ A = 20 := fun e => n20 (by rw [e]; rfl)
    have l30 : ¬ A < 30 := fun e => l30 ((show nI A < nI 30 ↔ A < 30 from n_lt (by omega) (by omega)).mpr e)
    rw [show (30 : Int32) = nI 30 from rfl, n_sub (by omega)]
    unfold w_Ho_actedOnValue
    rw [R.2.2.1]
    by_cases ct : A - 30 < hT h
    · refine ct_in R.2.1 T20 ct (cb1 ⟨fun cv => ⟨n_in (by omega) (by omega), fun τ e => ⟨bz1, ?_⟩⟩, fun cv => ⟨bz0, hN (fun q => cv ((n_le (by omega) (by omega)).mpr (q.2.2 (by omega)).2))⟩⟩)
      rw [nI_c (by omega)] at e
      have cv := (show nI (hb h) ≤ nI V ↔ hb h ≤ V from n_le (by omega) (by omega)).mp cv
      refine hS ⟨fun q => absurd q (by omega), fun q => absurd q n20, fun _ => ⟨ct, cv⟩⟩ τ (fun c c0 c1 c2 c3 c4 => by rw [e, s2_ne c4]) ?_
      rw [show actH h V A = hV h V (A - 30) by unfold actH; rw [if_neg (by omega), if_neg n20]]
      refine ⟨?_, ?_, ?_, fun b hb' => ?_, fun t ht' => ?_⟩
      · rw [e, s2_ne (by omega)]; exact R.1
      · rw [e, s2_ne (by omega)]; exact R.2.1
      · rw [e, s2_ne (by omega)]; exact R.2.2.1
      · rw [e, s2_ne (by omega), s2_ne (by omega), s2_ne (by omega)]; exact R.2.2.2.1 b hb'
      · show τ (o + 4) t = nI (if t = A - 30 then V else hv h t)
        by_cases q : t = A - 30
        · rw [if_pos q, e, q, s2_at]
        · rw [if_neg q, e, s2_ai q]; exact R.2.2.2.2 t ht'
    · exact ct_out R.2.1 (Or.inr ((n_le (by omega) (by omega)).mpr (by omega))) (cb0 ⟨bz0, hN (fun q => ct (q.2.2 (by omega)).1)⟩)
  · have e20 : A = 20 := (show nI A = nI 20 ↔ A = 20 from n_eq (by omega) (by omega)).mp e20
    have up : ∀ t, t < hT h → (nI V ≤ nI (hv h t) ↔ V ≤ hv h t) := fun t ht' => n_le (by omega) (by have := (ok.2.2.2.2 t ht').2; omega)
    unfold w_Ho_actedOnBase
    refine p_allowsBase R.2.1 T20 R.2.2.2.2 (fun all => ca1 (fun τ e => ⟨bz1, ?_⟩)) (fun nall => ca0 ⟨bz0, hN (fun q => nall (fun t ht' => (up t ht').mpr (q.2.1 e20 t ht')))⟩)
    refine hS ⟨fun q => absurd q (by omega), fun _ t ht' => (up t ht').mp (all t ht'), fun q => absurd q (by omega)⟩ τ (fun c c0 c1 c2 c3 c4 => by rw [e, s2_ne c0]) ?_
    rw [show actH h V A = hB h V by unfold actH; rw [if_neg (by omega), if_pos e20]]
    refine ⟨?_, ?_, ?_, fun b hb' => ?_, fun t ht' => ?_⟩
    · rw [e, s2_ai (by omega)]; exact R.1
    · rw [e, s2_ai (by omega)]; exact R.2.1
    · rw [e, s2_at]; rfl
    · rw [e, s2_ne (by omega), s2_ne (by omega), s2_ne (by omega)]; exact R.2.2.2.1 b hb'
    · rw [e, s2_ne (by omega)]; exact R.2.2.2.2 t ht'
/-- the acts of a day, one behind another: the first that can't be, the house then -/
noncomputable def dyr (V A : Nat → Nat) : Nat → Nat → Hh → Option Nat × Hh
  | 0, _, h => (none, h)
  | m + 1, k, h => @ite _ (canA h (V k) (A k)) (Classical.propDecidable _) (dyr V A m (k + 1) (actH h (V k) (A k))) (some k, h)
theorem dyr_s {V A : Nat → Nat} {m k : Nat} {h : Hh} (c : canA h (V k) (A k)) : dyr V A (m + 1) k h = dyr V A m (k + 1) (actH h (V k) (A k)) := by
  show @ite _ (canA h (V k) (A k)) (Classical.propDecidable _) _ _ = _
  exact if_pos c
theorem dyr_n {V A : Nat → Nat} {m k : Nat} {h : Hh} (c : ¬ canA h (V k) (A k)) : dyr V A (m + 1) k h = (some k, h) := by
  show @ite _ (canA h (V k) (A k)) (Classical.propDecidable _) _ _ = _
  exact if_neg c
def FH (σ τ : Sg) : Prop := ∀ c, c ≠ 6 → c ≠ 7 → c ≠ 8 → c ≠ 9 → c ≠ 10 → τ c = σ c
theorem p_arePairsC {o0 a n : Nat} {σ : Sg} {K : Int32 → Prop} (han : a + 2 * n ≤ 60) (h1 : (∀ k, k < n → isp (σ (o0 + 1) (a + 2 * k)) (σ (o0 + 1) (a + 2 * k + 1))) → K 1) (h0 : ¬ (∀ k, k < n → isp (σ (o0 + 1) (a + 2 * k)) (σ (o0 + 1) (a + 2 * k + 1))) → K 0) : w_Lc_arePairs o0 (nI a) (nI n) σ K := by
  have key : ∀ m i, i + m = n → (∀ k, k < i → isp (σ (o0 + 1) (a + 2 * k)) (σ (o0 + 1) (a + 2 * k + 1))) → L_Lc_arePairs_2 o0 (nI a) (nI n) σ K (m + 1) (nI i) := by
    intro m
    induction m with
    | zero =>
      intro i hi g
      have : i = n := by omega
      subst this
      unfold L_Lc_arePairs_2
      exact ⟨fun _ => h1 g, fun c => absurd ((n_le (by omega) (by omega)).mpr (Nat.le_refl _)) c⟩
    | succ m ih =>
      intro i hi g
      unfold L_Lc_arePairs_2
      rw [show (2 : Int32) = nI 2 from rfl, pk_mul, nI_add, show (1 : Int32) = nI 1 from rfl, nI_add (a + 2 * i) 1, nI_c (by omega), nI_c (by omega), nI_add i 1]
      refine ⟨fun c => absurd ((n_le (by omega) (by omega)).mp c) (by omega), fun _ => ⟨n_in (by omega) (by omega), n_in (by omega) (by omega), p_isPairC (fun q => ca1 (ih (i + 1) (by omega) (fun k hk2 => ?_))) (fun q => ca0 (h0 (fun g2 => q (g2 i (by omega)))))⟩⟩
      by_cases e : k = i
      · rw [e]; exact q
      · exact g k (by omega)
  unfold w_Lc_arePairs
  exact ⟨n + 1, key n 0 (by omega) (fun k hk2 => absurd hk2 (by omega))⟩
theorem p_live {o1 a n : Nat} {h : Hh} {σ : Sg} {K : Int32 → Sg → Prop} {V A : Nat → Nat} (ok : HOk h) (R : RC' 1 h σ) (ho : o1 + 1 < 6 ∨ 10 < o1 + 1) (n20 : n ≤ 20) (han : a + 2 * n ≤ 60) (hc : ∀ k, k < n → σ (o1 + 1) (a + 2 * k) = nI (V k) ∧ σ (o1 + 1) (a + 2 * k + 1) = nI (A k) ∧ ispn (V k) (A k))
    (hS : ∀ τ h', dyr V A n 0 h = (none, h') → FH σ τ → HOk h' → RC' 6 h' τ → K (-9) τ) (hN : ∀ τ k h', dyr V A n 0 h = (some k, h') → k < n → FH σ τ → K (nI k) τ) : w_Lc_liveTrialDay o1 (nI a) (nI n) σ K := by
  have key : ∀ m i h1 (τ : Sg), i + m = n → dyr V A n 0 h = dyr V A m i h1 → FH σ τ → HOk h1 → RC' 6 h1 τ → L_Lc_liveTrialDay_14 o1 (nI a) (nI n) K (m + 1) (nI i) τ := by
    intro m
    induction m with
    | zero =>
      intro i h1 τ hi e f ok1 R1
      have : i = n := by omega
      subst this
      unfold L_Lc_liveTrialDay_14
      exact ⟨fun _ => hS τ h1 e f ok1 R1, fun c => absurd ((n_le (by omega) (by omega)).mpr (Nat.le_refl _)) c⟩
    | succ m ih =>
      intro i h1 τ hi e f ok1 R1
      obtain ⟨c1, c2, c3⟩ := hc i (by omega)
      unfold L_Lc_liveTrialDay_14
      rw [show (2 : Int32) = nI 2 from rfl, pk_mul, nI_add, show (1 : Int32) = nI 1 from rfl, nI_add (a + 2 * i) 1, nI_c (by omega), nI_c (by omega), nI_add i 1, f (o1 + 1) (by omega) (by omega) (by omega) (by omega) (by omega), c1, c2]
      refine ⟨fun c => absurd ((n_le (by omega) (by omega)).mp c) (by omega), fun _ => ⟨n_in (by omega) (by omega), n_in (by omega) (by omega), p_acted ok1 rfl R1 c3 (fun ca t ft Rt => ca1 ?_) (fun ca => ca0 ?_)⟩⟩
      · exact ih (i + 1) _ t (by omega) (by rw [e, dyr_s ca]) (fun c q1 q2 q3 q4 q5 => by rw [ft c q1 q2 q3 q4 q5, f c q1 q2 q3 q4 q5]) (actH_ok ok1 c3 ca) Rt
      · exact hN τ i h1 (by rw [e, dyr_n ca]) (by omega) f
  unfold w_Lc_liveTrialDay
  refine p_become ok rfl rfl (by omega) R (fun τ b1 b2 b3 => ?_)
  exact ⟨n + 1, key n 0 h τ (by omega) rfl b1 ok b3⟩
noncomputable def dAns (h : Hh) (w : Nat) : Int32 := if w = 0 then nI (re (Dh h) (hT h) (bst (Dh h))) else if w = 2 then nI (cg (hT h) (bst (Dh h))) else if w = 3 then nI (sgn (bst (Dh h)) (hT h)) else if w = 4 then nI (pe (Dh h) (bst (Dh h)) (hT h)) else if w - 10 < hm h then nI (en (Dh h) (bst (Dh h)) (w - 10) (hT h)) else -9
theorem p_answer {h : Hh} {w : Nat} {σ : Sg} {K : Int32 → Sg → Prop} (ok : HOk h) (R : RC' 6 h σ) (hu : ∃ E Q, UE σ E Q) (hw : w ≠ 1 ∧ (w ≤ 4 ∨ (10 ≤ w ∧ w ≤ 13))) (hK : ∀ τ : Sg, (∀ c, c ≠ 22 → c ≠ 23 → c ≠ 24 → c ≠ 25 → c ≠ 26 → c ≠ 27 → c ≠ 19 → c ≠ 20 → c ≠ 21 → τ c = σ c) → (∃ E Q, UE τ E Q) → K (dAns h w) τ) : w_Lc_answerOfTrialDay (nI w) σ K := by
  have hm4 := ok.1
  unfold w_Lc_answerOfTrialDay
  refine p_unmix ok rfl rfl R hu (fun τ w1 w2 d => ?_)
  have hK := hK τ w1 w2
  unfold dAns at hK
  refine ⟨fun c => ⟨fun c0 => ?_, fun c0 => ?_⟩, fun c => ?_⟩
  · have c : w < 10 := (show nI w < nI 10 ↔ w < 10 from n_lt (by omega) (by omega)).mp c
    have c0 : ¬ w = 0 := fun e => c0 (by rw [e]; rfl)
    unfold B_Lc_answerOfTrialDay_68 w_Do_numberOf
    rw [show (1 : Int32) = nI 1 from rfl, n_sub (by omega), show (0 : Int32) = nI 0 from rfl, show (2 : Int32) = nI 2 from rfl, n_eq (by omega) (by omega), n_eq (by omega) (by omega), n_eq (by omega) (by omega)]
    rw [if_neg c0] at hK
    refine ⟨fun e => absurd e (by omega), fun e => ?_, fun e => ?_, fun _ e1 e2 => ?_⟩
    · rw [if_pos (by omega)] at hK
      rw [d.2.2.2.2.1]; exact hK
    · rw [if_neg (by omega), if_pos (by omega)] at hK
      rw [d.2.2.2.2.2]; exact hK
    · rw [if_neg (by omega), if_neg (by omega), if_pos (by omega)] at hK
      rw [d.2.2.1]; exact hK
  · have c0 : w = 0 := (n_eq0 (by omega)).mp c0
    rw [if_pos c0] at hK
    unfold B_Lc_answerOfTrialDay_68 w_Do_numberOf
    refine ⟨fun _ => ?_, fun e => absurd e (by decide), fun e => absurd e (by decide), fun e => absurd rfl e⟩
    rw [d.2.2.2.1]; exact hK
  · have c : ¬ w < 10 := fun e => c ((show nI w < nI 10 ↔ w < 10 from n_lt (by omega) (by omega)).mpr e)
    rw [if_neg (by omega), if_neg (by omega), if_neg (by omega), if_neg (by omega)] at hK
    rw [show (10 : Int32) = nI 10 from rfl, n_sub (by omega)]
    have R6 : τ 6 4 = nI (hm h) := by rw [w1 6 (by omega) (by omega) (by omega) (by omega) (by omega) (by omega) (by omega) (by omega) (by omega)]; exact R.1
    by_cases ca : w - 10 < hm h
    · rw [if_pos ca] at hK
      refine ch_in R6 hm4 ca (cb1 ⟨n_in (by omega) (by omega), ?_⟩)
      rw [nI_c (by omega), d.2.1 _ ca]
      exact hK
    · rw [if_neg ca] at hK
      exact ch_out R6 (Or.inr ((n_le (by omega) (by omega)).mpr (by omega))) (cb0 hK)
