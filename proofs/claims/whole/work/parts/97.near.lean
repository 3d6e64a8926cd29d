/-! ===== bits of longs (rows of kit/laws/BITS.to-paste), the nearest number of a share ===== -/
theorem wb_tb (n : Nat) : (lN n).toBitVec = BitVec.ofNat 64 n := rfl
theorem wb_inj {a b : Int64} (h : a.toBitVec = b.toBitVec) : a = b := Int64.toBitVec_inj.mp h
theorem wb_c : ∀ k, k < 64 → ((nI k).toInt64 &&& 63) = lN k := by decide +kernel
theorem wb_sm : ∀ k, k < 64 → (BitVec.ofNat 64 k).smod 64 = BitVec.ofNat 64 k := by decide +kernel
theorem wb_lt2 {a b : Nat} (h : a < b) : 2 ^ a < 2 ^ b := Nat.pow_lt_pow_right (by decide) h
theorem wb_shl (n : Nat) {k : Nat} (hk : k < 64) : lN n <<< ((nI k).toInt64 &&& 63) = lN (n * 2 ^ k) := by
  rw [wb_c k hk]
  apply wb_inj
  rw [Int64.toBitVec_shiftLeft, wb_tb, wb_tb, wb_tb, wb_sm k hk]
  apply BitVec.eq_of_toNat_eq
  rw [BitVec.shiftLeft_eq', BitVec.toNat_shiftLeft, BitVec.toNat_ofNat, BitVec.toNat_ofNat, BitVec.toNat_ofNat, Nat.mod_eq_of_lt (show k < 2 ^ 64 by omega), Nat.shiftLeft_eq, Nat.mul_mod, Nat.mod_mod, ← Nat.mul_mod]
theorem wb_and {a b : Nat} (ha : a < 2 ^ 64) (hb : b < 2 ^ 64) : lN a &&& lN b = lN (a &&& b) := by
  apply wb_inj
  rw [Int64.toBitVec_and, wb_tb, wb_tb, wb_tb]
  apply BitVec.eq_of_toNat_eq
  rw [BitVec.toNat_and, BitVec.toNat_ofNat, BitVec.toNat_ofNat, BitVec.toNat_ofNat, Nat.mod_eq_of_lt ha, Nat.mod_eq_of_lt hb, Nat.mod_eq_of_lt (Nat.and_lt_two_pow _ hb)]
theorem wb_mask {n k : Nat} (hn : n < 2 ^ 64) (hk : k < 64) : lN n &&& lN (2 ^ k - 1) = lN (n % 2 ^ k) := by
  rw [wb_and hn (by have := wb_lt2 hk; omega), Nat.and_two_pow_sub_one_eq_mod]
theorem wb_a1 {n : Nat} (hn : n < 2 ^ 64) : lN n &&& 1 = lN (n % 2) := wb_mask (k := 1) hn (by decide)
/-- the least number of doublings -/
def Fst (e d P k : Nat) : Prop := P ≤ e * 2 ^ k / d ∧ ∀ j, j < k → e * 2 ^ j / d < P
theorem fst_ex {e d P : Nat} : ∀ n, P ≤ e * 2 ^ n / d → ∃ k, k ≤ n ∧ Fst e d P k := by
  have key : ∀ m n, (∀ j, j < n → e * 2 ^ j / d < P) → P ≤ e * 2 ^ (n + m) / d → ∃ k, k ≤ n + m ∧ Fst e d P k := by
    intro m
    induction m with
    | zero => intro n h1 h2; exact ⟨n, Nat.le_refl _, h2, h1⟩
    | succ m ih =>
      intro n h1 h2
      by_cases c : P ≤ e * 2 ^ n / d
      · exact ⟨n, by omega, c, h1⟩
      · obtain ⟨k, k1, k2⟩ := ih (n + 1) (fun j hj => by
          by_cases q : j = n
          · rw [q]; omega
          · exact h1 j (by omega)) (by rw [show n + 1 + m = n + (m + 1) by omega]; exact h2)
        exact ⟨k, by omega, k2⟩
  intro n h
  obtain ⟨k, k1, k2⟩ := key n 0 (fun j hj => absurd hj (by omega)) (by rw [Nat.zero_add]; exact h)
  exact ⟨k, by omega, k2⟩
def upq (x d : Nat) : Prop := d < 2 * (x % d) ∨ (2 * (x % d) = d ∧ x / d % 2 = 1)
theorem p_C55 {x0 : Int64} {x4 x5 v10 : Int32} {v6 : Int64} {x d : Nat} {σ : Sg} {K : Int64 → Prop} (hd : 1 ≤ d) (d62 : d < 2 ^ 62) (x62 : x < 2 ^ 62) (hU : upq x d → B_Lc_nearestBits_100 x0 (lN d) x4 x5 σ K v6 v10 (lN (x / d + 1))) (hD : ¬ upq x d → B_Lc_nearestBits_100 x0 (lN d) x4 x5 σ K v6 v10 (lN (x / d))) : B_Lc_nearestBits_55 x0 (lN d) x4 x5 σ K v6 (lN x) v10 := by
  have hr : x % d < d := Nat.mod_lt _ (by omega)
  have hq : x / d ≤ x := Nat.div_le_self _ _
  have d0 : ¬ lN d = 0 := fun e => by
    have := (pk_lEQ (b := 0) (by omega) (by omega)).mp e
    omega
  unfold upq at hU hD
  unfold B_Lc_nearestBits_55
  refine ⟨d0, fun z ez => ⟨d0, fun y ey => ?_⟩⟩
  rw [pk_lDiv (by omega) (by omega) (by omega)] at ez
  rw [pk_lRem (by omega) (by omega) (by omega), show (2 : Int64) = lN 2 from rfl, lN_mul] at ey
  subst ez
  subst ey
  have up : B_Lc_nearestBits_100 x0 (lN d) x4 x5 σ K v6 v10 (lN (x / d + 1)) → B_Lc_nearestBits_94 x0 (lN d) x4 x5 σ K v6 v10 (lN (x / d)) := fun h => by
    unfold B_Lc_nearestBits_94
    intro z ez
    rw [lN_1] at ez
    subst ez
    exact h
  rw [lg_cmp_gt, lg_cmp_eq, lg_cmp_eq, pk_lLT (by omega) (by omega), pk_lEQ (by omega) (by omega), wb_a1 (by omega), show (1 : Int64) = lN 1 from rfl, pk_lEQ (by omega) (by omega)]
  exact ⟨fun c => up (hU (Or.inl c)), fun c => ⟨fun c2 => hD (by omega), fun c2 => ⟨fun c3 => hD (by omega), fun c3 => up (hU (Or.inr ⟨c2, c3⟩))⟩⟩⟩
theorem p_nbC {e d P W k0 : Nat} {x4 x5 : Int32} {σ : Sg} {K : Int64 → Prop} (he : 1 ≤ e) (e62 : e < 2 ^ 62) (hd : 1 ≤ d) (d62 : d < 2 ^ 62) (P62 : P < 2 ^ 62) (F : Fst e d P k0) (k60 : k0 < 60) (x62 : e * 2 ^ k0 < 2 ^ 62) (e4 : (1 : Int64) <<< (x4.toInt64 &&& 63) = lN P) (e5 : ((x4 - nI k0) + x5).toInt64 <<< (x4.toInt64 &&& 63) = lN (W * P))
    (hU : upq (e * 2 ^ k0) d → K (lN (W * P + (e * 2 ^ k0 / d + 1 - P)))) (hD : ¬ upq (e * 2 ^ k0) d → K (lN (W * P + (e * 2 ^ k0 / d - P)))) : w_Lc_nearestBits (lN e) (lN d) x4 x5 σ K := by
  have d0 : ¬ lN d = 0 := fun e => by
    have := (pk_lEQ (b := 0) (by omega) (by omega)).mp e
    omega
  have xb : ∀ i, i ≤ k0 → e * 2 ^ i < 2 ^ 62 := fun i hi => Nat.lt_of_le_of_lt (Nat.mul_le_mul_left e (Nat.pow_le_pow_right (by omega) hi)) x62
  have key : ∀ m i, i + m = k0 → L_Lc_nearestBits_26 (lN e) (lN d) x4 x5 (lN P) σ K (m + 1) (lN (e * 2 ^ i)) (nI i) := by
    intro m
    induction m with
    | zero =>
      intro i hi
      have : i = k0 := by omega
      subst this
      have stop : B_Lc_nearestBits_55 (lN e) (lN d) x4 x5 σ K (lN P) (lN (e * 2 ^ i)) (nI i) := by
        refine p_C55 hd d62 x62 (fun u => ?_) (fun u => ?_)
        · unfold B_Lc_nearestBits_100
          rw [e5, lN_sub (by have := F.1; omega), lN_add]
          exact hU u
        · unfold B_Lc_nearestBits_100
          rw [e5, lN_sub F.1, lN_add]
          exact hD u
      unfold L_Lc_nearestBits_26
      refine ⟨fun _ => stop, fun _ => ⟨d0, fun _ => stop, fun c => absurd ?_ c⟩⟩
      rw [lg_cmp_ge, pk_lDiv (by omega) (by omega) (by omega), pk_lLE (by omega) (by have := Nat.div_le_self (e * 2 ^ i) d; omega)]
      exact F.1
    | succ m ih =>
      intro i hi
      have xi := xb i (by omega)
      have di := Nat.div_le_self (e * 2 ^ i) d
      unfold L_Lc_nearestBits_26
      rw [lg_cmp_ge, pk_lDiv (by omega) (by omega) (by omega), pk_lLE (by omega) (by omega)]
      refine ⟨fun c => absurd ((show nI 60 ≤ nI i ↔ 60 ≤ i from n_le (by omega) (by omega)).mp c) (by omega), fun _ => ⟨d0, fun c => absurd c (by have := F.2 i (by omega); omega), fun _ z ez => ?_⟩⟩
      rw [show (1 : Int32) = nI 1 from rfl, wb_shl _ (by omega), Nat.mul_assoc, ← Nat.pow_add] at ez
      subst ez
      rw [show nI i + 1 = nI (i + 1) from nI_add i 1]
      exact ih (i + 1) (by omega)
  unfold w_Lc_nearestBits
  rw [lg_cmp_le, lg_cmp_gt, show (0 : Int64) = lN 0 from rfl, pk_lLE (by omega) (by omega), pk_lLT (by omega) (by omega)]
  refine ⟨fun c => absurd c (by omega), fun _ => ⟨fun _ z ez => ?_, fun c => absurd (by omega) c⟩⟩
  rw [e4] at ez
  subst ez
  have k := key k0 0 (by omega)
  rw [Nat.pow_zero, Nat.mul_one] at k
  exact ⟨k0 + 1, k⟩
def vz : Nat → Int32
  | 0 => 0
  | i + 1 => vz i + (-1)
theorem p_nbM {e d P W k0 : Nat} {x2 x3 : Int32} {σ : Sg} {K : Int64 → Prop} (he : 1 ≤ e) (e31 : e < 2147483648) (hd : 1 ≤ d) (d31 : d < 2147483648) (P62 : P < 2 ^ 61) (q2 : e * 2 ^ k0 / d < 2 * P) (F : Fst e d P k0) (x62 : e * 2 ^ k0 < 2 ^ 62) (e2 : (1 : Int64) <<< ((x2 - 1).toInt64 &&& 63) = lN P) (e3 : ((vz k0 + x2).toInt64 - 1) + x3.toInt64 = lN W) (e3' : (((vz k0 + 1) + x2).toInt64 - 1) + x3.toInt64 = lN (W + 1))
    (hU : upq (e * 2 ^ k0) d → K (lN (W * P + (e * 2 ^ k0 / d + 1 - P)))) (hD : ¬ upq (e * 2 ^ k0) d → K (lN (W * P + (e * 2 ^ k0 / d - P)))) : w_Md_nearestBits (nI e) (nI d) x2 x3 σ K := by
  have ed : (nI d).toInt64 = lN d := nI_l d31
  have d0 : ¬ lN d = 0 := fun e => by
    have := (pk_lEQ (b := 0) (by omega) (by omega)).mp e
    omega
  have xb : ∀ i, i ≤ k0 → e * 2 ^ i < 2 ^ 62 := fun i hi => Nat.lt_of_le_of_lt (Nat.mul_le_mul_left e (Nat.pow_le_pow_right (by omega) hi)) x62
  have key : ∀ m i, i + m = k0 → L_Md_nearestBits_20 (nI e) (nI d) x2 x3 (lN P) σ K (m + 1) (lN (e * 2 ^ i)) (vz i) := by
    intro m
    induction m with
    | zero =>
      intro i hi
      have : i = k0 := by omega
      subst this
      have di := Nat.div_le_self (e * 2 ^ i) d
      have hr : e * 2 ^ i % d < d := Nat.mod_lt _ (by omega)
      have f1 := F.1
      have last : ∀ s : Nat, s ≤ 1 → K (lN (W * P + (e * 2 ^ i / d + s - P))) → B_Md_nearestBits_97 (nI e) (nI d) x2 x3 σ K (lN P) (vz i) (lN s) (lN (e * 2 ^ i / d)) := fun s s1 h => by
        unfold B_Md_nearestBits_97
        intro z ez
        rw [lN_add] at ez
        subst ez
        rw [lg_cmp_eq, show (2 : Int64) = lN 2 from rfl, lN_mul, pk_lEQ (by omega) (by omega)]
        refine ⟨fun c => ?_, fun c => ?_⟩
        · unfold B_Md_nearestBits_119
          rw [e3, lN_mul, lN_add, lN_sub (by omega), show W * P + (e * 2 ^ i / d + s) - P = W * P + (e * 2 ^ i / d + s - P) by omega]
          exact h
        · unfold B_Md_nearestBits_119
          rw [e3', lN_mul, lN_add, lN_sub (by omega), show (W + 1) * P + P - P = W * P + (e * 2 ^ i / d + s - P) by rw [c, Nat.add_mul]; omega]
          exact h
      unfold L_Md_nearestBits_20
      rw [ed, lg_cmp_ge, pk_lDiv (by omega) (by omega) (by omega), pk_lLE (by omega) (by omega)]
      refine ⟨d0, fun _ => ⟨d0, fun z ez => ⟨d0, fun y ey => ?_⟩⟩, fun c => absurd f1 c⟩
      rw [← pk_lDiv (by omega) (by omega) (by omega), pk_lRem (by omega) (by omega) (by omega), show (2 : Int64) = lN 2 from rfl, lN_mul] at ey
      subst ez
      subst ey
      rw [lg_cmp_gt, lg_cmp_eq, lg_cmp_eq, pk_lLT (by omega) (by omega), pk_lEQ (by omega) (by omega), show (2 : Int64) = lN 2 from rfl, pk_lRem (by omega) (by omega) (by omega), show (1 : Int64) = lN 1 from rfl, pk_lEQ (by omega) (by omega)]
      unfold upq at hU hD
      unfold B_Md_nearestBits_92 B_Md_nearestBits_96
      exact ⟨fun c => last 1 (by omega) (hU (Or.inl c)), fun c => ⟨fun c2 => last 0 (by omega) (hD (by omega)), fun c2 => ⟨by decide, fun c3 => last 0 (by omega) (hD (by omega)), fun c3 => last 1 (by omega) (hU (Or.inr ⟨c2, c3⟩))⟩⟩⟩
    | succ m ih =>
      intro i hi
      have xi := xb i (by omega)
      have di := Nat.div_le_self (e * 2 ^ i) d
      unfold L_Md_nearestBits_20
      rw [ed, lg_cmp_ge, pk_lDiv (by omega) (by omega) (by omega), pk_lLE (by omega) (by omega)]
      refine ⟨d0, fun c => absurd c (by have := F.2 i (by omega); omega), fun _ z ez => ?_⟩
      rw [show (2 : Int64) = lN 2 from rfl, lN_mul, Nat.mul_assoc, ← Nat.pow_succ] at ez
      subst ez
      exact ih (i + 1) (by omega)
  unfold w_Md_nearestBits
  refine ⟨fun _ z ez y ey => ?_, fun c => absurd ((show nI e = nI 0 ↔ e = 0 from n_eq (by omega) (by omega)).mp c) (by omega)⟩
  rw [e2] at ey
  rw [nI_l e31] at ez
  subst ey
  subst ez
  have k := key k0 0 (by omega)
  rw [Nat.pow_zero, Nat.mul_one] at k
  exact ⟨k0 + 1, k⟩
theorem nb23a : (1 : Int64) <<< ((23 : Int32).toInt64 &&& 63) = lN 8388608 := by decide +kernel
theorem nb52a : (1 : Int64) <<< ((52 : Int32).toInt64 &&& 63) = lN 4503599627370496 := by decide +kernel
theorem nb23b : (1 : Int64) <<< (((24 : Int32) - 1).toInt64 &&& 63) = lN 8388608 := by decide +kernel
theorem nb52b : (1 : Int64) <<< (((53 : Int32) - 1).toInt64 &&& 63) = lN 4503599627370496 := by decide +kernel
theorem nb23c : ∀ k, k < 60 → (((23 : Int32) - nI k) + 127).toInt64 <<< ((23 : Int32).toInt64 &&& 63) = lN ((150 - k) * 8388608) := by decide +kernel
theorem nb52c : ∀ k, k < 60 → (((52 : Int32) - nI k) + 1023).toInt64 <<< ((52 : Int32).toInt64 &&& 63) = lN ((1075 - k) * 4503599627370496) := by decide +kernel
theorem nb23d : ∀ k, k < 60 → ((vz k + (24 : Int32)).toInt64 - 1) + (127 : Int32).toInt64 = lN (150 - k) := by decide +kernel
theorem nb52d : ∀ k, k < 60 → ((vz k + (53 : Int32)).toInt64 - 1) + (1023 : Int32).toInt64 = lN (1075 - k) := by decide +kernel
theorem nb23e : ∀ k, k < 60 → (((vz k + 1) + (24 : Int32)).toInt64 - 1) + (127 : Int32).toInt64 = lN (150 - k + 1) := by decide +kernel
theorem nb52e : ∀ k, k < 60 → (((vz k + 1) + (53 : Int32)).toInt64 - 1) + (1023 : Int32).toInt64 = lN (1075 - k + 1) := by decide +kernel
/-- where it stops -/
theorem fst_b {e d P : Nat} (he : 1 ≤ e) (hd : 1 ≤ d) (eP : e < P) (hP : P * d ≤ 2 ^ 58) : ∃ k, k < 60 ∧ Fst e d P k ∧ e * 2 ^ k < 2 ^ 62 ∧ e * 2 ^ k / d < 2 * P := by
  have top : P ≤ e * 2 ^ 58 / d := by
    rw [Nat.le_div_iff_mul_le (by omega)]
    exact Nat.le_trans hP (Nat.le_mul_of_pos_left _ (by omega))
  obtain ⟨k, k58, F⟩ := fst_ex 58 top
  have k0 : k ≠ 0 := fun q => by
    have f1 := F.1
    rw [q, Nat.pow_zero, Nat.mul_one] at f1
    have := Nat.div_le_self e d
    omega
  have f2 := F.2 (k - 1) (by omega)
  rw [Nat.div_lt_iff_lt_mul (by omega)] at f2
  have e1 : e * 2 ^ k = 2 * (e * 2 ^ (k - 1)) := by
    rw [show k = (k - 1) + 1 by omega, Nat.pow_succ, show k - 1 + 1 - 1 = k - 1 by omega, Nat.mul_comm 2, Nat.mul_assoc]
  refine ⟨k, by omega, F, by omega, ?_⟩
  rw [Nat.div_lt_iff_lt_mul (by omega), e1, Nat.mul_assoc]
  omega
