/-! ===== sets as numbers ===== -/
def bs (s : Nat) : Nat → Bool := fun a => s.testBit a
theorem bit_ok : ∀ s, s < 16 → ∀ a, a < 4 → (((nI s >>> (nI a &&& 31)) &&& 1) = 1 ↔ s.testBit a = true) := by decide +kernel
theorem shl_ok : ∀ m, m ≤ 4 → (1 : Int32) <<< (nI m &&& 31) = nI (2 ^ m) := by decide +kernel
theorem pow_le : ∀ m, m ≤ 4 → 1 ≤ 2 ^ m ∧ 2 ^ m ≤ 16 := by decide +kernel
def bc1 (x : Int32) : Int32 := x - ((x.toUInt32 >>> ((1 : Int32).toUInt32 &&& Int32.toUInt32 31)).toInt32 &&& (1431655765 : Int32))
def bc2 (x : Int32) : Int32 := (x &&& (858993459 : Int32)) + ((x.toUInt32 >>> ((2 : Int32).toUInt32 &&& Int32.toUInt32 31)).toInt32 &&& (858993459 : Int32))
def bc3 (x : Int32) : Int32 := (x + (x.toUInt32 >>> ((4 : Int32).toUInt32 &&& Int32.toUInt32 31)).toInt32) &&& (252645135 : Int32)
def bc4 (x : Int32) : Int32 := x + (x.toUInt32 >>> ((8 : Int32).toUInt32 &&& Int32.toUInt32 31)).toInt32
def bc5 (x : Int32) : Int32 := x + (x.toUInt32 >>> ((16 : Int32).toUInt32 &&& Int32.toUInt32 31)).toInt32
theorem bc_ok : ∀ m, m ≤ 4 → ∀ s, s < 2 ^ m → (bc5 (bc4 (bc3 (bc2 (bc1 (nI s))))) &&& (63 : Int32)) = nI (pop m (bs s)) := by decide +kernel
theorem p_bitCount {K : Int32 → Prop} {σ : Sg} {m s : Nat} (hm : m ≤ 4) (hs : s < 2 ^ m) (hK : K (nI (pop m (bs s)))) : w_Ji_bitCount (nI s) σ K := by
  unfold w_Ji_bitCount
  intro a ha b hb c hc d hd e he
  have h1 : a = bc1 (nI s) := ha
  have h2 : b = bc2 a := hb
  have h3 : c = bc3 b := hc
  have h4 : d = bc4 c := hd
  have h5 : e = bc5 d := he
  rw [h5, h4, h3, h2, h1, bc_ok m hm s hs]
  exact hK
/-- every set of four has a number -/
theorem bs_ex (b : Nat → Bool) (m : Nat) (hm : m ≤ 4) : ∃ s, s < 2 ^ m ∧ ∀ a, a < m → bs s a = b a := by
  have key : ∀ x0 x1 x2 x3 : Bool, ∀ m, m ≤ 4 → ∃ s, s < 2 ^ m ∧ (0 < m → s.testBit 0 = x0) ∧ (1 < m → s.testBit 1 = x1) ∧ (2 < m → s.testBit 2 = x2) ∧ (3 < m → s.testBit 3 = x3) := by
    intro x0 x1 x2 x3 m hm
    refine ⟨(x0.toNat + 2 * x1.toNat + 4 * x2.toNat + 8 * x3.toNat) % 2 ^ m, Nat.mod_lt _ (Nat.two_pow_pos m), ?_⟩
    match m, hm with
    | 0, _ => exact ⟨fun h => absurd h (by omega), fun h => absurd h (by omega), fun h => absurd h (by omega), fun h => absurd h (by omega)⟩
    | 1, _ => revert x0 x1 x2 x3; decide
    | 2, _ => revert x0 x1 x2 x3; decide
    | 3, _ => revert x0 x1 x2 x3; decide
    | 4, _ => revert x0 x1 x2 x3; decide
    | n + 5, h => exact absurd h (by omega)
  obtain ⟨s, hs, h0, h1, h2, h3⟩ := key (b 0) (b 1) (b 2) (b 3) m hm
  refine ⟨s, hs, fun a ha => ?_⟩
  match a, ha with
  | 0, ha => exact h0 ha
  | 1, ha => exact h1 ha
  | 2, ha => exact h2 ha
  | 3, ha => exact h3 ha
  | n + 4, ha => exact absurd ha (by omega)
theorem go_bs {D : Dt} {r s : Nat} {b : Nat → Bool} (h : ∀ a, a < dm D → bs s a = b a) : go D r (bs s) = go D r b := gos_congr h
theorem pop_bs {m s : Nat} {b : Nat → Bool} (h : ∀ a, a < m → bs s a = b a) : pop m (bs s) = pop m b := pop_congr h
theorem p_mixBehind {o1 : Nat} {h : Hh} {K : Int32 → Prop} {r s : Nat} {σ : Sg} (ok : HOk h) (hm0 : σ o1 4 = nI (hm h)) (L : LT (Dh h) 0 σ) (hr : vr (Dh h) r) (hs : s < 16) (hK : K (nI (fl (Dh h) 0 (go (Dh h) r (bs s))))) : w_Un_mixBehind o1 (nI (fl (Dh h) 0 r)) (nI s) σ K := by
  have hD := Dh_ok ok
  have hm4 := ok.1
  have hW := Wp_le hD 0
  obtain ⟨l1, l2, l3⟩ := L
  have hvg : ∀ i, vr (Dh h) (gos (Dh h) i r (bs s)) := by
    intro i
    induction i with
    | zero => exact hr
    | succ i ih =>
      simp only [gos]
      split
      · exact vr_adv hD ih i
      · exact ih
  have key : ∀ n i, i + n = hm h → L_Un_mixBehind_6 o1 (nI (fl (Dh h) 0 r)) (nI s) σ K (n + 1) (nI (fl (Dh h) 0 (gos (Dh h) i r (bs s)))) (nI i) := by
    intro n
    induction n with
    | zero =>
      intro i hi
      have : i = hm h := by omega
      subst this
      unfold L_Un_mixBehind_6
      rw [hm0]
      exact ⟨fun _ => hK, fun g => absurd ((n_le (by omega) (by omega)).mpr (Nat.le_refl _)) g⟩
    | succ n ih =>
      intro i hi
      have hlt := fl_lt (hvg i) 0 (by omega)
      unfold L_Un_mixBehind_6
      rw [hm0, bit_ok s hs i (by omega), show (1 : Int32) = nI 1 from rfl, nI_add]
      refine ⟨fun g => absurd ((n_le (by omega) (by omega)).mp g) (by omega), fun _ => ⟨fun g => ?_, fun g => ?_⟩⟩
      · have e : gos (Dh h) (i + 1) r (bs s) = gos (Dh h) i r (bs s) := if_neg g
        have := ih (i + 1) (by omega)
        rw [e] at this
        exact this
      · have e : gos (Dh h) (i + 1) r (bs s) = adv (Dh h) i (gos (Dh h) i r (bs s)) := if_pos g
        rw [show (256 : Int32) = nI 256 from rfl, pk_mul, nI_add, nI_c (by omega)]
        refine ⟨n_in (by omega) (by omega), fun y hy => ?_⟩
        rw [hy, show i * 256 + fl (Dh h) 0 (gos (Dh h) i r (bs s)) = 256 * i + fl (Dh h) 0 (gos (Dh h) i r (bs s)) by omega, (l3 i (by omega) (by show i < hm h; omega)).1 _ (hvg i), ← e]
        exact ih (i + 1) (by omega)
  unfold w_Un_mixBehind
  exact ⟨hm h + 1, key (hm h) 0 (by omega)⟩
/-- the set that is taken: the least cost, then the least mix -/
theorem p_bestSet {o1 : Nat} {h : Hh} {K : Int32 → Prop} {t r : Nat} {σ : Sg} (ok : HOk h) (hm0 : σ o1 4 = nI (hm h)) (L : LT (Dh h) 0 σ) (T : CT h 0 σ) (ht : t < hT h) (hr : vr (Dh h) r)
    (hK : ∀ s, s < 2 ^ hm h → (∀ q, q < 2 ^ hm h → CC (Dh h) t (go (Dh h) r (bs s)) + pop (hm h) (bs s) < CC (Dh h) t (go (Dh h) r (bs q)) + pop (hm h) (bs q) ∨ (CC (Dh h) t (go (Dh h) r (bs s)) + pop (hm h) (bs s) = CC (Dh h) t (go (Dh h) r (bs q)) + pop (hm h) (bs q) ∧ fl (Dh h) 0 (go (Dh h) r (bs s)) ≤ fl (Dh h) 0 (go (Dh h) r (bs q)))) → K (nI s)) : w_Un_bestSet o1 (nI t) (nI (fl (Dh h) 0 r)) σ K := by
  have hD := Dh_ok ok
  have hm4 := ok.1
  have hT20 := ok.2.2.1
  have hW := Wp_le hD 0
  have hp := pow_le (hm h) hm4
  have hC : ∀ q, CC (Dh h) t q ≤ 540000000 := fun q => by
    have := CC_bound hD (t := t) ht q
    have : BIG = 536870912 := rfl
    omega
  have hpop : ∀ s, pop (hm h) (bs s) ≤ 4 := fun s => Nat.le_trans (pop_le _ _) hm4
  have hv : ∀ s, vr (Dh h) (go (Dh h) r (bs s)) := fun s => vr_go hD hr _
  have hf : ∀ s, fl (Dh h) 0 (go (Dh h) r (bs s)) < 256 := fun s => by have := fl_lt (hv s) 0 (by omega); omega
  have key : ∀ n i s, i + n = 2 ^ hm h → s < i → (∀ q, q < i → CC (Dh h) t (go (Dh h) r (bs s)) + pop (hm h) (bs s) < CC (Dh h) t (go (Dh h) r (bs q)) + pop (hm h) (bs q) ∨ (CC (Dh h) t (go (Dh h) r (bs s)) + pop (hm h) (bs s) = CC (Dh h) t (go (Dh h) r (bs q)) + pop (hm h) (bs q) ∧ fl (Dh h) 0 (go (Dh h) r (bs s)) ≤ fl (Dh h) 0 (go (Dh h) r (bs q)))) → L_Un_bestSet_23 o1 (nI t) (nI (fl (Dh h) 0 r)) σ K (n + 1) (nI s) (nI (fl (Dh h) 0 (go (Dh h) r (bs s)))) (nI (CC (Dh h) t (go (Dh h) r (bs s)) + pop (hm h) (bs s))) (nI i) := by
    intro n
    induction n with
    | zero =>
      intro i s hi hsi hmin
      have : i = 2 ^ hm h := by omega
      subst this
      unfold L_Un_bestSet_23
      rw [hm0, shl_ok (hm h) hm4]
      exact ⟨fun _ => hK s hsi hmin, fun g => absurd ((n_le (by omega) (by omega)).mpr (Nat.le_refl _)) g⟩
    | succ n ih =>
      intro i s hi hsi hmin
      have h1 := hC (go (Dh h) r (bs s))
      have h2 := hC (go (Dh h) r (bs i))
      have h3 := hpop s
      have h4 := hpop i
      have h5 := hf s
      have h6 := hf i
      unfold L_Un_bestSet_23
      rw [hm0, shl_ok (hm h) hm4]
      refine ⟨fun g => absurd ((n_le (by omega) (by omega)).mp g) (by omega), fun _ => ?_⟩
      refine p_mixBehind ok hm0 L hr (by omega) ?_
      rw [show (256 : Int32) = nI 256 from rfl, pk_mul, nI_add, nI_c (by omega)]
      refine ⟨n_in (by omega) (by omega), p_bitCount hm4 (by omega) (fun y hy => ?_)⟩
      have ec := T t (by omega) ht _ (hv i)
      rw [show t * 256 + fl (Dh h) 0 (go (Dh h) r (bs i)) = 256 * t + fl (Dh h) 0 (go (Dh h) r (bs i)) by omega, ec, nI_add] at hy
      subst hy
      have hnew : (∀ q, q < i → CC (Dh h) t (go (Dh h) r (bs i)) + pop (hm h) (bs i) < CC (Dh h) t (go (Dh h) r (bs q)) + pop (hm h) (bs q) ∨ (CC (Dh h) t (go (Dh h) r (bs i)) + pop (hm h) (bs i) = CC (Dh h) t (go (Dh h) r (bs q)) + pop (hm h) (bs q) ∧ fl (Dh h) 0 (go (Dh h) r (bs i)) ≤ fl (Dh h) 0 (go (Dh h) r (bs q)))) → L_Un_bestSet_23 o1 (nI t) (nI (fl (Dh h) 0 r)) σ K (n + 1) (nI i) (nI (fl (Dh h) 0 (go (Dh h) r (bs i)))) (nI (CC (Dh h) t (go (Dh h) r (bs i)) + pop (hm h) (bs i))) (nI i + 1) := fun g => by
        rw [show (1 : Int32) = nI 1 from rfl, nI_add]
        refine ih (i + 1) i (by omega) (by omega) (fun q hq => ?_)
        rcases Nat.lt_or_ge q i with e | e
        · exact g q e
        · have : q = i := by omega
          subst this
          exact Or.inr ⟨rfl, Nat.le_refl _⟩
      have hold : (CC (Dh h) t (go (Dh h) r (bs s)) + pop (hm h) (bs s) < CC (Dh h) t (go (Dh h) r (bs i)) + pop (hm h) (bs i) ∨ (CC (Dh h) t (go (Dh h) r (bs s)) + pop (hm h) (bs s) = CC (Dh h) t (go (Dh h) r (bs i)) + pop (hm h) (bs i) ∧ fl (Dh h) 0 (go (Dh h) r (bs s)) ≤ fl (Dh h) 0 (go (Dh h) r (bs i)))) → L_Un_bestSet_23 o1 (nI t) (nI (fl (Dh h) 0 r)) σ K (n + 1) (nI s) (nI (fl (Dh h) 0 (go (Dh h) r (bs s)))) (nI (CC (Dh h) t (go (Dh h) r (bs s)) + pop (hm h) (bs s))) (nI i + 1) := fun g => by
        rw [show (1 : Int32) = nI 1 from rfl, nI_add]
        refine ih (i + 1) s (by omega) (by omega) (fun q hq => ?_)
        rcases Nat.lt_or_ge q i with e | e
        · exact hmin q e
        · have : q = i := by omega
          subst this
          exact g
      refine ⟨fun g => ?_, fun g => ⟨fun g2 => ?_, fun g2 => ⟨fun g3 => ?_, fun g3 => ?_⟩⟩⟩
      · have g := (n_lt (by omega) (by omega)).mp g
        unfold B_Un_bestSet_86
        refine hnew (fun q hq => ?_)
        rcases hmin q hq with e | ⟨e, -⟩ <;> omega
      · have g : ¬ _ := fun e => g ((n_lt (by omega) (by omega)).mpr e)
        have g2 : ¬ _ := fun e => g2 ((n_eq (by omega) (by omega)).mpr e)
        exact hold (Or.inl (by omega))
      · have g2 := (n_eq (by omega) (by omega)).mp g2
        have g3 := (n_le (by omega) (by omega)).mp g3
        exact hold (Or.inr ⟨by omega, g3⟩)
      · have g2 := (n_eq (by omega) (by omega)).mp g2
        have g3 : ¬ _ := fun e => g3 ((n_le (by omega) (by omega)).mpr e)
        unfold B_Un_bestSet_86
        refine hnew (fun q hq => ?_)
        rcases hmin q hq with e | ⟨e, e2⟩
        · omega
        · exact Or.inr ⟨by omega, by omega⟩
  have hf0 := fl_lt hr 0 (by omega)
  have e0 : go (Dh h) r (bs 0) = r := by
    have : go (Dh h) r (bs 0) = go (Dh h) r (fun _ => false) := go_bs (fun a _ => Nat.zero_testBit a)
    rw [this, go_none]
  have p0 : pop (hm h) (bs 0) = 0 := by
    have : pop (hm h) (bs 0) = pop (hm h) (fun _ => false) := pop_bs (fun a _ => Nat.zero_testBit a)
    rw [this, pop4 _ _ hm4]
    simp
  unfold w_Un_bestSet
  rw [show (256 : Int32) = nI 256 from rfl, pk_mul, nI_add, nI_c (by omega)]
  refine ⟨n_in (by omega) (by omega), fun y hy => ⟨2 ^ hm h, ?_⟩⟩
  rw [show t * 256 + fl (Dh h) 0 r = 256 * t + fl (Dh h) 0 r by omega, T t (by omega) ht r hr] at hy
  have k := key (2 ^ hm h - 1) 1 0 (by omega) (by omega) (fun q hq => by
    have : q = 0 := by omega
    subst this
    exact Or.inr ⟨rfl, Nat.le_refl _⟩)
  rw [e0, p0, Nat.add_zero, show 2 ^ hm h - 1 + 1 = 2 ^ hm h by omega] at k
  rw [hy]
  exact k
