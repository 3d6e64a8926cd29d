/-! ===== numbers and cells ===== -/
theorem i32_lit (n : Nat) : (OfNat.ofNat n : Int32) = nI n := rfl
theorem s2_eq {σ : Sg} {c i : Nat} {v : Int32} : s2 σ c i v c = upd (σ c) i v := if_pos rfl
theorem s2_ne {σ : Sg} {c i d : Nat} {v : Int32} (h : d ≠ c) : s2 σ c i v d = σ d := if_neg h
theorem s1_eq {σ : Sg} {c : Nat} {f : Nat → Int32} : s1 σ c f c = f := if_pos rfl
theorem s1_ne {σ : Sg} {c d : Nat} {f : Nat → Int32} (h : d ≠ c) : s1 σ c f d = σ d := if_neg h
theorem s2_at {σ : Sg} {c i : Nat} {v : Int32} : s2 σ c i v c i = v := by rw [s2_eq, pk_us]
theorem s2_ai {σ : Sg} {c i j : Nat} {v : Int32} (h : j ≠ i) : s2 σ c i v c j = σ c j := by rw [s2_eq, pk_un h]
/-- a cell's place that isn't the one written -/
theorem s2_nn {σ : Sg} {c i d j : Nat} {v : Int32} (h : ¬ (d = c ∧ j = i)) : s2 σ c i v d j = σ d j := by
  by_cases e : d = c
  · subst e
    exact s2_ai (fun e2 => h ⟨rfl, e2⟩)
  · rw [s2_ne e]
theorem lt_toInt {x y : Int32} : x < y ↔ x.toInt < y.toInt := Int32.lt_iff_toInt_lt
theorem le_toInt {x y : Int32} : x ≤ y ↔ x.toInt ≤ y.toInt := Int32.le_iff_toInt_le
theorem eq_toInt {x y : Int32} : x = y ↔ x.toInt = y.toInt := Int32.toInt_inj.symm
theorem i_lo (x : Int32) : -2147483648 ≤ x.toInt := Int32.le_toInt x
theorem i_hi (x : Int32) : x.toInt < 2147483648 := Int32.toInt_lt x
theorem nI_c {n : Nat} (h : n < 2147483648) : (nI n).toNatClampNeg = n := nI_clamp h
theorem nI_t {n : Nat} (h : n < 2147483648) : (nI n).toInt = (n : Int) := nI_toInt h
theorem n_le {a b : Nat} (ha : a < 2147483648) (hb : b < 2147483648) : nI a ≤ nI b ↔ a ≤ b := nI_leI ha hb
theorem n_lt {a b : Nat} (ha : a < 2147483648) (hb : b < 2147483648) : nI a < nI b ↔ a < b := nI_ltI ha hb
theorem n_eq {a b : Nat} (ha : a < 2147483648) (hb : b < 2147483648) : nI a = nI b ↔ a = b := nI_eq ha hb
theorem n_in {n N : Nat} (h : n < N) (hN : N < 2147483648) : vp_in (nI n) N := vp_in_nI h hN
theorem n_sub {a b : Nat} (h : b ≤ a) : nI a - nI b = nI (a - b) := pk_sub h
theorem cpk_nI {a b n n0 n1 : Nat} (h0 : a + n ≤ n0) (h1 : b + n ≤ n1) (hb0 : n0 < 2147483648) (hb1 : n1 < 2147483648) : cpk (nI a) (nI b) (nI n) n0 n1 := by
  refine ⟨nI_pos (by omega), nI_pos (by omega), nI_pos (by omega), ?_, ?_⟩
  · rw [nI_c (by omega), nI_c (by omega)]; exact h0
  · rw [nI_c (by omega), nI_c (by omega)]; exact h1
theorem m1_nI {n : Nat} : nI (n + 1) + (-1) = nI n := pk_m1 n
theorem nI_m1_neg : nI 0 + (-1) < 0 := by decide
theorem n_neg (n : Nat) (h : n < 2147483648) : ¬ nI n < 0 := nI_pos h
/-- an int that isn't below 0 is a number -/
theorem n_of (x : Int32) (h : ¬ x < 0) : ∃ n : Nat, n < 2147483648 ∧ x = nI n := nI_of h
/-- differences that may be below 0 -/
theorem nI_sub_toInt {a b : Nat} (ha : a < 1073741824) (hb : b < 1073741824) : (nI a - nI b).toInt = (a : Int) - b := pk_sub_toInt ha hb
/-! ===== a house ===== -/
abbrev Hh : Type := Nat × (Nat → Nat) × (Nat → Nat) × (Nat → Nat) × Nat × (Nat → Nat) × Nat
abbrev hm (h : Hh) : Nat := h.1
abbrev hk (h : Hh) : Nat → Nat := h.2.1
abbrev hl (h : Hh) : Nat → Nat := h.2.2.1
abbrev ht (h : Hh) : Nat → Nat := h.2.2.2.1
abbrev hT (h : Hh) : Nat := h.2.2.2.2.1
abbrev hv (h : Hh) : Nat → Nat := h.2.2.2.2.2.1
abbrev hb (h : Hh) : Nat := h.2.2.2.2.2.2
def HOk (h : Hh) : Prop := hm h ≤ 4 ∧ (∀ a, a < hm h → hk h a ≤ 2 ∧ 1 ≤ hl h a ∧ hl h a ≤ 3 ∧ ∀ k, k < hl h a → 1 ≤ ht h (3 * a + k) ∧ ht h (3 * a + k) ≤ 9) ∧ hT h ≤ 20 ∧ hb h ≤ 99 ∧ ∀ t, t < hT h → hb h ≤ hv h t ∧ hv h t ≤ 99
def pwr (k v : Nat) : Nat := if k = 0 then v else if k = 1 then v + 1 else 2 * v
def Dh (h : Hh) : Dt := (hm h, fun a => if a < hm h then hl h a else 0, fun a d => if a < hm h ∧ d ≠ 0 ∧ d ≤ hl h a then pwr (hk h a) (ht h (3 * a + (d - 1))) else 0, hT h, fun t => if t < hT h then hv h t - hb h else 0)
theorem pwr_le {k v : Nat} (h : v ≤ 9) : pwr k v ≤ 18 := by
  unfold pwr
  split
  · omega
  · split <;> omega
theorem Dh_ok {h : Hh} (o : HOk h) : DOk (Dh h) := by
  obtain ⟨h1, h2, h3, h4, h5⟩ := o
  refine ⟨h1, fun a => ?_, fun a ha => ?_, fun a ha => ?_, fun a => ?_, fun a d => ?_, h3, fun t => ?_⟩
  · show (if a < hm h then hl h a else 0) ≤ 3
    split
    · rename_i g; exact (h2 a g).2.2.1
    · omega
  · show 1 ≤ (if a < hm h then hl h a else 0)
    rw [if_pos (show a < hm h from ha)]; exact (h2 a ha).2.1
  · show (if a < hm h then hl h a else 0) = 0
    rw [if_neg (by exact Nat.not_lt.mpr ha)]
  · show (if a < hm h ∧ (0 : Nat) ≠ 0 ∧ 0 ≤ hl h a then _ else 0) = 0
    rw [if_neg (fun g => g.2.1 rfl)]
  · show (if a < hm h ∧ d ≠ 0 ∧ d ≤ hl h a then pwr (hk h a) (ht h (3 * a + (d - 1))) else 0) ≤ 18
    split
    · rename_i g
      exact pwr_le ((h2 a g.1).2.2.2 (d - 1) (by omega)).2
    · omega
  · show (if t < hT h then hv h t - hb h else 0) ≤ 99
    split
    · rename_i g; have := (h5 t g).2; omega
    · omega
/-- the class's house at the cell o -/
def RC' (o : Nat) (h : Hh) (σ : Sg) : Prop := σ o 4 = nI (hm h) ∧ σ o 5 = nI (hT h) ∧ σ o 6 = nI (hb h) ∧ (∀ a, a < hm h → σ (o + 1) a = nI (hk h a) ∧ σ (o + 2) a = nI (hl h a) ∧ ∀ k, k < hl h a → σ (o + 3) (3 * a + k) = nI (ht h (3 * a + k))) ∧ ∀ t, t < hT h → σ (o + 4) t = nI (hv h t)
/-- the reference's house -/
def RM' (h : Hh) (σ : Sg) : Prop := σ 43 5 = nI (hm h) ∧ σ 43 9 = nI (hT h) ∧ σ 43 11 = nI (hb h) ∧ (∀ a, a < hm h → σ 47 a = nI (hk h a) ∧ σ 48 a = nI (hl h a) ∧ (∀ k, k < hl h a → σ 49 (3 * a + k) = nI (ht h (3 * a + k))) ∧ ∀ k, hl h a ≤ k → k < 3 → σ 49 (3 * a + k) = nI 0) ∧ (∀ a, hm h ≤ a → a < 4 → σ 48 a = nI 0) ∧ ∀ t, t < hT h → σ 50 t = nI (hv h t)
theorem RC'.of {o : Nat} {h : Hh} {σ τ : Sg} (g : RC' o h σ) (e0 : τ o = σ o) (e1 : τ (o + 1) = σ (o + 1)) (e2 : τ (o + 2) = σ (o + 2)) (e3 : τ (o + 3) = σ (o + 3)) (e4 : τ (o + 4) = σ (o + 4)) : RC' o h τ := by
  unfold RC' at g ⊢
  rw [e0, e1, e2, e3, e4]
  exact g
theorem dl_h {h : Hh} {a : Nat} (ha : a < hm h) : dl (Dh h) a = hl h a := if_pos ha
theorem dp_h {h : Hh} {a d : Nat} (ha : a < hm h) (h0 : d ≠ 0) (h1 : d ≤ hl h a) : dp (Dh h) a d = pwr (hk h a) (ht h (3 * a + (d - 1))) := if_pos ⟨ha, h0, h1⟩
theorem dv_h {h : Hh} {t : Nat} (h1 : t < hT h) : dv (Dh h) t = hv h t - hb h := if_pos h1
section HS1
variable {o : Nat} {h : Hh} {σ : Sg} {K : Int32 → Prop}
theorem p_Ho_powerIn (ok : HOk h) (R : RC' o h σ) {a d : Nat} (ha : a < hm h) (hd : d ≤ hl h a) (hK : K (nI (dp (Dh h) a d))) : w_Ho_powerIn o (nI a) (nI d) σ K := by
  have ok' := ok
  obtain ⟨o1, o2, -⟩ := ok
  obtain ⟨k1, k2, k3, k4⟩ := o2 a ha
  obtain ⟨r1, r2, r3⟩ := R.2.2.2.1 a ha
  unfold w_Ho_powerIn
  refine ⟨fun g => ?_, fun g => ?_⟩
  · have h0 : d ≠ 0 := fun e => g (by rw [e]; rfl)
    rw [dp_h ha h0 hd] at hK
    have e : (3 : Int32) * nI a + nI d - 1 = nI (3 * a + (d - 1)) := by
      rw [show (3 : Int32) = nI 3 from rfl, show (1 : Int32) = nI 1 from rfl, pk_mul, nI_add, n_sub (by omega), Nat.add_sub_assoc (by omega)]
    rw [e, nI_c (by omega), nI_c (by omega), r3 (d - 1) (by omega), r1]
    refine ⟨n_in (by omega) (by omega), fun y hy => ⟨n_in (by omega) (by omega), ?_⟩⟩
    subst hy
    refine ⟨fun g => ?_, fun g => ?_, fun g g2 => ?_⟩
    · have : hk h a = 0 := (n_eq (by omega) (by omega)).mp g
      rw [this] at hK
      exact hK
    · have : hk h a = 1 := (n_eq (by omega) (by omega)).mp g
      rw [this] at hK
      rw [show (1 : Int32) = nI 1 from rfl, nI_add]
      exact hK
    · have e0 : hk h a ≠ 0 := fun e => g (by rw [e]; rfl)
      have e1 : hk h a ≠ 1 := fun e => g2 (by rw [e]; rfl)
      rw [show (2 : Int32) = nI 2 from rfl, pk_mul]
      unfold pwr at hK
      rw [if_neg e0, if_neg e1] at hK
      exact hK
  · have h0 : d = 0 := (n_eq (by omega) (by omega)).mp g
    subst h0
    rw [(Dh_ok ok').2.2.2.2.1] at hK
    exact hK
theorem p_Ho_powerOf (ok : HOk h) (R : RC' o h σ) {a d : Nat} (ha : a < hm h) (hd : d < hl h a) (hK : K (nI (pwr (hk h a) (ht h (3 * a + d))))) : w_Ho_powerOf o (nI a) (nI d) σ K := by
  unfold w_Ho_powerOf
  rw [show (1 : Int32) = nI 1 from rfl, nI_add]
  refine p_Ho_powerIn ok R ha (by omega) ?_
  rw [dp_h ha (by omega) (by omega)]
  exact hK
theorem p_Ho_stateAfter (ok : HOk h) (R : RC' o h σ) {a d : Nat} (ha : a < hm h) (hd : d ≤ hl h a) (hK : K (nI (nxt (hl h a) d))) : w_Ho_stateAfter o (nI a) (nI d) σ K := by
  have k3 := (ok.2.1 a ha).2.2.1
  have o1 := ok.1
  obtain ⟨r1, r2, r3⟩ := R.2.2.2.1 a ha
  unfold w_Ho_stateAfter
  rw [nI_c (by omega), r2]
  refine ⟨n_in (by omega) (by omega), fun g => ?_, fun g => ?_⟩
  · have g := (n_le (by omega) (by omega)).mp g
    unfold nxt at hK
    rw [if_neg (by omega)] at hK
    exact hK
  · have g : ¬ hl h a ≤ d := fun e => g ((n_le (by omega) (by omega)).mpr e)
    unfold nxt at hK
    rw [if_pos (by omega)] at hK
    rw [show (1 : Int32) = nI 1 from rfl, nI_add]
    exact hK
end HS1
