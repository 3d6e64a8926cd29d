/-! ===== the text of a house ===== -/
abbrev Hp : Type := Nat × (Nat → Nat) × (Nat → Nat) × (Nat → Nat)
def up (f : Nat → Nat) (k v : Nat) : Nat → Nat := fun j => if j = k then v else f j
theorem up_s {f : Nat → Nat} {k v : Nat} : up f k v k = v := if_pos rfl
theorem up_n {f : Nat → Nat} {k v j : Nat} (h : j ≠ k) : up f k v j = f j := if_neg h
abbrev isd (x : Int32) : Prop := 49 ≤ x ∧ x ≤ 57
def dvl (x : Int32) : Nat := (x - 48).toInt.toNat
theorem isd_toInt {x : Int32} : isd x ↔ 49 ≤ x.toInt ∧ x.toInt ≤ 57 := by
  unfold isd
  rw [le_toInt, le_toInt, show (49 : Int32).toInt = 49 from rfl, show (57 : Int32).toInt = 57 from rfl]
theorem isd_v {x : Int32} (h : isd x) : x - 48 = nI (dvl x) ∧ 1 ≤ dvl x ∧ dvl x ≤ 9 := by
  rw [isd_toInt] at h
  have e : (x - 48).toInt = x.toInt - 48 := by
    rw [Int32.toInt_sub, show (48 : Int32).toInt = 48 from rfl]
    exact Int.bmod_eq_of_le (by omega) (by omega)
  unfold dvl
  exact ⟨of_toInt (by omega), by omega, by omega⟩
theorem isd_iff {x : Int32} : isd x ↔ ¬ (x - 48) < 1 ∧ ¬ (9 : Int32) < (x - 48) := by
  rw [isd_toInt, lt_toInt, lt_toInt, show (1 : Int32).toInt = 1 from rfl, show (9 : Int32).toInt = 9 from rfl, Int32.toInt_sub, show (48 : Int32).toInt = 48 from rfl]
  have h1 := Int32.le_toInt x
  have h2 := Int32.toInt_lt x
  by_cases c : -2147483648 ≤ x.toInt - 48
  · rw [Int.bmod_eq_of_le (by omega) (by omega)]
    omega
  · have : (x.toInt - 48).bmod (2 ^ 32) = x.toInt - 48 + 4294967296 := by
      have e : (x.toInt - 48).bmod (2 ^ 32) = (x.toInt - 48 + 4294967296).bmod (2 ^ 32) := by
        rw [show (4294967296 : Int) = ((2 ^ 32 : Nat) : Int) from rfl, Int.add_bmod_right]
      rw [e]
      exact Int.bmod_eq_of_le (by omega) (by omega)
    rw [this]
    omega
def adA (H : Hp) (k : Nat) : Hp := (H.1 + 1, up H.2.1 H.1 k, up H.2.2.1 H.1 0, H.2.2.2)
def adL (H : Hp) (v : Nat) : Hp := (H.1, H.2.1, up H.2.2.1 (H.1 - 1) (H.2.2.1 (H.1 - 1) + 1), up H.2.2.2 (3 * (H.1 - 1) + H.2.2.1 (H.1 - 1)) v)
def kdc (x : Int32) : Nat := if x = 80 then 0 else if x = 72 then 1 else if x = 68 then 2 else 9
/-- a sign is read -/
def pst (aw : Nat) (x : Int32) (H : Hp) : Option (Nat × Hp) :=
  if aw = 0 then (if x = 117 then some (1, H) else none)
  else if aw = 1 then (if x = 59 ∧ H.1 < 4 then some (2, H) else none)
  else if aw = 2 then (if kdc x = 9 then none else some (3, adA H (kdc x)))
  else if aw = 3 then (if isd x then some (4, adL H (dvl x)) else none)
  else if isd x ∧ H.2.2.1 (H.1 - 1) < 3 then some (4, adL H (dvl x)) else if x = 59 ∧ H.1 < 4 then some (2, H) else none
/-- the rest of a text -/
def psr (c : Nat → Int32) : Nat → Nat → Nat → Hp → Nat ⊕ Hp
  | 0, i, aw, H => if aw = 4 then Sum.inr H else Sum.inl i
  | r + 1, i, aw, H => match pst aw (c i) H with
    | some (aw', H') => psr c r (i + 1) aw' H'
    | none => Sum.inl i
theorem psr_some {c : Nat → Int32} {r i aw aw' : Nat} {H H' : Hp} (e : pst aw (c i) H = some (aw', H')) : psr c (r + 1) i aw H = psr c r (i + 1) aw' H' := by
  show (match pst aw (c i) H with | some (aw', H') => psr c r (i + 1) aw' H' | none => Sum.inl i) = _
  rw [e]
theorem psr_none {c : Nat → Int32} {r i aw : Nat} {H : Hp} (e : pst aw (c i) H = none) : psr c (r + 1) i aw H = Sum.inl i := by
  show (match pst aw (c i) H with | some (aw', H') => psr c r (i + 1) aw' H' | none => Sum.inl i) = _
  rw [e]
def DN (H : Hp) (a : Nat) : Prop := H.2.1 a ≤ 2 ∧ 1 ≤ H.2.2.1 a ∧ H.2.2.1 a ≤ 3 ∧ ∀ k, k < H.2.2.1 a → 1 ≤ H.2.2.2 (3 * a + k) ∧ H.2.2.2 (3 * a + k) ≤ 9
def WF (aw : Nat) (H : Hp) : Prop := aw ≤ 4 ∧ H.1 ≤ 4 ∧ (aw ≤ 1 → H.1 = 0) ∧ (aw = 2 → H.1 < 4) ∧ (aw = 3 → 1 ≤ H.1 ∧ H.2.1 (H.1 - 1) ≤ 2 ∧ H.2.2.1 (H.1 - 1) = 0) ∧ (aw = 4 → 1 ≤ H.1) ∧ ∀ a, a < H.1 → (aw = 3 → a + 1 < H.1) → DN H a
theorem WF_A {H : Hp} {k : Nat} (w : WF 2 H) (hk2 : k ≤ 2) : WF 3 (adA H k) := by
  obtain ⟨w1, w2, w3, w4, w5, w6, w7⟩ := w
  have w4 := w4 rfl
  refine ⟨by omega, by show H.1 + 1 ≤ 4; omega, fun e => absurd e (by omega), fun e => absurd e (by omega), fun _ => ⟨by show 1 ≤ H.1 + 1; omega, ?_, ?_⟩, fun e => absurd e (by omega), fun a ha hx => ?_⟩
  · show up H.2.1 H.1 k (H.1 + 1 - 1) ≤ 2
    rw [Nat.add_sub_cancel, up_s]; exact hk2
  · show up H.2.2.1 H.1 0 (H.1 + 1 - 1) = 0
    rw [Nat.add_sub_cancel, up_s]
  · have hx : a + 1 < H.1 + 1 := hx rfl
    have d := w7 a (by omega) (fun e => absurd e (by omega))
    unfold DN adA
    show up H.2.1 H.1 k a ≤ 2 ∧ 1 ≤ up H.2.2.1 H.1 0 a ∧ up H.2.2.1 H.1 0 a ≤ 3 ∧ ∀ k, k < up H.2.2.1 H.1 0 a → _
    rw [up_n (by omega), up_n (by omega)]
    exact d
theorem WF_L {aw : Nat} {H : Hp} {v : Nat} (w : WF aw H) (ha : aw = 3 ∨ (aw = 4 ∧ H.2.2.1 (H.1 - 1) < 3)) (v1 : 1 ≤ v) (v9 : v ≤ 9) : WF 4 (adL H v) := by
  obtain ⟨w1, w2, w3, w4, w5, w6, w7⟩ := w
  have m1 : 1 ≤ H.1 := ha.elim (fun e => (w5 e).1) (fun e => w6 e.1)
  refine ⟨by omega, w2, fun e => absurd e (by omega), fun e => absurd e (by omega), fun e => absurd e (by omega), fun _ => m1, fun a ha2 _ => ?_⟩
  have ha2 : a < H.1 := ha2
  unfold DN adL
  show H.2.1 a ≤ 2 ∧ 1 ≤ up H.2.2.1 (H.1 - 1) (H.2.2.1 (H.1 - 1) + 1) a ∧ up H.2.2.1 (H.1 - 1) (H.2.2.1 (H.1 - 1) + 1) a ≤ 3 ∧ ∀ k, k < up H.2.2.1 (H.1 - 1) (H.2.2.1 (H.1 - 1) + 1) a → 1 ≤ up H.2.2.2 (3 * (H.1 - 1) + H.2.2.1 (H.1 - 1)) v (3 * a + k) ∧ up H.2.2.2 (3 * (H.1 - 1) + H.2.2.1 (H.1 - 1)) v (3 * a + k) ≤ 9
  by_cases e : a = H.1 - 1
  · subst e
    rw [up_s]
    have k2 : H.2.1 (H.1 - 1) ≤ 2 := ha.elim (fun e => (w5 e).2.1) (fun e => (w7 (H.1 - 1) (by omega) (fun q => absurd q (by omega))).1)
    have l3 : H.2.2.1 (H.1 - 1) < 3 := ha.elim (fun e => by rw [(w5 e).2.2]; omega) (fun e => e.2)
    refine ⟨k2, by omega, by omega, fun k hk2 => ?_⟩
    by_cases q : k = H.2.2.1 (H.1 - 1)
    · subst q
      rw [up_s]
      exact ⟨v1, v9⟩
    · rw [up_n (by omega)]
      rcases ha with e | e
      · rw [(w5 e).2.2] at hk2 q
        omega
      · exact (w7 (H.1 - 1) (by omega) (fun q => absurd q (by omega))).2.2.2 k (by omega)
  · have d := w7 a ha2 (fun _ => by omega)
    rw [up_n e]
    refine ⟨d.1, d.2.1, d.2.2.1, fun k hk2 => ?_⟩
    have := d.2.2.1
    have l3 : H.2.2.1 (H.1 - 1) < 3 := ha.elim (fun e => by rw [(w5 e).2.2]; omega) (fun e => e.2)
    rw [up_n (by omega)]
    exact d.2.2.2 k hk2
theorem WF_M {aw : Nat} {H : Hp} (w : WF aw H) (ha : aw = 1 ∨ aw = 4) (h4 : H.1 < 4) : WF 2 H := by
  obtain ⟨w1, w2, w3, w4, w5, w6, w7⟩ := w
  exact ⟨by omega, w2, fun e => absurd e (by omega), fun _ => h4, fun e => absurd e (by omega), fun e => absurd e (by omega), fun a ha2 _ => w7 a ha2 (fun q => absurd q (by omega))⟩
theorem kdc_le {x : Int32} (h : ¬ kdc x = 9) : kdc x ≤ 2 := by
  unfold kdc at h ⊢
  split
  · omega
  · split
    · omega
    · split
      · omega
      · rename_i h1 h2 h3
        rw [if_neg h1, if_neg h2, if_neg h3] at h
        exact absurd rfl h
