/-! ===== mixes: rows as numbers of mixed digits ===== -/
section MX
variable {D : Dt}
def Rd (D : Dt) (a : Nat) : Nat := dl D a + 1
def Wp (D : Dt) (a : Nat) : Nat := match a with
  | 0 => Rd D 0 * (Rd D 1 * (Rd D 2 * (Rd D 3 * 1)))
  | 1 => Rd D 1 * (Rd D 2 * (Rd D 3 * 1))
  | 2 => Rd D 2 * (Rd D 3 * 1)
  | 3 => Rd D 3 * 1
  | _ => 1
def fl (D : Dt) (a r : Nat) : Nat := match a with
  | 0 => dg r 0 * Wp D 1 + (dg r 1 * Wp D 2 + (dg r 2 * Wp D 3 + (dg r 3 * Wp D 4 + 0)))
  | 1 => dg r 1 * Wp D 2 + (dg r 2 * Wp D 3 + (dg r 3 * Wp D 4 + 0))
  | 2 => dg r 2 * Wp D 3 + (dg r 3 * Wp D 4 + 0)
  | 3 => dg r 3 * Wp D 4 + 0
  | _ => 0
def PQ (D : Dt) (a r : Nat) : Nat := match a with
  | 0 => dp D 0 (dg r 0) + (dp D 1 (dg r 1) + (dp D 2 (dg r 2) + (dp D 3 (dg r 3) + 0)))
  | 1 => dp D 1 (dg r 1) + (dp D 2 (dg r 2) + (dp D 3 (dg r 3) + 0))
  | 2 => dp D 2 (dg r 2) + (dp D 3 (dg r 3) + 0)
  | 3 => dp D 3 (dg r 3) + 0
  | _ => 0
theorem Wp_s : ∀ a, a < 4 → Wp D a = Rd D a * Wp D (a + 1) := four rfl rfl rfl rfl
theorem fl_s (r : Nat) : ∀ a, a < 4 → fl D a r = dg r a * Wp D (a + 1) + fl D (a + 1) r := four rfl rfl rfl rfl
theorem PQ_s (r : Nat) : ∀ a, a < 4 → PQ D a r = dp D a (dg r a) + PQ D (a + 1) r := four rfl rfl rfl rfl
theorem PQ_0 (r : Nat) : PQ D 0 r = PP D r := by
  simp only [PQ, PP]
  omega
theorem PQ_le (hD : DOk D) (a r : Nat) : PQ D a r ≤ 72 := by
  have h := hD.2.2.2.2.2.1
  have h0 := h 0 (dg r 0)
  have h1 := h 1 (dg r 1)
  have h2 := h 2 (dg r 2)
  have h3 := h 3 (dg r 3)
  unfold PQ
  split <;> omega
theorem Rd_le (hD : DOk D) (a : Nat) : Rd D a ≤ 4 := by
  have := hD.2.1 a
  unfold Rd; omega
theorem Wp_b (hD : DOk D) : Wp D 3 ≤ 4 ∧ Wp D 2 ≤ 16 ∧ Wp D 1 ≤ 64 ∧ Wp D 0 ≤ 256 := by
  have h3 : Wp D 3 ≤ 4 := by have := Rd_le hD 3; show Rd D 3 * 1 ≤ 4; omega
  have h2 : Wp D 2 ≤ 16 := Nat.mul_le_mul (Rd_le hD 2) h3
  have h1 : Wp D 1 ≤ 64 := Nat.mul_le_mul (Rd_le hD 1) h2
  exact ⟨h3, h2, h1, Nat.mul_le_mul (Rd_le hD 0) h1⟩
theorem Wp_le (hD : DOk D) (a : Nat) : Wp D a ≤ 256 := by
  have h := Wp_b hD
  match a with
  | 0 => exact h.2.2.2
  | 1 => omega
  | 2 => omega
  | 3 => omega
  | n + 4 => show 1 ≤ 256; omega
theorem Wp_pos (a : Nat) : 1 ≤ Wp D a := by
  have hR : ∀ b, 1 ≤ Rd D b := fun b => by unfold Rd; omega
  have h3 : 1 ≤ Wp D 3 := by have := hR 3; show 1 ≤ Rd D 3 * 1; omega
  have h2 : 1 ≤ Wp D 2 := Nat.mul_le_mul (hR 2) h3
  have h1 : 1 ≤ Wp D 1 := Nat.mul_le_mul (hR 1) h2
  match a with
  | 0 => exact Nat.mul_le_mul (hR 0) h1
  | 1 => exact h1
  | 2 => exact h2
  | 3 => exact h3
  | n + 4 => exact Nat.le_refl 1
/-- a place of a block -/
theorem blk_lt {s x W n : Nat} (hs : s < n) (hx : x < W) : s * W + x < n * W := by
  have : (s + 1) * W ≤ n * W := Nat.mul_le_mul_right W hs
  rw [Nat.add_mul] at this
  omega
theorem fl_lt {r : Nat} (hr : vr D r) : ∀ a, a ≤ 4 → fl D a r < Wp D a := by
  have h4 : fl D 4 r < Wp D 4 := by show 0 < 1; omega
  have st : ∀ a, a < 4 → fl D (a + 1) r < Wp D (a + 1) → fl D a r < Wp D a := fun a ha ih => by
    rw [fl_s r a ha, Wp_s a ha]
    exact blk_lt (by have := hr.2 a ha; unfold Rd; omega) ih
  have h3 := st 3 (by omega) h4
  have h2 := st 2 (by omega) h3
  have h1 := st 1 (by omega) h2
  have h0 := st 0 (by omega) h1
  intro a ha
  match a, ha with
  | 0, _ => exact h0
  | 1, _ => exact h1
  | 2, _ => exact h2
  | 3, _ => exact h3
  | 4, _ => exact h4
  | n + 5, h => exact absurd h (by omega)
theorem dg_sum {r : Nat} (h : r < 256) : r = 64 * dg r 0 + 16 * dg r 1 + 4 * dg r 2 + dg r 3 := by
  simp only [dg]
  omega
theorem fl_lex {r q : Nat} (hr : vr D r) (a : Nat) (ha : a < 4) (h : dg r a < dg q a) : fl D a r < fl D a q := by
  rw [fl_s r a ha, fl_s q a ha]
  have h1 := blk_lt (W := Wp D (a + 1)) h (fl_lt hr (a + 1) (by omega))
  omega
theorem fl_mono {r q : Nat} (hr : vr D r) (hq : vr D q) (h : r < q) : fl D 0 r < fl D 0 q := by
  have hr1 := hr.1
  have hq1 := hq.1
  have key : dg r 0 < dg q 0 ∨ (dg r 0 = dg q 0 ∧ (dg r 1 < dg q 1 ∨ (dg r 1 = dg q 1 ∧ (dg r 2 < dg q 2 ∨ (dg r 2 = dg q 2 ∧ dg r 3 < dg q 3))))) := by
    have e1 := dg_sum hr1
    have e2 := dg_sum hq1
    have b0 := dg_le r 0
    have b1 := dg_le r 1
    have b2 := dg_le r 2
    have b3 := dg_le r 3
    have d0 := dg_le q 0
    have d1 := dg_le q 1
    have d2 := dg_le q 2
    have d3 := dg_le q 3
    omega
  have sq : ∀ a, a < 4 → dg r a = dg q a → fl D (a + 1) r < fl D (a + 1) q → fl D a r < fl D a q := fun a ha e h => by
    rw [fl_s r a ha, fl_s q a ha, e]
    exact Nat.add_lt_add_left h _
  rcases key with g | ⟨g, key⟩
  · exact fl_lex hr 0 (by omega) g
  · refine sq 0 (by omega) g ?_
    rcases key with g | ⟨g, key⟩
    · exact fl_lex hr 1 (by omega) g
    · refine sq 1 (by omega) g ?_
      rcases key with g | ⟨g, key⟩
      · exact fl_lex hr 2 (by omega) g
      · exact sq 2 (by omega) g (fl_lex hr 3 (by omega) key)
theorem fl_le {r q : Nat} (hr : vr D r) (hq : vr D q) : fl D 0 r ≤ fl D 0 q ↔ r ≤ q := by
  constructor
  · intro h
    rcases Nat.lt_or_ge q r with g | g
    · have := fl_mono hq hr g; omega
    · exact g
  · intro h
    rcases Nat.lt_or_ge r q with g | g
    · have := fl_mono hr hq g; omega
    · have : r = q := by omega
      rw [this]; exact Nat.le_refl _
theorem fl_congr {r q : Nat} : ∀ a, (∀ b, a ≤ b → b < 4 → dg r b = dg q b) → fl D a r = fl D a q := by
  intro a h
  match a with
  | 0 => simp only [fl, h 0 (by omega) (by omega), h 1 (by omega) (by omega), h 2 (by omega) (by omega), h 3 (by omega) (by omega)]
  | 1 => simp only [fl, h 1 (by omega) (by omega), h 2 (by omega) (by omega), h 3 (by omega) (by omega)]
  | 2 => simp only [fl, h 2 (by omega) (by omega), h 3 (by omega) (by omega)]
  | 3 => simp only [fl, h 3 (by omega) (by omega)]
  | n + 4 => rfl
theorem fl_adv_ne (hD : DOk D) {r a b : Nat} (hab : b < a) : fl D a (adv D b r) = fl D a r := fl_congr a (fun c h1 h2 => by rw [dg_adv hD b r c h2, if_neg (by omega)])
/-- the first appliances that aren't there weigh nothing -/
theorem Wp_off (hD : DOk D) : ∀ a, dm D ≤ a → Wp D a = 1 := by
  have h := hD.2.2.2.1
  intro a ha
  have e : ∀ b, a ≤ b → Rd D b = 1 := fun b hb => by unfold Rd; rw [h b (by omega)]
  match a with
  | 0 => simp only [Wp, e 0 (by omega), e 1 (by omega), e 2 (by omega), e 3 (by omega)]
  | 1 => simp only [Wp, e 1 (by omega), e 2 (by omega), e 3 (by omega)]
  | 2 => simp only [Wp, e 2 (by omega), e 3 (by omega)]
  | 3 => simp only [Wp, e 3 (by omega)]
  | n + 4 => rfl
theorem PQ_off (hD : DOk D) {r : Nat} (hr : vr D r) : ∀ a, dm D ≤ a → PQ D a r = 0 := by
  have h := hD.2.2.2.1
  have h0 := hD.2.2.2.2.1
  intro a ha
  have e : ∀ b, a ≤ b → b < 4 → dp D b (dg r b) = 0 := fun b hb hb4 => by
    have := hr.2 b hb4
    rw [h b (by omega)] at this
    rw [show dg r b = 0 by omega, h0]
  match a with
  | 0 => simp only [PQ, e 0 (by omega) (by omega), e 1 (by omega) (by omega), e 2 (by omega) (by omega), e 3 (by omega) (by omega)]
  | 1 => simp only [PQ, e 1 (by omega) (by omega), e 2 (by omega) (by omega), e 3 (by omega) (by omega)]
  | 2 => simp only [PQ, e 2 (by omega) (by omega), e 3 (by omega) (by omega)]
  | 3 => simp only [PQ, e 3 (by omega) (by omega)]
  | n + 4 => rfl
/-- the tables of the mixes of the appliances from a on -/
def LT (D : Dt) (a : Nat) (σ : Sg) : Prop := σ 22 5 = nI (Wp D a) ∧ (∀ r, vr D r → σ 23 (fl D a r) = nI (PQ D a r)) ∧ ∀ b, a ≤ b → b < dm D → (∀ r, vr D r → σ 24 (256 * b + fl D a r) = nI (fl D a (adv D b r))) ∧ ∀ x, x < Wp D a → ∃ y, y < Wp D a ∧ σ 24 (256 * b + x) = nI y
end MX
/-! ===== the class's tables ===== -/
theorem p_repeat {K : Sg → Prop} {b f l : Nat} {σ0 : Sg} (hb : b < 4) (hf : f + l ≤ 256) (hfl : f = 0 ∨ l ≤ f)
    (hK : ∀ τ : Sg, (∀ c, c ≠ 24 → τ c = σ0 c) → (∀ x, x < l → τ 24 (256 * b + f + x) = nI f + σ0 24 (256 * b + x)) → (∀ j, j < 256 * b + f ∨ 256 * b + f + l ≤ j → τ 24 j = σ0 24 j) → K τ) : w_Un_repeatAfter (nI b) (nI f) (nI l) σ0 K := by
  have key : ∀ n i (σ : Sg), i + n = l → (∀ c, c ≠ 24 → σ c = σ0 c) → (∀ x, x < i → σ 24 (256 * b + f + x) = nI f + σ0 24 (256 * b + x)) → (∀ j, j < 256 * b + f ∨ 256 * b + f + i ≤ j → σ 24 j = σ0 24 j) → L_Un_repeatAfter_10 (nI b) (nI f) (nI l) (nI (b * 256)) K (n + 1) (nI i) σ := by
    intro n
    induction n with
    | zero =>
      intro i σ hi h1 h2 h3
      have : i = l := by omega
      subst this
      unfold L_Un_repeatAfter_10
      exact ⟨fun _ => hK σ h1 h2 h3, fun g => absurd ((n_le (by omega) (by omega)).mpr (Nat.le_refl i)) g⟩
    | succ n ih =>
      intro i σ hi h1 h2 h3
      unfold L_Un_repeatAfter_10
      refine ⟨fun g => absurd ((n_le (by omega) (by omega)).mp g) (by omega), fun _ => ?_⟩
      simp only [nI_add]
      rw [nI_c (by omega), nI_c (by omega)]
      refine ⟨n_in (by omega) (by omega), n_in (by omega) (by omega), fun τ hτ => ?_⟩
      subst hτ
      rw [show (1 : Int32) = nI 1 from rfl, nI_add]
      refine ih (i + 1) _ (by omega) (fun c hc => by rw [s2_ne hc]; exact h1 c hc) (fun x hx => ?_) (fun j hj => ?_)
      · rcases Nat.lt_or_ge x i with g | g
        · rw [s2_ai (by omega)]; exact h2 x g
        · have : x = i := by omega
          subst this
          rw [show 256 * b + f + x = b * 256 + f + x by omega, s2_at, show b * 256 + x = 256 * b + x by omega, h3 (256 * b + x) (by omega)]
      · rw [s2_ai (by omega)]; exact h3 j (by omega)
  unfold w_Un_repeatAfter
  intro y hy
  have e : nI b * (256 : Int32) = nI (b * 256) := by rw [show (256 : Int32) = nI 256 from rfl, pk_mul]
  rw [hy, e]
  exact ⟨l + 1, key l 0 σ0 (by omega) (fun _ _ => rfl) (fun x hx => absurd hx (by omega)) (fun _ _ => rfl)⟩
