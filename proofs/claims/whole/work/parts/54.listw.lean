theorem q_L106 {o1 : Nat} {K : Sg → Prop} {r8 : Int32 → Sg → Prop} {a s f W m : Nat} {σ0 : Sg} (hm : m ≤ 4) (ha : a < m) (hs : s ≤ 3) (ho : kd o1 = 2) (hm0 : σ0 o1 4 = nI m) (hf : f + W ≤ 256) (hfl : f = 0 ∨ W ≤ f)
    (hK : ∀ τ : Sg, (∀ c, c ≠ 24 → τ c = σ0 c) → (∀ b x, a < b → b < m → x < W → τ 24 (256 * b + f + x) = nI f + σ0 24 (256 * b + x)) → (∀ j, (∀ b, a < b → b < m → j < 256 * b + f ∨ 256 * b + f + W ≤ j) → τ 24 j = σ0 24 j) → r8 (nI (s + 1)) τ) :
    ∃ n, L_Un_listWith_106 o1 (nI a) (nI W) (nI s) (nI f) K r8 n (nI (a + 1)) σ0 := by
  have ho24 : o1 ≠ 24 := fun e => by rw [e] at ho; exact absurd ho (by decide)
  have key : ∀ n i (σ : Sg), i + n = m → a < i → (∀ c, c ≠ 24 → σ c = σ0 c) → (∀ b x, a < b → b < i → x < W → σ 24 (256 * b + f + x) = nI f + σ0 24 (256 * b + x)) → (∀ j, (∀ b, a < b → b < i → j < 256 * b + f ∨ 256 * b + f + W ≤ j) → σ 24 j = σ0 24 j) → L_Un_listWith_106 o1 (nI a) (nI W) (nI s) (nI f) K r8 (n + 1) (nI i) σ := by
    intro n
    induction n with
    | zero =>
      intro i σ hi hai h1 h2 h3
      have : i = m := by omega
      subst this
      unfold L_Un_listWith_106
      rw [h1 o1 ho24, hm0, show (1 : Int32) = nI 1 from rfl, nI_add]
      exact ⟨fun _ => hK σ h1 h2 h3, fun g => absurd ((n_le (by omega) (by omega)).mpr (Nat.le_refl i)) g⟩
    | succ n ih =>
      intro i σ hi hai h1 h2 h3
      unfold L_Un_listWith_106
      rw [h1 o1 ho24, hm0]
      refine ⟨fun g => absurd ((n_le (by omega) (by omega)).mp g) (by omega), fun _ => ?_⟩
      refine p_repeat (by omega) hf hfl (fun τ g1 g2 g3 => ?_)
      rw [show (1 : Int32) = nI 1 from rfl, nI_add]
      have hin : ∀ j, 256 * i ≤ j → j < 256 * i + 256 → σ 24 j = σ0 24 j := fun j j1 j2 => h3 j (fun b b1 b2 => by omega)
      refine ih (i + 1) τ (by omega) (by omega) (fun c hc => (g1 c hc).trans (h1 c hc)) (fun b x b1 b2 hx => ?_) (fun j hj => ?_)
      · rcases Nat.lt_or_ge b i with g | g
        · rw [g3 _ (by omega)]
          exact h2 b x b1 g hx
        · have : b = i := by omega
          subst this
          rw [g2 x hx, hin _ (by omega) (by omega)]
      · rw [g3 j (hj i (by omega) (by omega))]
        exact h3 j (fun b b1 b2 => hj b b1 (by omega))
  exact ⟨m - (a + 1) + 1, key (m - (a + 1)) (a + 1) σ0 (by omega) (by omega) (fun _ _ => rfl) (fun b x b1 b2 => absurd b2 (by omega)) (fun _ _ => rfl)⟩
theorem q_L48 {o1 : Nat} {K : Sg → Prop} {r8 : Int32 → Sg → Prop} {a s f W g p : Nat} {σ0 : Sg} (ha : a < 4) (hf : f + W ≤ 256) (hfl : f = 0 ∧ p = 0 ∨ W ≤ f)
    (hK : ∀ τ : Sg, (∀ c, c ≠ 23 → c ≠ 24 → τ c = σ0 c) → (∀ x, x < W → τ 23 (f + x) = σ0 23 x + nI p) → (∀ j, j < f ∨ f + W ≤ j → τ 23 j = σ0 23 j) → (∀ x, x < W → τ 24 (256 * a + f + x) = nI (g + x)) → (∀ j, j < 256 * a + f ∨ 256 * a + f + W ≤ j → τ 24 j = σ0 24 j) → ∃ n, L_Un_listWith_106 o1 (nI a) (nI W) (nI s) (nI f) K r8 n (nI (a + 1)) τ) :
    ∃ n, L_Un_listWith_48 o1 (nI a) (nI W) (nI s) (nI p) (nI f) (nI g) K r8 n (nI 0) σ0 := by
  have key : ∀ n i (σ : Sg), i + n = W → (∀ c, c ≠ 23 → c ≠ 24 → σ c = σ0 c) → (∀ x, x < i → σ 23 (f + x) = σ0 23 x + nI p) → (∀ j, j < f ∨ f + i ≤ j → σ 23 j = σ0 23 j) → (∀ x, x < i → σ 24 (256 * a + f + x) = nI (g + x)) → (∀ j, j < 256 * a + f ∨ 256 * a + f + i ≤ j → σ 24 j = σ0 24 j) → L_Un_listWith_48 o1 (nI a) (nI W) (nI s) (nI p) (nI f) (nI g) K r8 (n + 1) (nI i) σ := by
    intro n
    induction n with
    | zero =>
      intro i σ hi h1 h2 h3 h4 h5
      have : i = W := by omega
      subst this
      unfold L_Un_listWith_48
      refine ⟨fun _ y hy => ?_, fun g => absurd ((n_le (by omega) (by omega)).mpr (Nat.le_refl i)) g⟩
      rw [hy, show (1 : Int32) = nI 1 from rfl, nI_add]
      exact hK σ h1 h2 h3 h4 h5
    | succ n ih =>
      intro i σ hi h1 h2 h3 h4 h5
      unfold L_Un_listWith_48
      refine ⟨fun g => absurd ((n_le (by omega) (by omega)).mp g) (by omega), fun _ => ?_⟩
      simp only [i32_lit, pk_mul, nI_add]
      rw [nI_c (by omega), nI_c (by omega), nI_c (by omega)]
      refine ⟨n_in (by omega) (by omega), n_in (by omega) (by omega), fun τ hτ => ⟨n_in (by omega) (by omega), fun τ2 hτ2 => ?_⟩⟩
      subst hτ2
      subst hτ
      refine ih (i + 1) _ (by omega) (fun c c1 c2 => by rw [s2_ne c2, s2_ne c1]; exact h1 c c1 c2) (fun x hx => ?_) (fun j hj => ?_) (fun x hx => ?_) (fun j hj => ?_)
      · rw [s2_ne (by omega)]
        rcases Nat.lt_or_ge x i with q | q
        · rw [s2_ai (by omega)]; exact h2 x q
        · have : x = i := by omega
          subst this
          rw [s2_at]
          rcases hfl with ⟨e1, e2⟩ | e
          · subst e1; subst e2
            rw [h3 x (by omega)]
          · rw [h3 x (by omega)]
      · rw [s2_ne (by omega), s2_ai (by omega)]; exact h3 j (by omega)
      · rcases Nat.lt_or_ge x i with q | q
        · rw [s2_ai (by omega), s2_ne (by omega)]; exact h4 x q
        · have : x = i := by omega
          subst this
          rw [show 256 * a + f + x = a * 256 + f + x by omega, s2_at]
      · rw [s2_ai (by omega), s2_ne (by omega)]; exact h5 j (by omega)
  exact ⟨W + 1, key W 0 σ0 (by omega) (fun _ _ _ => rfl) (fun x hx => absurd hx (by omega)) (fun _ _ => rfl) (fun x hx => absurd hx (by omega)) (fun _ _ => rfl)⟩
/-- the blocks of the first s states -/
def BI (o1 : Nat) (h : Hh) (a W s : Nat) (σ0 τ : Sg) : Prop := (∀ c, c ≠ 23 → c ≠ 24 → τ c = σ0 c) ∧ (∀ q x, q < s → x < W → τ 23 (q * W + x) = σ0 23 x + nI (dp (Dh h) a q)) ∧ (∀ x, x < W → τ 23 x = σ0 23 x) ∧ (∀ q x, q < s → x < W → τ 24 (256 * a + (q * W + x)) = nI (nxt (hl h a) q * W + x)) ∧ ∀ b, a < b → b < hm h → (∀ q x, q < s → x < W → τ 24 (256 * b + (q * W + x)) = nI (q * W) + σ0 24 (256 * b + x)) ∧ ∀ x, x < W → τ 24 (256 * b + x) = σ0 24 (256 * b + x)
theorem BI_step {o1 : Nat} {h : Hh} {a W s : Nat} {σ0 τ τ1 τ2 : Sg} (ok : HOk h) (ha : a < hm h) (hs : s ≤ hl h a) (hW : (hl h a + 1) * W ≤ 256) (B : BI o1 h a W s σ0 τ)
    (p1 : ∀ c, c ≠ 23 → c ≠ 24 → τ1 c = τ c) (p2 : ∀ x, x < W → τ1 23 (s * W + x) = τ 23 x + nI (dp (Dh h) a s)) (p3 : ∀ j, j < s * W ∨ s * W + W ≤ j → τ1 23 j = τ 23 j) (p4 : ∀ x, x < W → τ1 24 (256 * a + s * W + x) = nI (nxt (hl h a) s * W + x)) (p5 : ∀ j, j < 256 * a + s * W ∨ 256 * a + s * W + W ≤ j → τ1 24 j = τ 24 j)
    (q1 : ∀ c, c ≠ 24 → τ2 c = τ1 c) (q2 : ∀ b x, a < b → b < hm h → x < W → τ2 24 (256 * b + s * W + x) = nI (s * W) + τ1 24 (256 * b + x)) (q3 : ∀ j, (∀ b, a < b → b < hm h → j < 256 * b + s * W ∨ 256 * b + s * W + W ≤ j) → τ2 24 j = τ1 24 j) : BI o1 h a W (s + 1) σ0 τ2 := by
  have hm4 := ok.1
  have hl3 := (ok.2.1 a ha).2.2.1
  obtain ⟨b1, b2, b3, b4, b5⟩ := B
  have hsW : s * W + W ≤ 256 := by
    have : (s + 1) * W ≤ (hl h a + 1) * W := Nat.mul_le_mul_right W (by omega)
    rw [Nat.add_mul] at this
    omega
  have hq : ∀ q x, q < s → x < W → q * W + x < s * W := fun q x h1 h2 => blk_lt h1 h2
  have h0s : s = 0 ∨ W ≤ s * W := by
    rcases Nat.eq_zero_or_pos s with e | e
    · exact Or.inl e
    · exact Or.inr (by have := Nat.mul_le_mul_right W e; omega)
  have dp0 : dp (Dh h) a 0 = 0 := (Dh_ok ok).2.2.2.2.1 a
  refine ⟨fun c c1 c2 => by rw [q1 c c2, p1 c c1 c2]; exact b1 c c1 c2, fun q x hq1 hx => ?_, fun x hx => ?_, fun q x hq1 hx => ?_, fun b hb1 hb2 => ⟨fun q x hq1 hx => ?_, fun x hx => ?_⟩⟩
  · rw [q1 23 (by omega)]
    rcases Nat.lt_or_ge q s with g | g
    · rw [p3 _ (Or.inl (hq q x g hx))]; exact b2 q x g hx
    · have : q = s := by omega
      subst this
      rw [p2 x hx, b3 x hx]
  · rw [q1 23 (by omega)]
    rcases h0s with e | e
    · subst e
      have := p2 x hx
      rw [Nat.zero_mul, Nat.zero_add, dp0] at this
      rw [this, b3 x hx]
      exact Int32.add_zero _
    · rw [p3 x (by omega)]; exact b3 x hx
  · have hlt : q * W + x < 256 := by
      rcases Nat.lt_or_ge q s with g | g
      · have := hq q x g hx; omega
      · have : q = s := by omega
        subst this; omega
    rw [q3 _ (fun b g1 g2 => by omega)]
    rcases Nat.lt_or_ge q s with g | g
    · have := hq q x g hx
      rw [p5 _ (by omega)]; exact b4 q x g hx
    · have : q = s := by omega
      subst this
      have := p4 x hx
      rw [← Nat.add_assoc]; exact this
  · have hlt : q * W + x < 256 := by
      rcases Nat.lt_or_ge q s with g | g
      · have := hq q x g hx; omega
      · have : q = s := by omega
        subst this; omega
    rcases Nat.lt_or_ge q s with g | g
    · have := hq q x g hx
      rw [q3 _ (fun c g1 g2 => by
        rcases Nat.lt_trichotomy c b with e | e | e
        · right; omega
        · subst e; left; omega
        · left; omega), p5 _ (by omega)]
      exact (b5 b hb1 hb2).1 q x g hx
    · have : q = s := by omega
      subst this
      rw [← Nat.add_assoc, q2 b x hb1 hb2 hx, p5 _ (by omega), (b5 b hb1 hb2).2 x hx]
  · have hxW : x < 256 := by omega
    rcases h0s with e | e
    · subst e
      have := q2 b x hb1 hb2 hx
      rw [Nat.zero_mul, Nat.add_zero] at this
      rw [this, p5 _ (by omega), (b5 b hb1 hb2).2 x hx]
      exact Int32.zero_add _
    · rw [q3 _ (fun c g1 g2 => by
        rcases Nat.lt_trichotomy c b with e | e | e
        · right; omega
        · subst e; left; omega
        · left; omega), p5 _ (by omega)]
      exact (b5 b hb1 hb2).2 x hx
theorem nxtW {h : Hh} {a W s : Nat} (hW : (hl h a + 1) * W ≤ 256) : nxt (hl h a) s * W + W ≤ 256 := by
  have h1 := nxt_lel (hl h a) s
  have : (nxt (hl h a) s + 1) * W ≤ (hl h a + 1) * W := Nat.mul_le_mul_right W (by omega)
  rw [Nat.add_mul] at this
  omega
theorem p_listWith {o1 : Nat} {h : Hh} {K : Sg → Prop} {a W : Nat} {σ0 : Sg} (ok : HOk h) (ho : kd o1 = 2) (R : RC' o1 h σ0) (ha : a < hm h) (hW : (hl h a + 1) * W ≤ 256) (hW0 : σ0 22 5 = nI W)
    (hK : ∀ τ : Sg, BI o1 h a W (hl h a + 1) σ0 τ → K (s2 τ 22 5 (nI (W * (hl h a + 1))))) : w_Un_listWith o1 (nI a) σ0 K := by
  have hm4 := ok.1
  have hl3 := (ok.2.1 a ha).2.2.1
  have hW2 : W ≤ 256 := by
    have : 1 * W ≤ (hl h a + 1) * W := Nat.mul_le_mul_right W (by omega)
    omega
  have ho67 : o1 < 67 := kd_lt (by rw [ho]; decide)
  have hne : ∀ j, j < 5 → o1 + j ≠ 23 ∧ o1 + j ≠ 24 := by
    have : ∀ c, c < 67 → kd c = 2 → ∀ j, j < 5 → c + j ≠ 23 ∧ c + j ≠ 24 := by decide +kernel
    exact this o1 ho67 ho
  have hR : ∀ τ : Sg, (∀ c, c ≠ 23 → c ≠ 24 → τ c = σ0 c) → RC' o1 h τ := fun τ e => R.of (e _ (hne 0 (by omega)).1 (hne 0 (by omega)).2) (e _ (hne 1 (by omega)).1 (hne 1 (by omega)).2) (e _ (hne 2 (by omega)).1 (hne 2 (by omega)).2) (e _ (hne 3 (by omega)).1 (hne 3 (by omega)).2) (e _ (hne 4 (by omega)).1 (hne 4 (by omega)).2)
  have key : ∀ n s (τ : Sg), s + n = hl h a + 1 → BI o1 h a W s σ0 τ → L_Un_listWith_8 o1 (nI a) (nI W) K (n + 1) (nI s) τ := by
    intro n
    induction n with
    | zero =>
      intro s τ hs B
      have : s = hl h a + 1 := by omega
      subst this
      obtain ⟨r1, r2, r3⟩ := (hR τ B.1).2.2.2.1 a ha
      unfold L_Un_listWith_8
      rw [nI_c (by omega), r2]
      refine ⟨n_in (by omega) (by omega), fun _ => ⟨n_in (by omega) (by omega), fun τ2 hτ2 => ?_⟩, fun g => absurd ((n_lt (by omega) (by omega)).mpr (by omega)) g⟩
      rw [hτ2, show (1 : Int32) = nI 1 from rfl, nI_add, pk_mul]
      exact hK τ B
    | succ n ih =>
      intro s τ hs B
      obtain ⟨r1, r2, r3⟩ := (hR τ B.1).2.2.2.1 a ha
      have hsW : s * W + W ≤ 256 := by
        have : (s + 1) * W ≤ (hl h a + 1) * W := Nat.mul_le_mul_right W (by omega)
        rw [Nat.add_mul] at this
        omega
      unfold L_Un_listWith_8
      rw [nI_c (by omega), r2]
      refine ⟨n_in (by omega) (by omega), fun g => absurd ((n_lt (by omega) (by omega)).mp g) (by omega), fun _ => ?_⟩
      refine p_Ho_powerIn ok (hR τ B.1) ha (by omega) ?_
      intro y6 hy6
      refine p_Ho_stateAfter ok (hR τ B.1) ha (by omega) ?_
      intro y7 hy7
      rw [hy6, hy7, pk_mul, pk_mul]
      have hfl : s * W = 0 ∧ dp (Dh h) a s = 0 ∨ W ≤ s * W := by
        rcases Nat.eq_zero_or_pos s with e | e
        · subst e
          exact Or.inl ⟨Nat.zero_mul _, (Dh_ok ok).2.2.2.2.1 a⟩
        · exact Or.inr (by have := Nat.mul_le_mul_right W e; omega)
      refine q_L48 (by omega) hsW hfl (fun τ1 p1 p2 p3 p4 p5 => ?_)
      refine q_L106 (m := hm h) hm4 ha (by omega) ho (by rw [p1 o1 (hne 0 (by omega)).1 (hne 0 (by omega)).2]; exact (hR τ B.1).1) hsW (by rcases hfl with e | e; exact Or.inl e.1; exact Or.inr e) (fun τ2 q1 q2 q3 => ?_)
      exact ih (s + 1) τ2 (by omega) (BI_step ok ha (by omega) hW B p1 p2 p3 p4 p5 q1 q2 q3)
  unfold w_Un_listWith
  intro y hy
  rw [hy, hW0]
  exact ⟨hl h a + 2, key (hl h a + 1) 0 σ0 (by omega) ⟨fun _ _ _ => rfl, fun q x hq => absurd hq (by omega), fun _ _ => rfl, fun q x hq => absurd hq (by omega), fun b _ _ => ⟨fun q x hq => absurd hq (by omega), fun _ _ => rfl⟩⟩⟩
