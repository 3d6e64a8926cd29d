/-! ===== BEST, as mathematics: rows of four digits, steps, paths, their costs and their order ===== -/
abbrev Dt : Type := Nat × (Nat → Nat) × (Nat → Nat → Nat) × Nat × (Nat → Nat)
abbrev dm (D : Dt) : Nat := D.1
abbrev dl (D : Dt) : Nat → Nat := D.2.1
abbrev dp (D : Dt) : Nat → Nat → Nat := D.2.2.1
abbrev dT (D : Dt) : Nat := D.2.2.2.1
abbrev dv (D : Dt) : Nat → Nat := D.2.2.2.2
def DOk (D : Dt) : Prop := dm D ≤ 4 ∧ (∀ a, dl D a ≤ 3) ∧ (∀ a, a < dm D → 1 ≤ dl D a) ∧ (∀ a, dm D ≤ a → dl D a = 0) ∧ (∀ a, dp D a 0 = 0) ∧ (∀ a d, dp D a d ≤ 18) ∧ dT D ≤ 20 ∧ ∀ t, dv D t ≤ 99
def dg (r a : Nat) : Nat := match a with
  | 0 => r / 64 % 4
  | 1 => r / 16 % 4
  | 2 => r / 4 % 4
  | 3 => r % 4
  | _ => 0
def mk4 (f : Nat → Nat) : Nat := 64 * f 0 + 16 * f 1 + 4 * f 2 + f 3
def nxt (l d : Nat) : Nat := if d < l then d + 1 else 0
def adv (D : Dt) (a r : Nat) : Nat := mk4 (fun b => if b = a then nxt (dl D a) (dg r a) else dg r b)
def gos (D : Dt) : Nat → Nat → (Nat → Bool) → Nat
  | 0, r, _ => r
  | a + 1, r, b => if b a = true then adv D a (gos D a r b) else gos D a r b
def pop : Nat → (Nat → Bool) → Nat
  | 0, _ => 0
  | a + 1, b => pop a b + (if b a = true then 1 else 0)
def vr (D : Dt) (r : Nat) : Prop := r < 256 ∧ ∀ a, a < 4 → dg r a ≤ dl D a
def PP (D : Dt) (r : Nat) : Nat := dp D 0 (dg r 0) + dp D 1 (dg r 1) + dp D 2 (dg r 2) + dp D 3 (dg r 3)
def c1 (r q a : Nat) : Nat := if dg r a = dg q a then 0 else 1
def ch (r q : Nat) : Nat := c1 r q 0 + c1 r q 1 + c1 r q 2 + c1 r q 3
theorem dg_le (r a : Nat) : dg r a ≤ 3 := by
  unfold dg
  split <;> omega
theorem dg_lt (r a : Nat) : dg r a < 4 := Nat.lt_succ_of_le (dg_le r a)
theorem four {P : Nat → Prop} (h0 : P 0) (h1 : P 1) (h2 : P 2) (h3 : P 3) : ∀ a, a < 4 → P a
  | 0, _ => h0
  | 1, _ => h1
  | 2, _ => h2
  | 3, _ => h3
  | n + 4, h => absurd h (by omega)
theorem dg_mk4 {f : Nat → Nat} (h : ∀ a, a < 4 → f a ≤ 3) : ∀ a, a < 4 → dg (mk4 f) a = f a := by
  have h0 := h 0 (by omega)
  have h1 := h 1 (by omega)
  have h2 := h 2 (by omega)
  have h3 := h 3 (by omega)
  refine four ?_ ?_ ?_ ?_
  all_goals (simp only [dg, mk4]; omega)
theorem mk4_lt {f : Nat → Nat} (h : ∀ a, a < 4 → f a ≤ 3) : mk4 f < 256 := by
  have h0 := h 0 (by omega)
  have h1 := h 1 (by omega)
  have h2 := h 2 (by omega)
  have h3 := h 3 (by omega)
  simp only [mk4]; omega
theorem mk4_congr {f g : Nat → Nat} (h : ∀ a, a < 4 → f a = g a) : mk4 f = mk4 g := by
  simp only [mk4, h 0 (by omega), h 1 (by omega), h 2 (by omega), h 3 (by omega)]
theorem dg_ext {r q : Nat} (hr : r < 256) (hq : q < 256) (h : ∀ a, a < 4 → dg r a = dg q a) : r = q := by
  have h0 := h 0 (by omega)
  have h1 := h 1 (by omega)
  have h2 := h 2 (by omega)
  have h3 := h 3 (by omega)
  simp only [dg] at h0 h1 h2 h3
  omega
theorem nxt_le {l d : Nat} (hl : l ≤ 3) : nxt l d ≤ 3 := by
  unfold nxt
  split <;> omega
theorem nxt_lel (l d : Nat) : nxt l d ≤ l := by
  unfold nxt
  split <;> omega
theorem nxt_ne {l d : Nat} (hl : 1 ≤ l) : nxt l d ≠ d := by
  unfold nxt
  split <;> omega
section M
variable {D : Dt}
theorem adv_f (hD : DOk D) (a r : Nat) : ∀ b, b < 4 → (if b = a then nxt (dl D a) (dg r a) else dg r b) ≤ 3 := by
  intro b _
  split
  · exact nxt_le (hD.2.1 a)
  · exact dg_le r b
theorem adv_lt (hD : DOk D) (a r : Nat) : adv D a r < 256 := mk4_lt (adv_f hD a r)
theorem dg_adv (hD : DOk D) (a r : Nat) : ∀ b, b < 4 → dg (adv D a r) b = if b = a then nxt (dl D a) (dg r a) else dg r b := dg_mk4 (adv_f hD a r)
theorem adv_comm (hD : DOk D) {a b : Nat} (r : Nat) (ha : a < 4) (hb : b < 4) (hab : a ≠ b) : adv D a (adv D b r) = adv D b (adv D a r) := by
  refine dg_ext (adv_lt hD _ _) (adv_lt hD _ _) (fun c hc => ?_)
  rw [dg_adv hD _ _ c hc, dg_adv hD _ _ c hc, dg_adv hD _ _ c hc, dg_adv hD _ _ a ha, dg_adv hD _ _ b hb, dg_adv hD _ _ c hc]
  by_cases h1 : c = a
  · subst h1
    simp [hab]
  · by_cases h2 : c = b
    · subst h2
      simp [h1]
    · simp [h1, h2]
theorem gos_lt (hD : DOk D) {r : Nat} (hr : r < 256) (S : Nat → Bool) : ∀ a, gos D a r S < 256
  | 0 => hr
  | a + 1 => by
    simp only [gos]
    split
    · exact adv_lt hD _ _
    · exact gos_lt hD hr S a
theorem dg_gos (hD : DOk D) (r : Nat) (S : Nat → Bool) : ∀ n, ∀ a, a < 4 → dg (gos D n r S) a = if a < n ∧ S a = true then nxt (dl D a) (dg r a) else dg r a
  | 0, a, ha => by simp [gos]
  | n + 1, a, ha => by
    have ih := dg_gos hD r S n
    simp only [gos]
    by_cases hs : S n = true
    · rw [if_pos hs, dg_adv hD _ _ a ha]
      by_cases han : a = n
      · subst han
        rw [if_pos rfl, ih a ha, if_neg (by omega), if_pos ⟨by omega, hs⟩]
      · rw [if_neg han, ih a ha]
        by_cases h1 : a < n ∧ S a = true
        · rw [if_pos h1, if_pos ⟨by omega, h1.2⟩]
        · rw [if_neg h1, if_neg (fun h => h1 ⟨by omega, h.2⟩)]
    · rw [if_neg hs, ih a ha]
      by_cases h1 : a < n ∧ S a = true
      · rw [if_pos h1, if_pos ⟨by omega, h1.2⟩]
      · rw [if_neg h1, if_neg (fun h => h1 ⟨by
          rcases Nat.lt_or_ge a n with q | q
          · exact q
          · have : a = n := by omega
            subst this
            exact absurd h.2 hs, h.2⟩)]
theorem gos_congr {r : Nat} {S S' : Nat → Bool} : ∀ {n : Nat}, (∀ i, i < n → S i = S' i) → gos D n r S = gos D n r S'
  | 0, _ => rfl
  | n + 1, h => by
    simp only [gos, h n (by omega), gos_congr (n := n) (fun i hi => h i (by omega))]
theorem pop_congr {S S' : Nat → Bool} : ∀ {n : Nat}, (∀ i, i < n → S i = S' i) → pop n S = pop n S'
  | 0, _ => rfl
  | n + 1, h => by
    simp only [pop, h n (by omega), pop_congr (n := n) (fun i hi => h i (by omega))]
theorem pop_le (S : Nat → Bool) : ∀ n, pop n S ≤ n
  | 0 => Nat.le_refl _
  | n + 1 => by
    have := pop_le S n
    simp only [pop]
    split <;> omega
theorem gos_comm (hD : DOk D) {b : Nat} (hb : b < 4) (r : Nat) (S : Nat → Bool) : ∀ n, n ≤ b → gos D n (adv D b r) S = adv D b (gos D n r S)
  | 0, _ => rfl
  | n + 1, h => by
    simp only [gos, gos_comm hD hb r S n (by omega)]
    split
    · rw [adv_comm hD _ (by omega) hb (by omega)]
    · rfl
/-- a step of all: those of S go on -/
def go (D : Dt) (r : Nat) (S : Nat → Bool) : Nat := gos D (dm D) r S
theorem go_lt (hD : DOk D) {r : Nat} (hr : r < 256) (S : Nat → Bool) : go D r S < 256 := gos_lt hD hr S _
theorem dg_go (hD : DOk D) (r : Nat) (S : Nat → Bool) (a : Nat) (ha : a < 4) : dg (go D r S) a = if a < dm D ∧ S a = true then nxt (dl D a) (dg r a) else dg r a := dg_gos hD r S _ a ha
theorem vr_go (hD : DOk D) {r : Nat} (hr : vr D r) (S : Nat → Bool) : vr D (go D r S) := by
  refine ⟨go_lt hD hr.1 S, fun a ha => ?_⟩
  rw [dg_go hD r S a ha]
  split
  · exact nxt_lel _ _
  · exact hr.2 a ha
theorem vr_adv (hD : DOk D) {r : Nat} (hr : vr D r) (a : Nat) : vr D (adv D a r) := by
  refine ⟨adv_lt hD a r, fun b hb => ?_⟩
  rw [dg_adv hD a r b hb]
  split
  · rename_i h; rw [h]; exact nxt_lel _ _
  · exact hr.2 b hb
theorem vr_0 (hD : DOk D) : vr D 0 := by
  refine ⟨by omega, four ?_ ?_ ?_ ?_⟩
  all_goals (simp [dg])
theorem c1_go (hD : DOk D) {r : Nat} (S : Nat → Bool) (a : Nat) (ha : a < 4) : c1 r (go D r S) a = if a < dm D ∧ S a = true then 1 else 0 := by
  unfold c1
  rw [dg_go hD r S a ha]
  by_cases h : a < dm D ∧ S a = true
  · rw [if_pos h, if_pos h, if_neg (fun e => nxt_ne (hD.2.2.1 a h.1) e.symm)]
  · rw [if_neg h, if_neg h, if_pos rfl]
theorem pop4 (S : Nat → Bool) : ∀ m, m ≤ 4 → pop m S = (if 0 < m ∧ S 0 = true then 1 else 0) + (if 1 < m ∧ S 1 = true then 1 else 0) + (if 2 < m ∧ S 2 = true then 1 else 0) + (if 3 < m ∧ S 3 = true then 1 else 0)
  | 0, _ => by simp [pop]
  | 1, _ => by simp [pop]
  | 2, _ => by simp [pop]
  | 3, _ => by simp [pop]
  | 4, _ => by simp [pop]
  | n + 5, h => absurd h (by omega)
theorem ch_go (hD : DOk D) {r : Nat} (S : Nat → Bool) : ch r (go D r S) = pop (dm D) S := by
  unfold ch
  rw [c1_go hD S 0 (by omega), c1_go hD S 1 (by omega), c1_go hD S 2 (by omega), c1_go hD S 3 (by omega), pop4 S (dm D) hD.1]
theorem ch_le (r q : Nat) : ch r q ≤ 4 := by
  have h : ∀ a, c1 r q a ≤ 1 := fun a => by unfold c1; split <;> omega
  have h0 := h 0
  have h1 := h 1
  have h2 := h 2
  have h3 := h 3
  unfold ch; omega
/-! paths -/
def st (D : Dt) (r q : Nat) : Prop := ∃ S : Nat → Bool, q = go D r S
def pv (p : Nat → Nat) (t : Nat) : Nat := match t with
  | 0 => 0
  | t + 1 => p t
def fe (D : Dt) (n : Nat) (p : Nat → Nat) : Prop := ∀ t, t < n → st D (pv p t) (p t) ∧ PP D (p t) ≤ dv D t
def sc (D : Dt) (w : Nat) (p : Nat → Nat) (t : Nat) : Nat := w * (dv D t - PP D (p t)) + ch (pv p t) (p t)
def co (D : Dt) (w : Nat) : Nat → (Nat → Nat) → Nat
  | 0, _ => 0
  | n + 1, p => co D w n p + sc D w p n
def lx (n : Nat) (p q : Nat → Nat) : Prop := ∃ t, t < n ∧ (∀ s, s < t → p s = q s) ∧ p t < q t
def IsB (D : Dt) (w : Nat) (p : Nat → Nat) : Prop := fe D (dT D) p ∧ ∀ q, fe D (dT D) q → co D w (dT D) p < co D w (dT D) q ∨ (co D w (dT D) p = co D w (dT D) q ∧ ¬ lx (dT D) q p)
theorem pv_congr {p q : Nat → Nat} {t : Nat} (h : ∀ s, s < t → p s = q s) : pv p t = pv q t := by
  cases t with
  | zero => rfl
  | succ t => exact h t (by omega)
theorem fe_vr (hD : DOk D) {n : Nat} {p : Nat → Nat} (h : fe D n p) : ∀ t, t ≤ n → vr D (pv p t)
  | 0, _ => vr_0 hD
  | t + 1, ht => by
    obtain ⟨⟨S, e⟩, -⟩ := h t (by omega)
    show vr D (p t)
    rw [e]
    exact vr_go hD (fe_vr hD h t (by omega)) S
theorem fe_vrp (hD : DOk D) {n : Nat} {p : Nat → Nat} (h : fe D n p) (t : Nat) (ht : t < n) : vr D (p t) := fe_vr hD h (t + 1) ht
theorem fe_mono {n k : Nat} {p : Nat → Nat} (h : fe D n p) (hk : k ≤ n) : fe D k p := fun t ht => h t (by omega)
theorem fe_congr {n : Nat} {p q : Nat → Nat} (h : ∀ s, s < n → p s = q s) (hp : fe D n p) : fe D n q := by
  intro t ht
  rw [← h t ht, ← pv_congr (p := p) (q := q) (t := t) (fun s hs => h s (by omega))]
  exact hp t ht
theorem sc_congr {w t : Nat} {p q : Nat → Nat} (h : ∀ s, s ≤ t → p s = q s) : sc D w p t = sc D w q t := by
  unfold sc
  rw [h t (by omega), pv_congr (p := p) (q := q) (t := t) (fun s hs => h s (by omega))]
theorem co_congr {w : Nat} {p q : Nat → Nat} : ∀ {n : Nat}, (∀ s, s < n → p s = q s) → co D w n p = co D w n q
  | 0, _ => rfl
  | n + 1, h => by
    simp only [co, co_congr (n := n) (fun s hs => h s (by omega)), sc_congr (D := D) (w := w) (t := n) (fun s hs => h s (by omega))]
theorem lx_first {n : Nat} {p q : Nat → Nat} : (∀ t, t < n → p t = q t) ∨ ∃ t, t < n ∧ (∀ s, s < t → p s = q s) ∧ p t ≠ q t := by
  induction n with
  | zero => exact Or.inl (fun t h => absurd h (by omega))
  | succ n ih =>
    rcases ih with h | ⟨t, ht, h1, h2⟩
    · by_cases e : p n = q n
      · refine Or.inl (fun t ht => ?_)
        rcases Nat.lt_or_ge t n with q | q
        · exact h t q
        · have : t = n := by omega
          subst this
          exact e
      · exact Or.inr ⟨n, by omega, h, e⟩
    · exact Or.inr ⟨t, by omega, h1, h2⟩
theorem lx_tri (n : Nat) (p q : Nat → Nat) : (∀ t, t < n → p t = q t) ∨ lx n p q ∨ lx n q p := by
  rcases lx_first (n := n) (p := p) (q := q) with h | ⟨t, ht, h1, h2⟩
  · exact Or.inl h
  · rcases Nat.lt_or_gt_of_ne h2 with h | h
    · exact Or.inr (Or.inl ⟨t, ht, h1, h⟩)
    · exact Or.inr (Or.inr ⟨t, ht, fun s hs => (h1 s hs).symm, h⟩)
theorem lx_asym {n : Nat} {p q : Nat → Nat} (h1 : lx n p q) (h2 : lx n q p) : False := by
  obtain ⟨t, ht, a1, a2⟩ := h1
  obtain ⟨s, hs, b1, b2⟩ := h2
  rcases Nat.lt_trichotomy t s with h | h | h
  · have := b1 t h; omega
  · subst h; omega
  · have := a1 s h; omega
theorem lx_trans {n : Nat} {p q r : Nat → Nat} (h1 : lx n p q) (h2 : lx n q r) : lx n p r := by
  obtain ⟨t, ht, a1, a2⟩ := h1
  obtain ⟨s, hs, b1, b2⟩ := h2
  rcases Nat.lt_trichotomy t s with h | h | h
  · exact ⟨t, ht, fun u hu => (a1 u hu).trans (b1 u (by omega)), by rw [← b1 t h]; exact a2⟩
  · subst h
    exact ⟨t, ht, fun u hu => (a1 u hu).trans (b1 u hu), by omega⟩
  · exact ⟨s, hs, fun u hu => (a1 u (by omega)).trans (b1 u hu), by rw [a1 s h]; exact b2⟩
theorem lx_congr {n : Nat} {p q p' q' : Nat → Nat} (hp : ∀ t, t < n → p t = p' t) (hq : ∀ t, t < n → q t = q' t) (h : lx n p q) : lx n p' q' := by
  obtain ⟨t, ht, a1, a2⟩ := h
  exact ⟨t, ht, fun s hs => by rw [← hp s (by omega), ← hq s (by omega)]; exact a1 s hs, by rw [← hp t ht, ← hq t ht]; exact a2⟩
/-- 'not behind' is carried on -/
theorem lx_le {n : Nat} {p q r : Nat → Nat} (h1 : ¬ lx n q p) (h2 : ¬ lx n r q) : ¬ lx n r p := by
  intro h
  rcases lx_tri n p q with e | e | e
  · exact h2 (lx_congr (fun _ _ => rfl) e h)
  · exact h2 (lx_trans h e)
  · exact h1 e
theorem IsB_uniq {w : Nat} {p q : Nat → Nat} (hp : IsB D w p) (hq : IsB D w q) : ∀ t, t < dT D → p t = q t := by
  have h1 := hp.2 q hq.1
  have h2 := hq.2 p hp.1
  rcases lx_tri (dT D) p q with e | e | e
  · exact e
  · rcases h2 with h | ⟨_, h⟩
    · rcases h1 with h' | ⟨h', _⟩ <;> omega
    · exact absurd e h
  · rcases h1 with h | ⟨_, h⟩
    · rcases h2 with h' | ⟨h', _⟩ <;> omega
    · exact absurd e h
/-! rests and changes apart -/
def re (D : Dt) : Nat → (Nat → Nat) → Nat
  | 0, _ => 0
  | n + 1, p => re D n p + (dv D n - PP D (p n))
def cg : Nat → (Nat → Nat) → Nat
  | 0, _ => 0
  | n + 1, p => cg n p + ch (pv p n) (p n)
theorem co_split (w : Nat) (p : Nat → Nat) : ∀ n, co D w n p = w * re D n p + cg n p
  | 0 => by simp [co, re, cg]
  | n + 1 => by
    simp only [co, re, cg, sc, co_split w p n, Nat.mul_add]
    omega
theorem cg_le (p : Nat → Nat) : ∀ n, cg n p ≤ 4 * n
  | 0 => by simp [cg]
  | n + 1 => by
    have h1 := cg_le p n
    have h2 := ch_le (pv p n) (p n)
    simp only [cg]
    omega
theorem IsB_w (hD : DOk D) {p : Nat → Nat} (h : IsB D 1000 p) : IsB D 100 p := by
  refine ⟨h.1, fun q hq => ?_⟩
  have h1 := h.2 q hq
  have hT := hD.2.2.2.2.2.2.1
  have c1 := cg_le p (dT D)
  have c2 := cg_le q (dT D)
  rw [co_split, co_split] at h1 ⊢
  rcases h1 with h1 | ⟨h1, h2⟩
  · omega
  · by_cases e : re D (dT D) p = re D (dT D) q
    · rw [e] at h1 ⊢
      exact Or.inr ⟨by omega, h2⟩
    · omega
theorem PP_0 (hD : DOk D) : PP D 0 = 0 := by
  have h := hD.2.2.2.2.1
  show dp D 0 0 + dp D 1 0 + dp D 2 0 + dp D 3 0 = 0
  simp [h]
theorem PP_le (hD : DOk D) (r : Nat) : PP D r ≤ 72 := by
  have h := hD.2.2.2.2.2.1
  have h0 := h 0 (dg r 0)
  have h1 := h 1 (dg r 1)
  have h2 := h 2 (dg r 2)
  have h3 := h 3 (dg r 3)
  unfold PP; omega
theorem gos_none (r : Nat) : ∀ n, gos D n r (fun _ => false) = r
  | 0 => rfl
  | n + 1 => by simp [gos, gos_none r n]
theorem go_none (r : Nat) : go D r (fun _ => false) = r := gos_none r _
theorem fe_off (hD : DOk D) (n : Nat) : fe D n (fun _ => 0) := by
  intro t _
  refine ⟨⟨fun _ => false, ?_⟩, by show PP D 0 ≤ _; rw [PP_0 hD]; omega⟩
  rw [go_none]
  cases t <;> rfl
theorem co_le (hD : DOk D) (p : Nat → Nat) : ∀ n, co D 1000 n p ≤ 99004 * n
  | 0 => by simp [co]
  | n + 1 => by
    have h1 := co_le hD p n
    have h2 := ch_le (pv p n) (p n)
    have h3 := hD.2.2.2.2.2.2.2 n
    simp only [co, sc]
    omega
end M
/-- BEST of a house -/
noncomputable def bst (D : Dt) : Nat → Nat := Classical.epsilon (fun p => IsB D 100 p)
theorem bst_eq {D : Dt} {p : Nat → Nat} (h : IsB D 100 p) : ∀ t, t < dT D → p t = bst D t := IsB_uniq h (Classical.epsilon_spec (p := fun p => IsB D 100 p) ⟨p, h⟩)
