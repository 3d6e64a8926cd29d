/-! ===== forward: the cheapest way to each row, and the order of these ways ===== -/
section FW
variable {D : Dt}
def bp (F : Nat → Nat → Nat) : Nat → Nat → Nat → Nat
  | 0, _ => fun _ => 0
  | n + 1, r => fun t => if t = n then r else bp F n (F n r) t
def cand (D : Dt) (n : Nat) (c : Nat → Int) (r q : Nat) (z : Int) : Prop := c r ≠ -9 ∧ st D r q ∧ PP D q ≤ dv D n ∧ z = c r + (100 * (dv D n - PP D q) + ch r q : Nat)
def FI (D : Dt) (n : Nat) (c : Nat → Int) (k : Nat → Nat) (F : Nat → Nat → Nat) : Prop :=
  (∀ r, r < 256 → c r ≠ -9 → vr D r ∧ fe D n (bp F n r) ∧ pv (bp F n r) n = r ∧ c r = (co D 100 n (bp F n r) : Nat) ∧ k r < 256) ∧
  (∀ q, fe D n q → c (pv q n) ≠ -9 ∧ (c (pv q n) < (co D 100 n q : Nat) ∨ (c (pv q n) = (co D 100 n q : Nat) ∧ ¬ lx n q (bp F n (pv q n))))) ∧
  ∀ r q, r < 256 → q < 256 → c r ≠ -9 → c q ≠ -9 → (k r < k q ↔ lx n (bp F n r) (bp F n q))
theorem bp_lt {F : Nat → Nat → Nat} {n r t : Nat} (h : t < n) : bp F (n + 1) r t = bp F n (F n r) t := by
  show (if t = n then r else bp F n (F n r) t) = _
  rw [if_neg (by omega)]
theorem bp_n {F : Nat → Nat → Nat} {n r : Nat} : bp F (n + 1) r n = r := if_pos rfl
theorem bp_congr {F F' : Nat → Nat → Nat} : ∀ {n : Nat}, (∀ t, t < n → F t = F' t) → ∀ r, bp F n r = bp F' n r
  | 0, _, _ => rfl
  | n + 1, h, r => by
    funext t
    show (if t = n then r else bp F n (F n r) t) = (if t = n then r else bp F' n (F' n r) t)
    rw [h n (by omega), bp_congr (n := n) (fun t ht => h t (by omega))]
theorem FI_0 (hD : DOk D) {c : Nat → Int} {k : Nat → Nat} {F : Nat → Nat → Nat} (h0 : c 0 = 0) (h : ∀ r, r < 256 → r ≠ 0 → c r = -9) (hk : k 0 < 256) : FI D 0 c k F := by
  have e0 : ∀ r, r < 256 → c r ≠ -9 → r = 0 := fun r hr hc => by
    by_cases e : r = 0
    · exact e
    · exact absurd (h r hr e) hc
  refine ⟨fun r hr hc => ?_, fun q hq => ?_, fun r q hr hq hc hc' => ?_⟩
  · have := e0 r hr hc
    subst this
    exact ⟨vr_0 hD, fun t ht => absurd ht (by omega), rfl, by rw [h0]; rfl, hk⟩
  · show c 0 ≠ -9 ∧ _
    refine ⟨by rw [h0]; decide, Or.inr ⟨?_, ?_⟩⟩
    · show c 0 = _
      rw [h0]; rfl
    · rintro ⟨t, ht, -⟩; omega
  · have e1 := e0 r hr hc
    have e2 := e0 q hq hc'
    subst e1; subst e2
    constructor
    · intro h; omega
    · rintro ⟨t, ht, -⟩; omega
/-- equal ranks are of one row -/
theorem FI_rank {n : Nat} {c : Nat → Int} {k : Nat → Nat} {F : Nat → Nat → Nat} (h : FI D n c k F) {r q : Nat} (hr : r < 256) (hq : q < 256) (hc : c r ≠ -9) (hc' : c q ≠ -9) : k r = k q ↔ r = q := by
  constructor
  · intro e
    rcases lx_tri n (bp F n r) (bp F n q) with e1 | e1 | e1
    · have h1 := (h.1 r hr hc).2.2.1
      have h2 := (h.1 q hq hc').2.2.1
      rw [← h1, ← h2]
      exact pv_congr e1
    · have := (h.2.2 r q hr hq hc hc').mpr e1; omega
    · have := (h.2.2 q r hq hr hc' hc).mpr e1; omega
  · intro e; rw [e]
theorem lx_succ {n : Nat} {p q : Nat → Nat} : lx (n + 1) p q ↔ lx n p q ∨ ((∀ t, t < n → p t = q t) ∧ p n < q n) := by
  constructor
  · rintro ⟨t, ht, h1, h2⟩
    rcases Nat.lt_or_ge t n with g | g
    · exact Or.inl ⟨t, g, h1, h2⟩
    · have : t = n := by omega
      subst this
      exact Or.inr ⟨h1, h2⟩
  · rintro (⟨t, ht, h1, h2⟩ | ⟨h1, h2⟩)
    · exact ⟨t, by omega, h1, h2⟩
    · exact ⟨n, by omega, h1, h2⟩
theorem FI_step (hD : DOk D) {n : Nat} {c c' : Nat → Int} {k k' : Nat → Nat} {F : Nat → Nat → Nat} (h : FI D n c k F)
    (s1 : ∀ q, q < 256 → c' q = -9 → ∀ r z, r < 256 → ¬ cand D n c r q z)
    (s2 : ∀ q, q < 256 → c' q ≠ -9 → F n q < 256 ∧ cand D n c (F n q) q (c' q) ∧ ∀ r z, r < 256 → cand D n c r q z → c' q < z ∨ (c' q = z ∧ k (F n q) ≤ k r))
    (s3 : ∀ r q, r < 256 → q < 256 → c' r ≠ -9 → c' q ≠ -9 → (k' r < k' q ↔ k (F n r) < k (F n q) ∨ (k (F n r) = k (F n q) ∧ r < q)))
    (s4 : ∀ r, r < 256 → c' r ≠ -9 → k' r < 256) : FI D (n + 1) c' k' F := by
  have hb : ∀ q, q < 256 → c' q ≠ -9 → ∀ t, t < n → bp F (n + 1) q t = bp F n (F n q) t := fun q _ _ t ht => bp_lt ht
  have hpv : ∀ q, q < 256 → c' q ≠ -9 → pv (bp F (n + 1) q) n = F n q := fun q hq hc => by
    obtain ⟨hf, hcd, -⟩ := s2 q hq hc
    rw [pv_congr (hb q hq hc)]
    exact (h.1 _ hf hcd.1).2.2.1
  refine ⟨fun q hq hc => ?_, fun q hq => ?_, fun r q hr hq hc hc' => ?_⟩
  · obtain ⟨hf, hcd, hmin⟩ := s2 q hq hc
    obtain ⟨hcr, hst, hP, hz⟩ := hcd
    obtain ⟨hv, hfe, hpv', hco, hk⟩ := h.1 _ hf hcr
    have e1 := hpv q hq hc
    refine ⟨?_, ?_, bp_n, ?_, s4 q hq hc⟩
    · obtain ⟨S, e⟩ := hst
      rw [e]
      exact vr_go hD hv S
    · intro t ht
      rcases Nat.lt_or_ge t n with g | g
      · rw [hb q hq hc t g, pv_congr (q := bp F n (F n q)) (fun s hs => hb q hq hc s (by omega))]
        exact hfe t g
      · have : t = n := by omega
        subst this
        rw [e1, bp_n]
        exact ⟨hst, hP⟩
    · rw [hz, hco]
      show _ = ((co D 100 n (bp F (n + 1) q) + sc D 100 (bp F (n + 1) q) n : Nat) : Int)
      rw [co_congr (hb q hq hc)]
      unfold sc
      rw [e1, bp_n]
      omega
  · have hq0 := fe_mono (k := n) hq (by omega)
    obtain ⟨hst, hP⟩ := hq n (by omega)
    have hv := fe_vr hD hq (n + 1) (by omega)
    have hvn := fe_vr hD hq n (by omega)
    obtain ⟨h1, h2⟩ := h.2.1 q hq0
    have hqn : pv q (n + 1) = q n := rfl
    have hcd : cand D n c (pv q n) (q n) (c (pv q n) + (100 * (dv D n - PP D (q n)) + ch (pv q n) (q n) : Nat)) := ⟨h1, hst, hP, rfl⟩
    rw [hqn] at hv ⊢
    have hne : c' (q n) ≠ -9 := fun e => s1 _ hv.1 e _ _ hvn.1 hcd
    refine ⟨hne, ?_⟩
    obtain ⟨hf, hcd2, hmin⟩ := s2 _ hv.1 hne
    have hm := hmin _ _ hvn.1 hcd
    have eco : (co D 100 (n + 1) q : Nat) = co D 100 n q + (100 * (dv D n - PP D (q n)) + ch (pv q n) (q n)) := rfl
    rw [eco]
    rcases hm with hm | ⟨hm, hkk⟩
    · left
      rcases h2 with h2 | ⟨h2, -⟩ <;> omega
    · rcases h2 with h2 | ⟨h2, h3⟩
      · left; omega
      · right
        refine ⟨by omega, ?_⟩
        have hle : ¬ lx n (bp F n (pv q n)) (bp F n (F n (q n))) := fun e => by
          have := (h.2.2 _ _ hvn.1 hf h1 hcd2.1).mpr e
          omega
        have hle2 : ¬ lx n q (bp F n (F n (q n))) := lx_le hle h3
        intro e
        rcases lx_succ.mp e with e | ⟨e, e2⟩
        · exact hle2 (lx_congr (fun _ _ => rfl) (fun t ht => bp_lt ht) e)
        · rw [bp_n] at e2; omega
  · obtain ⟨hf1, hcd1, -⟩ := s2 r hr hc
    obtain ⟨hf2, hcd2, -⟩ := s2 q hq hc'
    rw [s3 r q hr hq hc hc', lx_succ, bp_n, bp_n]
    have e1 := h.2.2 _ _ hf1 hf2 hcd1.1 hcd2.1
    have e2 := FI_rank h hf1 hf2 hcd1.1 hcd2.1
    have e3 : lx n (bp F (n + 1) r) (bp F (n + 1) q) ↔ lx n (bp F n (F n r)) (bp F n (F n q)) := ⟨lx_congr (hb r hr hc) (hb q hq hc'), lx_congr (fun t ht => (hb r hr hc t ht).symm) (fun t ht => (hb q hq hc' t ht).symm)⟩
    have e4 : (∀ t, t < n → bp F (n + 1) r t = bp F (n + 1) q t) ↔ F n r = F n q := by
      constructor
      · intro g
        rw [← hpv r hr hc, ← hpv q hq hc']
        exact pv_congr g
      · intro g t ht
        rw [hb r hr hc t ht, hb q hq hc' t ht, g]
    rw [e1, e2, e3, e4]
/-- the least of the last rows gives BEST -/
theorem FI_best {c : Nat → Int} {k : Nat → Nat} {F : Nat → Nat → Nat} (h : FI D (dT D) c k F) {r : Nat} (hr : r < 256) (hc : c r ≠ -9) (hmin : ∀ q, q < 256 → c q ≠ -9 → c r < c q ∨ (c r = c q ∧ k r ≤ k q)) (hD : DOk D) : IsB D 100 (bp F (dT D) r) := by
  obtain ⟨hv, hfe, hpv, hco, -⟩ := h.1 r hr hc
  refine ⟨hfe, fun q hq => ?_⟩
  obtain ⟨h1, h2⟩ := h.2.1 q hq
  have hvq := fe_vr hD hq (dT D) (by omega)
  have hm := hmin _ hvq.1 h1
  rcases hm with hm | ⟨hm, hkk⟩
  · left
    rcases h2 with h2 | ⟨h2, -⟩ <;> omega
  · rcases h2 with h2 | ⟨h2, h3⟩
    · left; omega
    · right
      refine ⟨by omega, ?_⟩
      have hle : ¬ lx (dT D) (bp F (dT D) (pv q (dT D))) (bp F (dT D) r) := fun e => by
        have := (h.2.2 _ _ hvq.1 hr h1 hc).mpr e
        omega
      exact lx_le hle h3
end FW
/-! ===== backward: what each row costs with the best that can follow it ===== -/
section BW
variable {D : Dt}
def mn (D : Dt) (f : Nat → Nat) : Nat → Nat → Nat
  | 0, r => f r
  | a + 1, r => min (mn D f a r) (mn D f a (adv D a r) + 1)
theorem mn_le (hD : DOk D) (f : Nat → Nat) (S : Nat → Bool) : ∀ a, a ≤ 4 → ∀ r, mn D f a r ≤ f (gos D a r S) + pop a S
  | 0, _, r => by simp [mn, gos, pop]
  | a + 1, ha, r => by
    have ih := mn_le hD f S a (by omega)
    simp only [mn, gos, pop]
    by_cases hs : S a = true
    · rw [if_pos hs, if_pos hs, ← gos_comm hD (by omega) r S a (by omega)]
      have := ih (adv D a r)
      omega
    · rw [if_neg hs, if_neg hs]
      have := ih r
      omega
theorem mn_ex (hD : DOk D) (f : Nat → Nat) : ∀ a, a ≤ 4 → ∀ r, ∃ S : Nat → Bool, mn D f a r = f (gos D a r S) + pop a S
  | 0, _, r => ⟨fun _ => false, by simp [mn, gos, pop]⟩
  | a + 1, ha, r => by
    have ih := mn_ex hD f a (by omega)
    obtain ⟨S1, e1⟩ := ih r
    obtain ⟨S2, e2⟩ := ih (adv D a r)
    rcases Nat.le_total (mn D f a r) (mn D f a (adv D a r) + 1) with h | h
    · refine ⟨fun i => if i = a then false else S1 i, ?_⟩
      have g : ∀ i, i < a → (fun i => if i = a then false else S1 i) i = S1 i := fun i hi => by simp; omega
      simp only [mn, gos, pop]
      rw [gos_congr g, pop_congr g, Nat.min_eq_left h, e1]
      simp
    · refine ⟨fun i => if i = a then true else S2 i, ?_⟩
      have g : ∀ i, i < a → (fun i => if i = a then true else S2 i) i = S2 i := fun i hi => by simp; omega
      simp only [mn, gos, pop]
      rw [gos_congr g, pop_congr g, Nat.min_eq_right h, e2, gos_comm hD (by omega) r S2 a (by omega)]
      simp
      omega
def BIG : Nat := 536870912
def cst (D : Dt) (t : Nat) (A : Nat → Nat) (r : Nat) : Nat := if PP D r ≤ dv D t then 1000 * (dv D t - PP D r) + A r else BIG
/-- the least that k times from T - k on cost, by the row ahead of them -/
def AA (D : Dt) : Nat → Nat → Nat
  | 0, _ => 0
  | k + 1, r => mn D (cst D (dT D - 1 - k) (AA D k)) (dm D) r
def CC (D : Dt) (t : Nat) : Nat → Nat := cst D t (AA D (dT D - 1 - t))
theorem AA_bound (hD : DOk D) : ∀ k r, AA D k r ≤ BIG + 99004 * k
  | 0, r => by simp [AA]
  | k + 1, r => by
    have h := mn_le hD (cst D (dT D - 1 - k) (AA D k)) (fun _ => false) (dm D) hD.1 r
    have h2 := AA_bound hD k (gos D (dm D) r (fun _ => false))
    have h3 := hD.2.2.2.2.2.2.2 (dT D - 1 - k)
    have h4 : pop (dm D) (fun _ => false) ≤ 4 := Nat.le_trans (pop_le _ _) hD.1
    have h5 : cst D (dT D - 1 - k) (AA D k) (gos D (dm D) r (fun _ => false)) ≤ BIG + 99004 * k + 99000 := by
      unfold cst
      split <;> omega
    show mn D _ _ r ≤ _
    omega
theorem CC_bound (hD : DOk D) {t : Nat} (ht : t < dT D) (r : Nat) : CC D t r ≤ BIG + 99004 * 20 := by
  have h := AA_bound hD (dT D - 1 - t) r
  have h3 := hD.2.2.2.2.2.2.2 t
  have hT := hD.2.2.2.2.2.2.1
  unfold CC cst
  split <;> omega
def tc (D : Dt) (w : Nat) (p : Nat → Nat) : Nat → Nat → Nat
  | _, 0 => 0
  | t, k + 1 => sc D w p t + tc D w p (t + 1) k
theorem tc_snoc (w : Nat) (p : Nat → Nat) : ∀ k t, tc D w p t (k + 1) = tc D w p t k + sc D w p (t + k)
  | 0, t => by simp [tc]
  | k + 1, t => by
    have ih := tc_snoc w p k (t + 1)
    show sc D w p t + tc D w p (t + 1) (k + 1) = sc D w p t + tc D w p (t + 1) k + sc D w p (t + (k + 1))
    rw [ih, show t + 1 + k = t + (k + 1) by omega]
    omega
theorem tc_co (w : Nat) (p : Nat → Nat) : ∀ n, tc D w p 0 n = co D w n p
  | 0 => rfl
  | n + 1 => by
    rw [tc_snoc, tc_co w p n, Nat.zero_add]
    rfl
/-- nothing that can be done costs less -/
theorem AA_le (hD : DOk D) {q : Nat → Nat} : ∀ k t, t + k = dT D → (∀ s, t ≤ s → s < dT D → st D (pv q s) (q s) ∧ PP D (q s) ≤ dv D s) → AA D k (pv q t) ≤ tc D 1000 q t k
  | 0, t, _, _ => by simp [AA]
  | k + 1, t, ht, hq => by
    obtain ⟨⟨S, e⟩, hP⟩ := hq t (by omega) (by omega)
    have ih := AA_le hD k (t + 1) (by omega) (fun s h1 h2 => hq s (by omega) h2)
    have h := mn_le hD (cst D (dT D - 1 - k) (AA D k)) S (dm D) hD.1 (pv q t)
    have et : dT D - 1 - k = t := by omega
    have h2 : gos D (dm D) (pv q t) S = q t := e.symm
    have h3 : pop (dm D) S = ch (pv q t) (q t) := by rw [e]; exact (ch_go hD S).symm
    rw [h2, h3, et] at h
    have h4 : cst D t (AA D k) (q t) = 1000 * (dv D t - PP D (q t)) + AA D k (q t) := if_pos hP
    rw [h4] at h
    show mn D (cst D (dT D - 1 - k) (AA D k)) (dm D) (pv q t) ≤ sc D 1000 q t + tc D 1000 q (t + 1) k
    rw [et]
    have ih' : AA D k (q t) ≤ tc D 1000 q (t + 1) k := ih
    unfold sc
    omega
/-- at each time the least is taken; of several the least row -/
def greedy (D : Dt) (p : Nat → Nat) : Prop := ∀ t, t < dT D → ∃ S : Nat → Bool, p t = go D (pv p t) S ∧ ∀ S' : Nat → Bool, CC D t (p t) + pop (dm D) S < CC D t (go D (pv p t) S') + pop (dm D) S' ∨ (CC D t (p t) + pop (dm D) S = CC D t (go D (pv p t) S') + pop (dm D) S' ∧ p t ≤ go D (pv p t) S')
theorem greedy_AA (hD : DOk D) {p : Nat → Nat} (h : greedy D p) {t k : Nat} (ht : t + (k + 1) = dT D) : AA D (k + 1) (pv p t) = CC D t (p t) + ch (pv p t) (p t) := by
  obtain ⟨S, e, hS⟩ := h t (by omega)
  have et : dT D - 1 - k = t := by omega
  have ek : dT D - 1 - t = k := by omega
  have hCC : CC D t = cst D t (AA D k) := by unfold CC; rw [ek]
  have hpop : pop (dm D) S = ch (pv p t) (p t) := by rw [e]; exact (ch_go hD S).symm
  obtain ⟨S2, e2⟩ := mn_ex hD (cst D t (AA D k)) (dm D) hD.1 (pv p t)
  have h1 := mn_le hD (cst D t (AA D k)) S (dm D) hD.1 (pv p t)
  have h2 := hS S2
  rw [hCC] at h2 ⊢
  show mn D (cst D (dT D - 1 - k) (AA D k)) (dm D) (pv p t) = _
  rw [et]
  have h3 : gos D (dm D) (pv p t) S = p t := e.symm
  have h4 : gos D (dm D) (pv p t) S2 = go D (pv p t) S2 := rfl
  rw [h3] at h1
  rw [h4] at e2
  rw [hpop] at h1 h2
  rcases h2 with h2 | ⟨h2, -⟩ <;> omega
theorem greedy_tail (hD : DOk D) {p : Nat → Nat} (h : greedy D p) : ∀ k t, t + k = dT D → AA D k (pv p t) < BIG → (∀ s, t ≤ s → s < dT D → st D (pv p s) (p s) ∧ PP D (p s) ≤ dv D s) ∧ tc D 1000 p t k = AA D k (pv p t)
  | 0, t, ht, _ => ⟨fun s h1 h2 => absurd h2 (by omega), rfl⟩
  | k + 1, t, ht, hb => by
    have e := greedy_AA hD h ht
    have ek : dT D - 1 - t = k := by omega
    have hP : PP D (p t) ≤ dv D t := by
      rcases Nat.lt_or_ge (dv D t) (PP D (p t)) with g | g
      · exfalso
        have : CC D t (p t) = BIG := if_neg (by omega)
        omega
      · exact g
    have hCC : CC D t (p t) = 1000 * (dv D t - PP D (p t)) + AA D k (p t) := by
      unfold CC cst
      rw [if_pos hP, ek]
    obtain ⟨i1, i2⟩ := greedy_tail hD h k (t + 1) (by omega) (by show AA D k (p t) < BIG; omega)
    refine ⟨fun s h1 h2 => ?_, ?_⟩
    · rcases Nat.lt_or_ge t s with g | g
      · exact i1 s g h2
      · have : s = t := by omega
        subst this
        obtain ⟨S, eS, -⟩ := h s (by omega)
        exact ⟨⟨S, eS⟩, hP⟩
    · show sc D 1000 p t + tc D 1000 p (t + 1) k = _
      rw [i2, e, hCC]
      show sc D 1000 p t + AA D k (p t) = _
      unfold sc
      omega
theorem greedy_lx (hD : DOk D) {p q : Nat → Nat} (h : greedy D p) : ∀ k t, t + k = dT D → (∀ s, s < t → p s = q s) → (∀ s, t ≤ s → s < dT D → st D (pv q s) (q s) ∧ PP D (q s) ≤ dv D s) → tc D 1000 q t k = AA D k (pv p t) → ¬ lx (dT D) q p
  | 0, t, ht, he, _, _ => by
    rintro ⟨s, hs, -, h2⟩
    have := he s (by omega)
    omega
  | k + 1, t, ht, he, hq, hc => by
    have epv : pv p t = pv q t := pv_congr he
    obtain ⟨⟨S', e'⟩, hP⟩ := hq t (by omega) (by omega)
    obtain ⟨S, eS, hS⟩ := h t (by omega)
    have e := greedy_AA hD h ht
    have ek : dT D - 1 - t = k := by omega
    have hqCC : CC D t (q t) = 1000 * (dv D t - PP D (q t)) + AA D k (q t) := by
      unfold CC cst
      rw [if_pos hP, ek]
    have hle := AA_le hD (q := q) k (t + 1) (by omega) (fun s h1 h2 => hq s (by omega) h2)
    have hle' : AA D k (q t) ≤ tc D 1000 q (t + 1) k := hle
    have hpS : pop (dm D) S = ch (pv p t) (p t) := by rw [eS]; exact (ch_go hD S).symm
    have hpS' : pop (dm D) S' = ch (pv q t) (q t) := by rw [e']; exact (ch_go hD S').symm
    have hm := hS S'
    rw [epv, ← e', hpS, hpS'] at hm
    have hcs : tc D 1000 q t (k + 1) = sc D 1000 q t + tc D 1000 q (t + 1) k := rfl
    have hsc : sc D 1000 q t = 1000 * (dv D t - PP D (q t)) + ch (pv q t) (q t) := rfl
    have htot : CC D t (q t) + ch (pv q t) (q t) ≤ AA D (k + 1) (pv p t) := by omega
    rcases hm with hm | ⟨hm, hord⟩
    · omega
    · by_cases ee : p t = q t
      · refine greedy_lx hD h k (t + 1) (by omega) (fun s hs => ?_) (fun s h1 h2 => hq s (by omega) h2) ?_
        · rcases Nat.lt_or_ge s t with g | g
          · exact he s g
          · have : s = t := by omega
            subst this
            exact ee
        · show tc D 1000 q (t + 1) k = AA D k (p t)
          rw [ee]
          omega
      · rintro ⟨s, hs, h1, h2⟩
        rcases Nat.lt_trichotomy s t with g | g | g
        · have := he s g; omega
        · subst g; omega
        · have := h1 t g; omega
theorem greedy_IsB (hD : DOk D) {p : Nat → Nat} (h : greedy D p) : IsB D 1000 p := by
  have hoff := AA_le hD (q := fun _ => 0) (dT D) 0 (by omega) (fun s _ h2 => fe_off hD (dT D) s h2)
  rw [tc_co] at hoff
  have hb := co_le hD (fun _ => 0) (dT D)
  have hT := hD.2.2.2.2.2.2.1
  have hlt : AA D (dT D) (pv p 0) < BIG := by
    have e : pv p 0 = pv (fun _ => 0) 0 := rfl
    rw [e]
    have : BIG = 536870912 := rfl
    omega
  obtain ⟨h1, h2⟩ := greedy_tail hD h (dT D) 0 (by omega) hlt
  rw [tc_co] at h2
  refine ⟨fun t ht => h1 t (by omega) ht, fun q hq => ?_⟩
  have hle := AA_le hD (q := q) (dT D) 0 (by omega) (fun s _ h2 => hq s h2)
  rw [tc_co] at hle
  have e0 : pv q 0 = pv p 0 := rfl
  rw [e0] at hle
  rcases Nat.lt_or_ge (co D 1000 (dT D) p) (co D 1000 (dT D) q) with g | g
  · exact Or.inl g
  · refine Or.inr ⟨by omega, greedy_lx hD h (dT D) 0 (by omega) (fun s hs => absurd hs (by omega)) (fun s _ h2 => hq s h2) ?_⟩
    rw [tc_co]
    omega
theorem greedy_bst (hD : DOk D) {p : Nat → Nat} (h : greedy D p) : ∀ t, t < dT D → p t = bst D t := bst_eq (IsB_w hD (greedy_IsB hD h))
end BW
