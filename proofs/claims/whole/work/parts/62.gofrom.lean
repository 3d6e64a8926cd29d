theorem of_toInt {x : Int32} {n : Nat} (h : x.toInt = n) : x = nI n := by
  have := i_hi x
  rw [eq_toInt, nI_t (by omega)]
  exact h
theorem n9 (n : Nat) (h : n < 2147483648) : nI n ≠ -9 := fun e => by
  rw [eq_toInt, nI_t h] at e
  have : (-9 : Int32).toInt = -9 := rfl
  omega
theorem size_ok : ∀ s, s < 16 → (((nI s &&& (1 : Int32)) + ((nI s >>> ((1 : Int32) &&& 31)) &&& (1 : Int32))) + ((nI s >>> ((2 : Int32) &&& 31)) &&& (1 : Int32))) + ((nI s >>> ((3 : Int32) &&& 31)) &&& (1 : Int32)) = nI (pop 4 (bs s)) := by decide +kernel
theorem pop_gv {D : Dt} (hD : DOk D) {r s : Nat} (h : gv D r s) : pop 4 (bs s) = pop (dm D) (bs s) := by
  rw [pop4 _ 4 (by omega), pop4 _ (dm D) hD.1]
  have e : ∀ a, a < 4 → ((if a < 4 ∧ bs s a = true then 1 else 0 : Nat) = if a < dm D ∧ bs s a = true then 1 else 0) := fun a ha => by
    by_cases g : a < dm D
    · by_cases g2 : bs s a = true
      · rw [if_pos ⟨ha, g2⟩, if_pos ⟨g, g2⟩]
      · rw [if_neg (fun q => g2 q.2), if_neg (fun q => g2 q.2)]
    · have : bs s a = false := h.2 a ha (by omega)
      rw [this]
      simp
  rw [e 0 (by omega), e 1 (by omega), e 2 (by omega), e 3 (by omega)]
/-- what is known of the costs and the order of the ways, as n times are through -/
def MA (D : Dt) (c : Nat → Int) (k : Nat → Nat) (σ : Sg) : Prop := (∀ r, r < 256 → (σ 56 r).toInt = c r) ∧ ∀ r, r < 256 → c r ≠ -9 → vr D r ∧ 0 ≤ c r ∧ c r ≤ 200000 ∧ σ 57 r = nI (k r) ∧ k r < 256
def via (D : Dt) (n : Nat) (c : Nat → Int) (r s q : Nat) : Prop := c r ≠ -9 ∧ gv D r s ∧ go D r (bs s) = q ∧ PP D q ≤ dv D n
def zc (D : Dt) (n : Nat) (c : Nat → Int) (r q : Nat) : Int := c r + (100 * (dv D n - PP D q) + ch r q : Nat)
/-- the best of the ways that are looked at so far -/
def PI (D : Dt) (n : Nat) (c : Nat → Int) (k : Nat → Nat) (N : Nat) (σ : Sg) : Prop := ∀ q, q < 256 →
  (σ 58 q = -9 ∧ ∀ r s, r < 256 → s < 16 → 16 * r + s < N → ¬ via D n c r s q) ∨
  (∃ f, f < 256 ∧ σ 61 (256 * n + q) = nI f ∧ (∃ s, s < 16 ∧ via D n c f s q) ∧ (σ 58 q).toInt = zc D n c f q ∧ ∀ r s, r < 256 → s < 16 → 16 * r + s < N → via D n c r s q → zc D n c f q < zc D n c r q ∨ (zc D n c f q = zc D n c r q ∧ k f ≤ k r))
theorem PI_skip {D : Dt} {n : Nat} {c : Nat → Int} {k : Nat → Nat} {i j : Nat} {σ : Sg} (hj : j < 16) (P : PI D n c k (16 * i + j) σ) (h : ∀ q, ¬ via D n c i j q) : PI D n c k (16 * i + (j + 1)) σ := by
  intro q hq
  have e : ∀ r s, s < 16 → 16 * r + s < 16 * i + (j + 1) → 16 * r + s < 16 * i + j ∨ (r = i ∧ s = j) := fun r s h1 h2 => by omega
  rcases P q hq with ⟨p1, p2⟩ | ⟨f, f1, f2, f3, f4, f5⟩
  · refine Or.inl ⟨p1, fun r s h1 h2 h3 => ?_⟩
    rcases e r s h2 h3 with g | ⟨g1, g2⟩
    · exact p2 r s h1 h2 g
    · subst g1; subst g2; exact h q
  · refine Or.inr ⟨f, f1, f2, f3, f4, fun r s h1 h2 h3 h4 => ?_⟩
    rcases e r s h2 h3 with g | ⟨g1, g2⟩
    · exact f5 r s h1 h2 g h4
    · subst g1; subst g2; exact absurd h4 (h q)
theorem zc_b {D : Dt} (hD : DOk D) {n : Nat} {c : Nat → Int} {r q : Nat} (h0 : 0 ≤ c r) (h1 : c r ≤ 200000) : 0 ≤ zc D n c r q ∧ zc D n c r q ≤ 210000 := by
  have h2 := ch_le r q
  have h3 := hD.2.2.2.2.2.2.2 n
  unfold zc
  omega
theorem p_goFrom {h : Hh} {σ0 : Sg} {K : Sg → Prop} {c : Nat → Int} {k : Nat → Nat} {n i : Nat} (ok : HOk h) (R : RM' h σ0) (M : MT h σ0) (A : MA (Dh h) c k σ0) (hn : n < hT h) (hi : i < 256) (hc : c i ≠ -9) (P0 : PI (Dh h) n c k (16 * i) σ0)
    (hK : ∀ τ : Sg, (∀ d, d ≠ 58 → d ≠ 61 → τ d = σ0 d) → (∀ j, j < 256 * n ∨ 256 * n + 256 ≤ j → τ 61 j = σ0 61 j) → PI (Dh h) n c k (16 * (i + 1)) τ → K τ) : w_Md_goFrom (nI i) (nI n) σ0 K := by
  have hD := Dh_ok ok
  have hT20 := ok.2.2.1
  have hv99 := hD.2.2.2.2.2.2.2 n
  have hbn := (ok.2.2.2.2 n hn).1
  obtain ⟨hvi, hc0, hc1, hki, hki2⟩ := A.2 i hi hc
  have eci : σ0 56 i = nI (c i).toNat := of_toInt (by rw [A.1 i hi]; omega)
  have key : ∀ m j (σ : Sg), j + m = 16 → (∀ d, d ≠ 58 → d ≠ 61 → σ d = σ0 d) → (∀ x, x < 256 * n ∨ 256 * n + 256 ≤ x → σ 61 x = σ0 61 x) → PI (Dh h) n c k (16 * i + j) σ → L_Md_goFrom_2 (nI i) (nI n) K (m + 1) (nI j) σ := by
    intro m
    induction m with
    | zero =>
      intro j σ hj h1 h2 P
      have : j = 16 := by omega
      subst this
      unfold L_Md_goFrom_2
      exact ⟨fun _ => hK σ h1 h2 (by rw [show 16 * (i + 1) = 16 * i + 16 by omega]; exact P), fun g => absurd (show (16 : Int32) ≤ nI 16 by decide) g⟩
    | succ m ih =>
      intro j σ hj h1 h2 P
      have hj16 : j < 16 := by omega
      have skip : (∀ q, ¬ via (Dh h) n c i j q) → L_Md_goFrom_2 (nI i) (nI n) K (m + 1) (nI j + 1) σ := fun g => by
        rw [show (1 : Int32) = nI 1 from rfl, nI_add]
        exact ih (j + 1) σ (by omega) h1 h2 (PI_skip hj16 P g)
      have e16 : (16 : Int32) * nI i + nI j = nI (16 * i + j) := by rw [show (16 : Int32) = nI 16 from rfl, pk_mul, nI_add]
      unfold L_Md_goFrom_2
      refine ⟨fun g => absurd (show 16 ≤ j from (n_le (by omega) (by omega)).mp g) (by omega), fun _ => ?_⟩
      rw [e16, nI_c (by omega), h1 55 (by omega) (by omega)]
      refine ⟨n_in (by omega) (by omega), fun y4 hy4 => ?_⟩
      by_cases hg : gv (Dh h) i j
      · have hq0 := vr_go hD hvi (bs j)
        obtain ⟨q0, eq0⟩ : ∃ q0, q0 = go (Dh h) i (bs j) := ⟨_, rfl⟩
        rw [← eq0] at hq0
        have hq256 := hq0.1
        have hq72 := PP_le hD q0
        rw [(M.2 i j hi hj16).1 hg, ← eq0] at hy4
        subst hy4
        refine ⟨fun _ => ?_, fun g => absurd g (n9 q0 (by omega))⟩
        refine ⟨n_in (by omega) (by omega), n_in (by omega) (by omega), ?_⟩
        have ev : σ 50 (nI n).toNatClampNeg - σ 43 11 - σ 54 (nI q0).toNatClampNeg = nI (dv (Dh h) n) - nI (PP (Dh h) q0) := by
          rw [nI_c (by omega), nI_c (by omega), h1 50 (by omega) (by omega), h1 43 (by omega) (by omega), h1 54 (by omega) (by omega), R.2.2.2.2.2 n hn, R.2.2.1, n_sub hbn, ← dv_h hn, M.1 q0 hq256]
          have : pu (Dh h) q0 (hm h) = PP (Dh h) q0 := pu_m hD hq0
          rw [this]
        rw [ev]
        unfold B_Md_goFrom_52
        refine ⟨fun g => ?_, fun g => ⟨n_in (by omega) (by omega), ?_⟩⟩
        · rw [lt_toInt, nI_sub_toInt (by omega) (by omega)] at g
          have : (0 : Int32).toInt = 0 := rfl
          refine skip (fun q hv => ?_)
          have h3 := hv.2.2.1
          have h4 := hv.2.2.2
          rw [← eq0] at h3
          rw [← h3] at h4
          omega
        · rw [lt_toInt, nI_sub_toInt (by omega) (by omega)] at g
          have z0 : (0 : Int32).toInt = 0 := rfl
          have hle : PP (Dh h) q0 ≤ dv (Dh h) n := by omega
          have hvia : via (Dh h) n c i j q0 := ⟨hc, hg, eq0.symm, hle⟩
          have hvq : ∀ q, via (Dh h) n c i j q → q = q0 := fun q hv => by rw [eq0]; exact hv.2.2.1.symm
          unfold w_Md_sizeOf
          rw [size_ok j hj16, pop_gv hD hg]
          intro y6 hy6
          have epop : pop (dm (Dh h)) (bs j) = ch i q0 := by rw [eq0]; exact (ch_go hD (bs j)).symm
          obtain ⟨z, hz⟩ : ∃ z : Nat, z = (c i).toNat + 100 * (dv (Dh h) n - PP (Dh h) q0) + ch i q0 := ⟨_, rfl⟩
          have ez : (z : Int) = zc (Dh h) n c i q0 := by unfold zc; omega
          have hzb := zc_b hD (n := n) (q := q0) hc0 hc1
          have ey6 : y6 = nI z := by
            rw [hy6, nI_c (by omega), h1 56 (by omega) (by omega), eci, n_sub hle, show (100 : Int32) = nI 100 from rfl, pk_mul, nI_add, nI_add, epop, hz]
          have e256 : (256 : Int32) * nI n + nI q0 = nI (256 * n + q0) := by rw [show (256 : Int32) = nI 256 from rfl, pk_mul, nI_add]
          have upd1 : (∀ r s, r < 256 → s < 16 → 16 * r + s < 16 * i + j → via (Dh h) n c r s q0 → zc (Dh h) n c i q0 < zc (Dh h) n c r q0 ∨ (zc (Dh h) n c i q0 = zc (Dh h) n c r q0 ∧ k i ≤ k r)) → (vp_in (nI q0) 256 ∧ ∀ τ99 : Sg, τ99 = s2 σ 58 (nI q0).toNatClampNeg y6 → (vp_in ((256 : Int32) * nI n + nI q0) 5120 ∧ ∀ τ113 : Sg, τ113 = s2 τ99 61 ((256 : Int32) * nI n + nI q0).toNatClampNeg (nI i) → L_Md_goFrom_2 (nI i) (nI n) K (m + 1) (nI j + 1) τ113)) := fun hmin => by
            rw [e256, nI_c (by omega), nI_c (by omega)]
            refine ⟨n_in (by omega) (by omega), fun τ99 e99 => ⟨n_in (by omega) (by omega), fun τ113 e113 => ?_⟩⟩
            subst e113; subst e99
            rw [show (1 : Int32) = nI 1 from rfl, nI_add]
            refine ih (j + 1) _ (by omega) (fun d d1 d2 => by rw [s2_ne d2, s2_ne d1]; exact h1 d d1 d2) (fun x hx => by rw [s2_ai (by omega), s2_ne (by omega)]; exact h2 x hx) (fun q hq => ?_)
            have esp : ∀ r s, s < 16 → 16 * r + s < 16 * i + (j + 1) → 16 * r + s < 16 * i + j ∨ (r = i ∧ s = j) := fun r s g1 g2 => by omega
            by_cases e : q = q0
            · subst e
              refine Or.inr ⟨i, hi, ?_, ⟨j, hj16, hvia⟩, ?_, fun r s r1 r2 r3 r4 => ?_⟩
              · rw [s2_at]
              · rw [s2_ne (by omega), s2_at, ey6, nI_t (by omega)]; exact ez
              · rcases esp r s r2 r3 with g | ⟨g1, g2⟩
                · exact hmin r s r1 r2 g r4
                · subst g1; exact Or.inr ⟨rfl, Nat.le_refl _⟩
            · rcases P q hq with ⟨p1, p2⟩ | ⟨f, f1, f2, f3, f4, f5⟩
              · refine Or.inl ⟨by rw [s2_ne (by omega), s2_ai e]; exact p1, fun r s r1 r2 r3 r4 => ?_⟩
                rcases esp r s r2 r3 with g | ⟨g1, g2⟩
                · exact p2 r s r1 r2 g r4
                · subst g1; subst g2; exact e (hvq q r4)
              · refine Or.inr ⟨f, f1, by rw [s2_ai (by omega), s2_ne (by omega)]; exact f2, f3, by rw [s2_ne (by omega), s2_ai e]; exact f4, fun r s r1 r2 r3 r4 => ?_⟩
                rcases esp r s r2 r3 with g | ⟨g1, g2⟩
                · exact f5 r s r1 r2 g r4
                · subst g1; subst g2; exact absurd (hvq q r4) e
          have keep : (∃ f, f < 256 ∧ σ 61 (256 * n + q0) = nI f ∧ (∃ s, s < 16 ∧ via (Dh h) n c f s q0) ∧ (σ 58 q0).toInt = zc (Dh h) n c f q0 ∧ (∀ r s, r < 256 → s < 16 → 16 * r + s < 16 * i + j → via (Dh h) n c r s q0 → zc (Dh h) n c f q0 < zc (Dh h) n c r q0 ∨ (zc (Dh h) n c f q0 = zc (Dh h) n c r q0 ∧ k f ≤ k r)) ∧ (zc (Dh h) n c f q0 < zc (Dh h) n c i q0 ∨ (zc (Dh h) n c f q0 = zc (Dh h) n c i q0 ∧ k f ≤ k i))) → L_Md_goFrom_2 (nI i) (nI n) K (m + 1) (nI j + 1) σ := fun ⟨f, f1, f2, f3, f4, f5, f6⟩ => by
            rw [show (1 : Int32) = nI 1 from rfl, nI_add]
            refine ih (j + 1) σ (by omega) h1 h2 (fun q hq => ?_)
            have esp : ∀ r s, s < 16 → 16 * r + s < 16 * i + (j + 1) → 16 * r + s < 16 * i + j ∨ (r = i ∧ s = j) := fun r s g1 g2 => by omega
            by_cases e : q = q0
            · subst e
              refine Or.inr ⟨f, f1, f2, f3, f4, fun r s r1 r2 r3 r4 => ?_⟩
              rcases esp r s r2 r3 with g | ⟨g1, g2⟩
              · exact f5 r s r1 r2 g r4
              · subst g1; exact f6
            · rcases P q hq with ⟨p1, p2⟩ | ⟨f', a1, a2, a3, a4, a5⟩
              · refine Or.inl ⟨p1, fun r s r1 r2 r3 r4 => ?_⟩
                rcases esp r s r2 r3 with g | ⟨g1, g2⟩
                · exact p2 r s r1 r2 g r4
                · subst g1; subst g2; exact e (hvq q r4)
              · refine Or.inr ⟨f', a1, a2, a3, a4, fun r s r1 r2 r3 r4 => ?_⟩
                rcases esp r s r2 r3 with g | ⟨g1, g2⟩
                · exact a5 r s r1 r2 g r4
                · subst g1; subst g2; exact absurd (hvq q r4) e
          unfold w_Md_isBetter
          refine ⟨n_in (by omega) (by omega), fun y5 hy5 => ?_⟩
          rw [nI_c (by omega)] at hy5
          have one : ∀ {X Y : Prop}, Y → ((1 : Int32) = 0 → X) ∧ (¬ (1 : Int32) = 0 → Y) := fun hY => ⟨fun e => absurd e (by decide), fun _ => hY⟩
          have zero : ∀ {X Y : Prop}, X → ((0 : Int32) = 0 → X) ∧ (¬ (0 : Int32) = 0 → Y) := fun hX => ⟨fun _ => hX, fun e => absurd rfl e⟩
          rcases P q0 hq256 with ⟨p1, p2⟩ | ⟨f, f1, f2, f3, f4, f5⟩
          · rw [hy5]
            refine ⟨fun _ => one (upd1 (fun r s r1 r2 r3 r4 => absurd r4 (p2 r s r1 r2 r3))), fun g => absurd p1 g⟩
          · obtain ⟨sf, sf1, sf2⟩ := f3
            obtain ⟨hvf, hf0, hf1', hkf, hkf2⟩ := A.2 f f1 sf2.1
            have hzf := zc_b hD (n := n) (q := q0) hf0 hf1'
            have ey5 : y5.toInt = zc (Dh h) n c f q0 := by rw [hy5]; exact f4
            have ey6' : y6.toInt = zc (Dh h) n c i q0 := by rw [ey6, nI_t (by omega)]; exact ez
            have hn9 : ¬ y5 = -9 := fun e => by
              rw [e] at ey5
              have : (-9 : Int32).toInt = -9 := rfl
              omega
            refine ⟨fun g => absurd g hn9, fun _ => ⟨fun g => ?_, fun g => ⟨fun g2 => ?_, fun g2 => ?_⟩⟩⟩
            · rw [lt_toInt, ey5, ey6'] at g
              refine one (upd1 (fun r s r1 r2 r3 r4 => ?_))
              rcases f5 r s r1 r2 r3 r4 with q | ⟨q, -⟩ <;> (left; omega)
            · rw [lt_toInt, ey5, ey6'] at g
              rw [eq_toInt, ey5, ey6'] at g2
              exact zero (keep ⟨f, f1, f2, ⟨sf, sf1, sf2⟩, f4, f5, Or.inl (by omega)⟩)
            · rw [eq_toInt, ey5, ey6'] at g2
              refine ⟨n_in (by omega) (by omega), by rw [e256]; exact n_in (by omega) (by omega), by rw [e256, nI_c (n := 256 * n + q0) (by omega), f2]; exact n_in (by omega) (by omega), fun g3 => ?_, fun g3 => ?_⟩
              · rw [e256, nI_c (n := 256 * n + q0) (by omega), f2, nI_c (n := f) (by omega), nI_c (n := i) (by omega), h1 57 (by omega) (by omega), hkf, hki] at g3
                have g3 := (n_le (by omega) (by omega)).mp g3
                exact zero (keep ⟨f, f1, f2, ⟨sf, sf1, sf2⟩, f4, f5, Or.inr ⟨by omega, g3⟩⟩)
              · rw [e256, nI_c (n := 256 * n + q0) (by omega), f2, nI_c (n := f) (by omega), nI_c (n := i) (by omega), h1 57 (by omega) (by omega), hkf, hki] at g3
                have g3 : ¬ k f ≤ k i := fun e => g3 ((n_le (by omega) (by omega)).mpr e)
                refine one (upd1 (fun r s r1 r2 r3 r4 => ?_))
                rcases f5 r s r1 r2 r3 r4 with q | ⟨q, q2⟩
                · left; omega
                · right; exact ⟨by omega, by omega⟩
      · rw [(M.2 i j hi hj16).2 hg] at hy4
        subst hy4
        refine ⟨fun g => absurd rfl g, fun _ => ?_⟩
        unfold B_Md_goFrom_52
        refine ⟨fun _ => skip (fun q hv => hg hv.2.1), fun g => absurd (by decide) g⟩
  unfold w_Md_goFrom
  exact ⟨17, key 16 0 σ0 (by omega) (fun _ _ _ => rfl) (fun _ _ => rfl) P0⟩
