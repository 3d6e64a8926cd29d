theorem co_le100 {D : Dt} (hD : DOk D) (p : Nat → Nat) : ∀ n, co D 100 n p ≤ 9904 * n
  | 0 => by simp [co]
  | n + 1 => by
    have h1 := co_le100 hD p n
    have h2 := ch_le (pv p n) (p n)
    have h3 := hD.2.2.2.2.2.2.2 n
    simp only [co, sc]
    omega
def Fs (σ : Sg) (t q : Nat) : Nat := if q < 256 then (σ 61 (256 * t + q)).toNatClampNeg else 0
theorem FI_congr {D : Dt} {n : Nat} {c : Nat → Int} {k : Nat → Nat} {F F' : Nat → Nat → Nat} (e : ∀ t, t < n → F t = F' t) (h : FI D n c k F) : FI D n c k F' := by
  have eb := bp_congr e
  obtain ⟨h1, h2, h3⟩ := h
  refine ⟨fun r hr hc => ?_, fun q hq => ?_, fun r q hr hq hc hc' => ?_⟩
  · rw [← eb r]; exact h1 r hr hc
  · rw [← eb]; exact h2 q hq
  · rw [← eb r, ← eb q]; exact h3 r q hr hq hc hc'
theorem cand_via {D : Dt} (hD : DOk D) {n : Nat} {c : Nat → Int} {r q : Nat} {z : Int} (hv : c r ≠ -9 → vr D r) (h : cand D n c r q z) : ∃ s, s < 16 ∧ via D n c r s q ∧ z = zc D n c r q := by
  obtain ⟨h1, ⟨S, h2⟩, h3, h4⟩ := h
  obtain ⟨s, hs, he⟩ := bs_ex S (dm D) hD.1
  have hp := pow_le (dm D) hD.1
  refine ⟨s, by omega, ⟨h1, ⟨hv h1, fun a _ ha2 => ?_⟩, ?_, h3⟩, h4⟩
  · exact Nat.testBit_lt_two_pow (Nat.lt_of_lt_of_le hs (Nat.pow_le_pow_right (by omega) ha2))
  · rw [h2]; exact go_bs he
theorem via_cand {D : Dt} {n : Nat} {c : Nat → Int} {r s q : Nat} (h : via D n c r s q) : cand D n c r q (zc D n c r q) := ⟨h.1, ⟨bs s, h.2.2.1.symm⟩, h.2.2.2, rfl⟩
/-- the ways stand in the table, number by number -/
def CH (n : Nat) (c : Nat → Int) (σ : Sg) : Prop := ∀ r, r < 256 → c r ≠ -9 → ∀ t, t < n → σ 61 (256 * t + bp (Fs σ) n r t) = nI (pv (bp (Fs σ) n r) t) ∧ bp (Fs σ) n r t < 256
/-- between two times -/
def FB (h : Hh) (n : Nat) (σ : Sg) : Prop := RM' h σ ∧ MT h σ ∧ ∃ c k, MA (Dh h) c k σ ∧ FI (Dh h) n c k (Fs σ) ∧ CH n c σ
theorem FB_step {h : Hh} {n : Nat} {c : Nat → Int} {k : Nat → Nat} {σ1 τ : Sg} (ok : HOk h) (hn : n < hT h) (A : MA (Dh h) c k σ1) (I : FI (Dh h) n c k (Fs σ1)) (Ch : CH n c σ1) (e61 : τ 61 = σ1 61) (P : PI (Dh h) n c k 4096 σ1) (eF : ∀ t, t < n + 1 → Fs τ t = Fs σ1 t) (e56 : ∀ q, q < 256 → τ 56 q = σ1 58 q)
    (e57 : ∀ q, q < 256 → σ1 58 q ≠ -9 → τ 57 q = nI (rk (fun q => decide (σ1 58 q ≠ -9)) (fun q => k (Fs σ1 n q)) q)) : ∃ c' k', MA (Dh h) c' k' τ ∧ FI (Dh h) (n + 1) c' k' (Fs τ) ∧ CH (n + 1) c' τ := by
  have hD := Dh_ok ok
  have hT20 := ok.2.2.1
  obtain ⟨rc, erc⟩ : ∃ rc : Nat → Bool, rc = fun q => decide (σ1 58 q ≠ -9) := ⟨_, rfl⟩
  obtain ⟨κ, eκ⟩ : ∃ κ : Nat → Nat, κ = fun q => k (Fs σ1 n q) := ⟨_, rfl⟩
  rw [← erc, ← eκ] at e57
  obtain ⟨c', ec'⟩ : ∃ c' : Nat → Int, c' = fun q => (σ1 58 q).toInt := ⟨_, rfl⟩
  obtain ⟨k', ek'⟩ : ∃ k' : Nat → Nat, k' = fun q => (τ 57 q).toNatClampNeg := ⟨_, rfl⟩
  have m9 : (-9 : Int32).toInt = -9 := rfl
  have hc9 : ∀ q, c' q = -9 ↔ σ1 58 q = -9 := fun q => by
    rw [ec', eq_toInt, m9]
  have hrc : ∀ q, c' q ≠ -9 → rc q = true := fun q hq => by
    rw [erc]
    exact decide_eq_true (fun e => hq ((hc9 q).mpr e))
  have hk' : ∀ q, q < 256 → c' q ≠ -9 → k' q = rk rc κ q := fun q hq hc => by
    have hlt := rk_lt (κ := κ) (hrc q hc) hq
    rw [ek']
    show (τ 57 q).toNatClampNeg = _
    rw [e57 q hq (fun e => hc ((hc9 q).mpr e)), nI_c (by omega)]
  have hsec : ∀ q, q < 256 → c' q ≠ -9 → ∃ f, f < 256 ∧ (Fs σ1 n q = f ∧ σ1 61 (256 * n + q) = nI f) ∧ (∃ s, s < 16 ∧ via (Dh h) n c f s q) ∧ c' q = zc (Dh h) n c f q ∧ ∀ r s, r < 256 → s < 16 → via (Dh h) n c r s q → zc (Dh h) n c f q < zc (Dh h) n c r q ∨ (zc (Dh h) n c f q = zc (Dh h) n c r q ∧ k f ≤ k r) := fun q hq hc => by
    rcases P q hq with ⟨p1, -⟩ | ⟨f, f1, f2, f3, f4, f5⟩
    · exact absurd ((hc9 q).mpr p1) hc
    · refine ⟨f, f1, ⟨?_, f2⟩, f3, by rw [ec']; exact f4, fun r s r1 r2 => f5 r s r1 r2 (by omega)⟩
      unfold Fs
      rw [if_pos hq, f2, nI_c (by omega)]
  have hstep : FI (Dh h) (n + 1) c' k' (Fs σ1) := by
    refine FI_step hD I (fun q hq hc r z hr hcd => ?_) (fun q hq hc => ?_) (fun r q hr hq hc hc' => ?_) (fun r hr hc => ?_)
    · rcases P q hq with ⟨-, p2⟩ | ⟨f, f1, f2, ⟨s, s1, s2⟩, f4, f5⟩
      · obtain ⟨s, s1, s2, -⟩ := cand_via hD (fun g => (A.2 r hr g).1) hcd
        exact p2 r s hr s1 (by omega) s2
      · have := A.2 f f1 s2.1
        have := zc_b hD (n := n) (q := q) this.2.1 this.2.2.1
        rw [ec'] at hc
        have hc : (σ1 58 q).toInt = -9 := hc
        omega
    · obtain ⟨f, f1, ⟨f2, -⟩, ⟨s, s1, s2⟩, f4, f5⟩ := hsec q hq hc
      rw [f2]
      refine ⟨f1, by rw [f4]; exact via_cand s2, fun r z hr hcd => ?_⟩
      obtain ⟨u, u1, u2, u3⟩ := cand_via hD (fun g => (A.2 r hr g).1) hcd
      rw [f4, u3]
      exact f5 r u hr u1 u2
    · rw [hk' r hr hc, hk' q hq hc', rk_ord (hrc r hc) (hrc q hc') hr hq, eκ]
    · rw [hk' r hr hc]; exact rk_lt (hrc r hc) hr
  refine ⟨c', k', ⟨fun r hr => by rw [e56 r hr, ec'], fun r hr hc => ?_⟩, FI_congr (fun t ht => (eF t ht).symm) hstep, fun q hq hc t ht => ?_⟩
  rotate_left
  · have eb : bp (Fs τ) (n + 1) q = bp (Fs σ1) (n + 1) q := bp_congr eF q
    obtain ⟨f, f1, ⟨f2, f3⟩, ⟨s, s1, s2⟩, -⟩ := hsec q hq hc
    rw [eb, e61]
    have hlt : ∀ u, u < n → bp (Fs σ1) (n + 1) q u = bp (Fs σ1) n f u := fun u hu => by rw [bp_lt hu, f2]
    rcases Nat.lt_or_ge t n with g | g
    · rw [hlt t g, pv_congr (p := bp (Fs σ1) (n + 1) q) (q := bp (Fs σ1) n f) (t := t) (fun u hu => hlt u (by omega))]
      exact Ch f f1 s2.1 t g
    · have : t = n := by omega
      subst this
      rw [bp_n, pv_congr (p := bp (Fs σ1) (t + 1) q) (q := bp (Fs σ1) t f) (t := t) hlt, (I.1 f f1 s2.1).2.2.1]
      exact ⟨f3, hq⟩
  obtain ⟨g1, g2, g3, g4, g5⟩ := hstep.1 r hr hc
  have := co_le100 hD (bp (Fs σ1) (n + 1) r) (n + 1)
  refine ⟨g1, by omega, by omega, ?_, g5⟩
  rw [e57 r hr (fun e => hc ((hc9 r).mpr e)), hk' r hr hc]
theorem q_f89 {K : Sg → Prop} {r19 : Int32 → Sg → Prop} {n : Nat} {σ0 : Sg} (hK : ∀ τ : Sg, (∀ d, d ≠ 56 → d ≠ 57 → τ d = σ0 d) → (∀ q, q < 256 → τ 56 q = σ0 58 q ∧ τ 57 q = σ0 59 q) → r19 (nI (n + 1)) τ) : ∃ m, L_Md_findBest_89 (nI n) K r19 m (nI 0) σ0 := by
  have key : ∀ m i (σ : Sg), i + m = 256 → (∀ d, d ≠ 56 → d ≠ 57 → σ d = σ0 d) → (∀ q, q < i → σ 56 q = σ0 58 q ∧ σ 57 q = σ0 59 q) → L_Md_findBest_89 (nI n) K r19 (m + 1) (nI i) σ := by
    intro m
    induction m with
    | zero =>
      intro i σ hi h1 h2
      have : i = 256 := by omega
      subst this
      unfold L_Md_findBest_89
      rw [show (1 : Int32) = nI 1 from rfl, nI_add]
      exact ⟨fun _ => hK σ h1 h2, fun g => absurd (show (256 : Int32) ≤ nI 256 by decide) g⟩
    | succ m ih =>
      intro i σ hi h1 h2
      unfold L_Md_findBest_89
      rw [nI_c (by omega), show (1 : Int32) = nI 1 from rfl, nI_add i 1]
      refine ⟨fun g => absurd (show 256 ≤ i from (n_le (by omega) (by omega)).mp g) (by omega), fun _ => ⟨n_in (by omega) (by omega), n_in (by omega) (by omega), fun τ e1 => ⟨n_in (by omega) (by omega), n_in (by omega) (by omega), fun τ2 e2 => ?_⟩⟩⟩
      subst e2; subst e1
      refine ih (i + 1) _ (by omega) (fun d d1 d2 => by rw [s2_ne d2, s2_ne d1]; exact h1 d d1 d2) (fun q hq => ?_)
      by_cases e : q = i
      · subst e
        rw [s2_ne (by omega), s2_at, s2_at, s2_ne (by omega), h1 58 (by omega) (by omega), h1 59 (by omega) (by omega)]
        exact ⟨rfl, rfl⟩
      · rw [s2_ne (by omega), s2_ai e, s2_ai e, s2_ne (by omega)]; exact h2 q (by omega)
  exact ⟨257, key 256 0 σ0 (by omega) (fun _ _ _ => rfl) (fun q hq => absurd hq (by omega))⟩
theorem q_f29 {K : Sg → Prop} {r19 : Int32 → Sg → Prop} {n : Nat} {σ0 : Sg} (hK : ∀ τ : Sg, (∀ d, d ≠ 58 → τ d = σ0 d) → (∀ q, q < 256 → τ 58 q = -9) → ∃ m, L_Md_findBest_52 (nI n) K r19 m (nI 0) τ) : ∃ m, L_Md_findBest_29 (nI n) K r19 m (nI 0) σ0 := by
  have key : ∀ m i (σ : Sg), i + m = 256 → (∀ d, d ≠ 58 → σ d = σ0 d) → (∀ q, q < i → σ 58 q = -9) → L_Md_findBest_29 (nI n) K r19 (m + 1) (nI i) σ := by
    intro m
    induction m with
    | zero =>
      intro i σ hi h1 h2
      have : i = 256 := by omega
      subst this
      unfold L_Md_findBest_29
      exact ⟨fun _ => hK σ h1 h2, fun g => absurd (show (256 : Int32) ≤ nI 256 by decide) g⟩
    | succ m ih =>
      intro i σ hi h1 h2
      unfold L_Md_findBest_29
      rw [nI_c (by omega), show (1 : Int32) = nI 1 from rfl, nI_add]
      refine ⟨fun g => absurd (show 256 ≤ i from (n_le (by omega) (by omega)).mp g) (by omega), fun _ => ⟨n_in (by omega) (by omega), fun τ e1 => ?_⟩⟩
      subst e1
      refine ih (i + 1) _ (by omega) (fun d d1 => by rw [s2_ne d1]; exact h1 d d1) (fun q hq => ?_)
      by_cases e : q = i
      · subst e; rw [s2_at]
      · rw [s2_ai e]; exact h2 q (by omega)
  exact ⟨257, key 256 0 σ0 (by omega) (fun _ _ => rfl) (fun q hq => absurd hq (by omega))⟩
theorem RM'.fr {h : Hh} {σ τ : Sg} (R : RM' h σ) (e : ∀ d, d < 54 → τ d = σ d) : RM' h τ := R.of (by rw [e 43 (by omega)]) (by rw [e 43 (by omega)]) (by rw [e 43 (by omega)]) (e 47 (by omega)) (e 48 (by omega)) (e 49 (by omega)) (e 50 (by omega))
theorem MT.fr {h : Hh} {σ τ : Sg} (M : MT h σ) (e1 : τ 54 = σ 54) (e2 : τ 55 = σ 55) : MT h τ := by
  unfold MT at M ⊢
  rw [e1, e2]
  exact M
/-- one time of the reference's search -/
theorem q_time {h : Hh} {K : Sg → Prop} {r19 : Int32 → Sg → Prop} {n : Nat} {σ0 : Sg} (ok : HOk h) (hn : n < hT h) (B : FB h n σ0) (hK : ∀ τ : Sg, (∀ d, d < 56 ∨ 62 ≤ d → τ d = σ0 d) → FB h (n + 1) τ → r19 (nI (n + 1)) τ) : ∃ m, L_Md_findBest_29 (nI n) K r19 m (nI 0) σ0 := by
  have hD := Dh_ok ok
  have hT20 := ok.2.2.1
  obtain ⟨R, M, c, k, A, I, Ch⟩ := B
  refine q_f29 (fun τ1 a1 a2 => ?_)
  have A1 : ∀ σ : Sg, σ 56 = σ0 56 → σ 57 = σ0 57 → MA (Dh h) c k σ := fun σ e1 e2 => by
    unfold MA at A ⊢
    rw [e1, e2]
    exact A
  have P1 : PI (Dh h) n c k 0 τ1 := fun q hq => Or.inl ⟨a2 q hq, fun r s _ _ h3 => absurd h3 (by omega)⟩
  have fin : ∀ σ : Sg, (∀ d, d ≠ 58 → d ≠ 61 → σ d = σ0 d) → (∀ j, j < 256 * n ∨ 256 * n + 256 ≤ j → σ 61 j = σ0 61 j) → PI (Dh h) n c k 4096 σ → w_Md_rankAll (nI n) σ (fun τ84 => ∃ n7 : Nat, L_Md_findBest_89 (nI n) K r19 n7 (nI 0) τ84) := fun σ h1 h2 P => by
    have Aσ := A1 σ (h1 56 (by omega) (by omega)) (h1 57 (by omega) (by omega))
    have m9 : (-9 : Int32).toInt = -9 := rfl
    have HRK : RK n (fun q => decide (σ 58 q ≠ -9)) (fun q => k (Fs σ n q)) σ := fun q hq => by
      refine ⟨fun g => ?_, fun g => ?_⟩
      · have g : σ 58 q ≠ -9 := of_decide_eq_true g
        refine ⟨g, ?_⟩
        rcases P q hq with ⟨p1, -⟩ | ⟨f, f1, f2, ⟨s, s1, s2⟩, f4, f5⟩
        · exact absurd p1 g
        · have hAf := Aσ.2 f f1 s2.1
          have eF : Fs σ n q = f := by unfold Fs; rw [if_pos hq, f2, nI_c (by omega)]
          refine ⟨f, f1, f2, ?_, ?_⟩
          · show σ 57 f = nI (k (Fs σ n q))
            rw [eF]; exact hAf.2.2.2.1
          · show k (Fs σ n q) < 256
            rw [eF]; exact hAf.2.2.2.2
      · have g := of_decide_eq_false g
        exact Classical.byContradiction g
    refine p_rankAll (by omega) HRK (fun τ2 b1 b2 => ?_)
    refine q_f89 (fun τ3 d1 d2 => ?_)
    have e3 : ∀ d, d ≠ 56 → d ≠ 57 → d ≠ 58 → d ≠ 59 → d ≠ 60 → d ≠ 61 → τ3 d = σ0 d := fun d x1 x2 x3 x4 x5 x6 => by rw [d1 d x1 x2, b1 d x4 x5, h1 d x3 x6]
    refine hK τ3 (fun d hd => e3 d (by omega) (by omega) (by omega) (by omega) (by omega) (by omega)) ⟨R.fr (fun d hd => e3 d (by omega) (by omega) (by omega) (by omega) (by omega) (by omega)), M.fr (e3 54 (by omega) (by omega) (by omega) (by omega) (by omega) (by omega)) (e3 55 (by omega) (by omega) (by omega) (by omega) (by omega) (by omega)), ?_⟩
    have e61 : τ3 61 = σ 61 := by rw [d1 61 (by omega) (by omega), b1 61 (by omega) (by omega)]
    have eFs : ∀ t, t < n → Fs σ0 t = Fs σ t := fun t ht => by
      funext q
      unfold Fs
      by_cases g : q < 256
      · rw [if_pos g, if_pos g, h2 _ (by omega)]
      · rw [if_neg g, if_neg g]
    have I' : FI (Dh h) n c k (Fs σ) := FI_congr eFs I
    have Ch' : CH n c σ := fun r hr hc t ht => by
      have hh := Ch r hr hc t ht
      rw [bp_congr eFs r] at hh
      rw [h2 _ (by omega)]
      exact hh
    refine FB_step ok hn Aσ I' Ch' e61 P (fun t ht => by funext q; unfold Fs; rw [e61]) (fun q hq => by rw [(d2 q hq).1, b1 58 (by omega) (by omega)]) (fun q hq hc => ?_)
    rw [(d2 q hq).2]
    exact b2 q hq (decide_eq_true hc)
  have key : ∀ m i (σ : Sg), i + m = 256 → (∀ d, d ≠ 58 → d ≠ 61 → σ d = σ0 d) → (∀ j, j < 256 * n ∨ 256 * n + 256 ≤ j → σ 61 j = σ0 61 j) → PI (Dh h) n c k (16 * i) σ → L_Md_findBest_52 (nI n) K r19 (m + 1) (nI i) σ := by
    intro m
    induction m with
    | zero =>
      intro i σ hi h1 h2 P
      have : i = 256 := by omega
      subst this
      unfold L_Md_findBest_52
      exact ⟨fun _ => fin σ h1 h2 P, fun g => absurd (show (256 : Int32) ≤ nI 256 by decide) g⟩
    | succ m ih =>
      intro i σ hi h1 h2 P
      have Aσ := A1 σ (h1 56 (by omega) (by omega)) (h1 57 (by omega) (by omega))
      have m9 : (-9 : Int32).toInt = -9 := rfl
      unfold L_Md_findBest_52
      rw [nI_c (by omega), show (1 : Int32) = nI 1 from rfl, nI_add]
      refine ⟨fun g => absurd (show 256 ≤ i from (n_le (by omega) (by omega)).mp g) (by omega), fun _ => ⟨n_in (by omega) (by omega), fun g => ?_, fun g => ?_⟩⟩
      · have hc : c i = -9 := by rw [← Aσ.1 i (by omega), g]; rfl
        refine ih (i + 1) σ (by omega) h1 h2 (fun q hq => ?_)
        have nv : ∀ r s, s < 16 → 16 * r + s < 16 * (i + 1) → via (Dh h) n c r s q → 16 * r + s < 16 * i := fun r s s1 s2 hv => by
          rcases Nat.lt_or_ge r i with e | e
          · omega
          · have : r = i := by omega
            subst this
            exact absurd hc hv.1
        rcases P q hq with ⟨p1, p2⟩ | ⟨f, f1, f2, f3, f4, f5⟩
        · exact Or.inl ⟨p1, fun r s r1 r2 r3 r4 => p2 r s r1 r2 (nv r s r2 r3 r4) r4⟩
        · exact Or.inr ⟨f, f1, f2, f3, f4, fun r s r1 r2 r3 r4 => f5 r s r1 r2 (nv r s r2 r3 r4) r4⟩
      · have hc : c i ≠ -9 := fun e => g (by rw [eq_toInt, Aσ.1 i (by omega), e]; rfl)
        refine p_goFrom ok (R.fr (fun d hd => h1 d (by omega) (by omega))) (M.fr (h1 54 (by omega) (by omega)) (h1 55 (by omega) (by omega))) Aσ hn (by omega) hc P (fun τ g1 g2 g3 => ?_)
        exact ih (i + 1) τ (by omega) (fun d d1 d2 => (g1 d d1 d2).trans (h1 d d1 d2)) (fun j hj => (g2 j hj).trans (h2 j hj)) g3
  exact ⟨257, key 256 0 τ1 (by omega) (fun d d1 _ => a1 d d1) (fun j _ => by rw [a1 61 (by omega)]) P1⟩
