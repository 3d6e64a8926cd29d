/-! there is a best way -/
def cdx (p : Nat → Nat) : Nat → Nat
  | 0 => 0
  | n + 1 => 256 * cdx p n + p n
theorem cdx_congr {p q : Nat → Nat} : ∀ {n : Nat}, (∀ t, t < n → p t = q t) → cdx p n = cdx q n
  | 0, _ => rfl
  | n + 1, h => by
    simp only [cdx]
    rw [cdx_congr (n := n) (fun t ht => h t (by omega)), h n (by omega)]
theorem cdx_lt {p : Nat → Nat} : ∀ {n : Nat}, (∀ t, t < n → p t < 256) → cdx p n < 256 ^ n
  | 0, _ => by simp [cdx]
  | n + 1, h => by
    have h1 := cdx_lt (n := n) (fun t ht => h t (by omega))
    have h2 := h n (by omega)
    simp only [cdx, Nat.pow_succ]
    omega
theorem cdx_lx {p q : Nat → Nat} : ∀ {n : Nat}, (∀ t, t < n → q t < 256) → lx n q p → cdx q n < cdx p n
  | 0, _, ⟨t, h, _⟩ => absurd h (by omega)
  | n + 1, h, g => by
    simp only [cdx]
    rcases lx_succ.mp g with g | ⟨g1, g2⟩
    · have h1 := cdx_lx (n := n) (fun t ht => h t (by omega)) g
      have h2 := h n (by omega)
      omega
    · rw [cdx_congr g1]
      omega
theorem bst_ok {D : Dt} (hD : DOk D) : IsB D 100 (bst D) := by
  have ex : ∃ p, IsB D 100 p := by
    have key : ∀ N, ∀ p, fe D (dT D) p → co D 100 (dT D) p * 256 ^ dT D + cdx p (dT D) < N → ∃ p, IsB D 100 p := by
      intro N
      induction N with
      | zero => intro p _ h; exact absurd h (by omega)
      | succ N ih =>
        intro p hp hN
        by_cases c : ∃ q, fe D (dT D) q ∧ co D 100 (dT D) q * 256 ^ dT D + cdx q (dT D) < co D 100 (dT D) p * 256 ^ dT D + cdx p (dT D)
        · obtain ⟨q, hq, hlt⟩ := c
          exact ih q hq (by omega)
        · refine ⟨p, hp, fun q hq => ?_⟩
          have hle : ¬ co D 100 (dT D) q * 256 ^ dT D + cdx q (dT D) < co D 100 (dT D) p * 256 ^ dT D + cdx p (dT D) := fun e => c ⟨q, hq, e⟩
          have q256 : ∀ t, t < dT D → q t < 256 := fun t ht' => (fe_vrp hD hq t ht').1
          have hc := cdx_lt q256
          rcases Nat.lt_trichotomy (co D 100 (dT D) p) (co D 100 (dT D) q) with g | g | g
          · exact Or.inl g
          · refine Or.inr ⟨g, fun hx => ?_⟩
            have := cdx_lx q256 hx
            rw [g] at hle
            omega
          · exfalso
            apply hle
            have : (co D 100 (dT D) q + 1) * 256 ^ dT D ≤ co D 100 (dT D) p * 256 ^ dT D := Nat.mul_le_mul_right _ g
            rw [Nat.add_mul] at this
            omega
    exact key _ (fun _ => 0) (fe_off hD _) (Nat.lt_succ_self _)
  exact Classical.epsilon_spec (p := fun p => IsB D 100 p) ex
/-! both know the best way, and Inv is kept -/
theorem p_known {h : Hh} {σ : Sg} {K : Nat → Sg → Prop} (g : Iv h σ) (hK : ∀ τ : Sg, Iv h τ → DO 16 h τ → (∀ c, 43 ≤ c → τ c = σ c) → K 16 τ) : w_Lc_knownBest σ K := by
  obtain ⟨g1, g2, g3, g4, g5, g6, g7, g8, g9, g10⟩ := g
  unfold w_Lc_knownBest
  refine ⟨fun c => hK σ ⟨g1, g2, g3, g4, g5, g6, g7, g8, g9, g10⟩ (g7 c) (fun _ _ => rfl), fun _ => p_unmix g1 rfl rfl g2 g10.1 (fun τ w1 w2 w3 τ' e => ?_)⟩
  have q : ∀ c, c ≠ 0 ∧ (c < 16 ∨ (18 < c ∧ c < 22) ∨ 27 < c) → τ' c = σ c := fun c p => by rw [e, s2_ne p.1, w1 c (by omega) (by omega) (by omega) (by omega) (by omega) (by omega) (by omega) (by omega) (by omega)]
  have q0 : ∀ j, j ≠ 11 → τ' 0 j = σ 0 j := fun j hj => by rw [e, s2_ai hj, w1 0 (by omega) (by omega) (by omega) (by omega) (by omega) (by omega) (by omega) (by omega) (by omega)]
  have d : DO 16 h τ' := w3.of (by rw [e, s2_ne (by omega)]) (by rw [e, s2_ne (by omega)]) (by rw [e, s2_ne (by omega)])
  refine hK τ' ⟨g1, g2.of (q 1 (by omega)) (q 2 (by omega)) (q 3 (by omega)) (q 4 (by omega)) (q 5 (by omega)), g3.of (by rw [q 43 (by omega)]) (by rw [q 43 (by omega)]) (by rw [q 43 (by omega)]) (q 47 (by omega)) (q 48 (by omega)) (q 49 (by omega)) (q 50 (by omega)), g4.of (fun c h1 h2 => q c (by omega)) (q 44 (by omega)) (q 45 (by omega)) (q 46 (by omega)), ⟨by rw [q0 13 (by omega), q 43 (by omega)]; exact g5.1, by rw [q0 12 (by omega), q 43 (by omega)]; exact g5.2⟩, g6.of (q0 10 (by omega)) (by rw [q 43 (by omega)]) (q 41 (by omega)) (q 42 (by omega)) (q 65 (by omega)) (q 66 (by omega)), fun _ => d, g8.of (by rw [q 43 (by omega)]) (q 62 (by omega)) (q 54 (by omega)), g9.of (q 30 (by omega)) (q 31 (by omega)), ⟨?_, by rw [q 11 (by omega)]; exact g10.2.1, by rw [q 11 (by omega)]; exact g10.2.2⟩⟩ d (fun c hc => q c (by omega))
  obtain ⟨E, Q, u⟩ := w2
  exact ⟨E, Q, u.1, by rw [e, s2_ne (by omega)]; exact u.2.1, by rw [e, s2_ne (by omega)]; exact u.2.2⟩
theorem p_found {h : Hh} {σ : Sg} {K : Sg → Prop} (g : Iv h σ) (hK : ∀ τ : Sg, Iv h τ → MB h τ → ¬ τ 43 17 = 0 → (∀ c, c < 43 → τ c = σ c) → K τ) : w_Md_findBest σ K := by
  obtain ⟨g1, g2, g3, g4, g5, g6, g7, g8, g9, g10⟩ := g
  refine p_findBest g1 g3 g8 (fun τ w1 w2 w3 w4 => ?_)
  have q : ∀ c, c ≠ 43 ∧ (c < 54 ∨ 63 ≤ c) → τ c = σ c := fun c p => w1 c p.1 p.2
  exact hK τ ⟨g1, g2.of (q 1 (by omega)) (q 2 (by omega)) (q 3 (by omega)) (q 4 (by omega)) (q 5 (by omega)), g3.of (w2 5 (by omega)) (w2 9 (by omega)) (w2 11 (by omega)) (q 47 (by omega)) (q 48 (by omega)) (q 49 (by omega)) (q 50 (by omega)), g4.of (fun c h1 h2 => q c (by omega)) (q 44 (by omega)) (q 45 (by omega)) (q 46 (by omega)), ⟨by rw [q 0 (by omega), w2 0 (by omega)]; exact g5.1, by rw [q 0 (by omega), w2 1 (by omega)]; exact g5.2⟩, g6.of (by rw [q 0 (by omega)]) (w2 30 (by omega)) (q 41 (by omega)) (q 42 (by omega)) (q 65 (by omega)) (q 66 (by omega)), g7.of (by rw [q 0 (by omega)]) (q 16 (by omega)) (q 17 (by omega)) (q 18 (by omega)), fun _ => w4, g9.of (q 30 (by omega)) (q 31 (by omega)), g10.of (by rw [q 22 (by omega)]) (by rw [q 22 (by omega)]) (by rw [q 11 (by omega)]) (by rw [q 11 (by omega)])⟩ w4 w3 (fun c hc => q c (by omega))
theorem H_at (σ : Sg) (a1 a2 : Int32) (I : Inv σ) : w_Lc_at a1 a2 σ (fun r0 τ0 => w_Md_at a1 a2 τ0 (fun r1 τ1 => r0 = r1 ∧ Inv τ1)) := by
  obtain ⟨h, g⟩ := I
  have ok := g.1
  have hm4 := g.1.1
  have T20 := ok.2.2.1
  unfold w_Lc_at
  rcases ix a1 (hT h) (by omega) with o | ⟨t, ht', rfl⟩
  · refine ct_out g.2.1.2.1 o (cb0 ?_)
    show w_Md_at a1 a2 σ _
    unfold w_Md_at
    exact mt_out g.2.2.1.2.1 T20 o (cb0 ⟨rfl, h, g⟩)
  · refine ct_in g.2.1.2.1 T20 ht' (cb1 ?_)
    rcases ix a2 (hm h) (by omega) with o | ⟨a, ha, rfl⟩
    · refine ch_out g.2.1.1 o (ca0 ?_)
      show w_Md_at (nI t) a2 σ _
      unfold w_Md_at
      exact mt_in g.2.2.1.2.1 T20 ht' (cb1 (mh_out g.2.2.1.1 hm4 o (ca0 ⟨rfl, h, g⟩)))
    · refine ch_in g.2.1.1 hm4 ha (ca1 (p_known g (fun τ g d _ => ⟨rfl, p_Do_stateOf (by omega) (by omega) ?_⟩)))
      rw [d.1 t a ht' ha]
      show w_Md_at (nI t) (nI a) τ _
      unfold w_Md_at
      refine mt_in g.2.2.1.2.1 T20 ht' (cb1 (mh_in g.2.2.1.1 hm4 ha (ca1 (p_found g (fun τ2 g m _ _ => ⟨n_in (by omega) (by omega), ?_⟩)))))
      rw [nI_c (by omega), (m.1 t ht').1]
      exact p_Md_digit (m.1 t ht').2.1 (by omega) ⟨rfl, h, g⟩
theorem dg_h {h : Hh} (ok : HOk h) {r a : Nat} (hr : vr (Dh h) r) (ha : a < hm h) : dg r a ≤ hl h a := by
  have hm4 := ok.1
  have := hr.2 a (by omega)
  rw [dl_h ha] at this
  exact this
theorem H_rest (σ : Sg) (a1 : Int32) (I : Inv σ) : w_Lc_rest a1 σ (fun r0 τ0 => w_Md_rest a1 τ0 (fun r1 τ1 => r0 = r1 ∧ Inv τ1)) := by
  obtain ⟨h, g⟩ := I
  have ok := g.1
  have hm4 := g.1.1
  have T20 := ok.2.2.1
  unfold w_Lc_rest
  rcases ix a1 (hT h) (by omega) with o | ⟨t, ht', rfl⟩
  · refine ct_out g.2.1.2.1 o (ca0 ?_)
    show w_Md_rest a1 σ _
    unfold w_Md_rest
    exact mt_out g.2.2.1.2.1 T20 o (ca0 ⟨rfl, h, g⟩)
  · refine ct_in g.2.1.2.1 T20 ht' (ca1 (p_known g (fun τ g d _ => ⟨rfl, n_in (by omega) (by omega), fun y ey => ?_⟩)))
    have hB := bst_ok (Dh_ok ok)
    have hvr := fe_vrp (Dh_ok ok) hB.1 t ht'
    rw [nI_c (by omega), g.2.1.2.2.2.2 t ht', g.2.1.2.2.1] at ey
    have key : ∀ n i, i + n = hm h → L_Lc_rest_39 (nI t) 16 (fun r0 τ0 => w_Md_rest (nI t) τ0 (fun r1 τ1 => r0 = r1 ∧ Inv τ1)) (n + 1) (y - nI (pu (Dh h) (bst (Dh h) t) i)) (nI i) τ := by
      intro n
      induction n with
      | zero =>
        intro i hi
        have : i = hm h := by omega
        subst this
        unfold L_Lc_rest_39
        rw [g.2.1.1]
        refine ⟨fun _ => ?_, fun c => absurd ((n_le (by omega) (by omega)).mpr (Nat.le_refl _)) c⟩
        show w_Md_rest (nI t) τ _
        unfold w_Md_rest
        refine mt_in g.2.2.1.2.1 T20 ht' (ca1 (p_found g (fun τ2 g m _ _ => ?_)))
        unfold w_Md_restOf
        rw [nI_c (by omega), (m.1 t ht').1, nI_c (by have := hvr.1; omega), m.2 _ hvr.1, g.2.2.1.2.2.2.2.2 t ht', g.2.2.1.2.2.1]
        exact ⟨n_in (by omega) (by omega), n_in (by omega) (by omega), n_in hvr.1 (by omega), by rw [ey], h, g⟩
      | succ n ih =>
        intro i hi
        unfold L_Lc_rest_39
        rw [g.2.1.1]
        refine ⟨fun c => absurd ((n_le (by omega) (by omega)).mp c) (by omega), fun _ => p_Do_stateOf (by omega) (by omega) ?_⟩
        rw [d.1 t i ht' (by omega)]
        refine p_Ho_powerIn ok g.2.1 (by omega) (dg_h ok hvr (by omega)) (fun z ez => ?_)
        rw [ez, i_ss, nI_add, show (1 : Int32) = nI 1 from rfl, nI_add i 1]
        exact ih (i + 1) (by omega)
    refine ⟨hm h + 1, ?_⟩
    have k0 := key (hm h) 0 (by omega)
    rw [show y - nI (pu (Dh h) (bst (Dh h) t) 0) = y from by show y - nI 0 = y; rw [show nI 0 = (0 : Int32) from rfl]; simp] at k0
    exact k0
