def SR (σ τ : Sg) : Prop := (∀ c, 43 ≤ c → τ c = σ c) ∧ τ 41 = σ 41 ∧ τ 42 = σ 42 ∧ τ 0 = σ 0
theorem p_hold {h : Hh} {a g n : Nat} {σ : Sg} {K : Int32 → Sg → Prop} (iv : Iv h σ) (ha : a < hm h) (g12 : g < 12) (n8 : n ≤ 8) (r1 : σ 0 10 = nI n) (r3 : ∀ r, r < n → ∃ b v : Nat, b < hm h ∧ v ≤ 2000 ∧ σ 41 r = nI b ∧ σ 42 r = nI v) (hS : ∀ τ, Iv h τ → SR σ τ → hold h a g σ n → K 1 τ) (hN : ∀ τ, Iv h τ → SR σ τ → ¬ hold h a g σ n → K 0 τ) : w_Lc_readingsHold (nI a) (nI g) σ K := by
  have ok := iv.1
  have hm4 := ok.1
  have T20 := ok.2.2.1
  have okg := gh_ok ok ha g12
  have loop : ∀ τ, Iv h τ → SR σ τ → τ 30 (12 * a + g) = 1 → B_Lc_readingsHold_40 (nI a) (nI g) K τ := fun τ iv' s k => by
    have gu := iv'.2.2.2.2.2.2.2.2.1.2 a g ha g12 k
    have key : ∀ m i, i + m = n → (∀ r, r < i → en (Dh (gh h a g)) (bst (Dh (gh h a g))) (σ 41 r).toNatClampNeg (hT h) = (σ 42 r).toNatClampNeg) → L_Lc_readingsHold_42 (nI a) (nI g) K (m + 1) (nI i) τ := by
      intro m
      induction m with
      | zero =>
        intro i hi hh
        have : i = n := by omega
        subst this
        unfold L_Lc_readingsHold_42
        rw [s.2.2.2, r1]
        exact ⟨fun _ => hS τ iv' s hh, fun q => absurd ((n_le (by omega) (by omega)).mpr (Nat.le_refl _)) q⟩
      | succ m ih =>
        intro i hi hh
        obtain ⟨b, v, hb2, v2, e41, e42⟩ := r3 i (by omega)
        have el : en (Dh (gh h a g)) (bst (Dh (gh h a g))) b (hT h) ≤ 18 * hT h := en_le (Dh_ok okg) _ _ _
        unfold L_Lc_readingsHold_42 w_Gu_energyOf
        rw [s.2.2.2, r1, nI_c (by omega), s.2.1, s.2.2.1, e41, e42, show (12 : Int32) = nI 12 from rfl, show (4 : Int32) = nI 4 from rfl, pk_mul a 12, nI_add (a * 12) g, pk_mul (a * 12 + g) 4, nI_add ((a * 12 + g) * 4) b, nI_c (by omega), show (a * 12 + g) * 4 + b = 4 * (12 * a + g) + b by omega, gu b hb2]
        refine ⟨fun q => absurd ((n_le (by omega) (by omega)).mp q) (by omega), fun _ => ⟨n_in (by omega) (by omega), n_in (by omega) (by omega), n_in (by omega) (by omega), fun q => ?_, fun q => hN τ iv' s (fun hh' => q ?_)⟩⟩
        · have q := (n_eq (by omega) (by omega)).mp q
          rw [show (1 : Int32) = nI 1 from rfl, nI_add i 1]
          refine ih (i + 1) (by omega) (fun r hr => ?_)
          by_cases e : r = i
          · subst e
            rw [e41, e42, nI_c (by omega), nI_c (by omega)]
            exact q
          · exact hh r (by omega)
        · have q2 := hh' i (by omega)
          rw [e41, e42, nI_c (by omega), nI_c (by omega)] at q2
          rw [q2]
    unfold B_Lc_readingsHold_40
    exact ⟨n + 1, key n 0 (by omega) (fun r hr => absurd hr (by omega))⟩
  have s0 : SR σ σ := ⟨fun _ _ => rfl, rfl, rfl, rfl⟩
  unfold w_Lc_readingsHold
  rw [r1]
  refine ⟨fun q => ?_, fun q => hS σ iv s0 (fun r hr => absurd hr (by have := (n_eq0 (by omega)).mp q; omega))⟩
  unfold w_Gu_isKnown
  rw [show (12 : Int32) = nI 12 from rfl, pk_mul, nI_add, nI_c (by omega), show a * 12 + g = 12 * a + g by omega]
  have k01 := iv.2.2.2.2.2.2.2.2.1.1 (12 * a + g) (by omega)
  refine ⟨n_in (by omega) (by omega), k01.elim (fun e => by rw [e]; exact bz0) (fun e => by rw [e]; exact bz1), fun c => loop σ iv s0 (k01.resolve_left c), fun c => ?_⟩
  refine p_unmixGuess iv ha g12 (fun τ w1 w2 w3 => ?_)
  unfold w_Gu_keep
  intro y ey
  rw [show (12 : Int32) = nI 12 from rfl, pk_mul, nI_add, show a * 12 + g = 12 * a + g by omega] at ey
  subst ey
  rw [nI_c (by omega), show (4 : Int32) = nI 4 from rfl, pk_mul, show (0 : Int32) = nI 0 from rfl, nI_c (by omega), nI_c (by omega), nI_c (by omega)]
  refine ⟨n_in (by omega) (by omega), fun t1 q1 => ⟨cpk_nI (by omega) (by omega) (by omega) (by omega), fun t2 q2 => ?_⟩⟩
  have x : ∀ c, c ≠ 6 ∧ c ≠ 7 ∧ c ≠ 8 ∧ c ≠ 9 ∧ c ≠ 10 ∧ c ≠ 19 ∧ c ≠ 20 ∧ c ≠ 21 ∧ (c < 22 ∨ 27 < c) ∧ c ≠ 30 ∧ c ≠ 31 → t2 c = σ c := fun c p => by rw [q2, s1_ne (by omega), q1, s2_ne (by omega), w1 c (by omega) (by omega) (by omega) (by omega) (by omega) (by omega) (by omega) (by omega) (by omega)]
  have x30 : t2 30 = upd (σ 30) (12 * a + g) 1 := by rw [q2, s1_ne (by omega), q1, s2_eq, w1 30 (by omega) (by omega) (by omega) (by omega) (by omega) (by omega) (by omega) (by omega) (by omega)]
  have x31 : t2 31 = va_cpy (τ 21) (σ 31) 0 ((12 * a + g) * 4) 4 := by rw [q2, s1_eq, q1, s2_ne (by omega), s2_ne (by omega), w1 31 (by omega) (by omega) (by omega) (by omega) (by omega) (by omega) (by omega) (by omega) (by omega)]
  obtain ⟨g1, g2, g3, g4, g5, g6, g7, g8, g9, g10⟩ := iv
  refine loop t2 ⟨g1, g2.of (x 1 (by omega)) (x 2 (by omega)) (x 3 (by omega)) (x 4 (by omega)) (x 5 (by omega)), g3.of (by rw [x 43 (by omega)]) (by rw [x 43 (by omega)]) (by rw [x 43 (by omega)]) (x 47 (by omega)) (x 48 (by omega)) (x 49 (by omega)) (x 50 (by omega)), g4.of (fun c h1 h2 => x c (by omega)) (x 44 (by omega)) (x 45 (by omega)) (x 46 (by omega)), ⟨by rw [x 0 (by omega), x 43 (by omega)]; exact g5.1, by rw [x 0 (by omega), x 43 (by omega)]; exact g5.2⟩, g6.of (by rw [x 0 (by omega)]) (by rw [x 43 (by omega)]) (x 41 (by omega)) (x 42 (by omega)) (x 65 (by omega)) (x 66 (by omega)), g7.of (by rw [x 0 (by omega)]) (x 16 (by omega)) (x 17 (by omega)) (x 18 (by omega)), g8.of (by rw [x 43 (by omega)]) (x 62 (by omega)) (x 54 (by omega)), ⟨fun j hj => ?_, fun b k hb2 k12 e b2 hb3 => ?_⟩, ⟨?_, by rw [x 11 (by omega)]; exact g10.2.1, by rw [x 11 (by omega)]; exact g10.2.2⟩⟩ ⟨fun c hc => x c (by omega), x 41 (by omega), x 42 (by omega), x 0 (by omega)⟩ (by rw [x30, pk_us])
  · rw [x30]
    by_cases e : j = 12 * a + g
    · rw [e, pk_us]; exact Or.inr rfl
    · rw [pk_un e]; exact g9.1 j hj
  · by_cases eq : 12 * b + k = 12 * a + g
    · have e1 : b = a := by omega
      have e2 : k = g := by omega
      subst e1
      subst e2
      rw [x31, pk_cpy_in (by omega) (by omega), show 0 + (4 * (12 * b + k) + b2 - (12 * b + k) * 4) = b2 by omega]
      exact w3.2.1 b2 hb3
    · rw [x30, pk_un eq] at e
      rw [x31, pk_cpy_out (by omega)]
      exact g9.2 b k hb2 k12 e b2 hb3
  · obtain ⟨E, Q, u⟩ := w2
    exact ⟨E, Q, u.1, by rw [q2, s1_ne (by omega), q1, s2_ne (by omega)]; exact u.2.1, by rw [q2, s1_ne (by omega), q1, s2_ne (by omega)]; exact u.2.2⟩
