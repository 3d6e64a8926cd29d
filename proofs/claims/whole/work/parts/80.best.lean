theorem p_energyOf {h : Hh} {σ : Sg} {K : Int32 → Sg → Prop} {a : Nat} (g : Iv h σ) (ha : a < hm h) (hK : ∀ τ : Sg, Iv h τ → MB h τ → ¬ τ 43 17 = 0 → (∀ c, c < 43 → τ c = σ c) → K (nI (en (Dh h) (bst (Dh h)) a (hT h))) τ) : w_Md_energyOf (nI a) σ K := by
  have ok := g.1
  have hm4 := g.1.1
  have T20 := ok.2.2.1
  unfold w_Md_energyOf
  refine p_found g (fun τ g m f y => ?_)
  have key : ∀ n i, i + n = hT h → L_Md_energyOf_8 (nI a) K (n + 1) (nI (en (Dh h) (bst (Dh h)) a i)) (nI i) τ := by
    intro n
    induction n with
    | zero =>
      intro i hi
      have : i = hT h := by omega
      subst this
      unfold L_Md_energyOf_8
      rw [g.2.2.1.2.1]
      exact ⟨fun _ => hK τ g m f y, fun c => absurd ((n_le (by omega) (by omega)).mpr (Nat.le_refl _)) c⟩
    | succ n ih =>
      intro i hi
      have hvr := (m.1 i (by omega)).2
      have step : ∀ z : Int32, z = nI (dp (Dh h) a (dg (bst (Dh h) i) a)) → B_Md_energyOf_47 (nI a) K (fun a0 a1 a2 => L_Md_energyOf_8 (nI a) K (n + 1) a0 a1 a2) (nI i) z (nI (en (Dh h) (bst (Dh h)) a i)) τ := fun z ez => by
        unfold B_Md_energyOf_47
        intro w ew
        rw [ew, ez, nI_add, show (1 : Int32) = nI 1 from rfl, nI_add i 1]
        exact ih (i + 1) (by omega)
      unfold L_Md_energyOf_8
      rw [g.2.2.1.2.1, nI_c (by omega), (m.1 i (by omega)).1]
      refine ⟨fun c => absurd ((n_le (by omega) (by omega)).mp c) (by omega), fun _ => ⟨n_in (by omega) (by omega), p_Md_digit hvr.1 (by omega) ?_⟩⟩
      have hd := dg_h ok hvr ha
      have l3 := (ok.2.1 a ha).2.2.1
      refine ⟨fun c => ?_, fun c => step _ ?_⟩
      · have d0 : dg (bst (Dh h) i) a ≠ 0 := fun e => c (by rw [e]; rfl)
        rw [show (1 : Int32) = nI 1 from rfl, n_sub (by omega)]
        refine p_Md_powerOf ok g.2.2.1 ha (by omega) (step _ ?_)
        rw [dp_h ha d0 hd]
      · have d0 : dg (bst (Dh h) i) a = 0 := (n_eq0 (by omega)).mp c
        rw [d0, (Dh_ok ok).2.2.2.2.1]
        rfl
  exact ⟨hT h + 1, key (hT h) 0 (by omega)⟩
theorem H_energy (σ : Sg) (a1 : Int32) (I : Inv σ) : w_Lc_energy a1 σ (fun r0 τ0 => w_Md_energy a1 τ0 (fun r1 τ1 => r0 = r1 ∧ Inv τ1)) := by
  obtain ⟨h, g⟩ := I
  have ok := g.1
  have hm4 := g.1.1
  unfold w_Lc_energy
  rcases ix a1 (hm h) (by omega) with o | ⟨a, ha, rfl⟩
  · refine ch_out g.2.1.1 o (cb0 ?_)
    show w_Md_energy a1 σ _
    unfold w_Md_energy
    exact mh_out g.2.2.1.1 hm4 o (cb0 ⟨rfl, h, g⟩)
  · refine ch_in g.2.1.1 hm4 ha (cb1 (p_known g (fun τ g d _ => ⟨rfl, n_in (by omega) (by omega), ?_⟩)))
    rw [nI_c (by omega), d.2.1 a ha]
    show w_Md_energy (nI a) τ _
    unfold w_Md_energy
    exact mh_in g.2.2.1.1 hm4 ha (cb1 (p_energyOf g ha (fun τ2 g _ _ _ => ⟨rfl, h, g⟩)))
/-! the four numbers -/
theorem p_rests {h : Hh} {σ : Sg} {K : Int32 → Sg → Prop} (g : Iv h σ) (hK : ∀ τ : Sg, Iv h τ → K (nI (re (Dh h) (hT h) (bst (Dh h)))) τ) : w_Md_rests σ K := by
  have ok := g.1
  have hm4 := g.1.1
  have T20 := ok.2.2.1
  have hB := bst_ok (Dh_ok ok)
  unfold w_Md_rests
  refine p_found g (fun τ g m f y => ?_)
  have key : ∀ n i, i + n = hT h → L_Md_rests_8 K (n + 1) (nI (re (Dh h) i (bst (Dh h)))) (nI i) τ := by
    intro n
    induction n with
    | zero =>
      intro i hi
      have : i = hT h := by omega
      subst this
      unfold L_Md_rests_8
      rw [g.2.2.1.2.1]
      exact ⟨fun _ => hK τ g, fun c => absurd ((n_le (by omega) (by omega)).mpr (Nat.le_refl _)) c⟩
    | succ n ih =>
      intro i hi
      have hvr := (m.1 i (by omega)).2
      unfold L_Md_rests_8 w_Md_restOf
      rw [g.2.2.1.2.1, nI_c (by omega), (m.1 i (by omega)).1, nI_c (by have := hvr.1; omega), m.2 _ hvr.1, g.2.2.1.2.2.2.2.2 i (by omega), g.2.2.1.2.2.1]
      refine ⟨fun c => absurd ((n_le (by omega) (by omega)).mp c) (by omega), fun _ => ⟨n_in (by omega) (by omega), n_in (by omega) (by omega), n_in hvr.1 (by omega), fun z ez => ?_⟩⟩
      have f1 := (hB.1 i (show i < hT h by omega)).2
      have e1 : pu (Dh h) (bst (Dh h) i) (hm h) = PP (Dh h) (bst (Dh h) i) := pu_m (Dh_ok ok) hvr
      have e2 := dv_h (h := h) (t := i) (by omega)
      have b1 := ok.2.2.2.2 i (by omega)
      rw [n_sub (by omega), n_sub (by omega), nI_add] at ez
      rw [ez, show (1 : Int32) = nI 1 from rfl, nI_add i 1]
      have e3 : re (Dh h) i (bst (Dh h)) + (hv h i - hb h - pu (Dh h) (bst (Dh h) i) (hm h)) = re (Dh h) (i + 1) (bst (Dh h)) := by
        show _ = re (Dh h) i (bst (Dh h)) + (dv (Dh h) i - PP (Dh h) (bst (Dh h) i))
        rw [e1, e2]
      rw [e3]
      exact ih (i + 1) (by omega)
  exact ⟨hT h + 1, key (hT h) 0 (by omega)⟩
theorem p_changes {h : Hh} {σ : Sg} {K : Int32 → Sg → Prop} {x : Nat} {A : Nat → Nat} {S : Nat → Nat → Nat → Nat} {e : Nat → Nat → Nat → Nat} (x1 : x ≤ 1) (g : Iv h σ) (hS0 : ∀ r q, S r q 0 = 0) (hS : ∀ r q i, S r q (i + 1) = S r q i + e r q i) (he : ∀ r q a, (dg q a = dg r a → e r q a = 0) ∧ (¬ dg q a = dg r a → x = 0 → e r q a = 1) ∧ (¬ dg q a = dg r a → ¬ x = 0 → ¬ dg r a = 0 → e r q a = 0) ∧ (¬ dg q a = dg r a → ¬ x = 0 → dg r a = 0 → e r q a = 1)) (hA0 : A 0 = 0) (hA : ∀ n, n < hT h → A (n + 1) = A n + S (pv (bst (Dh h)) n) (bst (Dh h) n) (hm h)) (hK : ∀ τ : Sg, Iv h τ → K (nI (A (hT h))) τ) : w_Md_changes (nI x) σ K := by
  have ok := g.1
  have hm4 := g.1.1
  have T20 := ok.2.2.1
  unfold w_Md_changes
  refine p_found g (fun τ g m f y => ?_)
  have key : ∀ n t, t + n = hT h → L_Md_changes_8 (nI x) K (n + 1) (nI (A t)) (nI t) τ := by
    intro n
    induction n with
    | zero =>
      intro t hi
      have : t = hT h := by omega
      subst this
      unfold L_Md_changes_8
      rw [g.2.2.1.2.1]
      exact ⟨fun _ => hK τ g, fun c => absurd ((n_le (by omega) (by omega)).mpr (Nat.le_refl _)) c⟩
    | succ n ih =>
      intro t hi
      have hvr := (m.1 t (by omega)).2
      unfold L_Md_changes_8
      rw [g.2.2.1.2.1]
      refine ⟨fun c => absurd ((n_le (by omega) (by omega)).mp c) (by omega), fun _ => ?_⟩
      have inner : ∀ k i, i + k = hm h → L_Md_changes_19 (nI x) (nI t) K (fun a0 a1 a2 => L_Md_changes_8 (nI x) K (n + 1) a0 a1 a2) (k + 1) (nI (A t + S (pv (bst (Dh h)) t) (bst (Dh h) t) i)) (nI i) τ := by
        intro k
        induction k with
        | zero =>
          intro i hi2
          have : i = hm h := by omega
          subst this
          unfold L_Md_changes_19
          rw [g.2.2.1.1]
          refine ⟨fun _ => ?_, fun c => absurd ((n_le (by omega) (by omega)).mpr (Nat.le_refl _)) c⟩
          show L_Md_changes_8 (nI x) K (n + 1) _ (nI t + 1) τ
          rw [← hA t (by omega), show (1 : Int32) = nI 1 from rfl, nI_add t 1]
          exact ih (t + 1) (by omega)
        | succ k ih2 =>
          intro i hi2
          obtain ⟨q1, q2, q3, q4⟩ := he (pv (bst (Dh h)) t) (bst (Dh h) t) i
          have step : ∀ z : Int32, z = nI (e (pv (bst (Dh h)) t) (bst (Dh h) t) i) → B_Md_changes_80 (nI x) K (fun a0 a1 a2 => L_Md_changes_8 (nI x) K (n + 1) a0 a1 a2) (fun a0 a1 a2 => L_Md_changes_19 (nI x) (nI t) K (fun a0 a1 a2 => L_Md_changes_8 (nI x) K (n + 1) a0 a1 a2) (k + 1) a0 a1 a2) (nI t) (nI i) z (nI (A t + S (pv (bst (Dh h)) t) (bst (Dh h) t) i)) τ := fun z ez => by
            unfold B_Md_changes_80
            intro w ew
            have := ih2 (i + 1) (by omega)
            rw [hS] at this
            rw [ew, ez, nI_add, show (1 : Int32) = nI 1 from rfl, nI_add i 1, Nat.add_assoc]
            exact this
          have p0 : e (pv (bst (Dh h)) t) (bst (Dh h) t) i = 0 → B_Md_changes_66 (nI x) K (fun a0 a1 a2 => L_Md_changes_8 (nI x) K (n + 1) a0 a1 a2) (fun a0 a1 a2 => L_Md_changes_19 (nI x) (nI t) K (fun a0 a1 a2 => L_Md_changes_8 (nI x) K (n + 1) a0 a1 a2) (k + 1) a0 a1 a2) (nI (A t + S (pv (bst (Dh h)) t) (bst (Dh h) t) i)) (nI t) (nI i) τ := fun ee => by
            unfold B_Md_changes_66 B_Md_changes_67
            exact cb0 (step _ (by rw [ee]; rfl))
          have p1 : e (pv (bst (Dh h)) t) (bst (Dh h) t) i = 1 → B_Md_changes_62 (nI x) K (fun a0 a1 a2 => L_Md_changes_8 (nI x) K (n + 1) a0 a1 a2) (fun a0 a1 a2 => L_Md_changes_19 (nI x) (nI t) K (fun a0 a1 a2 => L_Md_changes_8 (nI x) K (n + 1) a0 a1 a2) (k + 1) a0 a1 a2) (nI (A t + S (pv (bst (Dh h)) t) (bst (Dh h) t) i)) (nI t) (nI i) τ := fun ee => by
            unfold B_Md_changes_62 B_Md_changes_67
            exact cb1 (step _ (by rw [ee]; rfl))
          have d1 := dg_lt (bst (Dh h) t) i
          have d2 := dg_lt (pv (bst (Dh h)) t) i
          have rest : ∀ (P66 P62 : Prop), (e (pv (bst (Dh h)) t) (bst (Dh h) t) i = 0 → P66) → (e (pv (bst (Dh h)) t) (bst (Dh h) t) i = 1 → P62) → vp_in (nI t) 20 ∧ w_Md_digit (nI (bst (Dh h) t)) (nI i) τ (fun u45 => ((u45 = nI (dg (pv (bst (Dh h)) t) i) → P66) ∧ (¬ u45 = nI (dg (pv (bst (Dh h)) t) i) → ((nI x = 0 → P62) ∧ (¬ nI x = 0 → ((¬ nI (dg (pv (bst (Dh h)) t) i) = 0 → P66) ∧ (nI (dg (pv (bst (Dh h)) t) i) = 0 → P62))))))) := fun P66 P62 p0 p1 => by
            refine ⟨n_in (by omega) (by omega), p_Md_digit hvr.1 (by omega) ⟨fun c => p0 (q1 ((n_eq (by omega) (by omega)).mp c)), fun c => ?_⟩⟩
            have c' : ¬ dg (bst (Dh h) t) i = dg (pv (bst (Dh h)) t) i := fun e => c (by rw [e])
            exact ⟨fun cx => p1 (q2 c' ((n_eq0 (by omega)).mp cx)), fun cx => ⟨fun c0 => p0 (q3 c' (fun e => cx (by rw [e]; rfl)) (fun e => c0 (by rw [e]; rfl))), fun c0 => p1 (q4 c' (fun e => cx (by rw [e]; rfl)) ((n_eq0 (by omega)).mp c0))⟩⟩
          unfold L_Md_changes_19
          rw [g.2.2.1.1, nI_c (by omega), (m.1 t (by omega)).1]
          refine ⟨fun c => absurd ((n_le (by omega) (by omega)).mp c) (by omega), fun _ => ?_⟩
          unfold w_Md_ahead
          refine ⟨fun ct => ?_, fun ct => ?_⟩
          · have t0 : t ≠ 0 := fun e => ct (by rw [e]; rfl)
            rw [show (1 : Int32) = nI 1 from rfl, n_sub (by omega), nI_c (by omega), (m.1 (t - 1) (by omega)).1]
            have e1 : pv (bst (Dh h)) t = bst (Dh h) (t - 1) := by
              match t, t0 with
              | s + 1, _ => rfl
            refine ⟨n_in (by omega) (by omega), p_Md_digit (m.1 (t - 1) (by omega)).2.1 (by omega) ?_⟩
            rw [← e1]
            exact rest _ _ p0 p1
          · have t0 : t = 0 := (n_eq0 (by omega)).mp ct
            have e1 : nI (dg (pv (bst (Dh h)) t) i) = 0 := by
              subst t0
              show nI (dg 0 i) = 0
              have i4 : i < 4 := by omega
              match i, i4 with
              | 0, _ => rfl
              | 1, _ => rfl
              | 2, _ => rfl
              | 3, _ => rfl
              | j + 4, q => exact absurd q (by omega)
            rw [e1] at rest
            exact rest _ _ p0 p1
      have i0 := inner (hm h) 0 (by omega)
      rw [hS0, Nat.add_zero] at i0
      exact ⟨hm h + 1, i0⟩
  have k0 := key (hT h) 0 (by omega)
  rw [hA0] at k0
  exact ⟨hT h + 1, k0⟩
def sen (D : Dt) (p : Nat → Nat) (n : Nat) : Nat → Nat
  | 0 => 0
  | i + 1 => sen D p n i + en D p i n
theorem sen_step {D : Dt} {p : Nat → Nat} {n : Nat} : ∀ i, sen D p (n + 1) i = sen D p n i + pu D (p n) i
  | 0 => rfl
  | i + 1 => by
    simp only [sen, en, pu]
    rw [sen_step i]
    omega
theorem sen_0 {D : Dt} {p : Nat → Nat} : ∀ i, sen D p 0 i = 0
  | 0 => rfl
  | i + 1 => by
    simp only [sen, en]
    rw [sen_0 i]
theorem sen_pe {D : Dt} (hD : DOk D) {p : Nat → Nat} : ∀ n, (∀ t, t < n → vr D (p t)) → sen D p n (dm D) = pe D p n
  | 0, _ => sen_0 _
  | n + 1, h => by
    rw [sen_step, sen_pe hD n (fun t ht' => h t (by omega)), pu_m hD (h n (by omega))]
    rfl
theorem p_energies {h : Hh} {σ : Sg} {K : Int32 → Sg → Prop} (g : Iv h σ) (hK : ∀ τ : Sg, Iv h τ → (∀ c, c < 43 → τ c = σ c) → K (nI (pe (Dh h) (bst (Dh h)) (hT h))) τ) : w_Md_energies σ K := by
  have ok := g.1
  have hm4 := g.1.1
  have hB := bst_ok (Dh_ok ok)
  have key : ∀ n i (τ : Sg), i + n = hm h → Iv h τ → (∀ c, c < 43 → τ c = σ c) → L_Md_energies_4 K (n + 1) (nI (sen (Dh h) (bst (Dh h)) (hT h) i)) (nI i) τ := by
    intro n
    induction n with
    | zero =>
      intro i τ hi g f
      have : i = hm h := by omega
      subst this
      unfold L_Md_energies_4
      rw [g.2.2.1.1]
      refine ⟨fun _ => ?_, fun c => absurd ((n_le (by omega) (by omega)).mpr (Nat.le_refl _)) c⟩
      have e : sen (Dh h) (bst (Dh h)) (hT h) (hm h) = pe (Dh h) (bst (Dh h)) (hT h) := sen_pe (Dh_ok ok) (hT h) (fun t ht' => fe_vrp (Dh_ok ok) hB.1 t ht')
      rw [e]
      exact hK τ g f
    | succ n ih =>
      intro i τ hi g f
      unfold L_Md_energies_4
      rw [g.2.2.1.1]
      refine ⟨fun c => absurd ((n_le (by omega) (by omega)).mp c) (by omega), fun _ => p_energyOf g (by omega) (fun τ2 g2 _ _ f2 z ez => ?_)⟩
      rw [ez, nI_add, show (1 : Int32) = nI 1 from rfl, nI_add i 1]
      exact ih (i + 1) τ2 (by omega) g2 (fun c hc => by rw [f2 c hc, f c hc])
  unfold w_Md_energies
  exact ⟨hm h + 1, key (hm h) 0 σ (by omega) g (fun _ _ => rfl)⟩
theorem H_best (σ : Sg) (a1 : Int32) (I : Inv σ) : w_Lc_best a1 σ (fun r0 τ0 => w_Md_best a1 τ0 (fun r1 τ1 => r0 = r1 ∧ Inv τ1)) := by
  obtain ⟨h, g⟩ := I
  have ok := g.1
  have hm4 := g.1.1
  have hD := Dh_ok ok
  have hB := bst_ok hD
  have out : (a1 < 0 ∨ 3 < a1) → w_Md_best a1 σ (fun r1 τ1 => (-2 : Int32) = r1 ∧ Inv τ1) := fun c => by
    unfold w_Md_best
    exact wi_out (l := 0) (u := 3) rfl rfl c (ca0 ⟨rfl, h, g⟩)
  unfold w_Lc_best
  refine ⟨fun c => out (Or.inl c), fun c => ⟨fun c2 => ?_, fun c2 => out (Or.inr (by rw [le_toInt] at c2; rw [lt_toInt]; omega))⟩⟩
  have lo : (0 : Int32) ≤ a1 := by rw [le_toInt]; rw [lt_toInt] at c; omega
  unfold w_Lc_hasHouse
  rw [g.2.1.1]
  refine ⟨fun c3 => ca0 ?_, fun c3 => ca1 ?_⟩
  · have m0 := (n_le0 (by omega)).mp c3
    show w_Md_best a1 σ _
    unfold w_Md_best
    rw [g.2.2.1.1, m0]
    exact wi_in (l := 0) (u := 3) rfl rfl lo c2 (ca1 ⟨fun c => absurd rfl c, fun _ => ⟨rfl, h, g⟩⟩)
  · have m0 : ¬ hm h = 0 := fun e => c3 ((n_le0 (by omega)).mpr e)
    have m0' : ¬ nI (hm h) = 0 := fun e => m0 ((n_eq0 (by omega)).mp e)
    refine p_known g (fun τ g d _ => ⟨rfl, ?_⟩)
    have fin : ∀ z : Int32, ((a1 = 0 → z = nI (re (Dh h) (hT h) (bst (Dh h)))) ∧ (a1 = 1 → z = nI (cg (hT h) (bst (Dh h)))) ∧ (a1 = 2 → z = nI (sgn (bst (Dh h)) (hT h))) ∧ (¬ a1 = 0 → ¬ a1 = 1 → ¬ a1 = 2 → z = nI (pe (Dh h) (bst (Dh h)) (hT h)))) → w_Md_best a1 τ (fun r1 τ1 => z = r1 ∧ Inv τ1) := fun z hz => by
      unfold w_Md_best
      rw [g.2.2.1.1]
      refine wi_in (l := 0) (u := 3) rfl rfl lo c2 (ca1 ⟨fun _ => ⟨fun e => p_rests g (fun τ2 g2 => ⟨hz.1 e, h, g2⟩), fun e => ?_, fun e => ?_, fun e0 e1 e2 => p_energies g (fun τ2 g2 _ => ⟨hz.2.2.2 e0 e1 e2, h, g2⟩)⟩, fun c => absurd c m0'⟩)
      · refine p_changes (x := 0) (A := fun n => cg n (bst (Dh h))) (S := cu) (e := c1) (by omega) g (fun _ _ => rfl) (fun _ _ _ => rfl) (fun r q a => ⟨fun e => ?_, fun e _ => ?_, fun _ e => absurd rfl e, fun _ e => absurd rfl e⟩) rfl (fun n hn => ?_) (fun τ2 g2 => ⟨hz.2.1 e, h, g2⟩)
        · unfold c1; rw [if_pos e.symm]
        · unfold c1; rw [if_neg (fun q => e q.symm)]
        · have := cu_m hD (fe_vr hD hB.1 n (Nat.le_of_lt hn)) (fe_vrp hD hB.1 n hn)
          show cg n (bst (Dh h)) + ch (pv (bst (Dh h)) n) (bst (Dh h) n) = _
          rw [← this]
          rfl
      · refine p_changes (x := 1) (A := fun n => sgn (bst (Dh h)) n) (S := su) (e := su1) (by omega) g (fun _ _ => rfl) (fun _ _ _ => rfl) (fun r q a => ⟨fun e => ?_, fun _ e => absurd e (by omega), fun _ _ e => ?_, fun e _ e0 => ?_⟩) rfl (fun n hn => ?_) (fun τ2 g2 => ⟨hz.2.2.1 e, h, g2⟩)
        · unfold su1; rw [if_neg (fun q => q.2 (by rw [e]; exact q.1))]
        · unfold su1; rw [if_neg (fun q => e q.1)]
        · unfold su1; rw [if_pos ⟨e0, fun q => e (by rw [q, e0])⟩]
        · have := su_m hD (fe_vr hD hB.1 n (Nat.le_of_lt hn)) (fe_vrp hD hB.1 n hn)
          show sgn (bst (Dh h)) n + s4 (pv (bst (Dh h)) n) (bst (Dh h) n) = _
          rw [← this]
          rfl
    unfold w_Do_numberOf
    refine ⟨fun e => fin _ ⟨fun _ => d.2.2.2.1, ?_, ?_, ?_⟩, fun e => fin _ ⟨?_, fun _ => d.2.2.2.2.1, ?_, ?_⟩, fun e => fin _ ⟨?_, ?_, fun _ => d.2.2.2.2.2, ?_⟩, fun e0 e1 e2 => fin _ ⟨fun e => absurd e e0, fun e => absurd e e1, fun e => absurd e e2, fun _ _ _ => d.2.2.1⟩⟩
    · intro q; rw [e] at q; exact absurd q (by decide)
    · intro q; rw [e] at q; exact absurd q (by decide)
    · intro q; exact absurd e q
    · intro q; rw [e] at q; exact absurd q (by decide)
    · intro q; rw [e] at q; exact absurd q (by decide)
    · intro _ q; exact absurd e q
    · intro q; rw [e] at q; exact absurd q (by decide)
    · intro q; rw [e] at q; exact absurd q (by decide)
    · intro _ _ q; exact absurd e q
