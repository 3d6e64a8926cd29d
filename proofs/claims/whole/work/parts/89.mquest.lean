/-! ===== the reference's questions, without the class ===== -/
def IM (h : Hh) (σ : Sg) : Prop := HOk h ∧ RM' h σ ∧ ICm h σ
def FF (σ τ : Sg) : Prop := (∀ d, d ≠ 43 → d < 54 ∨ 63 ≤ d → τ d = σ d) ∧ ∀ j, j ≠ 17 → τ 43 j = σ 43 j
theorem FF.rfl' {σ : Sg} : FF σ σ := ⟨fun _ _ _ => rfl, fun _ _ => rfl⟩
theorem FF.trans {σ τ υ : Sg} (f : FF σ τ) (g : FF τ υ) : FF σ υ := ⟨fun d h1 h2 => by rw [g.1 d h1 h2, f.1 d h1 h2], fun j hj => by rw [g.2 j hj, f.2 j hj]⟩
theorem q_found {h : Hh} {σ : Sg} {K : Sg → Prop} (g : IM h σ) (hK : ∀ τ : Sg, IM h τ → MB h τ → ¬ τ 43 17 = 0 → FF σ τ → K τ) : w_Md_findBest σ K := by
  obtain ⟨g1, g3, g8⟩ := g
  refine p_findBest g1 g3 g8 (fun τ w1 w2 w3 w4 => ?_)
  exact hK τ ⟨g1, g3.of (w2 5 (by omega)) (w2 9 (by omega)) (w2 11 (by omega)) (w1 47 (by omega) (by omega)) (w1 48 (by omega) (by omega)) (w1 49 (by omega) (by omega)) (w1 50 (by omega) (by omega)), fun _ => w4⟩ w4 w3 ⟨w1, w2⟩
theorem q_energyOf {h : Hh} {σ : Sg} {K : Int32 → Sg → Prop} {a : Nat} (g : IM h σ) (ha : a < hm h) (hK : ∀ τ : Sg, IM h τ → MB h τ → ¬ τ 43 17 = 0 → FF σ τ → K (nI (en (Dh h) (bst (Dh h)) a (hT h))) τ) : w_Md_energyOf (nI a) σ K := by
  have ok := g.1
  have hm4 := g.1.1
  have T20 := ok.2.2.1
  unfold w_Md_energyOf
  refine q_found g (fun τ g m f y => ?_)
  have key : ∀ n i, i + n = hT h → L_Md_energyOf_8 (nI a) K (n + 1) (nI (en (Dh h) (bst (Dh h)) a i)) (nI i) τ := by
    intro n
    induction n with
    | zero =>
      intro i hi
      have : i = hT h := by omega
      subst this
      unfold L_Md_energyOf_8
      rw [g.2.1.2.1]
      exact ⟨fun _ => hK τ g m f y, fun c => absurd ((n_le (by omega) (by omega)).mpr (Nat.le_refl _)) c⟩
    | succ n ih =>
      intro i hi
      have hvr := (m.1 i (by omega)).2
      have step : ∀ z : Int32, z = nI (dp (Dh h) a (dg (bst (Dh h) i) a)) → B_Md_energyOf_47 (nI a) K (fun a0 a1 a2 => L_Md_energyOf_8 (nI a) K (n + 1) a0 a1 a2) (nI i) z (nI (en (Dh h) (bst (Dh h)) a i)) τ := fun z ez => by
        unfold B_Md_energyOf_47
        intro w ew
        rw [ew, ez, nI_add, show (1 : Int32) = nI 1 from rfl, nI_add i 1]
        exact ih (i + 1) (by omega)
      unfold L_Md_energyOf_8
      rw [g.2.1.2.1, nI_c (by omega), (m.1 i (by omega)).1]
      refine ⟨fun c => absurd ((n_le (by omega) (by omega)).mp c) (by omega), fun _ => ⟨n_in (by omega) (by omega), p_Md_digit hvr.1 (by omega) ?_⟩⟩
      have hd := dg_h ok hvr ha
      have l3 := (ok.2.1 a ha).2.2.1
      refine ⟨fun c => ?_, fun c => step _ ?_⟩
      · have d0 : dg (bst (Dh h) i) a ≠ 0 := fun e => c (by rw [e]; rfl)
        rw [show (1 : Int32) = nI 1 from rfl, n_sub (by omega)]
        refine p_Md_powerOf ok g.2.1 ha (by omega) (step _ ?_)
        rw [dp_h ha d0 hd]
      · have d0 : dg (bst (Dh h) i) a = 0 := (n_eq0 (by omega)).mp c
        rw [d0, (Dh_ok ok).2.2.2.2.1]
        rfl
  exact ⟨hT h + 1, key (hT h) 0 (by omega)⟩
theorem q_rests {h : Hh} {σ : Sg} {K : Int32 → Sg → Prop} (g : IM h σ) (hK : ∀ τ : Sg, IM h τ → FF σ τ → K (nI (re (Dh h) (hT h) (bst (Dh h)))) τ) : w_Md_rests σ K := by
  have ok := g.1
  have hm4 := g.1.1
  have T20 := ok.2.2.1
  have hB := bst_ok (Dh_ok ok)
  unfold w_Md_rests
  refine q_found g (fun τ g m f y => ?_)
  have key : ∀ n i, i + n = hT h → L_Md_rests_8 K (n + 1) (nI (re (Dh h) i (bst (Dh h)))) (nI i) τ := by
    intro n
    induction n with
    | zero =>
      intro i hi
      have : i = hT h := by omega
      subst this
      unfold L_Md_rests_8
      rw [g.2.1.2.1]
      exact ⟨fun _ => hK τ g y, fun c => absurd ((n_le (by omega) (by omega)).mpr (Nat.le_refl _)) c⟩
    | succ n ih =>
      intro i hi
      have hvr := (m.1 i (by omega)).2
      unfold L_Md_rests_8 w_Md_restOf
      rw [g.2.1.2.1, nI_c (by omega), (m.1 i (by omega)).1, nI_c (by have := hvr.1; omega), m.2 _ hvr.1, g.2.1.2.2.2.2.2 i (by omega), g.2.1.2.2.1]
      refine ⟨fun c => absurd ((n_le (by omega) (by omega)).mp c) (by omega), fun _ => ⟨n_in (by omega) (by omega), n_in (by omega) (by omega), n_in hvr.1 (by omega), fun z ez => ?_⟩⟩
      have f1 := (hB.1 i (show i < hT h by omega)).2
      have e1 : pu (Dh h) (bst (Dh h) i) (hm h) = PP (Dh h) (bst (Dh h) i) := pu_m (Dh_ok ok) hvr
      have e2 := dv_h (h := h) (t := i) (by omega)
      have b1 := ok.2.2.2.2 i (by omega)
      rw [n_sub (by omega), n_sub (by omega), nI_add] at ez
      rw [ez, show (1 : Int32) = nI 1 from rfl, nI_add i 1]
      have e3 : re (Dh h) i (bst (Dh h)) + (hv h i - hb h - pu (Dh h) (bst (Dh h) i) (hm h)) = re (Dh h) (i + 1) (bst (Dh h)) := by
        show _ = re (Dh h) i (bst (Dh h)) + (dv (Dh h) i - PP (Dh h) (bst (Dh h) i))
        rw [e1, e2]
      rw [e3]
      exact ih (i + 1) (by omega)
  exact ⟨hT h + 1, key (hT h) 0 (by omega)⟩
theorem q_changes {h : Hh} {σ : Sg} {K : Int32 → Sg → Prop} {x : Nat} {A : Nat → Nat} {S : Nat → Nat → Nat → Nat} {e : Nat → Nat → Nat → Nat} (x1 : x ≤ 1) (g : IM h σ) (hS0 : ∀ r q, S r q 0 = 0) (hS : ∀ r q i, S r q (i + 1) = S r q i + e r q i) (he : ∀ r q a, (dg q a = dg r a → e r q a = 0) ∧ (¬ dg q a = dg r a → x = 0 → e r q a = 1) ∧ (¬ dg q a = dg r a → ¬ x = 0 → ¬ dg r a = 0 → e r q a = 0) ∧ (¬ dg q a = dg r a → ¬ x = 0 → dg r a = 0 → e r q a = 1)) (hA0 : A 0 = 0) (hA : ∀ n, n < hT h → A (n + 1) = A n + S (pv (bst (Dh h)) n) (bst (Dh h) n) (hm h)) (hK : ∀ τ : Sg, IM h τ → FF σ τ → K (nI (A (hT h))) τ) : w_Md_changes (nI x) σ K := by
  have ok := g.1
  have hm4 := g.1.1
  have T20 := ok.2.2.1
  unfold w_Md_changes
  refine q_found g (fun τ g m f y => ?_)
  have key : ∀ n t, t + n = hT h → L_Md_changes_8 (nI x) K (n + 1) (nI (A t)) (nI t) τ := by
    intro n
    induction n with
    | zero =>
      intro t hi
      have : t = hT h := by omega
      subst this
      unfold L_Md_changes_8
      rw [g.2.1.2.1]
      exact ⟨fun _ => hK τ g y, fun c => absurd ((n_le (by omega) (by omega)).mpr (Nat.le_refl _)) c⟩
    | succ n ih =>
      intro t hi
      have hvr := (m.1 t (by omega)).2
      unfold L_Md_changes_8
      rw [g.2.1.2.1]
      refine ⟨fun c => absurd ((n_le (by omega) (by omega)).mp c) (by omega), fun _ => ?_⟩
      have inner : ∀ k i, i + k = hm h → L_Md_changes_19 (nI x) (nI t) K (fun a0 a1 a2 => L_Md_changes_8 (nI x) K (n + 1) a0 a1 a2) (k + 1) (nI (A t + S (pv (bst (Dh h)) t) (bst (Dh h) t) i)) (nI i) τ := by
        intro k
        induction k with
        | zero =>
          intro i hi2
          have : i = hm h := by omega
          subst this
          unfold L_Md_changes_19
          rw [g.2.1.1]
          refine ⟨fun _ => ?_, fun c => absurd ((n_le (by omega) (by omega)).mpr (Nat.le_refl _)) c⟩
          show L_Md_changes_8 (nI x) K (n + 1) _ (nI t + 1) τ
          rw [← hA t (by omega), show (1 : Int32) = nI 1 from rfl, nI_add t 1]
          exact ih (t + 1) (by omega)
        | succ k ih2 =>
          intro i hi2
          obtain ⟨q1, q2, q3, q4⟩ := he (pv (bst (Dh h)) t) (bst (Dh h) t) i
          have step : ∀ z : Int32, z = nI (e (pv (bst (Dh h)) t) (bst (Dh h) t) i) → B_Md_changes_80 (nI x) K (fun a0 a1 a2 => L_Md_changes_8 (nI x) K (n + 1) a0 a1 a2) (fun a0 a1 a2 => L_Md_changes_19 (nI x) (nI t) K (fun a0 a1 a2 => L_Md_changes_8 (nI x) K (n + 1) a0 a1 a2) (k + 1) a0 a1 a2) (nI t) (nI i) z (nI (A t + S (pv (bst (Dh h)) t) (bst (Dh h) t) i)) τ := fun z ez => by
            unfold B_Md_changes_80
            intro w ew
            have := ih2 (i + 1) (by omega)
            rw [hS] at this
            rw [ew, ez, nI_add, show (1 : Int32) = nI 1 from rfl, nI_add i 1, Nat.add_assoc]
            exact this
          have p0 : e (pv (bst (Dh h)) t) (bst (Dh h) t) i = 0 → B_Md_changes_66 (nI x) K (fun a0 a1 a2 => L_Md_changes_8 (nI x) K (n + 1) a0 a1 a2) (fun a0 a1 a2 => L_Md_changes_19 (nI x) (nI t) K (fun a0 a1 a2 => L_Md_changes_8 (nI x) K (n + 1) a0 a1 a2) (k + 1) a0 a1 a2) (nI (A t + S (pv (bst (Dh h)) t) (bst (Dh h) t) i)) (nI t) (nI i) τ := fun ee => by
            unfold B_Md_changes_66 B_Md_changes_67
            exact cb0 (step _ (by rw [ee]; rfl))
          have p1 : e (pv (bst (Dh h)) t) (bst (Dh h) t) i = 1 → B_Md_changes_62 (nI x) K (fun a0 a1 a2 => L_Md_changes_8 (nI x) K (n + 1) a0 a1 a2) (fun a0 a1 a2 => L_Md_changes_19 (nI x) (nI t) K (fun a0 a1 a2 => L_Md_changes_8 (nI x) K (n + 1) a0 a1 a2) (k + 1) a0 a1 a2) (nI (A t + S (pv (bst (Dh h)) t) (bst (Dh h) t) i)) (nI t) (nI i) τ := fun ee => by
            unfold B_Md_changes_62 B_Md_changes_67
            exact cb1 (step _ (by rw [ee]; rfl))
          have d1 := dg_lt (bst (Dh h) t) i
          have d2 := dg_lt (pv (bst (Dh h)) t) i
          have rest : ∀ (P66 P62 : Prop), (e (pv (bst (Dh h)) t) (bst (Dh h) t) i = 0 → P66) → (e (pv (bst (Dh h)) t) (bst (Dh h) t) i = 1 → P62) → vp_in (nI t) 20 ∧ w_Md_digit (nI (bst (Dh h) t)) (nI i) τ (fun u45 => ((u45 = nI (dg (pv (bst (Dh h)) t) i) → P66) ∧ (¬ u45 = nI (dg (pv (bst (Dh h)) t) i) → ((nI x = 0 → P62) ∧ (¬ nI x = 0 → ((¬ nI (dg (pv (bst (Dh h)) t) i) = 0 → P66) ∧ (nI (dg (pv (bst (Dh h)) t) i) = 0 → P62))))))) := fun P66 P62 p0 p1 => by
            refine ⟨n_in (by omega) (by omega), p_Md_digit hvr.1 (by omega) ⟨fun c => p0 (q1 ((n_eq (by omega) (by omega)).mp c)), fun c => ?_⟩⟩
            have c' : ¬ dg (bst (Dh h) t) i = dg (pv (bst (Dh h)) t) i := fun e => c (by rw [e])
            exact ⟨fun cx => p1 (q2 c' ((n_eq0 (by omega)).mp cx)), fun cx => ⟨fun c0 => p0 (q3 c' (fun e => cx (by rw [e]; rfl)) (fun e => c0 (by rw [e]; rfl))), fun c0 => p1 (q4 c' (fun e => cx (by rw [e]; rfl)) ((n_eq0 (by omega)).mp c0))⟩⟩
          unfold L_Md_changes_19
          rw [g.2.1.1, nI_c (by omega), (m.1 t (by omega)).1]
          refine ⟨fun c => absurd ((n_le (by omega) (by omega)).mp c) (by omega), fun _ => ?_⟩
          unfold w_Md_ahead
          refine ⟨fun ct => ?_, fun ct => ?_⟩
          · have t0 : t ≠ 0 := fun e => ct (by rw [e]; rfl)
            rw [show (1 : Int32) = nI 1 from rfl, n_sub (by omega), nI_c (by omega), (m.1 (t - 1) (by omega)).1]
            have e1 : pv (bst (Dh h)) t = bst (Dh h) (t - 1) := by
              match t, t0 with
              | s + 1, _ => rfl
            refine ⟨n_in (by omega) (by omega), p_Md_digit (m.1 (t - 1) (by omega)).2.1 (by omega) ?_⟩
            rw [← e1]
            exact rest _ _ p0 p1
          · have t0 : t = 0 := (n_eq0 (by omega)).mp ct
            have e1 : nI (dg (pv (bst (Dh h)) t) i) = 0 := by
              subst t0
              show nI (dg 0 i) = 0
              have i4 : i < 4 := by omega
              match i, i4 with
              | 0, _ => rfl
              | 1, _ => rfl
              | 2, _ => rfl
              | 3, _ => rfl
              | j + 4, q => exact absurd q (by omega)
            rw [e1] at rest
            exact rest _ _ p0 p1
      have i0 := inner (hm h) 0 (by omega)
      rw [hS0, Nat.add_zero] at i0
      exact ⟨hm h + 1, i0⟩
  have k0 := key (hT h) 0 (by omega)
  rw [hA0] at k0
  exact ⟨hT h + 1, k0⟩
theorem q_energies {h : Hh} {σ : Sg} {K : Int32 → Sg → Prop} (g : IM h σ) (hK : ∀ τ : Sg, IM h τ → FF σ τ → K (nI (pe (Dh h) (bst (Dh h)) (hT h))) τ) : w_Md_energies σ K := by
  have ok := g.1
  have hm4 := g.1.1
  have hB := bst_ok (Dh_ok ok)
  have key : ∀ n i (τ : Sg), i + n = hm h → IM h τ → FF σ τ → L_Md_energies_4 K (n + 1) (nI (sen (Dh h) (bst (Dh h)) (hT h) i)) (nI i) τ := by
    intro n
    induction n with
    | zero =>
      intro i τ hi g f
      have : i = hm h := by omega
      subst this
      unfold L_Md_energies_4
      rw [g.2.1.1]
      refine ⟨fun _ => ?_, fun c => absurd ((n_le (by omega) (by omega)).mpr (Nat.le_refl _)) c⟩
      have e : sen (Dh h) (bst (Dh h)) (hT h) (hm h) = pe (Dh h) (bst (Dh h)) (hT h) := sen_pe (Dh_ok ok) (hT h) (fun t ht' => fe_vrp (Dh_ok ok) hB.1 t ht')
      rw [e]
      exact hK τ g f
    | succ n ih =>
      intro i τ hi g f
      unfold L_Md_energies_4
      rw [g.2.1.1]
      refine ⟨fun c => absurd ((n_le (by omega) (by omega)).mp c) (by omega), fun _ => q_energyOf g (by omega) (fun τ2 g2 _ _ f2 z ez => ?_)⟩
      rw [ez, nI_add, show (1 : Int32) = nI 1 from rfl, nI_add i 1]
      exact ih (i + 1) τ2 (by omega) g2 (f.trans f2)
  unfold w_Md_energies
  exact ⟨hm h + 1, key (hm h) 0 σ (by omega) g FF.rfl'⟩
