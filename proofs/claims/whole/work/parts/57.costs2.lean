theorem LT.of {D : Dt} {a : Nat} {σ τ : Sg} (L : LT D a σ) (e1 : τ 22 5 = σ 22 5) (e2 : τ 23 = σ 23) (e3 : τ 24 = σ 24) : LT D a τ := by
  obtain ⟨a1, a2, a3⟩ := L
  exact ⟨by rw [e1]; exact a1, by rw [e2]; exact a2, by rw [e3]; exact a3⟩
/-- all mixes at one time: what is left, and what follows -/
theorem q_L34 {o1 : Nat} {h : Hh} {K : Sg → Prop} {r15 : Int32 → Sg → Prop} {t : Nat} {A : Nat → Nat} {σ0 : Sg} (ok : HOk h) (ho : kd o1 = 2) (ht : t < hT h) (hm0 : σ0 o1 4 = nI (hm h)) (L : LT (Dh h) 0 σ0) (H : AH (Dh h) σ0 A) (hA : ∀ r, A r ≤ 540000000)
    (hK : ∀ τ : Sg, (∀ c, c ≠ 22 → c ≠ 25 → c ≠ 26 → c ≠ 27 → τ c = σ0 c) → (∀ j, j ≠ 3 → j ≠ 4 → τ 22 j = σ0 22 j) → (∀ r, vr (Dh h) r → τ 25 (256 * t + fl (Dh h) 0 r) = nI (cst (Dh h) t A r)) → (∀ j, j < 256 * t ∨ 256 * t + 256 ≤ j → τ 25 j = σ0 25 j) → AH (Dh h) τ (mn (Dh h) (cst (Dh h) t A) (hm h)) → r15 (nI t + (-1)) τ) :
    ∃ n, L_Un_findCosts_34 o1 (nI t) (nI (dv (Dh h) t)) K r15 n (nI 0) σ0 := by
  have hD := Dh_ok ok
  have hm4 := ok.1
  have hT := ok.2.2.1
  have hW := Wp_le hD 0
  have hv99 := hD.2.2.2.2.2.2.2 t
  obtain ⟨E, Q, u, H⟩ := H
  have ub := u.b
  obtain ⟨l1, l2, l3⟩ := L
  have ho22 : o1 ≠ 22 ∧ o1 ≠ 25 ∧ o1 ≠ 26 ∧ o1 ≠ 27 := by
    have : ∀ c, c < 67 → kd c = 2 → c ≠ 22 ∧ c ≠ 25 ∧ c ≠ 26 ∧ c ≠ 27 := by decide +kernel
    exact this o1 (kd_lt (by rw [ho]; decide)) ho
  have hcb : ∀ r, cst (Dh h) t A r ≤ 600000000 := fun r => by
    have := hA r
    have : BIG = 536870912 := rfl
    unfold cst
    split <;> omega
  have key : ∀ n i (σ : Sg), i + n = Wp (Dh h) 0 → (∀ c, c ≠ E → σ c = σ0 c) → (∀ r, vr (Dh h) r → fl (Dh h) 0 r < i → σ E (fl (Dh h) 0 r) = nI (cst (Dh h) t A r)) → (∀ r, vr (Dh h) r → i ≤ fl (Dh h) 0 r → σ E (fl (Dh h) 0 r) = nI (A r)) → L_Un_findCosts_34 o1 (nI t) (nI (dv (Dh h) t)) K r15 (n + 1) (nI i) σ := by
    intro n
    induction n with
    | zero =>
      intro i σ hi h1 h2 h3
      have : i = Wp (Dh h) 0 := by omega
      subst this
      unfold L_Un_findCosts_34
      rw [h1 22 (by omega), u.2.1, l1, nI_c (by omega), show (256 : Int32) = nI 256 from rfl, pk_mul, show (0 : Int32) = nI 0 from rfl, nI_c (by omega), nI_c (by omega), nI_c (by omega)]
      refine ⟨fun _ => ⟨u.ia.1, cpk_nI (by omega) (by omega) (by omega) (by omega), fun τ hτ => ?_⟩, fun g => absurd ((n_le (by omega) (by omega)).mpr (Nat.le_refl _)) g⟩
      have e25 : τ 25 = va_cpy (σ E) (σ 25) 0 (t * 256) (Wp (Dh h) 0) := by rw [hτ]; exact s1_eq
      have eo : ∀ c, c ≠ 25 → τ c = σ c := fun c hc => by rw [hτ]; exact s1_ne hc
      have c25 : ∀ r, vr (Dh h) r → τ 25 (256 * t + fl (Dh h) 0 r) = nI (cst (Dh h) t A r) := fun r hr => by
        have hlt := fl_lt hr 0 (by omega)
        rw [e25, pk_cpy_in (by omega) (by omega), show 0 + (256 * t + fl (Dh h) 0 r - t * 256) = fl (Dh h) 0 r by omega]
        exact h2 r hr hlt
      have c25' : ∀ j, j < 256 * t ∨ 256 * t + 256 ≤ j → τ 25 j = σ0 25 j := fun j hj => by
        rw [e25, pk_cpy_out (by omega), h1 25 (by omega)]
      refine q_L115 ok ho (by rw [eo o1 ho22.2.1, h1 o1 (by omega)]; exact hm0) (LT.of ⟨l1, l2, l3⟩ (by rw [eo 22 (by omega), h1 22 (by omega)]) (by rw [eo 23 (by omega), h1 23 (by omega)]) (by rw [eo 24 (by omega), h1 24 (by omega)])) ⟨E, Q, ⟨u.1, by rw [eo 22 (by omega), h1 22 (by omega)]; exact u.2.1, by rw [eo 22 (by omega), h1 22 (by omega)]; exact u.2.2⟩, fun r hr => by rw [eo E (by omega)]; exact h2 r hr (fl_lt hr 0 (by omega))⟩ hcb (fun τ2 g1 g2 g3 => ?_)
      refine hK τ2 (fun c c1 c2 c3 c4 => ?_) (fun j j1 j2 => ?_) (fun r hr => ?_) (fun j hj => ?_) g3
      · rw [g1 c c1 c3 c4, eo c c2, h1 c (by omega)]
      · rw [g2 j j1 j2, eo 22 (by omega), h1 22 (by omega)]
      · rw [g1 25 (by omega) (by omega) (by omega)]; exact c25 r hr
      · rw [g1 25 (by omega) (by omega) (by omega)]; exact c25' j hj
    | succ n ih =>
      intro i σ hi h1 h2 h3
      unfold L_Un_findCosts_34
      rw [h1 22 (by omega), u.2.1, l1, nI_c (n := E) (by omega), nI_c (n := i) (by omega), h1 23 (by omega)]
      refine ⟨fun g => absurd ((n_le (by omega) (by omega)).mp g) (by omega), fun _ => ⟨n_in (by omega) (by omega), fun y hy => ⟨u.ia.1, ?_, ?_⟩⟩⟩
      · intro hy0
        refine ⟨u.ia.1, n_in (by omega) (by omega), ?_⟩
        unfold B_Un_findCosts_84
        refine ⟨n_in (by omega) (by omega), fun τ hτ => ?_⟩
        rw [nI_c (by omega)] at hτ
        subst hτ
        rw [show (1 : Int32) = nI 1 from rfl, nI_add]
        refine ih (i + 1) _ (by omega) (fun c hc => by rw [s2_ne hc]; exact h1 c hc) (fun r hr hlt => ?_) (fun r hr hle => ?_)
        · by_cases e : fl (Dh h) 0 r = i
          · have eP := l2 r hr
            rw [PQ_0, e] at eP
            have hp72 := PP_le hD r
            rw [eP] at hy
            have hle : PP (Dh h) r ≤ dv (Dh h) t := by
              rw [hy, le_toInt, nI_sub_toInt (by omega) (by omega)] at hy0
              have : (0 : Int32).toInt = 0 := rfl
              omega
            have eA := h3 r hr (by omega)
            rw [e] at eA
            rw [e, s2_at, eA, hy, n_sub hle, show (1000 : Int32) = nI 1000 from rfl, pk_mul, nI_add]
            unfold cst
            rw [if_pos hle, Nat.mul_comm]
          · rw [s2_ai e]; exact h2 r hr (by omega)
        · rw [s2_ai (by omega)]; exact h3 r hr (by omega)
      · intro hy0
        unfold B_Un_findCosts_84
        refine ⟨n_in (by omega) (by omega), fun τ hτ => ?_⟩
        rw [nI_c (by omega)] at hτ
        subst hτ
        rw [show (1 : Int32) = nI 1 from rfl, nI_add]
        refine ih (i + 1) _ (by omega) (fun c hc => by rw [s2_ne hc]; exact h1 c hc) (fun r hr hlt => ?_) (fun r hr hle => ?_)
        · by_cases e : fl (Dh h) 0 r = i
          · have eP := l2 r hr
            rw [PQ_0, e] at eP
            have hp72 := PP_le hD r
            rw [eP] at hy
            have hle : ¬ PP (Dh h) r ≤ dv (Dh h) t := fun g => by
              apply hy0
              rw [hy, n_sub g]
              exact nI_pos' (by omega)
            rw [e, s2_at]
            unfold cst
            rw [if_neg hle]
            rfl
          · rw [s2_ai e]; exact h2 r hr (by omega)
        · rw [s2_ai (by omega)]; exact h3 r hr (by omega)
  exact ⟨Wp (Dh h) 0 + 1, key (Wp (Dh h) 0) 0 σ0 (by omega) (fun _ _ => rfl) (fun r hr hlt => absurd hlt (by omega)) (fun r hr _ => H r hr)⟩
/-- the costs of all rows at all times from k on -/
def CT (h : Hh) (k : Nat) (σ : Sg) : Prop := ∀ t, k ≤ t → t < hT h → ∀ r, vr (Dh h) r → σ 25 (256 * t + fl (Dh h) 0 r) = nI (CC (Dh h) t r)
theorem p_findCosts {o1 : Nat} {h : Hh} {K : Sg → Prop} {σ0 : Sg} (ok : HOk h) (ho : kd o1 = 2) (R : RC' o1 h σ0) (L : LT (Dh h) 0 σ0) (hu : ∃ E Q, UE σ0 E Q)
    (hK : ∀ τ : Sg, (∀ c, c ≠ 22 → c ≠ 25 → c ≠ 26 → c ≠ 27 → τ c = σ0 c) → (∀ j, j ≠ 3 → j ≠ 4 → τ 22 j = σ0 22 j) → CT h 0 τ → (∃ E Q, UE τ E Q) → K τ) : w_Un_findCosts o1 σ0 K := by
  have hD := Dh_ok ok
  have hm4 := ok.1
  have hT20 := ok.2.2.1
  have hne : ∀ j, j < 5 → o1 + j ≠ 22 ∧ o1 + j ≠ 25 ∧ o1 + j ≠ 26 ∧ o1 + j ≠ 27 := by
    have : ∀ c, c < 67 → kd c = 2 → ∀ j, j < 5 → c + j ≠ 22 ∧ c + j ≠ 25 ∧ c + j ≠ 26 ∧ c + j ≠ 27 := by decide +kernel
    exact this o1 (kd_lt (by rw [ho]; decide)) ho
  have hR : ∀ τ : Sg, (∀ c, c ≠ 22 → c ≠ 25 → c ≠ 26 → c ≠ 27 → τ c = σ0 c) → RC' o1 h τ := fun τ e => by
    have q : ∀ j, j < 5 → τ (o1 + j) = σ0 (o1 + j) := fun j hj => e _ (hne j hj).1 (hne j hj).2.1 (hne j hj).2.2.1 (hne j hj).2.2.2
    exact R.of (q 0 (by omega)) (q 1 (by omega)) (q 2 (by omega)) (q 3 (by omega)) (q 4 (by omega))
  have key : ∀ k v (σ : Sg), k ≤ hT h → dn k v → (∀ c, c ≠ 22 → c ≠ 25 → c ≠ 26 → c ≠ 27 → σ c = σ0 c) → (∀ j, j ≠ 3 → j ≠ 4 → σ 22 j = σ0 22 j) → CT h k σ → AH (Dh h) σ (AA (Dh h) (hT h - k)) → L_Un_findCosts_15 o1 K (k + 1) v σ := by
    intro k
    induction k with
    | zero =>
      intro v σ _ hv h1 h2 h3 h4
      unfold L_Un_findCosts_15
      refine ⟨fun _ => hK σ h1 h2 h3 ?_, fun g => absurd hv g⟩
      obtain ⟨E, Q, u, -⟩ := h4
      exact ⟨E, Q, u⟩
    | succ t ih =>
      intro v σ hk hv h1 h2 h3 h4
      have hv : v = nI t := hv
      subst hv
      have R' := hR σ h1
      have htT : t < hT h := by omega
      have hb := (ok.2.2.2.2 t htT).1
      unfold L_Un_findCosts_15
      refine ⟨fun g => absurd g (n_neg t (by omega)), fun _ => ⟨n_in (by omega) (by omega), fun y hy => ?_⟩⟩
      rw [nI_c (by omega), R'.2.2.2.2 t htT, R'.2.2.1, n_sub hb, ← dv_h htT] at hy
      rw [hy]
      have hAb : ∀ r, AA (Dh h) (hT h - (t + 1)) r ≤ 540000000 := fun r => by
        have := AA_bound hD (hT h - (t + 1)) r
        have : BIG = 536870912 := rfl
        omega
      refine q_L34 ok ho htT R'.1 (L.of (h2 5 (by omega) (by omega)) (h1 23 (by omega) (by omega) (by omega) (by omega)) (h1 24 (by omega) (by omega) (by omega) (by omega))) h4 hAb (fun τ g1 g2 g3 g4 g5 => ?_)
      have eC : cst (Dh h) t (AA (Dh h) (hT h - (t + 1))) = CC (Dh h) t := by
        unfold CC
        rw [show dT (Dh h) - 1 - t = hT h - (t + 1) by show hT h - 1 - t = _; omega]
      have eA : mn (Dh h) (cst (Dh h) t (AA (Dh h) (hT h - (t + 1)))) (hm h) = AA (Dh h) (hT h - t) := by
        funext r
        rw [show hT h - t = (hT h - (t + 1)) + 1 by omega]
        show _ = mn (Dh h) (cst (Dh h) (dT (Dh h) - 1 - (hT h - (t + 1))) (AA (Dh h) (hT h - (t + 1)))) (dm (Dh h)) r
        rw [show dT (Dh h) - 1 - (hT h - (t + 1)) = t by show hT h - 1 - (hT h - (t + 1)) = t; omega]
        rfl
      rw [eA] at g5
      refine ih _ τ (by omega) dn_s (fun c c1 c2 c3 c4 => (g1 c c1 c2 c3 c4).trans (h1 c c1 c2 c3 c4)) (fun j j1 j2 => (g2 j j1 j2).trans (h2 j j1 j2)) (fun s hs1 hs2 r hr => ?_) g5
      rcases Nat.eq_or_lt_of_le hs1 with e | e
      · subst e
        rw [g3 r hr, eC]
      · have hlt := fl_lt hr 0 (by omega)
        have hW := Wp_le hD 0
        rw [g4 _ (by omega)]
        exact h3 s e hs2 r hr
  obtain ⟨E, Q, u⟩ := hu
  have ub := u.b
  unfold w_Un_findCosts
  rw [u.2.1, nI_c (by omega)]
  have hlnE : ln E = 256 := u.ia.1.2
  refine ⟨u.ia.1, p_fill (by omega) (fun τ f1 f2 f3 y hy => ⟨hT h + 1, ?_⟩)⟩
  have e0 : τ o1 = σ0 o1 := f1 o1 (by have := hne 0 (by omega); omega)
  rw [hy, e0, R.2.1]
  refine key (hT h) _ τ (Nat.le_refl _) dn_of (fun c c1 c2 c3 c4 => f1 c (by omega)) (fun j _ _ => by rw [f1 22 (by omega)]) (fun s h1 h2 => absurd h2 (by omega)) ⟨E, Q, ⟨u.1, by rw [f1 22 (by omega)]; exact u.2.1, by rw [f1 22 (by omega)]; exact u.2.2⟩, fun r hr => ?_⟩
  have hlt := fl_lt hr 0 (by omega)
  have hW := Wp_le hD 0
  rw [f2 _ (by omega), Nat.sub_self]
  rfl
