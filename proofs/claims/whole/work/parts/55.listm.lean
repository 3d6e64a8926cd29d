/-- a counter that goes down to below 0 -/
def dn (k : Nat) (v : Int32) : Prop := match k with
  | 0 => v < 0
  | a + 1 => v = nI a
theorem dn_s {a : Nat} : dn a (nI a + (-1)) := by
  cases a with
  | zero => exact nI_m1_neg
  | succ a => exact m1_nI
theorem dn_of {m : Nat} : dn m (nI m - 1) := by
  cases m with
  | zero => show nI 0 - 1 < 0; decide
  | succ a => show nI (a + 1) - 1 = nI a; rw [show (1 : Int32) = nI 1 from rfl, n_sub (by omega)]; rfl
theorem LT_step {o1 : Nat} {h : Hh} {a : Nat} {σ0 τ : Sg} (ok : HOk h) (ha : a < hm h) (L : LT (Dh h) (a + 1) σ0) (B : BI o1 h a (Wp (Dh h) (a + 1)) (hl h a + 1) σ0 τ) : LT (Dh h) a (s2 τ 22 5 (nI (Wp (Dh h) (a + 1) * (hl h a + 1)))) := by
  have hD := Dh_ok ok
  have hm4 := ok.1
  have ha4 : a < 4 := by omega
  have hl3 := (ok.2.1 a ha).2.2.1
  have eR : Rd (Dh h) a = hl h a + 1 := by unfold Rd; rw [dl_h ha]
  have eW : Wp (Dh h) a = (hl h a + 1) * Wp (Dh h) (a + 1) := by rw [Wp_s a ha4, eR]
  have hWb : Wp (Dh h) a ≤ 256 := Wp_le hD a
  have hpos : 1 ≤ Wp (Dh h) (a + 1) := Wp_pos (a + 1)
  obtain ⟨l1, l2, l3⟩ := L
  obtain ⟨b1, b2, b3, b4, b5⟩ := B
  have hd : ∀ r, vr (Dh h) r → dg r a < hl h a + 1 := fun r hr => by have := hr.2 a ha4; rw [dl_h ha] at this; omega
  have hx : ∀ r, vr (Dh h) r → fl (Dh h) (a + 1) r < Wp (Dh h) (a + 1) := fun r hr => fl_lt hr (a + 1) (by omega)
  refine ⟨?_, fun r hr => ?_, fun b hb1 hb2 => ⟨fun r hr => ?_, fun x hx2 => ?_⟩⟩
  · rw [s2_at, eW, Nat.mul_comm]
  · rw [s2_ne (by omega), fl_s r a ha4, b2 _ _ (hd r hr) (hx r hr), l2 r hr, nI_add, PQ_s r a ha4, Nat.add_comm]
  · rw [s2_ne (by omega), fl_s r a ha4, fl_s _ a ha4]
    rcases Nat.eq_or_lt_of_le hb1 with e | e
    · subst e
      rw [b4 _ _ (hd r hr) (hx r hr), dg_adv hD _ _ _ ha4, if_pos rfl, dl_h ha, fl_adv_ne hD (by omega)]
    · rw [(b5 b e hb2).1 _ _ (hd r hr) (hx r hr), (l3 b (by omega) hb2).1 r hr, nI_add, dg_adv hD _ _ _ ha4, if_neg (by omega)]
  · rw [s2_ne (by omega)]
    have hdm : x = x / Wp (Dh h) (a + 1) * Wp (Dh h) (a + 1) + x % Wp (Dh h) (a + 1) := by
      have := Nat.div_add_mod x (Wp (Dh h) (a + 1))
      rw [Nat.mul_comm] at this
      omega
    have hmod : x % Wp (Dh h) (a + 1) < Wp (Dh h) (a + 1) := Nat.mod_lt _ hpos
    have hdiv : x / Wp (Dh h) (a + 1) < hl h a + 1 := by
      rw [eW] at hx2
      exact Nat.div_lt_of_lt_mul (by rw [Nat.mul_comm]; exact hx2)
    rcases Nat.eq_or_lt_of_le hb1 with e | e
    · subst e
      refine ⟨nxt (hl h a) (x / Wp (Dh h) (a + 1)) * Wp (Dh h) (a + 1) + x % Wp (Dh h) (a + 1), ?_, ?_⟩
      · rw [eW]
        exact blk_lt (by have := nxt_lel (hl h a) (x / Wp (Dh h) (a + 1)); omega) hmod
      · have := b4 _ _ hdiv hmod
        rw [← hdm] at this
        exact this
    · obtain ⟨y, y1, y2⟩ := (l3 b (by omega) hb2).2 _ hmod
      refine ⟨x / Wp (Dh h) (a + 1) * Wp (Dh h) (a + 1) + y, ?_, ?_⟩
      · rw [eW]
        exact blk_lt hdiv y1
      · have := (b5 b e hb2).1 _ _ hdiv hmod
        rw [← hdm, y2, nI_add] at this
        exact this
theorem p_listMixes {o1 : Nat} {h : Hh} {K : Sg → Prop} {σ0 : Sg} (ok : HOk h) (ho : kd o1 = 2) (R : RC' o1 h σ0)
    (hK : ∀ τ : Sg, (∀ c, c ≠ 22 → c ≠ 23 → c ≠ 24 → τ c = σ0 c) → (∀ j, j ≠ 5 → τ 22 j = σ0 22 j) → LT (Dh h) 0 τ → K τ) : w_Un_listMixes o1 σ0 K := by
  have hD := Dh_ok ok
  have hm4 := ok.1
  have ho67 : o1 < 67 := kd_lt (by rw [ho]; decide)
  have hne : ∀ j, j < 5 → o1 + j ≠ 22 ∧ o1 + j ≠ 23 ∧ o1 + j ≠ 24 := by
    have : ∀ c, c < 67 → kd c = 2 → ∀ j, j < 5 → c + j ≠ 22 ∧ c + j ≠ 23 ∧ c + j ≠ 24 := by decide +kernel
    exact this o1 ho67 ho
  have hR : ∀ τ : Sg, (∀ c, c ≠ 22 → c ≠ 23 → c ≠ 24 → τ c = σ0 c) → RC' o1 h τ := fun τ e => R.of (e _ (hne 0 (by omega)).1 (hne 0 (by omega)).2.1 (hne 0 (by omega)).2.2) (e _ (hne 1 (by omega)).1 (hne 1 (by omega)).2.1 (hne 1 (by omega)).2.2) (e _ (hne 2 (by omega)).1 (hne 2 (by omega)).2.1 (hne 2 (by omega)).2.2) (e _ (hne 3 (by omega)).1 (hne 3 (by omega)).2.1 (hne 3 (by omega)).2.2) (e _ (hne 4 (by omega)).1 (hne 4 (by omega)).2.1 (hne 4 (by omega)).2.2)
  have key : ∀ k v (σ : Sg), k ≤ hm h → dn k v → (∀ c, c ≠ 22 → c ≠ 23 → c ≠ 24 → σ c = σ0 c) → (∀ j, j ≠ 5 → σ 22 j = σ0 22 j) → LT (Dh h) k σ → L_Un_listMixes_19 o1 K (k + 1) v σ := by
    intro k
    induction k with
    | zero =>
      intro v σ _ hv h1 h2 h3
      unfold L_Un_listMixes_19
      exact ⟨fun _ => hK σ h1 h2 h3, fun g => absurd hv g⟩
    | succ a ih =>
      intro v σ hk hv h1 h2 h3
      have hv : v = nI a := hv
      subst hv
      unfold L_Un_listMixes_19
      refine ⟨fun g => absurd g (n_neg a (by omega)), fun _ => ?_⟩
      have ha : a < hm h := by omega
      have eW : Wp (Dh h) a = (hl h a + 1) * Wp (Dh h) (a + 1) := by rw [Wp_s a (by omega)]; unfold Rd; rw [dl_h ha]
      refine p_listWith ok ho (hR σ h1) ha (by rw [← eW]; exact Wp_le hD a) h3.1 (fun τ B => ?_)
      refine ih _ _ (by omega) dn_s (fun c c1 c2 c3 => by rw [s2_ne c1, B.1 c c2 c3]; exact h1 c c1 c2 c3) (fun j hj => by rw [s2_ai hj, B.1 22 (by omega) (by omega)]; exact h2 j hj) (LT_step ok ha h3 B)
  unfold w_Un_listMixes
  refine ⟨n_in (n := 0) (by omega) (by omega), fun τ6 e6 τ9 e9 y hy => ?_⟩
  have e0 : (0 : Int32).toNatClampNeg = 0 := rfl
  rw [e0] at e6
  subst e6
  subst e9
  refine ⟨hm h + 1, ?_⟩
  have g0 : o1 ≠ 22 := (hne 0 (by omega)).1
  have g1 : o1 ≠ 23 := (hne 0 (by omega)).2.1
  rw [hy, s2_ne g0, s2_ne g1, R.1]
  refine key (hm h) _ _ (Nat.le_refl _) dn_of (fun c c1 c2 c3 => by rw [s2_ne c1, s2_ne c2]) (fun j hj => by rw [s2_ai hj, s2_ne (by omega)]) ⟨?_, fun r hr => ?_, fun b h1 h2 => absurd h2 (by show ¬ b < hm h; omega)⟩
  · rw [s2_at, Wp_off hD (hm h) (Nat.le_refl _)]
    rfl
  · have h1 := fl_lt hr (hm h) hm4
    rw [Wp_off hD (hm h) (Nat.le_refl _)] at h1
    rw [show fl (Dh h) (hm h) r = 0 by omega, s2_ne (by omega), s2_at, PQ_off hD hr (hm h) (Nat.le_refl _)]
    rfl
