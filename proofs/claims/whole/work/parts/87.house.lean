theorem p_become {o o1 : Nat} {h : Hh} {σ : Sg} {K : Sg → Prop} (ok : HOk h) (ho : kd o = 2) (ho1 : kd o1 = 2) (ne : o ≠ o1) (R : RC' o1 h σ) (hK : ∀ τ : Sg, (∀ c, c ≠ o → c ≠ o + 1 → c ≠ o + 2 → c ≠ o + 3 → c ≠ o + 4 → τ c = σ c) → (∀ j, j ≠ 4 → j ≠ 5 → j ≠ 6 → τ o j = σ o j) → RC' o h τ → K τ) : w_Ho_become o o1 σ K := by
  have q := kd2 ho
  have q1 := kd2 ho1
  have hm4 := ok.1
  have T20 := ok.2.2.1
  unfold w_Ho_become
  have z0 : (0 : Int32).toNatClampNeg = 0 := rfl
  have z4 : (4 : Int32).toNatClampNeg = 4 := rfl
  have z12 : (12 : Int32).toNatClampNeg = 12 := rfl
  have z20 : (20 : Int32).toNatClampNeg = 20 := rfl
  rw [z0, z4, z12, z20]
  refine ⟨cpk_nI (a := 0) (b := 0) (n := 4) (by omega) (by omega) (by omega) (by omega), fun t1 e1 => ⟨cpk_nI (a := 0) (b := 0) (n := 4) (by omega) (by omega) (by omega) (by omega), fun t2 e2 => ⟨cpk_nI (a := 0) (b := 0) (n := 12) (by omega) (by omega) (by omega) (by omega), fun t3 e3 => ⟨cpk_nI (a := 0) (b := 0) (n := 20) (by omega) (by omega) (by omega) (by omega), fun t4 e4 t5 e5 t6 e6 t7 e7 => ?_⟩⟩⟩⟩
  have c1 : t7 (o + 1) = va_cpy (σ (o1 + 1)) (σ (o + 1)) 0 0 4 := by
    rw [e7, s2_ne (by omega), e6, s2_ne (by omega), e5, s2_ne (by omega), e4, s1_ne (by omega), e3, s1_ne (by omega), e2, s1_ne (by omega), e1, s1_eq]
  have c2 : t7 (o + 2) = va_cpy (σ (o1 + 2)) (σ (o + 2)) 0 0 4 := by
    rw [e7, s2_ne (by omega), e6, s2_ne (by omega), e5, s2_ne (by omega), e4, s1_ne (by omega), e3, s1_ne (by omega), e2, s1_eq, e1, s1_ne (by omega), s1_ne (by omega)]
  have c3 : t7 (o + 3) = va_cpy (σ (o1 + 3)) (σ (o + 3)) 0 0 12 := by
    rw [e7, s2_ne (by omega), e6, s2_ne (by omega), e5, s2_ne (by omega), e4, s1_ne (by omega), e3, s1_eq, e2, s1_ne (by omega), s1_ne (by omega), e1, s1_ne (by omega), s1_ne (by omega)]
  have c4 : t7 (o + 4) = va_cpy (σ (o1 + 4)) (σ (o + 4)) 0 0 20 := by
    rw [e7, s2_ne (by omega), e6, s2_ne (by omega), e5, s2_ne (by omega), e4, s1_eq, e3, s1_ne (by omega), s1_ne (by omega), e2, s1_ne (by omega), s1_ne (by omega), e1, s1_ne (by omega), s1_ne (by omega)]
  have b4 : ∀ c, c ≠ o + 1 → c ≠ o + 2 → c ≠ o + 3 → c ≠ o + 4 → t4 c = σ c := fun c h1 h2 h3 h4 => by rw [e4, s1_ne h4, e3, s1_ne h3, e2, s1_ne h2, e1, s1_ne h1]
  have o14 : t4 o1 = σ o1 := b4 o1 (by omega) (by omega) (by omega) (by omega)
  have o4 : t4 o = σ o := b4 o (by omega) (by omega) (by omega) (by omega)
  have o15 : t5 o1 = σ o1 := by rw [e5, s2_ne (by omega), o14]
  have o16 : t6 o1 = σ o1 := by rw [e6, s2_ne (by omega), o15]
  refine hK t7 (fun c h0 h1 h2 h3 h4 => by rw [e7, s2_ne h0, e6, s2_ne h0, e5, s2_ne h0, b4 c h1 h2 h3 h4]) (fun j h1 h2 h3 => by rw [e7, s2_ai h3, e6, s2_ai h2, e5, s2_ai h1, o4]) ⟨?_, ?_, ?_, fun a ha => ?_, fun t ht' => ?_⟩
  · rw [e7, s2_ai (by omega), e6, s2_ai (by omega), e5, s2_at, o14]; exact R.1
  · rw [e7, s2_ai (by omega), e6, s2_at, o15]; exact R.2.1
  · rw [e7, s2_at, o16]; exact R.2.2.1
  · have l3 := (ok.2.1 a ha).2.2.1
    have r := R.2.2.2.1 a ha
    rw [c1, c2, c3, pk_cpy_in (by omega) (by omega), pk_cpy_in (by omega) (by omega), Nat.sub_zero, Nat.zero_add]
    refine ⟨r.1, r.2.1, fun k hk2 => ?_⟩
    rw [pk_cpy_in (by omega) (by omega), Nat.sub_zero, Nat.zero_add]
    exact r.2.2 k hk2
  · rw [c4, pk_cpy_in (by omega) (by omega), Nat.sub_zero, Nat.zero_add]
    exact R.2.2.2.2 t ht'
theorem p_L158 {x1 x2 x3 x4 : Int32} {a l : Nat} {K : Int32 → Sg → Prop} {r95 : Int32 → Sg → Prop} {σ0 : Sg} (ha : a < 4) (l3 : l ≤ 3) (el : σ0 48 a = nI l) (hK : ∀ τ : Sg, (∀ c, c ≠ 49 → τ c = σ0 c) → (∀ j, j < 3 * a ∨ 3 * a + 3 ≤ j → τ 49 j = σ0 49 j) → (∀ k, k < l → τ 49 (3 * a + k) = σ0 53 (3 * a + k)) → (∀ k, l ≤ k → k < 3 → τ 49 (3 * a + k) = nI 0) → r95 (nI (a + 1)) τ) : ∃ m, L_Md_house_158 x1 x2 x3 x4 (nI a) K r95 m 0 σ0 := by
  have key : ∀ m i (σ : Sg), i + m = 3 → (∀ c, c ≠ 49 → σ c = σ0 c) → (∀ j, j < 3 * a ∨ 3 * a + 3 ≤ j → σ 49 j = σ0 49 j) → (∀ k, k < i → k < l → σ 49 (3 * a + k) = σ0 53 (3 * a + k)) → (∀ k, k < i → l ≤ k → σ 49 (3 * a + k) = nI 0) → L_Md_house_158 x1 x2 x3 x4 (nI a) K r95 (m + 1) (nI i) σ := by
    intro m
    induction m with
    | zero =>
      intro i σ hi h1 h2 h3 h4
      have i3 : i = 3 := hi
      subst i3
      unfold L_Md_house_158
      refine ⟨fun _ => ?_, fun q => absurd (show nI 3 ≤ nI 3 from (n_le (by omega) (by omega)).mpr (Nat.le_refl _)) q⟩
      rw [show (1 : Int32) = nI 1 from rfl, nI_add a 1]
      exact hK σ h1 h2 (fun k hk2 => h3 k (by omega) hk2) (fun k hk2 k3 => h4 k k3 hk2)
    | succ m ih =>
      intro i σ hi h1 h2 h3 h4
      have step : ∀ z : Int32, (i < l → z = σ0 53 (3 * a + i)) → (l ≤ i → z = nI 0) → B_Md_house_203 x1 x2 x3 x4 K r95 (fun a0 a1 => L_Md_house_158 x1 x2 x3 x4 (nI a) K r95 (m + 1) a0 a1) (nI a) (nI i) z (3 * nI a + nI i) σ := fun z z1 z0 => by
        unfold B_Md_house_203
        rw [show (3 : Int32) = nI 3 from rfl, pk_mul, nI_add (3 * a) i, nI_c (by omega)]
        refine ⟨n_in (by omega) (by omega), fun τ e => ?_⟩
        show L_Md_house_158 x1 x2 x3 x4 (nI a) K r95 (m + 1) (nI i + 1) τ
        rw [show (1 : Int32) = nI 1 from rfl, nI_add i 1]
        refine ih (i + 1) τ (by omega) (fun c hc => by rw [e, s2_ne hc]; exact h1 c hc) (fun j hj => by rw [e, s2_ai (by omega)]; exact h2 j hj) (fun k k1 k2 => ?_) (fun k k1 k2 => ?_)
        · by_cases q : k = i
          · subst q; rw [e, s2_at]; exact z1 k2
          · rw [e, s2_ai (by omega)]; exact h3 k (by omega) k2
        · by_cases q : k = i
          · subst q; rw [e, s2_at]; exact z0 k2
          · rw [e, s2_ai (by omega)]; exact h4 k (by omega) k2
      unfold L_Md_house_158
      rw [nI_c (by omega), h1 48 (by omega), el]
      refine ⟨fun q => absurd ((show nI 3 ≤ nI i ↔ 3 ≤ i from n_le (by omega) (by omega)).mp q) (by omega), fun _ => ⟨n_in (by omega) (by omega), fun q => ?_, fun q => ?_⟩⟩
      · have q : l ≤ i := (n_le (by omega) (by omega)).mp q
        exact step 0 (fun e => absurd e (by omega)) (fun _ => rfl)
      · have q : ¬ l ≤ i := fun e => q ((n_le (by omega) (by omega)).mpr e)
        have e : ((3 : Int32) * nI a + nI i).toNatClampNeg = 3 * a + i := by rw [show (3 : Int32) = nI 3 from rfl, pk_mul, nI_add (3 * a) i, nI_c (by omega)]
        refine ⟨?_, ?_⟩
        · rw [show (3 : Int32) = nI 3 from rfl, pk_mul, nI_add (3 * a) i]
          exact n_in (by omega) (by omega)
        · rw [e]
          exact step _ (fun _ => by rw [h1 53 (by omega)]) (fun e => absurd e q)
  exact ⟨4, key 3 0 σ0 (by omega) (fun _ _ => rfl) (fun _ _ => rfl) (fun k hk2 => absurd hk2 (by omega)) (fun k hk2 => absurd hk2 (by omega))⟩
def DnM (H : Hp) (a : Nat) (τ : Sg) : Prop := (a < H.1 → τ 47 a = nI (H.2.1 a) ∧ τ 48 a = nI (H.2.2.1 a) ∧ (∀ k, k < H.2.2.1 a → τ 49 (3 * a + k) = nI (H.2.2.2 (3 * a + k))) ∧ ∀ k, H.2.2.1 a ≤ k → k < 3 → τ 49 (3 * a + k) = nI 0) ∧ (H.1 ≤ a → τ 48 a = nI 0)
theorem p_L95 {x1 x2 x3 x4 : Int32} {K : Int32 → Sg → Prop} {σ0 : Sg} {H : Hp} (w : WF 4 H) (R : RdM H σ0) (e5 : σ0 43 5 = nI H.1) (hK : ∀ τ : Sg, (∀ c, c ≠ 43 → c ≠ 47 → c ≠ 48 → c ≠ 49 → τ c = σ0 c) → (∀ j, j ≠ 9 → j ≠ 11 → j ≠ 30 → j ≠ 17 → τ 43 j = σ0 43 j) → τ 43 9 = 0 → τ 43 11 = 0 → τ 43 30 = 0 → τ 43 17 = 0 → (∀ a, a < 4 → DnM H a τ) → K (nI H.1) τ) : ∃ m, L_Md_house_95 x1 x2 x3 x4 K m 0 σ0 := by
  have m4 := w.2.1
  have key : ∀ m i (σ : Sg), i + m = 4 → (∀ c, c ≠ 47 → c ≠ 48 → c ≠ 49 → σ c = σ0 c) → (∀ a, a < i → DnM H a σ) → L_Md_house_95 x1 x2 x3 x4 K (m + 1) (nI i) σ := by
    intro m
    induction m with
    | zero =>
      intro i σ hi h1 h2
      have i4 : i = 4 := hi
      subst i4
      unfold L_Md_house_95
      refine ⟨fun _ t1 q1 t2 q2 t3 q3 t4 q4 => ?_, fun q => absurd (show nI 4 ≤ nI 4 from (n_le (by omega) (by omega)).mpr (Nat.le_refl _)) q⟩
      have u : ∀ c, c ≠ 43 → t4 c = σ c := fun c hc => by rw [q4, s2_ne hc, q3, s2_ne hc, q2, s2_ne hc, q1, s2_ne hc]
      have u43 : ∀ j, j ≠ 9 → j ≠ 11 → j ≠ 30 → j ≠ 17 → t4 43 j = σ0 43 j := fun j j1 j2 j3 j4 => by rw [q4, s2_ai j4, q3, s2_ai j3, q2, s2_ai j2, q1, s2_ai j1, h1 43 (by omega) (by omega) (by omega)]
      rw [u43 5 (by omega) (by omega) (by omega) (by omega), e5]
      refine hK t4 (fun c c0 c1 c2 c3 => by rw [u c c0, h1 c c1 c2 c3]) u43 ?_ ?_ ?_ ?_ (fun a ha => ?_)
      · rw [q4, s2_ai (by omega), q3, s2_ai (by omega), q2, s2_ai (by omega), q1, s2_at]
      · rw [q4, s2_ai (by omega), q3, s2_ai (by omega), q2, s2_at]
      · rw [q4, s2_ai (by omega), q3, s2_at]
      · rw [q4, s2_at]
      · have := h2 a ha
        unfold DnM at this ⊢
        rw [u 47 (by omega), u 48 (by omega), u 49 (by omega)]
        exact this
    | succ m ih =>
      intro i σ hi h1 h2
      have e43 : σ 43 5 = nI H.1 := by rw [h1 43 (by omega) (by omega) (by omega)]; exact e5
      have step : ∀ z : Int32, (i < H.1 → z = nI (H.2.1 i)) → B_Md_house_127 x1 x2 x3 x4 K (fun a0 a1 => L_Md_house_95 x1 x2 x3 x4 K (m + 1) a0 a1) (nI i) z (nI i) σ := fun z z1 => by
        unfold B_Md_house_127
        rw [nI_c (by omega)]
        refine ⟨n_in (by omega) (by omega), fun t1 q1 => ?_⟩
        have fin : ∀ (l : Nat) (y : Int32), y = nI l → l ≤ 3 → (i < H.1 → l = H.2.2.1 i) → (H.1 ≤ i → l = 0) → B_Md_house_154 x1 x2 x3 x4 K (fun a0 a1 => L_Md_house_95 x1 x2 x3 x4 K (m + 1) a0 a1) (nI i) y (nI i) t1 := fun l y ey l3 l1 l0 => by
          subst ey
          unfold B_Md_house_154
          rw [nI_c (by omega)]
          refine ⟨n_in (by omega) (by omega), fun t2 q2 => p_L158 (l := l) (by omega) l3 (by rw [q2, s2_at]) (fun τ w1 w2 w3 w4 => ?_)⟩
          show L_Md_house_95 x1 x2 x3 x4 K (m + 1) (nI (i + 1)) τ
          have v47 : τ 47 = upd (σ 47) i z := by rw [w1 47 (by omega), q2, s2_ne (by omega), q1, s2_eq]
          have v48 : τ 48 = upd (σ 48) i (nI l) := by rw [w1 48 (by omega), q2, s2_eq, q1, s2_ne (by omega)]
          have v49 : ∀ j, j < 3 * i ∨ 3 * i + 3 ≤ j → τ 49 j = σ 49 j := fun j hj => by rw [w2 j hj, q2, s2_ne (by omega), q1, s2_ne (by omega)]
          have v53 : t2 53 = σ0 53 := by rw [q2, s2_ne (by omega), q1, s2_ne (by omega), h1 53 (by omega) (by omega) (by omega)]
          refine ih (i + 1) τ (by omega) (fun c c0 c1 c2 => by rw [w1 c c2, q2, s2_ne c1, q1, s2_ne c0]; exact h1 c c0 c1 c2) (fun a ha => ?_)
          by_cases e : a = i
          · subst e
            unfold DnM
            rw [v47, v48, pk_us, pk_us]
            refine ⟨fun c => ⟨z1 c, by rw [l1 c], fun k hk2 => ?_, fun k hk2 k3 => w4 k (by rw [l1 c]; exact hk2) k3⟩, fun c => by rw [l0 c]⟩
            rw [w3 k (by rw [l1 c]; exact hk2), v53]
            exact (R.2 a c).2.2 k hk2
          · have d := h2 a (by omega)
            unfold DnM at d ⊢
            rw [v47, v48, pk_un e, pk_un e]
            refine ⟨fun c => ⟨(d.1 c).1, (d.1 c).2.1, fun k hk2 => ?_, fun k hk2 k3 => ?_⟩, d.2⟩
            · have l3 := (w.2.2.2.2.2.2 a c (fun q => absurd q (by omega))).2.2.1
              rw [v49 _ (by omega)]; exact (d.1 c).2.2.1 k hk2
            · rw [v49 _ (by omega)]; exact (d.1 c).2.2.2 k hk2 k3
        have u5 : t1 43 5 = nI H.1 := by rw [q1, s2_ne (by omega)]; exact e43
        rw [u5]
        refine ⟨fun q => fin 0 0 rfl (by omega) (fun c => ?_) (fun _ => rfl), fun q => ⟨n_in (by omega) (by omega), ?_⟩⟩
        · have := (n_le (by omega) (by omega)).mp q
          omega
        · have q : i < H.1 := Nat.lt_of_not_le (fun e => q ((n_le (by omega) (by omega)).mpr e))
          refine fin (H.2.2.1 i) _ ?_ (w.2.2.2.2.2.2 i q (fun q => absurd q (by omega))).2.2.1 (fun _ => rfl) (fun c => absurd c (by omega))
          rw [q1, s2_ne (by omega), h1 52 (by omega) (by omega) (by omega)]
          exact (R.2 i q).2.1
      unfold L_Md_house_95
      rw [e43, nI_c (by omega)]
      refine ⟨fun q => absurd ((show nI 4 ≤ nI i ↔ 4 ≤ i from n_le (by omega) (by omega)).mp q) (by omega), fun _ => ⟨fun q => step 0 (fun c => ?_), fun q => ⟨n_in (by omega) (by omega), step _ (fun c => ?_)⟩⟩⟩
      · have := (n_le (by omega) (by omega)).mp q
        omega
      · rw [h1 51 (by omega) (by omega) (by omega)]
        exact (R.2 i c).1
  exact ⟨5, key 4 0 σ0 (by omega) (fun _ _ _ _ => rfl) (fun a ha => absurd ha (by omega))⟩
