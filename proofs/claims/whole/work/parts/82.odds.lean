theorem n_rem {a d : Nat} (ha : a < 1000000) (h0 : 0 < d) (h1 : d < 1000000) : nI a - nI a / nI d * nI d = nI (a % d) := by
  rw [pk_div (by omega) h0 (by omega), pk_mul, n_sub (Nat.div_mul_le_self a d)]
  have := Nat.div_add_mod a d
  rw [Nat.mul_comm] at this
  congr 1
  omega
theorem p_common {n T : Nat} {σ : Sg} {K : Int32 → Prop} (n20 : n ≤ 20) (T20 : T ≤ 20) (T1 : 1 ≤ T) (hK : K (nI (Nat.gcd n T))) : w_Lc_commonDivisor (nI n) (nI T) σ K := by
  have gp : 1 ≤ Nat.gcd n T := Nat.gcd_pos_of_pos_right n T1
  have key : ∀ v, Nat.gcd n T ≤ v → v ≤ T → L_Lc_commonDivisor_2 (nI n) (nI T) σ K (v + 1) (nI v) := by
    intro v
    induction v with
    | zero => intro h1 _; exact absurd h1 (by omega)
    | succ v ih =>
      intro h1 h2
      unfold L_Lc_commonDivisor_2
      have next : ¬ Nat.gcd n T = v + 1 → L_Lc_commonDivisor_2 (nI n) (nI T) σ K (v + 1) (nI (v + 1) + (-1)) := fun ne => by
        rw [m1_nI]
        exact ih (by omega) (by omega)
      rw [n_rem (by omega) (by omega) (by omega), n_rem (by omega) (by omega) (by omega)]
      have v0 : ¬ nI (v + 1) = 0 := fun e => absurd ((n_eq0 (by omega)).mp e) (by omega)
      have m1 := Nat.mod_lt n (show 0 < v + 1 by omega)
      have m2 := Nat.mod_lt T (show 0 < v + 1 by omega)
      refine ⟨fun c => ?_, fun c => ⟨v0, fun c1 => next (fun e => c1 ?_), fun c1 => ⟨v0, fun c2 => next (fun e => c2 ?_), fun c2 => ?_⟩⟩⟩
      · have c : v + 1 ≤ 1 := (show nI (v + 1) ≤ nI 1 ↔ v + 1 ≤ 1 from n_le (by omega) (by omega)).mp c
        rw [show Nat.gcd n T = 1 by omega] at hK
        exact hK
      · rw [Nat.mod_eq_zero_of_dvd (e ▸ Nat.gcd_dvd_left n T)]; rfl
      · rw [Nat.mod_eq_zero_of_dvd (e ▸ Nat.gcd_dvd_right n T)]; rfl
      · have d1 : v + 1 ∣ n := Nat.dvd_of_mod_eq_zero ((n_eq0 (by omega)).mp c1)
        have d2 : v + 1 ∣ T := Nat.dvd_of_mod_eq_zero ((n_eq0 (by omega)).mp c2)
        have := Nat.le_of_dvd gp (Nat.dvd_gcd d1 d2)
        rw [show Nat.gcd n T = v + 1 by omega] at hK
        exact hK
  unfold w_Lc_commonDivisor
  exact ⟨T + 1, key T (Nat.le_of_dvd T1 (Nat.gcd_dvd_right n T)) (Nat.le_refl _)⟩
theorem p_least {n T : Nat} {x : Int32} {σ : Sg} {K : Int64 → Prop} (n20 : n ≤ 20) (T20 : T ≤ 20) (T1 : 1 ≤ T) (h1 : ¬ x = 0 → K (nI T / nI (Nat.gcd n T)).toInt64) (h0 : x = 0 → K (nI n / nI (Nat.gcd n T)).toInt64) : w_Md_inLeastTerms (nI n) (nI T) x σ K := by
  have gp : 1 ≤ Nat.gcd n T := Nat.gcd_pos_of_pos_right n T1
  have key : ∀ m b a, b ≤ m → a ≤ 20 → b ≤ 20 → Nat.gcd a b = Nat.gcd n T → L_Md_inLeastTerms_5 (nI n) (nI T) x σ K (m + 1) (nI a) (nI b) := by
    intro m
    induction m with
    | zero =>
      intro b a hb' ha hb2 e
      have : b = 0 := Nat.le_zero.mp hb'
      subst this
      rw [Nat.gcd_zero_right] at e
      subst e
      unfold L_Md_inLeastTerms_5
      have a0 : ¬ nI (Nat.gcd n T) = 0 := fun e => absurd ((n_eq0 (by omega)).mp e) (by omega)
      exact ⟨fun _ => ⟨fun c => ⟨a0, h1 c⟩, fun c => ⟨a0, h0 c⟩⟩, fun c => absurd rfl c⟩
    | succ m ih =>
      intro b a hb' ha hb2 e
      unfold L_Md_inLeastTerms_5
      refine ⟨fun c => ?_, fun c => ⟨c, fun y ey => ?_⟩⟩
      · have : b = 0 := (n_eq0 (by omega)).mp c
        subst this
        rw [Nat.gcd_zero_right] at e
        subst e
        have a0 : ¬ nI (Nat.gcd n T) = 0 := fun e => absurd ((n_eq0 (by omega)).mp e) (by omega)
        exact ⟨fun c => ⟨a0, h1 c⟩, fun c => ⟨a0, h0 c⟩⟩
      · have b0 : b ≠ 0 := fun e => c (by rw [e]; rfl)
        have ml := Nat.mod_lt a (show 0 < b by omega)
        rw [ey, n_rem (by omega) (by omega) (by omega)]
        refine ih (a % b) b (by omega) (by omega) (by omega) ?_
        rw [← e, Nat.gcd_comm b (a % b), ← Nat.gcd_rec, Nat.gcd_comm]
  unfold w_Md_inLeastTerms
  exact ⟨T + 1, key T T n (Nat.le_refl _) n20 T20 rfl⟩
def onn (p : Nat → Nat) (a : Nat) : Nat → Nat
  | 0 => 0
  | n + 1 => if dg (p n) a = 0 then onn p a n else onn p a n + 1
theorem onn_le (p : Nat → Nat) (a : Nat) : ∀ n, onn p a n ≤ n
  | 0 => Nat.le_refl _
  | n + 1 => by
    have := onn_le p a n
    simp only [onn]
    split <;> omega
theorem H_odds (σ : Sg) (a1 a2 : Int32) (I : Inv σ) : w_Lc_odds a1 a2 σ (fun r0 τ0 => w_Md_odds a1 a2 τ0 (fun r1 τ1 => r0 = r1 ∧ Inv τ1)) := by
  obtain ⟨h, g⟩ := I
  have ok := g.1
  have hm4 := g.1.1
  have T20 := ok.2.2.1
  unfold w_Lc_odds
  rcases ix a1 (hm h) (by omega) with o | ⟨a, ha, rfl⟩
  · refine ch_out g.2.1.1 o (cb0 ?_)
    show w_Md_odds a1 a2 σ _
    unfold w_Md_odds
    exact mh_out g.2.2.1.1 hm4 o (cb0 ⟨rfl, h, g⟩)
  · refine ch_in g.2.1.1 hm4 ha (cb1 ?_)
    have out : (a2 < 0 ∨ 1 < a2) → w_Md_odds (nI a) a2 σ (fun r1 τ1 => (-9223372036854775808 : Int64) = r1 ∧ Inv τ1) := fun c => by
      unfold w_Md_odds
      exact mh_in g.2.2.1.1 hm4 ha (cb1 (wi_out (l := 0) (u := 1) rfl rfl c (cb0 ⟨rfl, h, g⟩)))
    refine ⟨fun c => out (Or.inl c), fun c => ⟨fun c2 => out (Or.inr c2), fun c2 => ?_⟩⟩
    have lo : (0 : Int32) ≤ a2 := by rw [le_toInt]; rw [lt_toInt] at c; omega
    have hi : a2 ≤ (1 : Int32) := by rw [le_toInt]; rw [lt_toInt] at c2; omega
    rw [g.2.1.2.1]
    refine ⟨fun c3 => ?_, fun c3 => ?_⟩
    · have t0 : hT h ≠ 0 := fun e => c3 (by rw [e]; rfl)
      refine p_known g (fun τ g d _ => ⟨rfl, ?_⟩)
      have fin : ∀ z : Int64, (¬ a2 = 0 → z = (nI (hT h) / nI (Nat.gcd (onn (bst (Dh h)) a (hT h)) (hT h))).toInt64) → (a2 = 0 → z = (nI (onn (bst (Dh h)) a (hT h)) / nI (Nat.gcd (onn (bst (Dh h)) a (hT h)) (hT h))).toInt64) → w_Md_odds (nI a) a2 τ (fun r1 τ1 => z = r1 ∧ Inv τ1) := fun z z1 z0 => by
        unfold w_Md_odds
        rw [g.2.2.1.2.1]
        refine mh_in g.2.2.1.1 hm4 ha (cb1 (wi_in (l := 0) (u := 1) rfl rfl lo hi (cb1 ⟨fun _ => p_found g (fun τ2 g m _ _ => ?_), fun c => absurd c c3⟩)))
        have key : ∀ n i, i + n = hT h → L_Md_odds_38 (nI a) a2 (fun r1 τ1 => z = r1 ∧ Inv τ1) (n + 1) (nI (onn (bst (Dh h)) a i)) (nI i) τ2 := by
          intro n
          induction n with
          | zero =>
            intro i hi
            have : i = hT h := by omega
            subst this
            have b1 := onn_le (bst (Dh h)) a (hT h)
            unfold L_Md_odds_38
            rw [g.2.2.1.2.1]
            exact ⟨fun _ => p_least (by omega) T20 (by omega) (fun c => ⟨z1 c, h, g⟩) (fun c => ⟨z0 c, h, g⟩), fun c => absurd ((n_le (by omega) (by omega)).mpr (Nat.le_refl _)) c⟩
          | succ n ih =>
            intro i hi
            have k := ih (i + 1) (by omega)
            have hvr := (m.1 i (by omega)).2
            have d4 := dg_lt (bst (Dh h) i) a
            unfold L_Md_odds_38 B_Md_odds_67
            rw [g.2.2.1.2.1, nI_c (by omega), (m.1 i (by omega)).1]
            refine ⟨fun c => absurd ((n_le (by omega) (by omega)).mp c) (by omega), fun _ => ⟨n_in (by omega) (by omega), p_Md_digit hvr.1 (by omega) ⟨fun c y ey => ?_, fun c y ey => ?_⟩⟩⟩
            · have c : ¬ dg (bst (Dh h) i) a = 0 := fun e => c (by rw [e]; rfl)
              rw [show onn (bst (Dh h)) a (i + 1) = onn (bst (Dh h)) a i + 1 from if_neg c] at k
              rw [ey, show (1 : Int32) = nI 1 from rfl, nI_add, nI_add i 1]
              exact k
            · have c : dg (bst (Dh h) i) a = 0 := (n_eq0 (by omega)).mp c
              rw [show onn (bst (Dh h)) a (i + 1) = onn (bst (Dh h)) a i from if_pos c] at k
              rw [ey, Int32.add_zero, show (1 : Int32) = nI 1 from rfl, nI_add i 1]
              exact k
        exact ⟨hT h + 1, key (hT h) 0 (by omega)⟩
      have key : ∀ n i, i + n = hT h → L_Lc_odds_45 (nI a) a2 16 (fun r0 τ0 => w_Md_odds (nI a) a2 τ0 (fun r1 τ1 => r0 = r1 ∧ Inv τ1)) (n + 1) (nI (onn (bst (Dh h)) a i)) (nI i) τ := by
        intro n
        induction n with
        | zero =>
          intro i hi
          have : i = hT h := by omega
          subst this
          have b1 := onn_le (bst (Dh h)) a (hT h)
          have gp : 1 ≤ Nat.gcd (onn (bst (Dh h)) a (hT h)) (hT h) := Nat.gcd_pos_of_pos_right _ (by omega)
          have gl := Nat.le_of_dvd (show 0 < hT h by omega) (Nat.gcd_dvd_right (onn (bst (Dh h)) a (hT h)) (hT h))
          have g0 : ¬ nI (Nat.gcd (onn (bst (Dh h)) a (hT h)) (hT h)) = 0 := fun e => absurd ((n_eq0 (by omega)).mp e) (by omega)
          unfold L_Lc_odds_45 B_Lc_odds_106
          rw [g.2.1.2.1]
          refine ⟨fun _ => p_common (by omega) T20 (by omega) ⟨fun c => ⟨g0, fin _ (fun _ => rfl) (fun e => absurd e c)⟩, fun c => ⟨g0, fin _ (fun e => absurd c e) (fun _ => rfl)⟩⟩, fun c => absurd ((n_le (by omega) (by omega)).mpr (Nat.le_refl _)) c⟩
        | succ n ih =>
          intro i hi
          have k := ih (i + 1) (by omega)
          have d4 := dg_lt (bst (Dh h) i) a
          unfold L_Lc_odds_45
          rw [g.2.1.2.1]
          refine ⟨fun c => absurd ((n_le (by omega) (by omega)).mp c) (by omega), fun _ => p_Do_stateOf (by omega) (by omega) ?_⟩
          rw [d.1 i a (by omega) ha]
          refine ⟨fun c => ?_, fun c => ?_⟩
          · have c : dg (bst (Dh h) i) a = 0 := (n_eq0 (by omega)).mp c
            rw [show onn (bst (Dh h)) a (i + 1) = onn (bst (Dh h)) a i from if_pos c] at k
            rw [show (1 : Int32) = nI 1 from rfl, nI_add i 1]
            exact k
          · have c : ¬ dg (bst (Dh h) i) a = 0 := fun e => c (by rw [e]; rfl)
            rw [show onn (bst (Dh h)) a (i + 1) = onn (bst (Dh h)) a i + 1 from if_neg c] at k
            rw [show (1 : Int32) = nI 1 from rfl, nI_add i 1, nI_add]
            exact k
      exact ⟨hT h + 1, key (hT h) 0 (by omega)⟩
    · have t0 : hT h = 0 := (n_eq0 (by omega)).mp c3
      show w_Md_odds (nI a) a2 σ _
      unfold w_Md_odds
      rw [g.2.2.1.2.1, t0]
      exact mh_in g.2.2.1.1 hm4 ha (cb1 (wi_in (l := 0) (u := 1) rfl rfl lo hi (cb1 ⟨fun c => absurd rfl c, fun _ => ⟨rfl, h, g⟩⟩)))
