def rn (p : Nat → Nat) (a : Nat) : Nat → Nat
  | 0 => 0
  | n + 1 => if dg (p n) a = 0 then 0 else rn p a n + 1
def lb (p : Nat → Nat) (a : Nat) : Nat → Nat
  | 0 => 0
  | n + 1 => if lb p a n < rn p a (n + 1) then rn p a (n + 1) else lb p a n
theorem rn_le (p : Nat → Nat) (a : Nat) : ∀ n, rn p a n ≤ n
  | 0 => Nat.le_refl _
  | n + 1 => by
    have := rn_le p a n
    simp only [rn]
    split <;> omega
theorem lb_le (p : Nat → Nat) (a : Nat) : ∀ n, lb p a n ≤ n
  | 0 => Nat.le_refl _
  | n + 1 => by
    have h1 := lb_le p a n
    have h2 := rn_le p a (n + 1)
    simp only [lb]
    split <;> omega
theorem H_longest (σ : Sg) (a1 : Int32) (I : Inv σ) : w_Lc_longest a1 σ (fun r0 τ0 => w_Md_longest a1 τ0 (fun r1 τ1 => r0 = r1 ∧ Inv τ1)) := by
  obtain ⟨h, g⟩ := I
  have ok := g.1
  have hm4 := g.1.1
  have T20 := ok.2.2.1
  unfold w_Lc_longest
  rcases ix a1 (hm h) (by omega) with o | ⟨a, ha, rfl⟩
  · refine ch_out g.2.1.1 o (ca0 ?_)
    show w_Md_longest a1 σ _
    unfold w_Md_longest
    exact mh_out g.2.2.1.1 hm4 o (ca0 ⟨rfl, h, g⟩)
  · refine ch_in g.2.1.1 hm4 ha (ca1 (p_known g (fun τ g d _ => ⟨rfl, ?_⟩)))
    have fin : w_Md_longest (nI a) τ (fun r1 τ1 => nI (lb (bst (Dh h)) a (hT h)) = r1 ∧ Inv τ1) := by
      unfold w_Md_longest
      refine mh_in g.2.2.1.1 hm4 ha (ca1 (p_found g (fun τ2 g m _ _ => ?_)))
      have key : ∀ n i, i + n = hT h → L_Md_longest_21 (nI a) (fun r1 τ1 => nI (lb (bst (Dh h)) a (hT h)) = r1 ∧ Inv τ1) (n + 1) (nI (lb (bst (Dh h)) a i)) (nI (rn (bst (Dh h)) a i)) (nI i) τ2 := by
        intro n
        induction n with
        | zero =>
          intro i hi
          have : i = hT h := by omega
          subst this
          unfold L_Md_longest_21
          rw [g.2.2.1.2.1]
          exact ⟨fun _ => ⟨rfl, h, g⟩, fun c => absurd ((n_le (by omega) (by omega)).mpr (Nat.le_refl _)) c⟩
        | succ n ih =>
          intro i hi
          have b1 := lb_le (bst (Dh h)) a i
          have b2 := rn_le (bst (Dh h)) a (i + 1)
          have step : ∀ z : Int32, z = nI (rn (bst (Dh h)) a (i + 1)) → B_Md_longest_51 (nI a) (fun r1 τ1 => nI (lb (bst (Dh h)) a (hT h)) = r1 ∧ Inv τ1) (fun a0 a1 a2 a3 => L_Md_longest_21 (nI a) (fun r1 τ1 => nI (lb (bst (Dh h)) a (hT h)) = r1 ∧ Inv τ1) (n + 1) a0 a1 a2 a3) (nI (lb (bst (Dh h)) a i)) (nI i) z τ2 := fun z ez => by
            have k := ih (i + 1) (by omega)
            subst ez
            unfold B_Md_longest_51 B_Md_longest_62
            rw [show (1 : Int32) = nI 1 from rfl, nI_add i 1]
            refine ⟨fun c => ?_, fun c => ?_⟩
            · have c : rn (bst (Dh h)) a (i + 1) ≤ lb (bst (Dh h)) a i := (n_le (by omega) (by omega)).mp c
              rw [show lb (bst (Dh h)) a (i + 1) = lb (bst (Dh h)) a i from if_neg (by omega)] at k
              exact k
            · have c : ¬ rn (bst (Dh h)) a (i + 1) ≤ lb (bst (Dh h)) a i := fun e => c ((n_le (by omega) (by omega)).mpr e)
              rw [show lb (bst (Dh h)) a (i + 1) = rn (bst (Dh h)) a (i + 1) from if_pos (by omega)] at k
              exact k
          have hvr := (m.1 i (by omega)).2
          unfold L_Md_longest_21
          rw [g.2.2.1.2.1, nI_c (by omega), (m.1 i (by omega)).1]
          refine ⟨fun c => absurd ((n_le (by omega) (by omega)).mp c) (by omega), fun _ => ⟨n_in (by omega) (by omega), p_Md_digit hvr.1 (by omega) ⟨fun c => step _ ?_, fun c => step _ ?_⟩⟩⟩
          · have c : ¬ dg (bst (Dh h) i) a = 0 := fun e => c (by rw [e]; rfl)
            rw [show rn (bst (Dh h)) a (i + 1) = rn (bst (Dh h)) a i + 1 from if_neg c, show (1 : Int32) = nI 1 from rfl, nI_add]
          · have d4 := dg_lt (bst (Dh h) i) a
            have c : dg (bst (Dh h) i) a = 0 := (n_eq0 (by omega)).mp c
            rw [show rn (bst (Dh h)) a (i + 1) = 0 from if_pos c]
            rfl
      exact ⟨hT h + 1, key (hT h) 0 (by omega)⟩
    have key : ∀ n i, i + n = hT h → L_Lc_longest_26 (nI a) 16 (fun r0 τ0 => w_Md_longest (nI a) τ0 (fun r1 τ1 => r0 = r1 ∧ Inv τ1)) (n + 1) (nI (lb (bst (Dh h)) a i)) (nI (rn (bst (Dh h)) a i)) (nI i) τ := by
      intro n
      induction n with
      | zero =>
        intro i hi
        have : i = hT h := by omega
        subst this
        unfold L_Lc_longest_26
        rw [g.2.1.2.1]
        exact ⟨fun _ => fin, fun c => absurd ((n_le (by omega) (by omega)).mpr (Nat.le_refl _)) c⟩
      | succ n ih =>
        intro i hi
        have b1 := lb_le (bst (Dh h)) a i
        have b2 := rn_le (bst (Dh h)) a (i + 1)
        have step : ∀ z : Int32, z = nI (rn (bst (Dh h)) a (i + 1)) → B_Lc_longest_56 (nI a) (fun r0 τ0 => w_Md_longest (nI a) τ0 (fun r1 τ1 => r0 = r1 ∧ Inv τ1)) (fun a0 a1 a2 a3 => L_Lc_longest_26 (nI a) 16 (fun r0 τ0 => w_Md_longest (nI a) τ0 (fun r1 τ1 => r0 = r1 ∧ Inv τ1)) (n + 1) a0 a1 a2 a3) 16 (nI (lb (bst (Dh h)) a i)) (nI i) z τ := fun z ez => by
          have k := ih (i + 1) (by omega)
          subst ez
          unfold B_Lc_longest_56
          intro y ey
          have e : y = nI (lb (bst (Dh h)) a (i + 1)) := by
            rw [ey]
            by_cases c : lb (bst (Dh h)) a i < rn (bst (Dh h)) a (i + 1)
            · rw [if_pos ((n_lt (by omega) (by omega)).mpr c), show lb (bst (Dh h)) a (i + 1) = rn (bst (Dh h)) a (i + 1) from if_pos c]
            · rw [if_neg (fun e => c ((n_lt (by omega) (by omega)).mp e)), show lb (bst (Dh h)) a (i + 1) = lb (bst (Dh h)) a i from if_neg c]
          rw [e, show (1 : Int32) = nI 1 from rfl, nI_add i 1]
          exact k
        unfold L_Lc_longest_26
        rw [g.2.1.2.1]
        refine ⟨fun c => absurd ((n_le (by omega) (by omega)).mp c) (by omega), fun _ => p_Do_stateOf (by omega) (by omega) ?_⟩
        rw [d.1 i a (by omega) ha]
        refine ⟨fun c => step _ ?_, fun c => step _ ?_⟩
        · have c : ¬ dg (bst (Dh h) i) a = 0 := fun e => c (by rw [e]; rfl)
          rw [show rn (bst (Dh h)) a (i + 1) = rn (bst (Dh h)) a i + 1 from if_neg c, show (1 : Int32) = nI 1 from rfl, nI_add]
        · have d4 := dg_lt (bst (Dh h) i) a
          have c : dg (bst (Dh h) i) a = 0 := (n_eq0 (by omega)).mp c
          rw [show rn (bst (Dh h)) a (i + 1) = 0 from if_pos c]
          rfl
    exact ⟨hT h + 1, key (hT h) 0 (by omega)⟩
/-! ways -/
def gs (D : Dt) (r s : Nat) : Nat → Int32
  | 0 => 0
  | i + 1 => if s.testBit i = true then gs D r s i + (nI (dp D i (nxt (dl D i) (dg r i))) - nI (dp D i (dg r i))) else gs D r s i
def fw (D : Dt) (r : Nat) (J : Int32) : Nat → Int32
  | 0 => 0
  | s + 1 => if gs D r s (dm D) = J then fw D r J s + 1 else fw D r J s
theorem p_ahead {h : Hh} {σ : Sg} {K : Int32 → Prop} {t a : Nat} (m : MB h σ) (T20 : hT h ≤ 20) (ht' : t < hT h) (ha : a < 4) (hK : K (nI (dg (pv (bst (Dh h)) t) a))) : w_Md_ahead (nI t) (nI a) σ K := by
  unfold w_Md_ahead
  refine ⟨fun ct => ?_, fun ct => ?_⟩
  · have t0 : t ≠ 0 := fun e => ct (by rw [e]; rfl)
    rw [show (1 : Int32) = nI 1 from rfl, n_sub (by omega), nI_c (by omega), (m.1 (t - 1) (by omega)).1]
    have e1 : pv (bst (Dh h)) t = bst (Dh h) (t - 1) := by
      match t, t0 with
      | s + 1, _ => rfl
    refine ⟨n_in (by omega) (by omega), p_Md_digit (m.1 (t - 1) (by omega)).2.1 ha ?_⟩
    rw [← e1]
    exact hK
  · have t0 : t = 0 := (n_eq0 (by omega)).mp ct
    have e1 : nI (dg (pv (bst (Dh h)) t) a) = 0 := by
      subst t0
      show nI (dg 0 a) = 0
      match a, ha with
      | 0, _ => rfl
      | 1, _ => rfl
      | 2, _ => rfl
      | 3, _ => rfl
      | j + 4, q => exact absurd q (by omega)
    rw [e1] at hK
    exact hK
theorem p_moreOf {h : Hh} {σ : Sg} {K : Int32 → Prop} {t a : Nat} (ok : HOk h) (R : RM' h σ) (m : MB h σ) (hr : vr (Dh h) (pv (bst (Dh h)) t)) (ht' : t < hT h) (ha : a < hm h) (hK : K (nI (dp (Dh h) a (nxt (dl (Dh h) a) (dg (pv (bst (Dh h)) t) a))) - nI (dp (Dh h) a (dg (pv (bst (Dh h)) t) a)))) : w_Md_moreOf (nI t) (nI a) σ K := by
  have hm4 := ok.1
  have l3 := (ok.2.1 a ha).2.2.1
  have l1 := (ok.2.1 a ha).2.1
  have hd := dg_h ok hr ha
  have d4 := dg_lt (pv (bst (Dh h)) t) a
  rw [dl_h ha] at hK
  unfold w_Md_moreOf
  have step : B_Md_moreOf_23 (nI t) (nI a) σ K (nI (dg (pv (bst (Dh h)) t) a)) (nI (dp (Dh h) a (dg (pv (bst (Dh h)) t) a))) := by
    unfold B_Md_moreOf_23
    rw [nI_c (by omega), (R.2.2.2.1 a ha).2.1]
    refine ⟨n_in (by omega) (by omega), fun c => ?_, fun c => ?_⟩
    · have c : ¬ dg (pv (bst (Dh h)) t) a = hl h a := fun e => c (by rw [e])
      refine p_Md_powerOf ok R ha (by omega) ?_
      rw [show nxt (hl h a) (dg (pv (bst (Dh h)) t) a) = dg (pv (bst (Dh h)) t) a + 1 from if_pos (by omega), dp_h ha (by omega) (by omega), show dg (pv (bst (Dh h)) t) a + 1 - 1 = dg (pv (bst (Dh h)) t) a by omega] at hK
      exact hK
    · have c : dg (pv (bst (Dh h)) t) a = hl h a := (n_eq (by omega) (by omega)).mp c
      rw [show nxt (hl h a) (dg (pv (bst (Dh h)) t) a) = 0 from if_neg (by omega), (Dh_ok ok).2.2.2.2.1] at hK
      exact hK
  refine p_ahead m ok.2.2.1 ht' (by omega) ⟨fun c => ?_, fun c => ?_⟩
  · have d0 : dg (pv (bst (Dh h)) t) a ≠ 0 := fun e => c (by rw [e]; rfl)
    rw [dp_h ha d0 hd] at step
    rw [show (1 : Int32) = nI 1 from rfl, n_sub (by omega)]
    exact p_Md_powerOf ok R ha (by omega) step
  · have d0 : dg (pv (bst (Dh h)) t) a = 0 := (n_eq0 (by omega)).mp c
    rw [d0, (Dh_ok ok).2.2.2.2.1] at step
    rw [d0]
    exact step
theorem p_gain {h : Hh} {σ : Sg} {K : Int32 → Prop} {t s : Nat} (ok : HOk h) (R : RC' 1 h σ) (d : DO 16 h σ) (hr : vr (Dh h) (pv (bst (Dh h)) t)) (ht' : t < hT h) (hs : s < 16) (hK : K (gs (Dh h) (pv (bst (Dh h)) t) s (hm h))) : w_Lc_powerGain 16 (nI t) (nI s) σ K := by
  have hm4 := ok.1
  have T20 := ok.2.2.1
  have key : ∀ n i, i + n = hm h → L_Lc_powerGain_6 16 (nI t) (nI s) σ K (n + 1) (gs (Dh h) (pv (bst (Dh h)) t) s i) (nI i) := by
    intro n
    induction n with
    | zero =>
      intro i hi
      have : i = hm h := by omega
      subst this
      unfold L_Lc_powerGain_6
      rw [R.1]
      exact ⟨fun _ => hK, fun c => absurd ((n_le (by omega) (by omega)).mpr (Nat.le_refl _)) c⟩
    | succ n ih =>
      intro i hi
      have k := ih (i + 1) (by omega)
      have q := bit_ok s hs i (by omega)
      unfold L_Lc_powerGain_6
      rw [R.1, show (1 : Int32) = nI 1 from rfl, nI_add i 1]
      refine ⟨fun c => absurd ((n_le (by omega) (by omega)).mp c) (by omega), fun _ => ⟨fun c => ?_, fun c => ?_⟩⟩
      · rw [show gs (Dh h) (pv (bst (Dh h)) t) s (i + 1) = gs (Dh h) (pv (bst (Dh h)) t) s i from if_neg (fun e => c (q.mpr e))] at k
        exact k
      · rw [show gs (Dh h) (pv (bst (Dh h)) t) s (i + 1) = _ from if_pos (q.mp c), dl_h (show i < hm h by omega)] at k
        have hd := dg_h ok hr (show i < hm h by omega)
        refine p_Do_stateAhead (p := bst (Dh h)) (by omega) (by omega) (fun u hu => d.1 u i (by omega) (by omega)) (p_Ho_stateAfter ok R (by omega) hd (p_Ho_powerIn ok R (by omega) ?_ (p_Ho_powerIn ok R (by omega) hd (fun z ez => ?_))))
        · exact nxt_lel _ _
        · rw [ez]
          exact k
  unfold w_Lc_powerGain
  exact ⟨hm h + 1, key (hm h) 0 (by omega)⟩
theorem H_ways (σ : Sg) (a1 : Int32) (I : Inv σ) : w_Lc_ways a1 σ (fun r0 τ0 => w_Md_ways a1 τ0 (fun r1 τ1 => r0 = r1 ∧ Inv τ1)) := by
  obtain ⟨h, g⟩ := I
  have ok := g.1
  have hm4 := g.1.1
  have T20 := ok.2.2.1
  have hD := Dh_ok ok
  have hB := bst_ok hD
  unfold w_Lc_ways
  rcases ix a1 (hT h) (by omega) with o | ⟨t, ht', rfl⟩
  · refine ct_out g.2.1.2.1 o (ca0 ?_)
    show w_Md_ways a1 σ _
    unfold w_Md_ways
    exact mt_out g.2.2.1.2.1 T20 o (ca0 ⟨rfl, h, g⟩)
  · have hr : vr (Dh h) (pv (bst (Dh h)) t) := fe_vr hD hB.1 t (Nat.le_of_lt ht')
    have p16 := pow_le (hm h) hm4
    refine ct_in g.2.1.2.1 T20 ht' (ca1 (p_known g (fun τ g d _ => ⟨rfl, p_jumpTo ok g.2.1 ht' ?_⟩)))
    obtain ⟨J, eJ⟩ : ∃ J : Int32, J = nI (hv h t) - nI (if t = 0 then hb h else hv h (t - 1)) := ⟨_, rfl⟩
    rw [← eJ]
    have fin : w_Md_ways (nI t) τ (fun r1 τ1 => fw (Dh h) (pv (bst (Dh h)) t) J (2 ^ hm h) = r1 ∧ Inv τ1) := by
      unfold w_Md_ways
      refine mt_in g.2.2.1.2.1 T20 ht' (ca1 (p_found g (fun τ2 g m _ _ => ?_)))
      have key : ∀ n s, s + n = 2 ^ hm h → L_Md_ways_18 (nI t) (fun r1 τ1 => fw (Dh h) (pv (bst (Dh h)) t) J (2 ^ hm h) = r1 ∧ Inv τ1) (n + 1) (fw (Dh h) (pv (bst (Dh h)) t) J s) (nI s) τ2 := by
        intro n
        induction n with
        | zero =>
          intro s hs
          have : s = 2 ^ hm h := by omega
          subst this
          unfold L_Md_ways_18
          rw [g.2.2.1.1, shl_ok (hm h) hm4]
          exact ⟨fun _ => ⟨rfl, h, g⟩, fun c => absurd ((n_le (by omega) (by omega)).mpr (Nat.le_refl _)) c⟩
        | succ n ih =>
          intro s hs
          have k := ih (s + 1) (by omega)
          have inner : ∀ n2 i, i + n2 = hm h → L_Md_ways_34 (nI t) (fw (Dh h) (pv (bst (Dh h)) t) J s) (nI s) (fun r1 τ1 => fw (Dh h) (pv (bst (Dh h)) t) J (2 ^ hm h) = r1 ∧ Inv τ1) (fun a0 a1 a2 => L_Md_ways_18 (nI t) (fun r1 τ1 => fw (Dh h) (pv (bst (Dh h)) t) J (2 ^ hm h) = r1 ∧ Inv τ1) (n + 1) a0 a1 a2) (n2 + 1) (gs (Dh h) (pv (bst (Dh h)) t) s i) (nI i) τ2 := by
            intro n2
            induction n2 with
            | zero =>
              intro i hi
              have : i = hm h := by omega
              subst this
              unfold L_Md_ways_34
              rw [g.2.2.1.1]
              refine ⟨fun _ => p_jumpOf ok g.2.2.1 ht' ?_, fun c => absurd ((n_le (by omega) (by omega)).mpr (Nat.le_refl _)) c⟩
              rw [← eJ]
              refine ⟨fun c => ?_, fun c => ?_⟩
              · unfold B_Md_ways_91
                intro y ey
                rw [show fw (Dh h) (pv (bst (Dh h)) t) J (s + 1) = fw (Dh h) (pv (bst (Dh h)) t) J s from if_neg c] at k
                rw [ey, Int32.add_zero, show (1 : Int32) = nI 1 from rfl, nI_add s 1]
                exact k
              · unfold B_Md_ways_91
                intro y ey
                rw [show fw (Dh h) (pv (bst (Dh h)) t) J (s + 1) = fw (Dh h) (pv (bst (Dh h)) t) J s + 1 from if_pos c] at k
                rw [show nI s + 1 = nI (s + 1) from by rw [show (1 : Int32) = nI 1 from rfl, nI_add s 1], ey]
                exact k
            | succ n2 ih2 =>
              intro i hi
              have k2 := ih2 (i + 1) (by omega)
              have q := bit_ok s (by omega) i (by omega)
              unfold L_Md_ways_34
              rw [g.2.2.1.1]
              refine ⟨fun c => absurd ((n_le (by omega) (by omega)).mp c) (by omega), fun _ => ⟨fun c => ?_, fun c => ?_⟩⟩
              · unfold B_Md_ways_66
                intro y ey
                rw [show gs (Dh h) (pv (bst (Dh h)) t) s (i + 1) = gs (Dh h) (pv (bst (Dh h)) t) s i from if_neg (fun e => c (q.mpr e))] at k2
                rw [ey, Int32.add_zero, show (1 : Int32) = nI 1 from rfl, nI_add i 1]
                exact k2
              · refine p_moreOf ok g.2.2.1 m hr ht' (by omega) ?_
                unfold B_Md_ways_66
                intro y ey
                rw [show gs (Dh h) (pv (bst (Dh h)) t) s (i + 1) = _ from if_pos (q.mp c)] at k2
                rw [ey, show (1 : Int32) = nI 1 from rfl, nI_add i 1]
                exact k2
          unfold L_Md_ways_18
          rw [g.2.2.1.1, shl_ok (hm h) hm4]
          exact ⟨fun c => absurd ((n_le (by omega) (by omega)).mp c) (by omega), fun _ => ⟨hm h + 1, inner (hm h) 0 (by omega)⟩⟩
      exact ⟨2 ^ hm h + 1, key (2 ^ hm h) 0 (by omega)⟩
    have key : ∀ n s, s + n = 2 ^ hm h → L_Lc_ways_33 (nI t) 16 J (fun r0 τ0 => w_Md_ways (nI t) τ0 (fun r1 τ1 => r0 = r1 ∧ Inv τ1)) (n + 1) (fw (Dh h) (pv (bst (Dh h)) t) J s) (nI s) τ := by
      intro n
      induction n with
      | zero =>
        intro s hs
        have : s = 2 ^ hm h := by omega
        subst this
        unfold L_Lc_ways_33
        rw [g.2.1.1, shl_ok (hm h) hm4]
        exact ⟨fun _ => fin, fun c => absurd ((n_le (by omega) (by omega)).mpr (Nat.le_refl _)) c⟩
      | succ n ih =>
        intro s hs
        have k := ih (s + 1) (by omega)
        unfold L_Lc_ways_33
        rw [g.2.1.1, shl_ok (hm h) hm4]
        refine ⟨fun c => absurd ((n_le (by omega) (by omega)).mp c) (by omega), fun _ => p_gain ok g.2.1 d hr ht' (by omega) ⟨fun c => ?_, fun c => ?_⟩⟩
        · rw [show fw (Dh h) (pv (bst (Dh h)) t) J (s + 1) = fw (Dh h) (pv (bst (Dh h)) t) J s from if_neg c] at k
          rw [show (1 : Int32) = nI 1 from rfl, nI_add s 1]
          exact k
        · rw [show fw (Dh h) (pv (bst (Dh h)) t) J (s + 1) = fw (Dh h) (pv (bst (Dh h)) t) J s + 1 from if_pos c] at k
          rw [show nI s + 1 = nI (s + 1) from by rw [show (1 : Int32) = nI 1 from rfl, nI_add s 1]]
          exact k
    exact ⟨2 ^ hm h + 1, key (2 ^ hm h) 0 (by omega)⟩
