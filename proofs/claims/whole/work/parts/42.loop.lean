theorem law_end {X : Bx} {Y : Yx} {σ : Sg} {lv : List (Nat × Value)} {b : Nat} (C : Cx X Y code 4 "LoadCyclesLaw" 9 360) (hr : (xh X).sig.returnType = ret) (ha : xa X = #[Value.ref b]) (hR : xR X = room_1) (hA : ∀ q, yA Y q → (xs X).heap.size ≤ q) (hk : xk X ≤ 600000) (hn : xn X ≤ 7302250) : St X Y 4 (lw_Z (xb X) #[Value.ref b] (xs X)) 1161 lv [] σ := by
  refine q_iconst (pc := 1161) (v := 1) C d_law_1161 (by decide) ?_
  intro H locs ls hP hS hl
  refine va_forget (fun q hq => hA _ (hS.2.2 q hq)) ?_
  refine W.widen (k := 600000) (n := 7302250) hk hn ?_
  show W (xp X) (yl Y) (xe X) (xR X) (xs X) (xm X) (xa X) (xb X) (xh X) (xc X) H [] 600000 7302250 (lw_Z (xb X) #[Value.ref b] (xs X)) (F0 (xm X) (1161 + 1) ls [.int 1])
  rw [ha, hR]
  exact lw_ret C.1 C.2.1 hr C.2.2.2.2.2.2.2.1 d_law_1162
theorem law_ix {t N : Nat} (hN : N ≤ 3072) (h : 6 * t + 6 ≤ N) : ∀ j : Nat, j < 6 → vp_in (nI (6 * t) + Int32.ofNat j) N := by
  intro j hj
  show vp_in (nI (6 * t) + nI j) N
  rw [nI_add]
  exact vp_in_nI (by omega) (by omega)
set_option maxHeartbeats 4000000 in
set_option maxRecDepth 20000 in
theorem law_switch {Inv : Sg → Prop} (hs : HS Inv) {X : Bx} {Y : Yx} {Q : State → Prop} {σ : Sg} {b N : Nat} {zs : Nat → Int32} {i x : Int32} (C : Cx X Y code 4 "LoadCyclesLaw" 9 360) (hX : lwX X Y b N zs) (hin : ∀ j : Nat, j < 6 → vp_in (i + Int32.ofNat j) N) (hI : Inv σ) (hT : ∀ τ, Inv τ → St X Y 4 Q 1155 [(3, .int i), (2, .ref (ya Y 43)), (1, .ref (ya Y 0)), (0, .ref b)] [] τ) : St X Y 4 Q 33 [(3, .int i), (2, .ref (ya Y 43)), (1, .ref (ya Y 0)), (0, .ref b)] [.int x] σ := by
  obtain ⟨h_house, h_ofAppliance, h_level, h_meter, h_value, h_base, h_at, h_rest, h_best, h_energy, h_day, h_jump, h_ways, h_longest, h_share, h_mean, h_reading, h_back, h_kinds, h_firsts, h_odds, h_sheet, h_lose, h_put, h_cell, h_copy, h_tell, h_metered, h_as, h_trace, h_fault, h_many⟩ := hs
  by_cases g0 : x = (0 : Int32)
  · refine q_tableK (pc := 33) 176 (k := 0) (off := 143) C g0 (by decide) d_law_33 (by decide) (by decide) (by decide) (by decide) ?_
    exact law_house C hX hin hT (h_house _ _ _ _ _ hI)
  by_cases g1 : x = (1 : Int32)
  · refine q_tableK (pc := 33) 229 (k := 1) (off := 196) C g1 (by decide) d_law_33 (by decide) (by decide) (by decide) (by decide) ?_
    exact law_ofAppliance C hX hin hT (h_ofAppliance _ _ _ hI)
  by_cases g2 : x = (2 : Int32)
  · refine q_tableK (pc := 33) 262 (k := 2) (off := 229) C g2 (by decide) d_law_33 (by decide) (by decide) (by decide) (by decide) ?_
    exact law_level C hX hin hT (h_level _ _ _ _ hI)
  by_cases g3 : x = (3 : Int32)
  · refine q_tableK (pc := 33) 305 (k := 3) (off := 272) C g3 (by decide) d_law_33 (by decide) (by decide) (by decide) (by decide) ?_
    exact law_meter C hX hin hT (h_meter _ _ _ _ _ hI)
  by_cases g4 : x = (4 : Int32)
  · refine q_tableK (pc := 33) 358 (k := 4) (off := 325) C g4 (by decide) d_law_33 (by decide) (by decide) (by decide) (by decide) ?_
    exact law_value C hX hin hT (h_value _ _ hI)
  by_cases g5 : x = (5 : Int32)
  · refine q_tableK (pc := 33) 381 (k := 5) (off := 348) C g5 (by decide) d_law_33 (by decide) (by decide) (by decide) (by decide) ?_
    exact law_base C hX hin hT (h_base _ _ hI)
  by_cases g6 : x = (6 : Int32)
  · refine q_tableK (pc := 33) 404 (k := 6) (off := 371) C g6 (by decide) d_law_33 (by decide) (by decide) (by decide) (by decide) ?_
    exact law_at C hX hin hT (h_at _ _ _ hI)
  by_cases g7 : x = (7 : Int32)
  · refine q_tableK (pc := 33) 437 (k := 7) (off := 404) C g7 (by decide) d_law_33 (by decide) (by decide) (by decide) (by decide) ?_
    exact law_rest C hX hin hT (h_rest _ _ hI)
  by_cases g8 : x = (8 : Int32)
  · refine q_tableK (pc := 33) 460 (k := 8) (off := 427) C g8 (by decide) d_law_33 (by decide) (by decide) (by decide) (by decide) ?_
    exact law_best C hX hin hT (h_best _ _ hI)
  by_cases g9 : x = (9 : Int32)
  · refine q_tableK (pc := 33) 483 (k := 9) (off := 450) C g9 (by decide) d_law_33 (by decide) (by decide) (by decide) (by decide) ?_
    exact law_energy C hX hin hT (h_energy _ _ hI)
  by_cases g10 : x = (10 : Int32)
  · refine q_tableK (pc := 33) 506 (k := 10) (off := 473) C g10 (by decide) d_law_33 (by decide) (by decide) (by decide) (by decide) ?_
    exact law_day C hX hin hT (h_day _ _ _ _ _ _ hI)
  by_cases g11 : x = (11 : Int32)
  · refine q_tableK (pc := 33) 569 (k := 11) (off := 536) C g11 (by decide) d_law_33 (by decide) (by decide) (by decide) (by decide) ?_
    exact law_jump C hX hin hT (h_jump _ _ hI)
  by_cases g12 : x = (12 : Int32)
  · refine q_tableK (pc := 33) 592 (k := 12) (off := 559) C g12 (by decide) d_law_33 (by decide) (by decide) (by decide) (by decide) ?_
    exact law_ways C hX hin hT (h_ways _ _ hI)
  by_cases g13 : x = (13 : Int32)
  · refine q_tableK (pc := 33) 615 (k := 13) (off := 582) C g13 (by decide) d_law_33 (by decide) (by decide) (by decide) (by decide) ?_
    exact law_longest C hX hin hT (h_longest _ _ hI)
  by_cases g14 : x = (14 : Int32)
  · refine q_tableK (pc := 33) 638 (k := 14) (off := 605) C g14 (by decide) d_law_33 (by decide) (by decide) (by decide) (by decide) ?_
    exact law_share C hX hin hT (h_share _ _ hI)
  by_cases g15 : x = (15 : Int32)
  · refine q_tableK (pc := 33) 661 (k := 15) (off := 628) C g15 (by decide) d_law_33 (by decide) (by decide) (by decide) (by decide) ?_
    exact law_mean C hX hin hT (h_mean _ hI)
  by_cases g16 : x = (16 : Int32)
  · refine q_tableK (pc := 33) 675 (k := 16) (off := 642) C g16 (by decide) d_law_33 (by decide) (by decide) (by decide) (by decide) ?_
    exact law_reading C hX hin hT (h_reading _ _ _ hI)
  by_cases g17 : x = (17 : Int32)
  · refine q_tableK (pc := 33) 708 (k := 17) (off := 675) C g17 (by decide) d_law_33 (by decide) (by decide) (by decide) (by decide) ?_
    exact law_back C hX hin hT (h_back _ _ hI)
  by_cases g18 : x = (18 : Int32)
  · refine q_tableK (pc := 33) 731 (k := 18) (off := 698) C g18 (by decide) d_law_33 (by decide) (by decide) (by decide) (by decide) ?_
    exact law_kinds C hX hin hT (h_kinds _ _ hI)
  by_cases g19 : x = (19 : Int32)
  · refine q_tableK (pc := 33) 754 (k := 19) (off := 721) C g19 (by decide) d_law_33 (by decide) (by decide) (by decide) (by decide) ?_
    exact law_firsts C hX hin hT (h_firsts _ _ hI)
  by_cases g20 : x = (20 : Int32)
  · refine q_tableK (pc := 33) 777 (k := 20) (off := 744) C g20 (by decide) d_law_33 (by decide) (by decide) (by decide) (by decide) ?_
    exact law_odds C hX hin hT (h_odds _ _ _ hI)
  by_cases g21 : x = (21 : Int32)
  · refine q_tableK (pc := 33) 811 (k := 21) (off := 778) C g21 (by decide) d_law_33 (by decide) (by decide) (by decide) (by decide) ?_
    exact law_sheet C hX hin hT (h_sheet _ _ _ _ hI)
  by_cases g22 : x = (22 : Int32)
  · refine q_tableK (pc := 33) 854 (k := 22) (off := 821) C g22 (by decide) d_law_33 (by decide) (by decide) (by decide) (by decide) ?_
    exact law_lose C hX hin hT (h_lose _ _ hI)
  by_cases g23 : x = (23 : Int32)
  · refine q_tableK (pc := 33) 877 (k := 23) (off := 844) C g23 (by decide) d_law_33 (by decide) (by decide) (by decide) (by decide) ?_
    exact law_put C hX hin hT (h_put _ _ _ _ hI)
  by_cases g24 : x = (24 : Int32)
  · refine q_tableK (pc := 33) 920 (k := 24) (off := 887) C g24 (by decide) d_law_33 (by decide) (by decide) (by decide) (by decide) ?_
    exact law_cell C hX hin hT (h_cell _ _ _ _ hI)
  by_cases g25 : x = (25 : Int32)
  · refine q_tableK (pc := 33) 964 (k := 25) (off := 931) C g25 (by decide) d_law_33 (by decide) (by decide) (by decide) (by decide) ?_
    exact law_copy C hX hin hT (h_copy _ _ _ _ _ _ hI)
  by_cases g26 : x = (26 : Int32)
  · refine q_tableK (pc := 33) 1027 (k := 26) (off := 994) C g26 (by decide) d_law_33 (by decide) (by decide) (by decide) (by decide) ?_
    exact law_tell C hX hin hT (h_tell _ _ hI)
  by_cases g27 : x = (27 : Int32)
  · refine q_tableK (pc := 33) 1050 (k := 27) (off := 1017) C g27 (by decide) d_law_33 (by decide) (by decide) (by decide) (by decide) ?_
    exact law_metered C hX hin hT (h_metered _ _ hI)
  by_cases g28 : x = (28 : Int32)
  · refine q_tableK (pc := 33) 1073 (k := 28) (off := 1040) C g28 (by decide) d_law_33 (by decide) (by decide) (by decide) (by decide) ?_
    exact law_as C hX hin hT (h_as _ _ _ hI)
  by_cases g29 : x = (29 : Int32)
  · refine q_tableK (pc := 33) 1106 (k := 29) (off := 1073) C g29 (by decide) d_law_33 (by decide) (by decide) (by decide) (by decide) ?_
    exact law_trace C hX hin hT (h_trace _ hI)
  by_cases g30 : x = (30 : Int32)
  · refine q_tableK (pc := 33) 1119 (k := 30) (off := 1086) C g30 (by decide) d_law_33 (by decide) (by decide) (by decide) (by decide) ?_
    exact law_fault C hX hin hT (h_fault _ hI)
  by_cases g31 : x = (31 : Int32)
  · refine q_tableK (pc := 33) 1132 (k := 31) (off := 1099) C g31 (by decide) d_law_33 (by decide) (by decide) (by decide) (by decide) ?_
    exact law_many C hX hin hT (h_many _ _ hI)
  refine q_tableOut (pc := 33) 1155 C d_law_33 (by have e0 := sw_ne (k := 0) rfl g0; have e1 := sw_ne (k := 1) rfl g1; have e2 := sw_ne (k := 2) rfl g2; have e3 := sw_ne (k := 3) rfl g3; have e4 := sw_ne (k := 4) rfl g4; have e5 := sw_ne (k := 5) rfl g5; have e6 := sw_ne (k := 6) rfl g6; have e7 := sw_ne (k := 7) rfl g7; have e8 := sw_ne (k := 8) rfl g8; have e9 := sw_ne (k := 9) rfl g9; have e10 := sw_ne (k := 10) rfl g10; have e11 := sw_ne (k := 11) rfl g11; have e12 := sw_ne (k := 12) rfl g12; have e13 := sw_ne (k := 13) rfl g13; have e14 := sw_ne (k := 14) rfl g14; have e15 := sw_ne (k := 15) rfl g15; have e16 := sw_ne (k := 16) rfl g16; have e17 := sw_ne (k := 17) rfl g17; have e18 := sw_ne (k := 18) rfl g18; have e19 := sw_ne (k := 19) rfl g19; have e20 := sw_ne (k := 20) rfl g20; have e21 := sw_ne (k := 21) rfl g21; have e22 := sw_ne (k := 22) rfl g22; have e23 := sw_ne (k := 23) rfl g23; have e24 := sw_ne (k := 24) rfl g24; have e25 := sw_ne (k := 25) rfl g25; have e26 := sw_ne (k := 26) rfl g26; have e27 := sw_ne (k := 27) rfl g27; have e28 := sw_ne (k := 28) rfl g28; have e29 := sw_ne (k := 29) rfl g29; have e30 := sw_ne (k := 30) rfl g30; have e31 := sw_ne (k := 31) rfl g31; omega) (by decide) ?_
  exact hT _ hI
set_option maxHeartbeats 4000000 in
theorem law_loop {Inv : Sg → Prop} (hs : HS Inv) {X : Bx} {Y : Yx} {b N : Nat} {zs : Nat → Int32} (hN : N ≤ 3072) (C : Cx X Y code 4 "LoadCyclesLaw" 9 360) (hX : lwX X Y b N zs) (hr : (xh X).sig.returnType = ret) (ha : xa X = #[Value.ref b]) (hR : xR X = room_1) (hA : ∀ q, yA Y q → (xs X).heap.size ≤ q) (hk : xk X ≤ 600000) (hn : xn X ≤ 7302250) :
    ∀ (n t : Nat) (σ : Sg), 6 * t ≤ N + 6 → N + 6 < 6 * t + 6 * n + 6 → Inv σ → St X Y 4 (lw_Z (xb X) #[Value.ref b] (xs X)) 18 [(3, .int (nI (6 * t))), (2, .ref (ya Y 43)), (1, .ref (ya Y 0)), (0, .ref b)] [] σ := by
  intro n
  induction n with
  | zero =>
    intro t σ h1 h2 hI
    refine q_iload_n (pc := 18) C d_law_18 rfl 0 rfl ?_
    refine q_aload_n (pc := 19) C d_law_19 rfl 3 rfl ?_
    refine q_slen (pc := 20) C hX d_law_20 ?_
    refine q_bipush (pc := 21) (v := 6) C d_law_21 (by decide) ?_
    refine q_isub (pc := 23) C d_law_23 ?_
    refine q_icmp_gt (pc := 24) 1161 C d_law_24 (by decide) (fun hc => ?_) (fun hc => ?_)
    · exact law_end C hr ha hR hA hk hn
    · exact absurd (by
        have e1 : (nI N - 6).toInt = (N : Int) - 6 := pk_sub_toInt (a := N) (b := 6) (by omega) (by omega)
        have e2 : (nI (6 * t)).toInt = ((6 * t : Nat) : Int) := nI_toInt (by omega)
        exact Int32.lt_iff_toInt_lt.mpr (by rw [e1, e2]; omega)) hc
  | succ n ih =>
    intro t σ h1 h2 hI
    refine q_iload_n (pc := 18) C d_law_18 rfl 0 rfl ?_
    refine q_aload_n (pc := 19) C d_law_19 rfl 3 rfl ?_
    refine q_slen (pc := 20) C hX d_law_20 ?_
    refine q_bipush (pc := 21) (v := 6) C d_law_21 (by decide) ?_
    refine q_isub (pc := 23) C d_law_23 ?_
    refine q_icmp_gt (pc := 24) 1161 C d_law_24 (by decide) (fun hc => ?_) (fun hc => ?_)
    · exact law_end C hr ha hR hA hk hn
    · have hb : 6 * t + 6 ≤ N := by
        rcases Nat.lt_or_ge N (6 * t + 6) with q | q
        · exact absurd (by
            have e1 : (nI N - 6).toInt = (N : Int) - 6 := pk_sub_toInt (a := N) (b := 6) (by omega) (by omega)
            have e2 : (nI (6 * t)).toInt = ((6 * t : Nat) : Int) := nI_toInt (by omega)
            exact Int32.lt_iff_toInt_lt.mpr (by rw [e1, e2]; omega)) hc
        · exact q
      have hin := law_ix hN hb
      refine q_aload_n (pc := 27) C d_law_27 rfl 3 rfl ?_
      refine q_iload_n (pc := 28) C d_law_28 rfl 0 rfl ?_
      refine q_sld (pc := 29) C hX (vp_in_nI (by omega) (by omega)) d_law_29 ?_
      refine q_bipush (pc := 30) (v := 31) C d_law_30 (by decide) ?_
      refine q_iand (pc := 32) C d_law_32 ?_
      refine law_switch hs C hX hin hI (fun τ hτ => ?_)
      refine q_iinc (pc := 1155) (nI (6 * (t + 1))) [(3, .int (nI (6 * (t + 1)))), (2, .ref (ya Y 43)), (1, .ref (ya Y 0)), (0, .ref b)] C d_law_1155 0 rfl (nI_add (6 * t) 6) (by decide) rfl ?_
      refine q_goto (pc := 1158) 18 C d_law_1158 (by decide) ?_
      exact ih (t + 1) τ (by omega) (by omega) hτ
/-- the start of both systems -/
def sg0 : Sg := fun c => match c with
  | 22 => upd (upd (fun _ => 0) 3 26) 4 27
  | 33 => upd (fun _ => 0) 2 (-1)
  | 35 => upd (fun _ => 0) 2 (-1)
  | 37 => upd (fun _ => 0) 2 (-1)
  | 39 => upd (fun _ => 0) 2 (-1)
  | 44 => (upd (upd (upd (upd (fun _ => 0) (0 : Int32).toNatClampNeg (-9)) (1 : Int32).toNatClampNeg (-9)) (2 : Int32).toNatClampNeg (-9)) (3 : Int32).toNatClampNeg (-9))
  | _ => fun _ => 0
