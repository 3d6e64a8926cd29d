theorem p_Do_stateOf {o : Nat} {σ : Sg} {K : Int32 → Prop} {t a : Nat} (ht : t < 20) (ha : a < 4) (hK : K (σ (o + 1) (4 * t + a))) : w_Do_stateOf o (nI t) (nI a) σ K := by
  unfold w_Do_stateOf
  rw [show (4 : Int32) = nI 4 from rfl, pk_mul, nI_add, nI_c (by omega)]
  refine ⟨n_in (by omega) (by omega), ?_⟩
  rw [show t * 4 + a = 4 * t + a by omega]
  exact hK
/-- how an appliance is ahead of a time -/
theorem p_Do_stateAhead {o : Nat} {σ : Sg} {K : Int32 → Prop} {p : Nat → Nat} {t a : Nat} (ht : t < 20) (ha : a < 4) (hs : ∀ s, s < t → σ (o + 1) (4 * s + a) = nI (dg (p s) a)) (hK : K (nI (dg (pv p t) a))) : w_Do_stateAhead o (nI t) (nI a) σ K := by
  unfold w_Do_stateAhead
  cases t with
  | zero =>
    refine ⟨fun g => absurd rfl g, fun _ => ?_⟩
    have e : dg (pv p 0) a = 0 := by
      show dg 0 a = 0
      unfold dg
      split <;> rfl
    rw [e] at hK
    exact hK
  | succ t =>
    refine ⟨fun _ => ?_, fun g => absurd (show t + 1 = 0 from (n_eq (by omega) (by omega)).mp g) (by omega)⟩
    rw [show (1 : Int32) = nI 1 from rfl, n_sub (by omega), show t + 1 - 1 = t by omega]
    refine p_Do_stateOf (by omega) ha ?_
    rw [hs t (by omega)]
    exact hK
theorem p_Do_add {o o1 : Nat} {h : Hh} {σ : Sg} {K : Sg → Prop} {p : Nat → Nat} {t a f d : Nat} (ok : HOk h) (ho : kd o = 0) (ho1 : kd o1 = 2) (R : RC' o1 h σ) (ht : t < hT h) (ha : a < hm h) (hf : f ≤ 1) (hp : dg (pv p t) a ≤ hl h a) (hd : d = if f = 1 then nxt (hl h a) (dg (pv p t) a) else dg (pv p t) a) (hs : ∀ s, s < t → σ (o + 1) (4 * s + a) = nI (dg (p s) a))
    (hK : ∀ τ : Sg, (∀ c, c ≠ o → c ≠ o + 1 → c ≠ o + 2 → τ c = σ c) → τ (o + 1) = upd (σ (o + 1)) (4 * t + a) (nI d) → τ (o + 2) = upd (σ (o + 2)) a (σ (o + 2) a + nI (dp (Dh h) a d)) → τ o 2 = σ o 2 + nI (dp (Dh h) a d) → τ o 3 = σ o 3 - nI (dp (Dh h) a d) → τ o 4 = σ o 4 + nI f → τ o 5 = σ o 5 + nI (if f = 1 ∧ dg (pv p t) a = 0 then 1 else 0) → K τ) : w_Do_add o o1 (nI t) (nI a) (nI f) σ K := by
  have hm4 := ok.1
  have hT20 := ok.2.2.1
  have hl3 := (ok.2.1 a ha).2.2.1
  have hdl : d ≤ hl h a := by
    rw [hd]
    split
    · exact nxt_lel _ _
    · exact hp
  have main : B_Do_add_25 o o1 (nI t) (nI a) (nI f) K (nI (dg (pv p t) a)) (nI d) σ := by
    unfold B_Do_add_25
    refine p_Ho_powerIn ok R ha hdl ?_
    rw [show (4 : Int32) = nI 4 from rfl, pk_mul, nI_add, nI_c (by omega), nI_c (by omega), show t * 4 + a = 4 * t + a by omega]
    refine ⟨n_in (by omega) (by omega), fun τ47 e47 => ⟨n_in (by omega) (by omega), n_in (by omega) (by omega), fun τ58 e58 τ67 e67 τ78 e78 => ?_⟩⟩
    have g1 : τ78 (o + 1) = upd (σ (o + 1)) (4 * t + a) (nI d) := by rw [e78, e67, e58, e47, s2_ne (by omega), s2_ne (by omega), s2_ne (by omega), s2_eq]
    have g2 : τ78 (o + 2) = upd (σ (o + 2)) a (σ (o + 2) a + nI (dp (Dh h) a d)) := by rw [e78, e67, e58, e47, s2_ne (by omega), s2_ne (by omega), s2_eq, s2_ne (by omega)]
    have g3 : τ78 o 2 = σ o 2 + nI (dp (Dh h) a d) := by rw [e78, e67, e58, e47, s2_ai (by omega), s2_at, s2_ne (by omega), s2_ne (by omega)]
    have g4 : τ78 o 3 = σ o 3 - nI (dp (Dh h) a d) := by rw [e78, s2_at, e67, s2_ai (by omega), e58, e47, s2_ne (by omega), s2_ne (by omega)]
    have g5 : τ78 o 4 = σ o 4 := by rw [e78, e67, e58, e47, s2_ai (by omega), s2_ai (by omega), s2_ne (by omega), s2_ne (by omega)]
    have g6 : τ78 o 5 = σ o 5 := by rw [e78, e67, e58, e47, s2_ai (by omega), s2_ai (by omega), s2_ne (by omega), s2_ne (by omega)]
    have g0 : ∀ c, c ≠ o → c ≠ o + 1 → c ≠ o + 2 → τ78 c = σ c := fun c c1 c2 c3 => by rw [e78, e67, e58, e47, s2_ne c1, s2_ne c1, s2_ne c3, s2_ne c2]
    refine ⟨fun q => ?_, fun q => ?_⟩
    · have f0 : f = 0 := (n_eq (by omega) (by omega)).mp q
      refine hK τ78 g0 g1 g2 g3 g4 ?_ ?_
      · rw [g5, f0]; exact (Int32.add_zero _).symm
      · rw [g6, if_neg (fun q => by omega)]; exact (Int32.add_zero _).symm
    · have f1 : f = 1 := by
        rcases Nat.eq_zero_or_pos f with e | e
        · exact absurd (by rw [e]; rfl) q
        · omega
      intro τ93 e93
      have k0 : ∀ (v : Nat) (c : Nat), c ≠ o → c ≠ o + 1 → c ≠ o + 2 → s2 τ93 o 5 (τ93 o 5 + nI v) c = σ c := fun v c c1 c2 c3 => by rw [s2_ne c1, e93, s2_ne c1]; exact g0 c c1 c2 c3
      have k1 : ∀ v : Nat, s2 τ93 o 5 (τ93 o 5 + nI v) (o + 1) = upd (σ (o + 1)) (4 * t + a) (nI d) := fun v => by rw [s2_ne (by omega), e93, s2_ne (by omega)]; exact g1
      have k2 : ∀ v : Nat, s2 τ93 o 5 (τ93 o 5 + nI v) (o + 2) = upd (σ (o + 2)) a (σ (o + 2) a + nI (dp (Dh h) a d)) := fun v => by rw [s2_ne (by omega), e93, s2_ne (by omega)]; exact g2
      have k3 : ∀ v : Nat, s2 τ93 o 5 (τ93 o 5 + nI v) o 2 = σ o 2 + nI (dp (Dh h) a d) := fun v => by rw [s2_ai (by omega), e93, s2_ai (by omega)]; exact g3
      have k4 : ∀ v : Nat, s2 τ93 o 5 (τ93 o 5 + nI v) o 3 = σ o 3 - nI (dp (Dh h) a d) := fun v => by rw [s2_ai (by omega), e93, s2_ai (by omega)]; exact g4
      have k5 : ∀ v : Nat, s2 τ93 o 5 (τ93 o 5 + nI v) o 4 = σ o 4 + nI f := fun v => by rw [s2_ai (by omega), e93, s2_at, g5, f1]; rfl
      have k6 : ∀ v : Nat, s2 τ93 o 5 (τ93 o 5 + nI v) o 5 = σ o 5 + nI v := fun v => by rw [s2_at, e93, s2_ai (by omega), g6]
      refine ⟨fun w => ?_, fun w => ?_⟩
      · have hb : dg (pv p t) a ≠ 0 := fun e => w (by rw [e]; rfl)
        unfold B_Do_add_111
        intro τ112 e112
        subst e112
        exact hK _ (k0 0) (k1 0) (k2 0) (k3 0) (k4 0) (k5 0) (by rw [if_neg (fun q => hb q.2)]; exact k6 0)
      · have hb : dg (pv p t) a = 0 := (n_eq (by omega) (by omega)).mp w
        unfold B_Do_add_111
        intro τ112 e112
        subst e112
        exact hK _ (k0 1) (k1 1) (k2 1) (k3 1) (k4 1) (k5 1) (by rw [if_pos ⟨f1, hb⟩]; exact k6 1)
  unfold w_Do_add
  refine p_Do_stateAhead (p := p) (by omega) (by omega) hs ⟨fun q => ?_, fun q => ?_⟩
  · have f0 : f = 0 := (n_eq (by omega) (by omega)).mp q
    rw [if_neg (by omega)] at hd
    rw [hd] at main
    exact main
  · have f1 : f = 1 := by
      rcases Nat.eq_zero_or_pos f with e | e
      · exact absurd (by rw [e]; rfl) q
      · omega
    rw [if_pos f1] at hd
    refine p_Ho_stateAfter ok R ha hp ?_
    rw [← hd]
    exact main
/-- a time's appliances, one after the other -/
theorem q_L51 {o o1 : Nat} {h : Hh} {K : Sg → Prop} {r20 : Int32 → Int32 → Sg → Prop} {p : Nat → Nat} {t s : Nat} {v3 : Int32} {σ0 : Sg} (ok : HOk h) (ho : kd o = 0) (ho1 : kd o1 = 2) (R : RC' o1 h σ0) (ht : t < hT h) (hr : vr (Dh h) (pv p t)) (hs : s < 16) (hp : p t = go (Dh h) (pv p t) (bs s)) (S0 : DS o h p t 0 σ0)
    (hK : ∀ τ : Sg, (∀ c, c ≠ o → c ≠ o + 1 → c ≠ o + 2 → τ c = σ0 c) → DS o h p (t + 1) 0 τ → r20 v3 (nI (t + 1)) τ) : ∃ n, L_Un_unmix_51 o1 o v3 (nI t) (nI s) K r20 n (nI 0) σ0 := by
  have hD := Dh_ok ok
  have hm4 := ok.1
  have hT20 := ok.2.2.1
  have hne : ∀ j, j < 5 → ∀ k, k < 3 → o1 + j ≠ o + k := by
    have := kd2 ho1
    have := kd0 ho
    omega
  have hR : ∀ τ : Sg, (∀ c, c ≠ o → c ≠ o + 1 → c ≠ o + 2 → τ c = σ0 c) → RC' o1 h τ := fun τ e => by
    have q : ∀ j, j < 5 → τ (o1 + j) = σ0 (o1 + j) := fun j hj => e _ (hne j hj 0 (by omega)) (hne j hj 1 (by omega)) (hne j hj 2 (by omega))
    exact R.of (q 0 (by omega)) (q 1 (by omega)) (q 2 (by omega)) (q 3 (by omega)) (q 4 (by omega))
  have hq : vr (Dh h) (p t) := by rw [hp]; exact vr_go hD hr _
  have key : ∀ n i (σ : Sg), i + n = hm h → (∀ c, c ≠ o → c ≠ o + 1 → c ≠ o + 2 → σ c = σ0 c) → DS o h p t i σ → L_Un_unmix_51 o1 o v3 (nI t) (nI s) K r20 (n + 1) (nI i) σ := by
    intro n
    induction n with
    | zero =>
      intro i σ hi h1 S
      have : i = hm h := by omega
      subst this
      unfold L_Un_unmix_51
      rw [(hR σ h1).1, show (1 : Int32) = nI 1 from rfl, nI_add]
      refine ⟨fun _ => hK σ h1 ?_, fun g => absurd ((n_le (by omega) (by omega)).mpr (Nat.le_refl _)) g⟩
      obtain ⟨d1, d2, d3, d4, d5, d6, d7⟩ := S
      have e1 : pu (Dh h) (p t) (hm h) = PP (Dh h) (p t) := pu_m hD hq
      have e2 : cu (pv p t) (p t) (hm h) = ch (pv p t) (p t) := cu_m hD hr hq
      have e3 : su (pv p t) (p t) (hm h) = s4 (pv p t) (p t) := su_m hD hr hq
      rw [e1] at d4 d5
      rw [e2] at d6
      rw [e3] at d7
      refine ⟨fun u a hu ha => ?_, fun a ha => absurd ha (by omega), fun a ha => ?_, d4, d5, d6, d7⟩
      · rcases Nat.lt_or_ge u t with g | g
        · exact d1 u a g ha
        · have : u = t := by omega
          subst this
          exact d2 a ha
      · rw [d3 a ha, if_pos ha, if_neg (by omega)]
        rfl
    | succ n ih =>
      intro i σ hi h1 S
      have hih : i < hm h := by omega
      obtain ⟨d1, d2, d3, d4, d5, d6, d7⟩ := S
      have hpi : dg (pv p t) i ≤ hl h i := by have := hr.2 i (by omega); rw [dl_h hih] at this; exact this
      have edg : dg (p t) i = if bs s i = true then nxt (hl h i) (dg (pv p t) i) else dg (pv p t) i := by
        rw [hp, dg_go hD _ _ i (by omega), dl_h hih]
        by_cases g : bs s i = true
        · rw [if_pos ⟨hih, g⟩, if_pos g]
        · rw [if_neg (fun q => g q.2), if_neg g]
      have hlev := (ok.2.1 i hih).2.1
      have ec1 : ∀ f : Nat, f = (if bs s i = true then 1 else 0) → c1 (pv p t) (p t) i = f := fun f hf => by
        unfold c1
        rw [edg, hf]
        by_cases g : bs s i = true
        · rw [if_pos g, if_pos g, if_neg (fun e => nxt_ne hlev e.symm)]
        · rw [if_neg g, if_neg g, if_pos rfl]
      have es1 : ∀ f : Nat, f = (if bs s i = true then 1 else 0) → su1 (pv p t) (p t) i = if f = 1 ∧ dg (pv p t) i = 0 then 1 else 0 := fun f hf => by
        unfold su1
        rw [edg, hf]
        by_cases g : bs s i = true
        · rw [if_pos g, if_pos g]
          by_cases g2 : dg (pv p t) i = 0
          · rw [if_pos ⟨g2, fun e => nxt_ne hlev (e.trans g2.symm)⟩, if_pos ⟨rfl, g2⟩]
          · rw [if_neg (fun q => g2 q.1), if_neg (fun q => g2 q.2)]
        · rw [if_neg g, if_neg g, if_neg (fun q => q.2 q.1), if_neg (fun q => by omega)]
      have step : ∀ f : Nat, f ≤ 1 → f = (if bs s i = true then 1 else 0) → w_Do_add o o1 (nI t) (nI i) (nI f) σ (fun τ82 => L_Un_unmix_51 o1 o v3 (nI t) (nI s) K r20 (n + 1) (nI i + 1) τ82) := fun f hf1 hf => by
        refine p_Do_add (p := p) (d := dg (p t) i) ok ho ho1 (hR σ h1) ht hih hf1 hpi ?_ (fun u hu => d1 u i hu hih) (fun τ k0 k1 k2 k3 k4 k5 k6 => ?_)
        · rw [edg, hf]
          by_cases g : bs s i = true
          · rw [if_pos g, if_pos g, if_pos rfl]
          · rw [if_neg g, if_neg g, if_neg (by omega)]
        · rw [show (1 : Int32) = nI 1 from rfl, nI_add]
          refine ih (i + 1) τ (by omega) (fun c c1 c2 c3 => (k0 c c1 c2 c3).trans (h1 c c1 c2 c3)) ⟨fun u a hu ha => ?_, fun a ha => ?_, fun a ha => ?_, ?_, ?_, ?_, ?_⟩
          · rw [k1, pk_un (by omega)]; exact d1 u a hu ha
          · by_cases e : a = i
            · subst e; rw [k1, pk_us]
            · rw [k1, pk_un (by omega)]; exact d2 a (by omega)
          · by_cases e : a = i
            · subst e
              rw [k2, pk_us, d3 a ha, if_neg (by omega), if_pos (by omega), nI_add]
              rfl
            · rw [k2, pk_un e, d3 a ha]
              by_cases g : a < i
              · rw [if_pos g, if_pos (by omega)]
              · rw [if_neg g, if_neg (by omega)]
          · rw [k3, d4, nI_add, Nat.add_assoc]; rfl
          · rw [k4, d5, i_ss, nI_add, Nat.add_assoc]; rfl
          · rw [k5, d6, nI_add, ← ec1 f hf, Nat.add_assoc]; rfl
          · rw [k6, d7, nI_add, ← es1 f hf, Nat.add_assoc]; rfl
      unfold L_Un_unmix_51
      rw [(hR σ h1).1, bit_ok s hs i (by omega)]
      refine ⟨fun g => absurd ((n_le (by omega) (by omega)).mp g) (by omega), fun _ => ⟨fun g => ?_, fun g => ?_⟩⟩
      · unfold B_Un_unmix_82
        exact step 0 (by omega) (by rw [if_neg (show ¬ bs s i = true from g)])
      · unfold B_Un_unmix_82
        exact step 1 (by omega) (by rw [if_pos (show bs s i = true from g)])
  exact ⟨hm h + 1, key (hm h) 0 σ0 (by omega) (fun _ _ _ _ => rfl) S0⟩
/-- what a Doing holds of BEST -/
def DO (o : Nat) (h : Hh) (σ : Sg) : Prop :=
  (∀ t a, t < hT h → a < hm h → σ (o + 1) (4 * t + a) = nI (dg (bst (Dh h) t) a)) ∧ (∀ a, a < hm h → σ (o + 2) a = nI (en (Dh h) (bst (Dh h)) a (hT h))) ∧
  σ o 2 = nI (pe (Dh h) (bst (Dh h)) (hT h)) ∧ σ o 3 = nI (re (Dh h) (hT h) (bst (Dh h))) ∧ σ o 4 = nI (cg (hT h) (bst (Dh h))) ∧ σ o 5 = nI (sgn (bst (Dh h)) (hT h))
theorem DS_congr {o : Nat} {h : Hh} {p q : Nat → Nat} {t : Nat} {σ : Sg} (e : ∀ s, s < t → p s = q s) (S : DS o h p t 0 σ) : DS o h q t 0 σ := by
  obtain ⟨d1, d2, d3, d4, d5, d6, d7⟩ := S
  refine ⟨fun s a hs ha => by rw [← e s hs]; exact d1 s a hs ha, fun a ha => absurd ha (by omega), fun a ha => ?_, ?_, ?_, ?_, ?_⟩
  · rw [d3 a ha, if_neg (by omega), if_neg (by omega), en_congr e]
  · rw [d4, pe_congr e]; rfl
  · rw [d5, pe_congr e]; rfl
  · rw [d6, cg_congr e]; rfl
  · rw [d7, sgn_congr e]; rfl
theorem p_unmix {o o1 : Nat} {h : Hh} {σ0 : Sg} {K : Sg → Prop} (ok : HOk h) (ho : kd o = 0) (ho1 : kd o1 = 2) (R : RC' o1 h σ0) (hu : ∃ E Q, UE σ0 E Q)
    (hK : ∀ τ : Sg, (∀ c, c ≠ 22 → c ≠ 23 → c ≠ 24 → c ≠ 25 → c ≠ 26 → c ≠ 27 → c ≠ o → c ≠ o + 1 → c ≠ o + 2 → τ c = σ0 c) → (∃ E Q, UE τ E Q) → DO o h τ → K τ) : w_Un_unmix o1 o σ0 K := by
  have hD := Dh_ok ok
  have hm4 := ok.1
  have hT20 := ok.2.2.1
  have q2 := kd2 ho1
  have q0 := kd0 ho
  have hR : ∀ τ : Sg, (∀ c, c ≠ 22 → c ≠ 23 → c ≠ 24 → c ≠ 25 → c ≠ 26 → c ≠ 27 → c ≠ o → c ≠ o + 1 → c ≠ o + 2 → τ c = σ0 c) → RC' o1 h τ := fun τ e => by
    have q : ∀ j, j < 5 → τ (o1 + j) = σ0 (o1 + j) := fun j hj => e _ (by omega) (by omega) (by omega) (by omega) (by omega) (by omega) (by omega) (by omega) (by omega)
    exact R.of (q 0 (by omega)) (q 1 (by omega)) (q 2 (by omega)) (q 3 (by omega)) (q 4 (by omega))
  unfold w_Un_unmix
  refine p_listMixes ok ho1 R (fun τ2 a1 a2 L => ?_)
  have hu2 : ∃ E Q, UE τ2 E Q := by
    obtain ⟨E, Q, u⟩ := hu
    exact ⟨E, Q, u.1, by rw [a2 3 (by omega)]; exact u.2.1, by rw [a2 4 (by omega)]; exact u.2.2⟩
  refine p_findCosts ok ho1 (hR τ2 (fun c c1 c2 c3 _ _ _ _ _ _ => a1 c c1 c2 c3)) L hu2 (fun τ7 b1 b2 T U => ?_)
  have fr7 : ∀ c, c ≠ 22 → c ≠ 23 → c ≠ 24 → c ≠ 25 → c ≠ 26 → c ≠ 27 → c ≠ o → c ≠ o + 1 → c ≠ o + 2 → τ7 c = σ0 c := fun c c1 c2 c3 c4 c5 c6 _ _ _ => (b1 c c1 c4 c5 c6).trans (a1 c c1 c2 c3)
  refine p_Do_begin (p := fun _ => 0) ok ho ho1 (hR τ7 fr7) (fun τ12 d1 S0 => ?_)
  have L12 : ∀ τ : Sg, (∀ c, c ≠ o → c ≠ o + 1 → c ≠ o + 2 → τ c = τ7 c) → LT (Dh h) 0 τ ∧ CT h 0 τ ∧ (∃ E Q, UE τ E Q) ∧ RC' o1 h τ := fun τ e => by
    have e22 : τ 22 = τ7 22 := e 22 (by omega) (by omega) (by omega)
    refine ⟨(L.of (b2 5 (by omega) (by omega)) (b1 23 (by omega) (by omega) (by omega) (by omega)) (b1 24 (by omega) (by omega) (by omega) (by omega))).of (by rw [e22]) (e 23 (by omega) (by omega) (by omega)) (e 24 (by omega) (by omega) (by omega)), ?_, ?_, hR τ (fun c c1 c2 c3 c4 c5 c6 c7 c8 c9 => (e c c7 c8 c9).trans (fr7 c c1 c2 c3 c4 c5 c6 c7 c8 c9))⟩
    · unfold CT
      rw [e 25 (by omega) (by omega) (by omega)]
      exact T
    · obtain ⟨E, Q, u⟩ := U
      exact ⟨E, Q, u.1, by rw [e22]; exact u.2.1, by rw [e22]; exact u.2.2⟩
  have key : ∀ n t (p : Nat → Nat) (σ : Sg), t + n = hT h → (∀ c, c ≠ o → c ≠ o + 1 → c ≠ o + 2 → σ c = τ7 c) → (∀ s, s < t → ∃ S : Nat → Bool, p s = go (Dh h) (pv p s) S ∧ ∀ S' : Nat → Bool, CC (Dh h) s (p s) + pop (hm h) S < CC (Dh h) s (go (Dh h) (pv p s) S') + pop (hm h) S' ∨ (CC (Dh h) s (p s) + pop (hm h) S = CC (Dh h) s (go (Dh h) (pv p s) S') + pop (hm h) S' ∧ p s ≤ go (Dh h) (pv p s) S')) → vr (Dh h) (pv p t) → DS o h p t 0 σ → L_Un_unmix_20 o1 o K (n + 1) (nI (fl (Dh h) 0 (pv p t))) (nI t) σ := by
    intro n
    induction n with
    | zero =>
      intro t p σ hi h1 hg hv S
      have : t = hT h := by omega
      subst this
      obtain ⟨_, _, U', R'⟩ := L12 σ h1
      unfold L_Un_unmix_20
      rw [R'.2.1]
      refine ⟨fun _ => hK σ (fun c c1 c2 c3 c4 c5 c6 c7 c8 c9 => (h1 c c7 c8 c9).trans (fr7 c c1 c2 c3 c4 c5 c6 c7 c8 c9)) U' ?_, fun g => absurd ((n_le (by omega) (by omega)).mpr (Nat.le_refl _)) g⟩
      have hgr : greedy (Dh h) p := hg
      have hB := IsB_w hD (greedy_IsB hD hgr)
      have eb : ∀ s, s < hT h → p s = bst (Dh h) s := greedy_bst hD hgr
      have S' := DS_congr (q := bst (Dh h)) eb S
      have hfe : fe (Dh h) (hT h) p := hB.1
      have hre := pe_re hfe
      rw [pe_congr eb, re_congr eb] at hre
      obtain ⟨e1, e2, e3, e4, e5, e6, e7⟩ := S'
      refine ⟨e1, fun a ha => ?_, e4, ?_, e6, e7⟩
      · rw [e3 a ha, if_neg (by omega)]; rfl
      · rw [e5]
        show nI _ - nI (pe (Dh h) (bst (Dh h)) (hT h) + 0) = _
        rw [n_sub (by omega), show sdv (Dh h) (hT h) - (pe (Dh h) (bst (Dh h)) (hT h) + 0) = re (Dh h) (hT h) (bst (Dh h)) by omega]
    | succ n ih =>
      intro t p σ hi h1 hg hv S
      have htT : t < hT h := by omega
      have hp16 := pow_le (hm h) hm4
      obtain ⟨L', T', _, R'⟩ := L12 σ h1
      unfold L_Un_unmix_20
      rw [R'.2.1]
      refine ⟨fun g => absurd ((n_le (by omega) (by omega)).mp g) (by omega), fun _ => ?_⟩
      refine p_bestSet ok R'.1 L' T' htT hv (fun s hs hmin => ?_)
      refine p_mixBehind ok R'.1 L' hv (by omega) ?_
      obtain ⟨p', hp'⟩ : ∃ p' : Nat → Nat, p' = fun u => if u = t then go (Dh h) (pv p t) (bs s) else p u := ⟨_, rfl⟩
      have ep : ∀ u, u < t → p u = p' u := fun u hu => by rw [hp']; show _ = if u = t then _ else _; rw [if_neg (by omega)]
      have ept : p' t = go (Dh h) (pv p t) (bs s) := by rw [hp']; show (if t = t then _ else _) = _; rw [if_pos rfl]
      have epv : ∀ u, u ≤ t → pv p u = pv p' u := fun u hu => pv_congr (fun w hw => ep w (by omega))
      have hv' : vr (Dh h) (p' t) := by rw [ept]; exact vr_go hD hv _
      refine q_L51 (p := p') ok ho ho1 R' htT (by rw [← epv t (Nat.le_refl _)]; exact hv) (by omega) (by rw [ept, epv t (Nat.le_refl _)]) (DS_congr ep S) (fun τ k0 S2 => ?_)
      have hmix : fl (Dh h) 0 (go (Dh h) (pv p t) (bs s)) = fl (Dh h) 0 (pv p' (t + 1)) := by show _ = fl (Dh h) 0 (p' t); rw [ept]
      rw [hmix]
      refine ih (t + 1) p' τ (by omega) (fun c c1 c2 c3 => (k0 c c1 c2 c3).trans (h1 c c1 c2 c3)) (fun u hu => ?_) hv' S2
      rcases Nat.lt_or_ge u t with g | g
      · rw [← ep u g, ← epv u (by omega)]
        exact hg u g
      · have : u = t := by omega
        subst this
        refine ⟨bs s, by rw [ept, ← epv u (Nat.le_refl _)], fun S' => ?_⟩
        rw [ept, ← epv u (Nat.le_refl _)]
        obtain ⟨q, hq1, hq2⟩ := bs_ex S' (hm h) hm4
        have := hmin q hq1
        rw [fl_le (vr_go hD hv _) (vr_go hD hv _), show go (Dh h) (pv p u) (bs q) = go (Dh h) (pv p u) S' from go_bs hq2, show pop (hm h) (bs q) = pop (hm h) S' from pop_bs hq2] at this
        exact this
  refine ⟨hT h + 1, ?_⟩
  have e0 : fl (Dh h) 0 (pv (fun _ => 0) 0) = 0 := by
    show fl (Dh h) 0 0 = 0
    simp [fl, dg]
  have k := key (hT h) 0 (fun _ => 0) τ12 (by omega) d1 (fun s hs => absurd hs (by omega)) (vr_0 hD) S0
  rw [e0] at k
  exact k
