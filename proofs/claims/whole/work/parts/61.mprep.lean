/-! ===== the reference: its tables ===== -/
theorem dig_ok : ∀ a, a < 4 → ∀ r, r < 256 → (nI r >>> (((2 : Int32) * ((3 : Int32) - nI a)) &&& 31)) &&& (3 : Int32) = nI (dg r a) := by decide +kernel
theorem p_Md_digit {σ : Sg} {K : Int32 → Prop} {r a : Nat} (hr : r < 256) (ha : a < 4) (hK : K (nI (dg r a))) : w_Md_digit (nI r) (nI a) σ K := by
  unfold w_Md_digit
  rw [dig_ok a ha r hr]
  exact hK
theorem RM'.of {h : Hh} {σ τ : Sg} (g : RM' h σ) (e5 : τ 43 5 = σ 43 5) (e9 : τ 43 9 = σ 43 9) (e11 : τ 43 11 = σ 43 11) (e1 : τ 47 = σ 47) (e2 : τ 48 = σ 48) (e3 : τ 49 = σ 49) (e4 : τ 50 = σ 50) : RM' h τ := by
  unfold RM' at g ⊢
  rw [e5, e9, e11, e1, e2, e3, e4]
  exact g
section MS1
variable {h : Hh} {σ : Sg} {K : Int32 → Prop}
theorem p_Md_powerOf (ok : HOk h) (R : RM' h σ) {a d : Nat} (ha : a < hm h) (hd : d < hl h a) (hK : K (nI (pwr (hk h a) (ht h (3 * a + d))))) : w_Md_powerOf (nI a) (nI d) σ K := by
  obtain ⟨o1, o2, -⟩ := ok
  obtain ⟨k1, k2, k3, k4⟩ := o2 a ha
  obtain ⟨r1, r2, r3, -⟩ := R.2.2.2.1 a ha
  have e : (3 : Int32) * nI a + nI d = nI (3 * a + d) := by rw [i32_lit, pk_mul, nI_add]
  unfold w_Md_powerOf
  rw [e, nI_c (by omega), nI_c (by omega), r3 d hd, r1]
  refine ⟨n_in (by omega) (by omega), fun y hy => ⟨n_in (by omega) (by omega), ?_⟩⟩
  subst hy
  refine ⟨fun g => ⟨n_in (by omega) (by omega), fun g2 => ?_, fun g2 => ?_⟩, fun g => ?_⟩
  · have e0 : hk h a ≠ 0 := fun e => g (by rw [e]; rfl)
    have e1 : hk h a ≠ 1 := fun e => g2 (by rw [e]; rfl)
    rw [nI_add]
    unfold pwr at hK
    rw [if_neg e0, if_neg e1, show 2 * ht h (3 * a + d) = ht h (3 * a + d) + ht h (3 * a + d) by omega] at hK
    exact hK
  · have : hk h a = 1 := (n_eq (by omega) (by omega)).mp g2
    rw [this] at hK
    rw [show (1 : Int32) = nI 1 from rfl, nI_add]
    exact hK
  · have : hk h a = 0 := (n_eq (by omega) (by omega)).mp g
    rw [this] at hK
    exact hK
theorem p_Md_powerOfRow (ok : HOk h) (R : RM' h σ) {r : Nat} (hr : r < 256) (hK : K (nI (pu (Dh h) r (hm h)))) : w_Md_powerOfRow (nI r) σ K := by
  have hm4 := ok.1
  have key : ∀ n i, i + n = hm h → L_Md_powerOfRow_4 (nI r) σ K (n + 1) (nI (pu (Dh h) r i)) (nI i) := by
    intro n
    induction n with
    | zero =>
      intro i hi
      have : i = hm h := by omega
      subst this
      unfold L_Md_powerOfRow_4
      rw [R.1]
      exact ⟨fun _ => hK, fun g => absurd ((n_le (by omega) (by omega)).mpr (Nat.le_refl _)) g⟩
    | succ n ih =>
      intro i hi
      have hih : i < hm h := by omega
      have hl3 := (ok.2.1 i hih).2.2.1
      have hd := dg_lt r i
      have next : ∀ v : Nat, v = dp (Dh h) i (dg r i) → B_Md_powerOfRow_49 (nI r) σ K (fun a0 a1 => L_Md_powerOfRow_4 (nI r) σ K (n + 1) a0 a1) (nI i) (nI v) (nI (pu (Dh h) r i)) := fun v hv => by
        unfold B_Md_powerOfRow_49
        intro y hy
        rw [hy, nI_add, hv, show (1 : Int32) = nI 1 from rfl, nI_add]
        exact ih (i + 1) (by omega)
      unfold L_Md_powerOfRow_4
      rw [R.1]
      refine ⟨fun g => absurd ((n_le (by omega) (by omega)).mp g) (by omega), fun _ => ?_⟩
      refine p_Md_digit hr (by omega) ⟨fun g => ?_, fun g => ⟨n_in (by omega) (by omega), ?_, ?_⟩⟩
      · have e : dg r i = 0 := (n_eq (by omega) (by omega)).mp g
        unfold B_Md_powerOfRow_36
        refine next 0 ?_
        rw [e, (Dh_ok ok).2.2.2.2.1]
      · intro g2
        rw [nI_c (by omega), (R.2.2.2.1 i hih).2.1] at g2
        have g2 := (n_le (by omega) (by omega)).mp g2
        have e : dg r i ≠ 0 := fun e => g (by rw [e]; rfl)
        rw [show (1 : Int32) = nI 1 from rfl, n_sub (by omega)]
        refine p_Md_powerOf ok R hih (by omega) (next _ ?_)
        rw [dp_h hih e g2]
      · intro g2
        rw [nI_c (by omega), (R.2.2.2.1 i hih).2.1] at g2
        have g2 : ¬ dg r i ≤ hl h i := fun e => g2 ((n_le (by omega) (by omega)).mpr e)
        unfold B_Md_powerOfRow_36
        refine next 0 ?_
        show 0 = if i < hm h ∧ dg r i ≠ 0 ∧ dg r i ≤ hl h i then _ else 0
        rw [if_neg (fun q => g2 q.2.2)]
  unfold w_Md_powerOfRow
  exact ⟨hm h + 1, key (hm h) 0 (by omega)⟩
end MS1
/-- a row, and a set of appliances that are there -/
def gv (D : Dt) (r s : Nat) : Prop := vr D r ∧ ∀ a, a < 4 → dm D ≤ a → s.testBit a = false
def pre (f : Nat → Nat) : Nat → Nat
  | 0 => 0
  | i + 1 => 4 * pre f i + f i
theorem pre_lt {f : Nat → Nat} (h : ∀ a, a < 4 → f a ≤ 3) : ∀ i, i ≤ 4 → pre f i < 4 ^ i
  | 0, _ => by simp [pre]
  | i + 1, hi => by
    have h1 := pre_lt h i (by omega)
    have h2 := h i (by omega)
    simp only [pre, Nat.pow_succ]
    omega
theorem p_Md_goesOn {h : Hh} {σ : Sg} {K : Int32 → Prop} (ok : HOk h) (R : RM' h σ) {r s : Nat} (hr : r < 256) (hs : s < 16) (hK1 : gv (Dh h) r s → K (nI (go (Dh h) r (bs s)))) (hK2 : ¬ gv (Dh h) r s → K (-9)) : w_Md_goesOn (nI r) (nI s) σ K := by
  have hD := Dh_ok ok
  have hm4 := ok.1
  obtain ⟨f, hf⟩ : ∃ f : Nat → Nat, f = fun a => if a < hm h ∧ bs s a = true then nxt (dl (Dh h) a) (dg r a) else dg r a := ⟨_, rfl⟩
  have hf3 : ∀ a, a < 4 → f a ≤ 3 := fun a ha => by
    rw [hf]
    show (if a < hm h ∧ bs s a = true then nxt (dl (Dh h) a) (dg r a) else dg r a) ≤ 3
    split
    · exact nxt_le (hD.2.1 a)
    · exact dg_le r a
  have hlev : ∀ a, a < 4 → σ 48 a = nI (dl (Dh h) a) := fun a ha => by
    by_cases g : a < hm h
    · rw [(R.2.2.2.1 a g).2.1, dl_h g]
    · rw [R.2.2.2.2.1 a (by omega) ha, hD.2.2.2.1 a (by show hm h ≤ a; omega)]
  have key : ∀ n i, i + n = 4 → (∀ b, b < i → dg r b ≤ dl (Dh h) b ∧ (hm h ≤ b → s.testBit b = false)) → L_Md_goesOn_5 (nI r) (nI s) σ K (n + 1) (nI (pre f i)) (nI i) := by
    intro n
    induction n with
    | zero =>
      intro i hi hpre
      have : i = 4 := by omega
      subst this
      unfold L_Md_goesOn_5
      refine ⟨fun _ => ?_, fun g => absurd (show (4 : Int32) ≤ nI 4 by decide) g⟩
      have hgv : gv (Dh h) r s := ⟨⟨hr, fun a ha => (hpre a ha).1⟩, fun a ha hm => (hpre a ha).2 hm⟩
      have e : pre f 4 = go (Dh h) r (bs s) := by
        have ef : ∀ a, a < 4 → dg (go (Dh h) r (bs s)) a = f a := fun a ha => by
          rw [dg_go hD r _ a ha, hf]
          rfl
        have e1 := dg_sum (go_lt hD hr (bs s))
        rw [ef 0 (by omega), ef 1 (by omega), ef 2 (by omega), ef 3 (by omega)] at e1
        rw [e1]
        simp only [pre]
        omega
      rw [e]
      exact hK1 hgv
    | succ n ih =>
      intro i hi hpre
      have hi4 : i < 4 := by omega
      have hd := dg_lt r i
      have hdl := hD.2.1 i
      have hpl := pre_lt hf3 i (by omega)
      have hpl2 : pre f i < 256 := by
        match i, hi4, hpl with
        | 0, _, g => omega
        | 1, _, g => omega
        | 2, _, g => omega
        | 3, _, g => omega
        | n + 4, g, _ => omega
      have next : ∀ v : Nat, v = f i → (dg r i ≤ dl (Dh h) i ∧ (hm h ≤ i → s.testBit i = false)) → B_Md_goesOn_98 (nI r) (nI s) σ K (fun a0 a1 => L_Md_goesOn_5 (nI r) (nI s) σ K (n + 1) a0 a1) (nI i) (nI v) ((4 : Int32) * nI (pre f i)) := fun v hv hc => by
        unfold B_Md_goesOn_98
        intro y hy
        rw [hy, show (4 : Int32) = nI 4 from rfl, pk_mul, nI_add, hv, show (1 : Int32) = nI 1 from rfl, nI_add]
        refine ih (i + 1) (by omega) (fun b hb => ?_)
        rcases Nat.lt_or_ge b i with g | g
        · exact hpre b g
        · have : b = i := by omega
          subst this
          exact hc
      have t65 : ∀ x : Nat, (x = 1 ↔ bs s i = true) → x ≤ 1 → (dg r i ≤ dl (Dh h) i ∧ (hm h ≤ i → s.testBit i = false)) → B_Md_goesOn_65 (nI r) (nI s) σ K (fun a0 a1 => L_Md_goesOn_5 (nI r) (nI s) σ K (n + 1) a0 a1) (nI (pre f i)) (nI i) (nI (dg r i)) (nI x) := fun x hx hx1 hc => by
        have him : bs s i = true → i < hm h := fun g => by
          rcases Nat.lt_or_ge i (hm h) with q | q
          · exact q
          · exact absurd (show s.testBit i = true from g) (by rw [hc.2 q]; decide)
        unfold B_Md_goesOn_65
        rw [nI_c (by omega), hlev i hi4]
        refine ⟨fun g => ⟨n_in (by omega) (by omega), fun g2 => ?_, fun g2 => ?_⟩, fun g => ?_⟩
        · have hb : bs s i = true := hx.mp (by
            rcases Nat.eq_zero_or_pos x with e | e
            · exact absurd (by rw [e]; rfl) g
            · omega)
          have g2 : ¬ dg r i = dl (Dh h) i := fun e => g2 (by rw [e])
          rw [show (1 : Int32) = nI 1 from rfl, nI_add]
          refine next _ ?_ hc
          rw [hf]
          show _ = if i < hm h ∧ bs s i = true then nxt (dl (Dh h) i) (dg r i) else dg r i
          rw [if_pos ⟨him hb, hb⟩]
          unfold nxt
          rw [if_pos (by omega)]
        · have hb : bs s i = true := hx.mp (by
            rcases Nat.eq_zero_or_pos x with e | e
            · exact absurd (by rw [e]; rfl) g
            · omega)
          have g2 : dg r i = dl (Dh h) i := (n_eq (by omega) (by omega)).mp g2
          refine next 0 ?_ hc
          rw [hf]
          show _ = if i < hm h ∧ bs s i = true then nxt (dl (Dh h) i) (dg r i) else dg r i
          rw [if_pos ⟨him hb, hb⟩]
          unfold nxt
          rw [if_neg (by omega)]
        · have x0 : x = 0 := (n_eq (by omega) (by omega)).mp g
          have hb : ¬ bs s i = true := fun e => by have := hx.mpr e; omega
          refine next _ ?_ hc
          rw [hf]
          show _ = if i < hm h ∧ bs s i = true then nxt (dl (Dh h) i) (dg r i) else dg r i
          rw [if_neg (fun q => hb q.2)]
      have t34 : ∀ x : Nat, (x = 1 ↔ bs s i = true) → x ≤ 1 → B_Md_goesOn_34 (nI r) (nI s) σ K (fun a0 a1 => L_Md_goesOn_5 (nI r) (nI s) σ K (n + 1) a0 a1) (nI (pre f i)) (nI i) (nI (dg r i)) (nI x) := fun x hx hx1 => by
        unfold B_Md_goesOn_34
        rw [nI_c (by omega), hlev i hi4, R.1]
        refine ⟨n_in (by omega) (by omega), fun g => ?_, fun g => ⟨fun g2 => ?_, fun g2 => ⟨fun g3 => ?_, fun g3 => ?_⟩⟩⟩
        · have g := (n_lt (by omega) (by omega)).mp g
          exact hK2 (fun q => by have := q.1.2 i hi4; omega)
        · have g : ¬ dl (Dh h) i < dg r i := fun e => g ((n_lt (by omega) (by omega)).mpr e)
          have x0 : x = 0 := (n_eq (by omega) (by omega)).mp g2
          exact t65 x hx hx1 ⟨by omega, fun _ => by
            cases e : s.testBit i with
            | false => rfl
            | true => have := hx.mpr e; omega⟩
        · have g : ¬ dl (Dh h) i < dg r i := fun e => g ((n_lt (by omega) (by omega)).mpr e)
          have g3 := (n_lt (by omega) (by omega)).mp g3
          exact t65 x hx hx1 ⟨by omega, fun q => absurd g3 (by omega)⟩
        · have g3 : ¬ i < hm h := fun e => g3 ((n_lt (by omega) (by omega)).mpr e)
          refine hK2 (fun q => ?_)
          have h1 := q.2 i hi4 (by show hm h ≤ i; omega)
          have : x = 1 := by
            rcases Nat.eq_zero_or_pos x with e | e
            · exact absurd (by rw [e]; rfl) g2
            · omega
          have h2 : s.testBit i = true := hx.mp this
          rw [h1] at h2
          exact absurd h2 (by decide)
      unfold L_Md_goesOn_5
      refine ⟨fun g => absurd (show 4 ≤ i from (n_le (by omega) (by omega)).mp g) (by omega), fun _ => ?_⟩
      refine p_Md_digit hr hi4 ?_
      rw [bit_ok s hs i hi4]
      refine ⟨fun g => t34 0 ⟨fun e => absurd e (by omega), fun e => absurd e g⟩ (by omega), fun g => t34 1 ⟨fun _ => g, fun _ => rfl⟩ (by omega)⟩
  unfold w_Md_goesOn
  exact ⟨5, key 4 0 (by omega) (fun b hb => absurd hb (by omega))⟩
/-- the tables of the reference -/
def MT (h : Hh) (σ : Sg) : Prop := (∀ r, r < 256 → σ 54 r = nI (pu (Dh h) r (hm h))) ∧ ∀ r s, r < 256 → s < 16 → (gv (Dh h) r s → σ 55 (16 * r + s) = nI (go (Dh h) r (bs s))) ∧ (¬ gv (Dh h) r s → σ 55 (16 * r + s) = -9)
theorem q_prep37 {h : Hh} {σ0 : Sg} {K : Sg → Prop} {r2 : Int32 → Sg → Prop} (ok : HOk h) (R : RM' h σ0) {r : Nat} (hr : r < 256)
    (hK : ∀ τ : Sg, (∀ c, c ≠ 55 → τ c = σ0 c) → (∀ s, s < 16 → (gv (Dh h) r s → τ 55 (16 * r + s) = nI (go (Dh h) r (bs s))) ∧ (¬ gv (Dh h) r s → τ 55 (16 * r + s) = -9)) → (∀ j, j < 16 * r ∨ 16 * r + 16 ≤ j → τ 55 j = σ0 55 j) → r2 (nI (r + 1)) τ) : ∃ n, L_Md_prepare_37 (nI r) K r2 n (nI 0) σ0 := by
  have key : ∀ n i (σ : Sg), i + n = 16 → (∀ c, c ≠ 55 → σ c = σ0 c) → (∀ s, s < i → (gv (Dh h) r s → σ 55 (16 * r + s) = nI (go (Dh h) r (bs s))) ∧ (¬ gv (Dh h) r s → σ 55 (16 * r + s) = -9)) → (∀ j, j < 16 * r ∨ 16 * r + i ≤ j → σ 55 j = σ0 55 j) → L_Md_prepare_37 (nI r) K r2 (n + 1) (nI i) σ := by
    intro n
    induction n with
    | zero =>
      intro i σ hi h1 h2 h3
      have : i = 16 := by omega
      subst this
      unfold L_Md_prepare_37
      rw [show (1 : Int32) = nI 1 from rfl, nI_add]
      exact ⟨fun _ => hK σ h1 h2 h3, fun g => absurd (show (16 : Int32) ≤ nI 16 by decide) g⟩
    | succ n ih =>
      intro i σ hi h1 h2 h3
      have R' : RM' h σ := R.of (by rw [h1 43 (by omega)]) (by rw [h1 43 (by omega)]) (by rw [h1 43 (by omega)]) (h1 47 (by omega)) (h1 48 (by omega)) (h1 49 (by omega)) (h1 50 (by omega))
      have go : ∀ v : Int32, ((gv (Dh h) r i → v = nI (go (Dh h) r (bs i))) ∧ (¬ gv (Dh h) r i → v = -9)) → (vp_in ((16 : Int32) * nI r + nI i) 4096 ∧ ∀ τ59 : Sg, τ59 = s2 σ 55 ((16 : Int32) * nI r + nI i).toNatClampNeg v → L_Md_prepare_37 (nI r) K r2 (n + 1) (nI i + 1) τ59) := fun v hv => by
        rw [show (16 : Int32) = nI 16 from rfl, pk_mul, nI_add, nI_c (by omega), show (1 : Int32) = nI 1 from rfl, nI_add]
        refine ⟨n_in (by omega) (by omega), fun τ hτ => ?_⟩
        subst hτ
        refine ih (i + 1) _ (by omega) (fun c hc => by rw [s2_ne hc]; exact h1 c hc) (fun s hs => ?_) (fun j hj => ?_)
        · by_cases e : s = i
          · subst e
            rw [s2_at]
            exact hv
          · rw [s2_ai (by omega)]; exact h2 s (by omega)
        · rw [s2_ai (by omega)]; exact h3 j (by omega)
      unfold L_Md_prepare_37
      refine ⟨fun g => absurd (show 16 ≤ i from (n_le (by omega) (by omega)).mp g) (by omega), fun _ => ?_⟩
      refine p_Md_goesOn ok R' hr (by omega) (fun g => go _ ⟨fun _ => rfl, fun q => absurd g q⟩) (fun g => go _ ⟨fun q => absurd q g, fun _ => rfl⟩)
  exact ⟨17, key 16 0 σ0 (by omega) (fun _ _ => rfl) (fun s hs => absurd hs (by omega)) (fun _ _ => rfl)⟩
theorem p_Md_prepare {h : Hh} {σ0 : Sg} {K : Sg → Prop} (ok : HOk h) (R : RM' h σ0)
    (hK : ∀ τ : Sg, (∀ c, c ≠ 54 → c ≠ 55 → c ≠ 56 → c ≠ 57 → τ c = σ0 c) → MT h τ → τ 56 0 = nI 0 → (∀ r, r < 256 → r ≠ 0 → τ 56 r = -9) → (∀ r, r < 256 → τ 57 r = nI 0) → K τ) : w_Md_prepare σ0 K := by
  have key : ∀ n i (σ : Sg), i + n = 256 → (∀ c, c ≠ 54 → c ≠ 55 → c ≠ 56 → c ≠ 57 → σ c = σ0 c) → (∀ r, r < i → σ 54 r = nI (pu (Dh h) r (hm h)) ∧ σ 56 r = -9 ∧ σ 57 r = nI 0 ∧ ∀ s, s < 16 → (gv (Dh h) r s → σ 55 (16 * r + s) = nI (go (Dh h) r (bs s))) ∧ (¬ gv (Dh h) r s → σ 55 (16 * r + s) = -9)) → L_Md_prepare_2 K (n + 1) (nI i) σ := by
    intro n
    induction n with
    | zero =>
      intro i σ hi h1 h2
      have : i = 256 := by omega
      subst this
      unfold L_Md_prepare_2
      refine ⟨fun _ => ⟨n_in (n := 0) (by omega) (by omega), fun τ hτ => ?_⟩, fun g => absurd (show (256 : Int32) ≤ nI 256 by decide) g⟩
      rw [show (0 : Int32).toNatClampNeg = 0 from rfl] at hτ
      subst hτ
      refine hK _ (fun c c1 c2 c3 c4 => by rw [s2_ne c3]; exact h1 c c1 c2 c3 c4) ⟨fun r hr => ?_, fun r s hr hs => ?_⟩ s2_at (fun r hr h0 => ?_) (fun r hr => ?_)
      · rw [s2_ne (by omega)]; exact (h2 r hr).1
      · rw [s2_ne (by omega)]; exact (h2 r hr).2.2.2 s hs
      · rw [s2_ai h0]; exact (h2 r hr).2.1
      · rw [s2_ne (by omega)]; exact (h2 r hr).2.2.1
    | succ n ih =>
      intro i σ hi h1 h2
      have R' : ∀ τ : Sg, (∀ c, c ≠ 54 → c ≠ 55 → c ≠ 56 → c ≠ 57 → τ c = σ0 c) → RM' h τ := fun τ e => R.of (by rw [e 43 (by omega) (by omega) (by omega) (by omega)]) (by rw [e 43 (by omega) (by omega) (by omega) (by omega)]) (by rw [e 43 (by omega) (by omega) (by omega) (by omega)]) (e 47 (by omega) (by omega) (by omega) (by omega)) (e 48 (by omega) (by omega) (by omega) (by omega)) (e 49 (by omega) (by omega) (by omega) (by omega)) (e 50 (by omega) (by omega) (by omega) (by omega))
      unfold L_Md_prepare_2
      refine ⟨fun g => absurd (show 256 ≤ i from (n_le (by omega) (by omega)).mp g) (by omega), fun _ => ?_⟩
      refine p_Md_powerOfRow ok (R' σ h1) (by omega) ?_
      rw [nI_c (by omega)]
      refine ⟨n_in (by omega) (by omega), fun τ19 e19 => ⟨n_in (by omega) (by omega), fun τ27 e27 => ⟨n_in (by omega) (by omega), fun τ34 e34 => ?_⟩⟩⟩
      have f34 : ∀ c, c ≠ 54 → c ≠ 55 → c ≠ 56 → c ≠ 57 → τ34 c = σ0 c := fun c c1 c2 c3 c4 => by rw [e34, e27, e19, s2_ne c4, s2_ne c3, s2_ne c1]; exact h1 c c1 c2 c3 c4
      refine q_prep37 ok (R' τ34 f34) (by omega) (fun τ g1 g2 g3 => ?_)
      refine ih (i + 1) τ (by omega) (fun c c1 c2 c3 c4 => (g1 c c2).trans (f34 c c1 c2 c3 c4)) (fun r hr => ?_)
      have e54 : τ 54 = upd (σ 54) i (nI (pu (Dh h) i (hm h))) := by rw [g1 54 (by omega), e34, e27, e19, s2_ne (by omega), s2_ne (by omega), s2_eq]
      have e56 : τ 56 = upd (σ 56) i (-9) := by rw [g1 56 (by omega), e34, e27, e19, s2_ne (by omega), s2_eq, s2_ne (by omega)]
      have e57 : τ 57 = upd (σ 57) i (nI 0) := by rw [g1 57 (by omega), e34, s2_eq, e27, e19, s2_ne (by omega), s2_ne (by omega)]; rfl
      have e55 : τ34 55 = σ 55 := by rw [e34, e27, e19, s2_ne (by omega), s2_ne (by omega), s2_ne (by omega)]
      by_cases e : r = i
      · subst e
        rw [e54, e56, e57, pk_us, pk_us, pk_us]
        exact ⟨rfl, rfl, rfl, g2⟩
      · obtain ⟨a1, a2, a3, a4⟩ := h2 r (by omega)
        rw [e54, e56, e57, pk_un e, pk_un e, pk_un e]
        refine ⟨a1, a2, a3, fun s hs => ?_⟩
        rw [g3 _ (by omega), e55]
        exact a4 s hs
  unfold w_Md_prepare
  exact ⟨257, key 256 0 σ0 (by omega) (fun _ _ _ _ _ => rfl) (fun r hr => absurd hr (by omega))⟩
