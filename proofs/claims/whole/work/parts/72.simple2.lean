/-- the class's fault is told -/
def FzC (v : Int32) (σ τ : Sg) : Prop := (∀ c, c ≠ 0 → τ c = σ c) ∧ (∀ j, j ≠ 13 → τ 0 j = σ 0 j) ∧ τ 0 13 = v
def FzM (v : Int32) (σ τ : Sg) : Prop := (∀ c, c ≠ 43 → τ c = σ c) ∧ (∀ j, j ≠ 0 → τ 43 j = σ 43 j) ∧ τ 43 0 = v
theorem fzc {v : Int32} {σ : Sg} : FzC v σ (s2 σ 0 13 v) := ⟨fun _ h => s2_ne h, fun _ h => s2_ai h, s2_at⟩
theorem fzm {v : Int32} {σ : Sg} : FzM v σ (s2 σ 43 0 v) := ⟨fun _ h => s2_ne h, fun _ h => s2_ai h, s2_at⟩
theorem FzC.again {u v : Int32} {σ τ : Sg} (h : FzC u σ τ) : FzC v σ (s2 τ 0 13 v) := ⟨fun c hc => by rw [s2_ne hc]; exact h.1 c hc, fun j hj => by rw [s2_ai hj]; exact h.2.1 j hj, s2_at⟩
theorem FzM.again {u v : Int32} {σ τ : Sg} (h : FzM u σ τ) : FzM v σ (s2 τ 43 0 v) := ⟨fun c hc => by rw [s2_ne hc]; exact h.1 c hc, fun j hj => by rw [s2_ai hj]; exact h.2.1 j hj, s2_at⟩
theorem Iv.fz {h : Hh} {v : Int32} {σ τ τ' : Sg} (g : Iv h σ) (f1 : FzC v σ τ) (f2 : FzM v τ τ') : Inv τ' := by
  refine ⟨h, g.ft (fun c h1 h2 => (f2.1 c h2).trans (f1.1 c h1)) (fun j h1 h2 => ?_) (fun j h1 h2 => ?_) ⟨?_, ?_⟩⟩
  · rw [f2.1 0 (by omega)]; exact f1.2.1 j h2
  · rw [f2.2.1 j h1, f1.1 43 (by omega)]
  · rw [f2.1 0 (by omega), f1.2.2, f2.2.2]
  · rw [f2.1 0 (by omega), f1.2.1 12 (by omega), f2.2.1 1 (by omega), f1.1 43 (by omega)]
    exact g.2.2.2.2.1.2
theorem H_as (σ : Sg) (a1 a2 : Int32) (I : Inv σ) : w_Lc_as a1 a2 σ (fun r0 τ0 => w_Md_as a1 a2 τ0 (fun r1 τ1 => r0 = r1 ∧ Inv τ1)) := by
  obtain ⟨h, g⟩ := I
  have ok := g.1
  have hm4 := g.1.1
  unfold w_Lc_as
  intro τ2 e2
  have f2 : FzC 0 σ τ2 := by rw [e2]; exact fzc
  clear e2
  have RC : RC' 1 h τ2 := g.2.1.of (f2.1 1 (by omega)) (f2.1 2 (by omega)) (f2.1 3 (by omega)) (f2.1 4 (by omega)) (f2.1 5 (by omega))
  have RMo : ∀ {u : Int32} {τ : Sg}, FzC u σ τ → RM' h (s2 τ 43 0 0) := fun {u τ} f => g.2.2.1.of (by rw [s2_ai (by omega), f.1 43 (by omega)]) (by rw [s2_ai (by omega), f.1 43 (by omega)]) (by rw [s2_ai (by omega), f.1 43 (by omega)]) (by rw [s2_ne (by omega), f.1 47 (by omega)]) (by rw [s2_ne (by omega), f.1 48 (by omega)]) (by rw [s2_ne (by omega), f.1 49 (by omega)]) (by rw [s2_ne (by omega), f.1 50 (by omega)])
  rcases ix a1 (hm h) (by omega) with o | ⟨a, ha, rfl⟩
  · refine ch_out RC.1 o (ca0 ?_)
    unfold w_Md_as
    intro τ3 e3
    subst e3
    exact mh_out (RMo f2).1 hm4 o (ca0 ⟨rfl, g.fz f2 fzm⟩)
  · have kb := (ok.2.1 a ha).1
    refine ch_in RC.1 hm4 ha (ca1 ?_)
    have kout : (a2 < 0 ∨ 2 < a2) → w_Md_as (nI a) a2 τ2 (fun r1 τ1 => (-2 : Int32) = r1 ∧ Inv τ1) := fun c => by
      unfold w_Md_as
      intro τ3 e3
      subst e3
      exact mh_in (RMo f2).1 hm4 ha (ca1 (wi_out (l := 0) (u := 2) rfl rfl c (ca0 ⟨rfl, g.fz f2 fzm⟩)))
    refine ⟨fun c => kout (Or.inl c), fun c => ⟨fun c2 => ⟨n_in (by omega) (by omega), ?_, ?_⟩, fun c2 => kout (Or.inr (by rw [le_toInt] at c2; rw [lt_toInt]; omega))⟩⟩
    · intro c3
      unfold w_Lc_faulted
      intro τ4 e4
      have f4 : FzC 2 σ τ4 := by rw [e4]; exact f2.again
      unfold w_Md_as
      intro τ3 e3
      subst e3
      refine mh_in (RMo f4).1 hm4 ha (ca1 (wi_in (l := 0) (u := 2) rfl rfl (by rw [le_toInt]; rw [lt_toInt] at c; omega) c2 (ca1 ⟨n_in (by omega) (by omega), fun _ => ?_, fun c5 => ?_⟩)))
      · unfold w_Md_fails
        intro τ5 e5
        subst e5
        exact ⟨rfl, g.fz f4 (fzm.again (u := 0))⟩
      · rw [nI_c (by omega), ((RMo f4).2.2.2.1 a ha).1] at c5
        rw [nI_c (by omega), (RC.2.2.2.1 a ha).1] at c3
        exact absurd c3 c5
    · intro c3
      unfold w_Md_as
      intro τ3 e3
      subst e3
      refine mh_in (RMo f2).1 hm4 ha (ca1 (wi_in (l := 0) (u := 2) rfl rfl (by rw [le_toInt]; rw [lt_toInt] at c; omega) c2 (ca1 ⟨n_in (by omega) (by omega), fun c5 => ?_, fun _ => ⟨rfl, g.fz f2 fzm⟩⟩)))
      rw [nI_c (by omega), ((RMo f2).2.2.2.1 a ha).1] at c5
      rw [nI_c (by omega), (RC.2.2.2.1 a ha).1] at c3
      exact absurd c5 c3
/-! traces -/
def TzC (v : Int32) (σ τ : Sg) : Prop := (∀ c, c ≠ 0 → τ c = σ c) ∧ (∀ j, j ≠ 12 → τ 0 j = σ 0 j) ∧ τ 0 12 = v
def TzM (v : Int32) (σ τ : Sg) : Prop := (∀ c, c ≠ 43 → τ c = σ c) ∧ (∀ j, j ≠ 1 → τ 43 j = σ 43 j) ∧ τ 43 1 = v
theorem TzC.go {v w : Int32} {σ τ : Sg} (h : TzC v σ τ) : TzC (31 * v + w) σ (s2 τ 0 12 (31 * (τ 0 12) + w)) := ⟨fun c hc => by rw [s2_ne hc]; exact h.1 c hc, fun j hj => by rw [s2_ai hj]; exact h.2.1 j hj, by rw [s2_at, h.2.2]⟩
theorem TzM.go {v w : Int32} {σ τ : Sg} (h : TzM v σ τ) : TzM (31 * v + w) σ (s2 τ 43 1 (31 * (τ 43 1) + w)) := ⟨fun c hc => by rw [s2_ne hc]; exact h.1 c hc, fun j hj => by rw [s2_ai hj]; exact h.2.1 j hj, by rw [s2_at, h.2.2]⟩
theorem tzc {σ : Sg} : TzC (σ 0 12) σ σ := ⟨fun _ _ => rfl, fun _ _ => rfl, rfl⟩
theorem tzm {σ : Sg} : TzM (σ 43 1) σ σ := ⟨fun _ _ => rfl, fun _ _ => rfl, rfl⟩
theorem Iv.tz {h : Hh} {v : Int32} {σ τ τ' : Sg} (g : Iv h σ) (f1 : TzC v σ τ) (f2 : TzM v τ τ') : Inv τ' := by
  refine ⟨h, g.ft (fun c h1 h2 => (f2.1 c h2).trans (f1.1 c h1)) (fun j h1 h2 => ?_) (fun j h1 h2 => ?_) ⟨?_, ?_⟩⟩
  · rw [f2.1 0 (by omega)]; exact f1.2.1 j h1
  · rw [f2.2.1 j h2, f1.1 43 (by omega)]
  · rw [f2.1 0 (by omega), f1.2.1 13 (by omega), f2.2.1 0 (by omega), f1.1 43 (by omega)]
    exact g.2.2.2.2.1.1
  · rw [f2.1 0 (by omega), f1.2.2, f2.2.2]
theorem p_leave {σ0 σ : Sg} {v w : Int32} {K : Sg → Prop} (t : TzC v σ0 σ) (hK : ∀ τ, TzC (31 * v + w) σ0 τ → K τ) : w_Lc_leaveTrace w σ K := by
  unfold w_Lc_leaveTrace
  intro τ e
  subst e
  exact hK _ t.go
theorem p_begins {σ0 σ : Sg} {v w : Int32} {K : Sg → Prop} (t : TzM v σ0 σ) (hK : ∀ τ, TzM (31 * v + w) σ0 τ → K τ) : w_Md_begins w σ K := by
  unfold w_Md_begins
  intro τ e
  subst e
  exact hK _ t.go
theorem TzC.RC {h : Hh} {v : Int32} {σ τ : Sg} (g : Iv h σ) (f : TzC v σ τ) : RC' 1 h τ := g.2.1.of (f.1 1 (by omega)) (f.1 2 (by omega)) (f.1 3 (by omega)) (f.1 4 (by omega)) (f.1 5 (by omega))
theorem TzC.RM {h : Hh} {v : Int32} {σ τ : Sg} (g : Iv h σ) (f : TzC v σ τ) : RM' h τ := g.2.2.1.of (by rw [f.1 43 (by omega)]) (by rw [f.1 43 (by omega)]) (by rw [f.1 43 (by omega)]) (f.1 47 (by omega)) (f.1 48 (by omega)) (f.1 49 (by omega)) (f.1 50 (by omega))
theorem H_tell (σ : Sg) (a1 : Int32) (I : Inv σ) : w_Lc_tell a1 σ (fun r0 τ0 => w_Md_tell a1 τ0 (fun r1 τ1 => r0 = r1 ∧ Inv τ1)) := by
  obtain ⟨h, g⟩ := I
  have ok := g.1
  have hm4 := g.1.1
  have RC := g.2.1
  have RM := g.2.2.1
  have etr : σ 0 12 = σ 43 1 := g.2.2.2.2.1.2
  rcases ix a1 (hm h) (by omega) with o | ⟨a, ha, rfl⟩
  · unfold w_Lc_tell
    refine ch_out RC.1 o (ca0 ?_)
    unfold w_Md_tell
    exact mh_out RM.1 hm4 o (ca0 ⟨rfl, h, g⟩)
  · obtain ⟨kb, l1, l3, -⟩ := ok.2.1 a ha
    have r := RC.2.2.2.1 a ha
    have plain : ∀ {v : Int32} {τ : Sg} {K : Int32 → Sg → Prop}, TzC v σ τ → (∀ τ', TzC (31 * v + 1) σ τ' → K (nI (hl h a)) τ') → w_Lc_tellPlain (nI a) τ K := fun {v τ K} t hK => by
      unfold w_Lc_tellPlain
      refine p_leave t (fun τ' t' => ⟨n_in (by omega) (by omega), ?_⟩)
      rw [nI_c (by omega), ((TzC.RC g t').2.2.2.1 a ha).2.1]
      exact hK τ' t'
    have heavy : ∀ {v : Int32} {τ : Sg} {K : Int32 → Sg → Prop}, TzC v σ τ → (∀ τ', TzC (31 * (31 * v + 2) + 1) σ τ' → K (nI (hl h a + 100)) τ') → w_Lc_tellHeavy (nI a) τ K := fun {v τ K} t hK => by
      unfold w_Lc_tellHeavy
      refine p_leave t (fun τ' t' => plain t' (fun τ'' t'' => ?_))
      rw [show (100 : Int32) = nI 100 from rfl, nI_add]
      exact hK τ'' t''
    unfold w_Lc_tell
    refine ch_in RC.1 hm4 ha (ca1 ⟨n_in (by omega) (by omega), ?_⟩)
    rw [nI_c (by omega), r.1]
    refine ⟨fun e => plain tzc (fun τ t => ?_), fun e => heavy tzc (fun τ t => ?_), fun e0 e1 => ?_⟩
    · have ek : hk h a = 0 := (n_eq (by omega) (by omega)).mp e
      have RM' := TzC.RM g t
      have q := RM'.2.2.2.1 a ha
      have t43 : τ 43 1 = σ 0 12 := by rw [t.1 43 (by omega), etr]
      show w_Md_tell (nI a) τ _
      unfold w_Md_tell
      rw [nI_c (by omega), q.1, q.2.1]
      refine mh_in RM'.1 hm4 ha (ca1 ⟨n_in (by omega) (by omega), fun y hy => ⟨n_in (by omega) (by omega), fun c => ?_, fun c => ?_, fun _ _ => ?_⟩⟩)
      · rw [ek] at c; exact absurd c (by decide)
      · rw [ek] at c; exact absurd c (by decide)
      · refine p_begins tzm (fun τ' t' => ⟨hy.symm, ?_⟩)
        rw [t43] at t'
        exact g.tz t t'
    · have ek : hk h a = 1 := (n_eq (by omega) (by omega)).mp e
      have RM' := TzC.RM g t
      have q := RM'.2.2.2.1 a ha
      have t43 : τ 43 1 = σ 0 12 := by rw [t.1 43 (by omega), etr]
      show w_Md_tell (nI a) τ _
      unfold w_Md_tell
      rw [nI_c (by omega), q.1, q.2.1]
      refine mh_in RM'.1 hm4 ha (ca1 ⟨n_in (by omega) (by omega), fun y hy => ⟨n_in (by omega) (by omega), fun _ => ?_, fun c => ?_, fun c => ?_⟩⟩)
      · refine p_begins tzm (fun τ' t' => p_begins t' (fun τ'' t'' => ⟨?_, ?_⟩))
        · rw [hy, show (100 : Int32) = nI 100 from rfl, nI_add]
        · rw [t43] at t''
          exact g.tz t t''
      · rw [ek] at c; exact absurd c (by decide)
      · rw [ek] at c; exact absurd rfl c
    · have ek : hk h a = 2 := by
        have h0 : hk h a ≠ 0 := fun e => e0 (by rw [e]; rfl)
        have h1 : hk h a ≠ 1 := fun e => e1 (by rw [e]; rfl)
        omega
      unfold w_Lc_tellDouble
      refine p_leave tzc (fun τ1 t1 => heavy t1 (fun τ2 t2 => plain t2 (fun τ t => ?_)))
      have RM' := TzC.RM g t
      have q := RM'.2.2.2.1 a ha
      have t43 : τ 43 1 = σ 0 12 := by rw [t.1 43 (by omega), etr]
      show w_Md_tell (nI a) τ _
      unfold w_Md_tell
      rw [nI_c (by omega), q.1, q.2.1]
      refine mh_in RM'.1 hm4 ha (ca1 ⟨n_in (by omega) (by omega), fun y hy => ⟨n_in (by omega) (by omega), fun c => ?_, fun _ => ?_, fun _ c => ?_⟩⟩)
      · rw [ek] at c; exact absurd c (by decide)
      · refine p_begins tzm (fun τ3 t3 => p_begins t3 (fun τ4 t4 => p_begins t4 (fun τ5 t5 => p_begins t5 (fun τ6 t6 => ⟨?_, ?_⟩))))
        · rw [hy, show (100 : Int32) = nI 100 from rfl, show (2 : Int32) = nI 2 from rfl, pk_mul, nI_add, nI_add]
          congr 1
          omega
        · rw [t43] at t6
          exact g.tz t t6
      · rw [ek] at c; exact absurd rfl c
theorem H_metered (σ : Sg) (a1 : Int32) (I : Inv σ) : w_Lc_metered a1 σ (fun r0 τ0 => w_Md_metered a1 τ0 (fun r1 τ1 => r0 = r1 ∧ Inv τ1)) := by
  obtain ⟨h, g⟩ := I
  have ok := g.1
  have hm4 := g.1.1
  have RC := g.2.1
  have RM := g.2.2.1
  have etr : σ 0 12 = σ 43 1 := g.2.2.2.2.1.2
  rcases ix a1 (hm h) (by omega) with o | ⟨a, ha, rfl⟩
  · unfold w_Lc_metered
    refine ch_out RC.1 o (ca0 ?_)
    unfold w_Md_metered
    exact mh_out RM.1 hm4 o (ca0 ⟨rfl, h, g⟩)
  · obtain ⟨kb, l1, l3, -⟩ := ok.2.1 a ha
    have r := RC.2.2.2.1 a ha
    unfold w_Lc_metered
    refine ch_in RC.1 hm4 ha (ca1 ⟨n_in (by omega) (by omega), ?_⟩)
    rw [nI_c (by omega), r.1]
    refine ⟨fun e => ?_, fun e => ?_⟩
    · have ek : hk h a ≠ 2 := fun q => e (by rw [q]; rfl)
      unfold w_Lc_lentMetering
      refine p_leave tzc (fun τ t => ?_)
      have RC' := TzC.RC g t
      have RM' := TzC.RM g t
      have q := RM'.2.2.2.1 a ha
      have t43 : τ 43 1 = σ 0 12 := by rw [t.1 43 (by omega), etr]
      obtain ⟨f, hf⟩ : ∃ f : Nat → Nat, f = fun k => if k < hl h a then ht h (3 * a + k) else 0 := ⟨_, rfl⟩
      have f49 : ∀ {v : Int32} {τ' : Sg}, TzM v τ τ' → ∀ k, k < 3 → τ' 49 (3 * a + k) = nI (f k) := fun {v τ'} t' k hk => by
        rw [t'.1 49 (by omega), hf]
        show _ = nI (if k < hl h a then _ else 0)
        by_cases c : k < hl h a
        · rw [if_pos c]; exact q.2.2.1 k c
        · rw [if_neg c]; exact q.2.2.2 k (by omega) hk
      have fin : w_Md_metered (nI a) τ (fun r1 τ1 => nI (f 0 + f 1 + f 2) = r1 ∧ Inv τ1) := by
        unfold w_Md_metered
        refine mh_in RM'.1 hm4 ha (ca1 ⟨n_in (by omega) (by omega), fun _ => ?_, fun c => ?_⟩)
        · unfold B_Md_metered_26
          refine p_begins tzm (fun τ' t' => ⟨n_in (by omega) (by omega), fun _ => ?_, fun c => ?_⟩)
          · rw [show (3 : Int32) = nI 3 from rfl, pk_mul, show (1 : Int32) = nI 1 from rfl, show (2 : Int32) = nI 2 from rfl, nI_add, nI_add, nI_c (by omega), nI_c (by omega), nI_c (by omega)]
            refine ⟨n_in (by omega) (by omega), n_in (by omega) (by omega), n_in (by omega) (by omega), ?_, ?_⟩
            · have e0 := f49 t' 0 (by omega)
              rw [Nat.add_zero] at e0
              rw [e0, f49 t' 1 (by omega), f49 t' 2 (by omega), nI_add, nI_add]
            · rw [t43] at t'
              exact g.tz t t'
          · rw [nI_c (by omega), t'.1 47 (by omega), q.1] at c
            exact absurd (show hk h a = 2 from (n_eq (by omega) (by omega)).mp c) ek
        · rw [nI_c (by omega), q.1] at c
          exact absurd (show hk h a = 2 from (n_eq (by omega) (by omega)).mp c) ek
      have key : ∀ n i, i + n = hl h a → ∀ s : Nat, s = (if 0 < i then f 0 else 0) + (if 1 < i then f 1 else 0) + (if 2 < i then f 2 else 0) → L_Lc_lentMetering_9 (nI a) (fun u35 τ35 => w_Md_metered (nI a) τ35 (fun r1 τ1 => u35 = r1 ∧ Inv τ1)) (n + 1) (nI s) (nI i) τ := by
        intro n
        induction n with
        | zero =>
          intro i hi s hs
          have : i = hl h a := by omega
          subst this
          unfold L_Lc_lentMetering_9
          rw [nI_c (by omega), (RC'.2.2.2.1 a ha).2.1]
          refine ⟨n_in (by omega) (by omega), fun _ => ?_, fun c => absurd ((n_le (by omega) (by omega)).mpr (Nat.le_refl _)) c⟩
          have : s = f 0 + f 1 + f 2 := by
            have e : ∀ k, ¬ k < hl h a → f k = 0 := fun k hk => by rw [hf]; exact if_neg hk
            rw [hs, if_pos (by omega)]
            by_cases c1 : 1 < hl h a
            · by_cases c2 : 2 < hl h a
              · rw [if_pos c1, if_pos c2]
              · rw [if_pos c1, if_neg c2, e 2 c2]
            · rw [if_neg c1, if_neg (by omega), e 1 c1, e 2 (by omega)]
          rw [this]
          exact fin
        | succ n ih =>
          intro i hi s hs
          unfold L_Lc_lentMetering_9
          rw [nI_c (by omega), (RC'.2.2.2.1 a ha).2.1]
          refine ⟨n_in (by omega) (by omega), fun c => absurd ((n_le (by omega) (by omega)).mp c) (by omega), fun _ => tl_ok ok RC' ha (by omega) (fun y hy => ?_)⟩
          rw [hy, nI_add, show (1 : Int32) = nI 1 from rfl, nI_add]
          refine ih (i + 1) (by omega) _ ?_
          have ef : f i = ht h (3 * a + i) := by rw [hf]; exact if_pos (by omega)
          rw [hs, ← ef]
          have hi3 : i < 3 := by omega
          match i, hi3 with
          | 0, _ => simp
          | 1, _ => simp
          | 2, _ => simp
          | n + 3, q => exact absurd q (by omega)
      exact ⟨hl h a + 1, key (hl h a) 0 (by omega) 0 (by simp)⟩
    · have ek : hk h a = 2 := (n_eq (by omega) (by omega)).mp e
      unfold w_Lc_ownMetering
      refine p_leave tzc (fun τ t => ?_)
      have RM' := TzC.RM g t
      have q := RM'.2.2.2.1 a ha
      have t43 : τ 43 1 = σ 0 12 := by rw [t.1 43 (by omega), etr]
      unfold w_Md_metered
      refine mh_in RM'.1 hm4 ha (ca1 ⟨n_in (by omega) (by omega), fun c => ?_, fun _ => ?_⟩)
      · rw [nI_c (by omega), q.1, ek] at c
        exact absurd rfl c
      · unfold B_Md_metered_26
        refine p_begins tzm (fun τ' t' => ⟨n_in (by omega) (by omega), fun c => ?_, fun _ => ⟨rfl, ?_⟩⟩)
        · rw [nI_c (by omega), t'.1 47 (by omega), q.1, ek] at c
          exact absurd rfl c
        · rw [t43] at t'
          exact g.tz t t'
