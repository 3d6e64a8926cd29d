def RdM (H : Hp) (σ : Sg) : Prop := σ 43 13 = nI H.1 ∧ ∀ a, a < H.1 → σ 51 a = nI (H.2.1 a) ∧ σ 52 a = nI (H.2.2.1 a) ∧ ∀ k, k < H.2.2.1 a → σ 53 (3 * a + k) = nI (H.2.2.2 (3 * a + k))
def FR (σ0 σ : Sg) : Prop := (∀ c, c ≠ 43 → c ≠ 51 → c ≠ 52 → c ≠ 53 → σ c = σ0 c) ∧ ∀ j, j ≠ 12 → j ≠ 13 → σ 43 j = σ0 43 j
theorem RdM.at {H : Hp} {σ : Sg} {v : Int32} (R : RdM H σ) : RdM H (s2 σ 43 12 v) := by
  unfold RdM at R ⊢
  rw [s2_ai (by omega), s2_ne (by omega), s2_ne (by omega), s2_ne (by omega)]
  exact R
theorem FR.at {σ0 σ : Sg} {v : Int32} (f : FR σ0 σ) : FR σ0 (s2 σ 43 12 v) := ⟨fun c c0 c1 c2 c3 => by rw [s2_ne c0]; exact f.1 c c0 c1 c2 c3, fun j h1 h2 => by rw [s2_ai h1]; exact f.2 j h1 h2⟩
section MR
variable {σ0 : Sg} {K : Int32 → Sg → Prop} {P n : Nat} {c : Nat → Int32}
theorem p_sign {σ : Sg} {i : Nat} {x : Int32} (hP : P + n ≤ 240) (hi : i ≤ n) (hc : ∀ j, j < n → σ0 46 (P + j) = c j) (f : FR σ0 σ) (ea : σ 43 12 = nI (P + i)) (hS : i < n → c i = x → K 1 (s2 σ 43 12 (nI (P + (i + 1))))) (hN : (i = n ∨ ¬ c i = x) → K 0 σ) : w_Md_isSign (nI (P + n)) x σ K := by
  unfold w_Md_isSign
  rw [ea, nI_c (by omega)]
  refine ⟨fun q => hN (Or.inl ?_), fun q => ⟨n_in ?_ (by omega), ?_⟩⟩
  · have := (n_le (by omega) (by omega)).mp q; omega
  · have : ¬ P + n ≤ P + i := fun e => q ((n_le (by omega) (by omega)).mpr e)
    omega
  · have i1 : i < n := by
      have : ¬ P + n ≤ P + i := fun e => q ((n_le (by omega) (by omega)).mpr e)
      omega
    rw [f.1 46 (by omega) (by omega) (by omega) (by omega), hc i i1]
    refine ⟨fun e τ et => ?_, fun e => hN (Or.inr e)⟩
    rw [show (1 : Int32) = nI 1 from rfl, nI_add, Nat.add_assoc] at et
    subst et
    exact hS i1 e
/-- an appliance -/
theorem p_readApp {σ : Sg} {i : Nat} {H : Hp} (hP : P + n ≤ 240) (hi : i ≤ n) (hc : ∀ j, j < n → σ0 46 (P + j) = c j) (f : FR σ0 σ) (w : WF 2 H) (R : RdM H σ) (ea : σ 43 12 = nI (P + i))
    (hA : ∀ τ e, FR σ0 τ → e ≤ n → psr c (n - i) i 2 H = Sum.inl e → τ 43 12 = nI (P + e) → K 0 τ)
    (hB : ∀ τ j H', FR σ0 τ → j ≤ n → psr c (n - i) i 2 H = psr c (n - j) j 4 H' → H'.1 = H.1 + 1 → (H'.2.2.1 (H'.1 - 1) = 3 ∨ j = n ∨ ¬ isd (c j)) → WF 4 H' → RdM H' τ → τ 43 12 = nI (P + j) → K 1 τ) : w_Md_readAppliance (nI (P + n)) σ K := by
  have m4 := w.2.2.2.1 rfl
  unfold w_Md_readAppliance
  rw [ea]
  refine ⟨fun q => ?_, fun q => ?_⟩
  · have : n = i := by
      have := (n_le (by omega) (by omega)).mp q
      omega
    subst this
    unfold B_Md_readAppliance_25
    refine ⟨fun q => absurd rfl q, fun _ => hA σ n f (Nat.le_refl _) ?_ ea⟩
    rw [Nat.sub_self]
    rfl
  · have i1 : i < n := by
      have : ¬ P + n ≤ P + i := fun e => q ((n_le (by omega) (by omega)).mpr e)
      omega
    have er : n - i = n - (i + 1) + 1 := by omega
    rw [show (nI (P + i)).toNatClampNeg = P + i from nI_c (by omega), f.1 46 (by omega) (by omega) (by omega) (by omega), hc i i1]
    refine ⟨n_in (by omega) (by omega), ?_⟩
    have bad : kdc (c i) = 9 → B_Md_readAppliance_25 (nI (P + n)) K (-9) σ := fun e => by
      unfold B_Md_readAppliance_25
      refine ⟨fun q => absurd rfl q, fun _ => hA σ i f (by omega) ?_ ea⟩
      rw [er]
      refine psr_none ?_
      unfold pst
      rw [if_neg (by omega), if_neg (by omega), if_pos rfl, if_pos e]
    have good : ∀ k, kdc (c i) = k → k ≤ 2 → B_Md_readAppliance_25 (nI (P + n)) K (nI k) σ := fun k ek k2 => by
      have e1 : psr c (n - i) i 2 H = psr c (n - (i + 1)) (i + 1) 3 (adA H k) := by
        rw [er]
        refine psr_some ?_
        unfold pst
        rw [if_neg (by omega), if_neg (by omega), if_pos rfl, if_neg (by omega), ek]
      have w3 := WF_A w k2
      -- the levels
      have lv3 : ∀ a, a < H.1 → H.2.2.1 a ≤ 3 := fun a ha => (w.2.2.2.2.2.2 a ha (fun q => absurd q (by omega))).2.2.1
      have exitL : ∀ v j (H' : Hp) (τ : Sg), v ≤ 3 → j ≤ n → (v = 3 ∨ j = n ∨ ¬ isd (c j)) → FR σ0 τ → WF (if v = 0 then 3 else 4) H' → H'.1 = H.1 + 1 → H'.2.1 H.1 = k → H'.2.2.1 H.1 = v → (∀ a, a < H.1 → H'.2.1 a = H.2.1 a ∧ H'.2.2.1 a = H.2.2.1 a ∧ ∀ b, b < H.2.2.1 a → H'.2.2.2 (3 * a + b) = H.2.2.2 (3 * a + b)) → RdM H τ → (∀ b, b < v → τ 53 (3 * H.1 + b) = nI (H'.2.2.2 (3 * H.1 + b))) → τ 43 12 = nI (P + j) → psr c (n - i) i 2 H = psr c (n - j) j (if v = 0 then 3 else 4) H' → B_Md_readAppliance_122 (nI (P + n)) K (nI k) (nI v) τ := by
        intro v j H' τ hv3 hj stop f2 w' m' k' l' same R2 t' ea2 e2
        unfold B_Md_readAppliance_122
        rw [R2.1, nI_c (by omega)]
        refine ⟨n_in (by omega) (by omega), fun t1 q1 => ?_⟩
        have u1 : t1 43 13 = nI H.1 := by rw [q1, s2_ne (by omega)]; exact R2.1
        rw [u1, nI_c (by omega)]
        refine ⟨n_in (by omega) (by omega), fun t2 q2 t3 q3 => ?_⟩
        have u2 : t2 43 13 = nI H.1 := by rw [q2, s2_ne (by omega)]; exact u1
        rw [u2, show (1 : Int32) = nI 1 from rfl, nI_add] at q3
        have f3 : FR σ0 t3 := ⟨fun c c0 c1 c2 c3 => by rw [q3, s2_ne c0, q2, s2_ne c2, q1, s2_ne c1]; exact f2.1 c c0 c1 c2 c3, fun j h1 h2 => by rw [q3, s2_ai h2, q2, s2_ne (by omega), q1, s2_ne (by omega)]; exact f2.2 j h1 h2⟩
        have a3 : t3 43 12 = nI (P + j) := by rw [q3, s2_ai (by omega), q2, s2_ne (by omega), q1, s2_ne (by omega)]; exact ea2
        refine ⟨fun q => hA t3 j f3 hj ?_ a3, fun q => hB t3 j H' f3 hj ?_ m' ?_ ?_ ⟨?_, fun a ha => ?_⟩ a3⟩
        · have v0 := (n_le0 (by omega)).mp q
          rw [e2, if_pos v0]
          rcases stop with z | z | z
          · omega
          · rw [z, Nat.sub_self]; rfl
          · by_cases jn : j = n
            · rw [jn, Nat.sub_self]; rfl
            · rw [show n - j = n - (j + 1) + 1 by omega]
              refine psr_none ?_
              unfold pst
              rw [if_neg (by omega), if_neg (by omega), if_neg (by omega), if_pos rfl, if_neg z]
        · have v0 : ¬ v = 0 := fun e => q ((n_le0 (by omega)).mpr e)
          rw [e2, if_neg v0]
        · rw [m', Nat.add_sub_cancel, l']; exact stop
        · have v0 : ¬ v = 0 := fun e => q ((n_le0 (by omega)).mpr e)
          rw [if_neg v0] at w'
          exact w'
        · rw [q3, s2_at, m']
        · rw [m'] at ha
          have r53 : t3 53 = τ 53 := by rw [q3, s2_ne (by omega), q2, s2_ne (by omega), q1, s2_ne (by omega)]
          have r52 : t3 52 = upd (τ 52) H.1 (nI v) := by rw [q3, s2_ne (by omega), q2, s2_eq, q1, s2_ne (by omega)]
          have r51 : t3 51 = upd (τ 51) H.1 (nI k) := by rw [q3, s2_ne (by omega), q2, s2_ne (by omega), q1, s2_eq]
          rw [r51, r52, r53]
          by_cases e : a = H.1
          · subst e
            rw [pk_us, pk_us, k', l']
            exact ⟨rfl, rfl, fun b hb' => t' b hb'⟩
          · have ss := same a (by omega)
            rw [pk_un e, pk_un e, ss.1, ss.2.1]
            have rr := R2.2 a (by omega)
            exact ⟨rr.1, rr.2.1, fun b hb' => by rw [ss.2.2 b hb']; exact rr.2.2 b hb'⟩
      have lev : ∀ g v j (H' : Hp) (τ : Sg), v + g = 3 → j ≤ n → FR σ0 τ → WF (if v = 0 then 3 else 4) H' → H'.1 = H.1 + 1 → H'.2.1 H.1 = k → H'.2.2.1 H.1 = v → (∀ a, a < H.1 → H'.2.1 a = H.2.1 a ∧ H'.2.2.1 a = H.2.2.1 a ∧ ∀ b, b < H.2.2.1 a → H'.2.2.2 (3 * a + b) = H.2.2.2 (3 * a + b)) → RdM H τ → (∀ b, b < v → τ 53 (3 * H.1 + b) = nI (H'.2.2.2 (3 * H.1 + b))) → τ 43 12 = nI (P + j) → psr c (n - i) i 2 H = psr c (n - j) j (if v = 0 then 3 else 4) H' → L_Md_readAppliance_46 (nI (P + n)) (nI k) K (g + 1) (nI v) τ := by
        intro g
        induction g with
        | zero =>
          intro v j H' τ hv3 hj f2 w' m' k' l' same R2 t' ea2 e2
          have v3 : v = 3 := hv3
          subst v3
          unfold L_Md_readAppliance_46
          exact ⟨fun _ => exitL 3 j H' τ (by omega) hj (Or.inl rfl) f2 w' m' k' l' same R2 t' ea2 e2, fun q => absurd (show nI 3 ≤ nI 3 from (n_le (by omega) (by omega)).mpr (Nat.le_refl _)) q⟩
        | succ g ih =>
          intro v j H' τ hv3 hj f2 w' m' k' l' same R2 t' ea2 e2
          have ex := exitL v j H' τ (by omega) hj
          unfold L_Md_readAppliance_46
          rw [ea2]
          refine ⟨fun q => absurd ((show nI 3 ≤ nI v ↔ 3 ≤ v from n_le (by omega) (by omega)).mp q) (by omega), fun _ => ⟨fun q => ex (Or.inr (Or.inl ?_)) f2 w' m' k' l' same R2 t' ea2 e2, fun q => ?_⟩⟩
          · have := (n_le (by omega) (by omega)).mp q
            omega
          · have j1 : j < n := by
              have : ¬ P + n ≤ P + j := fun e => q ((n_le (by omega) (by omega)).mpr e)
              omega
            rw [show (nI (P + j)).toNatClampNeg = P + j from nI_c (by omega), f2.1 46 (by omega) (by omega) (by omega) (by omega), hc j j1]
            refine ⟨n_in (by omega) (by omega), ?_⟩
            by_cases d : isd (c j)
            · refine wi_in (l := 49) (u := 57) rfl rfl d.1 d.2 (cb1 ?_)
              rw [R2.1, show (3 : Int32) = nI 3 from rfl, pk_mul, nI_add (3 * H.1) v, nI_c (by omega), (isd_v d).1]
              refine ⟨n_in (by omega) (by omega), n_in (by omega) (by omega), fun t1 q1 t2 q2 => ?_⟩
              have u1 : t1 43 12 = nI (P + j) := by rw [q1, s2_ne (by omega)]; exact ea2
              rw [u1, show (1 : Int32) = nI 1 from rfl, nI_add, Nat.add_assoc] at q2
              have r53 : t2 53 = upd (τ 53) (3 * H.1 + v) (nI (dvl (c j))) := by rw [q2, s2_ne (by omega), q1, s2_eq]
              have m1 : H'.1 - 1 = H.1 := by rw [m', Nat.add_sub_cancel]
              rw [show (1 : Int32) = nI 1 from rfl, nI_add v 1]
              refine ih (v + 1) (j + 1) (adL H' (dvl (c j))) t2 (by omega) (by omega) ⟨fun c c0 c1 c2 c3 => ?_, fun j h1 h2 => ?_⟩ ?_ m' k' ?_ (fun a ha => ⟨(same a ha).1, ?_, fun b hb' => ?_⟩) ⟨?_, fun a ha => ⟨?_, ?_, fun b hb' => ?_⟩⟩ (fun b hb' => ?_) ?_ ?_
              · rw [q2, s2_ne c0, q1, s2_ne c3]; exact f2.1 c c0 c1 c2 c3
              · rw [q2, s2_ai h1, q1, s2_ne (by omega)]; exact f2.2 j h1 h2
              · rw [if_neg (by omega)]
                refine WF_L w' ?_ (isd_v d).2.1 (isd_v d).2.2
                by_cases v0 : v = 0
                · rw [if_pos v0]; exact Or.inl rfl
                · rw [if_neg v0]; exact Or.inr ⟨rfl, by rw [m1, l']; omega⟩
              · show up H'.2.2.1 (H'.1 - 1) (H'.2.2.1 (H'.1 - 1) + 1) H.1 = v + 1
                rw [m1, up_s, l']
              · show up H'.2.2.1 (H'.1 - 1) (H'.2.2.1 (H'.1 - 1) + 1) a = _
                rw [m1, up_n (by omega)]; exact (same a ha).2.1
              · have := lv3 a ha
                show up H'.2.2.2 (3 * (H'.1 - 1) + H'.2.2.1 (H'.1 - 1)) (dvl (c j)) (3 * a + b) = _
                rw [m1, up_n (by omega)]; exact (same a ha).2.2 b hb'
              · rw [q2, s2_ai (by omega), q1, s2_ne (by omega)]; exact R2.1
              · rw [q2, s2_ne (by omega), q1, s2_ne (by omega)]; exact (R2.2 a ha).1
              · rw [q2, s2_ne (by omega), q1, s2_ne (by omega)]; exact (R2.2 a ha).2.1
              · have := lv3 a ha
                rw [r53, pk_un (by omega)]; exact (R2.2 a ha).2.2 b hb'
              · show t2 53 (3 * H.1 + b) = nI (up H'.2.2.2 (3 * (H'.1 - 1) + H'.2.2.1 (H'.1 - 1)) (dvl (c j)) (3 * H.1 + b))
                rw [r53, m1, l']
                by_cases e : b = v
                · rw [e, pk_us, up_s]
                · rw [pk_un (by omega), up_n (by omega)]; exact t' b (by omega)
              · rw [q2, s2_at]
              · rw [e2, show n - j = n - (j + 1) + 1 by omega, if_neg (show ¬ v + 1 = 0 by omega)]
                refine psr_some ?_
                unfold pst
                by_cases v0 : v = 0
                · rw [if_pos v0, if_neg (by omega), if_neg (by omega), if_neg (by omega), if_pos rfl, if_pos d]
                · rw [if_neg v0, if_neg (by omega), if_neg (by omega), if_neg (by omega), if_neg (by omega), if_pos ⟨d, by rw [m1, l']; omega⟩]
            · refine wi_out (l := 49) (u := 57) rfl rfl ?_ (cb0 (ex (Or.inr (Or.inr d)) f2 w' m' k' l' same R2 t' ea2 e2))
              rw [isd_toInt] at d
              rw [lt_toInt, lt_toInt, show (49 : Int32).toInt = 49 from rfl, show (57 : Int32).toInt = 57 from rfl]
              omega
      unfold B_Md_readAppliance_25
      refine ⟨fun _ τ et => ?_, fun q => absurd q (n9 k (by omega))⟩
      rw [ea, show (1 : Int32) = nI 1 from rfl, nI_add, Nat.add_assoc] at et
      subst et
      refine ⟨4, lev 3 0 (i + 1) (adA H k) _ (by omega) (by omega) f.at w3 rfl up_s up_s (fun a ha => ⟨up_n (by omega), up_n (by omega), fun _ _ => rfl⟩) R.at (fun b hb' => absurd hb' (by omega)) s2_at e1⟩
    unfold w_Md_kindBy
    refine ⟨fun c1 => ⟨fun c2 => ⟨fun c3 => bad ?_, fun c3 => good 2 ?_ (by omega)⟩, fun c2 => good 1 ?_ (by omega)⟩, fun c1 => good 0 ?_ (by omega)⟩
    · unfold kdc; rw [if_neg c1, if_neg c2, if_neg c3]
    · rw [c3]; rfl
    · rw [c2]; rfl
    · rw [c1]; rfl
end MR
