theorem Iv.rd {h : Hh} {σ τ : Sg} (g : Iv h σ) (e : ∀ c, c ≠ 0 → c ≠ 43 → c ≠ 41 → c ≠ 42 → c ≠ 65 → c ≠ 66 → τ c = σ c) (e0 : ∀ j, j ≠ 10 → τ 0 j = σ 0 j) (e43 : ∀ j, j ≠ 30 → τ 43 j = σ 43 j) (f : IRd h τ) : Inv τ := by
  obtain ⟨g1, g2, g3, g4, g5, g6, g7, g8, g9, g10⟩ := g
  have q : ∀ c, c ≠ 0 ∧ c ≠ 43 ∧ c ≠ 41 ∧ c ≠ 42 ∧ c ≠ 65 ∧ c ≠ 66 → τ c = σ c := fun c p => e c p.1 p.2.1 p.2.2.1 p.2.2.2.1 p.2.2.2.2.1 p.2.2.2.2.2
  exact ⟨h, g1, g2.of (q 1 (by omega)) (q 2 (by omega)) (q 3 (by omega)) (q 4 (by omega)) (q 5 (by omega)), g3.of (e43 5 (by omega)) (e43 9 (by omega)) (e43 11 (by omega)) (q 47 (by omega)) (q 48 (by omega)) (q 49 (by omega)) (q 50 (by omega)), g4.of (fun c h1 h2 => q c (by omega)) (q 44 (by omega)) (q 45 (by omega)) (q 46 (by omega)), ⟨by rw [e0 13 (by omega), e43 0 (by omega)]; exact g5.1, by rw [e0 12 (by omega), e43 1 (by omega)]; exact g5.2⟩, f, g7.of (e0 11 (by omega)) (q 16 (by omega)) (q 17 (by omega)) (q 18 (by omega)), g8.of (e43 17 (by omega)) (q 62 (by omega)) (q 54 (by omega)), g9.of (q 30 (by omega)) (q 31 (by omega)), g10.of (by rw [q 22 (by omega)]) (by rw [q 22 (by omega)]) (by rw [q 11 (by omega)]) (by rw [q 11 (by omega)])⟩
theorem Iv.sh {h : Hh} {σ τ : Sg} (g : Iv h σ) (e : ∀ c, c ≠ 0 → c ≠ 43 → (c < 33 ∨ 40 < c) → c ≠ 44 → c ≠ 45 → c ≠ 46 → τ c = σ c) (e0 : ∀ j, j ≠ 13 → τ 0 j = σ 0 j) (e43 : ∀ j, j ≠ 0 → τ 43 j = σ 43 j) (ef : τ 0 13 = τ 43 0) (f : ISh τ) : Inv τ := by
  obtain ⟨g1, g2, g3, g4, g5, g6, g7, g8, g9, g10⟩ := g
  have q : ∀ c, c ≠ 0 ∧ c ≠ 43 ∧ (c < 33 ∨ 40 < c) ∧ c ≠ 44 ∧ c ≠ 45 ∧ c ≠ 46 → τ c = σ c := fun c p => e c p.1 p.2.1 p.2.2.1 p.2.2.2.1 p.2.2.2.2.1 p.2.2.2.2.2
  exact ⟨h, g1, g2.of (q 1 (by omega)) (q 2 (by omega)) (q 3 (by omega)) (q 4 (by omega)) (q 5 (by omega)), g3.of (e43 5 (by omega)) (e43 9 (by omega)) (e43 11 (by omega)) (q 47 (by omega)) (q 48 (by omega)) (q 49 (by omega)) (q 50 (by omega)), f, ⟨ef, by rw [e0 12 (by omega), e43 1 (by omega)]; exact g5.2⟩, g6.of (e0 10 (by omega)) (e43 30 (by omega)) (q 41 (by omega)) (q 42 (by omega)) (q 65 (by omega)) (q 66 (by omega)), g7.of (e0 11 (by omega)) (q 16 (by omega)) (q 17 (by omega)) (q 18 (by omega)), g8.of (e43 17 (by omega)) (q 62 (by omega)) (q 54 (by omega)), g9.of (q 30 (by omega)) (q 31 (by omega)), g10.of (by rw [q 22 (by omega)]) (by rw [q 22 (by omega)]) (by rw [q 11 (by omega)]) (by rw [q 11 (by omega)])⟩
theorem H_reading (σ : Sg) (a1 a2 : Int32) (I : Inv σ) : w_Lc_reading a1 a2 σ (fun r0 τ0 => w_Md_reading a1 a2 τ0 (fun r1 τ1 => r0 = r1 ∧ Inv τ1)) := by
  obtain ⟨h, g⟩ := I
  have ok := g.1
  have hm4 := g.1.1
  have RC := g.2.1
  have RM := g.2.2.1
  obtain ⟨n, n8, r1, r2, r3⟩ := g.2.2.2.2.2.1
  rcases ix a1 (hm h) (by omega) with o | ⟨a, ha, rfl⟩
  · unfold w_Lc_reading
    refine ch_out RC.1 o (ca0 ?_)
    unfold w_Md_reading
    exact mh_out RM.1 hm4 o (ca0 ⟨rfl, h, g⟩)
  · unfold w_Lc_reading
    refine ch_in RC.1 hm4 ha (ca1 ?_)
    have out : (a2 < 0 ∨ 2000 < a2) → w_Md_reading (nI a) a2 σ (fun r1 τ1 => (-2 : Int32) = r1 ∧ Inv τ1) := fun c => by
      unfold w_Md_reading
      exact mh_in RM.1 hm4 ha (ca1 (wi_out (l := 0) (u := 2000) rfl rfl c (ca0 ⟨rfl, h, g⟩)))
    refine ⟨fun c => out (Or.inl c), fun c => ⟨fun c2 => ?_, fun c2 => out (Or.inr (by rw [le_toInt] at c2; rw [lt_toInt]; omega))⟩⟩
    have lo : (0 : Int32) ≤ a2 := by rw [le_toInt]; rw [lt_toInt] at c; omega
    obtain ⟨v, hv2, rfl⟩ : ∃ v : Nat, v ≤ 2000 ∧ a2 = nI v := by
      rw [le_toInt] at lo c2
      have z1 : (0 : Int32).toInt = 0 := rfl
      have z2 : (2000 : Int32).toInt = 2000 := rfl
      exact ⟨a2.toInt.toNat, by omega, of_toInt (by omega)⟩
    rw [r1]
    refine ⟨fun c3 => ?_, fun c3 => ?_⟩
    · have c3 : n < 8 := (n_lt (by omega) (by omega)).mp c3
      rw [nI_c (by omega)]
      refine ⟨n_in (by omega) (by omega), fun τ48 e48 => ?_⟩
      have x48 : τ48 0 10 = nI n := by rw [e48, s2_ne (by omega), r1]
      rw [x48, nI_c (by omega)]
      refine ⟨n_in (by omega) (by omega), fun τ58 e58 τ66 e66 => ?_⟩
      have x58 : τ58 0 10 = nI n := by rw [e58, s2_ne (by omega), x48]
      rw [x58, show (1 : Int32) = nI 1 from rfl, nI_add] at e66
      have y0 : ∀ j, j ≠ 10 → τ66 0 j = σ 0 j := fun j hj => by rw [e66, s2_ai hj, e58, e48, s2_ne (by omega), s2_ne (by omega)]
      have y10 : τ66 0 10 = nI (n + 1) := by rw [e66, s2_at]
      have yc : ∀ c, c ≠ 0 → c ≠ 41 → c ≠ 42 → τ66 c = σ c := fun c c0 c1 c2 => by rw [e66, e58, e48, s2_ne c0, s2_ne c2, s2_ne c1]
      have y41 : τ66 41 = upd (σ 41) n (nI a) := by rw [e66, e58, e48, s2_ne (by omega), s2_ne (by omega), s2_eq]
      have y42 : τ66 42 = upd (σ 42) n (nI v) := by rw [e66, e58, e48, s2_ne (by omega), s2_eq, s2_ne (by omega)]
      rw [y10, show (1 : Int32) = nI 1 from rfl, n_sub (by omega), show n + 1 - 1 = n by omega]
      clear e66 e58 e48 x48 x58
      unfold w_Md_reading
      have m5 : τ66 43 5 = nI (hm h) := by rw [yc 43 (by omega) (by omega) (by omega)]; exact RM.1
      have m30 : τ66 43 30 = nI n := by rw [yc 43 (by omega) (by omega) (by omega)]; exact r2
      refine mh_in m5 hm4 ha (ca1 (wi_in (l := 0) (u := 2000) rfl rfl lo c2 (ca1 ?_)))
      rw [m30]
      refine ⟨fun _ => ?_, fun c4 => absurd (show n = 8 from (n_eq (by omega) (by omega)).mp c4) (by omega)⟩
      rw [nI_c (by omega)]
      refine ⟨n_in (by omega) (by omega), fun t1 q1 => ?_⟩
      have z1 : t1 43 30 = nI n := by rw [q1, s2_ne (by omega), m30]
      rw [z1, nI_c (by omega)]
      refine ⟨n_in (by omega) (by omega), fun t2 q2 t3 q3 => ?_⟩
      have z2 : t2 43 30 = nI n := by rw [q2, s2_ne (by omega), z1]
      rw [z2, show (1 : Int32) = nI 1 from rfl, nI_add] at q3
      have w43 : ∀ j, j ≠ 30 → t3 43 j = τ66 43 j := fun j hj => by rw [q3, s2_ai hj, q2, q1, s2_ne (by omega), s2_ne (by omega)]
      have w30 : t3 43 30 = nI (n + 1) := by rw [q3, s2_at]
      have wc : ∀ c, c ≠ 43 → c ≠ 65 → c ≠ 66 → t3 c = τ66 c := fun c c0 c1 c2 => by rw [q3, q2, q1, s2_ne c0, s2_ne c2, s2_ne c1]
      have w65 : t3 65 = upd (τ66 65) n (nI a) := by rw [q3, q2, q1, s2_ne (by omega), s2_ne (by omega), s2_eq]
      have w66 : t3 66 = upd (τ66 66) n (nI v) := by rw [q3, q2, q1, s2_ne (by omega), s2_eq, s2_ne (by omega)]
      refine ⟨?_, g.rd (fun c c0 c1 c2 c3 c4 c5 => (wc c c1 c4 c5).trans (yc c c0 c2 c3)) (fun j hj => by rw [wc 0 (by omega) (by omega) (by omega)]; exact y0 j hj) (fun j hj => by rw [w43 j hj, yc 43 (by omega) (by omega) (by omega)]) ⟨n + 1, by omega, by rw [wc 0 (by omega) (by omega) (by omega)]; exact y10, w30, fun r hr => ?_⟩⟩
      · rw [w30, show (1 : Int32) = nI 1 from rfl, n_sub (by omega), show n + 1 - 1 = n by omega]
      · rw [wc 41 (by omega) (by omega) (by omega), wc 42 (by omega) (by omega) (by omega), w65, w66, y41, y42, yc 65 (by omega) (by omega) (by omega), yc 66 (by omega) (by omega) (by omega)]
        by_cases er : r = n
        · subst er
          exact ⟨a, v, ha, hv2, pk_us, pk_us, pk_us, pk_us⟩
        · obtain ⟨b, u, b1, b2, b3, b4, b5, b6⟩ := r3 r (by omega)
          exact ⟨b, u, b1, b2, by rw [pk_un er]; exact b3, by rw [pk_un er]; exact b4, by rw [pk_un er]; exact b5, by rw [pk_un er]; exact b6⟩
    · have c3 : ¬ n < 8 := fun e => c3 (show nI n < nI 8 from (n_lt (by omega) (by omega)).mpr e)
      unfold w_Md_reading
      refine mh_in RM.1 hm4 ha (ca1 (wi_in (l := 0) (u := 2000) rfl rfl lo c2 (ca1 ?_)))
      rw [r2]
      refine ⟨fun c4 => absurd (by rw [show n = 8 by omega]; rfl) c4, fun _ => ⟨rfl, h, g⟩⟩
theorem H_back (σ : Sg) (a1 : Int32) (I : Inv σ) : w_Lc_back a1 σ (fun r0 τ0 => w_Md_back a1 τ0 (fun r1 τ1 => r0 = r1 ∧ Inv τ1)) := by
  obtain ⟨h, g⟩ := I
  obtain ⟨n, n8, r1, r2, r3⟩ := g.2.2.2.2.2.1
  have out : (a1 < 0 ∨ nI n < a1) → w_Md_back a1 σ (fun r1 τ1 => (-2 : Int32) = r1 ∧ Inv τ1) := fun c => by
    unfold w_Md_back
    rw [r2]
    exact wi_out (l := 0) (u := nI n) rfl rfl c (ca0 ⟨rfl, h, g⟩)
  unfold w_Lc_back
  rw [r1]
  refine ⟨fun c => out (Or.inl c), fun c => ⟨fun c2 τ e => ?_, fun c2 => out (Or.inr (by rw [le_toInt] at c2; rw [lt_toInt]; omega))⟩⟩
  have lo : (0 : Int32) ≤ a1 := by rw [le_toInt]; rw [lt_toInt] at c; omega
  obtain ⟨v, hvn, rfl⟩ : ∃ v : Nat, v ≤ n ∧ a1 = nI v := by
    have hl := lo
    have hc := c2
    rw [le_toInt] at hl hc
    rw [nI_t (by omega)] at hc
    have z1 : (0 : Int32).toInt = 0 := rfl
    exact ⟨a1.toInt.toNat, by omega, of_toInt (by omega)⟩
  rw [n_sub hvn] at e
  have y10 : τ 0 10 = nI (n - v) := by rw [e, s2_at]
  have yc : ∀ c, c ≠ 0 → τ c = σ c := fun c hc => by rw [e, s2_ne hc]
  have y0 : ∀ j, j ≠ 10 → τ 0 j = σ 0 j := fun j hj => by rw [e, s2_ai hj]
  show w_Md_back (nI v) τ _
  unfold w_Md_back
  rw [yc 43 (by omega), r2]
  refine wi_in (l := 0) (u := nI n) rfl rfl lo c2 (ca1 (fun t q => ?_))
  rw [n_sub hvn] at q
  have w30 : t 43 30 = nI (n - v) := by rw [q, s2_at]
  have wc : ∀ c, c ≠ 43 → t c = τ c := fun c hc => by rw [q, s2_ne hc]
  refine ⟨by rw [y10, w30], g.rd (fun c c0 c1 _ _ _ _ => (wc c c1).trans (yc c c0)) (fun j hj => by rw [wc 0 (by omega)]; exact y0 j hj) (fun j hj => by rw [q, s2_ai hj, yc 43 (by omega)]) ⟨n - v, by omega, by rw [wc 0 (by omega)]; exact y10, w30, fun r hr => ?_⟩⟩
  rw [wc 41 (by omega), wc 42 (by omega), wc 65 (by omega), wc 66 (by omega), yc 41 (by omega), yc 42 (by omega), yc 65 (by omega), yc 66 (by omega)]
  exact r3 r (by omega)
/-! ===== sheets ===== -/
/-- cells that are there -/
def hd3 (i n : Int32) (len : Nat) : Prop := ∃ a b : Nat, i = nI a ∧ n = nI b ∧ a + b ≤ len
theorem hd_iff {i n : Int32} {len : Nat} (hl : len ≤ 60) : hd3 i n len ↔ ¬ i < 0 ∧ ¬ nI len < i ∧ ¬ n < 0 ∧ ¬ (nI len - i) < n := by
  constructor
  · rintro ⟨a, b, rfl, rfl, hab⟩
    refine ⟨n_neg a (by omega), fun c => ?_, n_neg b (by omega), fun c => ?_⟩
    · have := (n_lt (by omega) (by omega)).mp c; omega
    · rw [n_sub (by omega)] at c
      have := (n_lt (by omega) (by omega)).mp c; omega
  · rintro ⟨c1, c2, c3, c4⟩
    obtain ⟨a, ha, rfl⟩ := n_of i c1
    obtain ⟨b, hb, rfl⟩ := n_of n c3
    have h1 : ¬ len < a := fun e => c2 ((n_lt (by omega) (by omega)).mpr e)
    rw [n_sub (by omega)] at c4
    have h2 : ¬ len - a < b := fun e => c4 ((n_lt (by omega) (by omega)).mpr e)
    exact ⟨a, b, rfl, rfl, by omega⟩
section SH
variable {σ : Sg} {K : Int32 → Prop}
theorem p_holds {o len : Nat} {i n : Int32} (e : σ o 2 = nI len) (hl : len ≤ 60) (h1 : hd3 i n len → K 1) (h0 : ¬ hd3 i n len → K 0) : w_Sh_holds o i n σ K := by
  have q := hd_iff (i := i) (n := n) hl
  unfold w_Sh_holds
  rw [e]
  refine ⟨fun c => h0 (fun x => (q.mp x).1 c), fun c1 => ⟨fun c => h0 (fun x => (q.mp x).2.1 c), fun c2 => ⟨fun c => h0 (fun x => (q.mp x).2.2.1 c), fun c3 => ⟨fun c => h0 (fun x => (q.mp x).2.2.2 c), fun c4 => h1 (q.mpr ⟨c1, c2, c3, c4⟩)⟩⟩⟩⟩
theorem p_hasRow0 {o : Nat} (e : σ o 2 = -1) (hK : K 0) : w_Sh_hasRow o σ K := by
  unfold w_Sh_hasRow
  exact ⟨fun _ => hK, fun c => absurd e c⟩
theorem m1n {n : Nat} (h : n ≤ 60) : ¬ nI n = -1 := fun e => by
  rw [eq_toInt, nI_t (by omega)] at e
  have : (-1 : Int32).toInt = -1 := rfl
  omega
theorem p_hasRow1 {o n : Nat} (e : σ o 2 = nI n) (h : n ≤ 60) (hK : K 1) : w_Sh_hasRow o σ K := by
  unfold w_Sh_hasRow
  rw [e]
  exact ⟨fun c => absurd c (m1n h), fun _ => hK⟩
theorem p_fRow0 {o : Nat} {l : Int32} (e : σ o 2 = -1) (hK : K 1) : w_Sh_faultOfRow o l σ K := by
  unfold w_Sh_faultOfRow
  exact p_hasRow0 e (ca0 hK)
theorem p_fRow {o n L l : Nat} (e : σ o 2 = nI n) (hn : n ≤ 60) (eL : σ o 1 = nI L) (hL : L ≤ 2) (hl : l < 3) (h0 : L = l → K 0) (h2 : L ≠ l → K 2) : w_Sh_faultOfRow o (nI l) σ K := by
  unfold w_Sh_faultOfRow
  rw [eL]
  refine p_hasRow1 e hn (ca1 ⟨fun c => h2 (fun q => c (by rw [q])), fun c => h0 ((n_eq (by omega) (by omega)).mp c)⟩)
theorem p_fCells0 {o : Nat} {l i n : Int32} (e : σ o 2 = -1) (hK : K 1) : w_Sh_faultOfCells o l i n σ K := by
  unfold w_Sh_faultOfCells
  exact p_fRow0 e (ca1 hK)
theorem ca2 {P Q : Prop} (h : P) : (¬ (2 : Int32) = 0 → P) ∧ ((2 : Int32) = 0 → Q) := ⟨fun _ => h, fun e => absurd e (by decide)⟩
theorem p_fCells {o m L l : Nat} {i n : Int32} (e : σ o 2 = nI m) (hm : m ≤ 60) (eL : σ o 1 = nI L) (hL : L ≤ 2) (hl : l < 3) (h0 : L = l → hd3 i n m → K 0) (h3 : L = l → ¬ hd3 i n m → K 3) (h2 : L ≠ l → K 2) : w_Sh_faultOfCells o (nI l) i n σ K := by
  unfold w_Sh_faultOfCells
  refine p_fRow e hm eL hL hl (fun q => ca0 (p_holds e hm (fun x => ca1 (h0 q x)) (fun x => ca0 (h3 q x)))) (fun q => ca2 (h2 q))
theorem p_ag0 {k : Nat} {l i n : Int32} (hk : k < 4) (e : σ 44 k = -9) (hK : K 1) : w_Md_against (nI k) l i n σ K := by
  have t : B_Md_against_23 (nI k) l i n σ K := by
    unfold B_Md_against_23
    rw [nI_c (by omega), e]
    exact ⟨n_in (by omega) (by omega), fun c => absurd rfl c, fun _ => hK⟩
  unfold w_Md_against
  rw [nI_c (by omega), e]
  exact ⟨n_in (by omega) (by omega), fun _ => t, fun c => absurd rfl c⟩
theorem p_ag {k L l m : Nat} {i n : Int32} (hk : k < 4) (eL : σ 44 k = nI L) (hL : L ≤ 2) (hl : l < 3) (em : σ 45 k = nI m) (hm : m ≤ 60) (h2 : L ≠ l → K 2) (h4 : L = l → n < 0 → K 4) (h3 : L = l → ¬ n < 0 → ¬ hd3 i n m → K 3) (h0 : L = l → hd3 i n m → K 0) : w_Md_against (nI k) (nI l) i n σ K := by
  have q := hd_iff (i := i) (n := n) hm
  have t : L = l → B_Md_against_23 (nI k) (nI l) i n σ K := fun eq => by
    unfold B_Md_against_23
    rw [nI_c (by omega), eL, em]
    refine ⟨n_in (by omega) (by omega), fun _ => ⟨fun c0 => ?_, fun c0 => h4 eq (by rw [le_toInt] at c0; rw [lt_toInt]; omega)⟩, fun c => absurd c (n9 L (by omega))⟩
    have c0' : ¬ n < 0 := by rw [le_toInt] at c0; rw [lt_toInt]; omega
    refine ⟨fun c => h3 eq c0' (fun x => (q.mp x).1 c), fun c1 => ⟨n_in (by omega) (by omega), fun c => h3 eq c0' (fun x => (q.mp x).2.1 c), fun c2 => ⟨n_in (by omega) (by omega), fun c => ?_, fun c => ?_⟩⟩⟩
    · refine h0 eq (q.mpr ⟨c1, c2, c0', ?_⟩)
      rw [le_toInt] at c; rw [lt_toInt]; omega
    · refine h3 eq c0' (fun x => (q.mp x).2.2.2 ?_)
      rw [le_toInt] at c; rw [lt_toInt]; omega
  unfold w_Md_against
  rw [nI_c (by omega), eL]
  refine ⟨n_in (by omega) (by omega), fun c => absurd c (n9 L (by omega)), fun _ => ⟨n_in (by omega) (by omega), fun c => t ((n_eq (by omega) (by omega)).mp c), fun c => h2 (fun e => c (by rw [e]))⟩⟩
end SH
