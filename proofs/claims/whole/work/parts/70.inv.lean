/-! ===== the invariant of both systems ===== -/
def ISh (σ : Sg) : Prop := ∀ k, k < 4 → ((σ (33 + 2 * k) 2 = -1 ∧ σ 44 k = -9) ∨ ∃ L n : Nat, L ≤ 2 ∧ n ≤ 60 ∧ σ (33 + 2 * k) 1 = nI L ∧ σ 44 k = nI L ∧ σ (33 + 2 * k) 2 = nI n ∧ σ 45 k = nI n) ∧ ∀ i, i < 60 → σ (34 + 2 * k) i = σ 46 (60 * k + i)
def IFt (σ : Sg) : Prop := σ 0 13 = σ 43 0 ∧ σ 0 12 = σ 43 1
def IRd (h : Hh) (σ : Sg) : Prop := ∃ n : Nat, n ≤ 8 ∧ σ 0 10 = nI n ∧ σ 43 30 = nI n ∧ ∀ r, r < n → ∃ a v : Nat, a < hm h ∧ v ≤ 2000 ∧ σ 41 r = nI a ∧ σ 65 r = nI a ∧ σ 42 r = nI v ∧ σ 66 r = nI v
def ICc (h : Hh) (σ : Sg) : Prop := ¬ σ 0 11 = 0 → DO 16 h σ
def ICm (h : Hh) (σ : Sg) : Prop := ¬ σ 43 17 = 0 → MB h σ
/-- a house, but for one guess: of which kind an appliance is (0 .. 2), or its first level (3 .. 11: 1 .. 9) -/
def gh (h : Hh) (a g : Nat) : Hh := (hm h, (fun b => if b = a ∧ g < 3 then g else hk h b), hl h, (fun j => if j = 3 * a ∧ ¬ g < 3 then g - 2 else ht h j), hT h, hv h, hb h)
def IGu (h : Hh) (σ : Sg) : Prop := (∀ j, j < 48 → σ 30 j = 0 ∨ σ 30 j = 1) ∧ ∀ a g, a < hm h → g < 12 → σ 30 (12 * a + g) = 1 → ∀ b, b < hm h → σ 31 (4 * (12 * a + g) + b) = nI (en (Dh (gh h a g)) (bst (Dh (gh h a g))) b (hT h))
def IUn (σ : Sg) : Prop := (∃ E Q, UE σ E Q) ∧ σ 11 5 = nI 0 ∧ σ 11 6 = nI 0
def Iv (h : Hh) (σ : Sg) : Prop := HOk h ∧ RC' 1 h σ ∧ RM' h σ ∧ ISh σ ∧ IFt σ ∧ IRd h σ ∧ ICc h σ ∧ ICm h σ ∧ IGu h σ ∧ IUn σ
def Inv (σ : Sg) : Prop := ∃ h, Iv h σ
theorem ISh.of {σ τ : Sg} (g : ISh σ) (e : ∀ c, 33 ≤ c → c ≤ 40 → τ c = σ c) (e1 : τ 44 = σ 44) (e2 : τ 45 = σ 45) (e3 : τ 46 = σ 46) : ISh τ := by
  intro k hk
  rw [e (33 + 2 * k) (by omega) (by omega), e (34 + 2 * k) (by omega) (by omega), e1, e2, e3]
  exact g k hk
theorem IRd.of {h : Hh} {σ τ : Sg} (g : IRd h σ) (e0 : τ 0 10 = σ 0 10) (e1 : τ 43 30 = σ 43 30) (e2 : τ 41 = σ 41) (e3 : τ 42 = σ 42) (e4 : τ 65 = σ 65) (e5 : τ 66 = σ 66) : IRd h τ := by
  unfold IRd at g ⊢
  rw [e0, e1, e2, e3, e4, e5]
  exact g
theorem DO.of {o : Nat} {h : Hh} {σ τ : Sg} (g : DO o h σ) (e0 : τ o = σ o) (e1 : τ (o + 1) = σ (o + 1)) (e2 : τ (o + 2) = σ (o + 2)) : DO o h τ := by
  unfold DO at g ⊢
  rw [e0, e1, e2]
  exact g
theorem ICc.of {h : Hh} {σ τ : Sg} (g : ICc h σ) (e : τ 0 11 = σ 0 11) (e0 : τ 16 = σ 16) (e1 : τ 17 = σ 17) (e2 : τ 18 = σ 18) : ICc h τ := by
  intro q
  rw [e] at q
  exact (g q).of e0 e1 e2
theorem ICm.of {h : Hh} {σ τ : Sg} (g : ICm h σ) (e : τ 43 17 = σ 43 17) (e0 : τ 62 = σ 62) (e1 : τ 54 = σ 54) : ICm h τ := by
  intro q
  rw [e] at q
  have := g q
  unfold MB at this ⊢
  rw [e0, e1]
  exact this
theorem IGu.of {h : Hh} {σ τ : Sg} (g : IGu h σ) (e0 : τ 30 = σ 30) (e1 : τ 31 = σ 31) : IGu h τ := by
  unfold IGu at g ⊢
  rw [e0, e1]
  exact g
theorem IUn.of {σ τ : Sg} (g : IUn σ) (e3 : τ 22 3 = σ 22 3) (e4 : τ 22 4 = σ 22 4) (e5 : τ 11 5 = σ 11 5) (e6 : τ 11 6 = σ 11 6) : IUn τ := by
  obtain ⟨⟨E, Q, u⟩, g1, g2⟩ := g
  exact ⟨⟨E, Q, u.1, by rw [e3]; exact u.2.1, by rw [e4]; exact u.2.2⟩, by rw [e5]; exact g1, by rw [e6]; exact g2⟩
/-- fault and trace alone have changed -/
theorem Iv.ft {h : Hh} {σ τ : Sg} (g : Iv h σ) (e : ∀ c, c ≠ 0 → c ≠ 43 → τ c = σ c) (e0 : ∀ j, j ≠ 12 → j ≠ 13 → τ 0 j = σ 0 j) (e43 : ∀ j, j ≠ 0 → j ≠ 1 → τ 43 j = σ 43 j) (f : IFt τ) : Iv h τ := by
  obtain ⟨g1, g2, g3, g4, g5, g6, g7, g8, g9, g10⟩ := g
  refine ⟨g1, g2.of (e 1 (by omega) (by omega)) (e 2 (by omega) (by omega)) (e 3 (by omega) (by omega)) (e 4 (by omega) (by omega)) (e 5 (by omega) (by omega)), g3.of (e43 5 (by omega) (by omega)) (e43 9 (by omega) (by omega)) (e43 11 (by omega) (by omega)) (e 47 (by omega) (by omega)) (e 48 (by omega) (by omega)) (e 49 (by omega) (by omega)) (e 50 (by omega) (by omega)), g4.of (fun c h1 h2 => e c (by omega) (by omega)) (e 44 (by omega) (by omega)) (e 45 (by omega) (by omega)) (e 46 (by omega) (by omega)), f, g6.of (e0 10 (by omega) (by omega)) (e43 30 (by omega) (by omega)) (e 41 (by omega) (by omega)) (e 42 (by omega) (by omega)) (e 65 (by omega) (by omega)) (e 66 (by omega) (by omega)), g7.of (e0 11 (by omega) (by omega)) (e 16 (by omega) (by omega)) (e 17 (by omega) (by omega)) (e 18 (by omega) (by omega)), g8.of (e43 17 (by omega) (by omega)) (e 62 (by omega) (by omega)) (e 54 (by omega) (by omega)), g9.of (e 30 (by omega) (by omega)) (e 31 (by omega) (by omega)), g10.of (by rw [e 22 (by omega) (by omega)]) (by rw [e 22 (by omega) (by omega)]) (by rw [e 11 (by omega) (by omega)]) (by rw [e 11 (by omega) (by omega)])⟩
/-! tests of 0 and 1 -/
theorem ca0 {P Q : Prop} (h : Q) : (¬ (0 : Int32) = 0 → P) ∧ ((0 : Int32) = 0 → Q) := ⟨fun e => absurd rfl e, fun _ => h⟩
theorem ca1 {P Q : Prop} (h : P) : (¬ (1 : Int32) = 0 → P) ∧ ((1 : Int32) = 0 → Q) := ⟨fun _ => h, fun e => absurd e (by decide)⟩
theorem cb0 {P Q : Prop} (h : P) : ((0 : Int32) = 0 → P) ∧ (¬ (0 : Int32) = 0 → Q) := ⟨fun _ => h, fun e => absurd rfl e⟩
theorem cb1 {P Q : Prop} (h : Q) : ((1 : Int32) = 0 → P) ∧ (¬ (1 : Int32) = 0 → Q) := ⟨fun e => absurd e (by decide), fun _ => h⟩
/-- an index outside -/
def ox (x : Int32) (n : Nat) : Prop := x < 0 ∨ nI n ≤ x
theorem ix (x : Int32) (n : Nat) (h : n < 2147483648) : ox x n ∨ ∃ j, j < n ∧ x = nI j := by
  rcases pk_ix x (n := n) h with g | g | g
  · exact Or.inl (Or.inl g)
  · exact Or.inl (Or.inr g)
  · exact Or.inr g
section T1
variable {σ : Sg} {K : Int32 → Prop}
theorem wi_in {a l u : Int32} {lo hi : Int64} (el : l.toInt64 = lo) (eh : u.toInt64 = hi) (c1 : l ≤ a) (c2 : a ≤ u) (hK : K 1) : w_Md_within a.toInt64 lo hi σ K := by
  subst el; subst eh
  unfold w_Md_within
  rw [lg_cmp_lt, lg_cmp_gt, Int64.lt_iff_toInt_lt, Int64.lt_iff_toInt_lt, Int32.toInt_toInt64, Int32.toInt_toInt64, Int32.toInt_toInt64]
  rw [le_toInt] at c1 c2
  exact ⟨fun g => absurd g (by omega), fun _ => ⟨fun g => absurd g (by omega), fun _ => hK⟩⟩
theorem wi_out {a l u : Int32} {lo hi : Int64} (el : l.toInt64 = lo) (eh : u.toInt64 = hi) (c : a < l ∨ u < a) (hK : K 0) : w_Md_within a.toInt64 lo hi σ K := by
  subst el; subst eh
  unfold w_Md_within
  rw [lg_cmp_lt, lg_cmp_gt, Int64.lt_iff_toInt_lt, Int64.lt_iff_toInt_lt, Int32.toInt_toInt64, Int32.toInt_toInt64, Int32.toInt_toInt64]
  rw [lt_toInt, lt_toInt] at c
  exact ⟨fun _ => hK, fun g => ⟨fun _ => hK, fun g2 => absurd c (by omega)⟩⟩
/-- 0 .. n - 1, n a number -/
theorem wn_in {n j : Nat} {hi : Int64} (eh : (nI n - 1).toInt64 = hi) (hj : j < n) (hn : n < 1000000) (hK : K 1) : w_Md_within (nI j).toInt64 (0 : Int64) hi σ K := by
  refine wi_in (l := 0) rfl eh (nI_pos' (by omega)) ?_ hK
  rw [show (1 : Int32) = nI 1 from rfl, n_sub (by omega)]
  exact (n_le (by omega) (by omega)).mpr (by omega)
theorem wn_out {n : Nat} {x : Int32} {hi : Int64} (eh : (nI n - 1).toInt64 = hi) (hx : ox x n) (hn : n < 1000000) (hK : K 0) : w_Md_within x.toInt64 (0 : Int64) hi σ K := by
  refine wi_out (l := 0) rfl eh ?_ hK
  rcases hx with g | g
  · exact Or.inl g
  · right
    rw [le_toInt, nI_t (by omega)] at g
    rw [lt_toInt, show (1 : Int32) = nI 1 from rfl, nI_sub_toInt (by omega) (by omega)]
    omega
theorem cs_in {j : Nat} (h : j < 4) (hK : K 1) : w_Lc_isSheet (nI j) σ K := by
  unfold w_Lc_isSheet
  exact ⟨fun g => absurd g (n_neg j (by omega)), fun _ => ⟨fun g => absurd (show 4 ≤ j from (n_le (by omega) (by omega)).mp g) (by omega), fun _ => hK⟩⟩
theorem cs_out {x : Int32} (h : ox x 4) (hK : K 0) : w_Lc_isSheet x σ K := by
  unfold w_Lc_isSheet
  exact ⟨fun _ => hK, fun g => ⟨fun _ => hK, fun g2 => h.elim (fun e => absurd e g) (fun e => absurd e g2)⟩⟩
theorem cl_in {j : Nat} (h : j < 3) (hK : K 1) : w_Lc_isLane (nI j) σ K := by
  unfold w_Lc_isLane
  exact ⟨fun g => absurd g (n_neg j (by omega)), fun _ => ⟨fun g => absurd (show 3 ≤ j from (n_le (by omega) (by omega)).mp g) (by omega), fun _ => hK⟩⟩
theorem cl_out {x : Int32} (h : ox x 3) (hK : K 0) : w_Lc_isLane x σ K := by
  unfold w_Lc_isLane
  exact ⟨fun _ => hK, fun g => ⟨fun _ => hK, fun g2 => h.elim (fun e => absurd e g) (fun e => absurd e g2)⟩⟩
theorem ms_in {j : Nat} (h : j < 4) (hK : K 1) : w_Md_isSheet (nI j) σ K := wn_in (n := 4) rfl h (by omega) ⟨bz1, hK⟩
theorem ms_out {x : Int32} (h : ox x 4) (hK : K 0) : w_Md_isSheet x σ K := wn_out (n := 4) rfl h (by omega) ⟨bz0, hK⟩
theorem ml_in {j : Nat} (h : j < 3) (hK : K 1) : w_Md_isSort (nI j) σ K := wn_in (n := 3) rfl h (by omega) ⟨bz1, hK⟩
theorem ml_out {x : Int32} (h : ox x 3) (hK : K 0) : w_Md_isSort x σ K := wn_out (n := 3) rfl h (by omega) ⟨bz0, hK⟩
theorem ch_in {o j m : Nat} (e : σ o 4 = nI m) (hm : m ≤ 4) (h : j < m) (hK : K 1) : w_Ho_hasAppliance o (nI j) σ K := by
  unfold w_Ho_hasAppliance
  rw [e]
  exact ⟨fun g => absurd g (n_neg j (by omega)), fun _ => ⟨fun g => absurd ((n_le (by omega) (by omega)).mp g) (by omega), fun _ => hK⟩⟩
theorem ch_out {o m : Nat} {x : Int32} (e : σ o 4 = nI m) (h : ox x m) (hK : K 0) : w_Ho_hasAppliance o x σ K := by
  unfold w_Ho_hasAppliance
  rw [e]
  exact ⟨fun _ => hK, fun g => ⟨fun _ => hK, fun g2 => h.elim (fun e => absurd e g) (fun e => absurd e g2)⟩⟩
theorem mh_in {j m : Nat} (e : σ 43 5 = nI m) (hm : m ≤ 4) (h : j < m) (hK : K 1) : w_Md_isAppliance (nI j) σ K := by
  unfold w_Md_isAppliance
  rw [e]
  exact wn_in rfl h (by omega) ⟨bz1, hK⟩
theorem mh_out {m : Nat} {x : Int32} (e : σ 43 5 = nI m) (hm : m ≤ 4) (h : ox x m) (hK : K 0) : w_Md_isAppliance x σ K := by
  unfold w_Md_isAppliance
  rw [e]
  exact wn_out rfl h (by omega) ⟨bz0, hK⟩
theorem ct_in {o j m : Nat} (e : σ o 5 = nI m) (hm : m ≤ 20) (h : j < m) (hK : K 1) : w_Ho_hasTime o (nI j) σ K := by
  unfold w_Ho_hasTime
  rw [e]
  exact ⟨fun g => absurd g (n_neg j (by omega)), fun _ => ⟨fun g => absurd ((n_le (by omega) (by omega)).mp g) (by omega), fun _ => hK⟩⟩
theorem ct_out {o m : Nat} {x : Int32} (e : σ o 5 = nI m) (h : ox x m) (hK : K 0) : w_Ho_hasTime o x σ K := by
  unfold w_Ho_hasTime
  rw [e]
  exact ⟨fun _ => hK, fun g => ⟨fun _ => hK, fun g2 => h.elim (fun e => absurd e g) (fun e => absurd e g2)⟩⟩
theorem mt_in {j m : Nat} (e : σ 43 9 = nI m) (hm : m ≤ 20) (h : j < m) (hK : K 1) : w_Md_isTime (nI j) σ K := by
  unfold w_Md_isTime
  rw [e]
  exact wn_in rfl h (by omega) ⟨bz1, hK⟩
theorem mt_out {m : Nat} {x : Int32} (e : σ 43 9 = nI m) (hm : m ≤ 20) (h : ox x m) (hK : K 0) : w_Md_isTime x σ K := by
  unfold w_Md_isTime
  rw [e]
  exact wn_out rfl h (by omega) ⟨bz0, hK⟩
/-- has it a level -/
theorem hl_in {o a k : Nat} {h : Hh} (ok : HOk h) (R : RC' o h σ) (ha : a < hm h) (hk : k < hl h a) (hK : K 1) : w_Ho_hasLevel o (nI a) (nI k) σ K := by
  have h4 := ok.1
  have h3 := (ok.2.1 a ha).2.2.1
  unfold w_Ho_hasLevel
  rw [nI_c (by omega), (R.2.2.2.1 a ha).2.1]
  exact ⟨fun g => absurd g (n_neg k (by omega)), fun _ => ⟨n_in (by omega) (by omega), fun g => absurd ((n_le (by omega) (by omega)).mp g) (by omega), fun _ => hK⟩⟩
theorem hl_out {o a : Nat} {x : Int32} {h : Hh} (ok : HOk h) (R : RC' o h σ) (ha : a < hm h) (hx : ox x (hl h a)) (hK : K 0) : w_Ho_hasLevel o (nI a) x σ K := by
  have h4 := ok.1
  unfold w_Ho_hasLevel
  rw [nI_c (by omega), (R.2.2.2.1 a ha).2.1]
  exact ⟨fun _ => hK, fun g => ⟨n_in (by omega) (by omega), fun _ => hK, fun g2 => hx.elim (fun e => absurd e g) (fun e => absurd e g2)⟩⟩
theorem tl_ok {o a k : Nat} {h : Hh} (ok : HOk h) (R : RC' o h σ) (ha : a < hm h) (hk : k < hl h a) (hK : K (nI (ht h (3 * a + k)))) : w_Ho_toldLevel o (nI a) (nI k) σ K := by
  have h4 := ok.1
  have h3 := (ok.2.1 a ha).2.2.1
  unfold w_Ho_toldLevel
  rw [show (3 : Int32) = nI 3 from rfl, pk_mul, nI_add, nI_c (by omega), (R.2.2.2.1 a ha).2.2 k hk]
  exact ⟨n_in (by omega) (by omega), hK⟩
end T1
