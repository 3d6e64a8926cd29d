theorem gh_ok {h : Hh} {a g : Nat} (ok : HOk h) (ha : a < hm h) (g12 : g < 12) : HOk (gh h a g) := by
  refine ⟨ok.1, fun b hb' => ⟨?_, (ok.2.1 b hb').2.1, (ok.2.1 b hb').2.2.1, fun k hk2 => ?_⟩, ok.2.2⟩
  · show (if b = a ∧ g < 3 then g else hk h b) ≤ 2
    split
    · rename_i q; omega
    · exact (ok.2.1 b hb').1
  · show 1 ≤ (if 3 * b + k = 3 * a ∧ ¬ g < 3 then g - 2 else ht h (3 * b + k)) ∧ (if 3 * b + k = 3 * a ∧ ¬ g < 3 then g - 2 else ht h (3 * b + k)) ≤ 9
    split
    · rename_i q; omega
    · exact (ok.2.1 b hb').2.2.2 k hk2
/-- what the readings say of a guess -/
def hold (h : Hh) (a g : Nat) (σ : Sg) (n : Nat) : Prop := ∀ r, r < n → en (Dh (gh h a g)) (bst (Dh (gh h a g))) (σ 41 r).toNatClampNeg (hT h) = (σ 42 r).toNatClampNeg
theorem p_unmixGuess {h : Hh} {a g : Nat} {σ : Sg} {K : Sg → Prop} (iv : Iv h σ) (ha : a < hm h) (g12 : g < 12) (hK : ∀ τ : Sg, (∀ c, c ≠ 6 → c ≠ 7 → c ≠ 8 → c ≠ 9 → c ≠ 10 → c ≠ 19 → c ≠ 20 → c ≠ 21 → c < 22 ∨ 27 < c → τ c = σ c) → (∃ E Q, UE τ E Q) → DO 19 (gh h a g) τ → K τ) : w_Lc_unmixGuess (nI a) (nI g) σ K := by
  have ok := iv.1
  have hm4 := ok.1
  have l1 := (ok.2.1 a ha).2.1
  have okg := gh_ok ok ha g12
  unfold w_Lc_unmixGuess
  refine p_become ok rfl rfl (by omega) iv.2.1 (fun τ b1 b2 b3 => ?_)
  have fin : ∀ t : Sg, RC' 6 (gh h a g) t → (∀ c, c ≠ 6 → c ≠ 7 → c ≠ 8 → c ≠ 9 → c ≠ 10 → t c = σ c) → B_Lc_unmixGuess_43 (nI a) (nI g) K t := fun t R f => by
    unfold B_Lc_unmixGuess_43
    obtain ⟨E, Q, u⟩ := iv.2.2.2.2.2.2.2.2.2.1
    refine p_unmix okg rfl rfl R ⟨E, Q, u.1, by rw [f 22 (by omega) (by omega) (by omega) (by omega) (by omega)]; exact u.2.1, by rw [f 22 (by omega) (by omega) (by omega) (by omega) (by omega)]; exact u.2.2⟩ (fun τ2 w1 w2 w3 => hK τ2 (fun c c0 c1 c2 c3 c4 c5 c6 c7 c8 => ?_) w2 w3)
    rw [w1 c (by omega) (by omega) (by omega) (by omega) (by omega) (by omega) c5 c6 c7, f c c0 c1 c2 c3 c4]
  refine ⟨fun c => ?_, fun c => ?_⟩
  · have c3 : 3 ≤ g := (show nI 3 ≤ nI g ↔ 3 ≤ g from n_le (by omega) (by omega)).mp c
    unfold w_Ho_setLevel
    rw [show (3 : Int32) = nI 3 from rfl, pk_mul, show (0 : Int32) = nI 0 from rfl, nI_add (3 * a) 0, Nat.add_zero, nI_c (by omega), n_sub c3, show (1 : Int32) = nI 1 from rfl, nI_add]
    refine ⟨n_in (by omega) (by omega), fun t q => fin t ⟨?_, ?_, ?_, fun b hb' => ⟨?_, ?_, fun k hk2 => ?_⟩, fun t' ht' => ?_⟩ (fun c c0 c1 c2 c3 c4 => ?_)⟩
    · rw [q, s2_ne (by omega)]; exact b3.1
    · rw [q, s2_ne (by omega)]; exact b3.2.1
    · rw [q, s2_ne (by omega)]; exact b3.2.2.1
    · show t 7 b = nI (if b = a ∧ g < 3 then g else hk h b)
      rw [if_neg (by omega), q, s2_ne (by omega)]; exact (b3.2.2.2.1 b hb').1
    · rw [q, s2_ne (by omega)]; exact (b3.2.2.2.1 b hb').2.1
    · show t 9 (3 * b + k) = nI (if 3 * b + k = 3 * a ∧ ¬ g < 3 then g - 2 else ht h (3 * b + k))
      rw [q, s2_eq]
      by_cases e : 3 * b + k = 3 * a
      · rw [if_pos ⟨e, by omega⟩, e, pk_us, show g - 3 + 1 = g - 2 by omega]
      · rw [if_neg (by omega), pk_un e]; exact (b3.2.2.2.1 b hb').2.2 k hk2
    · rw [q, s2_ne (by omega)]; exact b3.2.2.2.2 t' ht'
    · rw [q, s2_ne (by omega), b1 c c0 c1 c2 c3 c4]
  · have c3 : ¬ 3 ≤ g := fun e => c ((show nI 3 ≤ nI g ↔ 3 ≤ g from n_le (by omega) (by omega)).mpr e)
    rw [nI_c (by omega)]
    refine ⟨n_in (by omega) (by omega), fun t q => fin t ⟨?_, ?_, ?_, fun b hb' => ⟨?_, ?_, fun k hk2 => ?_⟩, fun t' ht' => ?_⟩ (fun c c0 c1 c2 c3 c4 => ?_)⟩
    · rw [q, s2_ne (by omega)]; exact b3.1
    · rw [q, s2_ne (by omega)]; exact b3.2.1
    · rw [q, s2_ne (by omega)]; exact b3.2.2.1
    · show t 7 b = nI (if b = a ∧ g < 3 then g else hk h b)
      by_cases e : b = a
      · rw [if_pos ⟨e, by omega⟩, q, e, s2_at]
      · rw [if_neg (by omega), q, s2_ai e]; exact (b3.2.2.2.1 b hb').1
    · rw [q, s2_ne (by omega)]; exact (b3.2.2.2.1 b hb').2.1
    · show t 9 (3 * b + k) = nI (if 3 * b + k = 3 * a ∧ ¬ g < 3 then g - 2 else ht h (3 * b + k))
      rw [if_neg (by omega), q, s2_ne (by omega)]; exact (b3.2.2.2.1 b hb').2.2 k hk2
    · rw [q, s2_ne (by omega)]; exact b3.2.2.2.2 t' ht'
    · rw [q, s2_ne c1, b1 c c0 c1 c2 c3 c4]
