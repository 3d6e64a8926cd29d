section Rows2
variable {X : Bx} {Y : Yx} {cc : ByteArray} {nL : Nat} {own : String} {F L : Nat} {Q : State → Prop} {pc : Nat} {lv : List (Nat × Value)} {st : List Value} {σ : Sg}
/-- a call that changes nothing -/
theorem q_callVIr {y : MethodName} {b : ByteArray} {n np index F2 L2 : Nat} {rt : FieldType} {d ci : Nat} {As : List Value} {stk : List Value} {K : Int32 → Prop} (C : Cx X Y cc nL own F L) (hM : MetI Y y b n rt F2 L2 (.ref (ya Y d) :: As) σ (fun r τ => τ = σ ∧ K r)) (hi : miV y b n (some rt) np) (hdk : kd d = ci) (hci : ci < 8) (hyc : y.cls = RC ci) (hw : Cond.methodLink own index y ∈ TB) (hn : As.length = np) (hstk : As.reverse ++ .ref (ya Y d) :: st = stk) (hcat : (st.map fun v => v.category).sum ≤ 8) (hF : F2 + 1 ≤ F) (hL : 8 + (n + 11) + L2 ≤ L) (hd : decode cc pc = .ok (.invokevirtual index, 3)) (hk : ∀ (r : Int32), K r → St X Y nL Q (pc + 3) lv (.int r :: st) σ) : St X Y nL Q pc lv stk σ :=
  q_callVI C hM hi hdk hci hyc hw hn hstk hcat hF hL hd (fun r τ h => by obtain ⟨e, h⟩ := h; rw [e]; exact hk r h)
/-- a call that changes nothing -/
theorem q_callSIr {y : MethodName} {b : ByteArray} {n np index F2 L2 : Nat} {rt : FieldType}  {As : List Value} {stk : List Value} {K : Int32 → Prop} (C : Cx X Y cc nL own F L) (hM : MetI Y y b n rt F2 L2 As σ (fun r τ => τ = σ ∧ K r)) (hi : miS y b n (some rt) np) (hw : Cond.methodLink own index y ∈ TB) (hn : As.length = np) (hstk : As.reverse ++ st = stk) (hcat : (st.map fun v => v.category).sum ≤ 8) (hF : F2 + 1 ≤ F) (hL : 8 + (n + 11) + L2 ≤ L) (hd : decode cc pc = .ok (.invokestatic index, 3)) (hk : ∀ (r : Int32), K r → St X Y nL Q (pc + 3) lv (.int r :: st) σ) : St X Y nL Q pc lv stk σ :=
  q_callSI C hM hi hw hn hstk hcat hF hL hd (fun r τ h => by obtain ⟨e, h⟩ := h; rw [e]; exact hk r h)
/-- a call that changes nothing -/
theorem q_callNIr {y : MethodName} {b : ByteArray} {n np index F2 L2 : Nat} {rt : FieldType}  {As : List Value} {stk : List Value} {K : Int32 → Prop} (C : Cx X Y cc nL own F L) (hM : MetI Y y b n rt F2 L2 As σ (fun r τ => τ = σ ∧ K r)) (hi : miS y b n (some rt) np) (hnw : Cond.methodLinkNest own index y "LoadCycles" = nestW) (hn : As.length = np) (hstk : As.reverse ++ st = stk) (hcat : (st.map fun v => v.category).sum ≤ 8) (hF : F2 + 1 ≤ F) (hL : 8 + (n + 11) + L2 ≤ L) (hd : decode cc pc = .ok (.invokestatic index, 3)) (hk : ∀ (r : Int32), K r → St X Y nL Q (pc + 3) lv (.int r :: st) σ) : St X Y nL Q pc lv stk σ :=
  q_callNI C hM hi hnw hn hstk hcat hF hL hd (fun r τ h => by obtain ⟨e, h⟩ := h; rw [e]; exact hk r h)
/-- a call that changes nothing -/
theorem q_callVLr {y : MethodName} {b : ByteArray} {n np index F2 L2 : Nat}  {d ci : Nat} {As : List Value} {stk : List Value} {K : Int64 → Prop} (C : Cx X Y cc nL own F L) (hM : MetL Y y b n F2 L2 (.ref (ya Y d) :: As) σ (fun r τ => τ = σ ∧ K r)) (hi : miV y b n (some .long) np) (hdk : kd d = ci) (hci : ci < 8) (hyc : y.cls = RC ci) (hw : Cond.methodLink own index y ∈ TB) (hn : As.length = np) (hstk : As.reverse ++ .ref (ya Y d) :: st = stk) (hcat : (st.map fun v => v.category).sum ≤ 8) (hF : F2 + 1 ≤ F) (hL : 8 + (n + 11) + L2 ≤ L) (hd : decode cc pc = .ok (.invokevirtual index, 3)) (hk : ∀ (r : Int64), K r → St X Y nL Q (pc + 3) lv (.long r :: st) σ) : St X Y nL Q pc lv stk σ :=
  q_callVL C hM hi hdk hci hyc hw hn hstk hcat hF hL hd (fun r τ h => by obtain ⟨e, h⟩ := h; rw [e]; exact hk r h)
/-- a call that changes nothing -/
theorem q_callSLr {y : MethodName} {b : ByteArray} {n np index F2 L2 : Nat}   {As : List Value} {stk : List Value} {K : Int64 → Prop} (C : Cx X Y cc nL own F L) (hM : MetL Y y b n F2 L2 As σ (fun r τ => τ = σ ∧ K r)) (hi : miS y b n (some .long) np) (hw : Cond.methodLink own index y ∈ TB) (hn : As.length = np) (hstk : As.reverse ++ st = stk) (hcat : (st.map fun v => v.category).sum ≤ 8) (hF : F2 + 1 ≤ F) (hL : 8 + (n + 11) + L2 ≤ L) (hd : decode cc pc = .ok (.invokestatic index, 3)) (hk : ∀ (r : Int64), K r → St X Y nL Q (pc + 3) lv (.long r :: st) σ) : St X Y nL Q pc lv stk σ :=
  q_callSL C hM hi hw hn hstk hcat hF hL hd (fun r τ h => by obtain ⟨e, h⟩ := h; rw [e]; exact hk r h)
theorem q_nms {τ : Sg} (h : ∀ y : Sg, y = τ → St X Y nL Q pc lv st y) : St X Y nL Q pc lv st τ := h τ rfl
theorem q_lookupK {dflt k : Int} {ps : Array (Int × Int)} {len : Nat} {x v : Int32} {off : Int} (tgt : Nat) (C : Cx X Y cc nL own F L) (hx : x = v) (hv : v.toInt = k) (hd : decode cc pc = .ok (.lookupswitch dflt ps, len)) (hp : (ps.toList.zip (ps.toList.drop 1)).all (fun (a, next) => a.1 < next.1) = true) (ho : Op.lookupswitch.offset ps.toList dflt k = off) (ht : (pc : Int) + off = (tgt : Int)) (h : St X Y nL Q tgt lv st σ) : St X Y nL Q pc lv (.int x :: st) σ := q_lookup tgt C hd hp (by rw [hx, hv]; exact ho) ht h
theorem q_tableK {dflt lo hi k : Int} {offs : Array Int} {len : Nat} {x v : Int32} {off : Int} (tgt : Nat) (C : Cx X Y cc nL own F L) (hx : x = v) (hv : v.toInt = k) (hd : decode cc pc = .ok (.tableswitch dflt lo hi offs, len)) (h1 : ¬ k < lo) (h2 : ¬ hi < k) (ho : offs[(k - lo).toNat]? = some off) (ht : (pc : Int) + off = (tgt : Int)) (h : St X Y nL Q tgt lv st σ) : St X Y nL Q pc lv (.int x :: st) σ := q_tableIn tgt C hd (by rw [hx, hv]; exact h1) (by rw [hx, hv]; exact h2) (by rw [hx, hv]; exact ho) ht h
theorem q_mmax {index : Nat} {x y : Int32} (C : Cx X Y cc nL own F L) (hw : Cond.methodLink own index Lib.Math.max.name ∈ TB) (hw1 : Cond.static Lib.Math.max.name ∈ TB) (hw2 : Cond.initialized "java/lang/Math" ∈ TB) (hw3 : Cond.code Lib.Math.max.name Lib.Math.max.code 2 (some .int) ∈ TB) (hF : 1 ≤ F) (hL : (st.map fun v => v.category).sum + 13 ≤ L) (hd : decode cc pc = .ok (.invokestatic index, 3)) (h : St X Y nL Q (pc + 3) lv (.int (if x < y then y else x) :: st) σ) : St X Y nL Q pc lv (.int y :: .int x :: st) σ := fun H locs ls hP hS hl =>
  va_mmax C.1 C.2.1 (by rw [C.2.2.1]; exact hl.1.symm) C.2.2.2.1 (C.2.2.2.2.1 _ hw) (C.2.2.2.2.1 _ hw1) (C.2.2.2.2.1 _ hw2) (C.2.2.2.2.1 _ hw3) (Nat.le_trans hF C.2.2.2.2.2.2.2.2.2.1) (Nat.le_trans hL C.2.2.2.2.2.2.2.2.2.2.1) C.2.2.2.2.2.2.2.2.2.2.2.1 C.2.2.2.2.2.2.2.2.2.2.2.2 hd (h H locs ls hP hS hl)
theorem q_mmin {index : Nat} {x y : Int32} (C : Cx X Y cc nL own F L) (hw : Cond.methodLink own index Lib.Math.min.name ∈ TB) (hw1 : Cond.static Lib.Math.min.name ∈ TB) (hw2 : Cond.initialized "java/lang/Math" ∈ TB) (hw3 : Cond.code Lib.Math.min.name Lib.Math.min.code 2 (some .int) ∈ TB) (hF : 1 ≤ F) (hL : (st.map fun v => v.category).sum + 13 ≤ L) (hd : decode cc pc = .ok (.invokestatic index, 3)) (h : St X Y nL Q (pc + 3) lv (.int (if y < x then y else x) :: st) σ) : St X Y nL Q pc lv (.int y :: .int x :: st) σ := fun H locs ls hP hS hl =>
  va_mmin C.1 C.2.1 (by rw [C.2.2.1]; exact hl.1.symm) C.2.2.2.1 (C.2.2.2.2.1 _ hw) (C.2.2.2.2.1 _ hw1) (C.2.2.2.2.1 _ hw2) (C.2.2.2.2.1 _ hw3) (Nat.le_trans hF C.2.2.2.2.2.2.2.2.2.1) (Nat.le_trans hL C.2.2.2.2.2.2.2.2.2.2.1) C.2.2.2.2.2.2.2.2.2.2.2.1 C.2.2.2.2.2.2.2.2.2.2.2.2 hd (h H locs ls hP hS hl)
end Rows2
theorem vin_lt {i : Int32} {n : Nat} (h : vp_in i n) : i.toNatClampNeg < n := by
  rcases Nat.lt_or_ge i.toNatClampNeg n with q | q
  · exact q
  · exact absurd (Or.inr q) h
theorem sw_ne {x v : Int32} {k : Int} (hv : Int32.ofInt k = v) (h : ¬ x = v) : x.toInt ≠ k := fun e => h (by rw [← hv, ← e]; exact (Int32.ofInt_toInt x).symm)
theorem iaS {i : Int32} (h : vp_in i 4) : kd (33 + 2 * i.toNatClampNeg) = 3 := kS _ (vin_lt h)
theorem fs_0_2 {ad : Nat → Nat} {c : Nat} {f : Nat → Int32} {x : Int32} : (flds ad 0 c f).set 2 (.int x) = flds ad 0 c (upd f 2 x) := rfl
theorem fs_0_3 {ad : Nat → Nat} {c : Nat} {f : Nat → Int32} {x : Int32} : (flds ad 0 c f).set 3 (.int x) = flds ad 0 c (upd f 3 x) := rfl
theorem fs_0_4 {ad : Nat → Nat} {c : Nat} {f : Nat → Int32} {x : Int32} : (flds ad 0 c f).set 4 (.int x) = flds ad 0 c (upd f 4 x) := rfl
theorem fs_0_5 {ad : Nat → Nat} {c : Nat} {f : Nat → Int32} {x : Int32} : (flds ad 0 c f).set 5 (.int x) = flds ad 0 c (upd f 5 x) := rfl
theorem fs_2_4 {ad : Nat → Nat} {c : Nat} {f : Nat → Int32} {x : Int32} : (flds ad 2 c f).set 4 (.int x) = flds ad 2 c (upd f 4 x) := rfl
theorem fs_2_5 {ad : Nat → Nat} {c : Nat} {f : Nat → Int32} {x : Int32} : (flds ad 2 c f).set 5 (.int x) = flds ad 2 c (upd f 5 x) := rfl
theorem fs_2_6 {ad : Nat → Nat} {c : Nat} {f : Nat → Int32} {x : Int32} : (flds ad 2 c f).set 6 (.int x) = flds ad 2 c (upd f 6 x) := rfl
theorem fs_3_1 {ad : Nat → Nat} {c : Nat} {f : Nat → Int32} {x : Int32} : (flds ad 3 c f).set 1 (.int x) = flds ad 3 c (upd f 1 x) := rfl
theorem fs_3_2 {ad : Nat → Nat} {c : Nat} {f : Nat → Int32} {x : Int32} : (flds ad 3 c f).set 2 (.int x) = flds ad 3 c (upd f 2 x) := rfl
theorem fs_4_1 {ad : Nat → Nat} {c : Nat} {f : Nat → Int32} {x : Int32} : (flds ad 4 c f).set 1 (.int x) = flds ad 4 c (upd f 1 x) := rfl
theorem fr_5_3 {ad : Nat → Nat} {c d : Nat} {f : Nat → Int32} (h : d < 67) : (flds ad 5 c f).set 3 (.ref (ad d)) = flds ad 5 c (upd f 3 (nI d)) := by
  have e : (upd f 3 (nI d) 3).toNatClampNeg = d := by rw [pk_us]; exact nI_clamp (by omega)
  show _ = ([.ref (ad (c + 1)), .ref (ad (c + 2)), .ref (ad (c + 3)), .ref (ad (upd f 3 (nI d) 3).toNatClampNeg), .ref (ad (upd f 3 (nI d) 4).toNatClampNeg), .int (upd f 3 (nI d) 5)] : List Value)
  rw [e]
  rfl
theorem fr_5_4 {ad : Nat → Nat} {c d : Nat} {f : Nat → Int32} (h : d < 67) : (flds ad 5 c f).set 4 (.ref (ad d)) = flds ad 5 c (upd f 4 (nI d)) := by
  have e : (upd f 4 (nI d) 4).toNatClampNeg = d := by rw [pk_us]; exact nI_clamp (by omega)
  show _ = ([.ref (ad (c + 1)), .ref (ad (c + 2)), .ref (ad (c + 3)), .ref (ad (upd f 4 (nI d) 3).toNatClampNeg), .ref (ad (upd f 4 (nI d) 4).toNatClampNeg), .int (upd f 4 (nI d) 5)] : List Value)
  rw [e]
  rfl
theorem fs_5_5 {ad : Nat → Nat} {c : Nat} {f : Nat → Int32} {x : Int32} : (flds ad 5 c f).set 5 (.int x) = flds ad 5 c (upd f 5 x) := rfl
theorem fs_6_10 {ad : Nat → Nat} {c : Nat} {f : Nat → Int32} {x : Int32} : (flds ad 6 c f).set 10 (.int x) = flds ad 6 c (upd f 10 x) := rfl
theorem fs_6_11 {ad : Nat → Nat} {c : Nat} {f : Nat → Int32} {x : Int32} : (flds ad 6 c f).set 11 (.int x) = flds ad 6 c (upd f 11 x) := rfl
theorem fs_6_12 {ad : Nat → Nat} {c : Nat} {f : Nat → Int32} {x : Int32} : (flds ad 6 c f).set 12 (.int x) = flds ad 6 c (upd f 12 x) := rfl
theorem fs_6_13 {ad : Nat → Nat} {c : Nat} {f : Nat → Int32} {x : Int32} : (flds ad 6 c f).set 13 (.int x) = flds ad 6 c (upd f 13 x) := rfl
theorem fs_7_0 {ad : Nat → Nat} {c : Nat} {f : Nat → Int32} {x : Int32} : (flds ad 7 c f).set 0 (.int x) = flds ad 7 c (upd f 0 x) := rfl
theorem fs_7_1 {ad : Nat → Nat} {c : Nat} {f : Nat → Int32} {x : Int32} : (flds ad 7 c f).set 1 (.int x) = flds ad 7 c (upd f 1 x) := rfl
theorem fs_7_5 {ad : Nat → Nat} {c : Nat} {f : Nat → Int32} {x : Int32} : (flds ad 7 c f).set 5 (.int x) = flds ad 7 c (upd f 5 x) := rfl
theorem fs_7_9 {ad : Nat → Nat} {c : Nat} {f : Nat → Int32} {x : Int32} : (flds ad 7 c f).set 9 (.int x) = flds ad 7 c (upd f 9 x) := rfl
theorem fs_7_11 {ad : Nat → Nat} {c : Nat} {f : Nat → Int32} {x : Int32} : (flds ad 7 c f).set 11 (.int x) = flds ad 7 c (upd f 11 x) := rfl
theorem fs_7_12 {ad : Nat → Nat} {c : Nat} {f : Nat → Int32} {x : Int32} : (flds ad 7 c f).set 12 (.int x) = flds ad 7 c (upd f 12 x) := rfl
theorem fs_7_13 {ad : Nat → Nat} {c : Nat} {f : Nat → Int32} {x : Int32} : (flds ad 7 c f).set 13 (.int x) = flds ad 7 c (upd f 13 x) := rfl
theorem fs_7_17 {ad : Nat → Nat} {c : Nat} {f : Nat → Int32} {x : Int32} : (flds ad 7 c f).set 17 (.int x) = flds ad 7 c (upd f 17 x) := rfl
theorem fs_7_29 {ad : Nat → Nat} {c : Nat} {f : Nat → Int32} {x : Int32} : (flds ad 7 c f).set 29 (.int x) = flds ad 7 c (upd f 29 x) := rfl
theorem fs_7_30 {ad : Nat → Nat} {c : Nat} {f : Nat → Int32} {x : Int32} : (flds ad 7 c f).set 30 (.int x) = flds ad 7 c (upd f 30 x) := rfl
