/-! ===== constructors: a world that grows ===== -/
def nestL : List Cond := [.methodLinkNest "LoadCycles" 11 ⟨"LoadCycles$House", "<init>", "()V"⟩ "LoadCycles", .methodLinkNest "LoadCycles" 23 ⟨"LoadCycles$Doing", "<init>", "()V"⟩ "LoadCycles", .methodLinkNest "LoadCycles" 33 ⟨"LoadCycles$Unmixer", "<init>", "()V"⟩ "LoadCycles", .methodLinkNest "LoadCycles" 40 ⟨"LoadCycles$TextReader", "<init>", "()V"⟩ "LoadCycles", .methodLinkNest "LoadCycles$TextReader" 11 ⟨"LoadCycles$House", "<init>", "()V"⟩ "LoadCycles", .methodLinkNest "LoadCycles" 47 ⟨"LoadCycles$Guesses", "<init>", "()V"⟩ "LoadCycles", .methodLinkNest "LoadCycles" 65 ⟨"LoadCycles$Sheet", "<init>", "()V"⟩ "LoadCycles", .methodLinkNest "LoadCycles$TextReader" 50 ⟨"LoadCycles", "isLevelValue", "(I)Z"⟩ "LoadCycles"]
def blk (ci : Nat) : List Value := match ci with
  | 0 => [.null, .null, .int 0, .int 0, .int 0, .int 0]
  | 1 => [.null, .null]
  | 2 => [.null, .null, .null, .null, .int 0, .int 0, .int 0]
  | 3 => [.null, .int 0, .int 0]
  | 4 => [.null, .int 0]
  | 5 => [.null, .null, .null, .null, .null, .int 0]
  | 6 => [.null, .null, .null, .null, .null, .null, .null, .null, .null, .null, .int 0, .int 0, .int 0, .int 0]
  | _ => [.int 0, .int 0, .null, .null, .null, .int 0, .null, .null, .null, .int 0, .null, .int 0, .int 0, .int 0, .null, .null, .null, .int 0, .null, .null, .null, .null, .null, .null, .null, .null, .null, .null, .null, .int 0, .int 0, .null, .null]
theorem blk_ok0 : ∀ j, j < 6 → defaultValue (yC 0 j) = vp_V (blk 0) j
  | 0, _ => rfl
  | 1, _ => rfl
  | 2, _ => rfl
  | 3, _ => rfl
  | 4, _ => rfl
  | 5, _ => rfl
  | n + 6, h => absurd h (by omega)
theorem blk_ok1 : ∀ j, j < 2 → defaultValue (yC 1 j) = vp_V (blk 1) j
  | 0, _ => rfl
  | 1, _ => rfl
  | n + 2, h => absurd h (by omega)
theorem blk_ok2 : ∀ j, j < 7 → defaultValue (yC 2 j) = vp_V (blk 2) j
  | 0, _ => rfl
  | 1, _ => rfl
  | 2, _ => rfl
  | 3, _ => rfl
  | 4, _ => rfl
  | 5, _ => rfl
  | 6, _ => rfl
  | n + 7, h => absurd h (by omega)
theorem blk_ok3 : ∀ j, j < 3 → defaultValue (yC 3 j) = vp_V (blk 3) j
  | 0, _ => rfl
  | 1, _ => rfl
  | 2, _ => rfl
  | n + 3, h => absurd h (by omega)
theorem blk_ok4 : ∀ j, j < 2 → defaultValue (yC 4 j) = vp_V (blk 4) j
  | 0, _ => rfl
  | 1, _ => rfl
  | n + 2, h => absurd h (by omega)
theorem blk_ok5 : ∀ j, j < 6 → defaultValue (yC 5 j) = vp_V (blk 5) j
  | 0, _ => rfl
  | 1, _ => rfl
  | 2, _ => rfl
  | 3, _ => rfl
  | 4, _ => rfl
  | 5, _ => rfl
  | n + 6, h => absurd h (by omega)
theorem blk_ok6 : ∀ j, j < 14 → defaultValue (yC 6 j) = vp_V (blk 6) j
  | 0, _ => rfl
  | 1, _ => rfl
  | 2, _ => rfl
  | 3, _ => rfl
  | 4, _ => rfl
  | 5, _ => rfl
  | 6, _ => rfl
  | 7, _ => rfl
  | 8, _ => rfl
  | 9, _ => rfl
  | 10, _ => rfl
  | 11, _ => rfl
  | 12, _ => rfl
  | 13, _ => rfl
  | n + 14, h => absurd h (by omega)
theorem blk_ok7 : ∀ j, j < 33 → defaultValue (yC 7 j) = vp_V (blk 7) j
  | 0, _ => rfl
  | 1, _ => rfl
  | 2, _ => rfl
  | 3, _ => rfl
  | 4, _ => rfl
  | 5, _ => rfl
  | 6, _ => rfl
  | 7, _ => rfl
  | 8, _ => rfl
  | 9, _ => rfl
  | 10, _ => rfl
  | 11, _ => rfl
  | 12, _ => rfl
  | 13, _ => rfl
  | 14, _ => rfl
  | 15, _ => rfl
  | 16, _ => rfl
  | 17, _ => rfl
  | 18, _ => rfl
  | 19, _ => rfl
  | 20, _ => rfl
  | 21, _ => rfl
  | 22, _ => rfl
  | 23, _ => rfl
  | 24, _ => rfl
  | 25, _ => rfl
  | 26, _ => rfl
  | 27, _ => rfl
  | 28, _ => rfl
  | 29, _ => rfl
  | 30, _ => rfl
  | 31, _ => rfl
  | 32, _ => rfl
  | n + 33, h => absurd h (by omega)
theorem blk_ok : ∀ {ci : Nat}, ci < 8 → ∀ j, j < NC ci → defaultValue (yC ci j) = vp_V (blk ci) j
  | 0, _ => blk_ok0
  | 1, _ => blk_ok1
  | 2, _ => blk_ok2
  | 3, _ => blk_ok3
  | 4, _ => blk_ok4
  | 5, _ => blk_ok5
  | 6, _ => blk_ok6
  | 7, _ => blk_ok7
  | n + 8, h => absurd h (by omega)
def CI (Y : Yx) (w : va_W) (U : State) : Prop := va_P (yD Y) classes w U.heap ∧ va_K (yD Y) classes (tys Y) U ∧ (∀ x ∈ nestL, va_Nw x U) ∧ va_AO "LoadCycles$Sheet" U ∧ va_D (yA Y) w ∧ ∀ q, U.heap.size ≤ q → yA Y q
def CO (Y : Yx) (ws u : va_W) (t : State) : Prop := va_P (yD Y) classes (ws ++ u) t.heap ∧ va_D (yA Y) (ws ++ u)
def MetC (Y : Yx) (y : MethodName) (cc : ByteArray) (n F L mc ms h0 : Nat) (ws : va_W) (ci : Nat) (post : va_W → Prop) : Prop :=
  Met (yl Y) y (.code y cc n none :: TB) { frames := F, cells := mc, slots := ms, locals := L } (va_Pc [.ref h0] (CI Y (ws ++ [(h0, .inr (ci, blk ci))]))) (va_Qv post (CO Y ws) (yA Y)) mc ms (yA Y)
def Cc (X : Bx) (Y : Yx) (cc : ByteArray) (nL : Nat) (own : String) (F L mc ms : Nat) : Prop :=
  (xp X).tables.exec = Jvm.exec ∧ (xc X).code = cc ∧ (xc X).maxLocals = nL ∧ (xs X).vm.findClass own = some (xm X).cls ∧ (∀ w ∈ TB, w.before (xa X) (xs X) = true) ∧ va_K (yD Y) classes (tys Y) (xs X) ∧ (∀ x ∈ nestL, va_Nw x (xs X)) ∧ va_AO "LoadCycles$Sheet" (xs X) ∧ (∀ q, (xs X).heap.size ≤ q → yA Y q) ∧ (xh X).locks = false ∧ (F ≤ (xR X).frames ∧ L ≤ (xR X).locals ∧ mc ≤ (xR X).cells ∧ ms ≤ (xR X).slots)
def Sc (X : Bx) (Y : Yx) (nL : Nat) (Q : State → Prop) (pc : Nat) (lv : List (Nat × Value)) (st : List Value) (ws u : va_W) (kc ks : Nat) : Prop :=
  ∀ (H : Heap) (locs : List Loc) (ls : Array Slot), va_P (yD Y) classes (ws ++ u) H → va_D (yA Y) (ws ++ u) → va_S (yA Y) (xs X).heap H locs → lv_has ls nL lv → W (xp X) (yl Y) (xe X) (xR X) (xs X) (xm X) (xa X) (xb X) (xh X) (xc X) H locs kc ks Q (F0 (xm X) pc ls st)
def QC (X : Bx) (Y : Yx) (ws : va_W) (mc ms : Nat) (post : va_W → Prop) : State → Prop := MQ (xb X) (va_Qv post (CO Y ws) (yA Y)) (xa X) (xs X) mc ms (yA Y)
theorem met_C {Y : Yx} {y : MethodName} {cc : ByteArray} {n F L mc ms h0 : Nat} {ws : va_W} {ci : Nat} {post : va_W → Prop} (lv : List (Nat × Value)) (hy : plainName y.cls = true) (hn : (lg_sl [Value.ref h0]).length ≤ n) (hlv : lv_args 0 [Value.ref h0] = lv)
    (h : ∀ X : Bx, Cc X Y cc n y.cls F L mc ms → (xh X).sig.returnType = none → (xh X).name = y.name → Sc X Y n (QC X Y ws mc ms post) 0 lv [] ws [(h0, .inr (ci, blk ci))] 0 0) : MetC Y y cc n F L mc ms h0 ws ci post := by
  refine Met.ofW (cc := cc) (maxL := n) (ret := none) hy rfl ?_
  intro p e s m args below meth c s₁ B hml hv
  obtain ⟨rfl, hP, hK, hN, hAO, hD, hA⟩ := hv
  have hts := atoms_spec (ws := .code y cc n none :: TB) B.pre
  have hown : s.vm.findClass y.cls = some m.cls := findClass_of_methodNamed B.named
  have hl := lv_entry [Value.ref h0] (n := n) hn
  rw [lg_entry_eq]
  generalize (lg_sl [Value.ref h0] ++ List.replicate (n - (lg_sl [Value.ref h0]).length) Slot.unset).toArray = ls at hl ⊢
  rw [hlv] at hl
  exact h (p, e, { frames := F, cells := mc, slots := ms, locals := L }, s, m, [Value.ref h0].toArray, below, meth, c, 0, 0) ⟨B.exec, B.bytes, hml, hown, fun w hw => hts w (List.mem_cons_of_mem _ hw), hK, hN, hAO, hA, B.notSynchronized, Nat.le_refl _, Nat.le_refl _, Nat.le_refl _, Nat.le_refl _⟩ B.returns (name_of_methodNamed B.named B.method).1 s.heap [] ls hP hD va_S.rf hl
theorem ap_get {α : Type} (ws u : List α) (j : Nat) : (ws ++ u)[ws.length + j]? = u[j]? := by
  rw [List.getElem?_append_right (by omega)]
  congr 1
  omega
theorem ap_set {α : Type} (ws u : List α) (j : Nat) (x : α) : (ws ++ u).set (ws.length + j) x = ws ++ u.set j x := by
  rw [List.set_append_right _ _ (by omega)]
  congr 2
  omega
section CRows
variable {X : Bx} {Y : Yx} {cc : ByteArray} {nL : Nat} {own : String} {F L mc ms : Nat} {Q : State → Prop} {pc : Nat} {lv : List (Nat × Value)} {st : List Value} {ws u : va_W} {kc ks : Nat}
theorem c_aload_n {i : Nat} {j : Fin 4} {x : Nat} (C : Cc X Y cc nL own F L mc ms) (hd : decode cc pc = .ok (.aload_n j, 1)) (hi : (j : Nat) = i) (k : Nat) (hk : lv[k]? = some (i, .ref x)) (h : Sc X Y nL Q (pc + 1) lv (.ref x :: st) ws u kc ks) : Sc X Y nL Q pc lv st ws u kc ks := fun H locs ls hP hD hS hl => lv_aload_n C.1 C.2.1 hd hi (lv_at hl k hk) (h H locs ls hP hD hS hl)
theorem c_iload_n {i : Nat} {j : Fin 4} {x : Int32} (C : Cc X Y cc nL own F L mc ms) (hd : decode cc pc = .ok (.iload_n j, 1)) (hi : (j : Nat) = i) (k : Nat) (hk : lv[k]? = some (i, .int x)) (h : Sc X Y nL Q (pc + 1) lv (.int x :: st) ws u kc ks) : Sc X Y nL Q pc lv st ws u kc ks := fun H locs ls hP hD hS hl => lv_iload_n C.1 C.2.1 hd hi (lv_at hl k hk) (h H locs ls hP hD hS hl)
theorem c_astore_n {i : Nat} {j : Fin 4} {x : Nat} (lv2 : List (Nat × Value)) (C : Cc X Y cc nL own F L mc ms) (hd : decode cc pc = .ok (.astore_n j, 1)) (hi : (j : Nat) = i) (hn : i < nL) (hf : (i, Value.ref x) :: lv.filter (fun q => !(q.1 == i) && !(q.1 + 1 == i && q.2.category == 2)) = lv2) (h : Sc X Y nL Q (pc + 1) lv2 st ws u kc ks) : Sc X Y nL Q pc lv (.ref x :: st) ws u kc ks := fun H locs ls hP hD hS hl => lv_astore_n C.1 C.2.1 hd hi hl hn hf (fun ls2 hl2 => h H locs ls2 hP hD hS hl2)
theorem c_istore_n {i : Nat} {j : Fin 4} {x : Int32} (lv2 : List (Nat × Value)) (C : Cc X Y cc nL own F L mc ms) (hd : decode cc pc = .ok (.istore_n j, 1)) (hi : (j : Nat) = i) (hn : i < nL) (hf : (i, Value.int x) :: lv.filter (fun q => !(q.1 == i) && !(q.1 + 1 == i && q.2.category == 2)) = lv2) (h : Sc X Y nL Q (pc + 1) lv2 st ws u kc ks) : Sc X Y nL Q pc lv (.int x :: st) ws u kc ks := fun H locs ls hP hD hS hl => lv_istore_n C.1 C.2.1 hd hi hl hn hf (fun ls2 hl2 => h H locs ls2 hP hD hS hl2)
theorem c_iinc {i : Nat} {n : Int} {x : Int32} (v : Int32) (lv2 : List (Nat × Value)) (C : Cc X Y cc nL own F L mc ms) (hd : decode cc pc = .ok (.iinc i n, 3)) (k : Nat) (hk : lv[k]? = some (i, .int x)) (hv : x + Int32.ofInt n = v) (hn : i < nL) (hf : (i, Value.int v) :: lv.filter (fun q => !(q.1 == i) && !(q.1 + 1 == i && q.2.category == 2)) = lv2) (h : Sc X Y nL Q (pc + 3) lv2 st ws u kc ks) : Sc X Y nL Q pc lv st ws u kc ks := fun H locs ls hP hD hS hl => lv_iinc C.1 C.2.1 hd hl hk hv hn hf (fun ls2 hl2 => h H locs ls2 hP hD hS hl2)
theorem c_goto {off : Int} (tgt : Nat) (C : Cc X Y cc nL own F L mc ms) (hd : decode cc pc = .ok (.goto off, 3)) (ht : (pc : Int) + off = (tgt : Int)) (h : Sc X Y nL Q tgt lv st ws u kc ks) : Sc X Y nL Q pc lv st ws u kc ks := fun H locs ls hP hD hS hl => lv_goto C.1 C.2.1 hd ht (h H locs ls hP hD hS hl)
theorem c_icmp_ge {x y : Int32} {off : Int} (tgt : Nat) (C : Cc X Y cc nL own F L mc ms) (hd : decode cc pc = .ok (.if_icmp .ge off, 3)) (ht : (pc : Int) + off = (tgt : Int)) (kt : y ≤ x → Sc X Y nL Q tgt lv st ws u kc ks) (kf : ¬ y ≤ x → Sc X Y nL Q (pc + 3) lv st ws u kc ks) : Sc X Y nL Q pc lv (.int y :: .int x :: st) ws u kc ks := fun H locs ls hP hD hS hl => lv_icmp_ge C.1 C.2.1 hd ht (fun hc => kt hc H locs ls hP hD hS hl) (fun hc => kf hc H locs ls hP hD hS hl)
theorem c_dup {va : Value} (C : Cc X Y cc nL own F L mc ms) (hd : decode cc pc = .ok (.dup, 1)) (hva : va.category = 1) (h : Sc X Y nL Q (pc + 1) lv (va :: va :: st) ws u kc ks) : Sc X Y nL Q pc lv (va :: st) ws u kc ks := fun H locs ls hP hD hS hl => lv_dup C.1 C.2.1 hd hva (h H locs ls hP hD hS hl)
theorem c_iconst {n : Int} {v : Int32} (C : Cc X Y cc nL own F L mc ms) (hd : decode cc pc = .ok (.iconst n, 1)) (hv : Int32.ofInt n = v) (h : Sc X Y nL Q (pc + 1) lv (.int v :: st) ws u kc ks) : Sc X Y nL Q pc lv st ws u kc ks := fun H locs ls hP hD hS hl => lv_iconst C.1 C.2.1 hd hv (h H locs ls hP hD hS hl)
theorem c_bipush {n : Int} {v : Int32} (C : Cc X Y cc nL own F L mc ms) (hd : decode cc pc = .ok (.bipush n, 2)) (hv : (Int8.ofInt n).toInt32 = v) (h : Sc X Y nL Q (pc + 2) lv (.int v :: st) ws u kc ks) : Sc X Y nL Q pc lv st ws u kc ks := fun H locs ls hP hD hS hl => lv_bipush C.1 C.2.1 hd hv (h H locs ls hP hD hS hl)
theorem c_sipush {n : Int} {v : Int32} (C : Cc X Y cc nL own F L mc ms) (hd : decode cc pc = .ok (.sipush n, 3)) (hv : (Int16.ofInt n).toInt32 = v) (h : Sc X Y nL Q (pc + 3) lv (.int v :: st) ws u kc ks) : Sc X Y nL Q pc lv st ws u kc ks := fun H locs ls hP hD hS hl => lv_sipush C.1 C.2.1 hd hv (h H locs ls hP hD hS hl)
theorem c_objInit {index a : Nat} (C : Cc X Y cc nL own F L mc ms) (hw : Cond.methodLink own index objectInit ∈ TB) (hw1 : Cond.instanceMethod objectInit ∈ TB) (hw2 : Cond.code objectInit ⟨#[0xb1]⟩ 1 none ∈ TB) (hF : 1 ≤ F) (hL : 12 ≤ L) (hd : decode cc pc = .ok (.invokespecial index, 3)) (h : Sc X Y nL Q (pc + 3) lv [] ws u kc ks) : Sc X Y nL Q pc lv [.ref a] ws u kc ks := fun H locs ls hP hD hS hl =>
  W.objInit C.1 C.2.1 C.2.2.2.1 (C.2.2.2.2.1 _ hw) (C.2.2.2.2.1 _ hw1) (C.2.2.2.2.1 _ hw2) rfl (by rw [C.2.2.1]; exact hl.1) rfl hd (Nat.le_trans hF C.2.2.2.2.2.2.2.2.2.2.1) (Nat.le_trans hL C.2.2.2.2.2.2.2.2.2.2.2.1) (h H locs ls hP hD hS hl)
/-- the class of an array of ints is one -/
theorem ra_I {q : ClassId} {U : State} (h : va_K (yD Y) classes (tys Y) U) (h2 : va_RA U q .int) : q = yI Y := by
  have e := (h.2 0 _ rfl).2
  have e1 : U.vm.findClass ("[" ++ (FieldType.int).toString) = some q := h2
  have e2 : U.vm.findClass ("[" ++ (FieldType.int).toString) = some (yI Y) := e
  exact Option.some.inj (e1.symm.trans e2)
theorem ra_Z {q : ClassId} {U : State} (h : va_K (yD Y) classes (tys Y) U) (h2 : va_RA U q .boolean) : q = yZ Y := by
  have e := (h.2 1 _ rfl).2
  have e1 : U.vm.findClass ("[" ++ (FieldType.boolean).toString) = some q := h2
  have e2 : U.vm.findClass ("[" ++ (FieldType.boolean).toString) = some (yZ Y) := e
  exact Option.some.inj (e1.symm.trans e2)
theorem ra_S {q : ClassId} {U : State} (h : va_K (yD Y) classes (tys Y) U) (h2 : va_RA U q (.object "LoadCycles$Sheet")) : q = yS Y := by
  obtain ⟨kA, comp, -, -, -, e2⟩ := (h.2 2 _ rfl).2
  obtain ⟨kA', comp', -, -, -, e1⟩ := h2
  exact Option.some.inj (e1.symm.trans e2)
theorem c_newI {n : Int32} {N : Nat} (kc2 ks2 : Nat) (C : Cc X Y cc nL own F L mc ms) (hw : Cond.arrayClass .int ∈ TB) (hn : ¬ n < 0) (hN : n.toNatClampNeg = N) (hbytes : N * 4 ≤ 536870912) (hk : kc + 1 = kc2) (hs : ks + N = ks2) (hc : kc2 ≤ mc) (hcs : ks2 ≤ ms) (hd : decode cc pc = .ok (.newarray .int, 2)) (h : ∀ q, Sc X Y nL Q (pc + 2) lv (.ref q :: st) ws (u ++ [(q, .inl (yI Y, (N, .inl (fun _ => 0))))]) kc2 ks2) : Sc X Y nL Q pc lv (.int n :: st) ws u kc ks := by
  intro H locs ls hP hD hS hl
  subst hk; subst hs
  refine va_newa (D := yD Y) (cl := classes) (tys := tys Y) (A := yA Y) (H0 := (xs X).heap) (atype := .int) (ty := .int) (a0 := (N, .inl (fun _ => 0))) C.1 C.2.1 (C.2.2.2.2.1 _ hw) rfl C.2.2.2.2.2.1 hP hD hS C.2.2.2.2.2.2.2.2.1 (fun cA => rfl) hn hN hbytes (Nat.le_trans hc C.2.2.2.2.2.2.2.2.2.2.2.2.1) (Nat.le_trans hcs C.2.2.2.2.2.2.2.2.2.2.2.2.2) hd (fun q cA H1 hK1 hP1 hD1 hS1 => ?_)
  have e : cA = yI Y := ra_I C.2.2.2.2.2.1 (hK1.2 3 (cA, .int) rfl).2
  subst e
  rw [List.append_assoc] at hP1 hD1
  exact h q H1 locs ls hP1 hD1 hS1 hl
theorem c_newZ {n : Int32} {N : Nat} (kc2 ks2 : Nat) (C : Cc X Y cc nL own F L mc ms) (hw : Cond.arrayClass .boolean ∈ TB) (hn : ¬ n < 0) (hN : n.toNatClampNeg = N) (hbytes : N * 4 ≤ 536870912) (hk : kc + 1 = kc2) (hs : ks + N = ks2) (hc : kc2 ≤ mc) (hcs : ks2 ≤ ms) (hd : decode cc pc = .ok (.newarray .boolean, 2)) (h : ∀ q, Sc X Y nL Q (pc + 2) lv (.ref q :: st) ws (u ++ [(q, .inl (yZ Y, (N, .inl (fun _ => 0))))]) kc2 ks2) : Sc X Y nL Q pc lv (.int n :: st) ws u kc ks := by
  intro H locs ls hP hD hS hl
  subst hk; subst hs
  refine va_newa (D := yD Y) (cl := classes) (tys := tys Y) (A := yA Y) (H0 := (xs X).heap) (atype := .boolean) (ty := .boolean) (a0 := (N, .inl (fun _ => 0))) C.1 C.2.1 (C.2.2.2.2.1 _ hw) rfl C.2.2.2.2.2.1 hP hD hS C.2.2.2.2.2.2.2.2.1 (fun cA => rfl) hn hN (by have : componentBytes .boolean = 1 := rfl; rw [this]; omega) (Nat.le_trans hc C.2.2.2.2.2.2.2.2.2.2.2.2.1) (Nat.le_trans hcs C.2.2.2.2.2.2.2.2.2.2.2.2.2) hd (fun q cA H1 hK1 hP1 hD1 hS1 => ?_)
  have e : cA = yZ Y := ra_Z C.2.2.2.2.2.1 (hK1.2 3 (cA, .boolean) rfl).2
  subst e
  rw [List.append_assoc] at hP1 hD1
  exact h q H1 locs ls hP1 hD1 hS1 hl
theorem c_newS {index : Nat} {n : Int32} {N : Nat} (kc2 ks2 : Nat) (C : Cc X Y cc nL own F L mc ms) (hw : Cond.classLink own index "LoadCycles$Sheet" ∈ TB) (hn : ¬ n < 0) (hN : n.toNatClampNeg = N) (hbytes : N * 4 ≤ 536870912) (hk : kc + 1 = kc2) (hs : ks + N = ks2) (hc : kc2 ≤ mc) (hcs : ks2 ≤ ms) (hd : decode cc pc = .ok (.anewarray index, 3)) (h : ∀ q, Sc X Y nL Q (pc + 3) lv (.ref q :: st) ws (u ++ [(q, .inl (yS Y, (N, .inr (.inr (.inr (.inr (fun _ => none)))))))]) kc2 ks2) : Sc X Y nL Q pc lv (.int n :: st) ws u kc ks := by
  intro H locs ls hP hD hS hl
  subst hk; subst hs
  refine va_newq (D := yD Y) (cl := classes) (tys := tys Y) (A := yA Y) (H0 := (xs X).heap) (C := "LoadCycles$Sheet") C.1 C.2.1 C.2.2.2.1 (C.2.2.2.2.1 _ hw) C.2.2.2.2.2.2.2.1 C.2.2.2.2.2.1 hP hD hS C.2.2.2.2.2.2.2.2.1 hn hN hbytes (Nat.le_trans hc C.2.2.2.2.2.2.2.2.2.2.2.2.1) (Nat.le_trans hcs C.2.2.2.2.2.2.2.2.2.2.2.2.2) hd (fun q cA H1 hK1 hP1 hD1 hS1 => ?_)
  have e : cA = yS Y := ra_S C.2.2.2.2.2.1 (hK1.2 3 (cA, .object "LoadCycles$Sheet") rfl).2
  subst e
  rw [List.append_assoc] at hP1 hD1
  exact h q H1 locs ls hP1 hD1 hS1 hl
theorem c_new {index : Nat} (ci kc2 ks2 : Nat) (C : Cc X Y cc nL own F L mc ms) (hci : ci < 8) (hw : Cond.classLink own index (RC ci) ∈ TB) (hw1 : Cond.instantiable (RC ci) (NC ci) ∈ TB) (hw2 : Cond.initialized (RC ci) ∈ TB) (hk : kc + 1 = kc2) (hs : ks + NC ci = ks2) (hc : kc2 ≤ mc) (hcs : ks2 ≤ ms) (hd : decode cc pc = .ok (.new index, 3)) (h : ∀ q, Sc X Y nL Q (pc + 3) lv (.ref q :: st) ws (u ++ [(q, .inr (ci, blk ci))]) kc2 ks2) : Sc X Y nL Q pc lv st ws u kc ks := by
  intro H locs ls hP hD hS hl
  subst hk; subst hs
  refine va_new (D := yD Y) (cl := classes) (tys := tys Y) (A := yA Y) (H0 := (xs X).heap) (Ts := TB) (C := RC ci) (T := TC ci) (N := NC ci) (ci := ci) (fs := blk ci) C.1 C.2.1 C.2.2.2.2.1 (cls_in hci) (yC ci) (cls_ty hci) C.2.2.2.1 (C.2.2.2.2.1 _ hw) (C.2.2.2.2.1 _ hw1) (C.2.2.2.2.1 _ hw2) C.2.2.2.2.2.1 hP hD hS C.2.2.2.2.2.2.2.2.1 (cls_at hci) (blk_ok hci) (Nat.le_trans hc C.2.2.2.2.2.2.2.2.2.2.2.2.1) (Nat.le_trans hcs C.2.2.2.2.2.2.2.2.2.2.2.2.2) hd (fun q H1 hP1 hD1 hS1 => ?_)
  rw [List.append_assoc] at hP1 hD1
  exact h q H1 locs ls hP1 hD1 hS1 hl
theorem c_putF {index j ci k a : Nat} {fs : List Value} {v : Value} (u2 : va_W) (C : Cc X Y cc nL own F L mc ms) (hi : (xh X).name = "<init>") (hu : u[j]? = some (a, .inr (ci, fs))) (hci : ci < 8) (hkn : k < NC ci) (hw : Cond.fieldLink own index (TC ci k).1 (TC ci k).2.1 (TC ci k).2.2.1 ∈ TB) (hfin : (TC ci k).2.2.2 = true) (ho : (TC ci k).1 = own) (hn : narrow (yC ci k) v = v) (hfit : fits (yC ci k) v = true) (hl0 : k < fs.length) (hu2 : u.set j (a, .inr (ci, fs.set k v)) = u2) (hd : decode cc pc = .ok (.putfield index, 3)) (h : Sc X Y nL Q (pc + 3) lv st ws u2 kc ks) : Sc X Y nL Q pc lv (v :: .ref a :: st) ws u kc ks := by
  intro H locs ls hP hD hS hl
  refine va_putF (D := yD Y) (cl := classes) (tys := tys Y) (Ts := TB) (A := yA Y) (H0 := (xs X).heap) (C := RC ci) (T := TC ci) (N := NC ci) (ty := yC ci k) C.1 C.2.1 C.2.2.2.2.1 (cls_in hci) (yC ci) (cls_ty hci) (cls_nm hci) C.2.2.2.1 C.2.2.2.2.2.1 hP hD hS (ws.length + j) (by rw [ap_get]; exact hu) (cls_at hci) k hkn (C.2.2.2.2.1 _ hw) (fun _ h9 => h9) hfin hi ho (cls_ty hci k hkn) hn hfit hl0 hd (fun H1 locs1 hP1 hD1 hS1 => ?_)
  rw [ap_set, hu2] at hP1 hD1
  exact h H1 locs1 ls hP1 hD1 hS1 hl
theorem c_put {index j ci k a : Nat} {fs : List Value} {v : Value} (u2 : va_W) (C : Cc X Y cc nL own F L mc ms) (hu : u[j]? = some (a, .inr (ci, fs))) (hci : ci < 8) (hkn : k < NC ci) (hw : Cond.fieldLink own index (TC ci k).1 (TC ci k).2.1 (TC ci k).2.2.1 ∈ TB) (hfin : (TC ci k).2.2.2 = false) (hn : narrow (yC ci k) v = v) (hfit : fits (yC ci k) v = true) (hl0 : k < fs.length) (hu2 : u.set j (a, .inr (ci, fs.set k v)) = u2) (hd : decode cc pc = .ok (.putfield index, 3)) (h : Sc X Y nL Q (pc + 3) lv st ws u2 kc ks) : Sc X Y nL Q pc lv (v :: .ref a :: st) ws u kc ks := by
  intro H locs ls hP hD hS hl
  refine va_put (D := yD Y) (cl := classes) (tys := tys Y) (Ts := TB) (A := yA Y) (H0 := (xs X).heap) (C := RC ci) (T := TC ci) (N := NC ci) (ty := yC ci k) C.1 C.2.1 C.2.2.2.2.1 (cls_in hci) (yC ci) (cls_ty hci) (cls_nm hci) C.2.2.2.1 C.2.2.2.2.2.1 hP hD hS (ws.length + j) (by rw [ap_get]; exact hu) (cls_at hci) k hkn (C.2.2.2.2.1 _ hw) (fun _ h9 => h9) hfin (cls_ty hci k hkn) hn hfit hl0 hd (fun H1 locs1 hP1 hD1 hS1 => ?_)
  rw [ap_set, hu2] at hP1 hD1
  exact h H1 locs1 ls hP1 hD1 hS1 hl
theorem c_get {index j ci k a : Nat} {fs : List Value} {v : Value} (C : Cc X Y cc nL own F L mc ms) (hu : u[j]? = some (a, .inr (ci, fs))) (hci : ci < 8) (hkn : k < NC ci) (hw : Cond.fieldLink own index (TC ci k).1 (TC ci k).2.1 (TC ci k).2.2.1 ∈ TB) (hv : fs[k]? = some v) (hd : decode cc pc = .ok (.getfield index, 3)) (h : Sc X Y nL Q (pc + 3) lv (v :: st) ws u kc ks) : Sc X Y nL Q pc lv (.ref a :: st) ws u kc ks := fun H locs ls hP hD hS hl =>
  va_get (D := yD Y) (cl := classes) (tys := tys Y) (Ts := TB) (C := RC ci) (T := TC ci) (N := NC ci) C.1 C.2.1 C.2.2.2.2.1 (cls_in hci) C.2.2.2.1 C.2.2.2.2.2.1 hP (ws.length + j) (by rw [ap_get]; exact hu) (cls_at hci) k hkn (C.2.2.2.2.1 _ hw) (fun _ h9 => h9) hv hd (h H locs ls hP hD hS hl)
theorem c_iast {j a n : Nat} {f : Nat → Int32} {i x : Int32} (u2 : va_W) (C : Cc X Y cc nL own F L mc ms) (hu : u[j]? = some (a, .inl (yI Y, n, .inl f))) (hin : vp_in i n) (hu2 : u.set j (a, .inl (yI Y, n, .inl (upd f i.toNatClampNeg x))) = u2) (hd : decode cc pc = .ok (.iastore, 1)) (h : Sc X Y nL Q (pc + 1) lv st ws u2 kc ks) : Sc X Y nL Q pc lv (.int x :: .int i :: .ref a :: st) ws u kc ks := by
  intro H locs ls hP hD hS hl
  refine va_iast (D := yD Y) (cl := classes) (tys := tys Y) (A := yA Y) (H0 := (xs X).heap) C.1 C.2.1 C.2.2.2.2.2.1 hP hD hS (ws.length + j) 0 (by rw [ap_get]; exact hu) rfl hin hd (fun H1 locs1 hP1 hD1 hS1 => ?_)
  rw [ap_set, hu2] at hP1 hD1
  exact h H1 locs1 ls hP1 hD1 hS1 hl
theorem c_aast {j jv a n v : Nat} {f : Nat → Option Nat} {vs : List Value} {i : Int32} (u2 : va_W) (C : Cc X Y cc nL own F L mc ms) (hu : u[j]? = some (a, .inl (yS Y, n, .inr (.inr (.inr (.inr f)))))) (huv : u[jv]? = some (v, .inr (3, vs))) (hin : vp_in i n) (hu2 : u.set j (a, .inl (yS Y, n, .inr (.inr (.inr (.inr (va_up f i.toNatClampNeg (some v))))))) = u2) (hd : decode cc pc = .ok (.aastore, 1)) (h : Sc X Y nL Q (pc + 1) lv st ws u2 kc ks) : Sc X Y nL Q pc lv (.ref v :: .int i :: .ref a :: st) ws u kc ks := by
  intro H locs ls hP hD hS hl
  refine va_astq (D := yD Y) (cl := classes) (tys := tys Y) (A := yA Y) (H0 := (xs X).heap) (r := (RC 3, TC 3, NC 3)) C.1 C.2.1 C.2.2.2.2.2.1 hP hD hS (ws.length + j) 2 (ws.length + jv) 3 (by rw [ap_get]; exact hu) rfl (by rw [ap_get]; exact huv) rfl hin hd (fun H1 locs1 hP1 hD1 hS1 => ?_)
  rw [ap_set, hu2] at hP1 hD1
  exact h H1 locs1 ls hP1 hD1 hS1 hl
theorem c_vret {post : va_W → Prop} (C : Cc X Y cc nL own F L mc ms) (hr : (xh X).sig.returnType = none) (hd : decode cc pc = .ok (.return_, 1)) (h : post u) : Sc X Y nL (QC X Y ws kc ks post) pc lv [] ws u kc ks := fun H locs ls hP hD hS hl =>
  W.vret C.1 C.2.1 hr (fun t ht hW => ⟨⟨u, rfl, h, by unfold CO; rw [ht]; exact ⟨hP, hD⟩⟩, hS.F ht⟩) hS.2.2 hd C.2.2.2.2.2.2.2.2.2.1
def miC (y : MethodName) (b : ByteArray) (n : Nat) : Prop := Cond.instanceMethod y ∈ TB ∧ Cond.initialized y.cls ∈ TB ∧ Cond.code y b n none ∈ TB ∧ y.cls ≠ "java/lang/invoke/MethodHandle" ∧ y.cls ≠ "java/lang/invoke/VarHandle" ∧ (parseMethodDescriptor y.desc).map (fun d => d.parameters.length) = some 0
theorem CI_blind {av : List Value} {w : va_W} : FrameBlind (va_Pc av (CI Y w)) := fun a U g mk q => by
  obtain ⟨q0, qP, qK, qN, qA, qD, qh⟩ := q
  exact ⟨q0, qP, va_K.moved (u := U) (U := U.calling g mk a) (Vm.Alike.refl U.vm) qK, fun x hx => va_Nw.same (by
    simp only [nestL, List.mem_cons, List.not_mem_nil, or_false] at hx
    rcases hx with rfl | rfl | rfl | rfl | rfl | rfl | rfl | rfl <;> rfl) (u := U) (U := U.calling g mk a) rfl (qN x hx), va_AO.moved (u := U) (U := U.calling g mk a) (Vm.Alike.refl U.vm) qA, qD, qh⟩
theorem nest_warm {x : Cond} {U : State} (hW : (xs X).WarmedH U.vm) (hx : x ∈ nestL) (h : va_Nw x (xs X)) : va_Nw x U := by
  simp only [nestL, List.mem_cons, List.not_mem_nil, or_false] at hx
  rcases hx with rfl | rfl | rfl | rfl | rfl | rfl | rfl | rfl <;> exact va_Nw.warmM hW h
theorem CI_pre {av : List Value} {H : Heap} {w : va_W} {locs : List Loc} (C : Cc X Y cc nL own F L mc ms) (hP : va_P (yD Y) classes w H) (hD : va_D (yA Y) w) (hS : va_S (yA Y) (xs X).heap H locs) : ∀ U : State, U.heap = H → (xs X).WarmedH U.vm → va_Pc av (CI Y w) av.toArray U := fun U hU hW => ⟨rfl, by rw [hU]; exact hP, va_K.moved hW.alike C.2.2.2.2.2.1, fun x hx => nest_warm hW hx (C.2.2.2.2.2.2.1 x hx), va_AO.moved hW.alike C.2.2.2.2.2.2.2.1, hD, by rw [hU]; exact fun q hq => C.2.2.2.2.2.2.2.2.1 q (Nat.le_trans hS.1 hq)⟩
/-- a constructor of a nest mate is called on the cell that was made last -/
theorem c_callN {y : MethodName} {b : ByteArray} {n index F2 L2 mc2 ms2 q ci : Nat} {u0 : va_W} {post : va_W → Prop} (kc2 ks2 : Nat) (C : Cc X Y cc nL own F L mc ms) (hM : MetC Y y b n F2 L2 mc2 ms2 q (ws ++ u0) ci post) (hi : miC y b n) (hy : y.name = "<init>") (hnl : Cond.methodLinkNest own index y "LoadCycles" ∈ nestL) (hcat : (st.map fun v => v.category).sum ≤ 8) (hF : F2 + 1 ≤ F) (hL : 8 + (n + 11) + L2 ≤ L) (hk : kc + mc2 = kc2) (hs : ks + ms2 = ks2) (hc : kc2 ≤ mc) (hcs : ks2 ≤ ms) (hd : decode cc pc = .ok (.invokespecial index, 3)) (h : ∀ u1, post u1 → Sc X Y nL Q (pc + 3) lv st ws (u0 ++ u1) kc2 ks2) : Sc X Y nL Q pc lv (.ref q :: st) ws (u0 ++ [(q, .inr (ci, blk ci))]) kc ks := by
  intro H locs ls hP hD hS hl
  subst hk; subst hs
  rw [← List.append_assoc] at hP hD
  refine va_callv (A0 := yA Y) (H0 := (xs X).heap) (va_runIN (As := []) (rest := st) (Ts := TB) (host := "LoadCycles") ⟨C.1, C.2.1, C.2.2.1, C.2.2.2.1, C.2.2.2.2.1⟩ hM ⟨va_cnB 0 C.2.2.2.2.1 (gd_code hi.2.2.1) rfl rfl rfl (C.2.2.2.2.2.2.1 _ hnl) (C.2.2.2.2.1 _ hi.2.1) hi.2.2.2 ⟨Nat.le_trans hF C.2.2.2.2.2.2.2.2.2.2.1, Nat.le_trans hL C.2.2.2.2.2.2.2.2.2.2.2.1⟩, hy, C.2.2.2.2.1 _ hi.1⟩ ⟨CI_blind, CI_pre C hP hD hS⟩ rfl rfl hl.1 rfl (lv_room hcat) hd ⟨Nat.le_trans hc C.2.2.2.2.2.2.2.2.2.2.2.2.1, Nat.le_trans hcs C.2.2.2.2.2.2.2.2.2.2.2.2.2⟩) hS (fun _ _ h => h) (fun _ h => h) (fun u1 t H1 locs1 ht hvm hw2 hB hz1 hk1 hS1 => ?_)
  obtain ⟨hP1, hD1⟩ := hB
  rw [List.append_assoc] at hP1 hD1
  rw [ht] at hP1
  exact h u1 hw2 H1 locs1 ls hP1 hD1 hS1 hl
/-- a public constructor is called on the cell that was made last -/
theorem c_callI {y : MethodName} {b : ByteArray} {n index F2 L2 mc2 ms2 q ci : Nat} {u0 : va_W} {post : va_W → Prop} (kc2 ks2 : Nat) (C : Cc X Y cc nL own F L mc ms) (hM : MetC Y y b n F2 L2 mc2 ms2 q (ws ++ u0) ci post) (hi : miC y b n) (hy : y.name = "<init>") (hw : Cond.methodLink own index y ∈ TB) (hcat : (st.map fun v => v.category).sum ≤ 8) (hF : F2 + 1 ≤ F) (hL : 8 + (n + 11) + L2 ≤ L) (hk : kc + mc2 = kc2) (hs : ks + ms2 = ks2) (hc : kc2 ≤ mc) (hcs : ks2 ≤ ms) (hd : decode cc pc = .ok (.invokespecial index, 3)) (h : ∀ u1, post u1 → Sc X Y nL Q (pc + 3) lv st ws (u0 ++ u1) kc2 ks2) : Sc X Y nL Q pc lv (.ref q :: st) ws (u0 ++ [(q, .inr (ci, blk ci))]) kc ks := by
  intro H locs ls hP hD hS hl
  subst hk; subst hs
  rw [← List.append_assoc] at hP hD
  refine va_callv (A0 := yA Y) (H0 := (xs X).heap) (va_runI (As := []) (rest := st) (Ts := TB) ⟨C.1, C.2.1, C.2.2.1, C.2.2.2.1, C.2.2.2.2.1⟩ hM (cwI 0 C.2.2.2.2.1 (gd_code hi.2.2.1) rfl rfl rfl (C.2.2.2.2.1 _ hi.2.1) (C.2.2.2.2.1 _ hw) (C.2.2.2.2.1 _ hi.1) hy hi.2.2.2 ⟨Nat.le_trans hF C.2.2.2.2.2.2.2.2.2.2.1, Nat.le_trans hL C.2.2.2.2.2.2.2.2.2.2.2.1⟩) ⟨CI_blind, CI_pre C hP hD hS⟩ rfl rfl hl.1 rfl (lv_room hcat) hd ⟨Nat.le_trans hc C.2.2.2.2.2.2.2.2.2.2.2.2.1, Nat.le_trans hcs C.2.2.2.2.2.2.2.2.2.2.2.2.2⟩) hS (fun _ _ h => h) (fun _ h => h) (fun u1 t H1 locs1 ht hvm hw2 hB hz1 hk1 hS1 => ?_)
  obtain ⟨hP1, hD1⟩ := hB
  rw [List.append_assoc] at hP1 hD1
  rw [ht] at hP1
  exact h u1 hw2 H1 locs1 ls hP1 hD1 hS1 hl
end CRows
