/-! ===== names: classes, fields ===== -/
def RC : Nat → String
  | 0 => "LoadCycles$Doing"
  | 1 => "LoadCycles$Guesses"
  | 2 => "LoadCycles$House"
  | 3 => "LoadCycles$Sheet"
  | 4 => "LoadCycles$TextReader"
  | 5 => "LoadCycles$Unmixer"
  | 6 => "LoadCycles"
  | _ => "LoadCyclesModel"
def TC0 : u_T := fun k => match k with
  | 0 => ("LoadCycles$Doing", "states", "[I", true)
  | 1 => ("LoadCycles$Doing", "energies", "[I", true)
  | 2 => ("LoadCycles$Doing", "allEnergies", "I", false)
  | 3 => ("LoadCycles$Doing", "allRests", "I", false)
  | 4 => ("LoadCycles$Doing", "changes", "I", false)
  | _ => ("LoadCycles$Doing", "starts", "I", false)
def TC1 : u_T := fun k => match k with
  | 0 => ("LoadCycles$Guesses", "known", "[Z", true)
  | _ => ("LoadCycles$Guesses", "energies", "[I", true)
def TC2 : u_T := fun k => match k with
  | 0 => ("LoadCycles$House", "kindOf", "[I", true)
  | 1 => ("LoadCycles$House", "levelsOf", "[I", true)
  | 2 => ("LoadCycles$House", "told", "[I", true)
  | 3 => ("LoadCycles$House", "values", "[I", true)
  | 4 => ("LoadCycles$House", "appliances", "I", false)
  | 5 => ("LoadCycles$House", "times", "I", false)
  | _ => ("LoadCycles$House", "always", "I", false)
def TC3 : u_T := fun k => match k with
  | 0 => ("LoadCycles$Sheet", "cells", "[I", true)
  | 1 => ("LoadCycles$Sheet", "lane", "I", false)
  | _ => ("LoadCycles$Sheet", "length", "I", false)
def TC4 : u_T := fun k => match k with
  | 0 => ("LoadCycles$TextReader", "house", "LLoadCycles$House;", true)
  | _ => ("LoadCycles$TextReader", "awaits", "I", false)
def TC5 : u_T := fun k => match k with
  | 0 => ("LoadCycles$Unmixer", "powers", "[I", true)
  | 1 => ("LoadCycles$Unmixer", "mixAfter", "[I", true)
  | 2 => ("LoadCycles$Unmixer", "costs", "[I", true)
  | 3 => ("LoadCycles$Unmixer", "ahead", "[I", false)
  | 4 => ("LoadCycles$Unmixer", "spare", "[I", false)
  | _ => ("LoadCycles$Unmixer", "mixes", "I", false)
def TC6 : u_T := fun k => match k with
  | 0 => ("LoadCycles", "current", "LLoadCycles$House;", true)
  | 1 => ("LoadCycles", "trial", "LLoadCycles$House;", true)
  | 2 => ("LoadCycles", "currentBest", "LLoadCycles$Doing;", true)
  | 3 => ("LoadCycles", "trialBest", "LLoadCycles$Doing;", true)
  | 4 => ("LoadCycles", "unmixer", "LLoadCycles$Unmixer;", true)
  | 5 => ("LoadCycles", "reader", "LLoadCycles$TextReader;", true)
  | 6 => ("LoadCycles", "guesses", "LLoadCycles$Guesses;", true)
  | 7 => ("LoadCycles", "sheets", "[LLoadCycles$Sheet;", true)
  | 8 => ("LoadCycles", "readingAppliances", "[I", true)
  | 9 => ("LoadCycles", "readingEnergies", "[I", true)
  | 10 => ("LoadCycles", "readings", "I", false)
  | 11 => ("LoadCycles", "bestIsKnown", "Z", false)
  | 12 => ("LoadCycles", "traceNumber", "I", false)
  | _ => ("LoadCycles", "faultNumber", "I", false)
def TC7 : u_T := fun k => match k with
  | 0 => ("LoadCyclesModel", "fault", "I", false)
  | 1 => ("LoadCyclesModel", "trace", "I", false)
  | 2 => ("LoadCyclesModel", "sorts", "[I", true)
  | 3 => ("LoadCyclesModel", "sheetLong", "[I", true)
  | 4 => ("LoadCyclesModel", "cells", "[I", true)
  | 5 => ("LoadCyclesModel", "many", "I", false)
  | 6 => ("LoadCyclesModel", "kind", "[I", true)
  | 7 => ("LoadCyclesModel", "levels", "[I", true)
  | 8 => ("LoadCyclesModel", "told", "[I", true)
  | 9 => ("LoadCyclesModel", "times", "I", false)
  | 10 => ("LoadCyclesModel", "value", "[I", true)
  | 11 => ("LoadCyclesModel", "base", "I", false)
  | 12 => ("LoadCyclesModel", "at", "I", false)
  | 13 => ("LoadCyclesModel", "readMany", "I", false)
  | 14 => ("LoadCyclesModel", "readKind", "[I", true)
  | 15 => ("LoadCyclesModel", "readLevels", "[I", true)
  | 16 => ("LoadCyclesModel", "readTold", "[I", true)
  | 17 => ("LoadCyclesModel", "isFound", "Z", false)
  | 18 => ("LoadCyclesModel", "power", "[I", true)
  | 19 => ("LoadCyclesModel", "goes", "[I", true)
  | 20 => ("LoadCyclesModel", "cost", "[I", true)
  | 21 => ("LoadCyclesModel", "rank", "[I", true)
  | 22 => ("LoadCyclesModel", "thenCost", "[I", true)
  | 23 => ("LoadCyclesModel", "thenRank", "[I", true)
  | 24 => ("LoadCyclesModel", "start", "[I", true)
  | 25 => ("LoadCyclesModel", "from", "[I", true)
  | 26 => ("LoadCyclesModel", "best", "[I", true)
  | 27 => ("LoadCyclesModel", "keptTold", "[I", true)
  | 28 => ("LoadCyclesModel", "keptValue", "[I", true)
  | 29 => ("LoadCyclesModel", "keptBase", "I", false)
  | 30 => ("LoadCyclesModel", "readings", "I", false)
  | 31 => ("LoadCyclesModel", "readOf", "[I", true)
  | _ => ("LoadCyclesModel", "readEnergy", "[I", true)
def TC : Nat → u_T
  | 0 => TC0
  | 1 => TC1
  | 2 => TC2
  | 3 => TC3
  | 4 => TC4
  | 5 => TC5
  | 6 => TC6
  | _ => TC7
def NC : Nat → Nat
  | 0 => 6
  | 1 => 2
  | 2 => 7
  | 3 => 3
  | 4 => 2
  | 5 => 6
  | 6 => 14
  | _ => 33
def yC0 : Nat → FieldType := fun k => match k with
  | 0 => .array .int
  | 1 => .array .int
  | 2 => .int
  | 3 => .int
  | 4 => .int
  | _ => .int
def yC1 : Nat → FieldType := fun k => match k with
  | 0 => .array .boolean
  | _ => .array .int
def yC2 : Nat → FieldType := fun k => match k with
  | 0 => .array .int
  | 1 => .array .int
  | 2 => .array .int
  | 3 => .array .int
  | 4 => .int
  | 5 => .int
  | _ => .int
def yC3 : Nat → FieldType := fun k => match k with
  | 0 => .array .int
  | 1 => .int
  | _ => .int
def yC4 : Nat → FieldType := fun k => match k with
  | 0 => .object "LoadCycles$House"
  | _ => .int
def yC5 : Nat → FieldType := fun k => match k with
  | 0 => .array .int
  | 1 => .array .int
  | 2 => .array .int
  | 3 => .array .int
  | 4 => .array .int
  | _ => .int
def yC6 : Nat → FieldType := fun k => match k with
  | 0 => .object "LoadCycles$House"
  | 1 => .object "LoadCycles$House"
  | 2 => .object "LoadCycles$Doing"
  | 3 => .object "LoadCycles$Doing"
  | 4 => .object "LoadCycles$Unmixer"
  | 5 => .object "LoadCycles$TextReader"
  | 6 => .object "LoadCycles$Guesses"
  | 7 => .array (.object "LoadCycles$Sheet")
  | 8 => .array .int
  | 9 => .array .int
  | 10 => .int
  | 11 => .boolean
  | 12 => .int
  | _ => .int
def yC7 : Nat → FieldType := fun k => match k with
  | 0 => .int
  | 1 => .int
  | 2 => .array .int
  | 3 => .array .int
  | 4 => .array .int
  | 5 => .int
  | 6 => .array .int
  | 7 => .array .int
  | 8 => .array .int
  | 9 => .int
  | 10 => .array .int
  | 11 => .int
  | 12 => .int
  | 13 => .int
  | 14 => .array .int
  | 15 => .array .int
  | 16 => .array .int
  | 17 => .boolean
  | 18 => .array .int
  | 19 => .array .int
  | 20 => .array .int
  | 21 => .array .int
  | 22 => .array .int
  | 23 => .array .int
  | 24 => .array .int
  | 25 => .array .int
  | 26 => .array .int
  | 27 => .array .int
  | 28 => .array .int
  | 29 => .int
  | 30 => .int
  | 31 => .array .int
  | _ => .array .int
def yC : Nat → Nat → FieldType
  | 0 => yC0
  | 1 => yC1
  | 2 => yC2
  | 3 => yC3
  | 4 => yC4
  | 5 => yC5
  | 6 => yC6
  | _ => yC7
abbrev classes : List vw_C := [(RC 0, TC 0, NC 0), (RC 1, TC 1, NC 1), (RC 2, TC 2, NC 2), (RC 3, TC 3, NC 3), (RC 4, TC 4, NC 4), (RC 5, TC 5, NC 5), (RC 6, TC 6, NC 6), (RC 7, TC 7, NC 7)]
theorem cls_at : ∀ {ci : Nat}, ci < 8 → classes[ci]? = some (RC ci, TC ci, NC ci)
  | 0, _ => rfl
  | 1, _ => rfl
  | 2, _ => rfl
  | 3, _ => rfl
  | 4, _ => rfl
  | 5, _ => rfl
  | 6, _ => rfl
  | 7, _ => rfl
  | n + 8, h => absurd h (by omega)
theorem cls_in0 : ∀ k, k < 6 → u_lay (RC 0) (TC 0) k ∈ TB
  | 0, _ => wd_142
  | 1, _ => wd_144
  | 2, _ => wd_146
  | 3, _ => wd_148
  | 4, _ => wd_150
  | 5, _ => wd_152
  | n + 6, h => absurd h (by omega)
theorem cls_in1 : ∀ k, k < 2 → u_lay (RC 1) (TC 1) k ∈ TB
  | 0, _ => wd_204
  | 1, _ => wd_206
  | n + 2, h => absurd h (by omega)
theorem cls_in2 : ∀ k, k < 7 → u_lay (RC 2) (TC 2) k ∈ TB
  | 0, _ => wd_112
  | 1, _ => wd_114
  | 2, _ => wd_116
  | 3, _ => wd_118
  | 4, _ => wd_120
  | 5, _ => wd_122
  | 6, _ => wd_124
  | n + 7, h => absurd h (by omega)
theorem cls_in3 : ∀ k, k < 3 → u_lay (RC 3) (TC 3) k ∈ TB
  | 0, _ => wd_223
  | 1, _ => wd_225
  | 2, _ => wd_227
  | n + 3, h => absurd h (by omega)
theorem cls_in4 : ∀ k, k < 2 → u_lay (RC 4) (TC 4) k ∈ TB
  | 0, _ => wd_191
  | 1, _ => wd_193
  | n + 2, h => absurd h (by omega)
theorem cls_in5 : ∀ k, k < 6 → u_lay (RC 5) (TC 5) k ∈ TB
  | 0, _ => wd_167
  | 1, _ => wd_169
  | 2, _ => wd_171
  | 3, _ => wd_173
  | 4, _ => wd_175
  | 5, _ => wd_177
  | n + 6, h => absurd h (by omega)
theorem cls_in6 : ∀ k, k < 14 → u_lay (RC 6) (TC 6) k ∈ TB
  | 0, _ => wd_244
  | 1, _ => wd_246
  | 2, _ => wd_248
  | 3, _ => wd_250
  | 4, _ => wd_252
  | 5, _ => wd_254
  | 6, _ => wd_256
  | 7, _ => wd_258
  | 8, _ => wd_260
  | 9, _ => wd_262
  | 10, _ => wd_264
  | 11, _ => wd_266
  | 12, _ => wd_268
  | 13, _ => wd_270
  | n + 14, h => absurd h (by omega)
theorem cls_in7 : ∀ k, k < 33 → u_lay (RC 7) (TC 7) k ∈ TB
  | 0, _ => wd_766
  | 1, _ => wd_768
  | 2, _ => wd_770
  | 3, _ => wd_772
  | 4, _ => wd_774
  | 5, _ => wd_776
  | 6, _ => wd_778
  | 7, _ => wd_780
  | 8, _ => wd_782
  | 9, _ => wd_784
  | 10, _ => wd_786
  | 11, _ => wd_788
  | 12, _ => wd_790
  | 13, _ => wd_792
  | 14, _ => wd_794
  | 15, _ => wd_796
  | 16, _ => wd_798
  | 17, _ => wd_800
  | 18, _ => wd_802
  | 19, _ => wd_804
  | 20, _ => wd_806
  | 21, _ => wd_808
  | 22, _ => wd_810
  | 23, _ => wd_812
  | 24, _ => wd_814
  | 25, _ => wd_816
  | 26, _ => wd_818
  | 27, _ => wd_820
  | 28, _ => wd_822
  | 29, _ => wd_824
  | 30, _ => wd_826
  | 31, _ => wd_828
  | 32, _ => wd_830
  | n + 33, h => absurd h (by omega)
theorem cls_in : ∀ {ci : Nat}, ci < 8 → ∀ w ∈ u_ws (RC ci) (TC ci) (NC ci), w ∈ TB := by
  intro ci hci w hw
  obtain ⟨k, hk, rfl⟩ := List.mem_map.mp hw
  have hk := List.mem_range.mp hk
  match ci, hci, hk with
  | 0, _, hk => exact cls_in0 k hk
  | 1, _, hk => exact cls_in1 k hk
  | 2, _, hk => exact cls_in2 k hk
  | 3, _, hk => exact cls_in3 k hk
  | 4, _, hk => exact cls_in4 k hk
  | 5, _, hk => exact cls_in5 k hk
  | 6, _, hk => exact cls_in6 k hk
  | 7, _, hk => exact cls_in7 k hk
theorem cls_ty : ∀ {ci : Nat}, ci < 8 → ∀ k, k < NC ci → parseFieldDescriptor (TC ci k).2.2.1 = some (yC ci k) := by decide +kernel
theorem cls_nm : ∀ {ci : Nat}, ci < 8 → ∀ a, a < NC ci → ∀ b, b < NC ci → a ≠ b → (TC ci a).2.1 ≠ (TC ci b).2.1 := by decide +kernel
/-! ===== the world ===== -/
abbrev Sg : Type := Nat → Nat → Int32
def s1 (σ : Sg) (c : Nat) (f : Nat → Int32) : Sg := fun d => if d = c then f else σ d
def s2 (σ : Sg) (c i : Nat) (v : Int32) : Sg := s1 σ c (upd (σ c) i v)
def kdL : List Nat := [6, 2, 8, 8, 8, 8, 2, 8, 8, 8, 8, 2, 8, 8, 8, 8, 0, 8, 8, 0, 8, 8, 5, 8, 8, 8, 8, 8, 4, 1, 9, 8, 10, 3, 8, 3, 8, 3, 8, 3, 8, 8, 8, 7, 8, 8, 8, 8, 8, 8, 8, 8, 8, 8, 8, 8, 8, 8, 8, 8, 8, 8, 8, 8, 8, 8, 8]
def lnL : List Nat := [0, 0, 4, 4, 12, 20, 0, 4, 4, 12, 20, 0, 4, 4, 12, 20, 0, 80, 4, 0, 80, 4, 0, 256, 1024, 5120, 256, 256, 0, 0, 48, 192, 4, 0, 60, 0, 60, 0, 60, 0, 60, 8, 8, 0, 4, 4, 240, 4, 4, 12, 20, 4, 4, 12, 256, 4096, 256, 256, 256, 256, 257, 5120, 20, 12, 20, 8, 8]
def kd (c : Nat) : Nat := kdL.getD c 11
def ln (c : Nat) : Nat := lnL.getD c 0
theorem kd_lt {c : Nat} (h : kd c ≠ 11) : c < 67 := by
  rcases Nat.lt_or_ge c 67 with q | q
  · exact q
  · exact absurd (show kd c = 11 by unfold kd; rw [List.getD_eq_getElem?_getD, List.getElem?_eq_none (by exact q)]; rfl) h
abbrev Yx : Type := Launch × va_G × (Nat → Prop) × (Nat → Nat) × ClassId × ClassId × ClassId
abbrev yl (Y : Yx) : Launch := Y.1
abbrev yD (Y : Yx) : va_G := Y.2.1
abbrev yA (Y : Yx) : Nat → Prop := Y.2.2.1
abbrev ya (Y : Yx) : Nat → Nat := Y.2.2.2.1
abbrev yI (Y : Yx) : ClassId := Y.2.2.2.2.1
abbrev yZ (Y : Yx) : ClassId := Y.2.2.2.2.2.1
abbrev yS (Y : Yx) : ClassId := Y.2.2.2.2.2.2
abbrev tys (Y : Yx) : List (ClassId × FieldType) := [(yI Y, .int), (yZ Y, .boolean), (yS Y, .object "LoadCycles$Sheet")]
def flds (ad : Nat → Nat) (ci c : Nat) (f : Nat → Int32) : List Value := match ci with
  | 0 => [.ref (ad (c + 1)), .ref (ad (c + 2)), .int (f 2), .int (f 3), .int (f 4), .int (f 5)]
  | 1 => [.ref (ad (c + 1)), .ref (ad (c + 2))]
  | 2 => [.ref (ad (c + 1)), .ref (ad (c + 2)), .ref (ad (c + 3)), .ref (ad (c + 4)), .int (f 4), .int (f 5), .int (f 6)]
  | 3 => [.ref (ad (c + 1)), .int (f 1), .int (f 2)]
  | 4 => [.ref (ad 11), .int (f 1)]
  | 5 => [.ref (ad (c + 1)), .ref (ad (c + 2)), .ref (ad (c + 3)), .ref (ad (f 3).toNatClampNeg), .ref (ad (f 4).toNatClampNeg), .int (f 5)]
  | 6 => [.ref (ad 1), .ref (ad 6), .ref (ad 16), .ref (ad 19), .ref (ad 22), .ref (ad 28), .ref (ad 29), .ref (ad 32), .ref (ad 41), .ref (ad 42), .int (f 10), .int (f 11), .int (f 12), .int (f 13)]
  | _ => [.int (f 0), .int (f 1), .ref (ad 44), .ref (ad 45), .ref (ad 46), .int (f 5), .ref (ad 47), .ref (ad 48), .ref (ad 49), .int (f 9), .ref (ad 50), .int (f 11), .int (f 12), .int (f 13), .ref (ad 51), .ref (ad 52), .ref (ad 53), .int (f 17), .ref (ad 54), .ref (ad 55), .ref (ad 56), .ref (ad 57), .ref (ad 58), .ref (ad 59), .ref (ad 60), .ref (ad 61), .ref (ad 62), .ref (ad 63), .ref (ad 64), .int (f 29), .int (f 30), .ref (ad 65), .ref (ad 66)]
theorem flds_len (ad : Nat → Nat) (c : Nat) (f : Nat → Int32) : ∀ {ci : Nat}, ci < 8 → (flds ad ci c f).length = NC ci
  | 0, _ => rfl
  | 1, _ => rfl
  | 2, _ => rfl
  | 3, _ => rfl
  | 4, _ => rfl
  | 5, _ => rfl
  | 6, _ => rfl
  | 7, _ => rfl
  | n + 8, h => absurd h (by omega)
def shr (ad : Nat → Nat) : Nat → Option Nat := fun k => if k < 4 then some (ad (33 + 2 * k)) else none
def ce (Y : Yx) (c : Nat) (f : Nat → Int32) : va_E := match kd c with
  | 8 => .inl (yI Y, (ln c, .inl f))
  | 9 => .inl (yZ Y, (ln c, .inl f))
  | 10 => .inl (yS Y, (4, .inr (.inr (.inr (.inr (shr (ya Y)))))))
  | ci => .inr (ci, flds (ya Y) ci c f)
def GW (Y : Yx) (σ : Sg) : va_W := (List.range 67).map (fun c => (ya Y c, ce Y c (σ c)))
theorem GW_at {Y : Yx} {σ : Sg} {c : Nat} (h : c < 67) : (GW Y σ)[c]? = some (ya Y c, ce Y c (σ c)) := by
  unfold GW
  rw [List.getElem?_map, List.getElem?_range h]
  rfl
theorem GW_none {Y : Yx} {σ : Sg} {c : Nat} (h : ¬ c < 67) : (GW Y σ)[c]? = none := List.getElem?_eq_none (by unfold GW; simp; omega)
theorem GW_set {Y : Yx} {σ : Sg} {c : Nat} {f : Nat → Int32} {x : va_E} (h : c < 67) (hx : ce Y c f = x) : (GW Y σ).set c (ya Y c, x) = GW Y (s1 σ c f) := by
  apply List.ext_getElem?
  intro i
  by_cases hi : i < 67
  · rw [GW_at hi]
    by_cases hic : c = i
    · subst hic
      rw [List.getElem?_set_self (by unfold GW; simpa using h)]
      simp [s1, hx]
    · rw [List.getElem?_set_ne hic, GW_at hi]
      simp [s1, Ne.symm hic]
  · rw [GW_none hi]
    exact List.getElem?_eq_none (by rw [List.length_set]; unfold GW; simp; omega)
def YD (Y : Yx) : Prop := (∀ i j, i < 67 → j < 67 → ya Y i = ya Y j → i = j) ∧ ∀ c, c < 67 → yA Y (ya Y c)
theorem YD.D {Y : Yx} (h : YD Y) (σ : Sg) : va_D (yA Y) (GW Y σ) := by
  refine ⟨fun i j p q hi hj e => ?_, fun k q hk => ?_⟩
  · by_cases h1 : i < 67
    · by_cases h2 : j < 67
      · rw [GW_at h1] at hi
        rw [GW_at h2] at hj
        cases hi; cases hj
        exact h.1 i j h1 h2 e
      · rw [GW_none h2] at hj; cases hj
    · rw [GW_none h1] at hi; cases hi
  · by_cases h1 : k < 67
    · rw [GW_at h1] at hk
      cases hk
      exact h.2 k h1
    · rw [GW_none h1] at hk; cases hk
theorem ce_o {Y : Yx} {c ci : Nat} {f : Nat → Int32} (h : kd c = ci) (hc : ci < 8) : ce Y c f = .inr (ci, flds (ya Y) ci c f) := by
  unfold ce
  rw [h]
  match ci, hc with

  | 0, _ => rfl
  | 1, _ => rfl
  | 2, _ => rfl
  | 3, _ => rfl
  | 4, _ => rfl
  | 5, _ => rfl
  | 6, _ => rfl
  | 7, _ => rfl
theorem ce_i {Y : Yx} {c n : Nat} {f : Nat → Int32} (h : kd c = 8 ∧ ln c = n) : ce Y c f = .inl (yI Y, (n, .inl f)) := by
  unfold ce
  rw [h.1, ← h.2]
  rfl
theorem ce_z {Y : Yx} {c n : Nat} {f : Nat → Int32} (h : kd c = 9 ∧ ln c = n) : ce Y c f = .inl (yZ Y, (n, .inl f)) := by
  unfold ce
  rw [h.1, ← h.2]
  rfl
theorem ce_s {Y : Yx} {f : Nat → Int32} : ce Y 32 f = .inl (yS Y, (4, .inr (.inr (.inr (.inr (shr (ya Y))))))) := rfl
def ia (c n : Nat) : Prop := kd c = 8 ∧ ln c = n
def za (c n : Nat) : Prop := kd c = 9 ∧ ln c = n
theorem ia.lt {c n : Nat} (h : ia c n) : c < 67 := kd_lt (by rw [h.1]; decide)
theorem za.lt {c n : Nat} (h : za c n) : c < 67 := kd_lt (by rw [h.1]; decide)
theorem kd_all {P : Nat → Prop} {k : Nat} (hk : k ≠ 11) (h : ∀ c, c < 67 → kd c = k → P c) {c : Nat} (hc : kd c = k) : P c := h c (kd_lt (by rw [hc]; exact hk)) hc
theorem kH : ∀ c, c < 67 → kd c = 2 → (kd (c + 1) = 8 ∧ ln (c + 1) = 4) ∧ (kd (c + 2) = 8 ∧ ln (c + 2) = 4) ∧ (kd (c + 3) = 8 ∧ ln (c + 3) = 12) ∧ (kd (c + 4) = 8 ∧ ln (c + 4) = 20) := by decide +kernel
theorem kDo : ∀ c, c < 67 → kd c = 0 → (kd (c + 1) = 8 ∧ ln (c + 1) = 80) ∧ (kd (c + 2) = 8 ∧ ln (c + 2) = 4) := by decide +kernel
theorem kSh : ∀ c, c < 67 → kd c = 3 → (kd (c + 1) = 8 ∧ ln (c + 1) = 60) := by decide +kernel
theorem k2_1 {c : Nat} (h : kd c = 2) : ia (c + 1) 4 := (kH c (kd_lt (by rw [h]; decide)) h).1
theorem k2_2 {c : Nat} (h : kd c = 2) : ia (c + 2) 4 := (kH c (kd_lt (by rw [h]; decide)) h).2.1
theorem k2_3 {c : Nat} (h : kd c = 2) : ia (c + 3) 12 := (kH c (kd_lt (by rw [h]; decide)) h).2.2.1
theorem k2_4 {c : Nat} (h : kd c = 2) : ia (c + 4) 20 := (kH c (kd_lt (by rw [h]; decide)) h).2.2.2
theorem k0_1 {c : Nat} (h : kd c = 0) : ia (c + 1) 80 := (kDo c (kd_lt (by rw [h]; decide)) h).1
theorem k0_2 {c : Nat} (h : kd c = 0) : ia (c + 2) 4 := (kDo c (kd_lt (by rw [h]; decide)) h).2
theorem k3_1 {c : Nat} (h : kd c = 3) : ia (c + 1) 60 := kSh c (kd_lt (by rw [h]; decide)) h
theorem kS : ∀ k, k < 4 → kd (33 + 2 * k) = 3 := by decide +kernel
/-! ===== the walk's judgement ===== -/
abbrev Bx : Type := Program × Env × Room × State × MethodId × Array Value × List Frame × Method × Code × Nat × Nat
abbrev xp (X : Bx) : Program := X.1
abbrev xe (X : Bx) : Env := X.2.1
abbrev xR (X : Bx) : Room := X.2.2.1
abbrev xs (X : Bx) : State := X.2.2.2.1
abbrev xm (X : Bx) : MethodId := X.2.2.2.2.1
abbrev xa (X : Bx) : Array Value := X.2.2.2.2.2.1
abbrev xb (X : Bx) : List Frame := X.2.2.2.2.2.2.1
abbrev xh (X : Bx) : Method := X.2.2.2.2.2.2.2.1
abbrev xc (X : Bx) : Code := X.2.2.2.2.2.2.2.2.1
abbrev xk (X : Bx) : Nat := X.2.2.2.2.2.2.2.2.2.1
abbrev xn (X : Bx) : Nat := X.2.2.2.2.2.2.2.2.2.2
abbrev WX (X : Bx) (Y : Yx) (H : Heap) (locs : List Loc) (Q : State → Prop) (g : JFrame) : Prop := W (xp X) (yl Y) (xe X) (xR X) (xs X) (xm X) (xa X) (xb X) (xh X) (xc X) H locs (xk X) (xn X) Q g
abbrev nestW : Cond := .methodLinkNest "LoadCycles$TextReader" 50 ⟨"LoadCycles", "isLevelValue", "(I)Z"⟩ "LoadCycles"
/-- what a walk of a method stands on -/
def Cx (X : Bx) (Y : Yx) (cc : ByteArray) (nL : Nat) (own : String) (F L : Nat) : Prop :=
  (xp X).tables.exec = Jvm.exec ∧ (xc X).code = cc ∧ (xc X).maxLocals = nL ∧ (xs X).vm.findClass own = some (xm X).cls ∧ (∀ w ∈ TB, w.before (xa X) (xs X) = true) ∧ va_K (yD Y) classes (tys Y) (xs X) ∧ YD Y ∧ (xh X).locks = false ∧ va_Nw nestW (xs X) ∧ (F ≤ (xR X).frames ∧ L ≤ (xR X).locals ∧ xk X ≤ (xR X).cells ∧ xn X ≤ (xR X).slots)
def St (X : Bx) (Y : Yx) (nL : Nat) (Q : State → Prop) (pc : Nat) (lv : List (Nat × Value)) (st : List Value) (σ : Sg) : Prop :=
  ∀ (H : Heap) (locs : List Loc) (ls : Array Slot), va_P (yD Y) classes (GW Y σ) H → va_S (yA Y) (xs X).heap H locs → lv_has ls nL lv → WX X Y H locs Q (F0 (xm X) pc ls st)
def GI (Y : Yx) (σ : Sg) (U : State) : Prop := va_P (yD Y) classes (GW Y σ) U.heap ∧ va_K (yD Y) classes (tys Y) U ∧ va_Nw nestW U
def GO (Y : Yx) (σ : Sg) (t : State) : Prop := va_P (yD Y) classes (GW Y σ) t.heap
abbrev rmX (F L : Nat) : Room := { frames := F, cells := 0, slots := 0, locals := L }
def MetI (Y : Yx) (y : MethodName) (cc : ByteArray) (n : Nat) (rt : FieldType) (F L : Nat) (av : List Value) (σ : Sg) (K : Int32 → Sg → Prop) : Prop :=
  Met (yl Y) y (.code y cc n (some rt) :: TB) (rmX F L) (va_Pc av (GI Y σ)) (va_Qi K (GO Y) (yA Y)) 0 0 (yA Y)
def MetL (Y : Yx) (y : MethodName) (cc : ByteArray) (n : Nat) (F L : Nat) (av : List Value) (σ : Sg) (K : Int64 → Sg → Prop) : Prop :=
  Met (yl Y) y (.code y cc n (some .long) :: TB) (rmX F L) (va_Pc av (GI Y σ)) (va_Ql K (GO Y) (yA Y)) 0 0 (yA Y)
def MetV (Y : Yx) (y : MethodName) (cc : ByteArray) (n : Nat) (F L : Nat) (av : List Value) (σ : Sg) (K : Sg → Prop) : Prop :=
  Met (yl Y) y (.code y cc n none :: TB) (rmX F L) (va_Pc av (GI Y σ)) (va_Qv K (GO Y) (yA Y)) 0 0 (yA Y)
def MetR (Y : Yx) (y : MethodName) (cc : ByteArray) (n : Nat) (rt : FieldType) (F L : Nat) (av : List Value) (σ : Sg) (K : Nat → Sg → Prop) : Prop :=
  Met (yl Y) y (.code y cc n (some rt) :: TB) (rmX F L) (va_Pc av (GI Y σ)) (va_Qr (fun u : Nat × Sg => K u.1 u.2) (fun u a t => a = ya Y u.1 ∧ GO Y u.2 t) (yA Y)) 0 0 (yA Y)
def QI (X : Bx) (Y : Yx) (K : Int32 → Sg → Prop) : State → Prop := MQ (xb X) (va_Qi K (GO Y) (yA Y)) (xa X) (xs X) (xk X) (xn X) (yA Y)
def QL (X : Bx) (Y : Yx) (K : Int64 → Sg → Prop) : State → Prop := MQ (xb X) (va_Ql K (GO Y) (yA Y)) (xa X) (xs X) (xk X) (xn X) (yA Y)
def QV (X : Bx) (Y : Yx) (K : Sg → Prop) : State → Prop := MQ (xb X) (va_Qv K (GO Y) (yA Y)) (xa X) (xs X) (xk X) (xn X) (yA Y)
def QR (X : Bx) (Y : Yx) (K : Nat → Sg → Prop) : State → Prop := MQ (xb X) (va_Qr (fun u : Nat × Sg => K u.1 u.2) (fun u a t => a = ya Y u.1 ∧ GO Y u.2 t) (yA Y)) (xa X) (xs X) (xk X) (xn X) (yA Y)

theorem met_I {Y : Yx} {y : MethodName} {cc : ByteArray} {n : Nat} {rt : FieldType} {F L : Nat} {av : List Value} {σ : Sg} {K : Int32 → Sg → Prop} (lv : List (Nat × Value)) (hY : YD Y) (hy : plainName y.cls = true) (hn : (lg_sl av).length ≤ n) (hlv : lv_args 0 av = lv)
    (h : ∀ X : Bx, Cx X Y cc n y.cls F L → (xh X).sig.returnType = (some rt) → St X Y n (QI X Y K) 0 lv [] σ) : MetI Y y cc n rt F L av σ K := by
  refine Met.ofW (cc := cc) (maxL := n) (ret := (some rt)) hy rfl ?_
  intro p e s m args below meth c s₁ B hml hv
  obtain ⟨rfl, hP, hK, hN⟩ := hv
  have hts := atoms_spec (ws := .code y cc n (some rt) :: TB) B.pre
  have hown : s.vm.findClass y.cls = some m.cls := findClass_of_methodNamed B.named
  have hl := lv_entry av (n := n) hn
  rw [lg_entry_eq]
  generalize (lg_sl av ++ List.replicate (n - (lg_sl av).length) Slot.unset).toArray = ls at hl ⊢
  rw [hlv] at hl
  exact h (p, e, rmX F L, s, m, av.toArray, below, meth, c, 0, 0) ⟨B.exec, B.bytes, hml, hown, fun w hw => hts w (List.mem_cons_of_mem _ hw), hK, hY, B.notSynchronized, hN, Nat.le_refl _, Nat.le_refl _, Nat.le_refl _, Nat.le_refl _⟩ B.returns s.heap [] ls hP va_S.rf hl
theorem met_L {Y : Yx} {y : MethodName} {cc : ByteArray} {n : Nat} {F L : Nat} {av : List Value} {σ : Sg} {K : Int64 → Sg → Prop} (lv : List (Nat × Value)) (hY : YD Y) (hy : plainName y.cls = true) (hn : (lg_sl av).length ≤ n) (hlv : lv_args 0 av = lv)
    (h : ∀ X : Bx, Cx X Y cc n y.cls F L → (xh X).sig.returnType = (some .long) → St X Y n (QL X Y K) 0 lv [] σ) : MetL Y y cc n F L av σ K := by
  refine Met.ofW (cc := cc) (maxL := n) (ret := (some .long)) hy rfl ?_
  intro p e s m args below meth c s₁ B hml hv
  obtain ⟨rfl, hP, hK, hN⟩ := hv
  have hts := atoms_spec (ws := .code y cc n (some .long) :: TB) B.pre
  have hown : s.vm.findClass y.cls = some m.cls := findClass_of_methodNamed B.named
  have hl := lv_entry av (n := n) hn
  rw [lg_entry_eq]
  generalize (lg_sl av ++ List.replicate (n - (lg_sl av).length) Slot.unset).toArray = ls at hl ⊢
  rw [hlv] at hl
  exact h (p, e, rmX F L, s, m, av.toArray, below, meth, c, 0, 0) ⟨B.exec, B.bytes, hml, hown, fun w hw => hts w (List.mem_cons_of_mem _ hw), hK, hY, B.notSynchronized, hN, Nat.le_refl _, Nat.le_refl _, Nat.le_refl _, Nat.le_refl _⟩ B.returns s.heap [] ls hP va_S.rf hl
theorem met_V {Y : Yx} {y : MethodName} {cc : ByteArray} {n : Nat} {F L : Nat} {av : List Value} {σ : Sg} {K : Sg → Prop} (lv : List (Nat × Value)) (hY : YD Y) (hy : plainName y.cls = true) (hn : (lg_sl av).length ≤ n) (hlv : lv_args 0 av = lv)
    (h : ∀ X : Bx, Cx X Y cc n y.cls F L → (xh X).sig.returnType = none → St X Y n (QV X Y K) 0 lv [] σ) : MetV Y y cc n F L av σ K := by
  refine Met.ofW (cc := cc) (maxL := n) (ret := none) hy rfl ?_
  intro p e s m args below meth c s₁ B hml hv
  obtain ⟨rfl, hP, hK, hN⟩ := hv
  have hts := atoms_spec (ws := .code y cc n none :: TB) B.pre
  have hown : s.vm.findClass y.cls = some m.cls := findClass_of_methodNamed B.named
  have hl := lv_entry av (n := n) hn
  rw [lg_entry_eq]
  generalize (lg_sl av ++ List.replicate (n - (lg_sl av).length) Slot.unset).toArray = ls at hl ⊢
  rw [hlv] at hl
  exact h (p, e, rmX F L, s, m, av.toArray, below, meth, c, 0, 0) ⟨B.exec, B.bytes, hml, hown, fun w hw => hts w (List.mem_cons_of_mem _ hw), hK, hY, B.notSynchronized, hN, Nat.le_refl _, Nat.le_refl _, Nat.le_refl _, Nat.le_refl _⟩ B.returns s.heap [] ls hP va_S.rf hl
theorem met_R {Y : Yx} {y : MethodName} {cc : ByteArray} {n : Nat} {rt : FieldType} {F L : Nat} {av : List Value} {σ : Sg} {K : Nat → Sg → Prop} (lv : List (Nat × Value)) (hY : YD Y) (hy : plainName y.cls = true) (hn : (lg_sl av).length ≤ n) (hlv : lv_args 0 av = lv)
    (h : ∀ X : Bx, Cx X Y cc n y.cls F L → (xh X).sig.returnType = (some rt) → St X Y n (QR X Y K) 0 lv [] σ) : MetR Y y cc n rt F L av σ K := by
  refine Met.ofW (cc := cc) (maxL := n) (ret := (some rt)) hy rfl ?_
  intro p e s m args below meth c s₁ B hml hv
  obtain ⟨rfl, hP, hK, hN⟩ := hv
  have hts := atoms_spec (ws := .code y cc n (some rt) :: TB) B.pre
  have hown : s.vm.findClass y.cls = some m.cls := findClass_of_methodNamed B.named
  have hl := lv_entry av (n := n) hn
  rw [lg_entry_eq]
  generalize (lg_sl av ++ List.replicate (n - (lg_sl av).length) Slot.unset).toArray = ls at hl ⊢
  rw [hlv] at hl
  exact h (p, e, rmX F L, s, m, av.toArray, below, meth, c, 0, 0) ⟨B.exec, B.bytes, hml, hown, fun w hw => hts w (List.mem_cons_of_mem _ hw), hK, hY, B.notSynchronized, hN, Nat.le_refl _, Nat.le_refl _, Nat.le_refl _, Nat.le_refl _⟩ B.returns s.heap [] ls hP va_S.rf hl
