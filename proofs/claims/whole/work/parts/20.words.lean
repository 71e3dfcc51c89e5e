def mj_T0 : u_T := fun k => match k with
  | 0 => ("CourtHand$Court", "models", "LCourtHand$Models;", true)
  | 1 => ("CourtHand$Court", "age", "[I", true)
  | 2 => ("CourtHand$Court", "ink", "[I", true)
  | 3 => ("CourtHand$Court", "forms", "[I", true)
  | 4 => ("CourtHand$Court", "faults", "[I", true)
  | 5 => ("CourtHand$Court", "ranks", "[I", true)
  | 6 => ("CourtHand$Court", "told", "I", false)
  | 7 => ("CourtHand$Court", "moon", "I", false)
  | 8 => ("CourtHand$Court", "x", "I", false)
  | 9 => ("CourtHand$Court", "mended", "I", false)
  | 10 => ("CourtHand$Court", "spoiled", "I", false)
  | _ => ("CourtHand$Court", "used", "I", false)
def mj_ty0 : Nat → FieldType := fun k => match k with
  | 0 => .object "CourtHand$Models"
  | 1 => .array .int
  | 2 => .array .int
  | 3 => .array .int
  | 4 => .array .int
  | 5 => .array .int
  | 6 => .int
  | 7 => .int
  | 8 => .int
  | 9 => .int
  | 10 => .int
  | _ => .int
theorem mj_ty0_ok : ∀ k, k < 12 → parseFieldDescriptor (mj_T0 k).2.2.1 = some (mj_ty0 k) := by decide +kernel
theorem mj_nm0 : ∀ a, a < 12 → ∀ b, b < 12 → a ≠ b → (mj_T0 a).2.1 ≠ (mj_T0 b).2.1 := by decide +kernel
def mj_T1 : u_T := fun k => match k with
  | 0 => ("CourtHand$Law", "code", "[I", true)
  | 1 => ("CourtHand$Law", "stack", "[I", true)
  | 2 => ("CourtHand$Law", "known", "[I", true)
  | 3 => ("CourtHand$Law", "kinds", "[I", true)
  | 4 => ("CourtHand$Law", "amounts", "[I", true)
  | 5 => ("CourtHand$Law", "conditions", "[I", true)
  | 6 => ("CourtHand$Law", "length", "I", false)
  | _ => ("CourtHand$Law", "rules", "I", false)
def mj_ty1 : Nat → FieldType := fun k => match k with
  | 0 => .array .int
  | 1 => .array .int
  | 2 => .array .int
  | 3 => .array .int
  | 4 => .array .int
  | 5 => .array .int
  | 6 => .int
  | _ => .int
theorem mj_ty1_ok : ∀ k, k < 8 → parseFieldDescriptor (mj_T1 k).2.2.1 = some (mj_ty1 k) := by decide +kernel
theorem mj_nm1 : ∀ a, a < 8 → ∀ b, b < 8 → a ≠ b → (mj_T1 a).2.1 ≠ (mj_T1 b).2.1 := by decide +kernel
def mj_T2 : u_T := fun k => match k with
  | 0 => ("CourtHand$LawReader", "tape", "LCourtHand$Tape;", true)
  | 1 => ("CourtHand$LawReader", "draft", "LCourtHand$Law;", false)
  | 2 => ("CourtHand$LawReader", "end", "I", false)
  | 3 => ("CourtHand$LawReader", "at", "I", false)
  | _ => ("CourtHand$LawReader", "wrong", "I", false)
def mj_ty2 : Nat → FieldType := fun k => match k with
  | 0 => .object "CourtHand$Tape"
  | 1 => .object "CourtHand$Law"
  | 2 => .int
  | 3 => .int
  | _ => .int
theorem mj_ty2_ok : ∀ k, k < 5 → parseFieldDescriptor (mj_T2 k).2.2.1 = some (mj_ty2 k) := by decide +kernel
theorem mj_nm2 : ∀ a, a < 5 → ∀ b, b < 5 → a ≠ b → (mj_T2 a).2.1 ≠ (mj_T2 b).2.1 := by decide +kernel
def mj_T3 : u_T := fun k => match k with
  | 0 => ("CourtHand$Models", "grids", "[I", true)
  | _ => ("CourtHand$Models", "told", "I", false)
def mj_ty3 : Nat → FieldType := fun k => match k with
  | 0 => .array .int
  | _ => .int
theorem mj_ty3_ok : ∀ k, k < 2 → parseFieldDescriptor (mj_T3 k).2.2.1 = some (mj_ty3 k) := by decide +kernel
theorem mj_nm3 : ∀ a, a < 2 → ∀ b, b < 2 → a ≠ b → (mj_T3 a).2.1 ≠ (mj_T3 b).2.1 := by decide +kernel
def mj_T4 : u_T := fun k => match k with
  | 0 => ("CourtHand$Order", "letters", "[I", true)
  | 1 => ("CourtHand$Order", "draft", "[I", true)
  | 2 => ("CourtHand$Order", "openPlace", "[I", true)
  | 3 => ("CourtHand$Order", "openMade", "[I", true)
  | 4 => ("CourtHand$Order", "length", "I", false)
  | 5 => ("CourtHand$Order", "made", "I", false)
  | _ => ("CourtHand$Order", "open", "I", false)
def mj_ty4 : Nat → FieldType := fun k => match k with
  | 0 => .array .int
  | 1 => .array .int
  | 2 => .array .int
  | 3 => .array .int
  | 4 => .int
  | 5 => .int
  | _ => .int
theorem mj_ty4_ok : ∀ k, k < 7 → parseFieldDescriptor (mj_T4 k).2.2.1 = some (mj_ty4 k) := by decide +kernel
theorem mj_nm4 : ∀ a, a < 7 → ∀ b, b < 7 → a ≠ b → (mj_T4 a).2.1 ≠ (mj_T4 b).2.1 := by decide +kernel
def mj_T5 : u_T := fun k => match k with
  | 0 => ("CourtHand$Tape", "bytes", "[I", true)
  | _ => ("CourtHand$Tape", "length", "I", false)
def mj_ty5 : Nat → FieldType := fun k => match k with
  | 0 => .array .int
  | _ => .int
theorem mj_ty5_ok : ∀ k, k < 2 → parseFieldDescriptor (mj_T5 k).2.2.1 = some (mj_ty5 k) := by decide +kernel
theorem mj_nm5 : ∀ a, a < 2 → ∀ b, b < 2 → a ≠ b → (mj_T5 a).2.1 ≠ (mj_T5 b).2.1 := by decide +kernel
def mj_T6 : u_T := fun k => match k with
  | 0 => ("CourtHand", "models", "LCourtHand$Models;", true)
  | 1 => ("CourtHand", "court", "LCourtHand$Court;", true)
  | 2 => ("CourtHand", "kept", "LCourtHand$Court;", true)
  | 3 => ("CourtHand", "trial", "LCourtHand$Court;", true)
  | 4 => ("CourtHand", "tape", "LCourtHand$Tape;", true)
  | 5 => ("CourtHand", "sheet", "LCourtHand$Order;", true)
  | 6 => ("CourtHand", "reader", "LCourtHand$LawReader;", true)
  | 7 => ("CourtHand", "near", "[I", true)
  | 8 => ("CourtHand", "copy", "[I", true)
  | 9 => ("CourtHand", "ruling", "LCourtHand$Law;", false)
  | _ => ("CourtHand", "isKept", "Z", false)
def mj_ty6 : Nat → FieldType := fun k => match k with
  | 0 => .object "CourtHand$Models"
  | 1 => .object "CourtHand$Court"
  | 2 => .object "CourtHand$Court"
  | 3 => .object "CourtHand$Court"
  | 4 => .object "CourtHand$Tape"
  | 5 => .object "CourtHand$Order"
  | 6 => .object "CourtHand$LawReader"
  | 7 => .array .int
  | 8 => .array .int
  | 9 => .object "CourtHand$Law"
  | _ => .boolean
theorem mj_ty6_ok : ∀ k, k < 11 → parseFieldDescriptor (mj_T6 k).2.2.1 = some (mj_ty6 k) := by decide +kernel
theorem mj_nm6 : ∀ a, a < 11 → ∀ b, b < 11 → a ≠ b → (mj_T6 a).2.1 ≠ (mj_T6 b).2.1 := by decide +kernel
def mj_T7 : u_T := fun k => match k with
  | 0 => ("CourtHandModel", "now", "[I", true)
  | 1 => ("CourtHandModel", "aside", "[I", true)
  | 2 => ("CourtHandModel", "kept", "[I", true)
  | 3 => ("CourtHandModel", "modelNow", "[I", true)
  | 4 => ("CourtHandModel", "tape", "[B", true)
  | 5 => ("CourtHandModel", "taped", "I", false)
  | 6 => ("CourtHandModel", "place0", "I", false)
  | 7 => ("CourtHandModel", "length0", "I", false)
  | 8 => ("CourtHandModel", "fault", "I", false)
  | 9 => ("CourtHandModel", "number0", "I", false)
  | 10 => ("CourtHandModel", "open", "I", false)
  | 11 => ("CourtHandModel", "codeMany", "I", false)
  | 12 => ("CourtHandModel", "waiting", "I", false)
  | 13 => ("CourtHandModel", "saidMany", "I", false)
  | 14 => ("CourtHandModel", "clauses", "I", false)
  | 15 => ("CourtHandModel", "said", "[I", true)
  | 16 => ("CourtHandModel", "waitsAt", "[I", true)
  | 17 => ("CourtHandModel", "saidLetter", "[I", true)
  | 18 => ("CourtHandModel", "saidFrom", "[I", true)
  | 19 => ("CourtHandModel", "saidHalf", "[I", true)
  | 20 => ("CourtHandModel", "saidTo", "[I", true)
  | 21 => ("CourtHandModel", "codes", "[I", true)
  | 22 => ("CourtHandModel", "clauseOf", "[I", true)
  | 23 => ("CourtHandModel", "codeFrom", "[I", true)
  | 24 => ("CourtHandModel", "codeHalf", "[I", true)
  | 25 => ("CourtHandModel", "codeTo", "[I", true)
  | 26 => ("CourtHandModel", "stack", "[I", true)
  | 27 => ("CourtHandModel", "facts", "[I", true)
  | 28 => ("CourtHandModel", "orderNow", "[I", true)
  | 29 => ("CourtHandModel", "newOrder", "[I", true)
  | 30 => ("CourtHandModel", "roundFrom", "[I", true)
  | 31 => ("CourtHandModel", "roundAt", "[I", true)
  | 32 => ("CourtHandModel", "orderMany", "I", false)
  | 33 => ("CourtHandModel", "newMany", "I", false)
  | 34 => ("CourtHandModel", "rounds", "I", false)
  | 35 => ("CourtHandModel", "lines", "I", false)
  | 36 => ("CourtHandModel", "rankAhead", "[I", true)
  | 37 => ("CourtHandModel", "mended", "I", false)
  | 38 => ("CourtHandModel", "spoiled", "I", false)
  | 39 => ("CourtHandModel", "inkUsed", "I", false)
  | 40 => ("CourtHandModel", "copyNow", "[I", true)
  | 41 => ("CourtHandModel", "bestDots", "I", false)
  | 42 => ("CourtHandModel", "bestMany", "I", false)
  | 43 => ("CourtHandModel", "sheet", "[I", true)
  | 44 => ("CourtHandModel", "rankNow", "[I", true)
  | _ => ("CourtHandModel", "isKept", "Z", false)
def mj_ty7 : Nat → FieldType := fun k => match k with
  | 0 => .array .int
  | 1 => .array .int
  | 2 => .array .int
  | 3 => .array .int
  | 4 => .array .byte
  | 5 => .int
  | 6 => .int
  | 7 => .int
  | 8 => .int
  | 9 => .int
  | 10 => .int
  | 11 => .int
  | 12 => .int
  | 13 => .int
  | 14 => .int
  | 15 => .array .int
  | 16 => .array .int
  | 17 => .array .int
  | 18 => .array .int
  | 19 => .array .int
  | 20 => .array .int
  | 21 => .array .int
  | 22 => .array .int
  | 23 => .array .int
  | 24 => .array .int
  | 25 => .array .int
  | 26 => .array .int
  | 27 => .array .int
  | 28 => .array .int
  | 29 => .array .int
  | 30 => .array .int
  | 31 => .array .int
  | 32 => .int
  | 33 => .int
  | 34 => .int
  | 35 => .int
  | 36 => .array .int
  | 37 => .int
  | 38 => .int
  | 39 => .int
  | 40 => .array .int
  | 41 => .int
  | 42 => .int
  | 43 => .array .int
  | 44 => .array .int
  | _ => .boolean
theorem mj_ty7_ok : ∀ k, k < 46 → parseFieldDescriptor (mj_T7 k).2.2.1 = some (mj_ty7 k) := by decide +kernel
theorem mj_nm7 : ∀ a, a < 46 → ∀ b, b < 46 → a ≠ b → (mj_T7 a).2.1 ≠ (mj_T7 b).2.1 := by decide +kernel
def mj_cl : List vw_C := [("CourtHand$Court", mj_T0, 12), ("CourtHand$Law", mj_T1, 8), ("CourtHand$LawReader", mj_T2, 5), ("CourtHand$Models", mj_T3, 2), ("CourtHand$Order", mj_T4, 7), ("CourtHand$Tape", mj_T5, 2), ("CourtHand", mj_T6, 11), ("CourtHandModel", mj_T7, 46)]
def mj_w0 : List Cond := lw_tbl.filter goodWord
theorem mj_w0_in {w : Cond} (i : Nat) (h : lw_tbl[i]? = some w) (hg : goodWord w = true) : w ∈ mj_w0 := List.mem_filter.mpr ⟨List.mem_of_getElem? h, hg⟩
theorem mj_in0 : ∀ w ∈ u_ws "CourtHand$Court" mj_T0 12, w ∈ mj_w0 := by
  have h1 : u_ws "CourtHand$Court" mj_T0 12 = ([162, 164, 166, 168, 170, 172, 174, 176, 178, 180, 182, 184] : List Nat).filterMap (fun i => lw_tbl[i]?) := by decide +kernel
  have h2 : (u_ws "CourtHand$Court" mj_T0 12).all goodWord = true := by decide +kernel
  intro w hw
  have h3 := List.all_eq_true.mp h2 w hw
  rw [h1] at hw
  obtain ⟨i, -, hi⟩ := List.mem_filterMap.mp hw
  exact mj_w0_in i hi h3
theorem mj_in1 : ∀ w ∈ u_ws "CourtHand$Law" mj_T1 8, w ∈ mj_w0 := by
  have h1 : u_ws "CourtHand$Law" mj_T1 8 = ([254, 256, 258, 260, 262, 264, 266, 268] : List Nat).filterMap (fun i => lw_tbl[i]?) := by decide +kernel
  have h2 : (u_ws "CourtHand$Law" mj_T1 8).all goodWord = true := by decide +kernel
  intro w hw
  have h3 := List.all_eq_true.mp h2 w hw
  rw [h1] at hw
  obtain ⟨i, -, hi⟩ := List.mem_filterMap.mp hw
  exact mj_w0_in i hi h3
theorem mj_in2 : ∀ w ∈ u_ws "CourtHand$LawReader" mj_T2 5, w ∈ mj_w0 := by
  have h1 : u_ws "CourtHand$LawReader" mj_T2 5 = ([276, 278, 280, 282, 284] : List Nat).filterMap (fun i => lw_tbl[i]?) := by decide +kernel
  have h2 : (u_ws "CourtHand$LawReader" mj_T2 5).all goodWord = true := by decide +kernel
  intro w hw
  have h3 := List.all_eq_true.mp h2 w hw
  rw [h1] at hw
  obtain ⟨i, -, hi⟩ := List.mem_filterMap.mp hw
  exact mj_w0_in i hi h3
theorem mj_in3 : ∀ w ∈ u_ws "CourtHand$Models" mj_T3 2, w ∈ mj_w0 := by
  have h1 : u_ws "CourtHand$Models" mj_T3 2 = ([125, 127] : List Nat).filterMap (fun i => lw_tbl[i]?) := by decide +kernel
  have h2 : (u_ws "CourtHand$Models" mj_T3 2).all goodWord = true := by decide +kernel
  intro w hw
  have h3 := List.all_eq_true.mp h2 w hw
  rw [h1] at hw
  obtain ⟨i, -, hi⟩ := List.mem_filterMap.mp hw
  exact mj_w0_in i hi h3
theorem mj_in4 : ∀ w ∈ u_ws "CourtHand$Order" mj_T4 7, w ∈ mj_w0 := by
  have h1 : u_ws "CourtHand$Order" mj_T4 7 = ([216, 218, 220, 222, 224, 226, 228] : List Nat).filterMap (fun i => lw_tbl[i]?) := by decide +kernel
  have h2 : (u_ws "CourtHand$Order" mj_T4 7).all goodWord = true := by decide +kernel
  intro w hw
  have h3 := List.all_eq_true.mp h2 w hw
  rw [h1] at hw
  obtain ⟨i, -, hi⟩ := List.mem_filterMap.mp hw
  exact mj_w0_in i hi h3
theorem mj_in5 : ∀ w ∈ u_ws "CourtHand$Tape" mj_T5 2, w ∈ mj_w0 := by
  have h1 : u_ws "CourtHand$Tape" mj_T5 2 = ([196, 198] : List Nat).filterMap (fun i => lw_tbl[i]?) := by decide +kernel
  have h2 : (u_ws "CourtHand$Tape" mj_T5 2).all goodWord = true := by decide +kernel
  intro w hw
  have h3 := List.all_eq_true.mp h2 w hw
  rw [h1] at hw
  obtain ⟨i, -, hi⟩ := List.mem_filterMap.mp hw
  exact mj_w0_in i hi h3
theorem mj_in6 : ∀ w ∈ u_ws "CourtHand" mj_T6 11, w ∈ mj_w0 := by
  have h1 : u_ws "CourtHand" mj_T6 11 = ([300, 302, 304, 306, 308, 310, 312, 314, 316, 318, 320] : List Nat).filterMap (fun i => lw_tbl[i]?) := by decide +kernel
  have h2 : (u_ws "CourtHand" mj_T6 11).all goodWord = true := by decide +kernel
  intro w hw
  have h3 := List.all_eq_true.mp h2 w hw
  rw [h1] at hw
  obtain ⟨i, -, hi⟩ := List.mem_filterMap.mp hw
  exact mj_w0_in i hi h3
theorem mj_in7 : ∀ w ∈ u_ws "CourtHandModel" mj_T7 46, w ∈ mj_w0 := by
  have h1 : u_ws "CourtHandModel" mj_T7 46 = ([1001, 1003, 1005, 1007, 1009, 1011, 1013, 1015, 1017, 1019, 1021, 1023, 1025, 1027, 1029, 1031, 1033, 1035, 1037, 1039, 1041, 1043, 1045, 1047, 1049, 1051, 1053, 1055, 1057, 1059, 1061, 1063, 1065, 1067, 1069, 1071, 1073, 1075, 1077, 1079, 1081, 1083, 1085, 1087, 1089, 1091] : List Nat).filterMap (fun i => lw_tbl[i]?) := by decide +kernel
  have h2 : (u_ws "CourtHandModel" mj_T7 46).all goodWord = true := by decide +kernel
  intro w hw
  have h3 := List.all_eq_true.mp h2 w hw
  rw [h1] at hw
  obtain ⟨i, -, hi⟩ := List.mem_filterMap.mp hw
  exact mj_w0_in i hi h3
def mj_tyC (c : Nat) : Nat → FieldType := match c with
  | 0 => mj_ty0
  | 1 => mj_ty1
  | 2 => mj_ty2
  | 3 => mj_ty3
  | 4 => mj_ty4
  | 5 => mj_ty5
  | 6 => mj_ty6
  | _ => mj_ty7
theorem mj_cls {ci : Nat} {q : vw_C} (h : mj_cl[ci]? = some q) : (∀ w ∈ u_ws q.1 q.2.1 q.2.2, w ∈ mj_w0) ∧ (∀ k, k < q.2.2 → parseFieldDescriptor (q.2.1 k).2.2.1 = some (mj_tyC ci k)) ∧ (∀ a, a < q.2.2 → ∀ b, b < q.2.2 → a ≠ b → (q.2.1 a).2.1 ≠ (q.2.1 b).2.1) ∧ q.2.2 = mj_nf ci := by
  match ci, h with
  | 0, h => cases h; exact ⟨mj_in0, mj_ty0_ok, mj_nm0, rfl⟩
  | 1, h => cases h; exact ⟨mj_in1, mj_ty1_ok, mj_nm1, rfl⟩
  | 2, h => cases h; exact ⟨mj_in2, mj_ty2_ok, mj_nm2, rfl⟩
  | 3, h => cases h; exact ⟨mj_in3, mj_ty3_ok, mj_nm3, rfl⟩
  | 4, h => cases h; exact ⟨mj_in4, mj_ty4_ok, mj_nm4, rfl⟩
  | 5, h => cases h; exact ⟨mj_in5, mj_ty5_ok, mj_nm5, rfl⟩
  | 6, h => cases h; exact ⟨mj_in6, mj_ty6_ok, mj_nm6, rfl⟩
  | 7, h => cases h; exact ⟨mj_in7, mj_ty7_ok, mj_nm7, rfl⟩
  | k + 8, h => exact absurd h (by simp [mj_cl])
def mj_fck (e : Nat × Nat × Nat × Nat × Nat × Nat) : Bool := match mj_cl[e.2.2.1]? with
  | some q => decide (e.2.2.2.1 < q.2.2) && decide (lw_tbl[e.2.2.2.2.2]? = some (.fieldLink (mj_cn e.1) e.2.1 q.1 (q.2.1 e.2.2.2.1).2.1 (q.2.1 e.2.2.2.1).2.2.1)) && decide ((q.2.1 e.2.2.2.1).1 = q.1) && decide (e.2.2.2.2.1 = mj_fk e.2.2.1 e.2.2.2.1) && (decide (e.2.2.2.2.1 = 1) || !(q.2.1 e.2.2.2.1).2.2.2) && (decide (e.2.2.2.2.1 ≠ 0) || decide (mj_tyC e.2.2.1 e.2.2.2.1 = .int)) && (decide (e.2.2.2.2.1 ≠ 3) || decide (mj_tyC e.2.2.1 e.2.2.2.1 = .boolean)) && (decide (e.2.2.2.2.1 ≠ 2) || decide (mj_tyC e.2.2.1 e.2.2.2.1 = .object "CourtHand$Law")) && decide (e.2.2.2.2.1 ≤ 3) && decide (e.2.2.1 < 8)
  | none => decide (e.2.2.1 = 14) && ((decide (e.2.2.2.2.1 = 4) && decide (lw_tbl[e.2.2.2.2.2]? = some (.fieldLink (mj_cn e.1) e.2.1 "java/lang/String" "value" "[B"))) || (decide (e.2.2.2.2.1 = 5) && decide (lw_tbl[e.2.2.2.2.2]? = some (.fieldLink (mj_cn e.1) e.2.1 "java/lang/String" "coder" "B"))))
theorem mj_f_ok : mj_fTab.all mj_fck = true := by decide +kernel
def mj_cck (e : Nat × Nat × Nat × Nat × Nat) : Bool := if e.2.2.1 = 5 then decide (lw_tbl[e.2.2.2.2]? = some (.methodLink (mj_cn e.1) e.2.1 Lib.Math.max.name)) else if e.2.2.1 = 6 then decide (lw_tbl[e.2.2.2.2]? = some (.methodLink (mj_cn e.1) e.2.1 Lib.Math.min.name)) else if e.2.2.1 = 3 then decide (lw_tbl[e.2.2.2.2]? = some (.methodLink (mj_cn e.1) e.2.1 arraycopyName)) else match mj_tab[e.2.2.2.1]? with
  | some me => if e.2.2.1 = 2 then decide (lw_tbl[e.2.2.2.2]? = some (.methodLinkNest (mj_cn e.1) e.2.1 me.2.2.2.2.1 "CourtHand")) && decide (me.2.2.2.2.1 = ⟨"CourtHand", "fault", "(II)I"⟩) && decide ((e.1 = 2 ∧ e.2.1 = 55) ∨ (e.1 = 4 ∧ e.2.1 = 52) ∨ (e.1 = 8 ∧ e.2.1 = 25)) else decide (lw_tbl[e.2.2.2.2]? = some (.methodLink (mj_cn e.1) e.2.1 me.2.2.2.2.1))
  | none => false
theorem mj_c_ok : mj_cTab.all mj_cck = true := by decide +kernel
def mj_kck (e : Nat × Nat × Int32 × Nat) : Bool := decide (lw_tbl[e.2.2.2]? = some (.constant (mj_cn e.1) e.2.1 e.2.2.1))
theorem mj_k_ok : mj_kTab.all mj_kck = true := by decide +kernel
def mj_sck (e : Nat × Nat × Nat) : Bool := decide (lw_tbl[e.2.2]? = some (.fieldLink (mj_cn e.1) e.2.1 "java/lang/String" "COMPACT_STRINGS" "Z"))
theorem mj_s_ok : mj_sTab.all mj_sck = true := by decide +kernel
def mj_mck (me : mj_I) : Bool := if me.1 = 10 then true else decide (me.2.2.2.2.1.cls = mj_cn me.1) && decide (me.2.2.1 ≤ 21) && decide ((parseMethodDescriptor me.2.2.2.2.1.desc).map (fun d => d.parameters.length) = some me.2.2.2.2.2.1) && plainName me.2.2.2.2.1.cls && decide (me.2.2.2.2.1.cls ≠ "java/lang/invoke/MethodHandle") && decide (me.2.2.2.2.1.cls ≠ "java/lang/invoke/VarHandle") && decide ((if me.2.2.2.2.2.2.1 = 100 then me.2.2.2.2.2.1 else me.2.2.2.2.2.1 + 1) ≤ me.2.2.1) && (match me.2.2.2.2.2.2.2 with
  | [a, b, c, d] => (if me.2.2.2.2.2.2.1 = 100 then decide (lw_tbl[b]? = some (.static me.2.2.2.2.1)) else decide (lw_tbl[b]? = some (.instanceMethod me.2.2.2.2.1)) && decide (lw_tbl[c]? = some (.selects me.2.2.2.2.1.cls me.2.2.2.2.1 me.2.2.2.2.1)) && decide (me.2.2.2.2.2.2.1 = me.1)) && decide (lw_tbl[d]? = some (.initialized me.2.2.2.2.1.cls))
  | _ => false)
def mj_cdk (me : mj_I) : Prop := me.1 = 10 ∨ lw_tbl[me.2.2.2.2.2.2.2.headD 0]? = some (.code me.2.2.2.2.1 me.2.1 me.2.2.1 me.2.2.2.1)
set_option maxRecDepth 100000 in
theorem mcd_0 : mj_cdk mj_r0 := Or.inr rfl
set_option maxRecDepth 100000 in
theorem mcd_1 : mj_cdk mj_r1 := Or.inr rfl
set_option maxRecDepth 100000 in
theorem mcd_2 : mj_cdk mj_r2 := Or.inr rfl
set_option maxRecDepth 100000 in
theorem mcd_3 : mj_cdk mj_r3 := Or.inr rfl
set_option maxRecDepth 100000 in
theorem mcd_4 : mj_cdk mj_r4 := Or.inr rfl
set_option maxRecDepth 100000 in
theorem mcd_5 : mj_cdk mj_r5 := Or.inr rfl
set_option maxRecDepth 100000 in
theorem mcd_6 : mj_cdk mj_r6 := Or.inr rfl
set_option maxRecDepth 100000 in
theorem mcd_7 : mj_cdk mj_r7 := Or.inr rfl
set_option maxRecDepth 100000 in
theorem mcd_8 : mj_cdk mj_r8 := Or.inr rfl
set_option maxRecDepth 100000 in
theorem mcd_9 : mj_cdk mj_r9 := Or.inr rfl
set_option maxRecDepth 100000 in
theorem mcd_10 : mj_cdk mj_r10 := Or.inr rfl
set_option maxRecDepth 100000 in
theorem mcd_11 : mj_cdk mj_r11 := Or.inr rfl
set_option maxRecDepth 100000 in
theorem mcd_12 : mj_cdk mj_r12 := Or.inr rfl
set_option maxRecDepth 100000 in
theorem mcd_13 : mj_cdk mj_r13 := Or.inr rfl
set_option maxRecDepth 100000 in
theorem mcd_14 : mj_cdk mj_r14 := Or.inr rfl
set_option maxRecDepth 100000 in
theorem mcd_15 : mj_cdk mj_r15 := Or.inr rfl
set_option maxRecDepth 100000 in
theorem mcd_16 : mj_cdk mj_r16 := Or.inr rfl
set_option maxRecDepth 100000 in
theorem mcd_17 : mj_cdk mj_r17 := Or.inr rfl
set_option maxRecDepth 100000 in
theorem mcd_18 : mj_cdk mj_r18 := Or.inr rfl
set_option maxRecDepth 100000 in
theorem mcd_19 : mj_cdk mj_r19 := Or.inr rfl
set_option maxRecDepth 100000 in
theorem mcd_20 : mj_cdk mj_r20 := Or.inr rfl
set_option maxRecDepth 100000 in
theorem mcd_21 : mj_cdk mj_r21 := Or.inr rfl
set_option maxRecDepth 100000 in
theorem mcd_22 : mj_cdk mj_r22 := Or.inr rfl
set_option maxRecDepth 100000 in
theorem mcd_23 : mj_cdk mj_r23 := Or.inr rfl
set_option maxRecDepth 100000 in
theorem mcd_24 : mj_cdk mj_r24 := Or.inr rfl
set_option maxRecDepth 100000 in
theorem mcd_25 : mj_cdk mj_r25 := Or.inr rfl
set_option maxRecDepth 100000 in
theorem mcd_26 : mj_cdk mj_r26 := Or.inr rfl
set_option maxRecDepth 100000 in
theorem mcd_27 : mj_cdk mj_r27 := Or.inr rfl
set_option maxRecDepth 100000 in
theorem mcd_28 : mj_cdk mj_r28 := Or.inr rfl
set_option maxRecDepth 100000 in
theorem mcd_29 : mj_cdk mj_r29 := Or.inr rfl
set_option maxRecDepth 100000 in
theorem mcd_30 : mj_cdk mj_r30 := Or.inr rfl
set_option maxRecDepth 100000 in
theorem mcd_31 : mj_cdk mj_r31 := Or.inr rfl
set_option maxRecDepth 100000 in
theorem mcd_32 : mj_cdk mj_r32 := Or.inr rfl
set_option maxRecDepth 100000 in
theorem mcd_33 : mj_cdk mj_r33 := Or.inr rfl
set_option maxRecDepth 100000 in
theorem mcd_34 : mj_cdk mj_r34 := Or.inr rfl
set_option maxRecDepth 100000 in
theorem mcd_35 : mj_cdk mj_r35 := Or.inr rfl
set_option maxRecDepth 100000 in
theorem mcd_36 : mj_cdk mj_r36 := Or.inr rfl
set_option maxRecDepth 100000 in
theorem mcd_37 : mj_cdk mj_r37 := Or.inr rfl
set_option maxRecDepth 100000 in
theorem mcd_38 : mj_cdk mj_r38 := Or.inr rfl
set_option maxRecDepth 100000 in
theorem mcd_39 : mj_cdk mj_r39 := Or.inr rfl
set_option maxRecDepth 100000 in
theorem mcd_40 : mj_cdk mj_r40 := Or.inr rfl
set_option maxRecDepth 100000 in
theorem mcd_41 : mj_cdk mj_r41 := Or.inr rfl
set_option maxRecDepth 100000 in
theorem mcd_42 : mj_cdk mj_r42 := Or.inr rfl
set_option maxRecDepth 100000 in
theorem mcd_43 : mj_cdk mj_r43 := Or.inr rfl
set_option maxRecDepth 100000 in
theorem mcd_44 : mj_cdk mj_r44 := Or.inr rfl
set_option maxRecDepth 100000 in
theorem mcd_45 : mj_cdk mj_r45 := Or.inr rfl
set_option maxRecDepth 100000 in
theorem mcd_46 : mj_cdk mj_r46 := Or.inr rfl
set_option maxRecDepth 100000 in
theorem mcd_47 : mj_cdk mj_r47 := Or.inr rfl
set_option maxRecDepth 100000 in
theorem mcd_48 : mj_cdk mj_r48 := Or.inr rfl
set_option maxRecDepth 100000 in
theorem mcd_49 : mj_cdk mj_r49 := Or.inr rfl
set_option maxRecDepth 100000 in
theorem mcd_50 : mj_cdk mj_r50 := Or.inr rfl
set_option maxRecDepth 100000 in
theorem mcd_51 : mj_cdk mj_r51 := Or.inr rfl
set_option maxRecDepth 100000 in
theorem mcd_52 : mj_cdk mj_r52 := Or.inr rfl
set_option maxRecDepth 100000 in
theorem mcd_53 : mj_cdk mj_r53 := Or.inr rfl
set_option maxRecDepth 100000 in
theorem mcd_54 : mj_cdk mj_r54 := Or.inr rfl
set_option maxRecDepth 100000 in
theorem mcd_55 : mj_cdk mj_r55 := Or.inr rfl
set_option maxRecDepth 100000 in
theorem mcd_56 : mj_cdk mj_r56 := Or.inr rfl
set_option maxRecDepth 100000 in
theorem mcd_57 : mj_cdk mj_r57 := Or.inr rfl
set_option maxRecDepth 100000 in
theorem mcd_58 : mj_cdk mj_r58 := Or.inr rfl
set_option maxRecDepth 100000 in
theorem mcd_59 : mj_cdk mj_r59 := Or.inr rfl
set_option maxRecDepth 100000 in
theorem mcd_60 : mj_cdk mj_r60 := Or.inr rfl
set_option maxRecDepth 100000 in
theorem mcd_61 : mj_cdk mj_r61 := Or.inr rfl
set_option maxRecDepth 100000 in
theorem mcd_62 : mj_cdk mj_r62 := Or.inr rfl
set_option maxRecDepth 100000 in
theorem mcd_63 : mj_cdk mj_r63 := Or.inr rfl
set_option maxRecDepth 100000 in
theorem mcd_64 : mj_cdk mj_r64 := Or.inr rfl
set_option maxRecDepth 100000 in
theorem mcd_65 : mj_cdk mj_r65 := Or.inr rfl
set_option maxRecDepth 100000 in
theorem mcd_66 : mj_cdk mj_r66 := Or.inr rfl
set_option maxRecDepth 100000 in
theorem mcd_67 : mj_cdk mj_r67 := Or.inr rfl
set_option maxRecDepth 100000 in
theorem mcd_68 : mj_cdk mj_r68 := Or.inr rfl
set_option maxRecDepth 100000 in
theorem mcd_69 : mj_cdk mj_r69 := Or.inr rfl
set_option maxRecDepth 100000 in
theorem mcd_70 : mj_cdk mj_r70 := Or.inr rfl
set_option maxRecDepth 100000 in
theorem mcd_71 : mj_cdk mj_r71 := Or.inr rfl
set_option maxRecDepth 100000 in
theorem mcd_72 : mj_cdk mj_r72 := Or.inr rfl
set_option maxRecDepth 100000 in
theorem mcd_73 : mj_cdk mj_r73 := Or.inr rfl
set_option maxRecDepth 100000 in
theorem mcd_74 : mj_cdk mj_r74 := Or.inr rfl
set_option maxRecDepth 100000 in
theorem mcd_75 : mj_cdk mj_r75 := Or.inr rfl
set_option maxRecDepth 100000 in
theorem mcd_76 : mj_cdk mj_r76 := Or.inr rfl
set_option maxRecDepth 100000 in
theorem mcd_77 : mj_cdk mj_r77 := Or.inr rfl
set_option maxRecDepth 100000 in
theorem mcd_78 : mj_cdk mj_r78 := Or.inr rfl
set_option maxRecDepth 100000 in
theorem mcd_79 : mj_cdk mj_r79 := Or.inr rfl
set_option maxRecDepth 100000 in
theorem mcd_80 : mj_cdk mj_r80 := Or.inr rfl
set_option maxRecDepth 100000 in
theorem mcd_81 : mj_cdk mj_r81 := Or.inr rfl
set_option maxRecDepth 100000 in
theorem mcd_82 : mj_cdk mj_r82 := Or.inr rfl
set_option maxRecDepth 100000 in
theorem mcd_83 : mj_cdk mj_r83 := Or.inr rfl
set_option maxRecDepth 100000 in
theorem mcd_84 : mj_cdk mj_r84 := Or.inr rfl
set_option maxRecDepth 100000 in
theorem mcd_85 : mj_cdk mj_r85 := Or.inr rfl
set_option maxRecDepth 100000 in
theorem mcd_86 : mj_cdk mj_r86 := Or.inr rfl
set_option maxRecDepth 100000 in
theorem mcd_87 : mj_cdk mj_r87 := Or.inr rfl
set_option maxRecDepth 100000 in
theorem mcd_88 : mj_cdk mj_r88 := Or.inr rfl
set_option maxRecDepth 100000 in
theorem mcd_89 : mj_cdk mj_r89 := Or.inr rfl
set_option maxRecDepth 100000 in
theorem mcd_90 : mj_cdk mj_r90 := Or.inr rfl
set_option maxRecDepth 100000 in
theorem mcd_91 : mj_cdk mj_r91 := Or.inr rfl
set_option maxRecDepth 100000 in
theorem mcd_92 : mj_cdk mj_r92 := Or.inr rfl
set_option maxRecDepth 100000 in
theorem mcd_93 : mj_cdk mj_r93 := Or.inr rfl
set_option maxRecDepth 100000 in
theorem mcd_94 : mj_cdk mj_r94 := Or.inr rfl
set_option maxRecDepth 100000 in
theorem mcd_95 : mj_cdk mj_r95 := Or.inr rfl
set_option maxRecDepth 100000 in
theorem mcd_96 : mj_cdk mj_r96 := Or.inr rfl
set_option maxRecDepth 100000 in
theorem mcd_97 : mj_cdk mj_r97 := Or.inr rfl
set_option maxRecDepth 100000 in
theorem mcd_98 : mj_cdk mj_r98 := Or.inr rfl
set_option maxRecDepth 100000 in
theorem mcd_99 : mj_cdk mj_r99 := Or.inr rfl
set_option maxRecDepth 100000 in
theorem mcd_100 : mj_cdk mj_r100 := Or.inr rfl
set_option maxRecDepth 100000 in
theorem mcd_101 : mj_cdk mj_r101 := Or.inr rfl
set_option maxRecDepth 100000 in
theorem mcd_102 : mj_cdk mj_r102 := Or.inr rfl
set_option maxRecDepth 100000 in
theorem mcd_103 : mj_cdk mj_r103 := Or.inr rfl
set_option maxRecDepth 100000 in
theorem mcd_104 : mj_cdk mj_r104 := Or.inr rfl
set_option maxRecDepth 100000 in
theorem mcd_105 : mj_cdk mj_r105 := Or.inr rfl
set_option maxRecDepth 100000 in
theorem mcd_106 : mj_cdk mj_r106 := Or.inr rfl
set_option maxRecDepth 100000 in
theorem mcd_107 : mj_cdk mj_r107 := Or.inr rfl
set_option maxRecDepth 100000 in
theorem mcd_108 : mj_cdk mj_r108 := Or.inr rfl
set_option maxRecDepth 100000 in
theorem mcd_109 : mj_cdk mj_r109 := Or.inr rfl
set_option maxRecDepth 100000 in
theorem mcd_110 : mj_cdk mj_r110 := Or.inr rfl
set_option maxRecDepth 100000 in
theorem mcd_111 : mj_cdk mj_r111 := Or.inr rfl
set_option maxRecDepth 100000 in
theorem mcd_112 : mj_cdk mj_r112 := Or.inr rfl
set_option maxRecDepth 100000 in
theorem mcd_113 : mj_cdk mj_r113 := Or.inr rfl
set_option maxRecDepth 100000 in
theorem mcd_114 : mj_cdk mj_r114 := Or.inr rfl
set_option maxRecDepth 100000 in
theorem mcd_115 : mj_cdk mj_r115 := Or.inr rfl
set_option maxRecDepth 100000 in
theorem mcd_116 : mj_cdk mj_r116 := Or.inr rfl
set_option maxRecDepth 100000 in
theorem mcd_117 : mj_cdk mj_r117 := Or.inr rfl
set_option maxRecDepth 100000 in
theorem mcd_118 : mj_cdk mj_r118 := Or.inr rfl
set_option maxRecDepth 100000 in
theorem mcd_119 : mj_cdk mj_r119 := Or.inr rfl
set_option maxRecDepth 100000 in
theorem mcd_120 : mj_cdk mj_r120 := Or.inr rfl
set_option maxRecDepth 100000 in
theorem mcd_121 : mj_cdk mj_r121 := Or.inr rfl
set_option maxRecDepth 100000 in
theorem mcd_122 : mj_cdk mj_r122 := Or.inr rfl
set_option maxRecDepth 100000 in
theorem mcd_123 : mj_cdk mj_r123 := Or.inr rfl
set_option maxRecDepth 100000 in
theorem mcd_124 : mj_cdk mj_r124 := Or.inr rfl
set_option maxRecDepth 100000 in
theorem mcd_125 : mj_cdk mj_r125 := Or.inr rfl
set_option maxRecDepth 100000 in
theorem mcd_126 : mj_cdk mj_r126 := Or.inr rfl
set_option maxRecDepth 100000 in
theorem mcd_127 : mj_cdk mj_r127 := Or.inr rfl
set_option maxRecDepth 100000 in
theorem mcd_128 : mj_cdk mj_r128 := Or.inr rfl
set_option maxRecDepth 100000 in
theorem mcd_129 : mj_cdk mj_r129 := Or.inr rfl
set_option maxRecDepth 100000 in
theorem mcd_130 : mj_cdk mj_r130 := Or.inr rfl
set_option maxRecDepth 100000 in
theorem mcd_131 : mj_cdk mj_r131 := Or.inr rfl
set_option maxRecDepth 100000 in
theorem mcd_132 : mj_cdk mj_r132 := Or.inr rfl
set_option maxRecDepth 100000 in
theorem mcd_133 : mj_cdk mj_r133 := Or.inr rfl
set_option maxRecDepth 100000 in
theorem mcd_134 : mj_cdk mj_r134 := Or.inr rfl
set_option maxRecDepth 100000 in
theorem mcd_135 : mj_cdk mj_r135 := Or.inr rfl
set_option maxRecDepth 100000 in
theorem mcd_136 : mj_cdk mj_r136 := Or.inr rfl
set_option maxRecDepth 100000 in
theorem mcd_137 : mj_cdk mj_r137 := Or.inr rfl
set_option maxRecDepth 100000 in
theorem mcd_138 : mj_cdk mj_r138 := Or.inr rfl
set_option maxRecDepth 100000 in
theorem mcd_139 : mj_cdk mj_r139 := Or.inr rfl
set_option maxRecDepth 100000 in
theorem mcd_140 : mj_cdk mj_r140 := Or.inr rfl
set_option maxRecDepth 100000 in
theorem mcd_141 : mj_cdk mj_r141 := Or.inr rfl
set_option maxRecDepth 100000 in
theorem mcd_142 : mj_cdk mj_r142 := Or.inr rfl
set_option maxRecDepth 100000 in
theorem mcd_143 : mj_cdk mj_r143 := Or.inr rfl
set_option maxRecDepth 100000 in
theorem mcd_144 : mj_cdk mj_r144 := Or.inr rfl
set_option maxRecDepth 100000 in
theorem mcd_145 : mj_cdk mj_r145 := Or.inr rfl
set_option maxRecDepth 100000 in
theorem mcd_146 : mj_cdk mj_r146 := Or.inr rfl
set_option maxRecDepth 100000 in
theorem mcd_147 : mj_cdk mj_r147 := Or.inr rfl
set_option maxRecDepth 100000 in
theorem mcd_148 : mj_cdk mj_r148 := Or.inr rfl
set_option maxRecDepth 100000 in
theorem mcd_149 : mj_cdk mj_r149 := Or.inr rfl
set_option maxRecDepth 100000 in
theorem mcd_150 : mj_cdk mj_r150 := Or.inr rfl
set_option maxRecDepth 100000 in
theorem mcd_151 : mj_cdk mj_r151 := Or.inr rfl
set_option maxRecDepth 100000 in
theorem mcd_152 : mj_cdk mj_r152 := Or.inr rfl
set_option maxRecDepth 100000 in
theorem mcd_153 : mj_cdk mj_r153 := Or.inr rfl
set_option maxRecDepth 100000 in
theorem mcd_154 : mj_cdk mj_r154 := Or.inr rfl
set_option maxRecDepth 100000 in
theorem mcd_155 : mj_cdk mj_r155 := Or.inr rfl
set_option maxRecDepth 100000 in
theorem mcd_156 : mj_cdk mj_r156 := Or.inr rfl
set_option maxRecDepth 100000 in
theorem mcd_157 : mj_cdk mj_r157 := Or.inr rfl
set_option maxRecDepth 100000 in
theorem mcd_158 : mj_cdk mj_r158 := Or.inr rfl
set_option maxRecDepth 100000 in
theorem mcd_159 : mj_cdk mj_r159 := Or.inr rfl
set_option maxRecDepth 100000 in
theorem mcd_160 : mj_cdk mj_r160 := Or.inr rfl
set_option maxRecDepth 100000 in
theorem mcd_161 : mj_cdk mj_r161 := Or.inr rfl
set_option maxRecDepth 100000 in
theorem mcd_162 : mj_cdk mj_r162 := Or.inr rfl
set_option maxRecDepth 100000 in
theorem mcd_163 : mj_cdk mj_r163 := Or.inr rfl
set_option maxRecDepth 100000 in
theorem mcd_164 : mj_cdk mj_r164 := Or.inr rfl
set_option maxRecDepth 100000 in
theorem mcd_165 : mj_cdk mj_r165 := Or.inr rfl
set_option maxRecDepth 100000 in
theorem mcd_166 : mj_cdk mj_r166 := Or.inr rfl
set_option maxRecDepth 100000 in
theorem mcd_167 : mj_cdk mj_r167 := Or.inr rfl
set_option maxRecDepth 100000 in
theorem mcd_168 : mj_cdk mj_r168 := Or.inr rfl
set_option maxRecDepth 100000 in
theorem mcd_169 : mj_cdk mj_r169 := Or.inr rfl
set_option maxRecDepth 100000 in
theorem mcd_170 : mj_cdk mj_r170 := Or.inr rfl
set_option maxRecDepth 100000 in
theorem mcd_171 : mj_cdk mj_r171 := Or.inr rfl
set_option maxRecDepth 100000 in
theorem mcd_172 : mj_cdk mj_r172 := Or.inr rfl
set_option maxRecDepth 100000 in
theorem mcd_173 : mj_cdk mj_r173 := Or.inr rfl
set_option maxRecDepth 100000 in
theorem mcd_174 : mj_cdk mj_r174 := Or.inr rfl
set_option maxRecDepth 100000 in
theorem mcd_175 : mj_cdk mj_r175 := Or.inr rfl
set_option maxRecDepth 100000 in
theorem mcd_176 : mj_cdk mj_r176 := Or.inr rfl
set_option maxRecDepth 100000 in
theorem mcd_177 : mj_cdk mj_r177 := Or.inr rfl
set_option maxRecDepth 100000 in
theorem mcd_178 : mj_cdk mj_r178 := Or.inr rfl
set_option maxRecDepth 100000 in
theorem mcd_179 : mj_cdk mj_r179 := Or.inr rfl
set_option maxRecDepth 100000 in
theorem mcd_180 : mj_cdk mj_r180 := Or.inr rfl
set_option maxRecDepth 100000 in
theorem mcd_181 : mj_cdk mj_r181 := Or.inr rfl
set_option maxRecDepth 100000 in
theorem mcd_182 : mj_cdk mj_r182 := Or.inr rfl
set_option maxRecDepth 100000 in
theorem mcd_183 : mj_cdk mj_r183 := Or.inr rfl
set_option maxRecDepth 100000 in
theorem mcd_184 : mj_cdk mj_r184 := Or.inr rfl
set_option maxRecDepth 100000 in
theorem mcd_185 : mj_cdk mj_r185 := Or.inr rfl
set_option maxRecDepth 100000 in
theorem mcd_186 : mj_cdk mj_r186 := Or.inr rfl
set_option maxRecDepth 100000 in
theorem mcd_187 : mj_cdk mj_r187 := Or.inr rfl
set_option maxRecDepth 100000 in
theorem mcd_188 : mj_cdk mj_r188 := Or.inr rfl
set_option maxRecDepth 100000 in
theorem mcd_189 : mj_cdk mj_r189 := Or.inr rfl
set_option maxRecDepth 100000 in
theorem mcd_190 : mj_cdk mj_r190 := Or.inr rfl
set_option maxRecDepth 100000 in
theorem mcd_191 : mj_cdk mj_r191 := Or.inr rfl
set_option maxRecDepth 100000 in
theorem mcd_192 : mj_cdk mj_r192 := Or.inr rfl
set_option maxRecDepth 100000 in
theorem mcd_193 : mj_cdk mj_r193 := Or.inr rfl
set_option maxRecDepth 100000 in
theorem mcd_194 : mj_cdk mj_r194 := Or.inr rfl
set_option maxRecDepth 100000 in
theorem mcd_195 : mj_cdk mj_r195 := Or.inr rfl
set_option maxRecDepth 100000 in
theorem mcd_196 : mj_cdk mj_r196 := Or.inr rfl
set_option maxRecDepth 100000 in
theorem mcd_197 : mj_cdk mj_r197 := Or.inr rfl
set_option maxRecDepth 100000 in
theorem mcd_198 : mj_cdk mj_r198 := Or.inr rfl
set_option maxRecDepth 100000 in
theorem mcd_199 : mj_cdk mj_r199 := Or.inr rfl
set_option maxRecDepth 100000 in
theorem mcd_200 : mj_cdk mj_r200 := Or.inr rfl
set_option maxRecDepth 100000 in
theorem mcd_201 : mj_cdk mj_r201 := Or.inr rfl
set_option maxRecDepth 100000 in
theorem mcd_202 : mj_cdk mj_r202 := Or.inr rfl
set_option maxRecDepth 100000 in
theorem mcd_203 : mj_cdk mj_r203 := Or.inr rfl
set_option maxRecDepth 100000 in
theorem mcd_204 : mj_cdk mj_r204 := Or.inr rfl
set_option maxRecDepth 100000 in
theorem mcd_205 : mj_cdk mj_r205 := Or.inr rfl
set_option maxRecDepth 100000 in
theorem mcd_206 : mj_cdk mj_r206 := Or.inr rfl
set_option maxRecDepth 100000 in
theorem mcd_207 : mj_cdk mj_r207 := Or.inr rfl
set_option maxRecDepth 100000 in
theorem mcd_208 : mj_cdk mj_r208 := Or.inr rfl
set_option maxRecDepth 100000 in
theorem mcd_209 : mj_cdk mj_r209 := Or.inr rfl
set_option maxRecDepth 100000 in
theorem mcd_210 : mj_cdk mj_r210 := Or.inr rfl
set_option maxRecDepth 100000 in
theorem mcd_211 : mj_cdk mj_r211 := Or.inr rfl
set_option maxRecDepth 100000 in
theorem mcd_212 : mj_cdk mj_r212 := Or.inr rfl
set_option maxRecDepth 100000 in
theorem mcd_213 : mj_cdk mj_r213 := Or.inr rfl
set_option maxRecDepth 100000 in
theorem mcd_214 : mj_cdk mj_r214 := Or.inr rfl
set_option maxRecDepth 100000 in
theorem mcd_215 : mj_cdk mj_r215 := Or.inr rfl
set_option maxRecDepth 100000 in
theorem mcd_216 : mj_cdk mj_r216 := Or.inr rfl
set_option maxRecDepth 100000 in
theorem mcd_217 : mj_cdk mj_r217 := Or.inr rfl
set_option maxRecDepth 100000 in
theorem mcd_218 : mj_cdk mj_r218 := Or.inr rfl
set_option maxRecDepth 100000 in
theorem mcd_219 : mj_cdk mj_r219 := Or.inr rfl
set_option maxRecDepth 100000 in
theorem mcd_220 : mj_cdk mj_r220 := Or.inr rfl
set_option maxRecDepth 100000 in
theorem mcd_221 : mj_cdk mj_r221 := Or.inr rfl
set_option maxRecDepth 100000 in
theorem mcd_222 : mj_cdk mj_r222 := Or.inr rfl
set_option maxRecDepth 100000 in
theorem mcd_223 : mj_cdk mj_r223 := Or.inr rfl
set_option maxRecDepth 100000 in
theorem mcd_224 : mj_cdk mj_r224 := Or.inr rfl
set_option maxRecDepth 100000 in
theorem mcd_225 : mj_cdk mj_r225 := Or.inr rfl
set_option maxRecDepth 100000 in
theorem mcd_226 : mj_cdk mj_r226 := Or.inr rfl
set_option maxRecDepth 100000 in
theorem mcd_227 : mj_cdk mj_r227 := Or.inr rfl
set_option maxRecDepth 100000 in
theorem mcd_228 : mj_cdk mj_r228 := Or.inr rfl
set_option maxRecDepth 100000 in
theorem mcd_229 : mj_cdk mj_r229 := Or.inr rfl
set_option maxRecDepth 100000 in
theorem mcd_230 : mj_cdk mj_r230 := Or.inr rfl
set_option maxRecDepth 100000 in
theorem mcd_231 : mj_cdk mj_r231 := Or.inr rfl
set_option maxRecDepth 100000 in
theorem mcd_232 : mj_cdk mj_r232 := Or.inl rfl
set_option maxRecDepth 100000 in
theorem mcd_233 : mj_cdk mj_r233 := Or.inr rfl
set_option maxRecDepth 100000 in
theorem mcd_234 : mj_cdk mj_r234 := Or.inr rfl
set_option maxRecDepth 100000 in
theorem mcd_235 : mj_cdk mj_r235 := Or.inr rfl
set_option maxRecDepth 100000 in
theorem mcd_236 : mj_cdk mj_r236 := Or.inr rfl
set_option maxRecDepth 100000 in
theorem mcd_237 : mj_cdk mj_r237 := Or.inr rfl
set_option maxRecDepth 100000 in
theorem mcd_238 : mj_cdk mj_r238 := Or.inr rfl
set_option maxRecDepth 100000 in
theorem mcd_239 : mj_cdk mj_r239 := Or.inr rfl
set_option maxRecDepth 100000 in
theorem mcd_240 : mj_cdk mj_r240 := Or.inr rfl
theorem mk_0 : mj_mck mj_r0 = true := by decide +kernel
theorem mk_1 : mj_mck mj_r1 = true := by decide +kernel
theorem mk_2 : mj_mck mj_r2 = true := by decide +kernel
theorem mk_3 : mj_mck mj_r3 = true := by decide +kernel
theorem mk_4 : mj_mck mj_r4 = true := by decide +kernel
theorem mk_5 : mj_mck mj_r5 = true := by decide +kernel
theorem mk_6 : mj_mck mj_r6 = true := by decide +kernel
theorem mk_7 : mj_mck mj_r7 = true := by decide +kernel
theorem mk_8 : mj_mck mj_r8 = true := by decide +kernel
theorem mk_9 : mj_mck mj_r9 = true := by decide +kernel
theorem mk_10 : mj_mck mj_r10 = true := by decide +kernel
theorem mk_11 : mj_mck mj_r11 = true := by decide +kernel
theorem mk_12 : mj_mck mj_r12 = true := by decide +kernel
theorem mk_13 : mj_mck mj_r13 = true := by decide +kernel
theorem mk_14 : mj_mck mj_r14 = true := by decide +kernel
theorem mk_15 : mj_mck mj_r15 = true := by decide +kernel
theorem mk_16 : mj_mck mj_r16 = true := by decide +kernel
theorem mk_17 : mj_mck mj_r17 = true := by decide +kernel
theorem mk_18 : mj_mck mj_r18 = true := by decide +kernel
theorem mk_19 : mj_mck mj_r19 = true := by decide +kernel
theorem mk_20 : mj_mck mj_r20 = true := by decide +kernel
theorem mk_21 : mj_mck mj_r21 = true := by decide +kernel
theorem mk_22 : mj_mck mj_r22 = true := by decide +kernel
theorem mk_23 : mj_mck mj_r23 = true := by decide +kernel
theorem mk_24 : mj_mck mj_r24 = true := by decide +kernel
theorem mk_25 : mj_mck mj_r25 = true := by decide +kernel
theorem mk_26 : mj_mck mj_r26 = true := by decide +kernel
theorem mk_27 : mj_mck mj_r27 = true := by decide +kernel
theorem mk_28 : mj_mck mj_r28 = true := by decide +kernel
theorem mk_29 : mj_mck mj_r29 = true := by decide +kernel
theorem mk_30 : mj_mck mj_r30 = true := by decide +kernel
theorem mk_31 : mj_mck mj_r31 = true := by decide +kernel
theorem mk_32 : mj_mck mj_r32 = true := by decide +kernel
theorem mk_33 : mj_mck mj_r33 = true := by decide +kernel
theorem mk_34 : mj_mck mj_r34 = true := by decide +kernel
theorem mk_35 : mj_mck mj_r35 = true := by decide +kernel
theorem mk_36 : mj_mck mj_r36 = true := by decide +kernel
theorem mk_37 : mj_mck mj_r37 = true := by decide +kernel
theorem mk_38 : mj_mck mj_r38 = true := by decide +kernel
theorem mk_39 : mj_mck mj_r39 = true := by decide +kernel
theorem mk_40 : mj_mck mj_r40 = true := by decide +kernel
theorem mk_41 : mj_mck mj_r41 = true := by decide +kernel
theorem mk_42 : mj_mck mj_r42 = true := by decide +kernel
theorem mk_43 : mj_mck mj_r43 = true := by decide +kernel
theorem mk_44 : mj_mck mj_r44 = true := by decide +kernel
theorem mk_45 : mj_mck mj_r45 = true := by decide +kernel
theorem mk_46 : mj_mck mj_r46 = true := by decide +kernel
theorem mk_47 : mj_mck mj_r47 = true := by decide +kernel
theorem mk_48 : mj_mck mj_r48 = true := by decide +kernel
theorem mk_49 : mj_mck mj_r49 = true := by decide +kernel
theorem mk_50 : mj_mck mj_r50 = true := by decide +kernel
theorem mk_51 : mj_mck mj_r51 = true := by decide +kernel
theorem mk_52 : mj_mck mj_r52 = true := by decide +kernel
theorem mk_53 : mj_mck mj_r53 = true := by decide +kernel
theorem mk_54 : mj_mck mj_r54 = true := by decide +kernel
theorem mk_55 : mj_mck mj_r55 = true := by decide +kernel
theorem mk_56 : mj_mck mj_r56 = true := by decide +kernel
theorem mk_57 : mj_mck mj_r57 = true := by decide +kernel
theorem mk_58 : mj_mck mj_r58 = true := by decide +kernel
theorem mk_59 : mj_mck mj_r59 = true := by decide +kernel
theorem mk_60 : mj_mck mj_r60 = true := by decide +kernel
theorem mk_61 : mj_mck mj_r61 = true := by decide +kernel
theorem mk_62 : mj_mck mj_r62 = true := by decide +kernel
theorem mk_63 : mj_mck mj_r63 = true := by decide +kernel
theorem mk_64 : mj_mck mj_r64 = true := by decide +kernel
theorem mk_65 : mj_mck mj_r65 = true := by decide +kernel
theorem mk_66 : mj_mck mj_r66 = true := by decide +kernel
theorem mk_67 : mj_mck mj_r67 = true := by decide +kernel
theorem mk_68 : mj_mck mj_r68 = true := by decide +kernel
theorem mk_69 : mj_mck mj_r69 = true := by decide +kernel
theorem mk_70 : mj_mck mj_r70 = true := by decide +kernel
theorem mk_71 : mj_mck mj_r71 = true := by decide +kernel
theorem mk_72 : mj_mck mj_r72 = true := by decide +kernel
theorem mk_73 : mj_mck mj_r73 = true := by decide +kernel
theorem mk_74 : mj_mck mj_r74 = true := by decide +kernel
theorem mk_75 : mj_mck mj_r75 = true := by decide +kernel
theorem mk_76 : mj_mck mj_r76 = true := by decide +kernel
theorem mk_77 : mj_mck mj_r77 = true := by decide +kernel
theorem mk_78 : mj_mck mj_r78 = true := by decide +kernel
theorem mk_79 : mj_mck mj_r79 = true := by decide +kernel
theorem mk_80 : mj_mck mj_r80 = true := by decide +kernel
theorem mk_81 : mj_mck mj_r81 = true := by decide +kernel
theorem mk_82 : mj_mck mj_r82 = true := by decide +kernel
theorem mk_83 : mj_mck mj_r83 = true := by decide +kernel
theorem mk_84 : mj_mck mj_r84 = true := by decide +kernel
theorem mk_85 : mj_mck mj_r85 = true := by decide +kernel
theorem mk_86 : mj_mck mj_r86 = true := by decide +kernel
theorem mk_87 : mj_mck mj_r87 = true := by decide +kernel
theorem mk_88 : mj_mck mj_r88 = true := by decide +kernel
theorem mk_89 : mj_mck mj_r89 = true := by decide +kernel
theorem mk_90 : mj_mck mj_r90 = true := by decide +kernel
theorem mk_91 : mj_mck mj_r91 = true := by decide +kernel
theorem mk_92 : mj_mck mj_r92 = true := by decide +kernel
theorem mk_93 : mj_mck mj_r93 = true := by decide +kernel
theorem mk_94 : mj_mck mj_r94 = true := by decide +kernel
theorem mk_95 : mj_mck mj_r95 = true := by decide +kernel
theorem mk_96 : mj_mck mj_r96 = true := by decide +kernel
theorem mk_97 : mj_mck mj_r97 = true := by decide +kernel
theorem mk_98 : mj_mck mj_r98 = true := by decide +kernel
theorem mk_99 : mj_mck mj_r99 = true := by decide +kernel
theorem mk_100 : mj_mck mj_r100 = true := by decide +kernel
theorem mk_101 : mj_mck mj_r101 = true := by decide +kernel
theorem mk_102 : mj_mck mj_r102 = true := by decide +kernel
theorem mk_103 : mj_mck mj_r103 = true := by decide +kernel
theorem mk_104 : mj_mck mj_r104 = true := by decide +kernel
theorem mk_105 : mj_mck mj_r105 = true := by decide +kernel
theorem mk_106 : mj_mck mj_r106 = true := by decide +kernel
theorem mk_107 : mj_mck mj_r107 = true := by decide +kernel
theorem mk_108 : mj_mck mj_r108 = true := by decide +kernel
theorem mk_109 : mj_mck mj_r109 = true := by decide +kernel
theorem mk_110 : mj_mck mj_r110 = true := by decide +kernel
theorem mk_111 : mj_mck mj_r111 = true := by decide +kernel
theorem mk_112 : mj_mck mj_r112 = true := by decide +kernel
theorem mk_113 : mj_mck mj_r113 = true := by decide +kernel
theorem mk_114 : mj_mck mj_r114 = true := by decide +kernel
theorem mk_115 : mj_mck mj_r115 = true := by decide +kernel
theorem mk_116 : mj_mck mj_r116 = true := by decide +kernel
theorem mk_117 : mj_mck mj_r117 = true := by decide +kernel
theorem mk_118 : mj_mck mj_r118 = true := by decide +kernel
theorem mk_119 : mj_mck mj_r119 = true := by decide +kernel
theorem mk_120 : mj_mck mj_r120 = true := by decide +kernel
theorem mk_121 : mj_mck mj_r121 = true := by decide +kernel
theorem mk_122 : mj_mck mj_r122 = true := by decide +kernel
theorem mk_123 : mj_mck mj_r123 = true := by decide +kernel
theorem mk_124 : mj_mck mj_r124 = true := by decide +kernel
theorem mk_125 : mj_mck mj_r125 = true := by decide +kernel
theorem mk_126 : mj_mck mj_r126 = true := by decide +kernel
theorem mk_127 : mj_mck mj_r127 = true := by decide +kernel
theorem mk_128 : mj_mck mj_r128 = true := by decide +kernel
theorem mk_129 : mj_mck mj_r129 = true := by decide +kernel
theorem mk_130 : mj_mck mj_r130 = true := by decide +kernel
theorem mk_131 : mj_mck mj_r131 = true := by decide +kernel
theorem mk_132 : mj_mck mj_r132 = true := by decide +kernel
theorem mk_133 : mj_mck mj_r133 = true := by decide +kernel
theorem mk_134 : mj_mck mj_r134 = true := by decide +kernel
theorem mk_135 : mj_mck mj_r135 = true := by decide +kernel
theorem mk_136 : mj_mck mj_r136 = true := by decide +kernel
theorem mk_137 : mj_mck mj_r137 = true := by decide +kernel
theorem mk_138 : mj_mck mj_r138 = true := by decide +kernel
theorem mk_139 : mj_mck mj_r139 = true := by decide +kernel
theorem mk_140 : mj_mck mj_r140 = true := by decide +kernel
theorem mk_141 : mj_mck mj_r141 = true := by decide +kernel
theorem mk_142 : mj_mck mj_r142 = true := by decide +kernel
theorem mk_143 : mj_mck mj_r143 = true := by decide +kernel
theorem mk_144 : mj_mck mj_r144 = true := by decide +kernel
theorem mk_145 : mj_mck mj_r145 = true := by decide +kernel
theorem mk_146 : mj_mck mj_r146 = true := by decide +kernel
theorem mk_147 : mj_mck mj_r147 = true := by decide +kernel
theorem mk_148 : mj_mck mj_r148 = true := by decide +kernel
theorem mk_149 : mj_mck mj_r149 = true := by decide +kernel
theorem mk_150 : mj_mck mj_r150 = true := by decide +kernel
theorem mk_151 : mj_mck mj_r151 = true := by decide +kernel
theorem mk_152 : mj_mck mj_r152 = true := by decide +kernel
theorem mk_153 : mj_mck mj_r153 = true := by decide +kernel
theorem mk_154 : mj_mck mj_r154 = true := by decide +kernel
theorem mk_155 : mj_mck mj_r155 = true := by decide +kernel
theorem mk_156 : mj_mck mj_r156 = true := by decide +kernel
theorem mk_157 : mj_mck mj_r157 = true := by decide +kernel
theorem mk_158 : mj_mck mj_r158 = true := by decide +kernel
theorem mk_159 : mj_mck mj_r159 = true := by decide +kernel
theorem mk_160 : mj_mck mj_r160 = true := by decide +kernel
theorem mk_161 : mj_mck mj_r161 = true := by decide +kernel
theorem mk_162 : mj_mck mj_r162 = true := by decide +kernel
theorem mk_163 : mj_mck mj_r163 = true := by decide +kernel
theorem mk_164 : mj_mck mj_r164 = true := by decide +kernel
theorem mk_165 : mj_mck mj_r165 = true := by decide +kernel
theorem mk_166 : mj_mck mj_r166 = true := by decide +kernel
theorem mk_167 : mj_mck mj_r167 = true := by decide +kernel
theorem mk_168 : mj_mck mj_r168 = true := by decide +kernel
theorem mk_169 : mj_mck mj_r169 = true := by decide +kernel
theorem mk_170 : mj_mck mj_r170 = true := by decide +kernel
theorem mk_171 : mj_mck mj_r171 = true := by decide +kernel
theorem mk_172 : mj_mck mj_r172 = true := by decide +kernel
theorem mk_173 : mj_mck mj_r173 = true := by decide +kernel
theorem mk_174 : mj_mck mj_r174 = true := by decide +kernel
theorem mk_175 : mj_mck mj_r175 = true := by decide +kernel
theorem mk_176 : mj_mck mj_r176 = true := by decide +kernel
theorem mk_177 : mj_mck mj_r177 = true := by decide +kernel
theorem mk_178 : mj_mck mj_r178 = true := by decide +kernel
theorem mk_179 : mj_mck mj_r179 = true := by decide +kernel
theorem mk_180 : mj_mck mj_r180 = true := by decide +kernel
theorem mk_181 : mj_mck mj_r181 = true := by decide +kernel
theorem mk_182 : mj_mck mj_r182 = true := by decide +kernel
theorem mk_183 : mj_mck mj_r183 = true := by decide +kernel
theorem mk_184 : mj_mck mj_r184 = true := by decide +kernel
theorem mk_185 : mj_mck mj_r185 = true := by decide +kernel
theorem mk_186 : mj_mck mj_r186 = true := by decide +kernel
theorem mk_187 : mj_mck mj_r187 = true := by decide +kernel
theorem mk_188 : mj_mck mj_r188 = true := by decide +kernel
theorem mk_189 : mj_mck mj_r189 = true := by decide +kernel
theorem mk_190 : mj_mck mj_r190 = true := by decide +kernel
theorem mk_191 : mj_mck mj_r191 = true := by decide +kernel
theorem mk_192 : mj_mck mj_r192 = true := by decide +kernel
theorem mk_193 : mj_mck mj_r193 = true := by decide +kernel
theorem mk_194 : mj_mck mj_r194 = true := by decide +kernel
theorem mk_195 : mj_mck mj_r195 = true := by decide +kernel
theorem mk_196 : mj_mck mj_r196 = true := by decide +kernel
theorem mk_197 : mj_mck mj_r197 = true := by decide +kernel
theorem mk_198 : mj_mck mj_r198 = true := by decide +kernel
theorem mk_199 : mj_mck mj_r199 = true := by decide +kernel
theorem mk_200 : mj_mck mj_r200 = true := by decide +kernel
theorem mk_201 : mj_mck mj_r201 = true := by decide +kernel
theorem mk_202 : mj_mck mj_r202 = true := by decide +kernel
theorem mk_203 : mj_mck mj_r203 = true := by decide +kernel
theorem mk_204 : mj_mck mj_r204 = true := by decide +kernel
theorem mk_205 : mj_mck mj_r205 = true := by decide +kernel
theorem mk_206 : mj_mck mj_r206 = true := by decide +kernel
theorem mk_207 : mj_mck mj_r207 = true := by decide +kernel
theorem mk_208 : mj_mck mj_r208 = true := by decide +kernel
theorem mk_209 : mj_mck mj_r209 = true := by decide +kernel
theorem mk_210 : mj_mck mj_r210 = true := by decide +kernel
theorem mk_211 : mj_mck mj_r211 = true := by decide +kernel
theorem mk_212 : mj_mck mj_r212 = true := by decide +kernel
theorem mk_213 : mj_mck mj_r213 = true := by decide +kernel
theorem mk_214 : mj_mck mj_r214 = true := by decide +kernel
theorem mk_215 : mj_mck mj_r215 = true := by decide +kernel
theorem mk_216 : mj_mck mj_r216 = true := by decide +kernel
theorem mk_217 : mj_mck mj_r217 = true := by decide +kernel
theorem mk_218 : mj_mck mj_r218 = true := by decide +kernel
theorem mk_219 : mj_mck mj_r219 = true := by decide +kernel
theorem mk_220 : mj_mck mj_r220 = true := by decide +kernel
theorem mk_221 : mj_mck mj_r221 = true := by decide +kernel
theorem mk_222 : mj_mck mj_r222 = true := by decide +kernel
theorem mk_223 : mj_mck mj_r223 = true := by decide +kernel
theorem mk_224 : mj_mck mj_r224 = true := by decide +kernel
theorem mk_225 : mj_mck mj_r225 = true := by decide +kernel
theorem mk_226 : mj_mck mj_r226 = true := by decide +kernel
theorem mk_227 : mj_mck mj_r227 = true := by decide +kernel
theorem mk_228 : mj_mck mj_r228 = true := by decide +kernel
theorem mk_229 : mj_mck mj_r229 = true := by decide +kernel
theorem mk_230 : mj_mck mj_r230 = true := by decide +kernel
theorem mk_231 : mj_mck mj_r231 = true := by decide +kernel
theorem mk_232 : mj_mck mj_r232 = true := by decide +kernel
theorem mk_233 : mj_mck mj_r233 = true := by decide +kernel
theorem mk_234 : mj_mck mj_r234 = true := by decide +kernel
theorem mk_235 : mj_mck mj_r235 = true := by decide +kernel
theorem mk_236 : mj_mck mj_r236 = true := by decide +kernel
theorem mk_237 : mj_mck mj_r237 = true := by decide +kernel
theorem mk_238 : mj_mck mj_r238 = true := by decide +kernel
theorem mk_239 : mj_mck mj_r239 = true := by decide +kernel
theorem mk_240 : mj_mck mj_r240 = true := by decide +kernel
theorem mkc_0 : ∀ me ∈ ([mj_r0, mj_r1, mj_r2, mj_r3, mj_r4, mj_r5, mj_r6, mj_r7, mj_r8, mj_r9, mj_r10, mj_r11, mj_r12, mj_r13, mj_r14, mj_r15] : List mj_I), mj_mck me = true := List.forall_mem_cons.mpr ⟨mk_0, List.forall_mem_cons.mpr ⟨mk_1, List.forall_mem_cons.mpr ⟨mk_2, List.forall_mem_cons.mpr ⟨mk_3, List.forall_mem_cons.mpr ⟨mk_4, List.forall_mem_cons.mpr ⟨mk_5, List.forall_mem_cons.mpr ⟨mk_6, List.forall_mem_cons.mpr ⟨mk_7, List.forall_mem_cons.mpr ⟨mk_8, List.forall_mem_cons.mpr ⟨mk_9, List.forall_mem_cons.mpr ⟨mk_10, List.forall_mem_cons.mpr ⟨mk_11, List.forall_mem_cons.mpr ⟨mk_12, List.forall_mem_cons.mpr ⟨mk_13, List.forall_mem_cons.mpr ⟨mk_14, List.forall_mem_cons.mpr ⟨mk_15, fun _ h => absurd h List.not_mem_nil⟩⟩⟩⟩⟩⟩⟩⟩⟩⟩⟩⟩⟩⟩⟩⟩
theorem mkc_1 : ∀ me ∈ ([mj_r16, mj_r17, mj_r18, mj_r19, mj_r20, mj_r21, mj_r22, mj_r23, mj_r24, mj_r25, mj_r26, mj_r27, mj_r28, mj_r29, mj_r30, mj_r31] : List mj_I), mj_mck me = true := List.forall_mem_cons.mpr ⟨mk_16, List.forall_mem_cons.mpr ⟨mk_17, List.forall_mem_cons.mpr ⟨mk_18, List.forall_mem_cons.mpr ⟨mk_19, List.forall_mem_cons.mpr ⟨mk_20, List.forall_mem_cons.mpr ⟨mk_21, List.forall_mem_cons.mpr ⟨mk_22, List.forall_mem_cons.mpr ⟨mk_23, List.forall_mem_cons.mpr ⟨mk_24, List.forall_mem_cons.mpr ⟨mk_25, List.forall_mem_cons.mpr ⟨mk_26, List.forall_mem_cons.mpr ⟨mk_27, List.forall_mem_cons.mpr ⟨mk_28, List.forall_mem_cons.mpr ⟨mk_29, List.forall_mem_cons.mpr ⟨mk_30, List.forall_mem_cons.mpr ⟨mk_31, fun _ h => absurd h List.not_mem_nil⟩⟩⟩⟩⟩⟩⟩⟩⟩⟩⟩⟩⟩⟩⟩⟩
theorem mkc_2 : ∀ me ∈ ([mj_r32, mj_r33, mj_r34, mj_r35, mj_r36, mj_r37, mj_r38, mj_r39, mj_r40, mj_r41, mj_r42, mj_r43, mj_r44, mj_r45, mj_r46, mj_r47] : List mj_I), mj_mck me = true := List.forall_mem_cons.mpr ⟨mk_32, List.forall_mem_cons.mpr ⟨mk_33, List.forall_mem_cons.mpr ⟨mk_34, List.forall_mem_cons.mpr ⟨mk_35, List.forall_mem_cons.mpr ⟨mk_36, List.forall_mem_cons.mpr ⟨mk_37, List.forall_mem_cons.mpr ⟨mk_38, List.forall_mem_cons.mpr ⟨mk_39, List.forall_mem_cons.mpr ⟨mk_40, List.forall_mem_cons.mpr ⟨mk_41, List.forall_mem_cons.mpr ⟨mk_42, List.forall_mem_cons.mpr ⟨mk_43, List.forall_mem_cons.mpr ⟨mk_44, List.forall_mem_cons.mpr ⟨mk_45, List.forall_mem_cons.mpr ⟨mk_46, List.forall_mem_cons.mpr ⟨mk_47, fun _ h => absurd h List.not_mem_nil⟩⟩⟩⟩⟩⟩⟩⟩⟩⟩⟩⟩⟩⟩⟩⟩
theorem mkc_3 : ∀ me ∈ ([mj_r48, mj_r49, mj_r50, mj_r51, mj_r52, mj_r53, mj_r54, mj_r55, mj_r56, mj_r57, mj_r58, mj_r59, mj_r60, mj_r61, mj_r62, mj_r63] : List mj_I), mj_mck me = true := List.forall_mem_cons.mpr ⟨mk_48, List.forall_mem_cons.mpr ⟨mk_49, List.forall_mem_cons.mpr ⟨mk_50, List.forall_mem_cons.mpr ⟨mk_51, List.forall_mem_cons.mpr ⟨mk_52, List.forall_mem_cons.mpr ⟨mk_53, List.forall_mem_cons.mpr ⟨mk_54, List.forall_mem_cons.mpr ⟨mk_55, List.forall_mem_cons.mpr ⟨mk_56, List.forall_mem_cons.mpr ⟨mk_57, List.forall_mem_cons.mpr ⟨mk_58, List.forall_mem_cons.mpr ⟨mk_59, List.forall_mem_cons.mpr ⟨mk_60, List.forall_mem_cons.mpr ⟨mk_61, List.forall_mem_cons.mpr ⟨mk_62, List.forall_mem_cons.mpr ⟨mk_63, fun _ h => absurd h List.not_mem_nil⟩⟩⟩⟩⟩⟩⟩⟩⟩⟩⟩⟩⟩⟩⟩⟩
theorem mkc_4 : ∀ me ∈ ([mj_r64, mj_r65, mj_r66, mj_r67, mj_r68, mj_r69, mj_r70, mj_r71, mj_r72, mj_r73, mj_r74, mj_r75, mj_r76, mj_r77, mj_r78, mj_r79] : List mj_I), mj_mck me = true := List.forall_mem_cons.mpr ⟨mk_64, List.forall_mem_cons.mpr ⟨mk_65, List.forall_mem_cons.mpr ⟨mk_66, List.forall_mem_cons.mpr ⟨mk_67, List.forall_mem_cons.mpr ⟨mk_68, List.forall_mem_cons.mpr ⟨mk_69, List.forall_mem_cons.mpr ⟨mk_70, List.forall_mem_cons.mpr ⟨mk_71, List.forall_mem_cons.mpr ⟨mk_72, List.forall_mem_cons.mpr ⟨mk_73, List.forall_mem_cons.mpr ⟨mk_74, List.forall_mem_cons.mpr ⟨mk_75, List.forall_mem_cons.mpr ⟨mk_76, List.forall_mem_cons.mpr ⟨mk_77, List.forall_mem_cons.mpr ⟨mk_78, List.forall_mem_cons.mpr ⟨mk_79, fun _ h => absurd h List.not_mem_nil⟩⟩⟩⟩⟩⟩⟩⟩⟩⟩⟩⟩⟩⟩⟩⟩
theorem mkc_5 : ∀ me ∈ ([mj_r80, mj_r81, mj_r82, mj_r83, mj_r84, mj_r85, mj_r86, mj_r87, mj_r88, mj_r89, mj_r90, mj_r91, mj_r92, mj_r93, mj_r94, mj_r95] : List mj_I), mj_mck me = true := List.forall_mem_cons.mpr ⟨mk_80, List.forall_mem_cons.mpr ⟨mk_81, List.forall_mem_cons.mpr ⟨mk_82, List.forall_mem_cons.mpr ⟨mk_83, List.forall_mem_cons.mpr ⟨mk_84, List.forall_mem_cons.mpr ⟨mk_85, List.forall_mem_cons.mpr ⟨mk_86, List.forall_mem_cons.mpr ⟨mk_87, List.forall_mem_cons.mpr ⟨mk_88, List.forall_mem_cons.mpr ⟨mk_89, List.forall_mem_cons.mpr ⟨mk_90, List.forall_mem_cons.mpr ⟨mk_91, List.forall_mem_cons.mpr ⟨mk_92, List.forall_mem_cons.mpr ⟨mk_93, List.forall_mem_cons.mpr ⟨mk_94, List.forall_mem_cons.mpr ⟨mk_95, fun _ h => absurd h List.not_mem_nil⟩⟩⟩⟩⟩⟩⟩⟩⟩⟩⟩⟩⟩⟩⟩⟩
theorem mkc_6 : ∀ me ∈ ([mj_r96, mj_r97, mj_r98, mj_r99, mj_r100, mj_r101, mj_r102, mj_r103, mj_r104, mj_r105, mj_r106, mj_r107, mj_r108, mj_r109, mj_r110, mj_r111] : List mj_I), mj_mck me = true := List.forall_mem_cons.mpr ⟨mk_96, List.forall_mem_cons.mpr ⟨mk_97, List.forall_mem_cons.mpr ⟨mk_98, List.forall_mem_cons.mpr ⟨mk_99, List.forall_mem_cons.mpr ⟨mk_100, List.forall_mem_cons.mpr ⟨mk_101, List.forall_mem_cons.mpr ⟨mk_102, List.forall_mem_cons.mpr ⟨mk_103, List.forall_mem_cons.mpr ⟨mk_104, List.forall_mem_cons.mpr ⟨mk_105, List.forall_mem_cons.mpr ⟨mk_106, List.forall_mem_cons.mpr ⟨mk_107, List.forall_mem_cons.mpr ⟨mk_108, List.forall_mem_cons.mpr ⟨mk_109, List.forall_mem_cons.mpr ⟨mk_110, List.forall_mem_cons.mpr ⟨mk_111, fun _ h => absurd h List.not_mem_nil⟩⟩⟩⟩⟩⟩⟩⟩⟩⟩⟩⟩⟩⟩⟩⟩
theorem mkc_7 : ∀ me ∈ ([mj_r112, mj_r113, mj_r114, mj_r115, mj_r116, mj_r117, mj_r118, mj_r119, mj_r120, mj_r121, mj_r122, mj_r123, mj_r124, mj_r125, mj_r126, mj_r127] : List mj_I), mj_mck me = true := List.forall_mem_cons.mpr ⟨mk_112, List.forall_mem_cons.mpr ⟨mk_113, List.forall_mem_cons.mpr ⟨mk_114, List.forall_mem_cons.mpr ⟨mk_115, List.forall_mem_cons.mpr ⟨mk_116, List.forall_mem_cons.mpr ⟨mk_117, List.forall_mem_cons.mpr ⟨mk_118, List.forall_mem_cons.mpr ⟨mk_119, List.forall_mem_cons.mpr ⟨mk_120, List.forall_mem_cons.mpr ⟨mk_121, List.forall_mem_cons.mpr ⟨mk_122, List.forall_mem_cons.mpr ⟨mk_123, List.forall_mem_cons.mpr ⟨mk_124, List.forall_mem_cons.mpr ⟨mk_125, List.forall_mem_cons.mpr ⟨mk_126, List.forall_mem_cons.mpr ⟨mk_127, fun _ h => absurd h List.not_mem_nil⟩⟩⟩⟩⟩⟩⟩⟩⟩⟩⟩⟩⟩⟩⟩⟩
theorem mkc_8 : ∀ me ∈ ([mj_r128, mj_r129, mj_r130, mj_r131, mj_r132, mj_r133, mj_r134, mj_r135, mj_r136, mj_r137, mj_r138, mj_r139, mj_r140, mj_r141, mj_r142, mj_r143] : List mj_I), mj_mck me = true := List.forall_mem_cons.mpr ⟨mk_128, List.forall_mem_cons.mpr ⟨mk_129, List.forall_mem_cons.mpr ⟨mk_130, List.forall_mem_cons.mpr ⟨mk_131, List.forall_mem_cons.mpr ⟨mk_132, List.forall_mem_cons.mpr ⟨mk_133, List.forall_mem_cons.mpr ⟨mk_134, List.forall_mem_cons.mpr ⟨mk_135, List.forall_mem_cons.mpr ⟨mk_136, List.forall_mem_cons.mpr ⟨mk_137, List.forall_mem_cons.mpr ⟨mk_138, List.forall_mem_cons.mpr ⟨mk_139, List.forall_mem_cons.mpr ⟨mk_140, List.forall_mem_cons.mpr ⟨mk_141, List.forall_mem_cons.mpr ⟨mk_142, List.forall_mem_cons.mpr ⟨mk_143, fun _ h => absurd h List.not_mem_nil⟩⟩⟩⟩⟩⟩⟩⟩⟩⟩⟩⟩⟩⟩⟩⟩
theorem mkc_9 : ∀ me ∈ ([mj_r144, mj_r145, mj_r146, mj_r147, mj_r148, mj_r149, mj_r150, mj_r151, mj_r152, mj_r153, mj_r154, mj_r155, mj_r156, mj_r157, mj_r158, mj_r159] : List mj_I), mj_mck me = true := List.forall_mem_cons.mpr ⟨mk_144, List.forall_mem_cons.mpr ⟨mk_145, List.forall_mem_cons.mpr ⟨mk_146, List.forall_mem_cons.mpr ⟨mk_147, List.forall_mem_cons.mpr ⟨mk_148, List.forall_mem_cons.mpr ⟨mk_149, List.forall_mem_cons.mpr ⟨mk_150, List.forall_mem_cons.mpr ⟨mk_151, List.forall_mem_cons.mpr ⟨mk_152, List.forall_mem_cons.mpr ⟨mk_153, List.forall_mem_cons.mpr ⟨mk_154, List.forall_mem_cons.mpr ⟨mk_155, List.forall_mem_cons.mpr ⟨mk_156, List.forall_mem_cons.mpr ⟨mk_157, List.forall_mem_cons.mpr ⟨mk_158, List.forall_mem_cons.mpr ⟨mk_159, fun _ h => absurd h List.not_mem_nil⟩⟩⟩⟩⟩⟩⟩⟩⟩⟩⟩⟩⟩⟩⟩⟩
theorem mkc_10 : ∀ me ∈ ([mj_r160, mj_r161, mj_r162, mj_r163, mj_r164, mj_r165, mj_r166, mj_r167, mj_r168, mj_r169, mj_r170, mj_r171, mj_r172, mj_r173, mj_r174, mj_r175] : List mj_I), mj_mck me = true := List.forall_mem_cons.mpr ⟨mk_160, List.forall_mem_cons.mpr ⟨mk_161, List.forall_mem_cons.mpr ⟨mk_162, List.forall_mem_cons.mpr ⟨mk_163, List.forall_mem_cons.mpr ⟨mk_164, List.forall_mem_cons.mpr ⟨mk_165, List.forall_mem_cons.mpr ⟨mk_166, List.forall_mem_cons.mpr ⟨mk_167, List.forall_mem_cons.mpr ⟨mk_168, List.forall_mem_cons.mpr ⟨mk_169, List.forall_mem_cons.mpr ⟨mk_170, List.forall_mem_cons.mpr ⟨mk_171, List.forall_mem_cons.mpr ⟨mk_172, List.forall_mem_cons.mpr ⟨mk_173, List.forall_mem_cons.mpr ⟨mk_174, List.forall_mem_cons.mpr ⟨mk_175, fun _ h => absurd h List.not_mem_nil⟩⟩⟩⟩⟩⟩⟩⟩⟩⟩⟩⟩⟩⟩⟩⟩
theorem mkc_11 : ∀ me ∈ ([mj_r176, mj_r177, mj_r178, mj_r179, mj_r180, mj_r181, mj_r182, mj_r183, mj_r184, mj_r185, mj_r186, mj_r187, mj_r188, mj_r189, mj_r190, mj_r191] : List mj_I), mj_mck me = true := List.forall_mem_cons.mpr ⟨mk_176, List.forall_mem_cons.mpr ⟨mk_177, List.forall_mem_cons.mpr ⟨mk_178, List.forall_mem_cons.mpr ⟨mk_179, List.forall_mem_cons.mpr ⟨mk_180, List.forall_mem_cons.mpr ⟨mk_181, List.forall_mem_cons.mpr ⟨mk_182, List.forall_mem_cons.mpr ⟨mk_183, List.forall_mem_cons.mpr ⟨mk_184, List.forall_mem_cons.mpr ⟨mk_185, List.forall_mem_cons.mpr ⟨mk_186, List.forall_mem_cons.mpr ⟨mk_187, List.forall_mem_cons.mpr ⟨mk_188, List.forall_mem_cons.mpr ⟨mk_189, List.forall_mem_cons.mpr ⟨mk_190, List.forall_mem_cons.mpr ⟨mk_191, fun _ h => absurd h List.not_mem_nil⟩⟩⟩⟩⟩⟩⟩⟩⟩⟩⟩⟩⟩⟩⟩⟩
theorem mkc_12 : ∀ me ∈ ([mj_r192, mj_r193, mj_r194, mj_r195, mj_r196, mj_r197, mj_r198, mj_r199, mj_r200, mj_r201, mj_r202, mj_r203, mj_r204, mj_r205, mj_r206, mj_r207] : List mj_I), mj_mck me = true := List.forall_mem_cons.mpr ⟨mk_192, List.forall_mem_cons.mpr ⟨mk_193, List.forall_mem_cons.mpr ⟨mk_194, List.forall_mem_cons.mpr ⟨mk_195, List.forall_mem_cons.mpr ⟨mk_196, List.forall_mem_cons.mpr ⟨mk_197, List.forall_mem_cons.mpr ⟨mk_198, List.forall_mem_cons.mpr ⟨mk_199, List.forall_mem_cons.mpr ⟨mk_200, List.forall_mem_cons.mpr ⟨mk_201, List.forall_mem_cons.mpr ⟨mk_202, List.forall_mem_cons.mpr ⟨mk_203, List.forall_mem_cons.mpr ⟨mk_204, List.forall_mem_cons.mpr ⟨mk_205, List.forall_mem_cons.mpr ⟨mk_206, List.forall_mem_cons.mpr ⟨mk_207, fun _ h => absurd h List.not_mem_nil⟩⟩⟩⟩⟩⟩⟩⟩⟩⟩⟩⟩⟩⟩⟩⟩
theorem mkc_13 : ∀ me ∈ ([mj_r208, mj_r209, mj_r210, mj_r211, mj_r212, mj_r213, mj_r214, mj_r215, mj_r216, mj_r217, mj_r218, mj_r219, mj_r220, mj_r221, mj_r222, mj_r223] : List mj_I), mj_mck me = true := List.forall_mem_cons.mpr ⟨mk_208, List.forall_mem_cons.mpr ⟨mk_209, List.forall_mem_cons.mpr ⟨mk_210, List.forall_mem_cons.mpr ⟨mk_211, List.forall_mem_cons.mpr ⟨mk_212, List.forall_mem_cons.mpr ⟨mk_213, List.forall_mem_cons.mpr ⟨mk_214, List.forall_mem_cons.mpr ⟨mk_215, List.forall_mem_cons.mpr ⟨mk_216, List.forall_mem_cons.mpr ⟨mk_217, List.forall_mem_cons.mpr ⟨mk_218, List.forall_mem_cons.mpr ⟨mk_219, List.forall_mem_cons.mpr ⟨mk_220, List.forall_mem_cons.mpr ⟨mk_221, List.forall_mem_cons.mpr ⟨mk_222, List.forall_mem_cons.mpr ⟨mk_223, fun _ h => absurd h List.not_mem_nil⟩⟩⟩⟩⟩⟩⟩⟩⟩⟩⟩⟩⟩⟩⟩⟩
theorem mkc_14 : ∀ me ∈ ([mj_r224, mj_r225, mj_r226, mj_r227, mj_r228, mj_r229, mj_r230, mj_r231, mj_r232, mj_r233, mj_r234, mj_r235, mj_r236, mj_r237, mj_r238, mj_r239] : List mj_I), mj_mck me = true := List.forall_mem_cons.mpr ⟨mk_224, List.forall_mem_cons.mpr ⟨mk_225, List.forall_mem_cons.mpr ⟨mk_226, List.forall_mem_cons.mpr ⟨mk_227, List.forall_mem_cons.mpr ⟨mk_228, List.forall_mem_cons.mpr ⟨mk_229, List.forall_mem_cons.mpr ⟨mk_230, List.forall_mem_cons.mpr ⟨mk_231, List.forall_mem_cons.mpr ⟨mk_232, List.forall_mem_cons.mpr ⟨mk_233, List.forall_mem_cons.mpr ⟨mk_234, List.forall_mem_cons.mpr ⟨mk_235, List.forall_mem_cons.mpr ⟨mk_236, List.forall_mem_cons.mpr ⟨mk_237, List.forall_mem_cons.mpr ⟨mk_238, List.forall_mem_cons.mpr ⟨mk_239, fun _ h => absurd h List.not_mem_nil⟩⟩⟩⟩⟩⟩⟩⟩⟩⟩⟩⟩⟩⟩⟩⟩
theorem mkc_15 : ∀ me ∈ ([mj_r240] : List mj_I), mj_mck me = true := List.forall_mem_cons.mpr ⟨mk_240, fun _ h => absurd h List.not_mem_nil⟩
set_option maxRecDepth 100000 in
theorem mj_tab_ch : mj_tab = ([mj_r0, mj_r1, mj_r2, mj_r3, mj_r4, mj_r5, mj_r6, mj_r7, mj_r8, mj_r9, mj_r10, mj_r11, mj_r12, mj_r13, mj_r14, mj_r15] : List mj_I) ++ (([mj_r16, mj_r17, mj_r18, mj_r19, mj_r20, mj_r21, mj_r22, mj_r23, mj_r24, mj_r25, mj_r26, mj_r27, mj_r28, mj_r29, mj_r30, mj_r31] : List mj_I) ++ (([mj_r32, mj_r33, mj_r34, mj_r35, mj_r36, mj_r37, mj_r38, mj_r39, mj_r40, mj_r41, mj_r42, mj_r43, mj_r44, mj_r45, mj_r46, mj_r47] : List mj_I) ++ (([mj_r48, mj_r49, mj_r50, mj_r51, mj_r52, mj_r53, mj_r54, mj_r55, mj_r56, mj_r57, mj_r58, mj_r59, mj_r60, mj_r61, mj_r62, mj_r63] : List mj_I) ++ (([mj_r64, mj_r65, mj_r66, mj_r67, mj_r68, mj_r69, mj_r70, mj_r71, mj_r72, mj_r73, mj_r74, mj_r75, mj_r76, mj_r77, mj_r78, mj_r79] : List mj_I) ++ (([mj_r80, mj_r81, mj_r82, mj_r83, mj_r84, mj_r85, mj_r86, mj_r87, mj_r88, mj_r89, mj_r90, mj_r91, mj_r92, mj_r93, mj_r94, mj_r95] : List mj_I) ++ (([mj_r96, mj_r97, mj_r98, mj_r99, mj_r100, mj_r101, mj_r102, mj_r103, mj_r104, mj_r105, mj_r106, mj_r107, mj_r108, mj_r109, mj_r110, mj_r111] : List mj_I) ++ (([mj_r112, mj_r113, mj_r114, mj_r115, mj_r116, mj_r117, mj_r118, mj_r119, mj_r120, mj_r121, mj_r122, mj_r123, mj_r124, mj_r125, mj_r126, mj_r127] : List mj_I) ++ (([mj_r128, mj_r129, mj_r130, mj_r131, mj_r132, mj_r133, mj_r134, mj_r135, mj_r136, mj_r137, mj_r138, mj_r139, mj_r140, mj_r141, mj_r142, mj_r143] : List mj_I) ++ (([mj_r144, mj_r145, mj_r146, mj_r147, mj_r148, mj_r149, mj_r150, mj_r151, mj_r152, mj_r153, mj_r154, mj_r155, mj_r156, mj_r157, mj_r158, mj_r159] : List mj_I) ++ (([mj_r160, mj_r161, mj_r162, mj_r163, mj_r164, mj_r165, mj_r166, mj_r167, mj_r168, mj_r169, mj_r170, mj_r171, mj_r172, mj_r173, mj_r174, mj_r175] : List mj_I) ++ (([mj_r176, mj_r177, mj_r178, mj_r179, mj_r180, mj_r181, mj_r182, mj_r183, mj_r184, mj_r185, mj_r186, mj_r187, mj_r188, mj_r189, mj_r190, mj_r191] : List mj_I) ++ (([mj_r192, mj_r193, mj_r194, mj_r195, mj_r196, mj_r197, mj_r198, mj_r199, mj_r200, mj_r201, mj_r202, mj_r203, mj_r204, mj_r205, mj_r206, mj_r207] : List mj_I) ++ (([mj_r208, mj_r209, mj_r210, mj_r211, mj_r212, mj_r213, mj_r214, mj_r215, mj_r216, mj_r217, mj_r218, mj_r219, mj_r220, mj_r221, mj_r222, mj_r223] : List mj_I) ++ (([mj_r224, mj_r225, mj_r226, mj_r227, mj_r228, mj_r229, mj_r230, mj_r231, mj_r232, mj_r233, mj_r234, mj_r235, mj_r236, mj_r237, mj_r238, mj_r239] : List mj_I) ++ (([mj_r240] : List mj_I)))))))))))))))) := rfl
theorem mj_m_ok : ∀ me ∈ mj_tab, mj_mck me = true := by
  rw [mj_tab_ch]
  exact List.forall_mem_append.mpr ⟨mkc_0, List.forall_mem_append.mpr ⟨mkc_1, List.forall_mem_append.mpr ⟨mkc_2, List.forall_mem_append.mpr ⟨mkc_3, List.forall_mem_append.mpr ⟨mkc_4, List.forall_mem_append.mpr ⟨mkc_5, List.forall_mem_append.mpr ⟨mkc_6, List.forall_mem_append.mpr ⟨mkc_7, List.forall_mem_append.mpr ⟨mkc_8, List.forall_mem_append.mpr ⟨mkc_9, List.forall_mem_append.mpr ⟨mkc_10, List.forall_mem_append.mpr ⟨mkc_11, List.forall_mem_append.mpr ⟨mkc_12, List.forall_mem_append.mpr ⟨mkc_13, List.forall_mem_append.mpr ⟨mkc_14, mkc_15⟩⟩⟩⟩⟩⟩⟩⟩⟩⟩⟩⟩⟩⟩⟩
theorem mcc_0 : ∀ me ∈ ([mj_r0, mj_r1, mj_r2, mj_r3, mj_r4, mj_r5, mj_r6, mj_r7, mj_r8, mj_r9, mj_r10, mj_r11, mj_r12, mj_r13, mj_r14, mj_r15] : List mj_I), mj_cdk me := List.forall_mem_cons.mpr ⟨mcd_0, List.forall_mem_cons.mpr ⟨mcd_1, List.forall_mem_cons.mpr ⟨mcd_2, List.forall_mem_cons.mpr ⟨mcd_3, List.forall_mem_cons.mpr ⟨mcd_4, List.forall_mem_cons.mpr ⟨mcd_5, List.forall_mem_cons.mpr ⟨mcd_6, List.forall_mem_cons.mpr ⟨mcd_7, List.forall_mem_cons.mpr ⟨mcd_8, List.forall_mem_cons.mpr ⟨mcd_9, List.forall_mem_cons.mpr ⟨mcd_10, List.forall_mem_cons.mpr ⟨mcd_11, List.forall_mem_cons.mpr ⟨mcd_12, List.forall_mem_cons.mpr ⟨mcd_13, List.forall_mem_cons.mpr ⟨mcd_14, List.forall_mem_cons.mpr ⟨mcd_15, fun _ h => absurd h List.not_mem_nil⟩⟩⟩⟩⟩⟩⟩⟩⟩⟩⟩⟩⟩⟩⟩⟩
theorem mcc_1 : ∀ me ∈ ([mj_r16, mj_r17, mj_r18, mj_r19, mj_r20, mj_r21, mj_r22, mj_r23, mj_r24, mj_r25, mj_r26, mj_r27, mj_r28, mj_r29, mj_r30, mj_r31] : List mj_I), mj_cdk me := List.forall_mem_cons.mpr ⟨mcd_16, List.forall_mem_cons.mpr ⟨mcd_17, List.forall_mem_cons.mpr ⟨mcd_18, List.forall_mem_cons.mpr ⟨mcd_19, List.forall_mem_cons.mpr ⟨mcd_20, List.forall_mem_cons.mpr ⟨mcd_21, List.forall_mem_cons.mpr ⟨mcd_22, List.forall_mem_cons.mpr ⟨mcd_23, List.forall_mem_cons.mpr ⟨mcd_24, List.forall_mem_cons.mpr ⟨mcd_25, List.forall_mem_cons.mpr ⟨mcd_26, List.forall_mem_cons.mpr ⟨mcd_27, List.forall_mem_cons.mpr ⟨mcd_28, List.forall_mem_cons.mpr ⟨mcd_29, List.forall_mem_cons.mpr ⟨mcd_30, List.forall_mem_cons.mpr ⟨mcd_31, fun _ h => absurd h List.not_mem_nil⟩⟩⟩⟩⟩⟩⟩⟩⟩⟩⟩⟩⟩⟩⟩⟩
theorem mcc_2 : ∀ me ∈ ([mj_r32, mj_r33, mj_r34, mj_r35, mj_r36, mj_r37, mj_r38, mj_r39, mj_r40, mj_r41, mj_r42, mj_r43, mj_r44, mj_r45, mj_r46, mj_r47] : List mj_I), mj_cdk me := List.forall_mem_cons.mpr ⟨mcd_32, List.forall_mem_cons.mpr ⟨mcd_33, List.forall_mem_cons.mpr ⟨mcd_34, List.forall_mem_cons.mpr ⟨mcd_35, List.forall_mem_cons.mpr ⟨mcd_36, List.forall_mem_cons.mpr ⟨mcd_37, List.forall_mem_cons.mpr ⟨mcd_38, List.forall_mem_cons.mpr ⟨mcd_39, List.forall_mem_cons.mpr ⟨mcd_40, List.forall_mem_cons.mpr ⟨mcd_41, List.forall_mem_cons.mpr ⟨mcd_42, List.forall_mem_cons.mpr ⟨mcd_43, List.forall_mem_cons.mpr ⟨mcd_44, List.forall_mem_cons.mpr ⟨mcd_45, List.forall_mem_cons.mpr ⟨mcd_46, List.forall_mem_cons.mpr ⟨mcd_47, fun _ h => absurd h List.not_mem_nil⟩⟩⟩⟩⟩⟩⟩⟩⟩⟩⟩⟩⟩⟩⟩⟩
theorem mcc_3 : ∀ me ∈ ([mj_r48, mj_r49, mj_r50, mj_r51, mj_r52, mj_r53, mj_r54, mj_r55, mj_r56, mj_r57, mj_r58, mj_r59, mj_r60, mj_r61, mj_r62, mj_r63] : List mj_I), mj_cdk me := List.forall_mem_cons.mpr ⟨mcd_48, List.forall_mem_cons.mpr ⟨mcd_49, List.forall_mem_cons.mpr ⟨mcd_50, List.forall_mem_cons.mpr ⟨mcd_51, List.forall_mem_cons.mpr ⟨mcd_52, List.forall_mem_cons.mpr ⟨mcd_53, List.forall_mem_cons.mpr ⟨mcd_54, List.forall_mem_cons.mpr ⟨mcd_55, List.forall_mem_cons.mpr ⟨mcd_56, List.forall_mem_cons.mpr ⟨mcd_57, List.forall_mem_cons.mpr ⟨mcd_58, List.forall_mem_cons.mpr ⟨mcd_59, List.forall_mem_cons.mpr ⟨mcd_60, List.forall_mem_cons.mpr ⟨mcd_61, List.forall_mem_cons.mpr ⟨mcd_62, List.forall_mem_cons.mpr ⟨mcd_63, fun _ h => absurd h List.not_mem_nil⟩⟩⟩⟩⟩⟩⟩⟩⟩⟩⟩⟩⟩⟩⟩⟩
theorem mcc_4 : ∀ me ∈ ([mj_r64, mj_r65, mj_r66, mj_r67, mj_r68, mj_r69, mj_r70, mj_r71, mj_r72, mj_r73, mj_r74, mj_r75, mj_r76, mj_r77, mj_r78, mj_r79] : List mj_I), mj_cdk me := List.forall_mem_cons.mpr ⟨mcd_64, List.forall_mem_cons.mpr ⟨mcd_65, List.forall_mem_cons.mpr ⟨mcd_66, List.forall_mem_cons.mpr ⟨mcd_67, List.forall_mem_cons.mpr ⟨mcd_68, List.forall_mem_cons.mpr ⟨mcd_69, List.forall_mem_cons.mpr ⟨mcd_70, List.forall_mem_cons.mpr ⟨mcd_71, List.forall_mem_cons.mpr ⟨mcd_72, List.forall_mem_cons.mpr ⟨mcd_73, List.forall_mem_cons.mpr ⟨mcd_74, List.forall_mem_cons.mpr ⟨mcd_75, List.forall_mem_cons.mpr ⟨mcd_76, List.forall_mem_cons.mpr ⟨mcd_77, List.forall_mem_cons.mpr ⟨mcd_78, List.forall_mem_cons.mpr ⟨mcd_79, fun _ h => absurd h List.not_mem_nil⟩⟩⟩⟩⟩⟩⟩⟩⟩⟩⟩⟩⟩⟩⟩⟩
theorem mcc_5 : ∀ me ∈ ([mj_r80, mj_r81, mj_r82, mj_r83, mj_r84, mj_r85, mj_r86, mj_r87, mj_r88, mj_r89, mj_r90, mj_r91, mj_r92, mj_r93, mj_r94, mj_r95] : List mj_I), mj_cdk me := List.forall_mem_cons.mpr ⟨mcd_80, List.forall_mem_cons.mpr ⟨mcd_81, List.forall_mem_cons.mpr ⟨mcd_82, List.forall_mem_cons.mpr ⟨mcd_83, List.forall_mem_cons.mpr ⟨mcd_84, List.forall_mem_cons.mpr ⟨mcd_85, List.forall_mem_cons.mpr ⟨mcd_86, List.forall_mem_cons.mpr ⟨mcd_87, List.forall_mem_cons.mpr ⟨mcd_88, List.forall_mem_cons.mpr ⟨mcd_89, List.forall_mem_cons.mpr ⟨mcd_90, List.forall_mem_cons.mpr ⟨mcd_91, List.forall_mem_cons.mpr ⟨mcd_92, List.forall_mem_cons.mpr ⟨mcd_93, List.forall_mem_cons.mpr ⟨mcd_94, List.forall_mem_cons.mpr ⟨mcd_95, fun _ h => absurd h List.not_mem_nil⟩⟩⟩⟩⟩⟩⟩⟩⟩⟩⟩⟩⟩⟩⟩⟩
theorem mcc_6 : ∀ me ∈ ([mj_r96, mj_r97, mj_r98, mj_r99, mj_r100, mj_r101, mj_r102, mj_r103, mj_r104, mj_r105, mj_r106, mj_r107, mj_r108, mj_r109, mj_r110, mj_r111] : List mj_I), mj_cdk me := List.forall_mem_cons.mpr ⟨mcd_96, List.forall_mem_cons.mpr ⟨mcd_97, List.forall_mem_cons.mpr ⟨mcd_98, List.forall_mem_cons.mpr ⟨mcd_99, List.forall_mem_cons.mpr ⟨mcd_100, List.forall_mem_cons.mpr ⟨mcd_101, List.forall_mem_cons.mpr ⟨mcd_102, List.forall_mem_cons.mpr ⟨mcd_103, List.forall_mem_cons.mpr ⟨mcd_104, List.forall_mem_cons.mpr ⟨mcd_105, List.forall_mem_cons.mpr ⟨mcd_106, List.forall_mem_cons.mpr ⟨mcd_107, List.forall_mem_cons.mpr ⟨mcd_108, List.forall_mem_cons.mpr ⟨mcd_109, List.forall_mem_cons.mpr ⟨mcd_110, List.forall_mem_cons.mpr ⟨mcd_111, fun _ h => absurd h List.not_mem_nil⟩⟩⟩⟩⟩⟩⟩⟩⟩⟩⟩⟩⟩⟩⟩⟩
theorem mcc_7 : ∀ me ∈ ([mj_r112, mj_r113, mj_r114, mj_r115, mj_r116, mj_r117, mj_r118, mj_r119, mj_r120, mj_r121, mj_r122, mj_r123, mj_r124, mj_r125, mj_r126, mj_r127] : List mj_I), mj_cdk me := List.forall_mem_cons.mpr ⟨mcd_112, List.forall_mem_cons.mpr ⟨mcd_113, List.forall_mem_cons.mpr ⟨mcd_114, List.forall_mem_cons.mpr ⟨mcd_115, List.forall_mem_cons.mpr ⟨mcd_116, List.forall_mem_cons.mpr ⟨mcd_117, List.forall_mem_cons.mpr ⟨mcd_118, List.forall_mem_cons.mpr ⟨mcd_119, List.forall_mem_cons.mpr ⟨mcd_120, List.forall_mem_cons.mpr ⟨mcd_121, List.forall_mem_cons.mpr ⟨mcd_122, List.forall_mem_cons.mpr ⟨mcd_123, List.forall_mem_cons.mpr ⟨mcd_124, List.forall_mem_cons.mpr ⟨mcd_125, List.forall_mem_cons.mpr ⟨mcd_126, List.forall_mem_cons.mpr ⟨mcd_127, fun _ h => absurd h List.not_mem_nil⟩⟩⟩⟩⟩⟩⟩⟩⟩⟩⟩⟩⟩⟩⟩⟩
theorem mcc_8 : ∀ me ∈ ([mj_r128, mj_r129, mj_r130, mj_r131, mj_r132, mj_r133, mj_r134, mj_r135, mj_r136, mj_r137, mj_r138, mj_r139, mj_r140, mj_r141, mj_r142, mj_r143] : List mj_I), mj_cdk me := List.forall_mem_cons.mpr ⟨mcd_128, List.forall_mem_cons.mpr ⟨mcd_129, List.forall_mem_cons.mpr ⟨mcd_130, List.forall_mem_cons.mpr ⟨mcd_131, List.forall_mem_cons.mpr ⟨mcd_132, List.forall_mem_cons.mpr ⟨mcd_133, List.forall_mem_cons.mpr ⟨mcd_134, List.forall_mem_cons.mpr ⟨mcd_135, List.forall_mem_cons.mpr ⟨mcd_136, List.forall_mem_cons.mpr ⟨mcd_137, List.forall_mem_cons.mpr ⟨mcd_138, List.forall_mem_cons.mpr ⟨mcd_139, List.forall_mem_cons.mpr ⟨mcd_140, List.forall_mem_cons.mpr ⟨mcd_141, List.forall_mem_cons.mpr ⟨mcd_142, List.forall_mem_cons.mpr ⟨mcd_143, fun _ h => absurd h List.not_mem_nil⟩⟩⟩⟩⟩⟩⟩⟩⟩⟩⟩⟩⟩⟩⟩⟩
theorem mcc_9 : ∀ me ∈ ([mj_r144, mj_r145, mj_r146, mj_r147, mj_r148, mj_r149, mj_r150, mj_r151, mj_r152, mj_r153, mj_r154, mj_r155, mj_r156, mj_r157, mj_r158, mj_r159] : List mj_I), mj_cdk me := List.forall_mem_cons.mpr ⟨mcd_144, List.forall_mem_cons.mpr ⟨mcd_145, List.forall_mem_cons.mpr ⟨mcd_146, List.forall_mem_cons.mpr ⟨mcd_147, List.forall_mem_cons.mpr ⟨mcd_148, List.forall_mem_cons.mpr ⟨mcd_149, List.forall_mem_cons.mpr ⟨mcd_150, List.forall_mem_cons.mpr ⟨mcd_151, List.forall_mem_cons.mpr ⟨mcd_152, List.forall_mem_cons.mpr ⟨mcd_153, List.forall_mem_cons.mpr ⟨mcd_154, List.forall_mem_cons.mpr ⟨mcd_155, List.forall_mem_cons.mpr ⟨mcd_156, List.forall_mem_cons.mpr ⟨mcd_157, List.forall_mem_cons.mpr ⟨mcd_158, List.forall_mem_cons.mpr ⟨mcd_159, fun _ h => absurd h List.not_mem_nil⟩⟩⟩⟩⟩⟩⟩⟩⟩⟩⟩⟩⟩⟩⟩⟩
theorem mcc_10 : ∀ me ∈ ([mj_r160, mj_r161, mj_r162, mj_r163, mj_r164, mj_r165, mj_r166, mj_r167, mj_r168, mj_r169, mj_r170, mj_r171, mj_r172, mj_r173, mj_r174, mj_r175] : List mj_I), mj_cdk me := List.forall_mem_cons.mpr ⟨mcd_160, List.forall_mem_cons.mpr ⟨mcd_161, List.forall_mem_cons.mpr ⟨mcd_162, List.forall_mem_cons.mpr ⟨mcd_163, List.forall_mem_cons.mpr ⟨mcd_164, List.forall_mem_cons.mpr ⟨mcd_165, List.forall_mem_cons.mpr ⟨mcd_166, List.forall_mem_cons.mpr ⟨mcd_167, List.forall_mem_cons.mpr ⟨mcd_168, List.forall_mem_cons.mpr ⟨mcd_169, List.forall_mem_cons.mpr ⟨mcd_170, List.forall_mem_cons.mpr ⟨mcd_171, List.forall_mem_cons.mpr ⟨mcd_172, List.forall_mem_cons.mpr ⟨mcd_173, List.forall_mem_cons.mpr ⟨mcd_174, List.forall_mem_cons.mpr ⟨mcd_175, fun _ h => absurd h List.not_mem_nil⟩⟩⟩⟩⟩⟩⟩⟩⟩⟩⟩⟩⟩⟩⟩⟩
theorem mcc_11 : ∀ me ∈ ([mj_r176, mj_r177, mj_r178, mj_r179, mj_r180, mj_r181, mj_r182, mj_r183, mj_r184, mj_r185, mj_r186, mj_r187, mj_r188, mj_r189, mj_r190, mj_r191] : List mj_I), mj_cdk me := List.forall_mem_cons.mpr ⟨mcd_176, List.forall_mem_cons.mpr ⟨mcd_177, List.forall_mem_cons.mpr ⟨mcd_178, List.forall_mem_cons.mpr ⟨mcd_179, List.forall_mem_cons.mpr ⟨mcd_180, List.forall_mem_cons.mpr ⟨mcd_181, List.forall_mem_cons.mpr ⟨mcd_182, List.forall_mem_cons.mpr ⟨mcd_183, List.forall_mem_cons.mpr ⟨mcd_184, List.forall_mem_cons.mpr ⟨mcd_185, List.forall_mem_cons.mpr ⟨mcd_186, List.forall_mem_cons.mpr ⟨mcd_187, List.forall_mem_cons.mpr ⟨mcd_188, List.forall_mem_cons.mpr ⟨mcd_189, List.forall_mem_cons.mpr ⟨mcd_190, List.forall_mem_cons.mpr ⟨mcd_191, fun _ h => absurd h List.not_mem_nil⟩⟩⟩⟩⟩⟩⟩⟩⟩⟩⟩⟩⟩⟩⟩⟩
theorem mcc_12 : ∀ me ∈ ([mj_r192, mj_r193, mj_r194, mj_r195, mj_r196, mj_r197, mj_r198, mj_r199, mj_r200, mj_r201, mj_r202, mj_r203, mj_r204, mj_r205, mj_r206, mj_r207] : List mj_I), mj_cdk me := List.forall_mem_cons.mpr ⟨mcd_192, List.forall_mem_cons.mpr ⟨mcd_193, List.forall_mem_cons.mpr ⟨mcd_194, List.forall_mem_cons.mpr ⟨mcd_195, List.forall_mem_cons.mpr ⟨mcd_196, List.forall_mem_cons.mpr ⟨mcd_197, List.forall_mem_cons.mpr ⟨mcd_198, List.forall_mem_cons.mpr ⟨mcd_199, List.forall_mem_cons.mpr ⟨mcd_200, List.forall_mem_cons.mpr ⟨mcd_201, List.forall_mem_cons.mpr ⟨mcd_202, List.forall_mem_cons.mpr ⟨mcd_203, List.forall_mem_cons.mpr ⟨mcd_204, List.forall_mem_cons.mpr ⟨mcd_205, List.forall_mem_cons.mpr ⟨mcd_206, List.forall_mem_cons.mpr ⟨mcd_207, fun _ h => absurd h List.not_mem_nil⟩⟩⟩⟩⟩⟩⟩⟩⟩⟩⟩⟩⟩⟩⟩⟩
theorem mcc_13 : ∀ me ∈ ([mj_r208, mj_r209, mj_r210, mj_r211, mj_r212, mj_r213, mj_r214, mj_r215, mj_r216, mj_r217, mj_r218, mj_r219, mj_r220, mj_r221, mj_r222, mj_r223] : List mj_I), mj_cdk me := List.forall_mem_cons.mpr ⟨mcd_208, List.forall_mem_cons.mpr ⟨mcd_209, List.forall_mem_cons.mpr ⟨mcd_210, List.forall_mem_cons.mpr ⟨mcd_211, List.forall_mem_cons.mpr ⟨mcd_212, List.forall_mem_cons.mpr ⟨mcd_213, List.forall_mem_cons.mpr ⟨mcd_214, List.forall_mem_cons.mpr ⟨mcd_215, List.forall_mem_cons.mpr ⟨mcd_216, List.forall_mem_cons.mpr ⟨mcd_217, List.forall_mem_cons.mpr ⟨mcd_218, List.forall_mem_cons.mpr ⟨mcd_219, List.forall_mem_cons.mpr ⟨mcd_220, List.forall_mem_cons.mpr ⟨mcd_221, List.forall_mem_cons.mpr ⟨mcd_222, List.forall_mem_cons.mpr ⟨mcd_223, fun _ h => absurd h List.not_mem_nil⟩⟩⟩⟩⟩⟩⟩⟩⟩⟩⟩⟩⟩⟩⟩⟩
theorem mcc_14 : ∀ me ∈ ([mj_r224, mj_r225, mj_r226, mj_r227, mj_r228, mj_r229, mj_r230, mj_r231, mj_r232, mj_r233, mj_r234, mj_r235, mj_r236, mj_r237, mj_r238, mj_r239] : List mj_I), mj_cdk me := List.forall_mem_cons.mpr ⟨mcd_224, List.forall_mem_cons.mpr ⟨mcd_225, List.forall_mem_cons.mpr ⟨mcd_226, List.forall_mem_cons.mpr ⟨mcd_227, List.forall_mem_cons.mpr ⟨mcd_228, List.forall_mem_cons.mpr ⟨mcd_229, List.forall_mem_cons.mpr ⟨mcd_230, List.forall_mem_cons.mpr ⟨mcd_231, List.forall_mem_cons.mpr ⟨mcd_232, List.forall_mem_cons.mpr ⟨mcd_233, List.forall_mem_cons.mpr ⟨mcd_234, List.forall_mem_cons.mpr ⟨mcd_235, List.forall_mem_cons.mpr ⟨mcd_236, List.forall_mem_cons.mpr ⟨mcd_237, List.forall_mem_cons.mpr ⟨mcd_238, List.forall_mem_cons.mpr ⟨mcd_239, fun _ h => absurd h List.not_mem_nil⟩⟩⟩⟩⟩⟩⟩⟩⟩⟩⟩⟩⟩⟩⟩⟩
theorem mcc_15 : ∀ me ∈ ([mj_r240] : List mj_I), mj_cdk me := List.forall_mem_cons.mpr ⟨mcd_240, fun _ h => absurd h List.not_mem_nil⟩
theorem mj_cd_ok : ∀ me ∈ mj_tab, mj_cdk me := by
  rw [mj_tab_ch]
  exact List.forall_mem_append.mpr ⟨mcc_0, List.forall_mem_append.mpr ⟨mcc_1, List.forall_mem_append.mpr ⟨mcc_2, List.forall_mem_append.mpr ⟨mcc_3, List.forall_mem_append.mpr ⟨mcc_4, List.forall_mem_append.mpr ⟨mcc_5, List.forall_mem_append.mpr ⟨mcc_6, List.forall_mem_append.mpr ⟨mcc_7, List.forall_mem_append.mpr ⟨mcc_8, List.forall_mem_append.mpr ⟨mcc_9, List.forall_mem_append.mpr ⟨mcc_10, List.forall_mem_append.mpr ⟨mcc_11, List.forall_mem_append.mpr ⟨mcc_12, List.forall_mem_append.mpr ⟨mcc_13, List.forall_mem_append.mpr ⟨mcc_14, mcc_15⟩⟩⟩⟩⟩⟩⟩⟩⟩⟩⟩⟩⟩⟩⟩
theorem mj_w_smax : .static Lib.Math.max.name ∈ mj_w0 := mj_w0_in 454 (by decide +kernel) rfl
theorem mj_w_cmax : .code Lib.Math.max.name Lib.Math.max.code 2 (some .int) ∈ mj_w0 := mj_w0_in 455 (by decide +kernel) rfl
theorem mj_w_smin : .static Lib.Math.min.name ∈ mj_w0 := mj_w0_in 457 (by decide +kernel) rfl
theorem mj_w_cmin : .code Lib.Math.min.name Lib.Math.min.code 2 (some .int) ∈ mj_w0 := mj_w0_in 458 (by decide +kernel) rfl
theorem mj_w_math : .initialized "java/lang/Math" ∈ mj_w0 := mj_w0_in 99 (by decide +kernel) rfl
theorem mj_w_nat : .native arraycopyName ∈ mj_w0 := mj_w0_in 595 (by decide +kernel) rfl
theorem mj_w_sta : .static arraycopyName ∈ mj_w0 := mj_w0_in 594 (by decide +kernel) rfl
theorem mj_w_sys : .initialized "java/lang/System" ∈ mj_w0 := mj_w0_in 103 (by decide +kernel) rfl
