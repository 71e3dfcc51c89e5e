def mv_Qt (a k : Nat) : Prop := (a = 21 ∧ k = 1) ∨ (a = 45 ∧ k = 5) ∨ a = 22 ∨ a = 50
theorem mq_sh8 : ∀ j, j < 4 → (nI (8 * j) &&& 31) = nI (8 * j) := by decide
theorem mq_byte8 (x : Int32) : x.toInt8.toInt32 &&& 255 = x &&& 255 := by
  apply Int32.toBitVec_inj.mp
  apply BitVec.eq_of_getLsbD_eq
  intro i hi
  simp only [Int32.toBitVec_and, Int8.toBitVec_toInt32, Int32.toBitVec_toInt8, BitVec.getLsbD_and]
  by_cases h : i < 8
  · rw [BitVec.getLsbD_signExtend]
    simp [h, hi, BitVec.getElem_signExtend]
  · have : (255 : Int32).toBitVec.getLsbD i = false := by
      rw [show (255 : Int32).toBitVec = BitVec.ofNat 32 255 from rfl, BitVec.getLsbD_ofNat]
      have : Nat.testBit 255 i = false := Nat.testBit_lt_two_pow (Nat.lt_of_lt_of_le (by decide : 255 < 2 ^ 8) (Nat.pow_le_pow_right (by decide) (by omega)))
      simp [this]
    rw [this]
    simp
section MV13
variable {sl d : Nat} {M : mj_M} {mo : Nat → Option Nat} {cs : mv_CS}
theorem c_addInt {n : Nat} {x : Int32} (hn : n + 4 ≤ 260) (h : M 21 1 = nI n) : ∃ M1, mj_C sl d i_X7_addInt [.ref 21, .int x] M = some (0, M1) ∧ mv_fr (fun a k => (a = 21 ∧ k = 1) ∨ a = 22) M M1 ∧ M1 21 1 = nI (n + 4) ∧ ∀ j, M1 22 j = if n ≤ j ∧ j < n + 4 then (x >>> (nI (8 * (3 - (j - n))) &&& 31)) &&& 255 else M 22 j := by
  rw [b_X7_addInt]
  have L : ∀ i, i ≤ 4 → ∀ M', mv_fr (fun a k => (a = 21 ∧ k = 1) ∨ a = 22) M M' → M' 21 1 = nI (n + i) → (∀ j, M' 22 j = if n ≤ j ∧ j < n + i then (x >>> (nI (8 * (3 - (j - n))) &&& 31)) &&& 255 else M 22 j) → ∃ M1, mj_E sl d i_X7_addInt 3 [.ref 21, .int x, .int (nI (32 - 8 * i) - 8)] [] M' = some (0, M1) ∧ mv_fr (fun a k => (a = 21 ∧ k = 1) ∨ a = 22) M M1 ∧ M1 21 1 = nI (n + 4) ∧ ∀ j, M1 22 j = if n ≤ j ∧ j < n + 4 then (x >>> (nI (8 * (3 - (j - n))) &&& 31)) &&& 255 else M 22 j := by
    refine mq_up ?_ ?_
    · intro M' f e1 e2
      exact ⟨M', by rw [b_X7_addInt_3, if_pos (by decide)], f, e1, e2⟩
    · intro i hi ih M' f e1 e2
      have es : nI (32 - 8 * i) - 8 = nI (8 * (3 - i)) := by
        rw [s_subL (by omega)]
        congr 1
        omega
      have en : nI (8 * (3 - i)) + (-8) = nI (32 - 8 * (i + 1)) - 8 := by
        rw [show 8 * (3 - i) = 32 - 8 * (i + 1) from by omega, Int32.sub_eq_add_neg]
      rw [es, b_X7_addInt_3]
      simp (disch := omega) only [s_lt0, if_false, e1, s_ltL, Nat.not_lt_zero, show n + i < 260 from by omega, if_true, s_in, s_cl, mq_st_ne, s_addL]
      rw [en]
      refine ih _ ((f.st (Or.inr rfl)).st (Or.inl ⟨rfl, rfl⟩)) ?_ (fun j => ?_)
      · rw [mq_st_eq]; rfl
      · rw [mq_st_ne (by omega)]
        by_cases hj : j = n + i
        · rw [hj, mq_st_eq, if_pos ⟨by omega, by omega⟩, show n + i - n = i from by omega]
        · rw [mq_st_ne (Or.inr hj), e2 j]
          by_cases h2 : n ≤ j ∧ j < n + i
          · rw [if_pos h2, if_pos ⟨h2.1, by omega⟩]
          · rw [if_neg h2, if_neg (by omega)]
  have h0 := L 0 (by omega) M mv_fr.rf h (fun j => by rw [if_neg (by omega)])
  exact h0
theorem r_types {n : Nat} {x : Int32} (hn : n + 4 ≤ 260) (h : M 45 5 = nI n) : ∃ M1, mj_C sl d i_X9_types [.ref 45, .int x] M = some (0, M1) ∧ mv_fr (fun a k => (a = 45 ∧ k = 5) ∨ a = 50) M M1 ∧ M1 45 5 = nI (n + 4) ∧ ∀ j, M1 50 j &&& 255 = if n ≤ j ∧ j < n + 4 then (x >>> (nI (8 * (3 - (j - n))) &&& 31)) &&& 255 else M 50 j &&& 255 := by
  rw [b_X9_types]
  have L : ∀ i, i ≤ 4 → ∀ M', mv_fr (fun a k => (a = 45 ∧ k = 5) ∨ a = 50) M M' → M' 45 5 = nI (n + i) → (∀ j, M' 50 j &&& 255 = if n ≤ j ∧ j < n + i then (x >>> (nI (8 * (3 - (j - n))) &&& 31)) &&& 255 else M 50 j &&& 255) → ∃ M1, mj_E sl d i_X9_types 2 [.ref 45, .int x, .int (nI (4 - i) - 1)] [] M' = some (0, M1) ∧ mv_fr (fun a k => (a = 45 ∧ k = 5) ∨ a = 50) M M1 ∧ M1 45 5 = nI (n + 4) ∧ ∀ j, M1 50 j &&& 255 = if n ≤ j ∧ j < n + 4 then (x >>> (nI (8 * (3 - (j - n))) &&& 31)) &&& 255 else M 50 j &&& 255 := by
    refine mq_up ?_ ?_
    · intro M' f e1 e2
      exact ⟨M', by rw [b_X9_types_2, if_pos (by decide)], f, e1, e2⟩
    · intro i hi ih M' f e1 e2
      have es : nI (4 - i) - 1 = nI (3 - i) := by
        rw [s_subL (by omega)]
        congr 1
        omega
      have en : nI (3 - i) + (-1) = nI (4 - (i + 1)) - 1 := by
        rw [show 4 - (i + 1) = 3 - i from by omega, Int32.sub_eq_add_neg]
      rw [es, b_X9_types_2]
      simp (disch := omega) only [s_lt0, if_false, e1, s_ltL, Nat.not_lt_zero, if_true, s_in, s_cl, mq_st_ne, s_addL, s_Lmul]
      rw [en]
      refine ih _ ((f.st (Or.inr rfl)).st (Or.inl ⟨rfl, rfl⟩)) ?_ (fun j => ?_)
      · rw [mq_st_eq]; rfl
      · rw [mq_st_ne (by omega)]
        by_cases hj : j = n + i
        · rw [hj, mq_st_eq, if_pos ⟨by omega, by omega⟩, show n + i - n = i from by omega, mq_byte8, mq_byte8]
        · rw [mq_st_ne (Or.inr hj), e2 j]
          by_cases h2 : n ≤ j ∧ j < n + i
          · rw [if_pos h2, if_pos ⟨h2.1, by omega⟩]
          · rw [if_neg h2, if_neg (by omega)]
  have h0 := L 0 (by omega) M mv_fr.rf h (fun j => by rw [if_neg (by omega)])
  exact h0
theorem p_feed {n : Nat} {tp : Nat → Nat} {x1 x2 x3 x4 x5 : Int32} (T : mv_Tp M n tp) : ∃ v M1 M2, mj_C sl (d + 1) i_X8_feed [.ref 0, .int x1, .int x2, .int x3, .int x4, .int x5] M = some (v, M1) ∧ M1 72 = M 72 ∧ mj_C sl (d + 1) i_X9_feed [.ref 45, .int x1, .int x2, .int x3, .int x4, .int x5] M1 = some (v, M2) ∧ mv_fr mv_Qt M M2 ∧ ∃ n' tp', mv_Tp M2 n' tp' := by
  obtain ⟨t1, t2, t3, t4⟩ := id T
  rw [b_X8_feed, b_X7_hasRoom]
  by_cases hn : n + 20 ≤ 260
  · obtain ⟨A1, e1, f1, n1, v1⟩ := c_addInt (sl := sl) (d := d) (M := M) (n := n) (x := x1) (by omega) t1
    obtain ⟨A2, e2, f2, n2, v2⟩ := c_addInt (sl := sl) (d := d) (M := A1) (n := n + 4) (x := x2) (by omega) n1
    obtain ⟨A3, e3, f3, n3, v3⟩ := c_addInt (sl := sl) (d := d) (M := A2) (n := n + 4 + 4) (x := x3) (by omega) n2
    obtain ⟨A4, e4, f4, n4, v4⟩ := c_addInt (sl := sl) (d := d) (M := A3) (n := n + 4 + 4 + 4) (x := x4) (by omega) n3
    obtain ⟨A5, e5, f5, n5, v5⟩ := c_addInt (sl := sl) (d := d) (M := A4) (n := n + 4 + 4 + 4 + 4) (x := x5) (by omega) n4
    have fA := (((f1.tr f2).tr f3).tr f4).tr f5
    have t2' : A5 45 5 = nI n := by rw [fA 45 5 (by omega)]; exact t2
    obtain ⟨B1, e6, f6, n6, v6⟩ := r_types (sl := sl) (d := d) (M := A5) (n := n) (x := x1) (by omega) t2'
    obtain ⟨B2, e7, f7, n7, v7⟩ := r_types (sl := sl) (d := d) (M := B1) (n := n + 4) (x := x2) (by omega) n6
    obtain ⟨B3, e8, f8, n8, v8⟩ := r_types (sl := sl) (d := d) (M := B2) (n := n + 4 + 4) (x := x3) (by omega) n7
    obtain ⟨B4, e9, f9, n9, v9⟩ := r_types (sl := sl) (d := d) (M := B3) (n := n + 4 + 4 + 4) (x := x4) (by omega) n8
    obtain ⟨B5, e10, f10, n10, v10⟩ := r_types (sl := sl) (d := d) (M := B4) (n := n + 4 + 4 + 4 + 4) (x := x5) (by omega) n9
    have fB := (((f6.tr f7).tr f8).tr f9).tr f10
    have gA : mv_fr mv_Qt M A5 := fA.wk (fun a k z => by unfold mv_Qt; omega)
    have gB : mv_fr mv_Qt M B5 := gA.tr (fB.wk (fun a k z => by unfold mv_Qt; omega))
    refine ⟨nI (n + 20), A5, B5, ?_, mq_72 gA (fun k z => by unfold mv_Qt at z; omega), ?_, gB, n + 20, fun j => (B5 50 j).toBitVec.toNat % 2 ^ 8, ?_, n10, hn, fun j hj => ⟨Nat.mod_lt _ (by decide), ?_, pk_and _ 8 (by decide)⟩⟩
    · simp (disch := omega) only [t1, s_addL, s_leL, hn, if_true, Option.bind_some, s_10, if_false, e1, e2, e3, e4, e5, n5]
    · rw [b_X9_feed]
      simp (disch := omega) only [t2', s_addL, s_leL, hn, if_true, Option.bind_some, e6, e7, e8, e9, e10, n10]
    · rw [fB 21 1 (by omega)]; exact n5
    · have eb : M 22 j = A5 50 j &&& 255 := by
        rw [fA 50 j (by omega), (t4 j hj).2.1, (t4 j hj).2.2]
      have e : B5 22 j = B5 50 j &&& 255 := by
        rw [fB 22 j (by omega), v5 j, v4 j, v3 j, v2 j, v1 j, v10 j, v9 j, v8 j, v7 j, v6 j, eb]
      rw [e]
      exact pk_and _ 8 (by decide)
  · refine ⟨-1, M, M, ?_, rfl, ?_, mv_fr.rf, n, tp, T⟩
    · simp (disch := omega) only [t1, s_addL, s_leL, hn, if_true, Option.bind_some, if_false]
    · rw [b_X9_feed]
      simp (disch := omega) only [t2, s_addL, s_leL, hn, if_false]
theorem c_byteAt {n j : Nat} {tp : Nat → Nat} (T : mv_Tp M n tp) (hj : j < 260) : mj_C sl d i_X7_byteAt [.ref 21, .int (nI j)] M = some (nI (tp j), M) := by
  rw [b_X7_byteAt]
  simp (disch := omega) only [s_ltL, Nat.not_lt_zero, s_lt0, hj, if_true, if_false, s_in, s_cl, (T.2.2.2 j hj).2.1]
theorem r_octet {n j : Nat} {tp : Nat → Nat} (T : mv_Tp M n tp) (hj : j < 260) : mj_C sl d i_X9_octet [.ref 45, .int (nI j)] M = some (nI (tp j), M) := by
  rw [b_X9_octet]
  simp (disch := omega) only [hj, if_true, s_in, s_cl, (T.2.2.2 j hj).2.2]
def mv_Qn (a k : Nat) : Prop := (a = 21 ∧ k = 1) ∨ (a = 45 ∧ k = 5)
theorem mv_Tp.empty {n : Nat} {tp : Nat → Nat} (T : mv_Tp M n tp) : mv_Tp (mj_st (mj_st M 21 1 0) 45 5 0) 0 tp := by
  refine ⟨?_, ?_, by omega, fun j hj => ?_⟩
  · rw [mq_st_ne (by omega), mq_st_eq]; rfl
  · rw [mq_st_eq]; rfl
  · rw [mq_st_ne (by omega), mq_st_ne (by omega), mq_st_ne (by omega), mq_st_ne (by omega)]
    exact T.2.2.2 j hj
theorem p_check {n : Nat} {tp : Nat → Nat} {x : Int32} (B : mv_B M mo cs) (T : mv_Tp M n tp) : ∃ v M1 M2, mj_C sl (d + 3) i_X8_check [.ref 0, .int x] M = some (v, M1) ∧ M1 72 = M 72 ∧ mj_C sl (d + 3) i_X9_check [.ref 45, .int x] M1 = some (v, M2) ∧ mv_fr mv_Qn M M2 ∧ ∃ n', mv_Tp M2 n' tp := by
  obtain ⟨t1, t2, t3, t4⟩ := id T
  have no : ∀ h : x < 0 ∨ ¬ x ≤ 10 ∨ ¬ x ≤ nI n, ∃ v M1 M2, mj_C sl (d + 3) i_X8_check [.ref 0, .int x] M = some (v, M1) ∧ M1 72 = M 72 ∧ mj_C sl (d + 3) i_X9_check [.ref 45, .int x] M1 = some (v, M2) ∧ mv_fr mv_Qn M M2 ∧ ∃ n', mv_Tp M2 n' tp := by
    intro h
    refine ⟨-2, M, M, ?_, rfl, ?_, mv_fr.rf, n, T⟩
    · rw [b_X8_check, b_X7_has, t1]
      by_cases h0 : x < 0
      · simp only [h0, if_true, Option.bind_some]
      by_cases h1 : x ≤ 10
      · by_cases h2 : x ≤ nI n
        · exact (h.elim (fun q => absurd q h0) (fun z => z.elim (fun q => absurd h1 q) (fun q => absurd h2 q)))
        · simp only [h0, h1, h2, if_true, if_false, Option.bind_some]
      · simp only [h0, h1, if_true, if_false, Option.bind_some]
    · rw [b_X9_check, r_in]
      by_cases h0 : x < 0
      · simp only [h0, if_true, Option.bind_some]
      by_cases h1 : x ≤ 10
      · by_cases h2 : x ≤ nI n
        · exact (h.elim (fun q => absurd q h0) (fun z => z.elim (fun q => absurd h1 q) (fun q => absurd h2 q)))
        · simp only [h0, h1, h2, t2, if_true, if_false, Option.bind_some, s_10]
      · simp only [h0, h1, if_true, if_false, Option.bind_some]
  by_cases h0 : x < 0
  · exact no (Or.inl h0)
  by_cases h1 : x ≤ 10
  · by_cases h2 : x ≤ nI n
    · clear no
      obtain ⟨g, hg, rfl⟩ := nI_of2 (n := 10) (by decide) h0 h1
      have hgn : g ≤ n := (mq_le (by omega) (by omega)).mp h2
      have f1 : mv_fr mv_Qn M (mj_st M 21 1 0) := mv_fr.st mv_fr.rf (Or.inl ⟨rfl, rfl⟩)
      have f2 : mv_fr mv_Qn M (mj_st (mj_st M 21 1 0) 45 5 0) := f1.st (Or.inr ⟨rfl, rfl⟩)
      have b1 : mv_B (mj_st M 21 1 0) mo cs := B.fr f1 (fun a k z => by unfold mv_Qn at z; omega)
      have b2 : mv_B (mj_st (mj_st M 21 1 0) 45 5 0) mo cs := B.fr f2 (fun a k z => by unfold mv_Qn at z; omega)
      have T2 := T.empty
      have L : ∀ c, c ≤ g → ∀ w : Value, ∃ v, mj_E sl (d + 2 + 1) i_X8_check 27 [.ref 0, .int (nI g), .int (nI c), w] [] (mj_st M 21 1 0) = some (v, mj_st M 21 1 0) ∧ mj_E sl (d + 2 + 1) i_X9_check 28 [.ref 45, .int (nI g), .int (nI c)] [] (mj_st (mj_st M 21 1 0) 45 5 0) = some (v, mj_st (mj_st M 21 1 0) 45 5 0) := by
        refine mq_up ?_ ?_
        · intro w
          rw [b_X8_check_27, b_X9_check_28]
          simp only [Int32.lt_irrefl, if_false]
          exact ⟨_, rfl, rfl⟩
        · intro c hc ih w
          have cb : ∀ sl d, mj_C sl d i_X7_byteAt [.ref 21, .int (nI c)] (mj_st M 21 1 0) = some (nI (tp c), mj_st M 21 1 0) := fun sl d => by
            rw [b_X7_byteAt]
            simp (disch := omega) only [s_ltL, Nat.not_lt_zero, s_lt0, show c < 260 from by omega, if_true, if_false, s_in, s_cl, mq_st_ne, (T.2.2.2 c (by omega)).2.1]
          have tl := (T.2.2.2 c (by omega)).1
          have fl := mv_fl_le mo cs c
          rw [b_X8_check_27, b_X9_check_28]
          simp (disch := omega) only [s_lt, hc, if_true, c_hasC (b := 3) rfl b1.2.2.2.2.1 (show c < 10 from by omega), cb, r_octet T2, r_isTold b2.2.2.2.1 (show c < 10 from by omega), Option.bind_some, s_b0, s_addL]
          cases tc : mv_to cs c with
          | false =>
            simp (disch := omega) only [Bool.false_eq_true, not_false_eq_true, if_true, s_eqL]
            by_cases q : tp c = 0
            · simp only [q, if_true]
              exact ih _
            · simp only [q, if_false]
              exact ⟨_, rfl, rfl⟩
          | true =>
            simp (disch := omega) only [not_true, if_false, c_faultsOf (b := 3) rfl b1.2.1 b1.2.2.1 b1.2.2.2.2.1 b1.2.2.2.2.2 (show c < 10 from by omega), r_faultsOf b2.1 b2.2.2.1 b2.2.2.2.1 b2.2.2.2.2.2 (show c < 10 from by omega), Option.bind_some, cb, s_eq]
            by_cases q : tp c = mv_fl mo cs c
            · simp only [q, if_true]
              exact ih _
            · simp only [q, if_false]
              exact ⟨_, rfl, rfl⟩
      obtain ⟨v, a1, a2⟩ := L 0 (by omega) .null
      refine ⟨v, mj_st M 21 1 0, mj_st (mj_st M 21 1 0) 45 5 0, ?_, rfl, ?_, f2, 0, T2⟩
      · rw [b_X8_check, b_X7_has, t1]
        simp only [h0, h1, h2, if_true, if_false, Option.bind_some, s_10]
        exact a1
      · rw [b_X9_check, r_in]
        simp only [h0, h1, if_true, if_false, Option.bind_some, s_10]
        rw [mq_st_ne (by omega), t2]
        simp only [h2, if_true]
        exact a2
    · exact no (Or.inr (Or.inr h2))
  · exact no (Or.inr (Or.inl h1))
end MV13
