theorem mq_m1 : (-1 : Int32) = nI 4294967295 := by decide
theorem mv_not_bit {S i : Nat} (hi : i < 32) : (S ^^^ 4294967295).testBit i = !S.testBit i := by
  rw [Nat.testBit_xor, show (4294967295 : Nat) = 2 ^ 32 - 1 from rfl, Nat.testBit_two_pow_sub_one]
  simp [hi]
theorem s_n11 : (nI 1 = (1 : Int32)) = True := eq_true rfl
theorem s_n00 : (nI 0 = (0 : Int32)) = True := eq_true rfl
theorem s_n01 : (nI 0 = (1 : Int32)) = False := eq_false (by decide)
theorem s_n10 : (nI 1 = (0 : Int32)) = False := eq_false (by decide)
section MV16
variable {sl d : Nat} {M : mj_M} {mo : Nat → Option Nat} {cs : mv_CS}
theorem c_markNear {dots : Nat} (B : mv_B M mo cs) (hd : dots ≤ 200) : ∃ M1, mj_C sl (d + 3) i_X8_markNear [.ref 0, .int (nI dots)] M = some (0, M1) ∧ mv_fr (fun a _ => a = 36) M M1 ∧ ∀ a, a < 10 → M1 36 a = nI (mv_bits (mv_near mo cs dots a) 10) := by
  have Bf : ∀ M', mv_fr (fun a _ => a = 36) M M' → mv_B M' mo cs := fun M' f => B.fr f (fun a k z => by omega)
  have I : ∀ c, c < 10 → ∀ e, e ≤ 10 → ∀ M', mv_fr (fun a _ => a = 36) M M' → (∀ a, a < c → M' 36 a = nI (mv_bits (mv_near mo cs dots a) 10)) → M' 36 c = nI (mv_bits (mv_near mo cs dots c) e) → ∃ M1, mj_E sl (d + 2 + 1) i_X8_markNear 17 [.ref 0, .int (nI dots), .int (nI c), .int (nI e)] [] M' = mj_E sl (d + 2 + 1) i_X8_markNear 2 [.ref 0, .int (nI dots), .int (nI (c + 1)), .int (nI 10)] [] M1 ∧ mv_fr (fun a _ => a = 36) M M1 ∧ (∀ a, a < c + 1 → M1 36 a = nI (mv_bits (mv_near mo cs dots a) 10)) := by
    intro c hc
    refine mq_up ?_ ?_
    · intro M' f h1 h2
      refine ⟨M', ?_, f, fun a ha => ?_⟩
      · rw [b_X8_markNear_17, if_neg (by decide), nI_1]
      · by_cases q : a = c
        · rw [q]; exact h2
        · exact h1 a (by omega)
    · intro e he ih M' f h1 h2
      obtain ⟨hm, hcm, hw, hr, hcc, hwc⟩ := Bf M' f
      have hle := mv_hS_le mo cs c e 8
      have hl := mv_bits_lt (mv_near mo cs dots c) e
      have hno : mv_near mo cs dots c e = false → mv_bits (mv_near mo cs dots c) (e + 1) = mv_bits (mv_near mo cs dots c) e := fun q => by
        rw [mv_bits, q]
        rfl
      rw [b_X8_markNear_17]
      simp (disch := omega) only [s_ltL, he, if_true, c_hasC (b := 3) rfl hcc hc, c_hasC (b := 3) rfl hcc he, Option.bind_some, s_b0, s_addL]
      cases tc : mv_to cs c with
      | false =>
        simp only [Bool.false_eq_true, not_false_eq_true, if_true]
        exact ih M' f h1 (by rw [hno (by unfold mv_near; rw [tc]; rfl)]; exact h2)
      | true =>
        simp only [not_true, if_false]
        cases te : mv_to cs e with
        | false =>
          simp only [Bool.false_eq_true, not_false_eq_true, if_true]
          exact ih M' f h1 (by rw [hno (by unfold mv_near; rw [tc, te]; rfl)]; exact h2)
        | true =>
          simp (disch := omega) only [not_true, if_false, c_handsApart (q := 3) rfl hcm hw hcc hwc hc he, Option.bind_some, s_le, s_in, s_cl, if_true, mq_one, h2, mq_or]
          by_cases hx : mv_hS mo cs c e 8 ≤ dots
          · rw [if_pos hx]
            refine ih _ (mv_fr.st f rfl) (fun a ha => ?_) ?_
            · rw [mq_st_ne (Or.inr (by omega))]
              exact h1 a ha
            · rw [mq_st_eq, mv_or_pow hl, mv_bits, if_pos (by unfold mv_near; rw [tc, te]; simp [hx])]
          · rw [if_neg hx]
            exact ih M' f h1 (by rw [hno (by unfold mv_near; simp [hx])]; exact h2)
  rw [b_X8_markNear]
  have L : ∀ c, c ≤ 10 → ∀ M' w, mv_fr (fun a _ => a = 36) M M' → (∀ a, a < c → M' 36 a = nI (mv_bits (mv_near mo cs dots a) 10)) → ∃ M1, mj_E sl (d + 2 + 1) i_X8_markNear 2 [.ref 0, .int (nI dots), .int (nI c), w] [] M' = some (0, M1) ∧ mv_fr (fun a _ => a = 36) M M1 ∧ ∀ a, a < 10 → M1 36 a = nI (mv_bits (mv_near mo cs dots a) 10) := by
    refine mq_up ?_ ?_
    · intro M' w f h
      exact ⟨M', by rw [b_X8_markNear_2, if_neg (by decide)], f, h⟩
    · intro c hc ih M' w f h
      rw [b_X8_markNear_2]
      simp (disch := omega) only [s_ltL, hc, if_true, s_in, s_cl]
      obtain ⟨M1, e1, f1, h1⟩ := I c hc 0 (by omega) (mj_st M' 36 c 0) (mv_fr.st f rfl) (fun a ha => by rw [mq_st_ne (Or.inr (by omega))]; exact h a ha) (by rw [mq_st_eq]; rfl)
      obtain ⟨M2, e2, f2, h2⟩ := ih M1 (.int (nI 10)) f1 h1
      have e1' : mj_E sl (d + 2 + 1) 109 17 [.ref 0, .int (nI dots), .int (nI c), .int 0] [] (mj_st M' 36 c 0) = mj_E sl (d + 2 + 1) i_X8_markNear 2 [.ref 0, .int (nI dots), .int (nI (c + 1)), .int (nI 10)] [] M1 := e1
      exact ⟨M2, e1'.trans e2, f2, h2⟩
  exact L 0 (by omega) M .null mv_fr.rf (fun a ha => by omega)
theorem p_alike {x y : Int32} (B : mv_B M mo cs) : ∃ v M1, mj_C sl (d + 4) i_X8_alike [.ref 0, .int x, .int y] M = some (v, M1) ∧ mv_fr mv_Sc M M1 ∧ mj_C sl (d + 4) i_X9_alike [.ref 45, .int x, .int y] M1 = some (v, M1) := by
  obtain ⟨hm, hcm, hw, hr, hcc, hwc⟩ := id B
  by_cases x0 : x < 0
  · refine ⟨-1, M, ?_, mv_fr.rf, ?_⟩
    · rw [b_X8_alike]
      simp only [x0, if_true]
    · rw [b_X9_alike, r_in]
      simp only [x0, if_true, Option.bind_some]
  by_cases x1 : x ≤ 200
  · obtain ⟨dots, hd, rfl⟩ := nI_of2 (n := 200) (by decide) x0 x1
    obtain ⟨M1, e1, f1, n1⟩ := c_markNear (sl := sl) (d := d) B hd
    have g1 : mv_fr mv_Sc M M1 := f1.wk (fun a k z => by unfold mv_Sc; omega)
    have B1 := B.sc g1
    obtain ⟨hm1, hcm1, -, hr1, hcc1, -⟩ := id B1
    have hn : ∀ a, a < 10 → M1 36 a = nI (mv_bits (mv_near mo cs dots a) 10) ∧ mv_bits (mv_near mo cs dots a) 10 < 2 ^ 10 ∧ ∀ b, b < 10 → (mv_bits (mv_near mo cs dots a) 10).testBit b = mv_near mo cs dots a b := fun a ha => ⟨n1 a ha, mv_bits_lt _ _, fun b hb => mv_bits_tb _ hb⟩
    by_cases y1 : y = 100
    · have L : ∀ c, c ≤ 10 → ∀ (found seen left : Nat) (w : Value), seen < 2 ^ 10 → left < 2 ^ 10 → (∀ i, i < 10 → left.testBit i = (mv_to cs i && !seen.testBit i)) → ∃ v, mj_E sl (d + 2 + 1) i_X8_groups 6 [.ref 0, .int (nI found), .int (nI seen), .int (nI c)] [] M1 = some (v, M1) ∧ mj_E sl (d + 3 + 1) i_X9_alike 51 [.ref 45, .int (nI dots), w, .int (nI left), .int (nI found), .int (nI c)] [] M1 = some (v, M1) := by
        refine mq_up ?_ ?_
        · intro found seen left w _ _ _
          rw [b_X8_groups_6, b_X9_alike_51, if_neg (by decide)]
          exact ⟨_, rfl, if_neg (by decide)⟩
        · intro c hc ih found seen left w hs hl hrel
          have hlc := hrel c hc
          rw [b_X8_groups_6, b_X9_alike_51]
          simp (disch := omega) only [s_ltL, hc, if_true, c_hasC (b := 3) rfl hcc1 hc, b_X9_has, mq_bit, s_eqL, Option.bind_some, s_b0, s_addL]
          rw [mq_bt_tb, mq_bt_tb, hlc]
          cases tc : mv_to cs c with
          | false =>
            simp only [Bool.false_and, Bool.false_eq_true, if_false, not_false_eq_true, if_true]
            rw [if_neg (by decide)]
            simp only [Option.bind_some, if_true]
            exact ih _ _ _ _ hs hl hrel
          | true =>
            obtain ⟨S, hS, eS⟩ := c_groupOf (sl := sl) (d := d + 2) (M := M1) hc hn
            obtain ⟨S2, hS2, eS2⟩ := r_groupOf (sl := sl) (d := d) (M := M1) B1 hc tc hd
            have es := hS.un hS2
            subst es
            have hSl := hS.1
            cases sc : seen.testBit c with
            | true =>
              simp only [not_true, if_false, Bool.not_true, Bool.and_false, Bool.false_eq_true, if_true]
              rw [if_neg (by decide), if_neg (by decide)]
              simp only [Option.bind_some, if_true]
              exact ih _ _ _ _ hs hl hrel
            | false =>
              simp only [not_true, if_false, Bool.not_false, Bool.and_true, Bool.false_eq_true, if_true]
              simp only [s_n11, s_n00, if_true, eS, Option.bind_some, s_10, if_false, eS2, mq_or, mq_m1, mq_xor, mq_and]
              refine ih _ _ _ _ (Nat.or_lt_two_pow hs hSl) (Nat.lt_of_le_of_lt Nat.and_le_left hl) (fun i hi => ?_)
              rw [Nat.testBit_and, Nat.testBit_or, mv_not_bit (by omega), hrel i hi]
              cases mv_to cs i <;> cases seen.testBit i <;> cases S.testBit i <;> rfl
      obtain ⟨v, a1, a2⟩ := L 0 (by omega) 0 0 (mv_bits (mv_to cs) 10) (.int y) (by decide) (mv_bits_lt _ _) (fun i hi => by rw [mv_bits_tb _ hi, Nat.zero_testBit]; simp)
      refine ⟨v, M1, ?_, g1, ?_⟩
      · have a1' : mj_E sl (d + 2 + 1) 110 6 [.ref 0, .int 0, .int 0, .int 0] [] M1 = some (v, M1) := a1
        rw [b_X8_alike]
        simp only [x0, x1, y1, if_true, if_false, e1, Option.bind_some, b_X8_groups, a1']
      · have a2' : mj_E sl (d + 3 + 1) 207 51 [.ref 45, .int (nI dots), .int y, .int (nI (mv_bits (mv_to cs) 10)), .int 0, .int 0] [] M1 = some (v, M1) := a2
        rw [y1] at a2'
        rw [b_X9_alike, r_in]
        simp only [x0, x1, y1, if_true, if_false, Option.bind_some, s_10, r_toldSet hr1, a2']
    · rcases mv_toldE y rfl hr hcc with ⟨h1, h2⟩ | ⟨c, hc10, rfl, tc, h1, h2⟩
      · refine ⟨-1, M, ?_, mv_fr.rf, ?_⟩
        · rw [b_X8_alike]
          simp only [x0, x1, y1, h1, if_true, if_false, Option.bind_some]
        · rw [b_X9_alike, r_in]
          simp only [x0, x1, y1, h2, if_true, if_false, Option.bind_some, s_10]
      · obtain ⟨S, hS, eS⟩ := c_groupOf (sl := sl) (d := d + 3) (M := M1) hc10 hn
        obtain ⟨S2, hS2, eS2⟩ := r_groupOf (sl := sl) (d := d) (M := M1) B1 hc10 tc hd
        have es := hS.un hS2
        subst es
        refine ⟨nI S, M1, ?_, g1, ?_⟩
        · rw [b_X8_alike]
          simp only [x0, x1, y1, h1, if_true, if_false, Option.bind_some, s_10, e1, eS]
        · rw [b_X9_alike, r_in]
          simp only [x0, x1, y1, r_isTold hr1 hc10, tc, if_true, if_false, Option.bind_some, s_10, eS2]
  · refine ⟨-1, M, ?_, mv_fr.rf, ?_⟩
    · rw [b_X8_alike]
      simp only [x0, x1, if_true, if_false]
    · rw [b_X9_alike, r_in]
      simp only [x0, x1, if_true, if_false, Option.bind_some]
end MV16
