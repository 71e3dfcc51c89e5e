def mv_Qo (a k : Nat) : Prop := mv_Qn a k ∨ mv_Sc a k
theorem mv_pc_pos {s n : Nat} (hs : s < 2 ^ n) (h : 1 ≤ s) : 1 ≤ mq_pc s n := by
  have q : mv_sub 0 s := fun i hi => by rw [Nat.zero_testBit] at hi; cases hi
  have := mv_sub_lt q (Nat.pow_pos (by decide)) hs (by omega)
  omega
section MV19
variable {sl d : Nat} {M : mj_M} {mo : Nat → Option Nat} {cs : mv_CS}
theorem mv_B.emp (B : mv_B M mo cs) : mv_B (mj_st M 21 1 0) mo cs := B.fr (Q := mv_Qn) (mv_fr.st mv_fr.rf (Or.inl ⟨rfl, rfl⟩)) (fun a k z => by unfold mv_Qn at z; omega)
theorem p_whose {n : Nat} {tp : Nat → Nat} {x y : Int32} (B : mv_B M mo cs) (T : mv_Tp M n tp) : ∃ v M1 M2, mj_C sl (d + 4) i_X8_whose [.ref 0, .int x, .int y] M = some (v, M1) ∧ M1 72 = M 72 ∧ mj_C sl (d + 4) i_X9_whose [.ref 45, .int x, .int y] M1 = some (v, M2) ∧ mv_fr mv_Qo M M2 ∧ ∃ n', mv_Tp M2 n' tp := by
  obtain ⟨hm, hcm, hw, hr, hcc, hwc⟩ := id B
  obtain ⟨t1, t2, t3, t4⟩ := id T
  have hl := mv_bits_lt (fun k => (mo k).isSome) 8
  have e31 : ∀ w3 w4 w5 : Value, mj_E sl (d + 3 + 1) i_X8_whose 31 [.ref 0, .int x, .int y, w3, w4, w5] [] M = some (-1, M) := fun w3 w4 w5 => by
    have ex : x = nI x.toBitVec.toNat := by
      apply Int32.toBitVec_inj.mp
      apply BitVec.eq_of_toNat_eq
      rw [pk_tn x.toBitVec.isLt]
    rw [b_X8_whose_31, ex, c_bitCount x.toBitVec.isLt]
    rfl
  have bad : ∀ h : (y < 0 ∨ ¬ y ≤ 2) ∨ (x ≤ 0 ∨ ¬ x &&& (M 1 1 ^^^ (-1)) = 0), ∃ v M1 M2, mj_C sl (d + 4) i_X8_whose [.ref 0, .int x, .int y] M = some (v, M1) ∧ M1 72 = M 72 ∧ mj_C sl (d + 4) i_X9_whose [.ref 45, .int x, .int y] M1 = some (v, M2) ∧ mv_fr mv_Qo M M2 ∧ ∃ n', mv_Tp M2 n' tp := by
    intro h
    refine ⟨-1, M, M, ?_, rfl, ?_, mv_fr.rf, n, T⟩
    · rw [b_X8_whose]
      by_cases y0 : y < 0
      · rw [if_pos y0]; exact e31 _ _ _
      rw [if_neg y0]
      by_cases y1 : y ≤ 2
      · rw [if_pos y1]
        by_cases x0 : x ≤ 0
        · rw [if_pos x0]; exact e31 _ _ _
        rw [if_neg x0, if_neg]
        · exact e31 _ _ _
        · intro z
          rcases h with h | h <;> rcases h with h | h
          · exact y0 h
          · exact h y1
          · exact x0 h
          · exact h z
      · rw [if_neg y1]; exact e31 _ _ _
    · rw [b_X9_whose, r_in]
      simp only [Option.bind_some]
      by_cases hx1 : x < 1
      · rw [if_pos hx1, if_pos rfl]
      by_cases hx2 : x ≤ 255
      · rw [if_neg hx1, if_pos hx2, if_neg mq_10, r_modelSet hm hw]
        simp only [Option.bind_some]
        by_cases z : x &&& (nI (mv_bits (fun k => (mo k).isSome) 8) ^^^ (-1)) = 0
        · rw [if_pos z, r_in]
          simp only [Option.bind_some]
          by_cases y0 : y < 0
          · rw [if_pos y0, if_pos rfl]
          by_cases y1 : y ≤ 2
          · exfalso
            rcases h with h | h <;> rcases h with h | h
            · exact y0 h
            · exact h y1
            · exact hx1 (Int32.lt_of_le_of_lt h (by decide))
            · rw [hcm.1] at h
              exact h z
          · rw [if_neg y0, if_neg y1, if_pos rfl]
        · rw [if_neg z]
      · rw [if_neg hx1, if_neg hx2, if_pos rfl]
  by_cases y0 : y < 0
  · exact bad (Or.inl (Or.inl y0))
  by_cases y1 : y ≤ 2
  · by_cases x0 : x ≤ 0
    · exact bad (Or.inr (Or.inl x0))
    by_cases xs : x &&& (M 1 1 ^^^ (-1)) = 0
    · clear bad
      have hx0 : ¬ x < 0 := fun z => x0 (Int32.le_of_lt z)
      obtain ⟨s, hs31, rfl⟩ := nI_of hx0
      have hs1 : 1 ≤ s := by
        by_cases q : s = 0
        · exact absurd (by rw [q]; decide) x0
        · omega
      have hsub : mv_sub s (mv_bits (fun k => (mo k).isSome) 8) := by
        rw [hcm.1, mq_m1, mq_xor, mq_and, s_eqL (Nat.lt_of_le_of_lt Nat.and_le_left (by omega)) (by decide)] at xs
        exact (mv_subE (by omega)).mp xs
      have hs : s < 256 := by
        by_cases q : s < 256
        · exact q
        · exfalso
          obtain ⟨i, hi, hb⟩ := Nat.exists_ge_and_testBit_of_ge_two_pow (n := 8) (x := s) (by omega)
          have := mv_lt_bit hl (hsub i hb)
          omega
      have hms : ∀ i, s.testBit i = true → (mo i).isSome = true := fun i hi => by
        have q := hsub i hi
        rw [mv_bits_tb _ (mv_lt_bit hl q)] at q
        exact q
      have p1 : mq_pc s 32 = mq_pc s 8 := mq_pc_top (n := 8) hs 24
      have p2 : mq_pc s 25 = mq_pc s 8 := mq_pc_top (n := 8) hs 17
      have p3 := mq_pc_le s 8
      have p4 := mv_pc_pos (n := 8) hs hs1
      have q1 : ¬ nI s < 1 := by rw [s_ltL (by omega) (by decide)]; omega
      have q2 : nI s ≤ 255 := by rw [s_leL (by omega) (by decide)]; omega
      have xs2 : nI s &&& (nI (mv_bits (fun k => (mo k).isSome) 8) ^^^ (-1)) = 0 := by rw [← hcm.1]; exact xs
      by_cases hn : 4 * mq_pc s 8 ≤ n
      · have f1 : mv_fr mv_Qo M (mj_st M 21 1 0) := mv_fr.st mv_fr.rf (Or.inl (Or.inl ⟨rfl, rfl⟩))
        have f2 : mv_fr mv_Qo M (mj_st (mj_st M 21 1 0) 45 5 0) := f1.st (Or.inl (Or.inr ⟨rfl, rfl⟩))
        have hq : ∀ a k, mv_Qo a k → ¬ (a = 1 ∧ k = 1) ∧ a ≠ 2 ∧ ¬ (a = 3 ∧ 6 ≤ k ∧ k ≤ 8) ∧ ¬ (4 ≤ a ∧ a ≤ 6) ∧ a ≠ 46 ∧ a ≠ 49 := fun a k z => by unfold mv_Qo mv_Qn mv_Sc at z; omega
        have b1 := B.fr f1 hq
        have b2 := B.fr f2 hq
        have T2 := T.empty
        have ct : (if nI (4 * mq_pc s 8) < 4 then some (0, M) else if nI (4 * mq_pc s 8) ≤ 32 then if nI (4 * mq_pc s 8) ≤ M 21 1 then some ((1 : Int32), M) else some (0, M) else some (0, M)) = some (1, M) := by
          rw [t1]
          simp (disch := omega) only [s_ltL, s_leL, s_le, show ¬ 4 * mq_pc s 8 < 4 from by omega, show 4 * mq_pc s 8 ≤ 32 from by omega, hn, if_true, if_false]
        have ec : mj_C sl (d + 4) i_X8_whose [.ref 0, .int (nI s), .int y] M = if nI (mv_bits (mv_to cs) 10) = 0 then some (-2, mj_st M 21 1 0) else mj_E sl (d + 3 + 1) i_X8_whose 86 [.ref 0, .int (nI s), .int y, .int 1, .int (nI (mq_pc s 8)), .int 0] [] (mj_st M 21 1 0) := by
          rw [b_X8_whose, if_neg y0, if_pos y1, if_neg x0, if_pos xs, c_bitCount (by omega), p1]
          simp only [Option.bind_some, s_Lmul, b_X7_has]
          rw [ct]
          simp only [Option.bind_some, s_10, if_false]
          rw [mq_st_ne (by omega), hcc.1]
        have er : mj_C sl (d + 4) i_X9_whose [.ref 45, .int (nI s), .int y] (mj_st M 21 1 0) = if nI (mv_bits (mv_to cs) 10) = 0 then some (-2, mj_st (mj_st M 21 1 0) 45 5 0) else (mj_C sl (d + 3) i_X9_readsSheet [.ref 45, .int (nI s)] (mj_st (mj_st M 21 1 0) 45 5 0)).bind (fun q6 => if q6.1 = 0 then some (-3, q6.2) else mj_E sl (d + 3 + 1) i_X9_whose 85 [.ref 45, .int (nI s), .int y, .int (-1), .int 1000000, .int 1000000, .int 0, .null, .null] [] q6.2) := by
          have hnn : ¬ nI n < nI (4 * mq_pc s 8) := by rw [s_lt (by omega) (by omega)]; omega
          rw [b_X9_whose]
          simp only [r_in, Option.bind_some, q1, q2, if_true, if_false, s_10, r_modelSet b1.1 hw, xs2, y0, y1]
          rw [r_bits (by omega), p2]
          simp only [Option.bind_some, s_Lmul]
          rw [mq_st_ne (by omega), t2, if_neg hnn, r_toldSet b2.2.2.2.1]
          rfl
        by_cases hto : nI (mv_bits (mv_to cs) 10) = 0
        · refine ⟨-2, mj_st M 21 1 0, mj_st (mj_st M 21 1 0) 45 5 0, ?_, rfl, ?_, f2, 0, T2⟩
          · rw [ec, if_pos hto]
          · rw [er, if_pos hto]
        · have hto2 : ∃ c, c < 10 ∧ mv_to cs c = true := by
            have hb10 := mv_bits_lt (mv_to cs) 10
            rw [s_eqL (by omega) (by decide)] at hto
            have p5 := mv_pc_pos (n := 10) hb10 (by omega)
            by_cases q : ∃ c, c < 10 ∧ mv_to cs c = true
            · exact q
            · exfalso
              apply hto
              apply Nat.eq_of_testBit_eq
              intro i
              rw [Nat.zero_testBit]
              by_cases hi : i < 10
              · rw [mv_bits_tb _ hi]
                cases e : mv_to cs i with
                | false => rfl
                | true => exact absurd ⟨i, hi, e⟩ q
              · exact Nat.testBit_lt_two_pow (Nat.lt_of_lt_of_le hb10 (Nat.pow_le_pow_right (by decide) (by omega)))
          rw [if_neg hto] at ec er
          obtain ⟨M2, e2, f3, h70⟩ := r_readsSheet (sl := sl) (d := d + 1) (M := mj_st (mj_st M 21 1 0) 45 5 0) T2 hs
          rw [e2] at er
          simp only [Option.bind_some, s_b0] at er
          have f4 : mv_fr mv_Qo M M2 := f2.tr (f3.wk (fun a k z => Or.inr (by unfold mv_Sc; omega)))
          have b3 := B.fr f4 hq
          have T3 : mv_Tp M2 0 tp := T2.fr f3 (fun a k z => by omega)
          have Tc : ∀ j, j < 260 → tp j < 256 ∧ (mj_st M 21 1 0) 22 j = nI (tp j) := fun j hj => ⟨(t4 j hj).1, by rw [mq_st_ne (by omega)]; exact (t4 j hj).2.1⟩
          have hiv : ∀ i, i < mq_pc s 8 → mv_iv tp (4 * i) < 2 ^ 32 := fun i hi => mv_iv_lt (fun j hj => (t4 j hj).1) (by omega)
          by_cases hall : ∀ i, i < mq_pc s 8 → mv_iv tp (4 * i) < 2 ^ 25
          · have ca : ∀ i, i ≤ mq_pc s 8 → mj_E sl (d + 3 + 1) i_X8_whose 86 [.ref 0, .int (nI s), .int y, .int 1, .int (nI (mq_pc s 8)), .int (nI i)] [] (mj_st M 21 1 0) = (mj_C sl (d + 3) i_X8_nearestHand [.ref 0, .int (nI s), .int y] (mj_st M 21 1 0)).bind (fun q3 => some (q3.1, q3.2)) := by
              refine mq_up ?_ ?_
              · rw [b_X8_whose_86]
                simp only [Int32.lt_irrefl, if_false]
              · intro i hi ih
                rw [b_X8_whose_86]
                simp (disch := omega) only [s_lt, hi, if_true, s_Lmul, c_intAt Tc, Option.bind_some, c_fits, s_addL]
                rw [mv_fitE (hiv i hi), if_pos (hall i hi)]
                simp only [s_10, if_false]
                exact ih
            have ca0 : mj_E sl (d + 3 + 1) 104 86 [.ref 0, .int (nI s), .int y, .int 1, .int (nI (mq_pc s 8)), .int 0] [] (mj_st M 21 1 0) = _ := ca 0 (by omega)
            rw [ca0, b_X8_nearestHand] at ec
            rw [if_neg (fun z => z hall)] at er
            have L : ∀ c, c ≤ 10 → ∀ (who : Int32) (l nx : Nat) (w7 w8 w9 : Value), (l ≤ 200 ∨ l = 1000000) → (nx ≤ 200 ∨ nx = 1000000) → ((∃ i, i < c ∧ mv_to cs i = true) → l ≤ 200) → ∃ v, mj_E sl (d + 2 + 1) i_X8_nearestHand 13 [.ref 0, .int (nI s), .int y, .int who, .int (nI (mv_ls l)), .int (nI (mv_ls nx)), .int (nI c), w7] [] (mj_st M 21 1 0) = some (v, mj_st M 21 1 0) ∧ mj_E sl (d + 3 + 1) i_X9_whose 85 [.ref 45, .int (nI s), .int y, .int who, .int (nI l), .int (nI nx), .int (nI c), w8, w9] [] M2 = some (v, M2) := by
              refine mq_up ?_ ?_
              · intro who l nx w7 w8 w9 hl1 hn1 hi1
                have hl2 := hi1 hto2
                have els : mv_ls l = l := by unfold mv_ls; rw [if_neg (by omega)]
                have z10 : ¬ nI 10 < 10 := by decide
                rw [b_X8_nearestHand_13, b_X9_whose_85, els]
                simp only [z10, if_false]
                by_cases e0 : y = 0
                · have : (0 : Int32) < 2 := by decide
                  simp only [e0, this, if_true]
                  exact ⟨_, rfl, rfl⟩
                by_cases e1 : y = 1
                · have : (1 : Int32) < 2 := by decide
                  simp only [e1, this, s_10, if_true, if_false]
                  exact ⟨_, rfl, rfl⟩
                · have : ¬ y < 2 := by
                    intro z
                    rcases mq_out (x := y) (n := 2) (by decide) with h | h | ⟨j, hj, rfl⟩
                    · exact y0 h
                    · exact absurd (Int32.lt_of_lt_of_le z h) Int32.lt_irrefl
                    · have : j = 0 ∨ j = 1 := by omega
                      rcases this with rfl | rfl
                      · exact e0 rfl
                      · exact e1 rfl
                  simp only [e0, e1, this, if_false]
                  by_cases en : nx = 1000000
                  · have : mv_ls nx = 2147483647 := by unfold mv_ls; rw [if_pos en]
                    rw [this, en]
                    exact ⟨-2, if_pos rfl, if_pos rfl⟩
                  · have : mv_ls nx = nx := by unfold mv_ls; rw [if_neg en]
                    rw [this]
                    simp (disch := omega) only [s_eqL, en, show ¬ nx = 2147483647 from by omega, if_false]
                    exact ⟨_, rfl, rfl⟩
              · intro c hc ih who l nx w7 w8 w9 hl1 hn1 hi1
                have fl := mv_far_le mo cs tp s c 8
                have hls : mv_ls l < 2 ^ 31 := by unfold mv_ls; split <;> omega
                have hns : mv_ls nx < 2 ^ 31 := by unfold mv_ls; split <;> omega
                rw [b_X8_nearestHand_13, b_X9_whose_85]
                simp (disch := omega) only [s_ltL, hc, if_true, c_hasC (b := 3) rfl b1.2.2.2.2.1 hc, r_isTold b3.2.2.2.1 hc, Option.bind_some, s_b0, s_addL]
                cases tc : mv_to cs c with
                | false =>
                  simp only [Bool.false_eq_true, not_false_eq_true, if_true]
                  refine ih _ _ _ _ _ _ hl1 hn1 (fun z => hi1 ?_)
                  obtain ⟨i, h1, h2⟩ := z
                  refine ⟨i, ?_, h2⟩
                  by_cases q : i = c
                  · rw [q, tc] at h2
                    cases h2
                  · omega
                | true =>
                  simp only [not_true, if_false]
                  rw [c_farFromSheet (sl := sl) (d := d) (tp := tp) b1 Tc hs hc hms hall]
                  have e5 := r_sheetFar (sl := sl) (d := d + 1) (M := M2) (tp := tp) (y := y) (a := who) (b := nI l) (e := nI nx) b3 hs hc hms hall h70
                  have e5' : mj_E sl (d + 3 + 1) 203 110 [.ref 45, .int (nI s), .int y, .int who, .int (nI l), .int (nI nx), .int (nI c), .int 0, .int 0] [] M2 = _ := e5
                  rw [e5', b_X9_whose_110, if_neg (show ¬ nI 8 < 8 from by decide)]
                  simp (disch := omega) only [Option.bind_some, s_lt, b_X9_min, s_addL]
                  have c1 : mv_far mo cs tp s c 8 < mv_ls l ↔ mv_far mo cs tp s c 8 < l := by unfold mv_ls; split <;> omega
                  have c2 : mv_far mo cs tp s c 8 < mv_ls nx ↔ mv_far mo cs tp s c 8 < nx := by unfold mv_ls; split <;> omega
                  have c3 : mv_ls (mv_far mo cs tp s c 8) = mv_far mo cs tp s c 8 := by unfold mv_ls; rw [if_neg (by omega)]
                  simp only [c1, c2]
                  by_cases g1 : mv_far mo cs tp s c 8 < l
                  · simp only [g1, if_true]
                    have := ih (nI c) (mv_far mo cs tp s c 8) l (.int (nI (mv_far mo cs tp s c 8))) (.int (nI (mv_far mo cs tp s c 8))) (.int (nI 8)) (Or.inl (by omega)) hl1 (fun _ => by omega)
                    rw [c3] at this
                    exact this
                  · have hl3 : l ≤ 200 := by omega
                    simp only [g1, if_false]
                    by_cases g2 : mv_far mo cs tp s c 8 < nx
                    · have g3 : ¬ nx < mv_far mo cs tp s c 8 := by omega
                      simp only [g2, g3, if_true, if_false, Option.bind_some]
                      have := ih who l (mv_far mo cs tp s c 8) (.int (nI (mv_far mo cs tp s c 8))) (.int (nI (mv_far mo cs tp s c 8))) (.int (nI 8)) hl1 (Or.inl (by omega)) (fun _ => hl3)
                      rw [c3] at this
                      exact this
                    · simp only [g2, if_false]
                      have := ih who l nx (.int (nI (mv_far mo cs tp s c 8))) (.int (nI (mv_far mo cs tp s c 8))) (.int (nI 8)) hl1 hn1 (fun _ => hl3)
                      by_cases g3 : nx < mv_far mo cs tp s c 8
                      · simp only [g3, if_true, Option.bind_some]
                        exact this
                      · have g4 : mv_far mo cs tp s c 8 = nx := by omega
                        simp only [g3, if_false, Option.bind_some]
                        rw [g4] at this ⊢
                        exact this
            obtain ⟨v, a1, a2⟩ := L 0 (by omega) (-1) 1000000 1000000 .null .null .null (Or.inr rfl) (Or.inr rfl) (fun z => by obtain ⟨i, hi, -⟩ := z; omega)
            refine ⟨v, mj_st M 21 1 0, M2, ?_, rfl, ?_, f4, 0, T3⟩
            · have a1' : mj_E sl (d + 2 + 1) 105 13 [.ref 0, .int (nI s), .int y, .int (-1), .int 2147483647, .int 2147483647, .int 0, .null] [] (mj_st M 21 1 0) = some (v, mj_st M 21 1 0) := a1
              rw [ec, a1']
              rfl
            · rw [er]
              exact a2
          · rw [if_pos hall] at er
            have hex : ∃ i, i < mq_pc s 8 ∧ ¬ mv_iv tp (4 * i) < 2 ^ 25 := by
              by_cases q : ∃ i, i < mq_pc s 8 ∧ ¬ mv_iv tp (4 * i) < 2 ^ 25
              · exact q
              · exact absurd (fun i hi => by
                  by_cases z : mv_iv tp (4 * i) < 2 ^ 25
                  · exact z
                  · exact absurd ⟨i, hi, z⟩ q) hall
            have ca : ∀ i, i ≤ mq_pc s 8 → (∃ j, i ≤ j ∧ j < mq_pc s 8 ∧ ¬ mv_iv tp (4 * j) < 2 ^ 25) → mj_E sl (d + 3 + 1) i_X8_whose 86 [.ref 0, .int (nI s), .int y, .int 1, .int (nI (mq_pc s 8)), .int (nI i)] [] (mj_st M 21 1 0) = some (-3, mj_st M 21 1 0) := by
              refine mq_up ?_ ?_
              · intro z
                obtain ⟨j, h1, h2, -⟩ := z
                omega
              · intro i hi ih z
                rw [b_X8_whose_86]
                simp (disch := omega) only [s_lt, hi, if_true, s_Lmul, c_intAt Tc, Option.bind_some, c_fits, s_addL]
                rw [mv_fitE (hiv i hi)]
                by_cases q : mv_iv tp (4 * i) < 2 ^ 25
                · rw [if_pos q]
                  simp only [s_10, if_false]
                  obtain ⟨j, h1, h2, h3⟩ := z
                  refine ih ⟨j, ?_, h2, h3⟩
                  by_cases q2 : j = i
                  · rw [q2] at h3
                    exact absurd q h3
                  · omega
                · rw [if_neg q]
                  simp only [if_true]
            obtain ⟨j, h1, h2⟩ := hex
            refine ⟨-3, mj_st M 21 1 0, M2, ?_, rfl, er, f4, 0, T3⟩
            rw [ec]
            exact ca 0 (by omega) ⟨j, by omega, h1, h2⟩
      · refine ⟨-1, M, M, ?_, rfl, ?_, mv_fr.rf, n, T⟩
        · rw [b_X8_whose, if_neg y0, if_pos y1, if_neg x0, if_pos xs, c_bitCount (by omega), p1]
          simp (disch := omega) only [Option.bind_some, s_Lmul, b_X7_has, t1, s_ltL, s_leL, s_le, show ¬ 4 * mq_pc s 8 < 4 from by omega, show 4 * mq_pc s 8 ≤ 32 from by omega, hn, if_true, if_false]
        · rw [b_X9_whose]
          simp only [r_in, Option.bind_some, q1, q2, if_true, if_false, s_10, r_modelSet hm hw, xs2, y0, y1]
          rw [r_bits (by omega), p2]
          simp only [Option.bind_some, s_Lmul]
          rw [t2, if_pos ((mq_lt (by omega) (by omega)).mpr (by omega))]
    · exact bad (Or.inr (Or.inr xs))
  · exact bad (Or.inl (Or.inr y1))
end MV19
