theorem mv_or_pow {a k : Nat} (h : a < 2 ^ k) : a ||| 2 ^ k = a + 2 ^ k := by
  rw [Nat.or_comm]
  have := Nat.two_pow_add_eq_or_of_lt h 1
  rw [Nat.mul_one] at this
  omega
section MV14
variable {sl d : Nat} {M : mj_M} {mo : Nat → Option Nat} {cs : mv_CS}
theorem r_toldSet (hr : mv_rC M 46 cs) : mj_C sl (d + 2) i_X9_toldSet [.ref 45] M = some (nI (mv_bits (mv_to cs) 10), M) := by
  rw [b_X9_toldSet]
  have h : ∀ k, k ≤ 10 → mj_E sl (d + 1 + 1) i_X9_toldSet 4 [.ref 45, .int (nI (mv_bits (mv_to cs) k)), .int (nI k)] [] M = some (nI (mv_bits (mv_to cs) 10), M) := mq_up (by rw [b_X9_toldSet_4, if_neg (by decide)]) (fun k hk ih => by
    have hl := mv_bits_lt (mv_to cs) k
    rw [mv_bits] at ih
    rw [b_X9_toldSet_4]
    simp (disch := omega) only [s_ltL, s_addL, hk, if_true, r_isTold hr hk, Option.bind_some, s_b0, mq_one, mq_or, mv_or_pow hl]
    cases tc : mv_to cs k with
    | true =>
      rw [tc] at ih
      exact ih
    | false =>
      rw [tc] at ih
      exact ih)
  exact h 0 (Nat.zero_le _)
theorem r_modelSet (hm : mv_rM M mo) (hw : mv_wM mo) : mj_C sl (d + 2) i_X9_modelSet [.ref 45] M = some (nI (mv_bits (fun k => (mo k).isSome) 8), M) := by
  rw [b_X9_modelSet]
  have h : ∀ k, k ≤ 8 → mj_E sl (d + 1 + 1) i_X9_modelSet 4 [.ref 45, .int (nI (mv_bits (fun k => (mo k).isSome) k)), .int (nI k)] [] M = some (nI (mv_bits (fun k => (mo k).isSome) 8), M) := mq_up (by rw [b_X9_modelSet_4, if_neg (by decide)]) (fun k hk ih => by
    have hl := mv_bits_lt (fun k => (mo k).isSome) k
    rw [mv_bits] at ih
    rw [b_X9_modelSet_4]
    simp (disch := omega) only [s_ltL, s_addL, hk, if_true, r_isLetter hm hw hk, Option.bind_some, s_b0, mq_one, mq_or, mv_or_pow hl]
    cases tc : (mo k).isSome with
    | true =>
      rw [tc] at ih
      exact ih
    | false =>
      rw [tc] at ih
      exact ih)
  exact h 0 (Nat.zero_le _)
theorem p_count {n on : Nat} {tp od : Nat → Nat} {x : Int32} (B : mv_B M mo cs) (T : mv_Tp M n tp) (O : mv_Or M on od) (hl : M (mj_lw (M 0 9)) 7 = M 45 14) : ∃ v, mj_C sl (d + 3) i_X8_count [.ref 0, .int x] M = some (v, M) ∧ mj_C sl (d + 3) i_X9_count [.ref 45, .int x] M = some (v, M) := by
  obtain ⟨hm, hcm, hw, hr, hc, hwc⟩ := B
  obtain ⟨o1, o2, o3, o4⟩ := O
  rw [b_X8_count, b_X9_count, hl, T.1, T.2.1, o1, o2, hc.1, hcm.1, hc.2.2.2.1, hc.2.2.2.2, hr.2.2.2.1, hr.2.2.2.2, r_toldSet hr, r_modelSet hm hw]
  simp only [Option.bind_some, r_in]
  by_cases h0 : x = 0
  · simp only [h0, if_true]
    exact ⟨_, rfl, rfl⟩
  by_cases h1 : x = 1
  · simp only [h1, s_10, if_true, if_false]
    exact ⟨_, rfl, rfl⟩
  by_cases h2 : x = 2
  · simp only [h2, s_20, s_21, if_true, if_false]
    exact ⟨_, rfl, rfl⟩
  by_cases h3 : x = 3
  · simp only [h3, s_30, s_31, s_32, if_true, if_false]
    exact ⟨_, rfl, rfl⟩
  by_cases h4 : x = 4
  · simp only [h0, h1, h2, h3, if_false]
    rw [if_pos h4, if_pos h4]
    exact ⟨_, rfl, rfl⟩
  by_cases h5 : x = 5
  · simp only [h0, h1, h2, h3, h4, if_false]
    rw [if_pos h5, if_pos h5]
    exact ⟨_, rfl, rfl⟩
  by_cases h6 : x = 6
  · simp only [h0, h1, h2, h3, h4, h5, if_false]
    rw [if_pos h6, if_pos h6]
    exact ⟨_, rfl, rfl⟩
  simp only [h0, h1, h2, h3, h4, h5, h6, if_false]
  by_cases h7 : x < 100
  · simp only [h7, if_true]
    exact ⟨_, rfl, rfl⟩
  · have hx : ¬ x < 0 := fun z => h7 (Int32.lt_of_lt_of_le z (by decide))
    obtain ⟨j, hj, rfl⟩ := nI_of hx
    have hj2 : 100 ≤ j := by
      rw [s_ltL (by omega) (by decide)] at h7
      omega
    simp (disch := omega) only [h7, if_false, s_subL, s_lt, s_Ladd, s_le]
    by_cases h8 : j - 100 < on
    · obtain ⟨a1, a2, a3⟩ := o4 (j - 100) h8
      simp (disch := omega) only [h8, show j ≤ 99 + on from by omega, if_true, s_10, if_false, s_in, s_cl, a2, a3]
      exact ⟨_, rfl, rfl⟩
    · simp only [h8, show ¬ j ≤ 99 + on from by omega, if_true, if_false]
      exact ⟨_, rfl, rfl⟩
theorem c_fill {a n lo hi : Nat} {x : Int32} (ha : mj_ial a = n) (ha2 : ¬ a = 72) (hn : ¬ n = 0) (h1 : lo ≤ hi) (h2 : hi ≤ n) (hn2 : n < 2 ^ 31) : ∃ M1, mj_C sl (d + 2) i_J7_fill_fda19 [.ref a, .int (nI lo), .int (nI hi), .int x] M = some (0, M1) ∧ mv_fr (fun q _ => q = a) M M1 ∧ ∀ j, M1 a j = if lo ≤ j ∧ j < hi then x else M a j := by
  rw [b_J7_fill_fda19 ha ha2 hn, b_J7_rangeCheck_23922]
  simp (disch := omega) only [s_le, h1, h2, if_true, s_lt0, if_false, s_ltL, Nat.not_lt_zero, Option.bind_some]
  have L : ∀ k, k ≤ hi → lo ≤ k → ∀ M', mv_fr (fun q _ => q = a) M M' → (∀ j, M' a j = if lo ≤ j ∧ j < k then x else M a j) → ∃ M1, mj_E sl (d + 1 + 1) i_J7_fill_fda19 10 [.ref a, .int (nI lo), .int (nI hi), .int x, .int (nI k)] [] M' = some (0, M1) ∧ mv_fr (fun q _ => q = a) M M1 ∧ ∀ j, M1 a j = if lo ≤ j ∧ j < hi then x else M a j := by
    refine mq_up ?_ ?_
    · intro hlo M' f h
      refine ⟨M', ?_, f, h⟩
      rw [b_J7_fill_fda19_10 ha ha2 hn]
      simp only [Int32.lt_irrefl, if_false]
    · intro k hk ih hlo M' f h
      rw [b_J7_fill_fda19_10 ha ha2 hn]
      simp (disch := omega) only [s_lt, hk, if_true, s_in, s_cl, s_addL]
      refine ih (by omega) _ (f.st rfl) (fun j => ?_)
      by_cases hj : j = k
      · rw [hj, mq_st_eq, if_pos ⟨by omega, by omega⟩]
      · rw [mq_st_ne (Or.inr hj), h j]
        by_cases hq : lo ≤ j ∧ j < k
        · rw [if_pos hq, if_pos ⟨hq.1, by omega⟩]
        · rw [if_neg hq, if_neg (by omega)]
  exact L lo h1 (Nat.le_refl _) M mv_fr.rf (fun j => by rw [if_neg (by omega)])
theorem p_courtier {x y z : Int32} (B : mv_B M mo cs) : ∃ v M1 M2, mj_C sl (d + 4) i_X8_courtier [.ref 0, .int x, .int y, .int z] M = some (v, M1) ∧ M1 72 = M 72 ∧ mj_C sl (d + 4) i_X9_courtier [.ref 45, .int x, .int y, .int z] M1 = some (v, M2) ∧ mv_fr mv_Qs M M2 ∧ ∃ cs', mv_B M2 mo cs' := by
  obtain ⟨hm, hcm, hw, hr, hc, hwc⟩ := id B
  have no : ∀ h : (x < 0 ∨ ¬ x < 10) ∨ (y < 0 ∨ ¬ y ≤ 99) ∨ (z < 0 ∨ ¬ z ≤ 9999), ∃ v M1 M2, mj_C sl (d + 4) i_X8_courtier [.ref 0, .int x, .int y, .int z] M = some (v, M1) ∧ M1 72 = M 72 ∧ mj_C sl (d + 4) i_X9_courtier [.ref 45, .int x, .int y, .int z] M1 = some (v, M2) ∧ mv_fr mv_Qs M M2 ∧ ∃ cs', mv_B M2 mo cs' := by
    intro h
    have e9 : ∀ hx : ¬ x < 10, ¬ x ≤ 9 := fun hx h9 => hx (Int32.lt_of_le_of_lt h9 (by decide))
    refine ⟨0, M, M, ?_, rfl, ?_, mv_fr.rf, cs, B⟩
    · rw [b_X8_courtier]
      by_cases x0 : x < 0
      · simp only [x0, if_true]
      by_cases x1 : x < 10
      · by_cases y0 : y < 0
        · simp only [x0, x1, y0, if_true, if_false]
        by_cases y1 : y ≤ 99
        · by_cases z0 : z < 0
          · simp only [x0, x1, y0, y1, z0, if_true, if_false]
          by_cases z1 : z ≤ 9999
          · rcases h with h | h | h <;> rcases h with h | h <;> exact absurd h (by first | exact x0 | exact fun q => q x1 | exact y0 | exact fun q => q y1 | exact z0 | exact fun q => q z1)
          · simp only [x0, x1, y0, y1, z0, z1, if_true, if_false]
        · simp only [x0, x1, y0, y1, if_true, if_false]
      · simp only [x0, x1, if_false]
    · rw [b_X9_courtier]
      simp only [r_in, Option.bind_some]
      by_cases x0 : x < 0
      · simp only [x0, if_true]
      by_cases x1 : x < 10
      · have x9 : x ≤ 9 := by
          rcases mq_out (x := x) (n := 10) (by decide) with q | q | ⟨j, hj, rfl⟩
          · exact absurd q x0
          · exact absurd (Int32.lt_of_lt_of_le x1 q) Int32.lt_irrefl
          · exact (mq_le (b := 9) (by omega) (by decide)).mpr (by omega)
        by_cases y0 : y < 0
        · simp only [x0, x9, y0, if_true, if_false, s_10]
        by_cases y1 : y ≤ 99
        · by_cases z0 : z < 0
          · simp only [x0, x9, y0, y1, z0, if_true, if_false, s_10]
          by_cases z1 : z ≤ 9999
          · rcases h with h | h | h <;> rcases h with h | h <;> exact absurd h (by first | exact x0 | exact fun q => q x1 | exact y0 | exact fun q => q y1 | exact z0 | exact fun q => q z1)
          · simp only [x0, x9, y0, y1, z0, z1, if_true, if_false, s_10]
        · simp only [x0, x9, y0, y1, if_true, if_false, s_10]
      · simp only [x0, e9 x1, if_true, if_false]
  by_cases x0 : x < 0
  · exact no (Or.inl (Or.inl x0))
  by_cases x1 : x < 10
  · by_cases y0 : y < 0
    · exact no (Or.inr (Or.inl (Or.inl y0)))
    by_cases y1 : y ≤ 99
    · by_cases z0 : z < 0
      · exact no (Or.inr (Or.inr (Or.inl z0)))
      by_cases z1 : z ≤ 9999
      · clear no
        obtain ⟨c, hc10, rfl⟩ : ∃ c, c < 10 ∧ x = nI c := by
          rcases mq_out (x := x) (n := 10) (by decide) with q | q | ⟨j, hj, rfl⟩
          · exact absurd q x0
          · exact absurd (Int32.lt_of_lt_of_le x1 q) Int32.lt_irrefl
          · exact ⟨j, hj, rfl⟩
        obtain ⟨ag, hag, rfl⟩ := nI_of2 (n := 99) (by decide) y0 y1
        obtain ⟨ik, hik, rfl⟩ := nI_of2 (n := 9999) (by decide) z0 z1
        obtain ⟨M1, e1, f1, v1⟩ := c_fill (sl := sl) (d := d) (M := mj_st (mj_st (mj_st M 3 6 (nI (mv_bits (mv_to cs) 10 ||| 2 ^ c))) 4 c (nI ag)) 5 c (nI ik)) (a := 6) (n := 80) (lo := c * 8) (hi := (c + 1) * 8) (x := -1) rfl (by decide) (by decide) (by omega) (by omega) (by decide)
        have g0 : mv_fr mv_Qs M (mj_st (mj_st (mj_st M 3 6 (nI (mv_bits (mv_to cs) 10 ||| 2 ^ c))) 4 c (nI ag)) 5 c (nI ik)) := ((mv_fr.rf.st (Or.inr (Or.inl ⟨rfl, by omega, by omega⟩))).st (Or.inr (Or.inr ⟨by omega, by omega⟩))).st (Or.inr (Or.inr ⟨by omega, by omega⟩))
        have g1 : mv_fr mv_Qs M M1 := g0.tr (f1.wk (fun a k z => Or.inr (Or.inr ⟨by omega, by omega⟩)))
        have L : ∀ k, k ≤ 8 → ∀ M' (w2 w3 : Value), mv_fr (fun q _ => q = 46) M1 M' → (∀ j, M' 46 j = if 30 + 8 * c ≤ j ∧ j < 30 + 8 * c + k then -1 else if j = 20 + c then nI ik else if j = 10 + c then nI ag else if j = c then 1 else M 46 j) → ∃ M2, mj_E sl (d + 3 + 1) i_X9_courtier 65 [.ref 45, .int (nI c), w2, w3, .int (nI k)] [] M' = some (1, M2) ∧ mv_fr (fun q _ => q = 46) M1 M2 ∧ (∀ j, M2 46 j = if 30 + 8 * c ≤ j ∧ j < 30 + 8 * c + 8 then -1 else if j = 20 + c then nI ik else if j = 10 + c then nI ag else if j = c then 1 else M 46 j) := by
          refine mq_up ?_ ?_
          · intro M' w2 w3 f h
            exact ⟨M', by rw [b_X9_courtier_65, if_neg (by decide)], f, h⟩
          · intro k hk ih M' w2 w3 f h
            rw [b_X9_courtier_65]
            simp (disch := omega) only [s_ltL, hk, if_true, r_own, Option.bind_some, s_in, s_cl, s_addL]
            refine ih _ w2 w3 (f.st rfl) (fun j => ?_)
            by_cases hj : j = 30 + 8 * c + k
            · rw [hj, mq_st_eq, if_pos ⟨by omega, by omega⟩]
            · rw [mq_st_ne (Or.inr hj), h j]
              by_cases hq : 30 + 8 * c ≤ j ∧ j < 30 + 8 * c + k
              · rw [if_pos hq, if_pos ⟨hq.1, by omega⟩]
              · rw [if_neg hq, if_neg (show ¬ (30 + 8 * c ≤ j ∧ j < 30 + 8 * c + (k + 1)) from by omega)]
        obtain ⟨M2, e2, f2, v2⟩ := L 0 (by omega) (mj_st (mj_st (mj_st M1 46 c 1) 46 (10 + c) (nI ag)) 46 (20 + c) (nI ik)) (.int (nI ag)) (.int (nI ik)) (mv_fr.st (mv_fr.st (mv_fr.st mv_fr.rf rfl) rfl) rfl) (fun j => by
          rw [if_neg (by omega)]
          by_cases j1 : j = 20 + c
          · rw [j1, mq_st_eq, if_pos rfl]
          rw [mq_st_ne (Or.inr j1), if_neg j1]
          by_cases j2 : j = 10 + c
          · rw [j2, mq_st_eq, if_pos rfl]
          rw [mq_st_ne (Or.inr j2), if_neg j2]
          by_cases j3 : j = c
          · rw [j3, mq_st_eq, if_pos rfl]
          rw [mq_st_ne (Or.inr j3), if_neg j3]
          rw [f1 46 j (by omega)]
          rfl)
        have g2 : mv_fr mv_Qs M M2 := g1.tr (f2.wk (fun a k z => Or.inl z))
        have ta2 : ∀ a, ¬ a = c → (decide (a = c) || mv_to cs a) = true → mv_to cs a = true := fun a q h => by simpa [q] using h
        refine ⟨1, M1, M2, ?_, mq_72 g1 (fun k z => by unfold mv_Qs mv_Qk at z; omega), ?_, g2, (fun a => decide (a = c) || mv_to cs a, fun a => if a = c then ag else mv_ag cs a, fun a => if a = c then ik else mv_in cs a, fun a b => if a = c ∧ b < 8 then none else mv_ow cs a b, mv_mn cs, mv_x cs), ?_⟩
        · rw [b_X8_courtier]
          simp (disch := omega) only [x0, x1, y0, y1, z0, z1, if_true, if_false, b_X1_tell (t0 := 3) rfl, s_in, s_cl, hc.1, mq_one, mq_or, s_addL, s_mulL, e1, Option.bind_some]
        · rw [b_X9_courtier]
          simp (disch := omega) only [r_in, Option.bind_some, s_lt0, s_ltL, Nat.not_lt_zero, s_leL, show c ≤ 9 from by omega, hag, hik, if_true, if_false, s_10, s_in, s_cl, s_Ladd, Nat.zero_add]
          exact e2
        · refine ⟨hm.fr g2 (fun k z => by unfold mv_Qs mv_Qk at z; omega), hcm.fr g2 (by unfold mv_Qs mv_Qk; omega) (fun k z => by unfold mv_Qs mv_Qk at z; omega), hw, ⟨fun a ha => ?_, fun a ha ta => ⟨?_, ?_⟩, fun a b ha hb => ?_, ?_, ?_⟩, ⟨?_, fun a ha ta => ⟨?_, ?_⟩, fun a b ha hb => ?_, ?_, ?_⟩, fun a ta => ?_, fun a b q hq => ?_, hwc.2.2⟩
          · rw [v2 a, if_neg (by omega), if_neg (by omega), if_neg (by omega)]
            show _ = if (decide (a = c) || mv_to cs a) = true then (1 : Int32) else 0
            by_cases q : a = c
            · rw [if_pos q]; simp [q]
            · rw [if_neg q, hr.1 a ha]; simp [q]
          · rw [v2 (10 + a), if_neg (by omega), if_neg (by omega)]
            by_cases q : a = c
            · rw [if_pos (by omega)]
              show _ = nI (if a = c then ag else _)
              rw [if_pos q]
            · rw [if_neg (by omega), if_neg (by omega)]
              show _ = nI (if a = c then ag else _)
              rw [if_neg q]
              exact (hr.2.1 a ha (ta2 a q ta)).1
          · rw [v2 (20 + a), if_neg (by omega)]
            by_cases q : a = c
            · rw [if_pos (by omega)]
              show _ = nI (if a = c then ik else _)
              rw [if_pos q]
            · rw [if_neg (by omega), if_neg (by omega), if_neg (by omega)]
              show _ = nI (if a = c then ik else _)
              rw [if_neg q]
              exact (hr.2.1 a ha (ta2 a q ta)).2
          · rw [v2 (30 + 8 * a + b)]
            show _ = mv_oi (if a = c ∧ b < 8 then none else _)
            by_cases q : a = c
            · rw [if_pos (by omega), if_pos ⟨q, hb⟩]
              rfl
            · rw [if_neg (by omega), if_neg (by omega), if_neg (by omega), if_neg (by omega), if_neg (fun z => q z.1)]
              exact hr.2.2.1 a b ha hb
          · rw [v2 110, if_neg (by omega), if_neg (by omega), if_neg (by omega), if_neg (by omega)]
            exact hr.2.2.2.1
          · rw [v2 111, if_neg (by omega), if_neg (by omega), if_neg (by omega), if_neg (by omega)]
            exact hr.2.2.2.2
          · rw [f2 3 6 (by omega), f1 3 6 (by omega), mq_st_ne (by omega), mq_st_ne (by omega), mq_st_eq]
            congr 1
            exact mv_bits_or _ _ hc10 (fun j => rfl)
          · rw [f2 _ a (by omega), f1 _ a (by omega), mq_st_ne (by omega)]
            show _ = nI (if a = c then ag else _)
            by_cases q : a = c
            · rw [q, mq_st_eq, if_pos rfl]
            · rw [mq_st_ne (Or.inr q), mq_st_ne (by omega), if_neg q]
              exact (hc.2.1 a ha (ta2 a q ta)).1
          · rw [f2 _ a (by omega), f1 _ a (by omega)]
            show _ = nI (if a = c then ik else _)
            by_cases q : a = c
            · rw [q, mq_st_eq, if_pos rfl]
            · rw [mq_st_ne (Or.inr q), mq_st_ne (by omega), mq_st_ne (by omega), if_neg q]
              exact (hc.2.1 a ha (ta2 a q ta)).2
          · rw [f2 _ _ (by omega), v1]
            show _ = mv_oi (if a = c ∧ b < 8 then none else _)
            by_cases q : a = c
            · rw [if_pos (by omega), if_pos ⟨q, hb⟩]
              rfl
            · rw [if_neg (by omega), if_neg (fun z => q z.1)]
              exact hc.2.2.1 a b ha hb
          · rw [f2 3 7 (by omega), f1 3 7 (by omega)]
            exact hc.2.2.2.1
          · rw [f2 3 8 (by omega), f1 3 8 (by omega)]
            exact hc.2.2.2.2
          · show (if a = c then ag else _) ≤ 99 ∧ (if a = c then ik else _) ≤ 9999
            by_cases q : a = c
            · rw [if_pos q, if_pos q]
              exact ⟨hag, hik⟩
            · rw [if_neg q, if_neg q]
              exact hwc.1 a (ta2 a q ta)
          · have hq2 : (if a = c ∧ b < 8 then none else mv_ow cs a b) = some q := hq
            split at hq2
            · cases hq2
            · exact hwc.2.1 a b q hq2
      · exact no (Or.inr (Or.inr (Or.inr z1)))
    · exact no (Or.inr (Or.inl (Or.inr y1)))
  · exact no (Or.inl (Or.inr x1))
end MV14
