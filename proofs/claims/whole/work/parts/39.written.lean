def mv_bi (g : Bool) : Int32 := if g then 1 else 0
theorem s_bi0 {g : Bool} : (mv_bi g = 0) = (g = false) := by cases g <;> simp [mv_bi]
theorem s_20 : ((2 : Int32) = 0) = False := by simp
theorem s_21 : ((2 : Int32) = 1) = False := by simp
theorem s_30 : ((3 : Int32) = 0) = False := by simp
theorem s_31 : ((3 : Int32) = 1) = False := by simp
theorem s_32 : ((3 : Int32) = 2) = False := by simp
theorem s_01 : ((0 : Int32) = 1) = False := by simp
theorem s_02 : ((0 : Int32) = 2) = False := by simp
theorem s_12 : ((1 : Int32) = 2) = False := by simp
section MV10
variable {sl d : Nat} {M : mj_M} {mo : Nat → Option Nat} {cs : mv_CS}
theorem mv_rd_ne {k : Nat} {g : Nat} (hk : k < 8) (h : mv_rd mo g = nI k) : ¬ mv_rd mo g = -2 := by
  rw [h, s_m2 (by omega)]
  exact id
theorem r_written_no {c i on : Nat} {od : Nat → Nat} {y : Int32} {m o n ik en : Nat} {g : Bool} {w1 w2 : Value} (B : mv_B M mo cs) (O : mv_Or M on od) (hi : i < on) (hk : ¬ (mo (od i)).isSome = true) : ∃ w3 w4, mj_E sl (d + 4) i_X9_written 39 [.ref 45, .int (nI c), .int y, .int (nI m), .int (nI o), .int (nI n), .int (nI ik), .int (nI en), .int (mv_bi g), .int (nI i), w1, w2] [] M = mj_E sl (d + 4) i_X9_written 39 [.ref 45, .int (nI c), .int y, .int (nI m), .int (nI o), .int (nI n), .int (nI ik), .int (nI en), .int (mv_bi false), .int (nI (i + 1)), w3, w4] [] M := by
  obtain ⟨hm, hcm, hw, hr, hc, hwc⟩ := B
  obtain ⟨o1, o2, o3, o4⟩ := O
  obtain ⟨k8, -, ok⟩ := o4 i hi
  refine ⟨.int (nI (od i)), w2, ?_⟩
  rw [b_X9_written_39]
  simp (disch := omega) only [o2, s_lt, hi, if_true, s_in, s_cl, ok, r_isLetter hm hw k8, Option.bind_some, s_b0, s_bi0, hk, b_X9_written_75, not_false_eq_true, if_false, s_addL]
  cases g <;> rfl
theorem r_written_st {c i on : Nat} {od : Nat → Nat} {y : Int32} {m o n ik en : Nat} {g : Bool} {w1 w2 : Value} (B : mv_B M mo cs) (O : mv_Or M on od) (hc10 : c < 10) (tc : mv_to cs c = true) (hi : i < on) (hik : ik ≤ 25 * i) (hk : (mo (od i)).isSome = true) : ∃ w3 w4, mj_E sl (d + 4) i_X9_written 39 [.ref 45, .int (nI c), .int y, .int (nI m), .int (nI o), .int (nI n), .int (nI ik), .int (nI en), .int (mv_bi g), .int (nI i), w1, w2] [] M = mj_E sl (d + 4) i_X9_written 39 [.ref 45, .int (nI c), .int y, .int (nI (if mv_rd mo (mv_fm mo cs c (od i)) = nI (od i) then m + 1 else m)), .int (nI (if mv_rd mo (mv_fm mo cs c (od i)) = nI (od i) then o else if mv_rd mo (mv_fm mo cs c (od i)) = -2 then o else o + 1)), .int (nI (if mv_rd mo (mv_fm mo cs c (od i)) = nI (od i) then n else if mv_rd mo (mv_fm mo cs c (od i)) = -2 then n + 1 else n)), .int (nI (ik + mq_pc (mv_fm mo cs c (od i)) 25)), .int (nI (if g = true ∧ ik + mq_pc (mv_fm mo cs c (od i)) 25 ≤ mv_in cs c then en + 1 else en)), .int (mv_bi (g && decide (ik + mq_pc (mv_fm mo cs c (od i)) 25 ≤ mv_in cs c))), .int (nI (i + 1)), w3, w4] [] M := by
  obtain ⟨hm, hcm, hw, hr, hc, hwc⟩ := B
  obtain ⟨o1, o2, o3, o4⟩ := O
  obtain ⟨k8, -, ok⟩ := o4 i hi
  have p := mq_pc_le (mv_fm mo cs c (od i)) 25
  have lf := mv_fm_lt hw hwc c (od i)
  have gi := (hwc.1 c tc).2
  refine ⟨.int (nI (od i)), .int (mv_rd mo (mv_fm mo cs c (od i))), ?_⟩
  rw [b_X9_written_39]
  have e139 : ∀ (y3 y4 y5 : Int32), mj_E sl (d + 3 + 1) i_X9_written 139 [.ref 45, .int (nI c), .int y, .int y3, .int y4, .int y5, .int (nI ik), .int (nI en), .int (mv_bi g), .int (nI i), .int (nI (od i)), .int (mv_rd mo (mv_fm mo cs c (od i)))] [] M = mj_E sl (d + 4) i_X9_written 39 [.ref 45, .int (nI c), .int y, .int y3, .int y4, .int y5, .int (nI (ik + mq_pc (mv_fm mo cs c (od i)) 25)), .int (nI (if g = true ∧ ik + mq_pc (mv_fm mo cs c (od i)) 25 ≤ mv_in cs c then en + 1 else en)), .int (mv_bi (g && decide (ik + mq_pc (mv_fm mo cs c (od i)) 25 ≤ mv_in cs c))), .int (nI (i + 1)), .int (nI (od i)), .int (mv_rd mo (mv_fm mo cs c (od i)))] [] M := by
    intro y3 y4 y5
    rw [b_X9_written_139]
    simp (disch := omega) only [r_formNow hm hw hr hwc hc10 k8 hk, Option.bind_some, r_bits, s_bi0, s_Ladd, s_in, s_cl, if_true, (hr.2.1 c hc10 tc).2, nI_add, s_le, s_addL]
    cases g with
    | false =>
      rw [if_pos rfl, if_neg (fun z => by cases z.1)]
      rfl
    | true =>
      rw [if_neg (fun z => by cases z)]
      by_cases hle : ik + mq_pc (mv_fm mo cs c (od i)) 25 ≤ mv_in cs c
      · rw [if_pos hle, if_pos ⟨rfl, hle⟩, show (true && decide (ik + mq_pc (mv_fm mo cs c (od i)) 25 ≤ mv_in cs c)) = true from by simp [hle]]
        rfl
      · rw [if_neg hle, if_neg (fun z => hle z.2), show (true && decide (ik + mq_pc (mv_fm mo cs c (od i)) 25 ≤ mv_in cs c)) = false from by simp [hle]]
        rfl
  simp (disch := omega) only [o2, s_lt, hi, if_true, s_in, s_cl, ok, r_isLetter hm hw k8, Option.bind_some, s_b0, s_bi0, hk, b_X9_written_75, not_true, if_false, r_formNow hm hw hr hwc hc10 k8 hk, r_readsAs hm hw lf, s_addL]
  have f0 := e139
  cases g with
  | false =>
    rw [if_pos rfl]
    by_cases a1 : mv_rd mo (mv_fm mo cs c (od i)) = nI (od i)
    · simp only [a1, if_true] at f0 ⊢
      exact f0 _ _ _
    · by_cases a2 : mv_rd mo (mv_fm mo cs c (od i)) = -2
      · simp only [a1, a2, if_true, if_false] at f0 ⊢
        rw [a2] at a1
        simp only [a1, if_false]
        exact f0 _ _ _
      · simp only [a1, a2, if_true, if_false] at f0 ⊢
        exact f0 _ _ _
  | true =>
    rw [if_neg (fun z => by cases z)]
    by_cases a1 : mv_rd mo (mv_fm mo cs c (od i)) = nI (od i)
    · simp only [a1, if_true] at f0 ⊢
      exact f0 _ _ _
    · by_cases a2 : mv_rd mo (mv_fm mo cs c (od i)) = -2
      · simp only [a1, a2, if_true, if_false] at f0 ⊢
        rw [a2] at a1
        simp only [a1, if_false]
        exact f0 _ _ _
      · simp only [a1, a2, if_true, if_false] at f0 ⊢
        exact f0 _ _ _
theorem mv_sel0 {y : Int32} (h : y = 0) : ¬ y = 1 ∧ ¬ y = 2 ∧ ¬ y = 3 ∧ ¬ y = 4 := by subst h; decide
theorem mv_sel1 {y : Int32} (h : y = 1) : ¬ y = 0 ∧ ¬ y = 2 ∧ ¬ y = 3 ∧ ¬ y = 4 := by subst h; decide
theorem mv_sel2 {y : Int32} (h : y = 2) : ¬ y = 0 ∧ ¬ y = 1 ∧ ¬ y = 3 ∧ ¬ y = 4 := by subst h; decide
theorem mv_sel3 {y : Int32} (h : y = 3) : ¬ y = 0 ∧ ¬ y = 1 ∧ ¬ y = 2 ∧ ¬ y = 4 := by subst h; decide
def mv_wsel (y : Int32) (m o n ik : Nat) : Nat := if y = 0 then m else if y = 1 then o else if y = 2 then n else ik
theorem p_written {x y : Int32} {on : Nat} {od : Nat → Nat} (B : mv_B M mo cs) (O : mv_Or M on od) : ∃ v, mj_C sl (d + 4) i_X8_written [.ref 0, .int x, .int y] M = some (v, M) ∧ mj_C sl (d + 4) i_X9_written [.ref 45, .int x, .int y] M = some (v, M) := by
  obtain ⟨hm, hcm, hw, hr, hc, hwc⟩ := id B
  obtain ⟨o1, o2, o3, o4⟩ := id O
  rw [b_X8_written, b_X9_written]
  rcases mv_toldE x rfl hr hc with ⟨h1, h2⟩ | ⟨c, hc10, rfl, tc, h1, h2⟩
  · simp only [h1, h2, Option.bind_some, if_true]
    exact ⟨_, rfl, rfl⟩
  · simp only [h1, h2, Option.bind_some, s_10, if_false, r_in]
    by_cases y0 : y < 0
    · simp only [y0, if_true]
      exact ⟨_, rfl, rfl⟩
    by_cases y2 : y ≤ 4
    · simp only [y0, y2, if_true, if_false, s_10]
      have gi := (hwc.1 c tc).2
      by_cases y4 : y = 4
      · simp only [y4, if_true]
        rw [b_X8_inkLastsFor]
        simp (disch := omega) only [s_in, if_true, s_cl, (hc.2.1 c hc10 tc).2]
        have D : ∀ i, i ≤ on → ∀ (m o n ik en : Nat) (w1 w2 : Value), ik ≤ 25 * i → mj_E sl (d + 4) i_X9_written 39 [.ref 45, .int (nI c), .int 4, .int (nI m), .int (nI o), .int (nI n), .int (nI ik), .int (nI en), .int (mv_bi false), .int (nI i), w1, w2] [] M = some (nI en, M) := by
          refine mq_up ?_ ?_
          · intro m o n ik en w1 w2 _
            rw [b_X9_written_39]
            simp (disch := omega) only [o2, s_lt, Nat.lt_irrefl, if_false]
            rfl
          · intro i hi ih m o n ik en w1 w2 hik
            have p := mq_pc_le (mv_fm mo cs c (od i)) 25
            by_cases hk : (mo (od i)).isSome = true
            · obtain ⟨w3, w4, e⟩ := r_written_st (sl := sl) (d := d) (g := false) (y := 4) (m := m) (o := o) (n := n) (en := en) (w1 := w1) (w2 := w2) B O hc10 tc hi hik hk
              rw [e, if_neg (show ¬ (false = true ∧ ik + mq_pc (mv_fm mo cs c (od i)) 25 ≤ mv_in cs c) from fun z => by cases z.1)]
              exact ih _ _ _ _ _ _ _ (by omega)
            · obtain ⟨w3, w4, e⟩ := r_written_no (sl := sl) (d := d) (c := c) (g := false) (y := 4) (m := m) (o := o) (n := n) (ik := ik) (en := en) (w1 := w1) (w2 := w2) B O hi hk
              rw [e]
              exact ih _ _ _ _ _ _ _ (by omega)
        have L : ∀ i, i ≤ on → ∀ (m o n ik : Nat) (w w1 w2 : Value), ik ≤ 25 * i → ik ≤ mv_in cs c → ∃ v, (mj_E sl (d + 2 + 1) i_X8_inkLastsFor 12 [.ref 0, .int (nI c), .int (nI (mv_in cs c - ik)), .int (nI i), w] [] M).bind (fun q2 => some (q2.1, q2.2)) = some (v, M) ∧ mj_E sl (d + 4) i_X9_written 39 [.ref 45, .int (nI c), .int 4, .int (nI m), .int (nI o), .int (nI n), .int (nI ik), .int (nI i), .int (mv_bi true), .int (nI i), w1, w2] [] M = some (v, M) := by
          refine mq_up ?_ ?_
          · intro m o n ik w w1 w2 _ _
            rw [b_X8_inkLastsFor_12, b_X9_written_39]
            simp (disch := omega) only [o1, o2, s_lt, Nat.lt_irrefl, if_false]
            exact ⟨_, rfl, rfl⟩
          · intro i hi ih m o n ik w w1 w2 hik hik2
            obtain ⟨k8, ok1, ok2⟩ := o4 i hi
            have p := mq_pc_le (mv_fm mo cs c (od i)) 25
            have lf := mv_fm_lt hw hwc c (od i)
            rw [b_X8_inkLastsFor_12]
            simp (disch := omega) only [o1, s_lt, hi, if_true, s_in, s_cl, ok1, c_hasM hcm k8, Option.bind_some, s_b0]
            by_cases hk : (mo (od i)).isSome = true
            · obtain ⟨w3, w4, e⟩ := r_written_st (sl := sl) (d := d) (g := true) (y := 4) (m := m) (o := o) (n := n) (en := i) (w1 := w1) (w2 := w2) B O hc10 tc hi hik hk
              rw [e]
              simp (disch := omega) only [hk, not_true, if_false, c_formAt rfl hcm hc hwc hc10 k8 hk, Option.bind_some, c_bitCount, mq_pc25 lf]
              by_cases hle : ik + mq_pc (mv_fm mo cs c (od i)) 25 ≤ mv_in cs c
              · rw [if_pos (show True ∧ ik + mq_pc (mv_fm mo cs c (od i)) 25 ≤ mv_in cs c from ⟨trivial, hle⟩), show (true && decide (ik + mq_pc (mv_fm mo cs c (od i)) 25 ≤ mv_in cs c)) = true from by simp [hle], pk_sub (by omega), if_neg (nI_pos (by omega)), Nat.sub_sub, nI_1]
                exact ih _ _ _ _ _ _ _ (by omega) hle
              · rw [if_neg (show ¬ (True ∧ ik + mq_pc (mv_fm mo cs c (od i)) 25 ≤ mv_in cs c) from fun z => hle z.2), show (true && decide (ik + mq_pc (mv_fm mo cs c (od i)) 25 ≤ mv_in cs c)) = false from by simp [hle], if_pos (pk_sneg (by omega) (by omega))]
                exact ⟨_, rfl, D _ hi _ _ _ _ _ _ _ (by omega)⟩
            · obtain ⟨w3, w4, e⟩ := r_written_no (sl := sl) (d := d) (c := c) (g := true) (y := 4) (m := m) (o := o) (n := n) (ik := ik) (en := i) (w1 := w1) (w2 := w2) B O hi hk
              rw [e]
              simp only [hk, not_false_eq_true, if_true]
              exact ⟨_, rfl, D _ hi _ _ _ _ _ _ _ (by omega)⟩
        exact L 0 (by omega) 0 0 0 0 _ _ _ (by omega) (by omega)
      · simp only [y4, if_false]
        have L : ∀ i, i ≤ on → ∀ (m o n ik en : Nat) (g : Bool) (w w1 w2 : Value), ik ≤ 25 * i → ∃ v, mj_E sl (d + 3 + 1) i_X8_written 38 [.ref 0, .int (nI c), .int y, .int (nI (mv_wsel y m o n ik)), .int (nI i), w] [] M = some (v, M) ∧ mj_E sl (d + 4) i_X9_written 39 [.ref 45, .int (nI c), .int y, .int (nI m), .int (nI o), .int (nI n), .int (nI ik), .int (nI en), .int (mv_bi g), .int (nI i), w1, w2] [] M = some (v, M) := by
          refine mq_up ?_ ?_
          · intro m o n ik en g w w1 w2 _
            rw [b_X8_written_38, b_X9_written_39]
            simp (disch := omega) only [o1, o2, s_lt, Nat.lt_irrefl, if_false]
            refine ⟨_, rfl, ?_⟩
            unfold mv_wsel
            by_cases e0 : y = 0
            · simp only [e0, if_true]
            by_cases e1 : y = 1
            · simp only [e1, s_10, if_true, if_false]
            by_cases e2 : y = 2
            · simp only [e2, s_20, s_21, if_true, if_false]
            by_cases e3 : y = 3
            · simp only [e3, s_30, s_31, s_32, if_true, if_false]
            · exfalso
              rcases mq_out (x := y) (n := 5) (by decide) with h | h | ⟨j, hj, rfl⟩
              · exact y0 h
              · exact absurd (Int32.le_trans h y2) (by decide)
              · have : j = 0 ∨ j = 1 ∨ j = 2 ∨ j = 3 ∨ j = 4 := by omega
                rcases this with rfl | rfl | rfl | rfl | rfl
                · exact e0 rfl
                · exact e1 rfl
                · exact e2 rfl
                · exact e3 rfl
                · exact y4 rfl
          · intro i hi ih m o n ik en g w w1 w2 hik
            obtain ⟨k8, ok1, ok2⟩ := o4 i hi
            have p := mq_pc_le (mv_fm mo cs c (od i)) 25
            have lf := mv_fm_lt hw hwc c (od i)
            rw [b_X8_written_38]
            simp (disch := omega) only [o1, s_lt, hi, if_true, s_in, s_cl, ok1, c_hasM hcm k8, Option.bind_some, s_b0]
            by_cases hk : (mo (od i)).isSome = true
            · obtain ⟨w3, w4, e⟩ := r_written_st (sl := sl) (d := d) (g := g) (y := y) (m := m) (o := o) (n := n) (en := en) (w1 := w1) (w2 := w2) B O hc10 tc hi hik hk
              rw [e]
              simp (disch := omega) only [hk, not_true, if_false, c_formAt rfl hcm hc hwc hc10 k8 hk, Option.bind_some, s_addL]
              have ih2 := fun v => ih (if mv_rd mo (mv_fm mo cs c (od i)) = nI (od i) then m + 1 else m) (if mv_rd mo (mv_fm mo cs c (od i)) = nI (od i) then o else if mv_rd mo (mv_fm mo cs c (od i)) = -2 then o else o + 1) (if mv_rd mo (mv_fm mo cs c (od i)) = nI (od i) then n else if mv_rd mo (mv_fm mo cs c (od i)) = -2 then n + 1 else n) (ik + mq_pc (mv_fm mo cs c (od i)) 25) (if g = true ∧ ik + mq_pc (mv_fm mo cs c (od i)) 25 ≤ mv_in cs c then en + 1 else en) (g && decide (ik + mq_pc (mv_fm mo cs c (od i)) 25 ≤ mv_in cs c)) v w3 w4 (by omega)
              rw [b_X8_writtenLetter]
              by_cases e3 : y = 3
              · obtain ⟨a0, a1, a2, a4⟩ := mv_sel3 e3
                simp (disch := omega) only [e3, if_true, c_bitCount, mq_pc25 lf, Option.bind_some]
                unfold mv_wsel at ih2 ⊢
                simp only [a0, a1, a2, if_false, e3] at ih2
                rw [if_neg (by decide), if_neg (by decide), if_neg (by decide), nI_add]
                exact ih2 _
              · simp only [e3, if_false, c_nearest hcm hw lf, Option.bind_some]
                by_cases b1 : mv_rd mo (mv_fm mo cs c (od i)) = nI (od i)
                · simp only [b1, if_true] at ih2 ⊢
                  by_cases e0 : y = 0
                  · subst e0
                    simp only [mv_wsel, if_true, s_10, if_false, Option.bind_some, nI_1] at ih2 ⊢
                    exact ih2 _
                  · simp only [e0, Ne.symm e0, mv_wsel, if_false, Option.bind_some, Int32.add_zero] at ih2 ⊢
                    by_cases e1 : y = 1
                    · simp only [e1, if_true] at ih2 ⊢
                      exact ih2 _
                    · have e2 : y = 2 := by
                        rcases mq_out (x := y) (n := 5) (by decide) with h | h | ⟨j, hj, rfl⟩
                        · exact absurd h y0
                        · exact absurd (Int32.le_trans h y2) (by decide)
                        · have : j = 0 ∨ j = 1 ∨ j = 2 ∨ j = 3 ∨ j = 4 := by omega
                          rcases this with rfl | rfl | rfl | rfl | rfl
                          · exact absurd rfl e0
                          · exact absurd rfl e1
                          · rfl
                          · exact absurd rfl e3
                          · exact absurd rfl y4
                      simp only [e1, e2, if_true, if_false] at ih2 ⊢
                      exact ih2 _
                · simp only [b1, if_false] at ih2 ⊢
                  by_cases b2 : mv_rd mo (mv_fm mo cs c (od i)) = -2
                  · simp only [b2, if_true] at ih2 ⊢
                    by_cases e2 : y = 2
                    · subst e2
                      simp only [mv_wsel, if_true, if_false, Option.bind_some, nI_1, show ¬ (2 : Int32) = 0 from by decide, show ¬ (2 : Int32) = 1 from by decide] at ih2 ⊢
                      exact ih2 _
                    · simp only [show ¬ (2 : Int32) = y from fun z => e2 z.symm, mv_wsel, e2, if_false, Option.bind_some, Int32.add_zero] at ih2 ⊢
                      by_cases e0 : y = 0
                      · simp only [e0, if_true] at ih2 ⊢
                        exact ih2 _
                      · have e1 : y = 1 := by
                          rcases mq_out (x := y) (n := 5) (by decide) with h | h | ⟨j, hj, rfl⟩
                          · exact absurd h y0
                          · exact absurd (Int32.le_trans h y2) (by decide)
                          · have : j = 0 ∨ j = 1 ∨ j = 2 ∨ j = 3 ∨ j = 4 := by omega
                            rcases this with rfl | rfl | rfl | rfl | rfl
                            · exact absurd rfl e0
                            · rfl
                            · exact absurd rfl e2
                            · exact absurd rfl e3
                            · exact absurd rfl y4
                        simp only [e0, e1, if_true, if_false] at ih2 ⊢
                        exact ih2 _
                  · simp only [b2, if_false] at ih2 ⊢
                    by_cases e1 : y = 1
                    · subst e1
                      simp only [mv_wsel, if_true, if_false, Option.bind_some, nI_1, s_10] at ih2 ⊢
                      exact ih2 _
                    · simp only [show ¬ (1 : Int32) = y from fun z => e1 z.symm, mv_wsel, e1, if_false, Option.bind_some, Int32.add_zero] at ih2 ⊢
                      by_cases e0 : y = 0
                      · simp only [e0, if_true] at ih2 ⊢
                        exact ih2 _
                      · have e2 : y = 2 := by
                          rcases mq_out (x := y) (n := 5) (by decide) with h | h | ⟨j, hj, rfl⟩
                          · exact absurd h y0
                          · exact absurd (Int32.le_trans h y2) (by decide)
                          · have : j = 0 ∨ j = 1 ∨ j = 2 ∨ j = 3 ∨ j = 4 := by omega
                            rcases this with rfl | rfl | rfl | rfl | rfl
                            · exact absurd rfl e0
                            · exact absurd rfl e1
                            · rfl
                            · exact absurd rfl e3
                            · exact absurd rfl y4
                        simp only [e0, e2, if_true, if_false] at ih2 ⊢
                        exact ih2 _
            · obtain ⟨w3, w4, e⟩ := r_written_no (sl := sl) (d := d) (c := c) (g := g) (y := y) (m := m) (o := o) (n := n) (ik := ik) (en := en) (w1 := w1) (w2 := w2) B O hi hk
              rw [e]
              simp (disch := omega) only [hk, not_false_eq_true, if_true, s_addL]
              exact ih _ _ _ _ _ _ _ _ _ (by omega)
        have h0 := L 0 (by omega) 0 0 0 0 0 true .null .null .null (by omega)
        have e0 : mv_wsel y 0 0 0 0 = 0 := by
          unfold mv_wsel
          simp only [ite_self]
        rw [e0] at h0
        exact h0
    · simp only [y0, y2, if_true, if_false]
      exact ⟨_, rfl, rfl⟩
end MV10
