def mv_bk (g : Nat) (x y : Int32) : Bool := !decide (x < 0) && (decide (x ≤ 4) && (!decide (y < 0) && (decide (y ≤ 4) && g.testBit (5 * y.toNatClampNeg + x.toNatClampNeg))))
theorem mv_bk_in {g i j : Nat} (hi : i < 5) (hj : j < 5) : mv_bk g (nI i) (nI j) = g.testBit (5 * j + i) := by
  unfold mv_bk
  rw [nI_clamp (by omega), nI_clamp (by omega)]
  have h1 : ¬ nI i < 0 := nI_pos (by omega)
  have h2 : ¬ nI j < 0 := nI_pos (by omega)
  have h3 : nI i ≤ 4 := (mq_le (b := 4) (by omega) (by decide)).mpr (by omega)
  have h4 : nI j ≤ 4 := (mq_le (b := 4) (by omega) (by decide)).mpr (by omega)
  simp [h1, h2, h3, h4]
theorem mv_bk_no {g : Nat} {x y : Int32} (h : x < 0 ∨ ¬ x ≤ 4 ∨ y < 0 ∨ ¬ y ≤ 4) : mv_bk g x y = false := by
  unfold mv_bk
  rcases h with h | h | h | h <;> simp [h]
theorem mv_sbn : ∀ a, a < 5 → ∀ c, c < 10 → (c ≤ a ∧ nI a - nI c = nI (a - c)) ∨ (¬ c ≤ a ∧ nI a - nI c < 0) := by decide +kernel
theorem mv_adn : ∀ a, a < 5 → ∀ c, c < 10 → (a + c ≤ 4 ∧ nI a + nI c = nI (a + c)) ∨ (¬ a + c ≤ 4 ∧ ¬ nI a + nI c ≤ 4) := by decide +kernel
theorem mv_sb1 : ∀ a, a < 5 → ∀ c, c < 9 → nI a - nI c - 1 = nI a - nI (c + 1) := by decide +kernel
theorem mv_ad1 : ∀ a, a < 5 → ∀ c, c < 9 → nI a + nI c + 1 = nI a + nI (c + 1) := by decide +kernel
theorem mv_bkL {g a b c : Nat} (ha : a < 5) (hb : b < 5) (hc : c < 10) : mv_bk g (nI a - nI c) (nI b) = true ↔ c ≤ a ∧ g.testBit (5 * b + (a - c)) = true := by
  rcases mv_sbn a ha c hc with ⟨h1, h2⟩ | ⟨h1, h2⟩
  · rw [h2, mv_bk_in (by omega) hb]
    exact ⟨fun h => ⟨h1, h⟩, fun h => h.2⟩
  · rw [mv_bk_no (Or.inl h2)]
    exact ⟨fun h => (by cases h), fun h => absurd h.1 h1⟩
theorem mv_bkR {g a b c : Nat} (ha : a < 5) (hb : b < 5) (hc : c < 10) : mv_bk g (nI a + nI c) (nI b) = true ↔ a + c ≤ 4 ∧ g.testBit (5 * b + (a + c)) = true := by
  rcases mv_adn a ha c hc with ⟨h1, h2⟩ | ⟨h1, h2⟩
  · rw [h2, mv_bk_in (by omega) hb]
    exact ⟨fun h => ⟨h1, h⟩, fun h => h.2⟩
  · rw [mv_bk_no (Or.inr (Or.inl h2))]
    exact ⟨fun h => (by cases h), fun h => absurd h.1 h1⟩
theorem mv_bkU {g a b c : Nat} (ha : a < 5) (hb : b < 5) (hc : c < 10) : mv_bk g (nI a) (nI b - nI c) = true ↔ c ≤ b ∧ g.testBit (5 * (b - c) + a) = true := by
  rcases mv_sbn b hb c hc with ⟨h1, h2⟩ | ⟨h1, h2⟩
  · rw [h2, mv_bk_in ha (by omega)]
    exact ⟨fun h => ⟨h1, h⟩, fun h => h.2⟩
  · rw [mv_bk_no (Or.inr (Or.inr (Or.inl h2)))]
    exact ⟨fun h => (by cases h), fun h => absurd h.1 h1⟩
theorem mv_bkD {g a b c : Nat} (ha : a < 5) (hb : b < 5) (hc : c < 10) : mv_bk g (nI a) (nI b + nI c) = true ↔ b + c ≤ 4 ∧ g.testBit (5 * (b + c) + a) = true := by
  rcases mv_adn b hb c hc with ⟨h1, h2⟩ | ⟨h1, h2⟩
  · rw [h2, mv_bk_in ha (by omega)]
    exact ⟨fun h => ⟨h1, h⟩, fun h => h.2⟩
  · rw [mv_bk_no (Or.inr (Or.inr (Or.inr h2)))]
    exact ⟨fun h => (by cases h), fun h => absurd h.1 h1⟩
theorem mv_mkL : ∀ j, j < 25 → (4293884894 : Nat).testBit j = decide (j % 5 ≠ 0) := by decide +kernel
theorem mv_mkR : ∀ j, j < 25 → (4277648879 : Nat).testBit j = decide (j % 5 ≠ 4) := by decide +kernel
theorem mv_hi {p i : Nat} (hp : p < 2 ^ 25) (hi : 25 ≤ i) : p.testBit i = false := Nat.testBit_lt_two_pow (Nat.lt_of_lt_of_le hp (Nat.pow_le_pow_right (by decide) hi))
theorem mv_tL_tb {p e : Nat} (hp : p < 2 ^ 25) (he : e < 25) : (mv_tL p).testBit e = true ↔ e % 5 + 1 ≤ 4 ∧ p.testBit (e + 1) = true := by
  unfold mv_tL
  rw [Nat.testBit_div_two_pow, Nat.testBit_and]
  by_cases q : e + 1 < 25
  · rw [mv_mkL _ q, Bool.and_eq_true, decide_eq_true_iff]
    exact ⟨fun h => ⟨by omega, h.1⟩, fun h => ⟨h.2, by omega⟩⟩
  · rw [mv_hi hp (by omega)]
    exact ⟨fun h => (by cases h), fun h => (by cases h.2)⟩
theorem mv_tR_tb {p e : Nat} (hp : p < 2 ^ 25) (he : e < 25) : (mv_tR p).testBit e = true ↔ 1 ≤ e % 5 ∧ p.testBit (e - 1) = true := by
  unfold mv_tR
  rw [Nat.testBit_mul_two_pow, Nat.testBit_and]
  by_cases q : 1 ≤ e
  · rw [mv_mkR _ (by omega), Bool.and_eq_true, Bool.and_eq_true, decide_eq_true_iff, decide_eq_true_iff]
    exact ⟨fun h => ⟨by omega, h.2.1⟩, fun h => ⟨q, h.2, by omega⟩⟩
  · rw [show decide (1 ≤ e) = false from by simp [q]]
    exact ⟨fun h => (by cases h), fun h => by omega⟩
theorem mv_tT_tb {p e : Nat} (hp : p < 2 ^ 25) (he : e < 25) : (mv_tT p).testBit e = true ↔ e / 5 + 1 ≤ 4 ∧ p.testBit (e + 5) = true := by
  unfold mv_tT
  rw [Nat.testBit_div_two_pow]
  by_cases q : e + 5 < 25
  · exact ⟨fun h => ⟨by omega, h⟩, fun h => h.2⟩
  · rw [mv_hi hp (by omega)]
    exact ⟨fun h => (by cases h), fun h => (by cases h.2)⟩
theorem mv_tB_tb {p e : Nat} (he : e < 25) : (mv_tB p).testBit e = true ↔ 1 ≤ e / 5 ∧ p.testBit (e - 5) = true := by
  unfold mv_tB
  rw [Nat.testBit_and, show (33554431 : Nat) = 2 ^ 25 - 1 from rfl, Nat.testBit_two_pow_sub_one, Nat.testBit_mul_two_pow]
  rw [Bool.and_eq_true, Bool.and_eq_true, decide_eq_true_iff, decide_eq_true_iff]
  exact ⟨fun h => ⟨by omega, h.1.2⟩, fun h => ⟨⟨by omega, h.2⟩, he⟩⟩
theorem mv_iffB {a b : Bool} {p : Prop} (h : a = true ↔ p) (h2 : b = true ↔ p) : a = b := by
  cases a <;> cases b <;> simp at h h2 ⊢
  · exact h h2
  · exact h2 h
theorem mv_mxE (x y : Int32) : mj_mx x y = if x ≤ y then y else x := by
  unfold mj_mx
  by_cases h : x < y
  · rw [if_pos h, if_pos (Int32.le_of_lt h)]
  · rw [if_neg h]
    by_cases h2 : x ≤ y
    · rw [if_pos h2]
      exact Int32.le_antisymm h2 (Int32.not_lt.mp h)
    · rw [if_neg h2]
section MV29
variable {sl d : Nat} {M : mj_M}
theorem r_isBlack {g : Nat} {x y : Int32} (hg : g < 2 ^ 25) : mj_C sl (d + 1) i_X9_isBlack [.int (nI g), .int x, .int y] M = some (if mv_bk g x y = true then 1 else 0, M) := by
  rw [b_X9_isBlack]
  simp only [r_in, Option.bind_some]
  by_cases x0 : x < 0
  · rw [mv_bk_no (Or.inl x0)]
    simp only [x0, if_true, Bool.false_eq_true, if_false]
  by_cases x1 : x ≤ 4
  · simp only [x0, x1, if_true, if_false, s_10]
    by_cases y0 : y < 0
    · rw [mv_bk_no (Or.inr (Or.inr (Or.inl y0)))]
      simp only [y0, if_true, Bool.false_eq_true, if_false]
    by_cases y1 : y ≤ 4
    · obtain ⟨i, hi, rfl⟩ := nI_of2 (n := 4) (by decide) x0 x1
      obtain ⟨j, hj, rfl⟩ := nI_of2 (n := 4) (by decide) y0 y1
      simp (disch := omega) only [y0, y1, if_true, if_false, s_10, b_X9_dot, s_Lmul, nI_add, Option.bind_some, r_has, s_b0, mv_bk_in]
      by_cases q : g.testBit (5 * j + i) = true
      · rw [if_neg (by rw [q]; simp), if_pos q]
      · rw [if_pos q, if_neg q]
    · rw [mv_bk_no (Or.inr (Or.inr (Or.inr y1)))]
      simp only [y0, y1, if_true, Bool.false_eq_true, if_false]
  · rw [mv_bk_no (Or.inr (Or.inl x1))]
    simp only [x0, x1, if_true, Bool.false_eq_true, if_false]
theorem r_neighbours {g e : Nat} (hg : g < 2 ^ 25) (he : e < 25) : ∃ v, mj_C sl (d + 2) i_X9_neighbours [.int (nI g), .int (nI e)] M = some (v, M) ∧ (mj_rm v 2 = 1 ↔ ((((mv_tL g).testBit e ^^ (mv_tR g).testBit e) ^^ (mv_tT g).testBit e) ^^ (mv_tB g).testBit e) = true) := by
  have a1 : mv_bk g (nI (e % 5) - 1) (nI (e / 5)) = (mv_tR g).testBit e := mv_iffB (mv_bkL (c := 1) (by omega) (by omega) (by omega)) ((mv_tR_tb hg he).trans ⟨fun h => ⟨h.1, by rw [show 5 * (e / 5) + (e % 5 - 1) = e - 1 from by omega]; exact h.2⟩, fun h => ⟨h.1, by rw [show e - 1 = 5 * (e / 5) + (e % 5 - 1) from by omega]; exact h.2⟩⟩)
  have a2 : mv_bk g (nI (e % 5) + 1) (nI (e / 5)) = (mv_tL g).testBit e := mv_iffB (mv_bkR (c := 1) (by omega) (by omega) (by omega)) ((mv_tL_tb hg he).trans ⟨fun h => ⟨h.1, by rw [show 5 * (e / 5) + (e % 5 + 1) = e + 1 from by omega]; exact h.2⟩, fun h => ⟨h.1, by rw [show e + 1 = 5 * (e / 5) + (e % 5 + 1) from by omega]; exact h.2⟩⟩)
  have a3 : mv_bk g (nI (e % 5)) (nI (e / 5) - 1) = (mv_tB g).testBit e := mv_iffB (mv_bkU (c := 1) (by omega) (by omega) (by omega)) ((mv_tB_tb he).trans ⟨fun h => ⟨h.1, by rw [show 5 * (e / 5 - 1) + e % 5 = e - 5 from by omega]; exact h.2⟩, fun h => ⟨h.1, by rw [show e - 5 = 5 * (e / 5 - 1) + e % 5 from by omega]; exact h.2⟩⟩)
  have a4 : mv_bk g (nI (e % 5)) (nI (e / 5) + 1) = (mv_tT g).testBit e := mv_iffB (mv_bkD (c := 1) (by omega) (by omega) (by omega)) ((mv_tT_tb hg he).trans ⟨fun h => ⟨h.1, by rw [show 5 * (e / 5 + 1) + e % 5 = e + 5 from by omega]; exact h.2⟩, fun h => ⟨h.1, by rw [show e + 5 = 5 * (e / 5 + 1) + e % 5 from by omega]; exact h.2⟩⟩)
  rw [b_X9_neighbours]
  simp (disch := omega) only [s_rmL, s_dvL]
  simp only [r_isBlack hg, Option.bind_some, a1, a2, a3, a4]
  cases (mv_tL g).testBit e <;> cases (mv_tR g).testBit e <;> cases (mv_tT g).testBit e <;> cases (mv_tB g).testBit e <;> exact ⟨_, rfl, by decide⟩
theorem p_pen {g : Nat} (hG : g < 2 ^ 25) : ∃ v, mj_C sl (d + 4) i_X2_penLifts [.int (nI g)] M = some (v, M) ∧ mj_C sl (d + 4) i_X9_penOf [.int (nI g)] M = some (v, M) := by
  obtain ⟨od, hod⟩ : ∃ od, od = g &&& (mv_tL g ^^^ mv_tR g ^^^ mv_tT g ^^^ mv_tB g) := ⟨_, rfl⟩
  have hodl : od < 2 ^ 25 := by rw [hod]; exact Nat.lt_of_le_of_lt Nat.and_le_left hG
  have R : ∀ k, k ≤ 25 → ∀ (L n t : Nat) (w5 u4 u5 u6 : Value), L < 2 ^ 25 → mv_cld false g L → (∀ j, j < k → L.testBit j = false) → t ≤ k → ∃ v, mj_E sl (d + 3 + 1) i_X2_penLifts 29 [.int (nI g), .int (nI od), .int (nI n), .int (nI L), .int (nI t), w5] [] M = some (v, M) ∧ mj_E sl (d + 3 + 1) i_X9_penOf 6 [.int (nI g), .int (nI L), .int (nI n), .int (nI k), u4, u5, u6] [] M = some (v, M) := by
    refine mq_up ?_ ?_
    · intro L n t w5 u4 u5 u6 hL hcl hlo ht
      have hz := mv_zero hL hlo
      refine ⟨mj_mx 0 (nI n - 1), ?_, ?_⟩
      · rw [b_X2_penLifts_29, hz]
        split
        · exact if_pos rfl
        · rfl
      · rw [b_X9_penOf_6, if_neg (by decide), b_X9_max, mv_mxE]
        split <;> rfl
    · intro k hk ih L n t w5 u4 u5 u6 hL hcl hlo ht
      rw [b_X9_penOf_6]
      simp (disch := omega) only [s_ltL, hk, if_true, r_has, Option.bind_some, s_b0, s_addL]
      by_cases c1 : L.testBit k = true
      · simp only [c1, not_true, if_false]
        obtain ⟨S, hS, e1⟩ := c_lowestPart (sl := sl) (d := d + 2) (M := M) (co := false) rfl hL c1 hlo
        have hS2 := hcl.cl c1 hk hS
        obtain ⟨S2, hS3, e2⟩ := r_partOf (sl := sl) (d := d + 1) (M := M) (co := false) (c := k) rfl hG hk (hcl.1 k c1)
        rw [← hS2.un hS3] at e2
        have e1' : mj_C sl (d + 3) 29 [.int (nI L), .int 0] M = some (nI S, M) := e1
        have e2' : mj_C sl (d + 3) 211 [.int (nI g), .int (nI k), .int 0] M = some (nI S, M) := e2
        have hz : ¬ nI L = 0 := fun z => mv_nz c1 ((mq_eq (b := 0) (by omega) (by decide)).mp z)
        have hSl := hS.1
        have hsub := mv_clE hS2 (hcl.1 k c1) hk
        have hal : od &&& S < 2 ^ 25 := Nat.lt_of_le_of_lt Nat.and_le_left hodl
        have hpl := mq_pc_le (od &&& S) 25
        have O : ∀ e, e ≤ 25 → mj_E sl (d + 3 + 1) i_X9_penOf 37 [.int (nI g), .int (nI L), .int (nI n), .int (nI k), .int (nI S), .int (nI (mq_pc (od &&& S) e)), .int (nI e)] [] M = mj_E sl (d + 3 + 1) i_X9_penOf 37 [.int (nI g), .int (nI L), .int (nI n), .int (nI k), .int (nI S), .int (nI (mq_pc (od &&& S) 25)), .int (nI 25)] [] M := mq_up rfl (fun e he ihe => by
          rw [b_X9_penOf_37 (y6 := nI e)]
          have tb : mq_bt (od &&& S) e = if S.testBit e = true ∧ ((((mv_tL g).testBit e ^^ (mv_tR g).testBit e) ^^ (mv_tT g).testBit e) ^^ (mv_tB g).testBit e) = true then 1 else 0 := by
            rw [mq_bt_tb, Nat.testBit_and, hod, Nat.testBit_and, Nat.testBit_xor, Nat.testBit_xor, Nat.testBit_xor]
            cases hse : S.testBit e with
            | false => simp
            | true =>
              rw [hsub e hse]
              simp
          rw [mq_pc, tb] at ihe
          simp (disch := omega) only [s_ltL, he, if_true, r_has, Option.bind_some, s_b0, s_addL]
          by_cases q : S.testBit e = true
          · obtain ⟨v, n1, n2⟩ := r_neighbours (sl := sl) (d := d + 1) (M := M) hG he
            simp only [q, not_true, if_false, n1, Option.bind_some, n2]
            simp only [q, true_and] at ihe
            by_cases z : ((((mv_tL g).testBit e ^^ (mv_tR g).testBit e) ^^ (mv_tT g).testBit e) ^^ (mv_tB g).testBit e) = true
            · rw [if_pos z] at ihe ⊢
              exact ihe
            · rw [if_neg z] at ihe ⊢
              exact ihe
          · rw [if_pos q]
            rw [if_neg (fun z => q z.1)] at ihe
            exact ihe)
        have O0 : mj_E sl (d + 3 + 1) 219 37 [.int (nI g), .int (nI L), .int (nI n), .int (nI k), .int (nI S), .int 0, .int 0] [] M = mj_E sl (d + 3 + 1) i_X9_penOf 37 [.int (nI g), .int (nI L), .int (nI n), .int (nI k), .int (nI S), .int (nI (mq_pc (od &&& S) 25)), .int (nI 25)] [] M := O 0 (by omega)
        rw [e2']
        simp only [Option.bind_some]
        rw [O0, b_X9_penOf_37, if_neg (by decide), b_X2_penLifts_29]
        have em : mj_mx 1 (nI (mq_pc (od &&& S) 25) / 2) = nI (if 1 ≤ mq_pc (od &&& S) 25 / 2 then mq_pc (od &&& S) 25 / 2 else 1) := by
          rw [mv_mxE]
          simp (disch := omega) only [s_dvL, s_Lle]
          split <;> rfl
        have er : mj_C sl (d + 3) 126 [.int 1, .int (nI (mq_pc (od &&& S) 25) / 2)] M = some (nI (if 1 ≤ mq_pc (od &&& S) 25 / 2 then mq_pc (od &&& S) 25 / 2 else 1), M) := by
          rw [b_X9_max]
          simp (disch := omega) only [s_dvL, s_Lle]
          split <;> rfl
        rw [er]
        simp (disch := omega) only [s_ltL, show t < 25 from by omega, if_true, hz, if_false, e1', Option.bind_some, mq_and, c_bitCount, mq_pc25 hal, em, mv_mnsE, s_addL, nI_add]
        exact ih (mv_mns L S) _ (t + 1) _ _ _ _ (mv_mns_lt hL) (hcl.nx hL hS2) (mv_mns_lo hL hlo hS.2.1) (by omega)
      · rw [if_pos c1]
        refine ih L n t w5 _ _ _ hL hcl (fun j hj => ?_) (by omega)
        by_cases q : j = k
        · rw [q]; simpa using c1
        · exact hlo j (by omega)
  obtain ⟨v, a1, a2⟩ := R 0 (by omega) g 0 0 .null .null .null .null hG ⟨mv_sub.rf, fun a b _ _ _ _ h => h⟩ (fun j hj => by omega) (by omega)
  refine ⟨v, ?_, ?_⟩
  · rw [b_X2_penLifts]
    simp only [c_toLeft hG, c_toRight hG, c_toTop hG, c_toBottom hG, Option.bind_some, mq_xor, mq_and]
    rw [← hod]
    exact a1
  · rw [b_X9_penOf]
    exact a2
end MV29
