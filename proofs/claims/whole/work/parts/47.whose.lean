def mv_iv (tp : Nat → Nat) (j : Nat) : Nat := ((tp j * 256 + tp (j + 1)) * 256 + tp (j + 2)) * 256 + tp (j + 3)
theorem mv_or_add {a b : Nat} (k : Nat) (h : b < 2 ^ k) : a * 2 ^ k ||| b = a * 2 ^ k + b := by
  have := Nat.two_pow_add_eq_or_of_lt h a
  rw [Nat.mul_comm]
  exact this.symm
theorem mv_nI_inj {a b : Nat} (ha : a < 2 ^ 32) (hb : b < 2 ^ 32) (h : nI a = nI b) : a = b := by
  rw [← pk_tn ha, ← pk_tn hb, h]
theorem mv_fitE {v : Nat} (hv : v < 2 ^ 32) : (if nI v < 0 then 0 else if nI v ≤ 33554431 then 1 else 0 : Int32) = if v < 2 ^ 25 then 1 else 0 := by
  rcases mv_gr_cases (nI v) with ⟨h, e⟩ | ⟨g, hg, h, e⟩
  · rw [e, if_neg]
    intro z
    rcases h with h | h
    · exact nI_pos (by omega) h
    · exact h ((mq_le (b := 33554431) (by omega) (by decide)).mpr (by omega))
  · rw [e, if_pos]
    have := mv_nI_inj hv (by omega) h
    omega
theorem mv_iv_lt {tp : Nat → Nat} {j : Nat} (h : ∀ i, i < 260 → tp i < 256) (hj : j + 4 ≤ 260) : mv_iv tp j < 2 ^ 32 := by
  have h0 := h j (by omega)
  have h1 := h (j + 1) (by omega)
  have h2 := h (j + 2) (by omega)
  have h3 := h (j + 3) (by omega)
  unfold mv_iv
  omega
theorem mq_sh8b {v b : Nat} (hv : v * 256 < 2 ^ 32) (hb : b < 256) : (nI v <<< ((8 : Int32) &&& 31)) ||| (nI b &&& 255) = nI (v * 256 + b) := by
  have e1 : nI v <<< ((8 : Int32) &&& 31) = nI (v * 2 ^ 8) := mq_shl (j := 8) (by decide) hv
  have e2 : nI b &&& (255 : Int32) = nI (b % 2 ^ 8) := pk_andN (by omega) 8 (by decide)
  rw [e1, e2, Nat.mod_eq_of_lt (by omega), mq_or, mv_or_add 8 (by omega)]
section MV18
variable {sl d : Nat} {M : mj_M} {mo : Nat → Option Nat} {cs : mv_CS}
theorem c_intAt {j : Nat} {tp : Nat → Nat} (T : ∀ j, j < 260 → tp j < 256 ∧ M 22 j = nI (tp j)) (hj : j + 4 ≤ 260) : mj_C sl (d + 1) i_X7_intAt [.ref 21, .int (nI j)] M = some (nI (mv_iv tp j), M) := by
  have cb : ∀ i, i < 260 → mj_C sl d i_X7_byteAt [.ref 21, .int (nI i)] M = some (nI (tp i), M) := fun i hi => by
    rw [b_X7_byteAt]
    simp (disch := omega) only [s_ltL, Nat.not_lt_zero, s_lt0, hi, if_true, if_false, s_in, s_cl, (T i hi).2]
  have h0 := (T j (by omega)).1
  have h1 := (T (j + 1) (by omega)).1
  have h2 := (T (j + 2) (by omega)).1
  have h3 := (T (j + 3) (by omega)).1
  have st : ∀ i v, i < 4 → v * 256 < 2 ^ 32 → mj_E sl (d + 1) i_X7_intAt 4 [.ref 21, .int (nI j), .int (nI v), .int (nI i)] [] M = mj_E sl (d + 1) i_X7_intAt 4 [.ref 21, .int (nI j), .int (nI (v * 256 + tp (j + i))), .int (nI (i + 1))] [] M := by
    intro i v hi hv
    have hb := (T (j + i) (by omega)).1
    rw [b_X7_intAt_4 (y2 := nI v)]
    simp (disch := omega) only [s_ltL, hi, if_true, nI_add, cb (j + i) (by omega), Option.bind_some, s_addL]
    rw [mq_sh8b hv hb]
  have s0 := st 0 0 (by decide) (by decide)
  have s1 := st 1 (tp j) (by decide) (by omega)
  have s2 := st 2 (tp j * 256 + tp (j + 1)) (by decide) (by omega)
  have s3 := st 3 ((tp j * 256 + tp (j + 1)) * 256 + tp (j + 2)) (by decide) (by omega)
  rw [Nat.zero_mul, Nat.zero_add, Nat.add_zero] at s0
  have e4 : mj_E sl (d + 1) i_X7_intAt 4 [.ref 21, .int (nI j), .int (nI (mv_iv tp j)), .int (nI 4)] [] M = some (nI (mv_iv tp j), M) := by
    rw [b_X7_intAt_4, if_neg (by decide)]
  rw [b_X7_intAt]
  exact s0.trans (s1.trans (s2.trans (s3.trans e4)))
theorem mv_pc_mono (s : Nat) : ∀ {a b : Nat}, a ≤ b → mq_pc s a ≤ mq_pc s b := by
  intro a b h
  obtain ⟨c, rfl⟩ : ∃ c, b = a + c := ⟨b - a, by omega⟩
  clear h
  induction c with
  | zero => exact Nat.le_refl _
  | succ c ih =>
    rw [show a + (c + 1) = (a + c) + 1 from rfl, mq_pc]
    omega
def mv_far (mo : Nat → Option Nat) (cs : mv_CS) (tp : Nat → Nat) (s c : Nat) : Nat → Nat
  | 0 => 0
  | k + 1 => mv_far mo cs tp s c k + (if s.testBit k then mq_pc (mv_fm mo cs c k ^^^ mv_iv tp (4 * mq_pc s k)) 25 else 0)
theorem mv_far_le (mo : Nat → Option Nat) (cs : mv_CS) (tp : Nat → Nat) (s c : Nat) : ∀ k, mv_far mo cs tp s c k ≤ 25 * k
  | 0 => Nat.le_refl 0
  | k + 1 => by
    have ih := mv_far_le mo cs tp s c k
    have := mq_pc_le (mv_fm mo cs c k ^^^ mv_iv tp (4 * mq_pc s k)) 25
    rw [mv_far]
    split <;> omega
theorem c_farFromSheet {s c : Nat} {tp : Nat → Nat} (B : mv_B M mo cs) (T : ∀ j, j < 260 → tp j < 256 ∧ M 22 j = nI (tp j)) (hs : s < 256) (hc : c < 10) (hms : ∀ i, s.testBit i = true → (mo i).isSome = true) (hf : ∀ i, i < mq_pc s 8 → mv_iv tp (4 * i) < 2 ^ 25) : mj_C sl (d + 2) i_X8_farFromSheet [.ref 0, .int (nI c), .int (nI s)] M = some (nI (mv_far mo cs tp s c 8), M) := by
  obtain ⟨hm, hcm, hw, hr, hcc, hwc⟩ := B
  rw [b_X8_farFromSheet]
  have L : ∀ k, k ≤ 8 → mj_E sl (d + 1 + 1) i_X8_farFromSheet 8 [.ref 0, .int (nI c), .int (nI s), .int (nI (mv_far mo cs tp s c k)), .int (nI (4 * mq_pc s k)), .int (nI k)] [] M = some (nI (mv_far mo cs tp s c 8), M) := mq_up (by rw [b_X8_farFromSheet_8, if_neg (by decide)]) (fun k hk ih => by
    have pk := mq_pc_le s k
    have pm := mv_pc_mono s (a := k + 1) (b := 8) (by omega)
    have e1 : mq_pc s (k + 1) = mq_pc s k + if s.testBit k then 1 else 0 := by rw [mq_pc, mq_bt_tb]
    rw [mv_far, e1] at ih
    rw [e1] at pm
    rw [b_X8_farFromSheet_8]
    simp (disch := omega) only [s_ltL, hk, if_true, mq_bit, s_eqL, s_addL]
    rw [mq_bt_tb]
    cases hb : s.testBit k with
    | true =>
      rw [hb] at ih pm
      simp only [if_true] at ih pm
      have mk := hms k hb
      have lf := mv_fm_lt hw hwc c k
      have lv := hf (mq_pc s k) (by omega)
      have lx : mv_fm mo cs c k ^^^ mv_iv tp (4 * mq_pc s k) < 2 ^ 25 := Nat.xor_lt_two_pow lf lv
      simp (disch := omega) only [s_n11, if_true, c_formAt (b := 3) rfl hcm hcc hwc hc hk mk, Option.bind_some, c_intAt T, c_gap, mq_pc25 lx, nI_add, s_addL]
      rw [show 4 * mq_pc s k + 4 = 4 * (mq_pc s k + 1) from by omega]
      exact ih
    | false =>
      rw [hb] at ih
      simp only [Bool.false_eq_true, if_false, Nat.add_zero] at ih
      rw [if_neg (by decide)]
      exact ih)
  exact L 0 (by omega)
theorem r_sheetFar {s c : Nat} {tp : Nat → Nat} {y a b e : Int32} (B : mv_B M mo cs) (hs : s < 256) (hc : c < 10) (hms : ∀ i, s.testBit i = true → (mo i).isSome = true) (hf : ∀ i, i < mq_pc s 8 → mv_iv tp (4 * i) < 2 ^ 25) (h70 : ∀ i, i < 8 → s.testBit i = true → M 70 i = nI (mv_iv tp (4 * mq_pc s i))) : mj_E sl (d + 3) i_X9_whose 110 [.ref 45, .int (nI s), .int y, .int a, .int b, .int e, .int (nI c), .int 0, .int 0] [] M = mj_E sl (d + 3) i_X9_whose 110 [.ref 45, .int (nI s), .int y, .int a, .int b, .int e, .int (nI c), .int (nI (mv_far mo cs tp s c 8)), .int (nI 8)] [] M := by
  obtain ⟨hm, hcm, hw, hr, hcc, hwc⟩ := B
  have L : ∀ k, k ≤ 8 → mj_E sl (d + 2 + 1) i_X9_whose 110 [.ref 45, .int (nI s), .int y, .int a, .int b, .int e, .int (nI c), .int (nI (mv_far mo cs tp s c k)), .int (nI k)] [] M = mj_E sl (d + 3) i_X9_whose 110 [.ref 45, .int (nI s), .int y, .int a, .int b, .int e, .int (nI c), .int (nI (mv_far mo cs tp s c 8)), .int (nI 8)] [] M := mq_up rfl (fun k hk ih => by
    have pm := mv_pc_mono s (a := k + 1) (b := 8) (by omega)
    have e1 : mq_pc s (k + 1) = mq_pc s k + if s.testBit k then 1 else 0 := by rw [mq_pc, mq_bt_tb]
    rw [mv_far] at ih
    rw [e1] at pm
    rw [b_X9_whose_110 (y8 := nI k)]
    simp (disch := omega) only [s_ltL, hk, if_true, b_X9_has, mq_bit, s_eqL, s_addL, s_in, s_cl]
    rw [mq_bt_tb]
    cases hb : s.testBit k with
    | true =>
      rw [hb] at ih pm
      simp only [if_true] at ih pm
      have mk := hms k hb
      have lf := mv_fm_lt hw hwc c k
      have lv := hf (mq_pc s k) (by omega)
      have lx : mv_iv tp (4 * mq_pc s k) ^^^ mv_fm mo cs c k < 2 ^ 25 := Nat.xor_lt_two_pow lv lf
      simp (disch := omega) only [s_n11, if_true, Option.bind_some, s_10, if_false, r_formNow hm hw hr hwc hc hk mk, h70 k hk hb, mq_xor, r_bits, nI_add]
      rw [Nat.xor_comm]
      exact ih
    | false =>
      rw [hb] at ih
      simp only [Bool.false_eq_true, if_false, Nat.add_zero] at ih
      simp only [Bool.false_eq_true, s_n01, if_false, Option.bind_some, if_true]
      exact ih)
  exact L 0 (by omega)
theorem r_readsSheet {s n : Nat} {tp : Nat → Nat} (T : mv_Tp M n tp) (hs : s < 256) : ∃ M1, mj_C sl (d + 2) i_X9_readsSheet [.ref 45, .int (nI s)] M = some (if ∀ i, i < mq_pc s 8 → mv_iv tp (4 * i) < 2 ^ 25 then 1 else 0, M1) ∧ mv_fr (fun a _ => a = 70) M M1 ∧ ∀ i, i < 8 → s.testBit i = true → M1 70 i = nI (mv_iv tp (4 * mq_pc s i)) := by
  rw [b_X9_readsSheet]
  have L : ∀ k, k ≤ 8 → ∀ M', mv_fr (fun a _ => a = 70) M M' → (∀ i, i < k → s.testBit i = true → M' 70 i = nI (mv_iv tp (4 * mq_pc s i))) → ∃ M1, mj_E sl (d + 1 + 1) i_X9_readsSheet 7 [.ref 45, .int (nI s), .int (nI (4 * mq_pc s k)), .int (if ∀ i, i < mq_pc s k → mv_iv tp (4 * i) < 2 ^ 25 then 1 else 0), .int (nI k)] [] M' = some (if ∀ i, i < mq_pc s 8 → mv_iv tp (4 * i) < 2 ^ 25 then 1 else 0, M1) ∧ mv_fr (fun a _ => a = 70) M M1 ∧ ∀ i, i < 8 → s.testBit i = true → M1 70 i = nI (mv_iv tp (4 * mq_pc s i)) := by
    refine mq_up ?_ ?_
    · intro M' f h
      refine ⟨M', ?_, f, h⟩
      rw [b_X9_readsSheet_7, if_neg (by decide), if_pos]
      split <;> decide
    · intro k hk ih M' f h
      have pk := mq_pc_le s k
      have T' : mv_Tp M' n tp := T.fr f (fun a k z => by omega)
      rw [mq_pc, mq_bt_tb] at ih
      rw [b_X9_readsSheet_7]
      simp (disch := omega) only [s_ltL, hk, if_true, b_X9_has, mq_bit, s_eqL, s_addL, s_in, s_cl]
      rw [mq_bt_tb]
      cases hb : s.testBit k with
      | false =>
        rw [hb] at ih
        simp only [Bool.false_eq_true, if_false, Nat.add_zero] at ih
        simp only [Bool.false_eq_true, s_n01, if_false, Option.bind_some, if_true]
        refine ih M' f (fun i hi hbi => ?_)
        by_cases q : i = k
        · rw [q, hb] at hbi
          cases hbi
        · exact h i (by omega) hbi
      | true =>
        rw [hb] at ih
        simp only [if_true] at ih
        have h0 := (T.2.2.2 (4 * mq_pc s k) (by omega)).1
        have h1 := (T.2.2.2 (4 * mq_pc s k + 1) (by omega)).1
        have h2 := (T.2.2.2 (4 * mq_pc s k + 2) (by omega)).1
        have h3 := (T.2.2.2 (4 * mq_pc s k + 3) (by omega)).1
        have e24 : nI (tp (4 * mq_pc s k)) <<< ((24 : Int32) &&& 31) = nI (tp (4 * mq_pc s k) * 2 ^ 24) := mq_shl (j := 24) (by decide) (by omega)
        have e16 : nI (tp (4 * mq_pc s k + 1)) <<< ((16 : Int32) &&& 31) = nI (tp (4 * mq_pc s k + 1) * 2 ^ 16) := mq_shl (j := 16) (by decide) (by omega)
        have e8 : nI (tp (4 * mq_pc s k + 2)) <<< ((8 : Int32) &&& 31) = nI (tp (4 * mq_pc s k + 2) * 2 ^ 8) := mq_shl (j := 8) (by decide) (by omega)
        have ev : ((nI (tp (4 * mq_pc s k)) <<< ((24 : Int32) &&& 31) ||| nI (tp (4 * mq_pc s k + 1)) <<< ((16 : Int32) &&& 31)) ||| nI (tp (4 * mq_pc s k + 2)) <<< ((8 : Int32) &&& 31)) ||| nI (tp (4 * mq_pc s k + 3)) = nI (mv_iv tp (4 * mq_pc s k)) := by
          rw [e24, e16, e8, mq_or, mq_or, mq_or, mv_or_add 24 (by omega), show tp (4 * mq_pc s k) * 2 ^ 24 + tp (4 * mq_pc s k + 1) * 2 ^ 16 = (tp (4 * mq_pc s k) * 256 + tp (4 * mq_pc s k + 1)) * 2 ^ 16 from by omega, mv_or_add 16 (by omega), show (tp (4 * mq_pc s k) * 256 + tp (4 * mq_pc s k + 1)) * 2 ^ 16 + tp (4 * mq_pc s k + 2) * 2 ^ 8 = ((tp (4 * mq_pc s k) * 256 + tp (4 * mq_pc s k + 1)) * 256 + tp (4 * mq_pc s k + 2)) * 2 ^ 8 from by omega, mv_or_add 8 (by omega)]
          rfl
        have hv := mv_iv_lt (tp := tp) (j := 4 * mq_pc s k) (fun i hi => (T.2.2.2 i hi).1) (by omega)
        simp (disch := omega) only [s_n11, if_true, Option.bind_some, s_10, if_false, r_octet T', ev, mq_st_eq, r_isGrid]
        rw [mv_fitE hv]
        have hih := ih (mj_st M' 70 k (nI (mv_iv tp (4 * mq_pc s k)))) (mv_fr.st f rfl) (fun i hi hbi => by
          by_cases q : i = k
          · rw [q, mq_st_eq]
          · rw [mq_st_ne (Or.inr q)]
            exact h i (by omega) hbi)
        rw [show 4 * (mq_pc s k + 1) = 4 * mq_pc s k + 4 from by omega] at hih
        by_cases ha : ∀ i, i < mq_pc s k → mv_iv tp (4 * i) < 2 ^ 25
        · rw [if_pos ha, if_neg mq_10]
          by_cases hx : mv_iv tp (4 * mq_pc s k) < 2 ^ 25
          · rw [if_pos hx]
            rw [if_pos (fun i hi => by
              by_cases q : i = mq_pc s k
              · rw [q]; exact hx
              · exact ha i (by omega))] at hih
            simpa only [s_10, if_false] using hih
          · rw [if_neg hx]
            rw [if_neg (fun z => hx (z _ (by omega)))] at hih
            simpa only [if_true] using hih
        · rw [if_neg ha, if_pos rfl]
          rw [if_neg (fun z => ha (fun i hi => z i (by omega)))] at hih
          exact hih
  have h0 := L 0 (by omega) M mv_fr.rf (fun i hi => by omega)
  rw [if_pos (fun i hi => by rw [mq_pc] at hi; omega)] at h0
  exact h0
end MV18
