def mv_Qt (a k : Nat) : Prop := (a = 21 ∧ k = 1) ∨ (a = 45 ∧ k = 5) ∨ a = 22 ∨ a = 50
theorem mq_sh8 : ∀ j, j < 4 → (nI (8 * j) &&& 31) = nI (8 * j) := by decide
theorem mq_byte8 (x : Int32) : x.toInt8.toInt32 &&& 255 = x &&& 255 := by
  apply Int32.toBitVec_inj.mp
  apply BitVec.eq_of_getLsbD_eq
  intro i hi
  simp only [Int32.toBitVec_and, Int8.toBitVec_toInt32, Int32.toBitVec_toInt8, BitVec.getLsbD_and]
  by_cases h : i < 8
  · rw [BitVec.getLsbD_signExtend]
    simp [h, hi]
  · have : (255 : Int32).toBitVec.getLsbD i = false := by
      rw [show (255 : Int32).toBitVec = BitVec.ofNat 32 255 from rfl, BitVec.getLsbD_ofNat]
      have : Nat.testBit 255 i = false := Nat.testBit_lt_two_pow (Nat.lt_of_lt_of_le (by decide : 255 < 2 ^ 8) (Nat.pow_le_pow_right (by decide) (by omega)))
      simp [this]
    rw [this]
    simp
section MV13
variable {sl d : Nat} {M : mj_M} {mo : Nat → Option Nat} {cs : mv_CS}
theorem c_addInt {n : Nat} {x : Int32} (hn : n + 4 ≤ 260) (h : M 21 1 = nI n) : ∃ M1, mj_C sl d i_X7_addInt [.ref 21, .int x] M = some (0, M1) ∧ mv_fr (fun a k => (a = 21 ∧ k = 1) ∨ a = 22) M M1 ∧ M1 21 1 = nI (n + 4) ∧ ∀ j, M1 22 j = if n ≤ j ∧ j < n + 4 then (x >>> (nI (8 * (3 - (j - n))) &&& 31)) &&& 255 else M 22 j := by
  rw [b_X7_addInt]
  have L : ∀ i, i ≤ 4 → ∀ M', mv_fr (fun a k => (a = 21 ∧ k = 1) ∨ a = 22) M M' → M' 21 1 = nI (n + i) → (∀ j, M' 22 j = if n ≤ j ∧ j < n + i then (x >>> (nI (8 * (3 - (j - n))) &&& 31)) &&& 255 else M 22 j) → ∃ M1, mj_E sl d i_X7_addInt 3 [.ref 21, .int x, .int (nI (32 - 8 * i) - 8)] [] M' = some (0, M1) ∧ mv_fr (fun a k => (a = 21 ∧ k = 1) ∨ a = 22) M M1 ∧ M1 21 1 = nI (n + 4) ∧ ∀ j, M1 22 j = if n ≤ j ∧ j < n + 4 then (x >>> (nI (8 * (3 - (j - n))) &&& 31)) &&& 255 else M 22 j := by
    refine mq_up ?_ ?_
    · intro M' f e1 e2
      exact ⟨M', by rw [b_X7_addInt_3, if_pos (by decide)], f, e1, e2⟩
    · intro i hi ih M' f e1 e2
      have es : nI (32 - 8 * i) - 8 = nI (8 * (3 - i)) := by
        rw [s_subL (by omega)]
        congr 1
        omega
      have en : nI (8 * (3 - i)) + (-8) = nI (32 - 8 * (i + 1)) - 8 := by
        rw [show 8 * (3 - i) = 32 - 8 * (i + 1) from by omega, Int32.sub_eq_add_neg]
      rw [es, b_X7_addInt_3]
      simp (disch := omega) only [s_lt0, if_false, e1, s_ltL, Nat.not_lt_zero, show n + i < 260 from by omega, if_true, s_in, s_cl, mq_st_ne, s_addL]
      rw [en]
      refine ih _ ((f.st (Or.inr rfl)).st (Or.inl ⟨rfl, rfl⟩)) ?_ (fun j => ?_)
      · rw [mq_st_eq]; rfl
      · rw [mq_st_ne (by omega)]
        by_cases hj : j = n + i
        · rw [hj, mq_st_eq, if_pos ⟨by omega, by omega⟩, show n + i - n = i from by omega]
        · rw [mq_st_ne (Or.inr hj), e2 j]
          by_cases h2 : n ≤ j ∧ j < n + i
          · rw [if_pos h2, if_pos ⟨h2.1, by omega⟩]
          · rw [if_neg h2, if_neg (by omega)]
  have h0 := L 0 (by omega) M mv_fr.rf h (fun j => by rw [if_neg (by omega)])
  exact h0
theorem r_types {n : Nat} {x : Int32} (hn : n + 4 ≤ 260) (h : M 45 5 = nI n) : ∃ M1, mj_C sl d i_X9_types [.ref 45, .int x] M = some (0, M1) ∧ mv_fr (fun a k => (a = 45 ∧ k = 5) ∨ a = 50) M M1 ∧ M1 45 5 = nI (n + 4) ∧ ∀ j, M1 50 j &&& 255 = if n ≤ j ∧ j < n + 4 then (x >>> (nI (8 * (3 - (j - n))) &&& 31)) &&& 255 else M 50 j &&& 255 := by
  rw [b_X9_types]
  have L : ∀ i, i ≤ 4 → ∀ M', mv_fr (fun a k => (a = 45 ∧ k = 5) ∨ a = 50) M M' → M' 45 5 = nI (n + i) → (∀ j, M' 50 j &&& 255 = if n ≤ j ∧ j < n + i then (x >>> (nI (8 * (3 - (j - n))) &&& 31)) &&& 255 else M 50 j &&& 255) → ∃ M1, mj_E sl d i_X9_types 2 [.ref 45, .int x, .int (nI (4 - i) - 1)] [] M' = some (0, M1) ∧ mv_fr (fun a k => (a = 45 ∧ k = 5) ∨ a = 50) M M1 ∧ M1 45 5 = nI (n + 4) ∧ ∀ j, M1 50 j &&& 255 = if n ≤ j ∧ j < n + 4 then (x >>> (nI (8 * (3 - (j - n))) &&& 31)) &&& 255 else M 50 j &&& 255 := by
    refine mq_up ?_ ?_
    · intro M' f e1 e2
      exact ⟨M', by rw [b_X9_types_2, if_pos (by decide)], f, e1, e2⟩
    · intro i hi ih M' f e1 e2
      have es : nI (4 - i) - 1 = nI (3 - i) := by
        rw [s_subL (by omega)]
        congr 1
        omega
      have en : nI (3 - i) + (-1) = nI (4 - (i + 1)) - 1 := by
        rw [show 4 - (i + 1) = 3 - i from by omega, Int32.sub_eq_add_neg]
      rw [es, b_X9_types_2]
      simp (disch := omega) only [s_lt0, if_false, e1, s_ltL, Nat.not_lt_zero, if_true, s_in, s_cl, mq_st_ne, s_addL, s_Lmul]
      rw [en]
      refine ih _ ((f.st (Or.inr rfl)).st (Or.inl ⟨rfl, rfl⟩)) ?_ (fun j => ?_)
      · rw [mq_st_eq]; rfl
      · rw [mq_st_ne (by omega)]
        by_cases hj : j = n + i
        · rw [hj, mq_st_eq, if_pos ⟨by omega, by omega⟩, show n + i - n = i from by omega, mq_byte8, mq_byte8]
        · rw [mq_st_ne (Or.inr hj), e2 j]
          by_cases h2 : n ≤ j ∧ j < n + i
          · rw [if_pos h2, if_pos ⟨h2.1, by omega⟩]
          · rw [if_neg h2, if_neg (by omega)]
  have h0 := L 0 (by omega) M mv_fr.rf h (fun j => by rw [if_neg (by omega)])
  exact h0
end MV13
