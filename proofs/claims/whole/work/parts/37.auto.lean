theorem s_lit (n : Nat) : (OfNat.ofNat n : Int32) = nI (OfNat.ofNat n) := rfl
theorem s_lt {a b : Nat} (ha : a < 2147483648) (hb : b < 2147483648) : (nI a < nI b) = (a < b) := propext (mq_lt ha hb)
theorem s_le {a b : Nat} (ha : a < 2147483648) (hb : b < 2147483648) : (nI a ≤ nI b) = (a ≤ b) := propext (mq_le ha hb)
theorem s_eq {a b : Nat} (ha : a < 2147483648) (hb : b < 2147483648) : (nI a = nI b) = (a = b) := propext (mq_eq ha hb)
theorem s_ltL {a n : Nat} (ha : a < 2147483648) (hn : (OfNat.ofNat n : Nat) < 2147483648) : (nI a < (no_index (OfNat.ofNat n : Int32))) = (a < OfNat.ofNat n) := s_lt ha hn
theorem s_leL {a n : Nat} (ha : a < 2147483648) (hn : (OfNat.ofNat n : Nat) < 2147483648) : (nI a ≤ (no_index (OfNat.ofNat n : Int32))) = (a ≤ OfNat.ofNat n) := s_le ha hn
theorem s_eqL {a n : Nat} (ha : a < 2147483648) (hn : (OfNat.ofNat n : Nat) < 2147483648) : (nI a = (no_index (OfNat.ofNat n : Int32))) = (a = OfNat.ofNat n) := s_eq ha hn
theorem s_Llt {a n : Nat} (ha : a < 2147483648) (hn : (OfNat.ofNat n : Nat) < 2147483648) : ((no_index (OfNat.ofNat n : Int32)) < nI a) = (OfNat.ofNat n < a) := s_lt hn ha
theorem s_Lle {a n : Nat} (ha : a < 2147483648) (hn : (OfNat.ofNat n : Nat) < 2147483648) : ((no_index (OfNat.ofNat n : Int32)) ≤ nI a) = (OfNat.ofNat n ≤ a) := s_le hn ha
theorem s_Leq {a n : Nat} (ha : a < 2147483648) (hn : (OfNat.ofNat n : Nat) < 2147483648) : ((no_index (OfNat.ofNat n : Int32)) = nI a) = (OfNat.ofNat n = a) := s_eq hn ha
theorem s_addL {a n : Nat} : nI a + (no_index (OfNat.ofNat n : Int32)) = nI (a + OfNat.ofNat n) := nI_add a _
theorem s_Ladd {a n : Nat} : (no_index (OfNat.ofNat n : Int32)) + nI a = nI (OfNat.ofNat n + a) := nI_add _ a
theorem s_mulL {a n : Nat} : nI a * (no_index (OfNat.ofNat n : Int32)) = nI (a * OfNat.ofNat n) := pk_mul a _
theorem s_Lmul {a n : Nat} : (no_index (OfNat.ofNat n : Int32)) * nI a = nI (OfNat.ofNat n * a) := pk_mul _ a
theorem s_subL {a n : Nat} (h : OfNat.ofNat n ≤ a) : nI a - (no_index (OfNat.ofNat n : Int32)) = nI (a - OfNat.ofNat n) := pk_sub h
theorem s_in {j n : Nat} (h : j < n) (hn : n ≤ 2147483648) : (mj_inB (nI j) n = true) = True := eq_true (mq_inT h hn)
theorem s_cl {n : Nat} (h : n < 2147483648) : (nI n).toNatClampNeg = n := nI_clamp h
theorem s_m1 {a : Nat} (h : a < 2147483648) : (nI a = -1) = False := eq_false (mq_neg1 h)
theorem s_m2 {a : Nat} (h : a < 2147483648) : (nI a = -2) = False := eq_false (fun z => by
  have h1 : ¬ nI a < 0 := nI_pos h
  rw [z] at h1
  exact h1 (by decide))
theorem s_b0 {p : Prop} [Decidable p] : ((if p then (1 : Int32) else 0) = 0) = ¬ p := by
  by_cases h : p
  · rw [if_pos h]
    simp [h]
  · rw [if_neg h]
    simp [h]
theorem s_b1 {p : Prop} [Decidable p] : ((if p then (1 : Int32) else 0) = 1) = p := by
  by_cases h : p
  · rw [if_pos h]
    simp [h]
  · rw [if_neg h]
    simp [h]
theorem s_10 : ((1 : Int32) = 0) = False := eq_false mq_10
theorem s_lt0 {a : Nat} (h : a < 2147483648) : (nI a < 0) = False := eq_false (nI_pos h)
section MV8
variable {M : mj_M} {mo : Nat → Option Nat} {cs : mv_CS}
theorem mv_toldE (x : Int32) {b : Nat} (hb : mj_ocl b = 0) (hr : mv_rC M 46 cs) (hc : mv_cC M b cs) : ((∀ sl d, mj_C sl d i_X1_has [.ref b, .int x] M = some (0, M)) ∧ (∀ sl d, mj_C sl (d + 1) i_X9_isTold [.ref 45, .int x] M = some (0, M))) ∨ ∃ c, c < 10 ∧ x = nI c ∧ mv_to cs c = true ∧ (∀ sl d, mj_C sl d i_X1_has [.ref b, .int (nI c)] M = some (1, M)) ∧ (∀ sl d, mj_C sl (d + 1) i_X9_isTold [.ref 45, .int (nI c)] M = some (1, M)) := by
  rcases mq_out (x := x) (n := 10) (by decide) with h | h | ⟨c, hc10, rfl⟩
  · exact Or.inl ⟨fun sl d => c_hasC_no hb (Or.inl h), fun sl d => r_isTold_no (Or.inl h)⟩
  · exact Or.inl ⟨fun sl d => c_hasC_no hb (Or.inr h), fun sl d => r_isTold_no (Or.inr h)⟩
  · cases ht : mv_to cs c with
    | false => exact Or.inl ⟨fun sl d => by rw [c_hasC hb hc hc10, ht]; rfl, fun sl d => by rw [r_isTold hr hc10, ht]; rfl⟩
    | true => exact Or.inr ⟨c, hc10, rfl, ht, fun sl d => by rw [c_hasC hb hc hc10, ht]; rfl, fun sl d => by rw [r_isTold hr hc10, ht]; rfl⟩
theorem mv_letE (x : Int32) (hm : mv_rM M mo) (hcm : mv_cM M mo) (hw : mv_wM mo) : ((∀ sl d, mj_C sl d i_X5_has [.ref 1, .int x] M = some (0, M)) ∧ (∀ sl d, mj_C sl (d + 1) i_X9_isLetter [.ref 45, .int x] M = some (0, M))) ∨ ∃ k, k < 8 ∧ x = nI k ∧ (mo k).isSome = true ∧ (∀ sl d, mj_C sl d i_X5_has [.ref 1, .int (nI k)] M = some (1, M)) ∧ (∀ sl d, mj_C sl (d + 1) i_X9_isLetter [.ref 45, .int (nI k)] M = some (1, M)) := by
  rcases mq_out (x := x) (n := 8) (by decide) with h | h | ⟨c, hc10, rfl⟩
  · exact Or.inl ⟨fun sl d => c_hasM_no (Or.inl h), fun sl d => r_isLetter_no (Or.inl h)⟩
  · exact Or.inl ⟨fun sl d => c_hasM_no (Or.inr h), fun sl d => r_isLetter_no (Or.inr h)⟩
  · cases ht : (mo c).isSome with
    | false => exact Or.inl ⟨fun sl d => by rw [c_hasM hcm hc10, ht]; rfl, fun sl d => by rw [r_isLetter hm hw hc10, ht]; rfl⟩
    | true => exact Or.inr ⟨c, hc10, rfl, ht, fun sl d => by rw [c_hasM hcm hc10, ht]; rfl, fun sl d => by rw [r_isLetter hm hw hc10, ht]; rfl⟩
theorem p_clear {sl d : Nat} {x y : Int32} (hm : mv_rM M mo) (hcm : mv_cM M mo) (hw : mv_wM mo) (hr : mv_rC M 46 cs) (hc : mv_cC M 3 cs) (hwc : mv_wC mo cs) : ∃ v, mj_C sl (d + 3) i_X8_clear [.ref 0, .int x, .int y] M = some (v, M) ∧ mj_C sl (d + 3) i_X9_clear [.ref 45, .int x, .int y] M = some (v, M) := by
  rw [b_X8_clear, b_X9_clear]
  rcases mv_toldE x rfl hr hc with ⟨h1, h2⟩ | ⟨c, hc10, rfl, tc, h1, h2⟩
  · simp only [h1, h2, Option.bind_some, if_true]
    exact ⟨_, rfl, rfl⟩
  · simp only [h1, h2, Option.bind_some, s_10, if_false, r_in]
    by_cases y0 : y < 0
    · simp only [y0, if_true]
      exact ⟨_, rfl, rfl⟩
    by_cases y2 : y ≤ 2
    · simp only [y0, y2, if_true, if_false, s_10]
      have L : ∀ k, k ≤ 8 → ∀ (f s : Int32) (l : Nat) (w1 w2 w3 w4 : Value), (l = 1000000 ∧ s = -2 ∧ f = -2 ∨ l ≤ 25 ∧ ¬ s = -2) → ∃ v, mj_E sl (d + 2 + 1) i_X8_clear 36 [.ref 0, .int (nI c), .int y, .int f, .int s, .int (nI (mv_ls l)), .int (nI k), w1, w2] [] M = some (v, M) ∧ mj_E sl (d + 2 + 1) i_X9_clear 33 [.ref 45, .int (nI c), .int y, .int f, .int s, .int (nI l), .int (nI k), w3, w4] [] M = some (v, M) := by
        refine mq_up ?_ ?_
        · intro f s l w1 w2 w3 w4 hl
          have z8 : ¬ nI 8 < 8 := by decide
          rw [b_X8_clear_36, b_X9_clear_33]
          simp only [z8, if_false]
          rcases hl with ⟨rfl, rfl, rfl⟩ | ⟨h1, h2⟩
          · refine ⟨-2, ?_, rfl⟩
            split
            · rfl
            · split
              · rfl
              · exact if_pos rfl
          · have e : mv_ls l = l := by unfold mv_ls; rw [if_neg (by omega)]
            simp (disch := omega) only [s_eqL, show ¬ l = 1000000 from by omega, if_false, h2, e]
            by_cases e0 : y = 0
            · simp only [e0, if_true]
              exact ⟨_, rfl, rfl⟩
            by_cases e1 : y = 1
            · simp only [e1, if_true, s_10, if_false]
              exact ⟨_, rfl, rfl⟩
            · simp only [e0, e1, if_false]
              exact ⟨_, rfl, rfl⟩
        · intro k hk ih f s l w1 w2 w3 w4 hl
          rw [b_X8_clear_36, b_X9_clear_33]
          simp (disch := omega) only [s_ltL, s_addL, hk, if_true]
          have L2 : ∀ j, j ≤ 8 → ∀ (f s : Int32) (l : Nat) (w2 w4 : Value), (l = 1000000 ∧ s = -2 ∧ f = -2 ∨ l ≤ 25 ∧ ¬ s = -2) → ∃ v, mj_E sl (d + 2 + 1) i_X8_clear 49 [.ref 0, .int (nI c), .int y, .int f, .int s, .int (nI (mv_ls l)), .int (nI k), .int (nI j), w2] [] M = some (v, M) ∧ mj_E sl (d + 2 + 1) i_X9_clear 46 [.ref 45, .int (nI c), .int y, .int f, .int s, .int (nI l), .int (nI k), .int (nI j), w4] [] M = some (v, M) := by
            refine mq_up ?_ ?_
            · intro f s l w2 w4 hl
              rw [b_X8_clear_49, b_X9_clear_46, if_neg (by decide), if_neg (by decide), nI_1]
              exact ih f s l _ _ _ _ hl
            · intro j hj ih2 f s l w2 w4 hl
              rw [b_X8_clear_49, b_X9_clear_46]
              simp (disch := omega) only [s_ltL, s_addL, hj, if_true, c_hasM hcm hk, c_hasM hcm hj, r_isLetter hm hw hk, r_isLetter hm hw hj, Option.bind_some, s_b0]
              by_cases mk : (mo k).isSome = true
              · by_cases mj : (mo j).isSome = true
                · have p := mq_pc_le (mv_fm mo cs c k ^^^ mv_fm mo cs c j) 25
                  have l1 := mv_fm_lt hw hwc c k
                  have l2 := mv_fm_lt hw hwc c j
                  have l3 : mv_fm mo cs c k ^^^ mv_fm mo cs c j < 2 ^ 25 := Nat.xor_lt_two_pow l1 l2
                  have hls : mv_ls l < 2147483648 := by unfold mv_ls; split <;> omega
                  have hll : mq_pc (mv_fm mo cs c k ^^^ mv_fm mo cs c j) 25 < mv_ls l ↔ mq_pc (mv_fm mo cs c k ^^^ mv_fm mo cs c j) 25 < l := by
                    unfold mv_ls
                    split <;> omega
                  have el : mv_ls (mq_pc (mv_fm mo cs c k ^^^ mv_fm mo cs c j) 25) = mq_pc (mv_fm mo cs c k ^^^ mv_fm mo cs c j) 25 := by unfold mv_ls; rw [if_neg (by omega)]
                  simp (disch := omega) only [mk, mj, not_true, if_false, c_formAt rfl hcm hc hwc hc10 hk mk, c_formAt rfl hcm hc hwc hc10 hj mj, r_formNow hm hw hr hwc hc10 hk mk, r_formNow hm hw hr hwc hc10 hj mj, Option.bind_some, c_gap, mq_xor, r_bits, mq_pc25 l3, s_lt, hll]
                  split
                  · next hlt =>
                    have := ih2 (nI k) (nI j) _ (.int (nI (mq_pc (mv_fm mo cs c k ^^^ mv_fm mo cs c j) 25))) (.int (nI (mq_pc (mv_fm mo cs c k ^^^ mv_fm mo cs c j) 25))) (Or.inr ⟨p, by rw [s_m2 (by omega)]; exact id⟩)
                    rw [el] at this
                    exact this
                  · exact ih2 f s l _ _ hl
                · simp only [mk, mj, not_true, not_false_eq_true, if_false, if_true]
                  exact ih2 f s l _ _ hl
              · simp only [mk, not_false_eq_true, if_true]
                exact ih2 f s l _ _ hl
          exact L2 (k + 1) (by omega) f s l _ _ hl
      exact L 0 (by omega) (-2) (-2) 1000000 _ _ _ _ (Or.inl ⟨rfl, rfl, rfl⟩)
    · simp only [y0, y2, if_true, if_false]
      exact ⟨_, rfl, rfl⟩
end MV8
