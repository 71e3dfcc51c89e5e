def mv_LF (j : Nat) : Nat := if 1 ≤ j % 5 then 2 ^ (j - 1) else 0
def mv_RF (j : Nat) : Nat := if j % 5 + 1 ≤ 4 then 2 ^ (j + 1) else 0
theorem mv_tL_orf {g : Nat} (hg : g < 2 ^ 25) : mv_tL g = mv_orf mv_LF g 25 := by
  rw [mv_tL_lin.orf2 hg]
  exact mv_orf_cg 25 (by decide +kernel)
theorem mv_tR_orf {g : Nat} (hg : g < 2 ^ 25) : mv_tR g = mv_orf mv_RF g 25 := by
  rw [mv_tR_lin.orf2 hg]
  exact mv_orf_cg 25 (by decide +kernel)
theorem mv_mvL : ∀ k, k < 25 → (if nI (k % 5) + (-1) < 0 then (0 : Int32) else if nI (k % 5) + (-1) ≤ 4 then 1 else 0) = (if 1 ≤ k % 5 then 1 else 0) ∧ (1 ≤ k % 5 → nI k + (-1) = nI (k - 1)) := by decide +kernel
theorem mv_mvR : ∀ k, k < 25 → (if nI (k % 5) + 1 < 0 then (0 : Int32) else if nI (k % 5) + 1 ≤ 4 then 1 else 0) = (if k % 5 + 1 ≤ 4 then 1 else 0) := by decide +kernel
section MV36
variable {sl d : Nat} {M : mj_M}
theorem r_movedL {g : Nat} (hg : g < 2 ^ 25) : mj_C sl (d + 1) i_X9_movedOf [.int (nI g), .int (-1)] M = some (nI (mv_tL g), M) := by
  rw [mv_tL_orf hg]
  have L : ∀ k, k ≤ 25 → mj_E sl (d + 1) i_X9_movedOf 4 [.int (nI g), .int (-1), .int (nI (mv_orf mv_LF g k)), .int (nI k)] [] M = some (nI (mv_orf mv_LF g 25), M) := mq_up (by rw [b_X9_movedOf_4, if_neg (by decide)]) (fun k hk ih => by
    obtain ⟨m1, m2⟩ := mv_mvL k hk
    rw [b_X9_movedOf_4]
    simp (disch := omega) only [s_ltL, hk, if_true, r_has, Option.bind_some, s_b0, s_addL, s_rmL, r_in, m1]
    by_cases q : g.testBit k = true
    · rw [mv_orStep q] at ih
      simp only [q, not_true, if_false]
      unfold mv_LF at ih
      by_cases z : 1 ≤ k % 5
      · rw [if_pos z] at ih
        rw [if_neg (fun w => w z), m2 z, mq_one (by omega), mq_or]
        exact ih
      · rw [if_neg z, Nat.or_zero] at ih
        rw [if_pos z]
        exact ih
    · rw [mv_orSkip q] at ih
      rw [if_pos q]
      exact ih)
  rw [b_X9_movedOf]
  exact L 0 (by omega)
theorem r_movedR {g : Nat} (hg : g < 2 ^ 25) : mj_C sl (d + 1) i_X9_movedOf [.int (nI g), .int 1] M = some (nI (mv_tR g), M) := by
  rw [mv_tR_orf hg]
  have L : ∀ k, k ≤ 25 → mj_E sl (d + 1) i_X9_movedOf 4 [.int (nI g), .int 1, .int (nI (mv_orf mv_RF g k)), .int (nI k)] [] M = some (nI (mv_orf mv_RF g 25), M) := mq_up (by rw [b_X9_movedOf_4, if_neg (by decide)]) (fun k hk ih => by
    have m1 := mv_mvR k hk
    rw [b_X9_movedOf_4]
    simp (disch := omega) only [s_ltL, hk, if_true, r_has, Option.bind_some, s_b0, s_rmL, r_in, m1]
    by_cases q : g.testBit k = true
    · rw [mv_orStep q] at ih
      simp only [q, not_true, if_false]
      unfold mv_RF at ih
      by_cases z : k % 5 + 1 ≤ 4
      · rw [if_pos z] at ih
        rw [if_neg (fun w => w z), nI_1, mq_one (by omega), mq_or]
        exact ih
      · rw [if_neg z, Nat.or_zero] at ih
        rw [if_pos z, nI_1]
        exact ih
    · rw [mv_orSkip q] at ih
      rw [if_pos q, nI_1]
      exact ih)
  rw [b_X9_movedOf]
  exact L 0 (by omega)
def mv_sg (c : Nat) : Prop := c = 33 ∨ c = 126 ∨ c = 60 ∨ c = 62 ∨ c = 124
def mv_bg (c g : Nat) : Nat := if c = 33 then 0 else if c = 60 then mv_tL g else if c = 62 then mv_tR g else if c = 126 then g ^^^ 33554431 else mv_mi g
theorem mv_bg_lt {c g : Nat} (hg : g < 2 ^ 25) : mv_bg c g < 2 ^ 25 := by
  unfold mv_bg
  split
  · decide
  split
  · exact mv_tL_lt hg
  split
  · exact mv_tR_lt hg
  split
  · exact Nat.xor_lt_two_pow hg (by decide)
  · exact mv_mi_lt hg
theorem r_isSign {c : Nat} (hc : c < 256) : mj_C sl d i_X9_isSign [.int (nI c)] M = some (if c = 33 ∨ c = 126 ∨ c = 60 ∨ c = 62 ∨ c = 124 then 1 else 0, M) := by
  rw [b_X9_isSign]
  simp (disch := omega) only [s_eqL]
  by_cases h1 : c = 33
  · simp only [h1, if_true, true_or]
  by_cases h2 : c = 126
  · simp only [h1, h2, if_true, if_false, true_or, or_true]
    rfl
  by_cases h3 : c = 60
  · simp only [h1, h2, h3, if_true, if_false, true_or, or_true]
    rfl
  by_cases h4 : c = 62
  · simp only [h1, h2, h3, h4, if_true, if_false, true_or, or_true]
    rfl
  by_cases h5 : c = 124
  · simp only [h1, h2, h3, h4, h5, if_true, if_false, true_or, or_true]
    rfl
  · simp only [h1, h2, h3, h4, h5, if_false, or_self]
theorem r_blotted {c g : Nat} (hc : c < 256) (hg : g < 2 ^ 25) (hs : mv_sg c) : mj_C sl (d + 2) i_X9_blotted [.int (nI g), .int (nI c)] M = some (nI (mv_bg c g), M) := by
  rw [b_X9_blotted, r_movedL hg, r_movedR hg, r_mirroredOf hg, show (33554431 : Int32) = nI 33554431 from rfl, mq_xor]
  simp (disch := omega) only [s_eqL, Option.bind_some]
  unfold mv_bg
  by_cases h1 : c = 33
  · simp only [h1, if_true]; rfl
  by_cases h3 : c = 60
  · simp only [h3, if_true]; rfl
  by_cases h4 : c = 62
  · simp only [h4, if_true]; rfl
  by_cases h2 : c = 126
  · simp only [h2, if_true]; rfl
  · simp only [h1, h2, h3, h4, if_false]
theorem c_blottedS {n i c g : Nat} {tp : Nat → Nat} {x : Int32} (T : mv_Tb M tp) (hi : i < 260) (hc : tp i = c) (hg : g < 2 ^ 25) (hs : mv_sg c) : mj_C sl (d + 1) i_X0_blotted [.int (nI g), .ref 21, .int (nI i), .int x] M = some (nI (mv_bg c g), M) := by
  have h8 := (T i hi).1
  rw [b_X0_blotted, c_byteB T hi, hc]
  simp only [Option.bind_some]
  rw [c_toLeft hg, c_toRight hg, c_mirrored hg, show (33554431 : Int32) = nI 33554431 from rfl, mq_xor]
  simp (disch := omega) only [s_eqL, Option.bind_some]
  unfold mv_bg
  by_cases h1 : c = 33
  · simp only [h1, if_true]; rfl
  by_cases h3 : c = 60
  · simp only [h3, if_true]; rfl
  by_cases h4 : c = 62
  · simp only [h4, if_true]; rfl
  by_cases h2 : c = 126
  · simp only [h2, if_true]; rfl
  · have h5 : c = 124 := by unfold mv_sg at hs; omega
    simp only [h5, if_true]; rfl
def mv_dx (tp : Nat → Nat) (g i : Nat) : Nat → Nat
  | 0 => g
  | m + 1 => mv_dx tp g i m ^^^ 2 ^ (tp (i + m) - 97)
theorem mv_dx_lt {tp : Nat → Nat} {g i : Nat} (hg : g < 2 ^ 25) : ∀ m, (∀ k, i ≤ k → k < i + m → 97 ≤ tp k ∧ tp k ≤ 121) → mv_dx tp g i m < 2 ^ 25
  | 0, _ => hg
  | m + 1, h => by
    have h1 := h (i + m) (by omega) (by omega)
    exact Nat.xor_lt_two_pow (mv_dx_lt hg m (fun k a b => h k a (by omega))) (Nat.pow_lt_pow_right (by decide) (by omega))
theorem c_lineEnd52 {n i : Nat} {tp : Nat → Nat} {w2 w3 : Value} (hn : n ≤ 260) (T : mv_Tb M tp) : ∀ m, i ≤ m → m ≤ n → (∀ k, i ≤ k → k < m → 97 ≤ tp k ∧ tp k ≤ 121) → ∃ j, m ≤ j ∧ j ≤ n ∧ (∀ k, i ≤ k → k < j → 97 ≤ tp k ∧ tp k ≤ 121) ∧ (j < n → ¬ (97 ≤ tp j ∧ tp j ≤ 121)) ∧ mj_E sl (d + 1) i_X0_lineEnd 52 [.ref 21, .int (nI n), w2, w3, .int (nI m)] [] M = some (nI j, M) := by
  intro m him hmn
  have L : ∀ m, m ≤ n → i ≤ m → (∀ k, i ≤ k → k < m → 97 ≤ tp k ∧ tp k ≤ 121) → ∃ j, m ≤ j ∧ j ≤ n ∧ (∀ k, i ≤ k → k < j → 97 ≤ tp k ∧ tp k ≤ 121) ∧ (j < n → ¬ (97 ≤ tp j ∧ tp j ≤ 121)) ∧ mj_E sl (d + 1) i_X0_lineEnd 52 [.ref 21, .int (nI n), w2, w3, .int (nI m)] [] M = some (nI j, M) := by
    refine mq_up ?_ ?_
    · intro him h
      refine ⟨n, Nat.le_refl _, Nat.le_refl _, h, fun z => by omega, ?_⟩
      rw [b_X0_lineEnd_52, if_neg Int32.lt_irrefl]
    · intro m hm ih him h
      have h8 := (T m (by omega)).1
      rw [b_X0_lineEnd_52]
      simp (disch := omega) only [s_lt, hm, if_true, c_byteB T, Option.bind_some, s_leL, s_addL]
      by_cases c1 : tp m ≤ 96
      · rw [if_pos c1]
        exact ⟨m, Nat.le_refl _, by omega, h, fun _ => by omega, rfl⟩
      · rw [if_neg c1]
        by_cases c2 : tp m ≤ 121
        · rw [if_pos c2]
          obtain ⟨j, j1, j2, j3, j4, j5⟩ := ih (by omega) (fun k a b => by
            by_cases q : k = m
            · rw [q]; omega
            · exact h k a (by omega))
          exact ⟨j, by omega, j2, j3, j4, j5⟩
        · rw [if_neg c2]
          exact ⟨m, Nat.le_refl _, by omega, h, fun _ => by omega, rfl⟩
  exact L m hmn him
theorem c_blotted84 {g i j : Nat} {tp : Nat → Nat} {w0 w2 : Value} (T : mv_Tb M tp) (hj : j ≤ 260) (h : ∀ k, i ≤ k → k < j → 97 ≤ tp k ∧ tp k ≤ 121) : ∀ m, i + m ≤ j → mj_E sl (d + 1) i_X0_blotted 84 [w0, .ref 21, w2, .int (nI j), .int (nI (mv_dx tp g i m)), .int (nI (i + m))] [] M = some (nI (mv_dx tp g i (j - i)), M) := by
  intro m hm
  have L : ∀ m, m ≤ j - i → i ≤ j → mj_E sl (d + 1) i_X0_blotted 84 [w0, .ref 21, w2, .int (nI j), .int (nI (mv_dx tp g i m)), .int (nI (i + m))] [] M = some (nI (mv_dx tp g i (j - i)), M) := by
    refine mq_up ?_ ?_
    · intro hij
      rw [show i + (j - i) = j from by omega, b_X0_blotted_84, if_neg Int32.lt_irrefl]
    · intro m hm ih hij
      have h1 := h (i + m) (by omega) (by omega)
      have h8 := (T (i + m) (by omega)).1
      rw [b_X0_blotted_84]
      simp (disch := omega) only [s_lt, show i + m < j from by omega, if_true, c_byteB T, Option.bind_some, s_subL, mq_one, mq_xor, s_addL]
      exact ih hij
  exact L m (by omega) (by omega)
end MV36
