def mv_gr (x : Int32) : Prop := ¬ x < 0 ∧ x ≤ 33554431
theorem mv_gr_cases (x : Int32) : ((x < 0 ∨ ¬ x ≤ 33554431) ∧ (if x < 0 then 0 else if x ≤ 33554431 then 1 else 0 : Int32) = 0) ∨ ∃ g, g < 2 ^ 25 ∧ x = nI g ∧ (if x < 0 then 0 else if x ≤ 33554431 then 1 else 0 : Int32) = 1 := by
  by_cases h : x < 0
  · exact Or.inl ⟨Or.inl h, by rw [if_pos h]⟩
  · by_cases h2 : x ≤ 33554431
    · obtain ⟨g, hg, e⟩ := nI_of2 (n := 33554431) (M := 33554431) (by decide) h h2
      exact Or.inr ⟨g, by omega, e, by rw [if_neg h, if_pos h2]⟩
    · exact Or.inl ⟨Or.inr h2, by rw [if_neg h, if_neg h2]⟩
section MV4
variable {sl d : Nat} {M : mj_M} {mo : Nat → Option Nat} {cs : mv_CS}
theorem p_read {x : Int32} (hm : mv_rM M mo) (hc : mv_cM M mo) (hw : mv_wM mo) : ∃ v, mj_C sl (d + 2) i_X8_read [.ref 0, .int x] M = some (v, M) ∧ mj_C sl (d + 3) i_X9_read [.ref 45, .int x] M = some (v, M) := by
  rw [b_X8_read, b_X9_read, c_fits, r_isGrid]
  simp only [Option.bind_some]
  rcases mv_gr_cases x with ⟨-, e⟩ | ⟨g, hg, hx, e⟩
  · rw [e]
    exact ⟨-1, rfl, rfl⟩
  · rw [e, hx]
    rw [if_neg mq_10, if_neg mq_10, c_nearest hc hw hg, r_readsAs hm hw hg]
    exact ⟨_, rfl, rfl⟩
theorem p_apart {x y : Int32} : ∃ v, mj_C sl (d + 2) i_X8_apart [.ref 0, .int x, .int y] M = some (v, M) ∧ mj_C sl (d + 2) i_X9_apart [.ref 45, .int x, .int y] M = some (v, M) := by
  rw [b_X8_apart, b_X9_apart, c_fits, r_isGrid]
  simp only [Option.bind_some]
  rcases mv_gr_cases x with ⟨-, e⟩ | ⟨g, hg, hx, e⟩
  · rw [e]
    exact ⟨-1, rfl, rfl⟩
  · rw [e, if_neg mq_10, if_neg mq_10, c_fits, r_isGrid]
    simp only [Option.bind_some]
    rcases mv_gr_cases y with ⟨-, e2⟩ | ⟨g2, hg2, hy, e2⟩
    · rw [e2]
      exact ⟨-1, rfl, rfl⟩
    · have hxx : g ^^^ g2 < 2 ^ 25 := Nat.xor_lt_two_pow hg hg2
      rw [e2, if_neg mq_10, if_neg mq_10, hx, hy, c_gap (by omega) (by omega), mq_xor, r_bits (by omega), mq_pc25 hxx]
      exact ⟨_, rfl, rfl⟩
theorem p_modelOf {x : Int32} (hm : mv_rM M mo) (hc : mv_cM M mo) (hw : mv_wM mo) : ∃ v, mj_C sl (d + 1) i_X8_modelOf [.ref 0, .int x] M = some (v, M) ∧ mj_C sl (d + 2) i_X9_modelOf [.ref 45, .int x] M = some (v, M) := by
  rw [b_X8_modelOf, b_X9_modelOf]
  have no : ∀ h : x < 0 ∨ nI 8 ≤ x, _ := fun h => (c_hasM_no (sl := sl) (d := d) (M := M) h)
  rcases mq_out (x := x) (n := 8) (by decide) with h | h | ⟨k, hk, rfl⟩
  · rw [c_hasM_no (Or.inl h), r_isLetter_no (Or.inl h)]
    exact ⟨-1, rfl, rfl⟩
  · rw [c_hasM_no (Or.inr h), r_isLetter_no (Or.inr h)]
    exact ⟨-1, rfl, rfl⟩
  · rw [c_hasM hc hk, r_isLetter hm hw hk]
    simp only [Option.bind_some]
    cases h : mo k with
    | none => exact ⟨-1, rfl, rfl⟩
    | some g =>
      rw [if_neg (show ¬ (if (some g).isSome = true then (1 : Int32) else 0) = 0 from mq_10), if_neg (show ¬ (if (some g).isSome = true then (1 : Int32) else 0) = 0 from mq_10), if_pos (mq_inT hk (by decide)), if_pos (mq_inT hk (by decide)), nI_clamp (by omega), hc.2 k g hk h, hm k hk, h]
      exact ⟨_, rfl, rfl⟩
theorem p_formOf {x y : Int32} (hm : mv_rM M mo) (hcm : mv_cM M mo) (hw : mv_wM mo) (hr : mv_rC M 46 cs) (hc : mv_cC M 3 cs) (hwc : mv_wC mo cs) : ∃ v, mj_C sl (d + 1) i_X8_formOf [.ref 0, .int x, .int y] M = some (v, M) ∧ mj_C sl (d + 2) i_X9_formOf [.ref 45, .int x, .int y] M = some (v, M) := by
  rw [b_X8_formOf, b_X9_formOf]
  rcases mq_out (x := x) (n := 10) (by decide) with h | h | ⟨c, hc10, rfl⟩
  · rw [c_hasC_no rfl (Or.inl h), r_isTold_no (Or.inl h)]
    exact ⟨-1, rfl, rfl⟩
  · rw [c_hasC_no rfl (Or.inr h), r_isTold_no (Or.inr h)]
    exact ⟨-1, rfl, rfl⟩
  · rw [c_hasC rfl hc hc10, r_isTold hr hc10]
    simp only [Option.bind_some]
    cases ht : mv_to cs c with
    | false => exact ⟨-1, rfl, rfl⟩
    | true =>
      rw [if_neg (show ¬ (if true = true then (1 : Int32) else 0) = 0 from mq_10), if_neg (show ¬ (if true = true then (1 : Int32) else 0) = 0 from mq_10)]
      rcases mq_out (x := y) (n := 8) (by decide) with h | h | ⟨k, hk, rfl⟩
      · rw [c_hasM_no (Or.inl h), r_isLetter_no (Or.inl h)]
        exact ⟨-1, rfl, rfl⟩
      · rw [c_hasM_no (Or.inr h), r_isLetter_no (Or.inr h)]
        exact ⟨-1, rfl, rfl⟩
      · rw [c_hasM hcm hk, r_isLetter hm hw hk]
        simp only [Option.bind_some]
        cases h : mo k with
        | none => exact ⟨-1, rfl, rfl⟩
        | some g =>
          rw [if_neg (show ¬ (if (some g).isSome = true then (1 : Int32) else 0) = 0 from mq_10), if_neg (show ¬ (if (some g).isSome = true then (1 : Int32) else 0) = 0 from mq_10), c_formAt rfl hcm hc hwc hc10 hk (by rw [h]; rfl), r_formNow hm hw hr hwc hc10 hk (by rw [h]; rfl)]
          exact ⟨_, rfl, rfl⟩
end MV4
def mv_hS (mo : Nat → Option Nat) (cs : mv_CS) (a b : Nat) : Nat → Nat
  | 0 => 0
  | k + 1 => mv_hS mo cs a b k + (match mo k with
    | none => 0
    | some _ => mq_pc (mv_fm mo cs a k ^^^ mv_fm mo cs b k) 25)
theorem mv_hS_le (mo : Nat → Option Nat) (cs : mv_CS) (a b : Nat) : ∀ k, mv_hS mo cs a b k ≤ 25 * k
  | 0 => Nat.le_refl 0
  | k + 1 => by
    have ih := mv_hS_le mo cs a b k
    rw [mv_hS]
    cases mo k with
    | none => dsimp only; omega
    | some m =>
      have := mq_pc_le (mv_fm mo cs a k ^^^ mv_fm mo cs b k) 25
      dsimp only
      omega
section MV5
variable {sl d : Nat} {M : mj_M} {mo : Nat → Option Nat} {cs : mv_CS}
theorem r_apartInAll {a b : Nat} (hm : mv_rM M mo) (hw : mv_wM mo) (hr : mv_rC M 46 cs) (hwc : mv_wC mo cs) (ha : a < 10) (hb : b < 10) : mj_C sl (d + 2) i_X9_apartInAll [.ref 45, .int (nI a), .int (nI b)] M = some (nI (mv_hS mo cs a b 8), M) := by
  rw [b_X9_apartInAll]
  have h : ∀ k, k ≤ 8 → mj_E sl (d + 1 + 1) i_X9_apartInAll 5 [.ref 45, .int (nI a), .int (nI b), .int (nI (mv_hS mo cs a b k)), .int (nI k)] [] M = some (nI (mv_hS mo cs a b 8), M) := mq_up (by rw [b_X9_apartInAll_5, if_neg (by decide)]) (fun k hk ih => by
    rw [b_X9_apartInAll_5, if_pos (show nI k < 8 from (nI_lt hk (by decide) : nI k < nI 8)), r_isLetter hm hw hk]
    simp only [Option.bind_some]
    rw [mv_hS] at ih
    cases hmk : mo k with
    | none =>
      rw [hmk] at ih
      rw [if_pos (by rfl), nI_1]
      exact ih
    | some m =>
      rw [hmk] at ih
      dsimp only at ih
      rw [if_neg (show ¬ (if (some m).isSome = true then (1 : Int32) else 0) = 0 from mq_10), r_formNow hm hw hr hwc ha hk (by rw [hmk]; rfl)]
      simp only [Option.bind_some]
      rw [r_formNow hm hw hr hwc hb hk (by rw [hmk]; rfl)]
      simp only [Option.bind_some]
      rw [mq_xor, r_bits (Nat.lt_of_lt_of_le (Nat.xor_lt_two_pow (mv_fm_lt hw hwc a k) (mv_fm_lt hw hwc b k)) (by decide))]
      simp only [Option.bind_some]
      rw [nI_add, nI_1]
      exact ih)
  exact h 0 (Nat.zero_le _)
theorem c_handsApart {q a b : Nat} (hq : mj_ocl q = 0) (hm : mv_cM M mo) (hw : mv_wM mo) (hc : mv_cC M q cs) (hwc : mv_wC mo cs) (ha : a < 10) (hb : b < 10) : mj_C sl (d + 2) i_X1_handsApart [.ref q, .int (nI a), .int (nI b)] M = some (nI (mv_hS mo cs a b 8), M) := by
  rw [b_X1_handsApart hq]
  have h : ∀ k, k ≤ 8 → mj_E sl (d + 1 + 1) i_X1_handsApart 5 [.ref q, .int (nI a), .int (nI b), .int (nI (mv_hS mo cs a b k)), .int (nI k)] [] M = some (nI (mv_hS mo cs a b 8), M) := mq_up (by rw [b_X1_handsApart_5 hq, if_neg (by decide)]) (fun k hk ih => by
    rw [b_X1_handsApart_5 hq, if_pos (show nI k < 8 from (nI_lt hk (by decide) : nI k < nI 8)), c_hasM hm hk]
    simp only [Option.bind_some]
    rw [mv_hS] at ih
    cases hmk : mo k with
    | none =>
      rw [hmk] at ih
      rw [if_pos (by rfl), nI_1]
      exact ih
    | some m =>
      rw [hmk] at ih
      dsimp only at ih
      have hx := Nat.xor_lt_two_pow (mv_fm_lt hw hwc a k) (mv_fm_lt hw hwc b k)
      rw [if_neg (show ¬ (if (some m).isSome = true then (1 : Int32) else 0) = 0 from mq_10), c_formAt hq hm hc hwc ha hk (by rw [hmk]; rfl)]
      simp only [Option.bind_some]
      rw [c_formAt hq hm hc hwc hb hk (by rw [hmk]; rfl)]
      simp only [Option.bind_some]
      rw [c_gap (Nat.lt_of_lt_of_le (mv_fm_lt hw hwc a k) (by decide)) (Nat.lt_of_lt_of_le (mv_fm_lt hw hwc b k) (by decide)), mq_pc25 hx]
      simp only [Option.bind_some]
      rw [nI_add, nI_1]
      exact ih)
  exact h 0 (Nat.zero_le _)
theorem p_forge {x y : Int32} (hm : mv_rM M mo) (hcm : mv_cM M mo) (hw : mv_wM mo) (hr : mv_rC M 46 cs) (hc : mv_cC M 3 cs) (hwc : mv_wC mo cs) : ∃ v, mj_C sl (d + 3) i_X8_forge [.ref 0, .int x, .int y] M = some (v, M) ∧ mj_C sl (d + 3) i_X9_forge [.ref 45, .int x, .int y] M = some (v, M) := by
  rw [b_X8_forge, b_X9_forge]
  rcases mq_out (x := x) (n := 10) (by decide) with h | h | ⟨c, hc10, rfl⟩
  · rw [c_hasC_no rfl (Or.inl h), r_isTold_no (Or.inl h)]
    exact ⟨-1, rfl, rfl⟩
  · rw [c_hasC_no rfl (Or.inr h), r_isTold_no (Or.inr h)]
    exact ⟨-1, rfl, rfl⟩
  · rw [c_hasC rfl hc hc10, r_isTold hr hc10]
    simp only [Option.bind_some]
    cases ht : mv_to cs c with
    | false => exact ⟨-1, rfl, rfl⟩
    | true =>
      rw [if_neg (show ¬ (if true = true then (1 : Int32) else 0) = 0 from mq_10), if_neg (show ¬ (if true = true then (1 : Int32) else 0) = 0 from mq_10)]
      rcases mq_out (x := y) (n := 10) (by decide) with h | h | ⟨k, hk, rfl⟩
      · rw [c_hasC_no rfl (Or.inl h), r_isTold_no (Or.inl h)]
        exact ⟨-1, rfl, rfl⟩
      · rw [c_hasC_no rfl (Or.inr h), r_isTold_no (Or.inr h)]
        exact ⟨-1, rfl, rfl⟩
      · rw [c_hasC rfl hc hk, r_isTold hr hk]
        simp only [Option.bind_some]
        cases ht2 : mv_to cs k with
        | false => exact ⟨-1, rfl, rfl⟩
        | true =>
          rw [if_neg (show ¬ (if true = true then (1 : Int32) else 0) = 0 from mq_10), if_neg (show ¬ (if true = true then (1 : Int32) else 0) = 0 from mq_10)]
          by_cases he : nI c = nI k
          · rw [if_pos he, if_pos he]
            exact ⟨-1, rfl, rfl⟩
          · rw [if_neg he, if_neg he, c_handsApart rfl hcm hw hc hwc hc10 hk, r_apartInAll hm hw hr hwc hc10 hk]
            exact ⟨_, rfl, rfl⟩
end MV5
