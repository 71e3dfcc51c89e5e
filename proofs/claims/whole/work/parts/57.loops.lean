def mv_mns (L S : Nat) : Nat := L &&& (S ^^^ 4294967295)
theorem mv_mns_tb {L S i : Nat} (hL : L < 2 ^ 25) : (mv_mns L S).testBit i = true ↔ L.testBit i = true ∧ S.testBit i = false := by
  unfold mv_mns
  rw [Nat.testBit_and, Bool.and_eq_true]
  constructor
  · rintro ⟨h1, h2⟩
    have := mv_lt_bit hL h1
    rw [mv_not_bit (by omega)] at h2
    exact ⟨h1, by simpa using h2⟩
  · rintro ⟨h1, h2⟩
    have := mv_lt_bit hL h1
    rw [mv_not_bit (by omega), h2]
    exact ⟨h1, rfl⟩
theorem mv_mns_lt {L S : Nat} (hL : L < 2 ^ 25) : mv_mns L S < 2 ^ 25 := Nat.lt_of_le_of_lt Nat.and_le_left hL
theorem mv_mnsE (L S : Nat) : nI L &&& (nI S ^^^ (-1)) = nI (mv_mns L S) := by
  rw [mq_m1, mq_xor, mq_and]
  rfl
def mv_cld (co : Bool) (G L : Nat) : Prop := mv_sub L G ∧ ∀ a b, a < 25 → b < 25 → L.testBit a = true → mv_aj co a b = true → G.testBit b = true → L.testBit b = true
theorem mv_cld.cl {co : Bool} {G L c S : Nat} (h : mv_cld co G L) (hc : L.testBit c = true) (hc25 : c < 25) (hS : mv_cl (mv_E co L) 25 c S) : mv_cl (mv_E co G) 25 c S := by
  have hs := mv_clE hS hc hc25
  refine ⟨hS.1, hS.2.1, fun a b ha hb h1 h2 => ?_, fun T t1 t2 => hS.2.2.2 T t1 (fun a b ha hb h1 h2 => ?_)⟩
  · unfold mv_E at h2
    rw [Bool.and_eq_true] at h2
    refine hS.2.2.1 a b ha hb h1 ?_
    unfold mv_E
    rw [h2.1, h.2 a b ha hb (hs a h1) h2.1 h2.2]
    rfl
  · unfold mv_E at h2
    rw [Bool.and_eq_true] at h2
    refine t2 a b ha hb h1 ?_
    unfold mv_E
    rw [h2.1, h.1 b h2.2]
    rfl
theorem mv_cld.nx {co : Bool} {G L c S : Nat} (h : mv_cld co G L) (hL : L < 2 ^ 25) (hS : mv_cl (mv_E co G) 25 c S) : mv_cld co G (mv_mns L S) := by
  refine ⟨fun i hi => h.1 i ((mv_mns_tb hL).mp hi).1, fun a b ha hb h1 h2 h3 => ?_⟩
  obtain ⟨k1, k2⟩ := (mv_mns_tb hL).mp h1
  refine (mv_mns_tb hL).mpr ⟨h.2 a b ha hb k1 h2 h3, ?_⟩
  cases hb2 : S.testBit b with
  | false => rfl
  | true =>
    have : S.testBit a = true := by
      refine hS.2.2.1 b a hb ha hb2 ?_
      unfold mv_E
      rw [← mv_aj_sy co a ha b hb, h2, h.1 a k1]
      rfl
    rw [this] at k2
    cases k2
theorem mv_mns_lo {L S k : Nat} (hL : L < 2 ^ 25) (hlo : ∀ j, j < k → L.testBit j = false) (hk : S.testBit k = true) : ∀ j, j < k + 1 → (mv_mns L S).testBit j = false := by
  intro j hj
  cases h : (mv_mns L S).testBit j with
  | false => rfl
  | true =>
    obtain ⟨k1, k2⟩ := (mv_mns_tb hL).mp h
    by_cases q : j = k
    · rw [q, hk] at k2; cases k2
    · rw [hlo j (by omega)] at k1; cases k1
theorem mv_zero {L : Nat} (hL : L < 2 ^ 25) (h : ∀ j, j < 25 → L.testBit j = false) : L = 0 := by
  apply Nat.eq_of_testBit_eq
  intro i
  rw [Nat.zero_testBit]
  by_cases q : i < 25
  · exact h i q
  · cases hb : L.testBit i with
    | false => rfl
    | true => exact absurd (mv_lt_bit hL hb) q
theorem mv_nz {L k : Nat} (h : L.testBit k = true) : ¬ L = 0 := fun z => by
  rw [z, Nat.zero_testBit] at h
  cases h
theorem mv_edge : ∀ j, j < 25 → (33080895 : Nat).testBit j = decide (j % 5 % 4 = 0 ∨ j / 5 % 4 = 0) := by decide +kernel
section MV28
variable {sl d : Nat} {M : mj_M}
theorem r_isAtEdge {S : Nat} (hS : S < 2 ^ 25) : mj_C sl (d + 1) i_X9_isAtEdge [.int (nI S)] M = some (if S &&& 33080895 = 0 then 0 else 1, M) := by
  have L : ∀ k, k ≤ 25 → (∀ j, j < k → (S &&& 33080895).testBit j = false) → mj_E sl (d + 1) i_X9_isAtEdge 2 [.int (nI S), .int (nI k)] [] M = some (if S &&& 33080895 = 0 then 0 else 1, M) := by
    refine mq_up ?_ ?_
    · intro h
      have : S &&& 33080895 = 0 := mv_zero (Nat.lt_of_le_of_lt Nat.and_le_left hS) h
      rw [b_X9_isAtEdge_2, if_neg (by decide), if_pos this]
    · intro k hk ih h
      rw [b_X9_isAtEdge_2]
      simp (disch := omega) only [s_ltL, hk, if_true, r_has, Option.bind_some, s_b0, s_rmL, s_dvL, s_eqL, s_addL]
      have tb : (S &&& 33080895).testBit k = (S.testBit k && decide (k % 5 % 4 = 0 ∨ k / 5 % 4 = 0)) := by rw [Nat.testBit_and, mv_edge k hk]
      have next : (S &&& 33080895).testBit k = false → mj_E sl (d + 1) i_X9_isAtEdge 2 [.int (nI S), .int (nI (k + 1))] [] M = some (if S &&& 33080895 = 0 then 0 else 1, M) := fun hz => ih (fun j hj => by
        by_cases q : j = k
        · rw [q]; exact hz
        · exact h j (by omega))
      by_cases c1 : S.testBit k = true
      · simp only [c1, not_true, if_false]
        by_cases c2 : k % 5 % 4 = 0
        · have : ¬ S &&& 33080895 = 0 := mv_nz (k := k) (by rw [tb, c1]; simp [c2])
          rw [if_pos c2, if_neg this]
        · rw [if_neg c2]
          by_cases c3 : k / 5 % 4 = 0
          · have : ¬ S &&& 33080895 = 0 := mv_nz (k := k) (by rw [tb, c1]; simp [c3])
            rw [if_pos c3, if_neg this]
          · rw [if_neg c3]
            exact next (by rw [tb]; simp [c2, c3])
      · rw [if_pos c1]
        exact next (by rw [tb]; simp [c1])
  rw [b_X9_isAtEdge]
  exact L 0 (by omega) (fun j hj => by omega)
theorem mv_loopsG {g : Nat} (hg : g < 2 ^ 25) : 33554431 &&& (g ^^^ 4294967295) = g ^^^ 33554431 := by
  apply Nat.eq_of_testBit_eq
  intro i
  rw [Nat.testBit_and, Nat.testBit_xor g 33554431, show (33554431 : Nat) = 2 ^ 25 - 1 from rfl, Nat.testBit_two_pow_sub_one]
  by_cases q : i < 25
  · rw [mv_not_bit (by omega)]
    cases g.testBit i <;> simp [q]
  · have : g.testBit i = false := Nat.testBit_lt_two_pow (Nat.lt_of_lt_of_le hg (Nat.pow_le_pow_right (by decide) (by omega)))
    simp [q, this]
theorem p_loops {g : Nat} (hg : g < 2 ^ 25) : ∃ v, mj_C sl (d + 3) i_X2_loops [.int (nI g)] M = some (v, M) ∧ mj_C sl (d + 3) i_X9_loopsOf [.int (nI g)] M = some (v, M) := by
  have hG : g ^^^ 33554431 < 2 ^ 25 := Nat.xor_lt_two_pow hg (by decide)
  have R : ∀ k, k ≤ 25 → ∀ (L n t : Nat) (w4 w5 : Value), L < 2 ^ 25 → mv_cld false (g ^^^ 33554431) L → (∀ j, j < k → L.testBit j = false) → t ≤ k → ∃ v, mj_E sl (d + 2 + 1) i_X2_loops 11 [.int (nI g), .int (nI n), .int (nI L), .int (nI t), w4] [] M = some (v, M) ∧ mj_E sl (d + 2 + 1) i_X9_loopsOf 9 [.int (nI g), .int (nI L), .int (nI n), .int (nI k), w5] [] M = some (v, M) := by
    refine mq_up ?_ ?_
    · intro L n t w4 w5 hL hcl hlo ht
      have hz := mv_zero hL hlo
      refine ⟨nI n, ?_, ?_⟩
      · rw [b_X2_loops_11, hz]
        split
        · exact if_pos rfl
        · rfl
      · rw [b_X9_loopsOf_9, if_neg (by decide)]
    · intro k hk ih L n t w4 w5 hL hcl hlo ht
      rw [b_X9_loopsOf_9]
      simp (disch := omega) only [s_ltL, hk, if_true, r_has, Option.bind_some, s_b0, s_addL]
      by_cases c1 : L.testBit k = true
      · simp only [c1, not_true, if_false]
        obtain ⟨S, hS, e1⟩ := c_lowestPart (sl := sl) (d := d + 1) (M := M) (co := false) rfl hL c1 hlo
        have hS2 := hcl.cl c1 hk hS
        obtain ⟨S2, hS3, e2⟩ := r_partOf (sl := sl) (d := d) (M := M) (co := false) (c := k) rfl hG hk (hcl.1 k c1)
        rw [← hS2.un hS3] at e2
        have e1' : mj_C sl (d + 2) 29 [.int (nI L), .int 0] M = some (nI S, M) := e1
        have e2' : mj_C sl (d + 2) 211 [.int (nI (g ^^^ 33554431)), .int (nI k), .int 0] M = some (nI S, M) := e2
        have hz : ¬ nI L = 0 := fun z => mv_nz c1 ((mq_eq (b := 0) (by omega) (by decide)).mp z)
        have hSl := hS.1
        have hal : S &&& 33080895 < 2 ^ 25 := Nat.lt_of_le_of_lt Nat.and_le_left hSl
        rw [show (33554431 : Int32) = nI 33554431 from rfl, mq_xor, e2', b_X2_loops_11, show (33080895 : Int32) = nI 33080895 from rfl]
        simp (disch := omega) only [s_ltL, show t < 25 from by omega, if_true, hz, if_false, e1', Option.bind_some, r_isAtEdge hSl, mq_and, s_eqL, mv_mnsE, s_addL]
        have nx := fun n w4 w5 => ih (mv_mns L S) n (t + 1) w4 w5 (mv_mns_lt hL) (hcl.nx hL hS2) (mv_mns_lo hL hlo hS.2.1) (by omega)
        by_cases c2 : S &&& 33080895 = 0
        · simp only [c2, if_true]
          exact nx _ _ _
        · simp only [c2, if_false, s_10]
          exact nx _ _ _
      · rw [if_pos c1]
        refine ih L n t w4 w5 hL hcl (fun j hj => ?_) (by omega)
        by_cases q : j = k
        · rw [q]; simpa using c1
        · exact hlo j (by omega)
  obtain ⟨v, a1, a2⟩ := R 0 (by omega) (g ^^^ 33554431) 0 0 .null .null hG ⟨mv_sub.rf, fun a b _ _ _ _ h => h⟩ (fun j hj => by omega) (by omega)
  refine ⟨v, ?_, ?_⟩
  · rw [b_X2_loops, mq_m1, show (33554431 : Int32) = nI 33554431 from rfl, mq_xor, mq_and, mv_loopsG hg]
    exact a1
  · rw [b_X9_loopsOf, show (33554431 : Int32) = nI 33554431 from rfl, mq_xor]
    exact a2
theorem p_strokes {g : Nat} (hG : g < 2 ^ 25) : ∃ v, mj_C sl (d + 3) i_X2_strokes [.int (nI g)] M = some (v, M) ∧ mj_C sl (d + 3) i_X9_strokesOf [.int (nI g)] M = some (v, M) := by
  have R : ∀ k, k ≤ 25 → ∀ (L n t : Nat), L < 2 ^ 25 → mv_cld true g L → (∀ j, j < k → L.testBit j = false) → t ≤ k → ∃ v, mj_E sl (d + 2 + 1) i_X2_strokes 6 [.int (nI g), .int (nI n), .int (nI L), .int (nI t)] [] M = some (v, M) ∧ mj_E sl (d + 2 + 1) i_X9_strokesOf 6 [.int (nI g), .int (nI L), .int (nI n), .int (nI k)] [] M = some (v, M) := by
    refine mq_up ?_ ?_
    · intro L n t hL hcl hlo ht
      have hz := mv_zero hL hlo
      refine ⟨nI n, ?_, ?_⟩
      · rw [b_X2_strokes_6, hz]
        split
        · exact if_pos rfl
        · rfl
      · rw [b_X9_strokesOf_6, if_neg (by decide)]
    · intro k hk ih L n t hL hcl hlo ht
      rw [b_X9_strokesOf_6]
      simp (disch := omega) only [s_ltL, hk, if_true, r_has, Option.bind_some, s_b0, s_addL]
      by_cases c1 : L.testBit k = true
      · simp only [c1, not_true, if_false]
        obtain ⟨S, hS, e1⟩ := c_lowestPart (sl := sl) (d := d + 1) (M := M) (co := true) rfl hL c1 hlo
        have hS2 := hcl.cl c1 hk hS
        obtain ⟨S2, hS3, e2⟩ := r_partOf (sl := sl) (d := d) (M := M) (co := true) (c := k) rfl hG hk (hcl.1 k c1)
        rw [← hS2.un hS3] at e2
        have e1' : mj_C sl (d + 2) 29 [.int (nI L), .int 1] M = some (nI S, M) := e1
        have e2' : mj_C sl (d + 2) 211 [.int (nI g), .int (nI k), .int 1] M = some (nI S, M) := e2
        have hz : ¬ nI L = 0 := fun z => mv_nz c1 ((mq_eq (b := 0) (by omega) (by decide)).mp z)
        rw [e2', b_X2_strokes_6]
        simp (disch := omega) only [s_ltL, show t < 25 from by omega, if_true, hz, if_false, e1', Option.bind_some, mv_mnsE, s_addL]
        exact ih (mv_mns L S) (n + 1) (t + 1) (mv_mns_lt hL) (hcl.nx hL hS2) (mv_mns_lo hL hlo hS.2.1) (by omega)
      · rw [if_pos c1]
        refine ih L n t hL hcl (fun j hj => ?_) (by omega)
        by_cases q : j = k
        · rw [q]; simpa using c1
        · exact hlo j (by omega)
  obtain ⟨v, a1, a2⟩ := R 0 (by omega) g 0 0 hG ⟨mv_sub.rf, fun a b _ _ _ _ h => h⟩ (fun j hj => by omega) (by omega)
  refine ⟨v, ?_, ?_⟩
  · rw [b_X2_strokes]
    exact a1
  · rw [b_X9_strokesOf]
    exact a2
end MV28
