def mv_tc (co : Bool) (b i j : Nat) : Bool := (co || decide (i = 1) || decide (j = 1)) && decide (1 ≤ b % 5 + i ∧ b % 5 + i ≤ 5) && decide (1 ≤ b / 5 + j ∧ b / 5 + j ≤ 5)
def mv_ti (b i j : Nat) : Nat := 5 * (b / 5 + j - 1) + (b % 5 + i - 1)
theorem mv_tc1 : ∀ co b, b < 25 → ∀ a, a < 25 → mv_aj co a b = true → ∃ i, i < 3 ∧ ∃ j, j < 3 ∧ mv_tc co b i j = true ∧ mv_ti b i j = a := by decide +kernel
theorem mv_tc2 : ∀ co b, b < 25 → ∀ i, i < 3 → ∀ j, j < 3 → mv_tc co b i j = true → mv_ti b i j < 25 ∧ mv_aj co (mv_ti b i j) b = true := by decide +kernel
theorem mv_inm : ∀ a, a < 5 → ∀ i, i < 3 → (if nI a + (nI i - 1) < 0 then (0 : Int32) else if nI a + (nI i - 1) ≤ 4 then 1 else 0) = if 1 ≤ a + i ∧ a + i ≤ 5 then 1 else 0 := by decide +kernel
theorem mv_ixm : ∀ a, a < 5 → ∀ i, i < 3 → 1 ≤ a + i → nI a + (nI i - 1) = nI (a + i - 1) := by decide +kernel
theorem mv_i1 : ∀ i, i < 3 → (nI i - 1 ≤ 1 ∧ (nI i - 1 = 0 ↔ i = 1) ∧ nI i - 1 + 1 = nI (i + 1) - 1) := by decide +kernel
section MV27
variable {sl d : Nat} {M : mj_M}
theorem r_touch1 {p b i j : Nat} {co : Bool} {y : Int32} (hy : y = mv_bi co) (hp : p < 2 ^ 25) (hb : b < 25) (hi : i < 3) (hj : j < 3) (w5 w6 w7 : Value) : ∃ v5 v6 v7, mj_E sl (d + 1) i_X9_touches 10 [.int (nI p), .int (nI b), .int y, .int (nI j - 1), .int (nI i - 1), w5, w6, w7] [] M = if mv_tc co b i j = true ∧ p.testBit (mv_ti b i j) = true then some (1, M) else mj_E sl (d + 1) i_X9_touches 10 [.int (nI p), .int (nI b), .int y, .int (nI j - 1), .int (nI (i + 1) - 1), v5, v6, v7] [] M := by
  obtain ⟨i1, i2, i3⟩ := mv_i1 i hi
  obtain ⟨j1, j2, j3⟩ := mv_i1 j hj
  have e44 : ∀ w7, ∃ v7, mj_E sl (d + 1) i_X9_touches 44 [.int (nI p), .int (nI b), .int y, .int (nI j - 1), .int (nI i - 1), .int (nI (b % 5) + (nI i - 1)), .int (nI (b / 5) + (nI j - 1)), w7] [] M = if (1 ≤ b % 5 + i ∧ b % 5 + i ≤ 5) ∧ (1 ≤ b / 5 + j ∧ b / 5 + j ≤ 5) ∧ p.testBit (mv_ti b i j) = true then some (1, M) else mj_E sl (d + 1) i_X9_touches 10 [.int (nI p), .int (nI b), .int y, .int (nI j - 1), .int (nI (i + 1) - 1), .int (nI (b % 5) + (nI i - 1)), .int (nI (b / 5) + (nI j - 1)), v7] [] M := by
    intro w7
    refine ⟨.int 1, ?_⟩
    rw [b_X9_touches_44]
    simp only [r_in, Option.bind_some, mv_inm (b % 5) (by omega) i hi, mv_inm (b / 5) (by omega) j hj, s_b0, i3]
    by_cases c1 : 1 ≤ b % 5 + i ∧ b % 5 + i ≤ 5
    · by_cases c2 : 1 ≤ b / 5 + j ∧ b / 5 + j ≤ 5
      · rw [mv_ixm (b % 5) (by omega) i hi c1.1, mv_ixm (b / 5) (by omega) j hj c2.1]
        simp (disch := omega) only [c1, c2, not_true, if_false, b_X9_dot, s_Lmul, nI_add, Option.bind_some, r_has, s_b0, true_and, and_self, not_true_eq_false]
        rw [show 5 * (b / 5 + j - 1) + (b % 5 + i - 1) = mv_ti b i j from rfl]
        by_cases c3 : p.testBit (mv_ti b i j) = true
        · simp only [c3, not_true, if_true, if_false]
        · rw [if_pos c3, if_neg c3]
      · simp only [c1, c2, not_true, not_false_eq_true, if_true, if_false, true_and, false_and, and_self]
    · simp only [c1, not_false_eq_true, if_true, if_false, false_and]
  obtain ⟨v7, e⟩ := e44 w7
  rw [b_X9_touches_10]
  simp (disch := omega) only [i1, if_true, s_rmL, s_dvL, i2, j2, i3]
  cases co with
  | true =>
    have hy0 : ¬ y = 0 := by rw [hy]; exact mq_10
    rw [if_neg hy0]
    refine ⟨.int (nI (b % 5) + (nI i - 1)), .int (nI (b / 5) + (nI j - 1)), v7, e.trans ?_⟩
    have : (mv_tc true b i j = true) = ((1 ≤ b % 5 + i ∧ b % 5 + i ≤ 5) ∧ (1 ≤ b / 5 + j ∧ b / 5 + j ≤ 5)) := by
      unfold mv_tc
      simp
    simp only [this, and_assoc]
  | false =>
    have hy0 : y = 0 := hy
    rw [if_pos hy0]
    have ht : (mv_tc false b i j = true) = ((i = 1 ∨ j = 1) ∧ (1 ≤ b % 5 + i ∧ b % 5 + i ≤ 5) ∧ (1 ≤ b / 5 + j ∧ b / 5 + j ≤ 5)) := by
      unfold mv_tc
      simp [and_assoc]
    by_cases c1 : i = 1
    · rw [if_pos c1]
      refine ⟨.int (nI (b % 5) + (nI i - 1)), .int (nI (b / 5) + (nI j - 1)), v7, e.trans ?_⟩
      have : (mv_tc false b i j = true) = ((1 ≤ b % 5 + i ∧ b % 5 + i ≤ 5) ∧ (1 ≤ b / 5 + j ∧ b / 5 + j ≤ 5)) := by
        rw [ht]
        simp only [c1, true_or, true_and]
      simp only [this, and_assoc]
    · rw [if_neg c1]
      by_cases c2 : j = 1
      · rw [if_pos c2]
        refine ⟨.int (nI (b % 5) + (nI i - 1)), .int (nI (b / 5) + (nI j - 1)), v7, e.trans ?_⟩
        have : (mv_tc false b i j = true) = ((1 ≤ b % 5 + i ∧ b % 5 + i ≤ 5) ∧ (1 ≤ b / 5 + j ∧ b / 5 + j ≤ 5)) := by
          rw [ht]
          simp only [c2, or_true, true_and]
        simp only [this, and_assoc]
      · rw [if_neg c2]
        refine ⟨.int (nI (b % 5) + (nI i - 1)), .int (nI (b / 5) + (nI j - 1)), .int 0, ?_⟩
        rw [if_neg]
        intro z
        have := z.1
        rw [ht] at this
        omega
theorem r_touches {p b : Nat} {co : Bool} {y : Int32} (hy : y = mv_bi co) (hp : p < 2 ^ 25) (hb : b < 25) : mj_C sl (d + 1) i_X9_touches [.int (nI p), .int (nI b), .int y] M = some (if (mv_dl co p).testBit b = true then 1 else 0, M) := by
  have I : ∀ j, j < 3 → ∀ i, i ≤ 3 → ∀ w5 w6 w7 : Value, ((∃ k, i ≤ k ∧ k < 3 ∧ mv_tc co b k j = true ∧ p.testBit (mv_ti b k j) = true) ∧ mj_E sl (d + 1) i_X9_touches 10 [.int (nI p), .int (nI b), .int y, .int (nI j - 1), .int (nI i - 1), w5, w6, w7] [] M = some (1, M)) ∨ ((∀ k, i ≤ k → k < 3 → ¬ (mv_tc co b k j = true ∧ p.testBit (mv_ti b k j) = true)) ∧ ∃ w4 w5' w6' w7', mj_E sl (d + 1) i_X9_touches 10 [.int (nI p), .int (nI b), .int y, .int (nI j - 1), .int (nI i - 1), w5, w6, w7] [] M = mj_E sl (d + 1) i_X9_touches 2 [.int (nI p), .int (nI b), .int y, .int (nI (j + 1) - 1), w4, w5', w6', w7'] [] M) := by
    intro j hj
    refine mq_up ?_ ?_
    · intro w5 w6 w7
      refine Or.inr ⟨fun k h1 h2 => by omega, .int (nI 3 - 1), w5, w6, w7, ?_⟩
      rw [b_X9_touches_10, if_neg (by decide), (mv_i1 j hj).2.2]
    · intro i hi ih w5 w6 w7
      obtain ⟨v5, v6, v7, e⟩ := r_touch1 (sl := sl) (d := d) (M := M) hy hp hb hi hj w5 w6 w7
      by_cases c : mv_tc co b i j = true ∧ p.testBit (mv_ti b i j) = true
      · rw [if_pos c] at e
        exact Or.inl ⟨⟨i, by omega, hi, c⟩, e⟩
      · rw [if_neg c] at e
        rcases ih v5 v6 v7 with ⟨⟨k, h1, h2, h3⟩, e2⟩ | ⟨h, u4, u5, u6, u7, e2⟩
        · exact Or.inl ⟨⟨k, by omega, h2, h3⟩, e.trans e2⟩
        · refine Or.inr ⟨fun k h1 h2 => ?_, u4, u5, u6, u7, e.trans e2⟩
          by_cases q : k = i
          · rw [q]; exact c
          · exact h k (by omega) h2
  have J : ∀ j, j ≤ 3 → ∀ w4 w5 w6 w7 : Value, mj_E sl (d + 1) i_X9_touches 2 [.int (nI p), .int (nI b), .int y, .int (nI j - 1), w4, w5, w6, w7] [] M = some (1, M) ∧ (∃ k, j ≤ k ∧ k < 3 ∧ ∃ i, i < 3 ∧ mv_tc co b i k = true ∧ p.testBit (mv_ti b i k) = true) ∨ mj_E sl (d + 1) i_X9_touches 2 [.int (nI p), .int (nI b), .int y, .int (nI j - 1), w4, w5, w6, w7] [] M = some (0, M) ∧ ∀ k, j ≤ k → k < 3 → ∀ i, i < 3 → ¬ (mv_tc co b i k = true ∧ p.testBit (mv_ti b i k) = true) := by
    refine mq_up ?_ ?_
    · intro w4 w5 w6 w7
      refine Or.inr ⟨?_, fun k h1 h2 => by omega⟩
      rw [b_X9_touches_2, if_neg (by decide)]
    · intro j hj ih w4 w5 w6 w7
      rw [b_X9_touches_2, if_pos (mv_i1 j hj).1]
      rcases I j hj 0 (by omega) w5 w6 w7 with ⟨⟨k, h1, h2, h3⟩, e⟩ | ⟨h, u4, u5, u6, u7, e⟩
      · exact Or.inl ⟨e, j, by omega, hj, k, h2, h3⟩
      · have e' : mj_E sl (d + 1) 212 10 [.int (nI p), .int (nI b), .int y, .int (nI j - 1), .int (-1), w5, w6, w7] [] M = _ := e
        rw [e']
        rcases ih u4 u5 u6 u7 with ⟨e2, k, h1, h2, h3⟩ | ⟨e2, h3⟩
        · exact Or.inl ⟨e2, k, by omega, h2, h3⟩
        · refine Or.inr ⟨e2, fun k h1 h2 i hi => ?_⟩
          by_cases q : k = j
          · rw [q]; exact h i (by omega) hi
          · exact h3 k (by omega) h2 i hi
  rw [b_X9_touches]
  rcases J 0 (by omega) .null .null .null .null with ⟨e, k, h1, h2, i, h3, h4, h5⟩ | ⟨e, h⟩
  · refine Eq.trans e ?_
    obtain ⟨q1, q2⟩ := mv_tc2 co b hb i h3 k h2 h4
    rw [if_pos ((mv_dl_tb hp).mpr ⟨_, q1, h5, q2⟩)]
  · refine Eq.trans e ?_
    rw [if_neg]
    intro z
    obtain ⟨a, a1, a2, a3⟩ := (mv_dl_tb hp).mp z
    obtain ⟨i, i1, j, j1, c1, c2⟩ := mv_tc1 co b hb a a1 a3
    refine h j (by omega) j1 i i1 ⟨c1, ?_⟩
    rw [c2]
    exact a2
theorem r_partOf {G c : Nat} {co : Bool} {y : Int32} (hy : y = mv_bi co) (hG : G < 2 ^ 25) (hc : c < 25) (hcG : G.testBit c = true) : ∃ S, mv_cl (mv_E co G) 25 c S ∧ mj_C sl (d + 2) i_X9_partOf [.int (nI G), .int (nI c), .int y] M = some (nI S, M) := by
  have I1 : ∀ w1 : Value, ∀ p, p < 2 ^ 25 → ∀ k, k ≤ 25 → ∀ g, g < 2 ^ 25 → mv_sub p g → ∃ g', g' < 2 ^ 25 ∧ mj_E sl (d + 1 + 1) i_X9_partOf 19 [.int (nI G), w1, .int y, .int (nI g), .int (nI p), .int (nI k)] [] M = mj_E sl (d + 1 + 1) i_X9_partOf 7 [.int (nI G), w1, .int y, .int (nI g'), .int (nI p), .int (nI 25)] [] M ∧ mv_sub g g' ∧ (∀ T, mv_cls (mv_E co G) 25 T → mv_sub g T → mv_sub g' T) ∧ ∀ a b, a < 25 → k ≤ b → b < 25 → p.testBit a = true → mv_E co G a b = true → g'.testBit b = true := by
    intro w1 p hp
    refine mq_up ?_ ?_
    · intro g hg hs
      refine ⟨g, hg, ?_, mv_sub.rf, fun T _ h => h, fun a b h0 h1 h2 => by omega⟩
      rw [b_X9_partOf_19, if_neg (by decide)]
    · intro k hk ih g hg hs
      rw [b_X9_partOf_19]
      simp (disch := omega) only [s_ltL, hk, if_true, r_has, Option.bind_some, s_b0, s_addL, r_touches hy hp hk, mq_one, mq_or]
      have skip : (∀ a, a < 25 → p.testBit a = true → mv_E co G a k = true → g.testBit k = true) → ∃ g', g' < 2 ^ 25 ∧ mj_E sl (d + 1 + 1) i_X9_partOf 19 [.int (nI G), w1, .int y, .int (nI g), .int (nI p), .int (nI (k + 1))] [] M = mj_E sl (d + 1 + 1) i_X9_partOf 7 [.int (nI G), w1, .int y, .int (nI g'), .int (nI p), .int (nI 25)] [] M ∧ mv_sub g g' ∧ (∀ T, mv_cls (mv_E co G) 25 T → mv_sub g T → mv_sub g' T) ∧ ∀ a b, a < 25 → k ≤ b → b < 25 → p.testBit a = true → mv_E co G a b = true → g'.testBit b = true := by
        intro hno
        obtain ⟨g', l, e, s1, s2, s3⟩ := ih g hg hs
        refine ⟨g', l, e, s1, s2, fun a b h0 h1 h2 h3 h4 => ?_⟩
        by_cases q : b = k
        · rw [q] at h4 ⊢
          exact s1 k (hno a h0 h3 h4)
        · exact s3 a b h0 (by omega) h2 h3 h4
      by_cases c1 : G.testBit k = true
      · simp only [c1, not_true, if_false]
        by_cases c2 : (mv_dl co p).testBit k = true
        · simp only [c2, not_true, if_false]
          obtain ⟨g', l, e, s1, s2, s3⟩ := ih (g ||| 2 ^ k) (Nat.or_lt_two_pow hg (Nat.pow_lt_pow_right (by decide) hk)) (hs.tr mv_sub.or1)
          refine ⟨g', l, e, mv_sub.or1.tr s1, fun T hT h => s2 T hT (h.or (fun i hi => ?_)), fun a b h0 h1 h2 h3 h4 => ?_⟩
          · rw [mv_pow_bit] at hi
            rw [← hi]
            obtain ⟨a, a1, a2, a3⟩ := (mv_dl_tb hp).mp c2
            refine hT a k a1 hk (h a (hs a a2)) ?_
            unfold mv_E
            rw [a3, c1]
            rfl
          · by_cases q : b = k
            · refine s1 b ?_
              rw [Nat.testBit_or, mv_pow_bit.mpr q.symm, Bool.or_true]
            · exact s3 a b h0 (by omega) h2 h3 h4
        · simp only [c2, not_false_eq_true, if_true]
          refine skip (fun a h0 h3 h4 => absurd ((mv_dl_tb hp).mpr ⟨a, h0, h3, ?_⟩) c2)
          unfold mv_E at h4
          rw [Bool.and_eq_true] at h4
          exact h4.1
      · simp only [c1, not_false_eq_true, if_true]
        refine skip (fun a h0 h3 h4 => absurd ?_ c1)
        unfold mv_E at h4
        rw [Bool.and_eq_true] at h4
        exact h4.2
  rw [b_X9_partOf, mq_one (by omega)]
  have L : ∀ m g p (w1 w5 : Value), 26 ≤ mq_pc g 25 + m → g < 2 ^ 25 → g.testBit c = true → (∀ T, T.testBit c = true → mv_cls (mv_E co G) 25 T → mv_sub g T) → p < 2 ^ 25 → (p = g → mv_cls (mv_E co G) 25 g) → ∃ S, mv_cl (mv_E co G) 25 c S ∧ mj_E sl (d + 1 + 1) i_X9_partOf 7 [.int (nI G), w1, .int y, .int (nI g), .int (nI p), w5] [] M = some (nI S, M) := by
    intro m
    induction m with
    | zero =>
      intro g p w1 w5 hm
      have := mq_pc_le g 25
      omega
    | succ m ih =>
      intro g p w1 w5 hm hg h1 h2 hp h3
      rw [b_X9_partOf_7]
      simp (disch := omega) only [s_eq]
      by_cases hgp : g = p
      · rw [if_pos hgp]
        exact ⟨g, ⟨hg, h1, h3 hgp.symm, h2⟩, rfl⟩
      · rw [if_neg hgp]
        obtain ⟨g', l, e, s1, s2, s4⟩ := I1 w1 g hg 0 (by omega) g hg mv_sub.rf
        have e' : mj_E sl (d + 1 + 1) 211 19 [.int (nI G), w1, .int y, .int (nI g), .int (nI g), .int 0] [] M = _ := e
        rw [e']
        have hcl : g = g' → mv_cls (mv_E co G) 25 g' := fun q => by
          rw [← q]
          intro a b ha hb q1 q2
          have := s4 a b ha (by omega) hb q1 q2
          rw [← q] at this
          exact this
        by_cases hgg : g = g'
        · refine ⟨g', ⟨l, s1 c h1, hcl hgg, fun T t1 t2 => s2 T t2 (h2 T t1 t2)⟩, ?_⟩
          rw [b_X9_partOf_7, if_pos (by rw [hgg])]
        · have := mv_sub_lt s1 hg l hgg
          exact ih g' g w1 _ (by omega) l (s1 c h1) (fun T t1 t2 => s2 T t2 (h2 T t1 t2)) hg hcl
  have h0 : mq_pc (2 ^ c) 25 ≤ 25 := mq_pc_le _ _
  refine L 26 (2 ^ c) 0 _ _ (by omega) (Nat.pow_lt_pow_right (by decide) hc) (mv_pow_bit.mpr rfl) (fun T t1 _ i hi => ?_) (by decide) (fun z => absurd z.symm (Nat.ne_of_gt (Nat.pow_pos (by decide))))
  rw [mv_pow_bit] at hi
  rw [← hi]
  exact t1
end MV27
