def mv_lQ (w : Nat → Nat → Nat) (D : Nat → Nat → Prop) (l : Nat) : Prop := (∀ i j, D i j → l ≤ w i j) ∧ ((l = 1000000 ∧ ∀ i j, ¬ D i j) ∨ ∃ i j, D i j ∧ l = w i j)
theorem mv_lQ.cg {w : Nat → Nat → Nat} {D D2 : Nat → Nat → Prop} {l : Nat} (h : mv_lQ w D l) (e : ∀ i j, D i j ↔ D2 i j) : mv_lQ w D2 l := by
  have : D = D2 := funext (fun i => funext (fun j => propext (e i j)))
  rw [← this]
  exact h
theorem mv_lQ.un {w : Nat → Nat → Nat} {D : Nat → Nat → Prop} {l l2 : Nat} (h : mv_lQ w D l) (h2 : mv_lQ w D l2) : l = l2 := by
  obtain ⟨a1, a2⟩ := h
  obtain ⟨b1, b2⟩ := h2
  rcases a2 with ⟨a2, a3⟩ | ⟨i, j, q, e⟩
  · rcases b2 with ⟨b2, b3⟩ | ⟨i, j, q, e⟩
    · omega
    · exact absurd q (a3 i j)
  · rcases b2 with ⟨b2, b3⟩ | ⟨i2, j2, q2, e2⟩
    · exact absurd q (b3 i j)
    · have := a1 i2 j2 q2
      have := b1 i j q
      omega
theorem mv_lQ.add {w : Nat → Nat → Nat} {D D2 : Nat → Nat → Prop} {l i j : Nat} (h : mv_lQ w D l) (hw : w i j ≤ 1000000) (e : ∀ a b, D2 a b ↔ D a b ∨ (a = i ∧ b = j)) : mv_lQ w D2 (if w i j < l then w i j else l) := by
  obtain ⟨a1, a2⟩ := h
  by_cases hl : w i j < l
  · rw [if_pos hl]
    refine ⟨fun a b q => ?_, Or.inr ⟨i, j, (e i j).mpr (Or.inr ⟨rfl, rfl⟩), rfl⟩⟩
    rcases (e a b).mp q with q | ⟨rfl, rfl⟩
    · have := a1 a b q
      omega
    · exact Nat.le_refl _
  · rw [if_neg hl]
    refine ⟨fun a b q => ?_, ?_⟩
    · rcases (e a b).mp q with q | ⟨rfl, rfl⟩
      · exact a1 a b q
      · omega
    · rcases a2 with ⟨a2, a3⟩ | ⟨i2, j2, q, e2⟩
      · exact Or.inr ⟨i, j, (e i j).mpr (Or.inr ⟨rfl, rfl⟩), by omega⟩
      · exact Or.inr ⟨i2, j2, (e i2 j2).mpr (Or.inl q), e2⟩
def mv_mw (mo : Nat → Option Nat) (i j : Nat) : Nat := mq_pc ((mo i).getD 0 ^^^ (mo j).getD 0) 25
def mv_mD (s : Nat) (i j : Nat) : Prop := i < j ∧ j < 8 ∧ s.testBit i = true ∧ s.testBit j = true
theorem mv_mw_c (mo : Nat → Option Nat) (i j : Nat) : mv_mw mo i j = mv_mw mo j i := by
  unfold mv_mw
  rw [Nat.xor_comm]
theorem mv_ls_min {a l : Nat} (ha : a ≤ 25) (hl : l ≤ 25 ∨ l = 1000000) : (if a < mv_ls l then a else mv_ls l) = mv_ls (if a < l then a else l) := by
  rcases hl with h | h
  · have e : mv_ls l = l := by unfold mv_ls; rw [if_neg (by omega)]
    rw [e]
    by_cases q : a < l
    · rw [if_pos q]; unfold mv_ls; rw [if_neg (by omega)]
    · rw [if_neg q, e]
  · have e : mv_ls l = 2147483647 := by unfold mv_ls; rw [if_pos h]
    rw [e, if_pos (by omega), if_pos (by omega)]
    unfold mv_ls
    rw [if_neg (by omega)]
section MV17
variable {sl d : Nat} {M : mj_M} {mo : Nat → Option Nat} {cs : mv_CS}
theorem mv_lQ.le {D : Nat → Nat → Prop} {l : Nat} (h : mv_lQ (mv_mw mo) D l) : l ≤ 25 ∨ l = 1000000 := by
  rcases h.2 with ⟨a, -⟩ | ⟨i, j, -, e⟩
  · exact Or.inr a
  · rw [e]
    exact Or.inl (mq_pc_le _ _)
theorem mv_gt_lt {i : Nat} (hw : mv_wM mo) : (mo i).getD 0 < 2 ^ 25 := by
  cases h : mo i with
  | none => decide
  | some g => exact hw i g h
theorem c_leastApart {s : Nat} (hcm : mv_cM M mo) (hw : mv_wM mo) (hs : s < 256) (ht : ∀ i, s.testBit i = true → (mo i).isSome = true) : ∃ l, mv_lQ (mv_mw mo) (mv_mD s) l ∧ mj_C sl (d + 2) i_X5_leastApart [.ref 1, .int (nI s)] M = some (nI (mv_ls l), M) := by
  have I : ∀ k, k < 8 → ∀ o, o ≤ 8 → k < o → ∀ l, mv_lQ (mv_mw mo) (fun i j => mv_mD s i j ∧ (i < k ∨ (i = k ∧ j < o))) l → ∃ l', mv_lQ (mv_mw mo) (fun i j => mv_mD s i j ∧ i < k + 1) l' ∧ mj_E sl (d + 1 + 1) i_X5_leastApart 16 [.ref 1, .int (nI s), .int (nI (mv_ls l)), .int (nI k), .int (nI o)] [] M = mj_E sl (d + 1 + 1) i_X5_leastApart 5 [.ref 1, .int (nI s), .int (nI (mv_ls l')), .int (nI (k + 1)), .int (nI 8)] [] M := by
    intro k hk
    refine mq_up ?_ ?_
    · intro _ l h
      refine ⟨l, h.cg (fun i j => ?_), ?_⟩
      · unfold mv_mD
        constructor
        · rintro ⟨h1, h2⟩
          exact ⟨h1, by omega⟩
        · rintro ⟨⟨h1, h2, h3⟩, h4⟩
          exact ⟨⟨h1, h2, h3⟩, by omega⟩
      · rw [b_X5_leastApart_16, if_neg (by decide), nI_1]
    · intro o ho ih hko l h
      have hb : ((nI s >>> (nI k &&& 31)) &&& (nI s >>> (nI o &&& 31))) &&& 1 = nI (if s.testBit k = true ∧ s.testBit o = true then 1 else 0) := by
        have q1 : s / 2 ^ k ≤ s := Nat.div_le_self _ _
        rw [mq_shr (by omega) (by omega), mq_shr (by omega) (by omega), mq_and, mq_and1 (Nat.lt_of_le_of_lt Nat.and_le_left (by omega))]
        congr 1
        have e := mq_bt_tb (s / 2 ^ k &&& s / 2 ^ o) 0
        unfold mq_bt at e
        rw [Nat.pow_zero, Nat.div_one] at e
        rw [e, Nat.testBit_and, Nat.testBit_div_two_pow, Nat.testBit_div_two_pow, Nat.zero_add, Nat.zero_add]
        simp only [Bool.and_eq_true]
      rw [b_X5_leastApart_16]
      simp (disch := omega) only [s_ltL, ho, if_true, hb, s_addL, s_in, s_cl]
      by_cases hd : s.testBit k = true ∧ s.testBit o = true
      · obtain ⟨g1, hg1⟩ := Option.isSome_iff_exists.mp (ht k hd.1)
        obtain ⟨g2, hg2⟩ := Option.isSome_iff_exists.mp (ht o hd.2)
        have l1 := hw k g1 hg1
        have l2 := hw o g2 hg2
        have l3 : g1 ^^^ g2 < 2 ^ 25 := Nat.xor_lt_two_pow l1 l2
        have ew : mv_mw mo k o = mq_pc (g1 ^^^ g2) 25 := by
          unfold mv_mw
          rw [hg1, hg2]
          rfl
        have hp := mq_pc_le (g1 ^^^ g2) 25
        have hle := h.le
        have hls : mv_ls l < 2 ^ 31 := by unfold mv_ls; split <;> omega
        rw [if_pos hd]
        simp (disch := omega) only [s_n11, if_true, hcm.2 k g1 hk hg1, hcm.2 o g2 ho hg2, c_gap, mq_pc25 l3, Option.bind_some, mj_mn, s_lt]
        have e2 : (if mq_pc (g1 ^^^ g2) 25 < mv_ls l then nI (mq_pc (g1 ^^^ g2) 25) else nI (mv_ls l)) = nI (mv_ls (if mv_mw mo k o < l then mv_mw mo k o else l)) := by
          rw [← mv_ls_min (by rw [ew]; exact hp) hle, ew]
          split <;> rfl
        rw [e2]
        refine ih (by omega) _ (h.add (by omega) (fun a b => ?_))
        unfold mv_mD
        constructor
        · rintro ⟨q1, q2⟩
          by_cases q3 : a = k ∧ b = o
          · exact Or.inr q3
          · exact Or.inl ⟨q1, by omega⟩
        · rintro (⟨q1, q2⟩ | ⟨rfl, rfl⟩)
          · exact ⟨q1, by omega⟩
          · exact ⟨⟨hko, ho, hd.1, hd.2⟩, by omega⟩
      · rw [if_neg hd]
        simp only [s_n01, if_false]
        refine ih (by omega) l (h.cg (fun a b => ?_))
        unfold mv_mD
        constructor
        · rintro ⟨q1, q2⟩
          exact ⟨q1, by omega⟩
        · rintro ⟨q1, q2⟩
          refine ⟨q1, ?_⟩
          by_cases q3 : a = k ∧ b = o
          · rw [q3.1, q3.2] at q1
            exact absurd ⟨q1.2.2.1, q1.2.2.2⟩ hd
          · omega
  rw [b_X5_leastApart]
  have L : ∀ k, k ≤ 8 → ∀ (w : Value) l, mv_lQ (mv_mw mo) (fun i j => mv_mD s i j ∧ i < k) l → ∃ l', mv_lQ (mv_mw mo) (mv_mD s) l' ∧ mj_E sl (d + 1 + 1) i_X5_leastApart 5 [.ref 1, .int (nI s), .int (nI (mv_ls l)), .int (nI k), w] [] M = some (nI (mv_ls l'), M) := by
    refine mq_up ?_ ?_
    · intro w l h
      refine ⟨l, h.cg (fun i j => ?_), by rw [b_X5_leastApart_5, if_neg (by decide)]⟩
      unfold mv_mD
      constructor
      · exact fun z => z.1
      · exact fun z => ⟨z, by omega⟩
    · intro k hk ih w l h
      rw [b_X5_leastApart_5]
      simp (disch := omega) only [s_ltL, hk, if_true, s_addL]
      obtain ⟨l', h1, e1⟩ := I k hk (k + 1) (by omega) (by omega) l (h.cg (fun i j => by
        unfold mv_mD
        constructor
        · rintro ⟨q1, q2⟩
          exact ⟨q1, by omega⟩
        · rintro ⟨q1, q2⟩
          exact ⟨q1, by omega⟩))
      obtain ⟨l2, h2, e2⟩ := ih (.int (nI 8)) l' h1
      exact ⟨l2, h2, e1.trans e2⟩
  have h0 := L 0 (by omega) .null 1000000 ⟨fun i j z => by omega, Or.inl ⟨rfl, fun i j z => by omega⟩⟩
  exact h0
theorem r_leastIn {s : Nat} (hm : mv_rM M mo) (hw : mv_wM mo) (hs : s < 256) (ht : ∀ i, s.testBit i = true → (mo i).isSome = true) : ∃ l, mv_lQ (mv_mw mo) (mv_mD s) l ∧ mj_C sl (d + 2) i_X9_leastIn [.ref 45, .int (nI s)] M = some (nI l, M) := by
  have I : ∀ k, k < 8 → ∀ o, o ≤ k → ∀ l, mv_lQ (mv_mw mo) (fun i j => mv_mD s i j ∧ (j < k ∨ (j = k ∧ i < o))) l → ∃ l', mv_lQ (mv_mw mo) (fun i j => mv_mD s i j ∧ j < k + 1) l' ∧ mj_E sl (d + 1 + 1) i_X9_leastIn 14 [.ref 45, .int (nI s), .int (nI l), .int (nI k), .int (nI o)] [] M = mj_E sl (d + 1 + 1) i_X9_leastIn 5 [.ref 45, .int (nI s), .int (nI l'), .int (nI (k + 1)), .int (nI k)] [] M := by
    intro k hk
    refine mq_up ?_ ?_
    · intro l h
      refine ⟨l, h.cg (fun i j => ?_), ?_⟩
      · unfold mv_mD
        constructor
        · rintro ⟨h1, h2⟩
          exact ⟨h1, by omega⟩
        · rintro ⟨⟨h1, h2, h3⟩, h4⟩
          exact ⟨⟨h1, h2, h3⟩, by omega⟩
      · rw [b_X9_leastIn_14]
        simp only [Int32.lt_irrefl, if_false, nI_1]
    · intro o ho ih l h
      have hno : ¬ (s.testBit k = true ∧ s.testBit o = true) → mv_lQ (mv_mw mo) (fun i j => mv_mD s i j ∧ (j < k ∨ (j = k ∧ i < o + 1))) l := fun hd => h.cg (fun a b => by
        unfold mv_mD
        constructor
        · rintro ⟨q1, q2⟩
          exact ⟨q1, by omega⟩
        · rintro ⟨q1, q2⟩
          refine ⟨q1, ?_⟩
          by_cases q3 : a = o ∧ b = k
          · rw [q3.1, q3.2] at q1
            exact absurd ⟨q1.2.2.2, q1.2.2.1⟩ hd
          · omega)
      rw [b_X9_leastIn_14]
      simp (disch := omega) only [s_lt, ho, if_true, b_X9_has, mq_bit, s_eqL, s_addL, s_in, s_cl]
      rw [mq_bt_tb, mq_bt_tb]
      cases hk1 : s.testBit k with
      | false =>
        simp only [Bool.false_eq_true, if_false, s_n01, if_true, Option.bind_some]
        exact ih l (hno (fun z => by rw [hk1] at z; cases z.1))
      | true =>
        simp only [if_true, s_n11, Option.bind_some, s_10, if_false]
        cases ho1 : s.testBit o with
        | false =>
          simp only [Bool.false_eq_true, if_false, s_n01, if_true, Option.bind_some]
          exact ih l (hno (fun z => by rw [ho1] at z; cases z.2))
        | true =>
          simp only [if_true, s_n11, Option.bind_some, s_10, if_false]
          obtain ⟨g1, hg1⟩ := Option.isSome_iff_exists.mp (ht k hk1)
          obtain ⟨g2, hg2⟩ := Option.isSome_iff_exists.mp (ht o ho1)
          have l1 := hw k g1 hg1
          have l2 := hw o g2 hg2
          have l3 : g1 ^^^ g2 < 2 ^ 25 := Nat.xor_lt_two_pow l1 l2
          have ew : mv_mw mo o k = mq_pc (g1 ^^^ g2) 25 := by
            rw [mv_mw_c]
            unfold mv_mw
            rw [hg1, hg2]
            rfl
          have hp := mq_pc_le (g1 ^^^ g2) 25
          have hle := h.le
          rw [hm k hk, hm o (by omega), hg1, hg2]
          show ∃ l', _ ∧ (mj_C sl (d + 1) i_X9_bits [.int (nI g1 ^^^ nI g2)] M).bind _ = _
          rw [mq_xor, r_bits (by omega)]
          simp (disch := omega) only [Option.bind_some, b_X9_min, s_lt]
          have e2 : (if l < mq_pc (g1 ^^^ g2) 25 then some (nI l, M) else some (nI (mq_pc (g1 ^^^ g2) 25), M)) = some (nI (if mv_mw mo o k < l then mv_mw mo o k else l), M) := by
            rw [ew]
            by_cases z : mq_pc (g1 ^^^ g2) 25 < l
            · rw [if_pos z, if_neg (by omega)]
            · rw [if_neg z]
              by_cases z2 : l < mq_pc (g1 ^^^ g2) 25
              · rw [if_pos z2]
              · rw [if_neg z2, show l = mq_pc (g1 ^^^ g2) 25 from by omega]
          rw [e2]
          simp only [Option.bind_some]
          refine ih _ (h.add (by omega) (fun a b => ?_))
          unfold mv_mD
          constructor
          · rintro ⟨q1, q2⟩
            by_cases q3 : a = o ∧ b = k
            · exact Or.inr q3
            · exact Or.inl ⟨q1, by omega⟩
          · rintro (⟨q1, q2⟩ | ⟨rfl, rfl⟩)
            · exact ⟨q1, by omega⟩
            · exact ⟨⟨ho, hk, ho1, hk1⟩, by omega⟩
  rw [b_X9_leastIn]
  have L : ∀ k, k ≤ 8 → ∀ (w : Value) l, mv_lQ (mv_mw mo) (fun i j => mv_mD s i j ∧ j < k) l → ∃ l', mv_lQ (mv_mw mo) (mv_mD s) l' ∧ mj_E sl (d + 1 + 1) i_X9_leastIn 5 [.ref 45, .int (nI s), .int (nI l), .int (nI k), w] [] M = some (nI l', M) := by
    refine mq_up ?_ ?_
    · intro w l h
      refine ⟨l, h.cg (fun i j => ?_), by rw [b_X9_leastIn_5, if_neg (by decide)]⟩
      unfold mv_mD
      constructor
      · exact fun z => z.1
      · exact fun z => ⟨z, z.2.1⟩
    · intro k hk ih w l h
      rw [b_X9_leastIn_5]
      simp (disch := omega) only [s_ltL, hk, if_true]
      obtain ⟨l', h1, e1⟩ := I k hk 0 (by omega) l (h.cg (fun i j => by
        unfold mv_mD
        constructor
        · rintro ⟨q1, q2⟩
          exact ⟨q1, by omega⟩
        · rintro ⟨q1, q2⟩
          exact ⟨q1, by omega⟩))
      obtain ⟨l2, h2, e2⟩ := ih (.int (nI k)) l' h1
      have e1' : mj_E sl (d + 1 + 1) 222 14 [.ref 45, .int (nI s), .int (nI l), .int (nI k), .int 0] [] M = mj_E sl (d + 1 + 1) i_X9_leastIn 5 [.ref 45, .int (nI s), .int (nI l'), .int (nI (k + 1)), .int (nI k)] [] M := e1
      exact ⟨l2, h2, e1'.trans e2⟩
  have h0 := L 0 (by omega) .null 1000000 ⟨fun i j z => by omega, Or.inl ⟨rfl, fun i j z => by omega⟩⟩
  exact h0
theorem mv_pc_step (t : Nat) : ∀ n k, k ≤ mq_pc t n → ∃ m, m ≤ n ∧ mq_pc t m = k
  | 0, k, h => ⟨0, Nat.le_refl _, by rw [mq_pc] at h ⊢; omega⟩
  | n + 1, k, h => by
    by_cases q : k ≤ mq_pc t n
    · obtain ⟨m, h1, h2⟩ := mv_pc_step t n k q
      exact ⟨m, by omega, h2⟩
    · refine ⟨n + 1, Nat.le_refl _, ?_⟩
      have hb := mq_bt_lt t n
      rw [mq_pc] at h ⊢
      omega
theorem mv_pc_low (t m : Nat) : ∀ n, n ≤ m → mq_pc (t % 2 ^ m) n = mq_pc t n
  | 0, _ => rfl
  | n + 1, h => by
    rw [mq_pc, mq_pc, mv_pc_low t m n (by omega), mq_bt_tb, mq_bt_tb, Nat.testBit_mod_two_pow]
    simp [show n < m from by omega]
theorem mv_ksub {t k : Nat} (ht : t < 256) (hk : k ≤ mq_pc t 8) : ∃ s, s < 256 ∧ mv_sub s t ∧ mq_pc s 8 = k := by
  obtain ⟨m, h1, h2⟩ := mv_pc_step t 8 k hk
  have hl : t % 2 ^ m < 2 ^ m := Nat.mod_lt _ (Nat.pow_pos (by decide))
  refine ⟨t % 2 ^ m, Nat.lt_of_le_of_lt (Nat.mod_le _ _) ht, fun i hi => ?_, ?_⟩
  · rw [Nat.testBit_mod_two_pow, Bool.and_eq_true] at hi
    exact hi.2
  · have := mq_pc_top hl (8 - m)
    rw [show m + (8 - m) = 8 from by omega] at this
    rw [this, mv_pc_low t m m (Nat.le_refl _), h2]
theorem mv_subE {s t : Nat} (hs : s < 2 ^ 32) : s &&& (t ^^^ 4294967295) = 0 ↔ mv_sub s t := by
  constructor
  · intro h i hi
    have hi32 := mv_lt_bit hs hi
    have e : (s &&& (t ^^^ 4294967295)).testBit i = false := by rw [h, Nat.zero_testBit]
    rw [Nat.testBit_and, hi, mv_not_bit hi32] at e
    cases q : t.testBit i with
    | true => rfl
    | false => rw [q] at e; cases e
  · intro h
    apply Nat.eq_of_testBit_eq
    intro i
    rw [Nat.testBit_and, Nat.zero_testBit]
    cases q : s.testBit i with
    | false => rfl
    | true =>
      rw [mv_not_bit (mv_lt_bit hs q), h i q]
      rfl
theorem mv_2bits {s : Nat} : ∀ n, 2 ≤ mq_pc s n → ∃ i j, i < j ∧ j < n ∧ s.testBit i = true ∧ s.testBit j = true := by
  have one : ∀ n, 1 ≤ mq_pc s n → ∃ i, i < n ∧ s.testBit i = true := by
    intro n
    induction n with
    | zero => intro h; rw [mq_pc] at h; omega
    | succ n ih =>
      intro h
      rw [mq_pc, mq_bt_tb] at h
      cases q : s.testBit n with
      | true => exact ⟨n, by omega, q⟩
      | false =>
        rw [q] at h
        obtain ⟨i, h1, h2⟩ := ih (by simpa using h)
        exact ⟨i, by omega, h2⟩
  intro n
  induction n with
  | zero => intro h; rw [mq_pc] at h; omega
  | succ n ih =>
    intro h
    rw [mq_pc, mq_bt_tb] at h
    cases q : s.testBit n with
    | true =>
      rw [q] at h
      obtain ⟨i, h1, h2⟩ := one n (by simp at h; omega)
      exact ⟨i, n, h1, by omega, h2, q⟩
    | false =>
      rw [q] at h
      obtain ⟨i, j, h1, h2, h3⟩ := ih (by simpa using h)
      exact ⟨i, j, h1, by omega, h3⟩
theorem p_toldApart {x y : Int32} (B : mv_B M mo cs) : ∃ v, mj_C sl (d + 3) i_X8_toldApart [.ref 0, .int x, .int y] M = some (v, M) ∧ mj_C sl (d + 3) i_X9_toldApart [.ref 45, .int x, .int y] M = some (v, M) := by
  obtain ⟨hm, hcm, hw, hr, hcc, hwc⟩ := id B
  rw [b_X8_toldApart, b_X9_toldApart]
  simp only [r_in, Option.bind_some]
  by_cases x0 : x < 2
  · simp only [x0, if_true]
    exact ⟨_, rfl, rfl⟩
  by_cases x1 : x ≤ 8
  · by_cases y0 : y < 0
    · simp only [x0, x1, y0, if_true, if_false, s_10]
      exact ⟨_, rfl, rfl⟩
    by_cases y1 : y ≤ 1
    · simp only [x0, x1, y0, y1, if_true, if_false, s_10]
      have hx0 : ¬ x < 0 := fun z => x0 (Int32.lt_trans z (by decide))
      obtain ⟨k, hk8, rfl⟩ := nI_of2 (n := 8) (by decide) hx0 x1
      have hk2 : 2 ≤ k := by
        rw [s_ltL (by omega) (by decide)] at x0
        omega
      have hl := mv_bits_lt (fun k => (mo k).isSome) 8
      have ht0 : mq_pc (mv_bits (fun k => (mo k).isSome) 8) 32 = mq_pc (mv_bits (fun k => (mo k).isSome) 8) 8 := mq_pc_top hl 24
      have hp := mq_pc_le (mv_bits (fun k => (mo k).isSome) 8) 8
      rw [hcm.1, c_bitCount (by omega), ht0]
      simp (disch := omega) only [Option.bind_some, s_lt]
      have hsub : ∀ s, s < 256 → ((nI s &&& (nI (mv_bits (fun k => (mo k).isSome) 8) ^^^ (-1)) = 0) ↔ mv_sub s (mv_bits (fun k => (mo k).isSome) 8)) := fun s hs => by
        rw [mq_m1, mq_xor, mq_and, s_eqL (Nat.lt_of_le_of_lt Nat.and_le_left (by omega)) (by decide)]
        exact mv_subE (by omega)
      have hpc : ∀ s, s < 256 → mq_pc s 32 = mq_pc s 8 ∧ mq_pc s 25 = mq_pc s 8 := fun s hs => ⟨mq_pc_top (n := 8) hs 24, mq_pc_top (n := 8) hs 17⟩
      have hsome : ∀ s, mv_sub s (mv_bits (fun k => (mo k).isSome) 8) → ∀ i, s.testBit i = true → (mo i).isSome = true := fun s h i hi => by
        have q := h i hi
        have hi8 := mv_lt_bit hl q
        rw [mv_bits_tb _ hi8] at q
        exact q
      by_cases hb : mq_pc (mv_bits (fun k => (mo k).isSome) 8) 8 < k
      · rw [if_pos hb]
        have L : ∀ s, s ≤ 256 → mj_E sl (d + 2 + 1) i_X9_toldApart 31 [.ref 45, .int (nI k), .int y, .int (-2), .int (-2), .int (nI s)] [] M = some (-2, M) := by
          refine mq_up ?_ ?_
          · rw [b_X9_toldApart_31, if_neg (by decide)]
            split <;> rfl
          · intro s hs ih
            obtain ⟨p1, p2⟩ := hpc s hs
            have p3 := mq_pc_le s 8
            rw [b_X9_toldApart_31]
            simp (disch := omega) only [s_ltL, hs, if_true, r_modelSet hm hw, Option.bind_some, r_bits, p2, s_eq, s_addL]
            by_cases hss : mv_sub s (mv_bits (fun k => (mo k).isSome) 8)
            · have := mv_sub_pc hss 8
              rw [if_pos ((hsub s hs).mpr hss), if_neg (by omega)]
              exact ih
            · rw [if_neg (fun z => hss ((hsub s hs).mp z))]
              exact ih
        exact ⟨_, rfl, L 1 (by omega)⟩
      · rw [if_neg hb]
        have L : ∀ s, s ≤ 256 → ∀ (a b c e : Int32) (w : Value), ((a = -1 ∧ b = -1 ∧ c = -2 ∧ e = -2 ∧ ∀ q, q < s → mv_sub q (mv_bits (fun k => (mo k).isSome) 8) → ¬ mq_pc q 8 = k) ∨ (a = c ∧ b = e ∧ ¬ b < 0)) → ∃ v, mj_E sl (d + 2 + 1) i_X8_toldApart 47 [.ref 0, .int (nI k), .int y, .int a, .int b, .int (nI s), w] [] M = some (v, M) ∧ mj_E sl (d + 2 + 1) i_X9_toldApart 31 [.ref 45, .int (nI k), .int y, .int c, .int e, .int (nI s)] [] M = some (v, M) := by
          refine mq_up ?_ ?_
          · intro a b c e w h
            rcases h with ⟨-, -, -, -, h⟩ | ⟨rfl, rfl, -⟩
            · obtain ⟨q, q1, q2, q3⟩ := mv_ksub (k := k) hl (by omega)
              exact absurd q3 (h q q1 q2)
            · have z : ¬ nI 256 < 256 := by decide
              rw [b_X8_toldApart_47, b_X9_toldApart_31]
              simp only [z, if_false]
              by_cases e0 : y = 0
              · simp only [e0, if_true]
                exact ⟨_, rfl, rfl⟩
              · simp only [e0, if_false]
                exact ⟨_, rfl, rfl⟩
          · intro s hs ih a b c e w h
            obtain ⟨p1, p2⟩ := hpc s hs
            have p3 := mq_pc_le s 8
            rw [b_X8_toldApart_47, b_X9_toldApart_31]
            simp (disch := omega) only [s_ltL, hs, if_true, hcm.1, r_modelSet hm hw, Option.bind_some, c_bitCount, r_bits, p1, p2, s_eq, s_addL]
            have skip : (mv_sub s (mv_bits (fun k => (mo k).isSome) 8) → ¬ mq_pc s 8 = k) → ((a = -1 ∧ b = -1 ∧ c = -2 ∧ e = -2 ∧ ∀ q, q < s + 1 → mv_sub q (mv_bits (fun k => (mo k).isSome) 8) → ¬ mq_pc q 8 = k) ∨ (a = c ∧ b = e ∧ ¬ b < 0)) := fun hn => h.imp (fun z => ⟨z.1, z.2.1, z.2.2.1, z.2.2.2.1, fun q hq hqs => by
              by_cases qs : q = s
              · rw [qs] at hqs ⊢
                exact hn hqs
              · exact z.2.2.2.2 q (by omega) hqs⟩) id
            by_cases hss : mv_sub s (mv_bits (fun k => (mo k).isSome) 8)
            · by_cases hpk : mq_pc s 8 = k
              · obtain ⟨l, hl1, el⟩ := c_leastApart (sl := sl) (d := d) (M := M) hcm hw hs (hsome s hss)
                obtain ⟨l2, hl2, el2⟩ := r_leastIn (sl := sl) (d := d) (M := M) hm hw hs (hsome s hss)
                have es := hl1.un hl2
                subst es
                obtain ⟨i, j, b1, b2, b3, b4⟩ := mv_2bits (s := s) 8 (by omega)
                have hl25 : l ≤ 25 := by
                  rcases hl1.2 with ⟨-, q⟩ | ⟨i2, j2, -, q⟩
                  · exact absurd ⟨b1, b2, b3, b4⟩ (q i j)
                  · rw [q]; exact mq_pc_le _ _
                have els : mv_ls l = l := by unfold mv_ls; rw [if_neg (by omega)]
                simp only [(hsub s hs).mpr hss, hpk, if_true, el, el2, els, Option.bind_some]
                have pos : ¬ nI l < 0 := nI_pos (by omega)
                have new : ∃ v, mj_E sl (d + 2 + 1) i_X8_toldApart 47 [.ref 0, .int (nI k), .int y, .int (nI s), .int (nI l), .int (nI (s + 1)), .int (nI l)] [] M = some (v, M) ∧ mj_E sl (d + 2 + 1) i_X9_toldApart 31 [.ref 45, .int (nI k), .int y, .int (nI s), .int (nI l), .int (nI (s + 1))] [] M = some (v, M) := ih _ _ _ _ _ (Or.inr ⟨rfl, rfl, pos⟩)
                rcases h with ⟨h1, h2, h3, h4, -⟩ | ⟨rfl, rfl, h3⟩
                · have n1 : ¬ nI l ≤ b := fun z => pos (Int32.lt_of_le_of_lt z (by rw [h2]; decide))
                  have n2 : ¬ nI l ≤ e := fun z => pos (Int32.lt_of_le_of_lt z (by rw [h4]; decide))
                  simp only [n1, n2, if_false]
                  exact new
                · by_cases n1 : nI l ≤ b
                  · simp only [n1, if_true]
                    exact ih _ _ _ _ _ (Or.inr ⟨rfl, rfl, h3⟩)
                  · simp only [n1, if_false]
                    exact new
              · simp only [(hsub s hs).mpr hss, hpk, if_true, if_false]
                exact ih _ _ _ _ _ (skip (fun _ => hpk))
            · have hs1 : ¬ (nI s &&& (nI (mv_bits (fun k => (mo k).isSome) 8) ^^^ (-1)) = 0) := fun z => hss ((hsub s hs).mp z)
              simp only [hs1, if_false]
              exact ih _ _ _ _ _ (skip (fun z => absurd z hss))
        refine L 1 (by omega) (-1) (-1) (-2) (-2) .null (Or.inl ⟨rfl, rfl, rfl, rfl, fun q hq _ => ?_⟩)
        have : q = 0 := by omega
        rw [this, show mq_pc 0 8 = 0 from by decide]
        omega
    · simp only [x0, x1, y0, y1, if_true, if_false, s_10]
      exact ⟨_, rfl, rfl⟩
  · simp only [x0, x1, if_true, if_false]
    exact ⟨_, rfl, rfl⟩
end MV17
