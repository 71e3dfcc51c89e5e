theorem mv_pc_xor (a b : Nat) : ∀ n, mq_pc (a ^^^ b) n ≤ mq_pc a n + mq_pc b n
  | 0 => Nat.zero_le _
  | n + 1 => by
    have ih := mv_pc_xor a b n
    rw [mq_pc, mq_pc, mq_pc, mq_bt_tb, mq_bt_tb, mq_bt_tb, Nat.testBit_xor]
    cases a.testBit n <;> cases b.testBit n <;> simp <;> omega
theorem mv_pc_add {a k : Nat} (h : a < 2 ^ k) : ∀ n, mq_pc (a + 2 ^ k) n = mq_pc a n + (if k < n then 1 else 0)
  | 0 => rfl
  | n + 1 => by
    rw [mq_pc, mq_pc, mv_pc_add h n, mq_bt_tb, mq_bt_tb, ← mv_or_pow h, Nat.testBit_or, Nat.testBit_two_pow]
    by_cases q : k = n
    · subst q
      have : a.testBit k = false := Nat.testBit_lt_two_pow h
      simp [this]
    · have : decide (k = n) = false := by simp [q]
      rw [this, Bool.or_false]
      by_cases z : k < n
      · rw [if_pos z, if_pos (show k < n + 1 by omega)]; omega
      · rw [if_neg z, if_neg (show ¬ k < n + 1 by omega)]; omega
theorem mv_top : ∀ (n t : Nat), t ≠ 0 → t < 2 ^ n → ∃ k r, k < n ∧ r < 2 ^ k ∧ t = r + 2 ^ k
  | 0, t, h, ht => by rw [Nat.pow_zero] at ht; omega
  | n + 1, t, h, ht => by
    by_cases q : t < 2 ^ n
    · obtain ⟨k, r, a, b, c⟩ := mv_top n t h q
      exact ⟨k, r, by omega, b, c⟩
    · rw [Nat.pow_succ] at ht
      exact ⟨n, t - 2 ^ n, by omega, by omega, by omega⟩
theorem mv_pcS {t n m : Nat} (hn : n ≤ 25) (ht : t < 2 ^ n) (h : mq_pc t 25 = m + 1) : ∃ a r, a < n ∧ r < 2 ^ a ∧ t = r + 2 ^ a ∧ mq_pc r 25 = m := by
  have h0 : t ≠ 0 := fun z => by
    rw [z] at h
    have : mq_pc 0 25 = 0 := by decide
    omega
  obtain ⟨a, r, h1, h2, h3⟩ := mv_top n t h0 ht
  refine ⟨a, r, h1, h2, h3, ?_⟩
  rw [h3, mv_pc_add h2, if_pos (by omega)] at h
  omega
theorem mv_pc0 {t n : Nat} (hn : n ≤ 25) (ht : t < 2 ^ n) (h : mq_pc t 25 = 0) : t = 0 := by
  by_cases h0 : t = 0
  · exact h0
  · obtain ⟨a, r, h1, h2, h3⟩ := mv_top n t h0 ht
    rw [h3, mv_pc_add h2, if_pos (by omega)] at h
    omega
theorem mv_pw {a b : Nat} (h : b < a) : 2 ^ b * 2 ≤ 2 ^ a ∧ 0 < 2 ^ b := by
  have := Nat.pow_le_pow_right (show 0 < 2 by decide) (show b + 1 ≤ a from h)
  rw [Nat.pow_succ] at this
  exact ⟨this, Nat.pow_pos (by decide)⟩
def mv_bst (W V : Nat → Prop) (m s : Nat) : Prop := (m = 4 ∧ ∀ t, V t → ¬ W t) ∨ (m ≤ 3 ∧ s < 2 ^ 25 ∧ W s ∧ mq_pc s 25 = m ∧ ∀ t, V t → W t → m < mq_pc t 25 ∨ (m = mq_pc t 25 ∧ s ≤ t))
theorem mv_bst.le {W V : Nat → Prop} {m s : Nat} (h : mv_bst W V m s) : m ≤ 4 := by
  rcases h with ⟨h, -⟩ | ⟨h, -⟩ <;> omega
theorem mv_bst.kp {W V : Nat → Prop} {m s t : Nat} (h : mv_bst W V m s) (ht : W t → m ≤ 3 ∧ (m < mq_pc t 25 ∨ (m = mq_pc t 25 ∧ s ≤ t))) : mv_bst W (fun q => V q ∨ q = t) m s := by
  rcases h with ⟨h1, h2⟩ | ⟨h1, h2, h3, h4, h5⟩
  · refine Or.inl ⟨h1, fun q hq hw => ?_⟩
    rcases hq with hq | hq
    · exact h2 q hq hw
    · rw [hq] at hw
      have := (ht hw).1
      omega
  · refine Or.inr ⟨h1, h2, h3, h4, fun q hq hw => ?_⟩
    rcases hq with hq | hq
    · exact h5 q hq hw
    · rw [hq] at hw ⊢
      exact (ht hw).2
theorem mv_bst.nw {W V : Nat → Prop} {m s t : Nat} (h : mv_bst W V m s) (hw : W t) (ht : t < 2 ^ 25) (h3 : mq_pc t 25 ≤ 3) (hl : mq_pc t 25 < m ∨ (mq_pc t 25 = m ∧ t ≤ s)) : mv_bst W (fun q => V q ∨ q = t) (mq_pc t 25) t := by
  refine Or.inr ⟨h3, ht, hw, rfl, fun q hq hwq => ?_⟩
  rcases hq with hq | hq
  · rcases h with ⟨h1, h2⟩ | ⟨h1, h2, h3, h4, h5⟩
    · exact absurd hwq (h2 q hq)
    · have := h5 q hq hwq
      omega
  · rw [hq]
    exact Or.inr ⟨rfl, Nat.le_refl _⟩
theorem mv_bst.un {W V V2 : Nat → Prop} {m s m2 s2 : Nat} (h : mv_bst W V m s) (h2 : mv_bst W V2 m2 s2) (hv : ∀ t, t < 2 ^ 25 → mq_pc t 25 ≤ 3 → V t) (hv2 : ∀ t, t < 2 ^ 25 → mq_pc t 25 ≤ 3 → V2 t) : m = m2 ∧ (m ≤ 3 → s = s2) := by
  rcases h with ⟨a1, a2⟩ | ⟨a1, a2, a3, a4, a5⟩ <;> rcases h2 with ⟨b1, b2⟩ | ⟨b1, b2, b3, b4, b5⟩
  · exact ⟨by omega, fun z => by omega⟩
  · exact absurd b3 (a2 s2 (hv s2 b2 (by omega)))
  · exact absurd a3 (b2 s (hv2 s a2 (by omega)))
  · have p := a5 s2 (hv s2 b2 (by omega)) b3
    have q := b5 s (hv2 s a2 (by omega)) a3
    exact ⟨by omega, fun _ => by omega⟩
def mv_Q4 (a k : Nat) : Prop := a = 45 ∧ (k = 41 ∨ k = 42)
def mv_ri (M0 M : mj_M) (W V : Nat → Prop) (m s : Nat) : Prop := mv_fr mv_Q4 M0 M ∧ M 45 42 = nI m ∧ (m ≤ 3 → M 45 41 = nI s) ∧ mv_bst W V m s
section MV22
variable {sl d : Nat} {M : mj_M} {mo : Nat → Option Nat} {cs : mv_CS}
theorem mv_rdN {k : Nat} {x : Int32} (hk : k < 8) (h : x = -2 ∨ ∃ j, j < 8 ∧ x = nI j) : x = nI k ∨ ¬ x = nI k := by
  by_cases q : x = nI k
  · exact Or.inl q
  · exact Or.inr q
theorem r_mayBe {M0 : mj_M} {g k t m s : Nat} {V : Nat → Prop} (hm : mv_rM M0 mo) (hw : mv_wM mo) (hg : g < 2 ^ 25) (ht : t < 2 ^ 25) (h3 : mq_pc t 25 ≤ 3) (I : mv_ri M0 M (fun t => mv_rd mo (g ^^^ t) = nI k) V m s) : ∃ M' m' s', mj_C sl (d + 3) i_X9_mayBe [.ref 45, .int (nI g), .int (nI k), .int (nI t)] M = some (0, M') ∧ mv_ri M0 M' (fun t => mv_rd mo (g ^^^ t) = nI k) (fun q => V q ∨ q = t) m' s' := by
  obtain ⟨f, e1, e2, b⟩ := I
  have hb := b.le
  have hm' := hm.fr f (fun k z => by unfold mv_Q4 at z; omega)
  have hx : g ^^^ t < 2 ^ 25 := Nat.xor_lt_two_pow hg ht
  rw [b_X9_mayBe, r_bits (by omega)]
  simp (disch := omega) only [Option.bind_some, e1, s_le, s_eq, mq_xor, r_readsAs hm' hw hx]
  have new : mv_rd mo (g ^^^ t) = nI k → (mq_pc t 25 < m ∨ (mq_pc t 25 = m ∧ t ≤ s)) → mv_ri M0 (mj_st (mj_st M 45 42 (nI (mq_pc t 25))) 45 41 (nI t)) (fun t => mv_rd mo (g ^^^ t) = nI k) (fun q => V q ∨ q = t) (mq_pc t 25) t := fun hwt hl => ⟨(f.st ⟨rfl, Or.inr rfl⟩).st ⟨rfl, Or.inl rfl⟩, by rw [mq_st_ne (by omega), mq_st_eq], fun _ => by rw [mq_st_eq], b.nw hwt ht h3 hl⟩
  have old : (mv_rd mo (g ^^^ t) = nI k → m ≤ 3 ∧ (m < mq_pc t 25 ∨ (m = mq_pc t 25 ∧ s ≤ t))) → mv_ri M0 M (fun t => mv_rd mo (g ^^^ t) = nI k) (fun q => V q ∨ q = t) m s := fun h => ⟨f, e1, e2, b.kp h⟩
  by_cases c1 : mq_pc t 25 ≤ m
  · rw [if_pos c1]
    by_cases c2 : mq_pc t 25 = m
    · have hs : s < 2 ^ 25 := by
        rcases b with ⟨b1, -⟩ | ⟨-, b2, -⟩
        · omega
        · exact b2
      rw [if_pos c2, e2 (by omega)]
      simp (disch := omega) only [s_lt]
      by_cases c3 : t < s
      · rw [if_pos c3]
        by_cases c4 : mv_rd mo (g ^^^ t) = nI k
        · rw [if_pos c4]
          exact ⟨_, _, _, rfl, new c4 (Or.inr ⟨c2, by omega⟩)⟩
        · rw [if_neg c4]
          exact ⟨_, _, _, rfl, old (fun z => absurd z c4)⟩
      · rw [if_neg c3]
        exact ⟨_, _, _, rfl, old (fun _ => ⟨by omega, Or.inr ⟨c2.symm, by omega⟩⟩)⟩
    · rw [if_neg c2]
      by_cases c4 : mv_rd mo (g ^^^ t) = nI k
      · rw [if_pos c4]
        exact ⟨_, _, _, rfl, new c4 (Or.inl (by omega))⟩
      · rw [if_neg c4]
        exact ⟨_, _, _, rfl, old (fun z => absurd z c4)⟩
  · rw [if_neg c1]
    exact ⟨_, _, _, rfl, old (fun _ => ⟨by omega, Or.inl (by omega)⟩)⟩
theorem mv_t2 {a b : Nat} (h : b < a) : 2 ^ a ||| 2 ^ b = 2 ^ b + 2 ^ a := by
  rw [Nat.or_comm]
  exact mv_or_pow (Nat.pow_lt_pow_right (by decide) h)
theorem mv_t3 {a b c : Nat} (h : b < a) (h2 : c < b) : 2 ^ a ||| 2 ^ b ||| 2 ^ c = (2 ^ c + 2 ^ b) + 2 ^ a := by
  have p1 := mv_pw h
  have p2 := mv_pw h2
  rw [Nat.or_assoc, mv_t2 h2, Nat.or_comm]
  exact mv_or_pow (by omega)
theorem mv_t2p {a b : Nat} (h : b < a) (ha : a < 25) : 2 ^ b + 2 ^ a < 2 ^ 25 ∧ mq_pc (2 ^ b + 2 ^ a) 25 = 2 := by
  have p1 := mv_pw h
  have p2 := mv_pw ha
  refine ⟨by omega, ?_⟩
  have q := mv_pc_add (a := 0) (k := b) (Nat.pow_pos (by decide)) 25
  rw [Nat.zero_add, if_pos (by omega)] at q
  rw [mv_pc_add (by omega), q, if_pos ha]
  rfl
theorem mv_t1p {a : Nat} (ha : a < 25) : 2 ^ a < 2 ^ 25 ∧ mq_pc (2 ^ a) 25 = 1 := by
  have p2 := mv_pw ha
  refine ⟨by omega, ?_⟩
  have q := mv_pc_add (a := 0) (k := a) (Nat.pow_pos (by decide)) 25
  rw [Nat.zero_add, if_pos (by omega)] at q
  rw [q]
  rfl
theorem mv_t3p {a b c : Nat} (h : b < a) (h2 : c < b) (ha : a < 25) : (2 ^ c + 2 ^ b) + 2 ^ a < 2 ^ 25 ∧ mq_pc ((2 ^ c + 2 ^ b) + 2 ^ a) 25 = 3 := by
  have p1 := mv_pw h
  have p2 := mv_pw ha
  have p3 := mv_pw h2
  refine ⟨by omega, ?_⟩
  rw [mv_pc_add (by omega), (mv_t2p h2 (by omega)).2, if_pos ha]
theorem r_anotherL {M0 : mj_M} {g k : Nat} {y : Int32} (hm : mv_rM M0 mo) (hw : mv_wM mo) (hg : g < 2 ^ 25) : ∀ a, a ≤ 25 → ∀ (M : mj_M) (V : Nat → Prop) (m s : Nat) (w5 w6 : Value), mv_ri M0 M (fun t => mv_rd mo (g ^^^ t) = nI k) V m s → ∃ M' V' m' s' w5' w6', mj_E sl (d + 3 + 1) i_X9_another 41 [.ref 45, .int (nI g), .int (nI k), .int y, .int (nI a), w5, w6] [] M = mj_E sl (d + 3 + 1) i_X9_another 41 [.ref 45, .int (nI g), .int (nI k), .int y, .int (nI 25), w5', w6'] [] M' ∧ mv_ri M0 M' (fun t => mv_rd mo (g ^^^ t) = nI k) V' m' s' ∧ (∀ q, V q → V' q) ∧ ∀ a', a ≤ a' → a' < 25 → V' (2 ^ a') ∧ ∀ b', b' < a' → V' (2 ^ b' + 2 ^ a') ∧ ∀ c', c' < b' → V' ((2 ^ c' + 2 ^ b') + 2 ^ a') := by
  have I3 : ∀ a b, a < 25 → b < a → ∀ c, c ≤ b → ∀ (M : mj_M) (V : Nat → Prop) (m s : Nat), mv_ri M0 M (fun t => mv_rd mo (g ^^^ t) = nI k) V m s → ∃ M' V' m' s', mj_E sl (d + 3 + 1) i_X9_another 86 [.ref 45, .int (nI g), .int (nI k), .int y, .int (nI a), .int (nI b), .int (nI c)] [] M = mj_E sl (d + 3 + 1) i_X9_another 61 [.ref 45, .int (nI g), .int (nI k), .int y, .int (nI a), .int (nI (b + 1)), .int (nI b)] [] M' ∧ mv_ri M0 M' (fun t => mv_rd mo (g ^^^ t) = nI k) V' m' s' ∧ (∀ q, V q → V' q) ∧ ∀ c', c ≤ c' → c' < b → V' ((2 ^ c' + 2 ^ b) + 2 ^ a) := by
    intro a b ha hb
    refine mq_up ?_ ?_
    · intro M V m s I
      refine ⟨M, V, m, s, ?_, I, fun q h => h, fun c' h1 h2 => by omega⟩
      rw [b_X9_another_86]
      simp only [Int32.lt_irrefl, if_false, nI_1]
    · intro c hc ih M V m s I
      obtain ⟨t1, t2⟩ := mv_t3p hb hc ha
      obtain ⟨M1, m1, s1, e1, I1⟩ := r_mayBe (sl := sl) (d := d) hm hw hg t1 (by omega) I
      obtain ⟨M2, V2, m2, s2, e2, I2, v1, v2⟩ := ih M1 _ m1 s1 I1
      refine ⟨M2, V2, m2, s2, ?_, I2, fun q h => v1 q (Or.inl h), fun c' h1 h2 => ?_⟩
      · rw [b_X9_another_86]
        simp (disch := omega) only [s_lt, hc, if_true, mq_one, mq_or, mv_t3 hb hc, e1, Option.bind_some, s_addL]
        exact e2
      · by_cases q : c' = c
        · rw [q]; exact v1 _ (Or.inr rfl)
        · exact v2 c' (by omega) h2
  have I2 : ∀ a, a < 25 → ∀ b, b ≤ a → ∀ (M : mj_M) (V : Nat → Prop) (m s : Nat) (w6 : Value), mv_ri M0 M (fun t => mv_rd mo (g ^^^ t) = nI k) V m s → ∃ M' V' m' s' w6', mj_E sl (d + 3 + 1) i_X9_another 61 [.ref 45, .int (nI g), .int (nI k), .int y, .int (nI a), .int (nI b), w6] [] M = mj_E sl (d + 3 + 1) i_X9_another 41 [.ref 45, .int (nI g), .int (nI k), .int y, .int (nI (a + 1)), .int (nI a), w6'] [] M' ∧ mv_ri M0 M' (fun t => mv_rd mo (g ^^^ t) = nI k) V' m' s' ∧ (∀ q, V q → V' q) ∧ ∀ b', b ≤ b' → b' < a → V' (2 ^ b' + 2 ^ a) ∧ ∀ c', c' < b' → V' ((2 ^ c' + 2 ^ b') + 2 ^ a) := by
    intro a ha
    refine mq_up ?_ ?_
    · intro M V m s w6 I
      refine ⟨M, V, m, s, w6, ?_, I, fun q h => h, fun c' h1 h2 => by omega⟩
      rw [b_X9_another_61]
      simp only [Int32.lt_irrefl, if_false, nI_1]
    · intro b hb ih M V m s w6 I
      obtain ⟨t1, t2⟩ := mv_t2p hb ha
      obtain ⟨M1, m1, s1, e1, I1⟩ := r_mayBe (sl := sl) (d := d) hm hw hg t1 (by omega) I
      obtain ⟨M2, V2, m2, s2, e2, I2, v1, v2⟩ := I3 a b ha hb 0 (by omega) M1 _ m1 s1 I1
      obtain ⟨M3, V3, m3, s3, w6', e3, I3, v3, v4⟩ := ih M2 V2 m2 s2 (.int (nI b)) I2
      refine ⟨M3, V3, m3, s3, w6', ?_, I3, fun q h => v3 q (v1 q (Or.inl h)), fun b' h1 h2 => ?_⟩
      · rw [b_X9_another_61]
        simp (disch := omega) only [s_lt, hb, if_true, mq_one, mq_or, mv_t2 hb, e1, Option.bind_some]
        exact e2.trans e3
      · by_cases q : b' = b
        · rw [q]
          exact ⟨v3 _ (v1 _ (Or.inr rfl)), fun c' hc => v3 _ (v2 c' (by omega) hc)⟩
        · exact v4 b' (by omega) h2
  refine mq_up ?_ ?_
  · intro M V m s w5 w6 I
    exact ⟨M, V, m, s, w5, w6, rfl, I, fun q h => h, fun a' h1 h2 => by omega⟩
  · intro a ha ih M V m s w5 w6 I
    obtain ⟨t1, t2⟩ := mv_t1p ha
    obtain ⟨M1, m1, s1, e1, I1⟩ := r_mayBe (sl := sl) (d := d) hm hw hg t1 (by omega) I
    obtain ⟨M2, V2, m2, s2, w6', e2, I2, v1, v2⟩ := I2 a ha 0 (by omega) M1 _ m1 s1 w6 I1
    obtain ⟨M3, V3, m3, s3, u5, u6, e3, I3, v3, v4⟩ := ih M2 V2 m2 s2 (.int (nI a)) w6' I2
    refine ⟨M3, V3, m3, s3, u5, u6, ?_, I3, fun q h => v3 q (v1 q (Or.inl h)), fun a' h1 h2 => ?_⟩
    · rw [b_X9_another_41]
      simp (disch := omega) only [s_ltL, ha, if_true, mq_one, e1, Option.bind_some]
      exact e2.trans e3
    · by_cases q : a' = a
      · rw [q]
        exact ⟨v3 _ (v1 _ (Or.inr rfl)), fun b' hb => ⟨v3 _ (v2 b' (by omega) hb).1, fun c' hc => v3 _ ((v2 b' (by omega) hb).2 c' hc)⟩⟩
      · exact v4 a' (by omega) h2
theorem mv_all3 {V : Nat → Prop} (h0 : V 0) (h : ∀ a', a' < 25 → V (2 ^ a') ∧ ∀ b', b' < a' → V (2 ^ b' + 2 ^ a') ∧ ∀ c', c' < b' → V ((2 ^ c' + 2 ^ b') + 2 ^ a')) : ∀ t, t < 2 ^ 25 → mq_pc t 25 ≤ 3 → V t := by
  intro t ht h3
  by_cases p0 : mq_pc t 25 = 0
  · rw [mv_pc0 (Nat.le_refl _) ht p0]; exact h0
  obtain ⟨a, r, a1, a2, a3, a4⟩ := mv_pcS (m := mq_pc t 25 - 1) (Nat.le_refl _) ht (by omega)
  by_cases p1 : mq_pc t 25 = 1
  · have : r = 0 := mv_pc0 (show a ≤ 25 by omega) a2 (by omega)
    rw [a3, this, Nat.zero_add]
    exact (h a a1).1
  obtain ⟨b, r2, b1, b2, b3, b4⟩ := mv_pcS (m := mq_pc t 25 - 2) (show a ≤ 25 by omega) a2 (by omega)
  by_cases p2 : mq_pc t 25 = 2
  · have : r2 = 0 := mv_pc0 (show b ≤ 25 by omega) b2 (by omega)
    rw [a3, b3, this, Nat.zero_add]
    exact ((h a a1).2 b b1).1
  obtain ⟨c, r3, c1, c2, c3, c4⟩ := mv_pcS (m := mq_pc t 25 - 3) (show b ≤ 25 by omega) b2 (by omega)
  have : r3 = 0 := mv_pc0 (show c ≤ 25 by omega) c2 (by omega)
  rw [a3, b3, c3, this, Nat.zero_add]
  exact ((h a a1).2 b b1).2 c c1
theorem r_another {g k : Nat} {y : Int32} (hm : mv_rM M mo) (hw : mv_wM mo) (hg : g < 2 ^ 25) (hk : k < 8) (hk2 : (mo k).isSome = true) (hy : ¬ y < 0 ∧ y ≤ 1) : ∃ M' V m s, mj_C sl (d + 4) i_X9_another [.ref 45, .int (nI g), .int (nI k), .int y] M = some (if m = 4 then -2 else if y = 0 then nI m else nI s, M') ∧ mv_fr mv_Q4 M M' ∧ mv_bst (fun t => mv_rd mo (g ^^^ t) = nI k) V m s ∧ ∀ t, t < 2 ^ 25 → mq_pc t 25 ≤ 3 → V t := by
  have I0 : mv_ri M (mj_st M 45 42 4) (fun t => mv_rd mo (g ^^^ t) = nI k) (fun _ => False) 4 0 := ⟨mv_fr.rf.st ⟨rfl, Or.inr rfl⟩, by rw [mq_st_eq]; rfl, fun z => by omega, Or.inl ⟨rfl, fun t h => h.elim⟩⟩
  obtain ⟨M1, m1, s1, e1, I1⟩ := r_mayBe (sl := sl) (d := d) (t := 0) hm hw hg (by decide) (by decide) I0
  obtain ⟨M2, V2, m2, s2, w5, w6, e2, I2, v1, v2⟩ := r_anotherL (sl := sl) (d := d) (y := y) hm hw hg 0 (by omega) M1 _ m1 s1 .null .null I1
  have hb := I2.2.2.2.le
  refine ⟨M2, V2, m2, s2, ?_, I2.1, I2.2.2.2, mv_all3 (v1 _ (Or.inr rfl)) (fun a' h => v2 a' (by omega) h)⟩
  have e1' : mj_C sl (d + 3) 200 [.ref 45, .int (nI g), .int (nI k), .int 0] (mj_st M 45 42 4) = some (0, M1) := e1
  have e2' : mj_E sl (d + 3 + 1) 201 41 [.ref 45, .int (nI g), .int (nI k), .int y, .int 0, .null, .null] [] M1 = mj_E sl (d + 3 + 1) i_X9_another 41 [.ref 45, .int (nI g), .int (nI k), .int y, .int (nI 25), w5, w6] [] M2 := e2
  rw [b_X9_another, r_isGrid]
  simp (disch := omega) only [Option.bind_some, s_lt0, if_false, s_leL, show g ≤ 33554431 from by omega, if_true, s_10, r_isLetter hm hw hk, hk2, r_in, hy.1, hy.2, e1', e2']
  rw [b_X9_another_41, if_neg (by decide), I2.2.1]
  simp (disch := omega) only [s_eqL]
  by_cases q : m2 = 4
  · rw [if_pos q, if_pos q]
  · rw [if_neg q, if_neg q, I2.2.2.1 (by omega)]
    by_cases q2 : y = 0
    · rw [if_pos q2, if_pos q2]
    · rw [if_neg q2, if_neg q2]
end MV22
