def mv_sub (g h : Nat) : Prop := ∀ i, g.testBit i = true → h.testBit i = true
theorem mv_sub.rf {g : Nat} : mv_sub g g := fun _ h => h
theorem mv_sub.tr {a b c : Nat} (h : mv_sub a b) (h2 : mv_sub b c) : mv_sub a c := fun i hi => h2 i (h i hi)
theorem mv_sub.as {a b : Nat} (h : mv_sub a b) (h2 : mv_sub b a) : a = b := Nat.eq_of_testBit_eq (fun i => by
  have p := h i
  have q := h2 i
  cases h3 : a.testBit i <;> cases h4 : b.testBit i <;> simp [h3, h4] at p q ⊢)
theorem mv_sub.or1 {a b : Nat} : mv_sub a (a ||| b) := fun i h => by rw [Nat.testBit_or, h]; rfl
theorem mv_sub.or {a b c : Nat} (h : mv_sub a c) (h2 : mv_sub b c) : mv_sub (a ||| b) c := fun i hi => by
  rw [Nat.testBit_or, Bool.or_eq_true] at hi
  exact hi.elim (h i) (h2 i)
theorem mv_lt_bit {g n i : Nat} (h : g < 2 ^ n) (hi : g.testBit i = true) : i < n := by
  by_cases c : i < n
  · exact c
  · rw [Nat.testBit_lt_two_pow (Nat.lt_of_lt_of_le h (Nat.pow_le_pow_right (by decide) (by omega)))] at hi
    cases hi
theorem mv_sub_pc {a b : Nat} (h : mv_sub a b) : ∀ n, mq_pc a n ≤ mq_pc b n
  | 0 => Nat.le_refl 0
  | n + 1 => by
    have ih := mv_sub_pc h n
    have q := h n
    rw [mq_pc, mq_pc, mq_bt_tb, mq_bt_tb]
    cases h3 : a.testBit n <;> cases h4 : b.testBit n <;> simp [h3, h4] at q ⊢ <;> omega
theorem mv_sub_pcE {a b : Nat} (h : mv_sub a b) : ∀ n, mq_pc b n ≤ mq_pc a n → ∀ i, i < n → a.testBit i = b.testBit i
  | 0, _, i, hi => by omega
  | n + 1, hp, i, hi => by
    have ih := mv_sub_pcE h n
    have hl := mv_sub_pc h n
    have q := h n
    rw [mq_pc, mq_pc, mq_bt_tb, mq_bt_tb] at hp
    have hn : a.testBit n = b.testBit n := by
      cases h3 : a.testBit n <;> cases h4 : b.testBit n <;> simp [h3, h4] at q hp ⊢
      omega
    by_cases hin : i = n
    · rw [hin]; exact hn
    · refine ih ?_ i (by omega)
      rw [hn] at hp
      omega
theorem mv_sub_lt {a b n : Nat} (h : mv_sub a b) (ha : a < 2 ^ n) (hb : b < 2 ^ n) (hne : a ≠ b) : mq_pc a n < mq_pc b n := by
  have h1 := mv_sub_pc h n
  by_cases h2 : mq_pc b n ≤ mq_pc a n
  · refine absurd (Nat.eq_of_testBit_eq (fun i => ?_)) hne
    by_cases hi : i < n
    · exact mv_sub_pcE h n h2 i hi
    · have e : 2 ^ n ≤ 2 ^ i := Nat.pow_le_pow_right (by decide) (by omega)
      rw [Nat.testBit_lt_two_pow (Nat.lt_of_lt_of_le ha e), Nat.testBit_lt_two_pow (Nat.lt_of_lt_of_le hb e)]
  · omega
theorem mv_pow_bit {k i : Nat} : (2 ^ k).testBit i = true ↔ k = i := by
  rw [Nat.testBit_two_pow]
  exact decide_eq_true_iff
theorem mv_pc_pow {k n : Nat} (hk : k < n) : 1 ≤ mq_pc (2 ^ k) n := by
  have h : mv_sub 0 (2 ^ k) := fun i hi => by rw [Nat.zero_testBit] at hi; cases hi
  have := mv_sub_lt h (Nat.pow_pos (by decide)) (Nat.pow_lt_pow_right (by decide) hk) (Nat.ne_of_lt (Nat.pow_pos (by decide)))
  omega
def mv_cls (E : Nat → Nat → Bool) (n : Nat) (T : Nat) : Prop := ∀ a b, a < n → b < n → T.testBit a = true → E a b = true → T.testBit b = true
def mv_cl (E : Nat → Nat → Bool) (n c S : Nat) : Prop := S < 2 ^ n ∧ S.testBit c = true ∧ mv_cls E n S ∧ ∀ T, T.testBit c = true → mv_cls E n T → mv_sub S T
theorem mv_cl.un {E : Nat → Nat → Bool} {n c S S2 : Nat} (h : mv_cl E n c S) (h2 : mv_cl E n c S2) : S = S2 := mv_sub.as (h.2.2.2 S2 h2.2.1 h2.2.2.1) (h2.2.2.2 S h.2.1 h.2.2.1)
def mv_near (mo : Nat → Option Nat) (cs : mv_CS) (dots a b : Nat) : Bool := mv_to cs a && (mv_to cs b && decide (mv_hS mo cs a b 8 ≤ dots))
section MV15
variable {sl d : Nat} {M : mj_M} {mo : Nat → Option Nat} {cs : mv_CS}
theorem c_groupOf {E : Nat → Nat → Bool} {nr : Nat → Nat} {c : Nat} (hc : c < 10) (hn : ∀ a, a < 10 → M 36 a = nI (nr a) ∧ nr a < 2 ^ 10 ∧ ∀ b, b < 10 → (nr a).testBit b = E a b) : ∃ S, mv_cl E 10 c S ∧ mj_C sl d i_X8_groupOf [.ref 0, .int (nI c)] M = some (nI S, M) := by
  have I : ∀ r, ∀ w1 : Value, ∀ k, k ≤ 10 → ∀ g, g < 2 ^ 10 → ∃ g', g' < 2 ^ 10 ∧ mj_E sl d i_X8_groupOf 15 [.ref 0, w1, .int (nI g), .int (nI r), .int (nI k)] [] M = mj_E sl d i_X8_groupOf 6 [.ref 0, w1, .int (nI g'), .int (nI (r + 1)), .int (nI 10)] [] M ∧ mv_sub g g' ∧ (∀ T, mv_cls E 10 T → mv_sub g T → mv_sub g' T) ∧ ∀ a b, k ≤ a → a < 10 → b < 10 → g.testBit a = true → E a b = true → g'.testBit b = true := by
    intro r w1
    refine mq_up ?_ ?_
    · intro g hg
      refine ⟨g, hg, ?_, mv_sub.rf, fun T _ h => h, fun a b h1 h2 => by omega⟩
      rw [b_X8_groupOf_15, if_neg (by decide), nI_1]
    · intro k hk ih g hg
      obtain ⟨n1, n2, n3⟩ := hn k hk
      rw [b_X8_groupOf_15]
      simp (disch := omega) only [s_ltL, hk, if_true, mq_bit, s_eqL, s_in, s_cl, n1, mq_or, s_addL]
      rw [mq_bt_tb]
      cases hb : g.testBit k with
      | true =>
        rw [if_pos (by rfl)]
        obtain ⟨g', l, e, s1, s2, s3⟩ := ih (g ||| nr k) (Nat.or_lt_two_pow hg n2)
        refine ⟨g', l, e, mv_sub.or1.tr s1, fun T hT hs => s2 T hT (hs.or (fun i hi => ?_)), fun a b h1 h2 h3 h4 h5 => ?_⟩
        · have hi10 := mv_lt_bit n2 hi
          exact hT k i hk hi10 (hs k hb) (by rw [← n3 i hi10]; exact hi)
        · by_cases hak : a = k
          · refine s1 b ?_
            rw [Nat.testBit_or, n3 b h3, ← hak, h5, Bool.or_true]
          · exact s3 a b (by omega) h2 h3 (mv_sub.or1 a h4) h5
      | false =>
        rw [if_neg (by decide)]
        obtain ⟨g', l, e, s1, s2, s3⟩ := ih g hg
        refine ⟨g', l, e, s1, s2, fun a b h1 h2 h3 h4 h5 => ?_⟩
        by_cases hak : a = k
        · rw [hak, hb] at h4
          cases h4
        · exact s3 a b (by omega) h2 h3 h4 h5
  rw [b_X8_groupOf, mq_one (by omega)]
  have L : ∀ r, r ≤ 10 → ∀ (w1 w4 : Value) (g : Nat), g < 2 ^ 10 → g.testBit c = true → (∀ T, T.testBit c = true → mv_cls E 10 T → mv_sub g T) → (mv_cls E 10 g ∨ r + 1 ≤ mq_pc g 10) → ∃ S, mv_cl E 10 c S ∧ mj_E sl d i_X8_groupOf 6 [.ref 0, w1, .int (nI g), .int (nI r), w4] [] M = some (nI S, M) := by
    refine mq_up ?_ ?_
    · intro w1 w4 g hg h1 h2 h3
      refine ⟨g, ⟨hg, h1, h3.resolve_right (fun z => ?_), h2⟩, ?_⟩
      · have := mq_pc_le g 10
        omega
      · rw [b_X8_groupOf_6, if_neg (by decide)]
    · intro r hr ih w1 w4 g hg h1 h2 h3
      rw [b_X8_groupOf_6]
      simp (disch := omega) only [s_ltL, hr, if_true]
      obtain ⟨g', l, e, s1, s2, s3⟩ := I r w1 0 (by omega) g hg
      have e2 : mj_E sl d 111 15 [.ref 0, w1, .int (nI g), .int (nI r), .int 0] [] M = mj_E sl d i_X8_groupOf 6 [.ref 0, w1, .int (nI g'), .int (nI (r + 1)), .int (nI 10)] [] M := e
      rw [e2]
      refine ih w1 _ g' l (s1 c h1) (fun T t1 t2 => s2 T t2 (h2 T t1 t2)) ?_
      by_cases hcl : mv_cls E 10 g
      · have : g' = g := mv_sub.as (s2 g hcl mv_sub.rf) s1
        rw [this]
        exact Or.inl hcl
      · have hp := h3.resolve_left hcl
        by_cases hgg : g = g'
        · exact absurd (fun a b ha hb h4 h5 => by rw [hgg]; exact s3 a b (by omega) ha hb h4 h5) hcl
        · have := mv_sub_lt s1 hg l hgg
          exact Or.inr (by omega)
  refine L 0 (by omega) _ _ (2 ^ c) (Nat.pow_lt_pow_right (by decide) hc) (mv_pow_bit.mpr rfl) (fun T t1 _ i hi => ?_) (Or.inr (mv_pc_pow hc))
  rw [mv_pow_bit] at hi
  rw [← hi]
  exact t1
theorem r_groupOf {c dots : Nat} (B : mv_B M mo cs) (hc : c < 10) (tc : mv_to cs c = true) (hd : dots ≤ 200) : ∃ S, mv_cl (mv_near mo cs dots) 10 c S ∧ mj_C sl (d + 3) i_X9_groupOf [.ref 45, .int (nI c), .int (nI dots)] M = some (nI S, M) := by
  obtain ⟨hm, hcm, hw, hr, -, hwc⟩ := B
  have I2 : ∀ w1 : Value, ∀ p a, a < 10 → p < 2 ^ 10 → (∀ i, p.testBit i = true → mv_to cs i = true) → ∀ k, k ≤ 10 → ∀ g, g < 2 ^ 10 → mv_sub p g → ∃ g', g' < 2 ^ 10 ∧ mj_E sl (d + 2 + 1) i_X9_groupOf 29 [.ref 45, w1, .int (nI dots), .int (nI g), .int (nI p), .int (nI a), .int (nI k)] [] M = mj_E sl (d + 2 + 1) i_X9_groupOf 19 [.ref 45, w1, .int (nI dots), .int (nI g'), .int (nI p), .int (nI (a + 1)), .int (nI 10)] [] M ∧ mv_sub g g' ∧ (∀ T, mv_cls (mv_near mo cs dots) 10 T → mv_sub g T → mv_sub g' T) ∧ (∀ i, g'.testBit i = true → g.testBit i = true ∨ mv_to cs i = true) ∧ ∀ b, k ≤ b → b < 10 → p.testBit a = true → mv_near mo cs dots a b = true → g'.testBit b = true := by
    intro w1 p a ha hp hpt
    refine mq_up ?_ ?_
    · intro g hg hs
      refine ⟨g, hg, ?_, mv_sub.rf, fun T _ h => h, fun i hi => Or.inl hi, fun b h1 h2 => by omega⟩
      rw [b_X9_groupOf_29, if_neg (by decide), nI_1]
    · intro k hk ih g hg hs
      have hle := mv_hS_le mo cs a k 8
      rw [b_X9_groupOf_29]
      simp (disch := omega) only [s_ltL, hk, if_true, b_X9_has, mq_bit, s_eqL, r_isTold hr hk, s_addL]
      rw [mq_bt_tb]
      cases hb : p.testBit a with
      | true =>
        rw [if_pos (by rfl)]
        simp only [Option.bind_some, s_10, if_false, s_b0, r_isTold hr hk]
        have ta := hpt a hb
        cases tk : mv_to cs k with
        | true =>
          simp (disch := omega) only [not_true, if_false, r_apartInAll hm hw hr hwc ha hk, Option.bind_some, s_le, mq_one, mq_or]
          by_cases hx : mv_hS mo cs a k 8 ≤ dots
          · rw [if_pos hx]
            obtain ⟨g', l, e, s1, s2, s3, s4⟩ := ih (g ||| 2 ^ k) (Nat.or_lt_two_pow hg (Nat.pow_lt_pow_right (by decide) hk)) (hs.tr mv_sub.or1)
            refine ⟨g', l, e, mv_sub.or1.tr s1, fun T hT h => s2 T hT (h.or (fun i hi => ?_)), fun i hi => ?_, fun b h1 h2 h3 h4 => ?_⟩
            · rw [mv_pow_bit] at hi
              rw [← hi]
              refine hT a k ha hk (h a (hs a hb)) ?_
              unfold mv_near
              rw [ta, tk]
              simp [hx]
            · rcases s3 i hi with q | q
              · rw [Nat.testBit_or, Bool.or_eq_true, mv_pow_bit] at q
                rcases q with q | q
                · exact Or.inl q
                · exact Or.inr (q ▸ tk)
              · exact Or.inr q
            · by_cases hbk : b = k
              · refine s1 b ?_
                rw [Nat.testBit_or, mv_pow_bit.mpr hbk.symm, Bool.or_true]
              · exact s4 b (by omega) h2 hb h4
          · rw [if_neg hx]
            obtain ⟨g', l, e, s1, s2, s3, s4⟩ := ih g hg hs
            refine ⟨g', l, e, s1, s2, s3, fun b h1 h2 h3 h4 => ?_⟩
            by_cases hbk : b = k
            · unfold mv_near at h4
              rw [hbk] at h4
              simp [hx] at h4
            · exact s4 b (by omega) h2 hb h4
        | false =>
          simp only [Bool.false_eq_true, not_false_eq_true, if_true]
          obtain ⟨g', l, e, s1, s2, s3, s4⟩ := ih g hg hs
          refine ⟨g', l, e, s1, s2, s3, fun b h1 h2 h3 h4 => ?_⟩
          by_cases hbk : b = k
          · unfold mv_near at h4
            rw [hbk, tk] at h4
            simp at h4
          · exact s4 b (by omega) h2 hb h4
      | false =>
        rw [if_neg (by decide)]
        simp only [Option.bind_some, if_true]
        obtain ⟨g', l, e, s1, s2, s3, s4⟩ := ih g hg hs
        refine ⟨g', l, e, s1, s2, s3, fun b h1 h2 h3 h4 => ?_⟩
        cases h3
  have I1 : ∀ w1 : Value, ∀ p, p < 2 ^ 10 → (∀ i, p.testBit i = true → mv_to cs i = true) → ∀ k, k ≤ 10 → ∀ (w6 : Value) g, g < 2 ^ 10 → mv_sub p g → ∃ g' w7, g' < 2 ^ 10 ∧ mj_E sl (d + 2 + 1) i_X9_groupOf 19 [.ref 45, w1, .int (nI dots), .int (nI g), .int (nI p), .int (nI k), w6] [] M = mj_E sl (d + 2 + 1) i_X9_groupOf 7 [.ref 45, w1, .int (nI dots), .int (nI g'), .int (nI p), .int (nI 10), w7] [] M ∧ mv_sub g g' ∧ (∀ T, mv_cls (mv_near mo cs dots) 10 T → mv_sub g T → mv_sub g' T) ∧ (∀ i, g'.testBit i = true → g.testBit i = true ∨ mv_to cs i = true) ∧ ∀ a b, k ≤ a → a < 10 → b < 10 → p.testBit a = true → mv_near mo cs dots a b = true → g'.testBit b = true := by
    intro w1 p hp hpt
    refine mq_up ?_ ?_
    · intro w6 g hg hs
      refine ⟨g, w6, hg, ?_, mv_sub.rf, fun T _ h => h, fun i hi => Or.inl hi, fun a b h1 h2 => by omega⟩
      rw [b_X9_groupOf_19, if_neg (by decide)]
    · intro k hk ih w6 g hg hs
      rw [b_X9_groupOf_19]
      simp (disch := omega) only [s_ltL, hk, if_true]
      obtain ⟨g1, l1, e1, a1, a2, a3, a4⟩ := I2 w1 p k hk hp hpt 0 (by omega) g hg hs
      have e1' : mj_E sl (d + 2 + 1) 206 29 [.ref 45, w1, .int (nI dots), .int (nI g), .int (nI p), .int (nI k), .int 0] [] M = mj_E sl (d + 2 + 1) i_X9_groupOf 19 [.ref 45, w1, .int (nI dots), .int (nI g1), .int (nI p), .int (nI (k + 1)), .int (nI 10)] [] M := e1
      obtain ⟨g2, w7, l2, e2, c1, c2, c3, c4⟩ := ih (.int (nI 10)) g1 l1 (hs.tr a1)
      refine ⟨g2, w7, l2, e1'.trans e2, a1.tr c1, fun T hT h => c2 T hT (a2 T hT h), fun i hi => ?_, fun a b h1 h2 h3 h4 h5 => ?_⟩
      · rcases c3 i hi with q | q
        · exact a3 i q
        · exact Or.inr q
      · by_cases hak : a = k
        · rw [hak] at h4 h5
          exact c1 b (a4 b (by omega) h3 h4 h5)
        · exact c4 a b (by omega) h2 h3 h4 h5
  rw [b_X9_groupOf, mq_one (by omega)]
  have L : ∀ m g p (w1 w5 w6 : Value), 11 ≤ mq_pc g 10 + m → g < 2 ^ 10 → g.testBit c = true → (∀ i, g.testBit i = true → mv_to cs i = true) → (∀ T, T.testBit c = true → mv_cls (mv_near mo cs dots) 10 T → mv_sub g T) → p < 2 ^ 10 → (p = g → mv_cls (mv_near mo cs dots) 10 g) → ∃ S, mv_cl (mv_near mo cs dots) 10 c S ∧ mj_E sl (d + 2 + 1) i_X9_groupOf 7 [.ref 45, w1, .int (nI dots), .int (nI g), .int (nI p), w5, w6] [] M = some (nI S, M) := by
    intro m
    induction m with
    | zero =>
      intro g p w1 w5 w6 hm
      have := mq_pc_le g 10
      omega
    | succ m ih =>
      intro g p w1 w5 w6 hm hg h1 ht h2 hp h3
      rw [b_X9_groupOf_7]
      simp (disch := omega) only [s_eq]
      by_cases hgp : g = p
      · rw [if_pos hgp]
        exact ⟨g, ⟨hg, h1, h3 hgp.symm, h2⟩, rfl⟩
      · rw [if_neg hgp]
        obtain ⟨g', w7, l, e, s1, s2, s3, s4⟩ := I1 w1 g hg ht 0 (by omega) w6 g hg mv_sub.rf
        have e' : mj_E sl (d + 2 + 1) 206 19 [.ref 45, w1, .int (nI dots), .int (nI g), .int (nI g), .int 0, w6] [] M = mj_E sl (d + 2 + 1) i_X9_groupOf 7 [.ref 45, w1, .int (nI dots), .int (nI g'), .int (nI g), .int (nI 10), w7] [] M := e
        rw [e']
        have hcl : g = g' → mv_cls (mv_near mo cs dots) 10 g' := fun q => by
          rw [← q]
          intro a b ha hb q1 q2
          have := s4 a b (by omega) ha hb q1 q2
          rw [← q] at this
          exact this
        by_cases hgg : g = g'
        · refine ⟨g', ⟨l, s1 c h1, hcl hgg, fun T t1 t2 => s2 T t2 (h2 T t1 t2)⟩, ?_⟩
          rw [b_X9_groupOf_7, if_pos (by rw [hgg])]
        · have := mv_sub_lt s1 hg l hgg
          exact ih g' g w1 _ _ (by omega) l (s1 c h1) (fun i hi => (s3 i hi).elim (ht i) id) (fun T t1 t2 => s2 T t2 (h2 T t1 t2)) hg hcl
  have h0 : mq_pc (2 ^ c) 10 ≤ 10 := mq_pc_le _ _
  refine L 11 (2 ^ c) 0 _ _ _ (by omega) (Nat.pow_lt_pow_right (by decide) hc) (mv_pow_bit.mpr rfl) (fun i hi => ?_) (fun T t1 _ i hi => ?_) (by decide) (fun z => absurd z.symm (Nat.ne_of_gt (Nat.pow_pos (by decide))))
  · rw [mv_pow_bit] at hi
    rw [← hi]
    exact tc
  · rw [mv_pow_bit] at hi
    rw [← hi]
    exact t1
end MV15
