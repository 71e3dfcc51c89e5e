def mv_hr (n : Nat) (tp : Nat → Nat) (i : Nat) : Int32 := if i < n then nI (tp i) else -1
def mv_rep (dr : Nat → Nat) (since span j : Nat) : Nat := if j < since then dr j else dr (since + (j - since) % span)
theorem mv_rep_lo {dr : Nat → Nat} {since span j : Nat} (h : j < since + span) : mv_rep dr since span j = dr j := by
  unfold mv_rep
  by_cases q : j < since
  · rw [if_pos q]
  · rw [if_neg q, Nat.mod_eq_of_lt (by omega)]
    congr 1
    omega
theorem mv_rep_hi {dr : Nat → Nat} {since span j : Nat} (h : since + span ≤ j) (hs : 0 < span) : mv_rep dr since span j = mv_rep dr since span (j - span) := by
  unfold mv_rep
  rw [if_neg (by omega), if_neg (by omega), Nat.mod_eq_sub_mod (show span ≤ j - since by omega)]
  congr 3
  omega
theorem mv_rep_in {dr : Nat → Nat} {since span j : Nat} (hs : 0 < span) (P : Nat → Prop) (h : ∀ i, i < since + span → P (dr i)) : P (mv_rep dr since span j) := by
  unfold mv_rep
  split
  · exact h j (by omega)
  · have := Nat.mod_lt (j - since) hs
    exact h _ (by omega)
theorem s_00 : ((0 : Int32) &&& 1 = 0) = True := eq_true (by decide)
section MV31
variable {sl d : Nat} {M : mj_M}
theorem r_here {i n : Nat} {tp : Nat → Nat} (h6 : M 45 6 = nI i) (h7 : M 45 7 = nI n) (hi : i ≤ n) (hn : n ≤ 260) (T : mv_Tb M tp) : mj_C sl d i_X9_here [.ref 45] M = some (mv_hr n tp i, M) := by
  rw [b_X9_here, h6, h7]
  unfold mv_hr
  simp (disch := omega) only [s_lt]
  by_cases q : i < n
  · simp (disch := omega) only [q, if_true, s_in, s_cl, (T i (by omega)).2.2]
  · simp only [q, if_false]
theorem r_wrongAt {x y : Int32} : mj_C sl d i_X9_wrongAt [.ref 45, .int x, .int y] M = some (0, mj_st M 45 8 (-1000 * x - y)) := b_X9_wrongAt
def mv_tm (n : Nat) (tp : Nat → Nat) (j : Nat) : Nat := if j < n ∧ 50 ≤ tp j ∧ tp j ≤ 57 then tp j - 48 else 1
theorem mv_tm_b (n : Nat) (tp : Nat → Nat) (j : Nat) : 1 ≤ mv_tm n tp j ∧ mv_tm n tp j ≤ 9 ∧ (1 < mv_tm n tp j → j < n) := by
  unfold mv_tm
  split <;> omega
theorem c_timesAt {j n : Nat} {tp : Nat → Nat} (hj : j ≤ n) (hn : n ≤ 260) (T : mv_Tb M tp) : mj_C sl (d + 1) i_X6_timesAt [.ref 21, .int (nI n), .int (nI j)] M = some (nI (mv_tm n tp j), M) := by
  rw [b_X6_timesAt]
  unfold mv_tm
  simp (disch := omega) only [s_lt]
  by_cases q : j < n
  · have ht := (T j (by omega)).1
    simp (disch := omega) only [q, if_true, c_byteB T, Option.bind_some, s_ltL, s_leL, true_and]
    by_cases c1 : tp j < 50
    · rw [if_pos c1, if_neg (by omega)]; rfl
    · rw [if_neg c1]
      by_cases c2 : tp j ≤ 57
      · rw [if_pos c2, if_pos (by omega), s_subL (by omega)]
      · rw [if_neg c2, if_neg (by omega)]; rfl
  · simp only [q, if_false, false_and]
    rfl
theorem r_readsTimes {i n : Nat} {tp : Nat → Nat} (h6 : M 45 6 = nI i) (h7 : M 45 7 = nI n) (hi : i ≤ n) (hn : n ≤ 260) (T : mv_Tb M tp) : ∃ M', mj_C sl (d + 1) i_X9_readsTimes [.ref 45] M = some (nI (mv_tm n tp i), M') ∧ mv_fr (fun a k => a = 45 ∧ k = 6) M M' ∧ M' 45 6 = nI (i + if 1 < mv_tm n tp i then 1 else 0) := by
  rw [b_X9_readsTimes, r_here h6 h7 hi hn T]
  simp only [Option.bind_some, r_in]
  unfold mv_hr mv_tm
  by_cases q : i < n
  · have ht := (T i (by omega)).1
    simp (disch := omega) only [q, if_true, s_ltL, s_leL, true_and]
    by_cases c1 : tp i < 50
    · rw [if_pos c1, if_pos rfl, if_neg (by omega)]
      exact ⟨M, rfl, mv_fr.rf, h6⟩
    · rw [if_neg c1]
      by_cases c2 : tp i ≤ 57
      · have T2 : mv_Tb (mj_st M 45 6 (nI (i + 1))) tp := T.fr (Q := fun a k => a = 45 ∧ k = 6) (mv_fr.rf.st ⟨rfl, rfl⟩) (fun a k z => by omega)
        rw [if_pos c2, if_neg mq_10, if_pos (show 50 ≤ tp i ∧ tp i ≤ 57 by omega), h6, if_pos (by omega)]
        simp (disch := omega) only [s_addL, mq_st_eq, s_subL]
        rw [show i + 1 - 1 = i from by omega, r_octB T2 (by omega)]
        simp (disch := omega) only [Option.bind_some, s_subL]
        exact ⟨_, rfl, mv_fr.rf.st ⟨rfl, rfl⟩, mq_st_eq⟩
      · rw [if_neg c2, if_pos rfl, if_neg (by omega)]
        exact ⟨M, rfl, mv_fr.rf, h6⟩
  · simp only [q, if_false, false_and]
    rw [if_pos (by decide)]
    exact ⟨M, rfl, mv_fr.rf, h6⟩
theorem mv_spt {since made times : Nat} (hs : since < made) (hm : made ≤ 60) (h1 : 1 ≤ times) (h9 : times ≤ 9) : made - since ≤ (made - since) * times ∧ (made - since) * times ≤ 540 := by
  refine ⟨Nat.le_mul_of_pos_right _ h1, ?_⟩
  have := Nat.mul_le_mul (show made - since ≤ 60 by omega) h9
  omega
theorem c_repeat {since made times : Nat} {dr : Nat → Nat} {x : Int32} (h5 : M 23 5 = nI made) (hd : ∀ j, j < made → M 25 j = nI (dr j)) (hs : since < made) (hm : made ≤ 60) (h1 : 1 ≤ times) (h9 : times ≤ 9) : (60 < since + (made - since) * times ∧ mj_C sl (d + 1) i_X6_repeat [.ref 23, .int x, .int (nI since), .int (nI times)] M = some (-1000 * 6 - x, M)) ∨ (since + (made - since) * times ≤ 60 ∧ ∃ M', mj_C sl (d + 1) i_X6_repeat [.ref 23, .int x, .int (nI since), .int (nI times)] M = some (0, M') ∧ mv_fr (fun a k => a = 25 ∨ (a = 23 ∧ k = 5)) M M' ∧ M' 23 5 = nI (since + (made - since) * times) ∧ ∀ j, j < since + (made - since) * times → M' 25 j = nI (mv_rep dr since (made - since) j)) := by
  obtain ⟨b1, b2⟩ := mv_spt hs hm h1 h9
  rw [b_X6_repeat, h5, pk_sub (by omega), pk_mul, nI_add]
  simp (disch := omega) only [s_leL]
  by_cases q : since + (made - since) * times ≤ 60
  · refine Or.inr ⟨q, ?_⟩
    rw [if_pos q]
    have L : ∀ k, k ≤ since + (made - since) * times → made ≤ k → ∀ M', mv_fr (fun a k => a = 25 ∨ (a = 23 ∧ k = 5)) M M' → (∀ j, j < k → M' 25 j = nI (mv_rep dr since (made - since) j)) → ∃ M'', mj_E sl (d + 1) i_X6_repeat 36 [.ref 23, .int x, .int (nI since), .int (nI times), .int (nI (made - since)), .int (nI (since + (made - since) * times)), .int (nI k)] [] M' = some (0, M'') ∧ mv_fr (fun a k => a = 25 ∨ (a = 23 ∧ k = 5)) M M'' ∧ M'' 23 5 = nI (since + (made - since) * times) ∧ ∀ j, j < since + (made - since) * times → M'' 25 j = nI (mv_rep dr since (made - since) j) := by
      refine mq_up ?_ ?_
      · intro _ M' f h
        refine ⟨mj_st M' 23 5 (nI (since + (made - since) * times)), ?_, f.st (Or.inr ⟨rfl, rfl⟩), mq_st_eq, fun j hj => ?_⟩
        · rw [b_X6_repeat_36, if_neg Int32.lt_irrefl]
        · rw [mq_st_ne (by omega)]; exact h j hj
      · intro k hk ih hmk M' f h
        rw [b_X6_repeat_36]
        simp (disch := omega) only [s_lt, hk, if_true, pk_sub (show made - since ≤ k by omega), s_in, s_cl, s_addL]
        refine ih (by omega) _ (f.st (Or.inl rfl)) (fun j hj => ?_)
        by_cases z : j = k
        · rw [z, mq_st_eq, h _ (by omega), mv_rep_hi (j := k) (by omega) (by omega)]
        · rw [mq_st_ne (Or.inr z)]
          exact h j (by omega)
    exact L made (by omega) (Nat.le_refl _) M mv_fr.rf (fun j hj => by rw [mv_rep_lo (by omega)]; exact hd j hj)
  · refine Or.inl ⟨by omega, ?_⟩
    rw [if_neg q, b_X8_fault]
    rfl
theorem r_repeats {since made times : Nat} {dr : Nat → Nat} {x : Int32} (h5 : M 45 33 = nI made) (hd : ∀ j, j < made → M 65 j = nI (dr j)) (hs : since < made) (hm : made ≤ 60) (h1 : 1 ≤ times) (h9 : times ≤ 9) : (60 < since + (made - since) * times ∧ mj_C sl (d + 1) i_X9_repeats [.ref 45, .int (nI since), .int (nI times), .int x] M = some (0, mj_st M 45 8 (-1000 * 6 - x))) ∨ (since + (made - since) * times ≤ 60 ∧ ∃ M', mj_C sl (d + 1) i_X9_repeats [.ref 45, .int (nI since), .int (nI times), .int x] M = some (1, M') ∧ mv_fr (fun a k => a = 65 ∨ (a = 45 ∧ k = 33)) M M' ∧ M' 45 33 = nI (since + (made - since) * times) ∧ ∀ j, j < since + (made - since) * times → M' 65 j = nI (mv_rep dr since (made - since) j)) := by
  obtain ⟨b1, b2⟩ := mv_spt hs hm h1 h9
  rw [b_X9_repeats, h5, pk_sub (by omega), pk_mul, nI_add]
  simp (disch := omega) only [s_leL]
  by_cases q : since + (made - since) * times ≤ 60
  · refine Or.inr ⟨q, ?_⟩
    rw [if_pos q]
    have L : ∀ k, k ≤ (made - since) * times → made - since ≤ k → ∀ M', mv_fr (fun a k => a = 65 ∨ (a = 45 ∧ k = 33)) M M' → (∀ j, j < since + k → M' 65 j = nI (mv_rep dr since (made - since) j)) → ∃ M'', mj_E sl (d + 1) i_X9_repeats 31 [.ref 45, .int (nI since), .int (nI times), .int x, .int (nI (made - since)), .int (nI k)] [] M' = some (1, M'') ∧ mv_fr (fun a k => a = 65 ∨ (a = 45 ∧ k = 33)) M M'' ∧ M'' 45 33 = nI (since + (made - since) * times) ∧ ∀ j, j < since + (made - since) * times → M'' 65 j = nI (mv_rep dr since (made - since) j) := by
      refine mq_up ?_ ?_
      · intro _ M' f h
        refine ⟨mj_st M' 45 33 (nI (since + (made - since) * times)), ?_, f.st (Or.inr ⟨rfl, rfl⟩), mq_st_eq, fun j hj => ?_⟩
        · rw [b_X9_repeats_31, pk_mul, if_neg Int32.lt_irrefl, nI_add]
        · rw [mq_st_ne (by omega)]; exact h j hj
      · intro k hk ih hmk M' f h
        rw [b_X9_repeats_31, pk_mul, nI_add, pk_sub (show made - since ≤ since + k by omega)]
        simp (disch := omega) only [s_lt, hk, if_true, s_in, s_cl, s_addL]
        refine ih (by omega) _ (f.st (Or.inl rfl)) (fun j hj => ?_)
        by_cases z : j = since + k
        · rw [z, mq_st_eq, h _ (by omega), mv_rep_hi (j := since + k) (by omega) (by omega)]
        · rw [mq_st_ne (Or.inr z)]
          exact h j (by omega)
    exact L (made - since) b1 (Nat.le_refl _) M mv_fr.rf (fun j hj => by rw [mv_rep_lo (by omega)]; exact hd j (by omega))
  · refine Or.inl ⟨by omega, ?_⟩
    rw [if_neg q, r_wrongAt]
    simp only [Option.bind_some, s_00, if_true]
end MV31
