section MV7
variable {sl d : Nat} {M : mj_M} {mo : Nat → Option Nat} {cs : mv_CS}
theorem c_rankAll {b : Nat} (hb : mj_ocl b = 0) (hm : mv_cM M mo) (hw : mv_wM mo) (hc : mv_cC M b cs) (hwc : mv_wC mo cs) : ∃ M1, mj_C sl (d + 2) i_X1_rankAll [.ref b] M = some (0, M1) ∧ mv_keep (mv_P2 b) M M1 ∧ (∀ j, j < 10 → M1 (b + 4) j = nI (mv_fl mo cs j)) ∧ (∀ j, j < 10 → mv_to cs j = true → M1 (b + 5) j = nI (mv_rk mo cs j)) := by
  have n1 : ¬ mv_P2 b 1 := by unfold mv_P2; rcases mj_courtE hb with rfl | rfl | rfl <;> omega
  have n2 : ¬ mv_P2 b 2 := by unfold mv_P2; rcases mj_courtE hb with rfl | rfl | rfl <;> omega
  have m0 : ¬ mv_P2 b b := by unfold mv_P2; omega
  have m1 : ¬ mv_P2 b (b + 1) := by unfold mv_P2; omega
  have m2 : ¬ mv_P2 b (b + 2) := by unfold mv_P2; omega
  have m3 : ¬ mv_P2 b (b + 3) := by unfold mv_P2; omega
  rw [b_X1_rankAll hb]
  have L3 : ∀ k, k < 10 → ∀ e, e ≤ 10 → ∀ M', mv_keep (mv_P2 b) M M' → (∀ j, j < 10 → M' (b + 4) j = nI (mv_fl mo cs j)) → (∀ j, j < k → mv_to cs j = true → M' (b + 5) j = nI (mv_rk mo cs j)) → (mv_to cs k = true → M' (b + 5) k = nI (mv_rkS mo cs k e)) → ∃ M2, mj_E sl (d + 1 + 1) i_X1_rankAll 42 [.ref b, .int (nI k), .int (nI e)] [] M' = mj_E sl (d + 1 + 1) i_X1_rankAll 27 [.ref b, .int (nI (k + 1)), .int (nI 10)] [] M2 ∧ mv_keep (mv_P2 b) M M2 ∧ (∀ j, j < 10 → M2 (b + 4) j = nI (mv_fl mo cs j)) ∧ (∀ j, j < k + 1 → mv_to cs j = true → M2 (b + 5) j = nI (mv_rk mo cs j)) := by
    intro k hk
    refine mq_up ?_ ?_
    · intro M' hkp hf hr hkk
      refine ⟨M', ?_, hkp, hf, fun j hj tj => ?_⟩
      · rw [b_X1_rankAll_42 hb, if_neg (by decide), nI_1]
      · by_cases hjk : j = k
        · rw [hjk] at tj ⊢
          exact hkk tj
        · exact hr j (by omega) tj
    · intro e he ih M' hkp hf hr hkk
      have hc' := hc.keep hkp m0 m1 m2 m3
      rw [b_X1_rankAll_42 hb, if_pos (show nI e < 10 from (nI_lt he (by decide) : nI e < nI 10)), c_hasC hb hc' he]
      simp only [Option.bind_some]
      have skip : (mv_to cs k = true → ¬ (e ≠ k ∧ mv_to cs e = true ∧ mv_ah mo cs e k = true)) → ∃ M2, mj_E sl (d + 1 + 1) i_X1_rankAll 42 [.ref b, .int (nI k), .int (nI (e + 1))] [] M' = mj_E sl (d + 1 + 1) i_X1_rankAll 27 [.ref b, .int (nI (k + 1)), .int (nI 10)] [] M2 ∧ mv_keep (mv_P2 b) M M2 ∧ (∀ j, j < 10 → M2 (b + 4) j = nI (mv_fl mo cs j)) ∧ (∀ j, j < k + 1 → mv_to cs j = true → M2 (b + 5) j = nI (mv_rk mo cs j)) := fun hs => ih M' hkp hf hr (fun tk => by rw [mv_rkS, if_neg (hs tk)]; exact hkk tk)
      cases te : mv_to cs e with
      | false =>
        rw [if_pos (by rfl), nI_1]
        exact skip (fun _ z => by rw [te] at z; cases z.2.1)
      | true =>
        rw [if_neg (show ¬ (if true = true then (1 : Int32) else 0) = 0 from mq_10)]
        obtain ⟨v, hv, hv2⟩ := c_isAhead (sl := sl) (d := d + 1) (mo := mo) hb hc' hwc hf he hk
        rw [hv]
        simp only [Option.bind_some]
        by_cases h0 : v = 0
        · rw [if_pos h0, nI_1]
          refine skip (fun tk z => ?_)
          have := hv2 te tk
          rw [z.2.2, h0] at this
          exact absurd this (by decide)
        · rw [if_neg h0, if_pos (mq_inT hk (by decide)), if_pos (mq_inT hk (by decide)), nI_clamp (by omega), nI_1]
          refine ih _ (hkp.st (Or.inr rfl)) (fun j hj => by rw [mq_st_ne (Or.inl (by omega))]; exact hf j hj) (fun j hj tj => by rw [mq_st_ne (Or.inr (by omega))]; exact hr j hj tj) (fun tk => ?_)
          rw [mq_st_eq, hkk tk, nI_1, mv_rkS, if_pos]
          have hv3 := hv2 te tk
          cases ha : mv_ah mo cs e k with
          | false => rw [ha] at hv3; exact absurd hv3 h0
          | true => exact ⟨fun z => absurd ha (by rw [z, mv_ah_self]; decide), te, rfl⟩
  have L2 : ∀ k, k ≤ 10 → ∀ M' w, mv_keep (mv_P2 b) M M' → (∀ j, j < 10 → M' (b + 4) j = nI (mv_fl mo cs j)) → (∀ j, j < k → mv_to cs j = true → M' (b + 5) j = nI (mv_rk mo cs j)) → ∃ M1, mj_E sl (d + 1 + 1) i_X1_rankAll 27 [.ref b, .int (nI k), w] [] M' = some (0, M1) ∧ mv_keep (mv_P2 b) M M1 ∧ (∀ j, j < 10 → M1 (b + 4) j = nI (mv_fl mo cs j)) ∧ (∀ j, j < 10 → mv_to cs j = true → M1 (b + 5) j = nI (mv_rk mo cs j)) := by
    refine mq_up ?_ ?_
    · intro M' w hkp hf hr
      exact ⟨M', by rw [b_X1_rankAll_27 hb, if_neg (by decide)], hkp, hf, hr⟩
    · intro k hk ih M' w hkp hf hr
      rw [b_X1_rankAll_27 hb, if_pos (show nI k < 10 from (nI_lt hk (by decide) : nI k < nI 10)), if_pos (mq_inT hk (by decide)), nI_clamp (by omega)]
      obtain ⟨M2, e2, k2, f2, r2⟩ := L3 k hk 0 (Nat.zero_le _) (mj_st M' (b + 5) k 0) (hkp.st (Or.inr rfl)) (fun j hj => by rw [mq_st_ne (Or.inl (by omega))]; exact hf j hj) (fun j hj tj => by rw [mq_st_ne (Or.inr (by omega))]; exact hr j hj tj) (fun _ => by rw [mq_st_eq]; rfl)
      obtain ⟨M1, e1, k1, f1, r1⟩ := ih M2 (.int (nI 10)) k2 f2 r2
      exact ⟨M1, e2.trans e1, k1, f1, r1⟩
  have L1 : ∀ k, k ≤ 10 → ∀ M' w, mv_keep (mv_P2 b) M M' → (∀ j, j < k → M' (b + 4) j = nI (mv_fl mo cs j)) → ∃ M1, mj_E sl (d + 1 + 1) i_X1_rankAll 2 [.ref b, .int (nI k), w] [] M' = some (0, M1) ∧ mv_keep (mv_P2 b) M M1 ∧ (∀ j, j < 10 → M1 (b + 4) j = nI (mv_fl mo cs j)) ∧ (∀ j, j < 10 → mv_to cs j = true → M1 (b + 5) j = nI (mv_rk mo cs j)) := by
    refine mq_up ?_ ?_
    · intro M' w hkp hf
      rw [b_X1_rankAll_2 hb, if_neg (by decide)]
      exact L2 0 (Nat.zero_le _) M' w hkp hf (fun j hj => by omega)
    · intro k hk ih M' w hkp hf
      rw [b_X1_rankAll_2 hb, if_pos (show nI k < 10 from (nI_lt hk (by decide) : nI k < nI 10)), c_faultsOf hb (hm.keep hkp n1 n2) hw (hc.keep hkp m0 m1 m2 m3) hwc hk]
      simp only [Option.bind_some]
      rw [if_pos (mq_inT hk (by decide)), nI_clamp (by omega), nI_1]
      refine ih _ w (hkp.st (Or.inl rfl)) (fun j hj => ?_)
      by_cases hjk : j = k
      · rw [hjk, mq_st_eq]
      · rw [mq_st_ne (Or.inr hjk)]
        exact hf j (by omega)
  exact L1 0 (Nat.zero_le _) M .null mv_keep.rf (fun j hj => by omega)
theorem c_firstInRank {b : Nat} (hb : mj_ocl b = 0) (hm : mv_cM M mo) (hw : mv_wM mo) (hc : mv_cC M b cs) (hwc : mv_wC mo cs) : ∃ M1, mj_C sl (d + 3) i_X1_firstInRank [.ref b] M = some (mv_first mo cs, M1) ∧ mv_keep (mv_P2 b) M M1 := by
  have m0 : ¬ mv_P2 b b := by unfold mv_P2; omega
  have m1 : ¬ mv_P2 b (b + 1) := by unfold mv_P2; omega
  have m2 : ¬ mv_P2 b (b + 2) := by unfold mv_P2; omega
  have m3 : ¬ mv_P2 b (b + 3) := by unfold mv_P2; omega
  obtain ⟨M1, e1, k1, f1, r1⟩ := c_rankAll (sl := sl) (d := d) hb hm hw hc hwc
  have hc' := hc.keep k1 m0 m1 m2 m3
  refine ⟨M1, ?_, k1⟩
  rw [b_X1_firstInRank hb, e1]
  simp only [Option.bind_some]
  have h : ∀ n c, c + n = 10 → mj_E sl (d + 2 + 1) i_X1_firstInRank 6 [.ref b, .int (nI c)] [] M1 = some (mv_frS mo cs n c, M1) := by
    intro n
    induction n with
    | zero =>
      intro c hc
      obtain rfl : c = 10 := by omega
      rw [b_X1_firstInRank_6 hb, if_neg (by decide)]
      rfl
    | succ n ih =>
      intro c hcn
      have hc10 : c < 10 := by omega
      have hle := mv_rkS_le mo cs c 10
      rw [b_X1_firstInRank_6 hb, if_pos (show nI c < 10 from (nI_lt hc10 (by decide) : nI c < nI 10)), c_hasC hb hc' hc10, mv_frS]
      simp only [Option.bind_some]
      cases tc : mv_to cs c with
      | false =>
        rw [if_pos (by rfl), nI_1, ih (c + 1) (by omega), if_neg (fun z => by cases z.1)]
      | true =>
        rw [if_neg (show ¬ (if true = true then (1 : Int32) else 0) = 0 from mq_10), if_pos (mq_inT hc10 (by decide)), nI_clamp (by omega), r1 c hc10 tc]
        by_cases h0 : mv_rk mo cs c = 0
        · rw [if_pos (show nI (mv_rk mo cs c) = 0 from by rw [h0]; rfl), if_pos (by exact ⟨rfl, h0⟩)]
        · rw [if_neg (show ¬ nI (mv_rk mo cs c) = 0 from fun z => h0 ((mq_eq (b := 0) (by unfold mv_rk; omega) (by decide)).mp z)), nI_1, ih (c + 1) (by omega), if_neg (fun z => h0 z.2)]
  exact h 10 0 rfl
end MV7
