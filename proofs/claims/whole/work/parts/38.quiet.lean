def mv_Sc (a k : Nat) : Prop := a = 7 ∨ a = 8 ∨ (13 ≤ a ∧ a ≤ 20) ∨ ((a = 3 ∨ a = 9) ∧ 9 ≤ k ∧ k ≤ 11) ∨ (a = 23 ∧ (k = 5 ∨ k = 6)) ∨ (25 ≤ a ∧ a ≤ 27) ∨ (a = 28 ∧ 2 ≤ k ∧ k ≤ 4) ∨ a = 31 ∨ a = 32 ∨ a = 40 ∨ a = 41 ∨ a = 36 ∨ a = 37 ∨ (a = 45 ∧ (6 ≤ k ∧ k ≤ 13 ∨ 33 ≤ k ∧ k ≤ 42)) ∨ a = 47 ∨ (51 ≤ a ∧ a ≤ 56) ∨ a = 62 ∨ a = 63 ∨ (65 ≤ a ∧ a ≤ 71)
def mv_fr (Q : Nat → Nat → Prop) (M M1 : mj_M) : Prop := ∀ a k, ¬ Q a k → M1 a k = M a k
theorem mv_fr.rf {Q : Nat → Nat → Prop} {M : mj_M} : mv_fr Q M M := fun _ _ _ => rfl
theorem mv_fr.tr {Q : Nat → Nat → Prop} {M M1 M2 : mj_M} (h : mv_fr Q M M1) (h2 : mv_fr Q M1 M2) : mv_fr Q M M2 := fun a k ha => (h2 a k ha).trans (h a k ha)
theorem mv_fr.st {Q : Nat → Nat → Prop} {M M1 : mj_M} {a k : Nat} {x : Int32} (h : mv_fr Q M M1) (ha : Q a k) : mv_fr Q M (mj_st M1 a k x) := fun q j hq => (mq_st_ne (by
  by_cases e : q = a
  · by_cases e2 : j = k
    · rw [e, e2] at hq; exact absurd ha hq
    · exact Or.inr e2
  · exact Or.inl e)).trans (h q j hq)
theorem mv_fr.wk {Q R : Nat → Nat → Prop} {M M1 : mj_M} (h : mv_fr Q M M1) (hs : ∀ a k, Q a k → R a k) : mv_fr R M M1 := fun a k ha => h a k (fun z => ha (hs a k z))
theorem mv_keep.fr {P : Nat → Prop} {Q : Nat → Nat → Prop} {M M1 : mj_M} (h : mv_keep P M M1) (hs : ∀ a k, P a → Q a k) : mv_fr Q M M1 := fun a k ha => by rw [h a (fun z => ha (hs a k z))]
theorem mv_P2s {b : Nat} (hb : mj_ocl b = 0) : ∀ a k, mv_P2 b a → mv_Sc a k := by
  intro a k h
  unfold mv_P2 at h
  unfold mv_Sc
  rcases mj_courtE hb with rfl | rfl | rfl <;> omega
theorem mv_rM.fr {Q : Nat → Nat → Prop} {M M1 : mj_M} {mo : Nat → Option Nat} (h : mv_rM M mo) (f : mv_fr Q M M1) (h1 : ∀ k, ¬ Q 49 k) : mv_rM M1 mo := fun k hk => by rw [f 49 k (h1 k)]; exact h k hk
theorem mv_cM.fr {Q : Nat → Nat → Prop} {M M1 : mj_M} {mo : Nat → Option Nat} (h : mv_cM M mo) (f : mv_fr Q M M1) (h1 : ¬ Q 1 1) (h2 : ∀ k, ¬ Q 2 k) : mv_cM M1 mo := by
  refine ⟨?_, fun k g hk hg => ?_⟩
  · rw [f 1 1 h1]; exact h.1
  · rw [f 2 k (h2 k)]; exact h.2 k g hk hg
theorem mv_rC.fr {Q : Nat → Nat → Prop} {M M1 : mj_M} {r : Nat} {cs : mv_CS} (h : mv_rC M r cs) (f : mv_fr Q M M1) (h1 : ∀ k, ¬ Q r k) : mv_rC M1 r cs := by
  have e : M1 r = M r := funext (fun k => f r k (h1 k))
  unfold mv_rC
  rw [e]
  exact h
theorem mv_cC.fr {Q : Nat → Nat → Prop} {M M1 : mj_M} {b : Nat} {cs : mv_CS} (h : mv_cC M b cs) (f : mv_fr Q M M1) (h0 : ∀ k, 6 ≤ k → k ≤ 8 → ¬ Q b k) (h1 : ∀ j k, 1 ≤ j → j ≤ 3 → ¬ Q (b + j) k) : mv_cC M1 b cs := by
  have e1 : M1 (b + 1) = M (b + 1) := funext (fun k => f _ k (h1 1 k (by omega) (by omega)))
  have e2 : M1 (b + 2) = M (b + 2) := funext (fun k => f _ k (h1 2 k (by omega) (by omega)))
  have e3 : M1 (b + 3) = M (b + 3) := funext (fun k => f _ k (h1 3 k (by omega) (by omega)))
  unfold mv_cC
  rw [e1, e2, e3, f b 6 (h0 6 (by omega) (by omega)), f b 7 (h0 7 (by omega) (by omega)), f b 8 (h0 8 (by omega) (by omega))]
  exact h
def mv_B (M : mj_M) (mo : Nat → Option Nat) (cs : mv_CS) : Prop := mv_rM M mo ∧ mv_cM M mo ∧ mv_wM mo ∧ mv_rC M 46 cs ∧ mv_cC M 3 cs ∧ mv_wC mo cs
theorem mv_B.fr {Q : Nat → Nat → Prop} {M M1 : mj_M} {mo : Nat → Option Nat} {cs : mv_CS} (h : mv_B M mo cs) (f : mv_fr Q M M1) (hq : ∀ a k, Q a k → ¬ (a = 1 ∧ k = 1) ∧ a ≠ 2 ∧ ¬ (a = 3 ∧ 6 ≤ k ∧ k ≤ 8) ∧ ¬ (4 ≤ a ∧ a ≤ 6) ∧ a ≠ 46 ∧ a ≠ 49) : mv_B M1 mo cs := by
  obtain ⟨h1, h2, h3, h4, h5, h6⟩ := h
  refine ⟨h1.fr f (fun k z => (hq _ _ z).2.2.2.2.2 rfl), h2.fr f (fun z => (hq _ _ z).1 ⟨rfl, rfl⟩) (fun k z => (hq _ _ z).2.1 rfl), h3, h4.fr f (fun k z => (hq _ _ z).2.2.2.2.1 rfl), h5.fr f (fun k a b z => (hq _ _ z).2.2.1 ⟨rfl, a, b⟩) (fun j k a b z => (hq _ _ z).2.2.2.1 ⟨by omega, by omega⟩), h6⟩
theorem mv_B.sc {M M1 : mj_M} {mo : Nat → Option Nat} {cs : mv_CS} (h : mv_B M mo cs) (f : mv_fr mv_Sc M M1) : mv_B M1 mo cs := h.fr f (fun a k z => by unfold mv_Sc at z; omega)
def mv_Tp (M : mj_M) (n : Nat) (tp : Nat → Nat) : Prop := M 21 1 = nI n ∧ M 45 5 = nI n ∧ n ≤ 260 ∧ ∀ j, j < 260 → tp j < 256 ∧ M 22 j = nI (tp j) ∧ M 50 j &&& 255 = nI (tp j)
def mv_Or (M : mj_M) (n : Nat) (od : Nat → Nat) : Prop := M 23 4 = nI n ∧ M 45 32 = nI n ∧ n ≤ 60 ∧ ∀ j, j < n → od j < 8 ∧ M 24 j = nI (od j) ∧ M 64 j = nI (od j)
theorem mv_Tp.fr {Q : Nat → Nat → Prop} {M M1 : mj_M} {n : Nat} {tp : Nat → Nat} (h : mv_Tp M n tp) (f : mv_fr Q M M1) (hq : ∀ a k, Q a k → ¬ (a = 21 ∧ k = 1) ∧ ¬ (a = 45 ∧ k = 5) ∧ a ≠ 22 ∧ a ≠ 50) : mv_Tp M1 n tp := by
  obtain ⟨h1, h2, h3, h4⟩ := h
  refine ⟨by rw [f 21 1 (fun z => (hq _ _ z).1 ⟨rfl, rfl⟩)]; exact h1, by rw [f 45 5 (fun z => (hq _ _ z).2.1 ⟨rfl, rfl⟩)]; exact h2, h3, fun j hj => ?_⟩
  rw [f 22 j (fun z => (hq _ _ z).2.2.1 rfl), f 50 j (fun z => (hq _ _ z).2.2.2 rfl)]
  exact h4 j hj
theorem mv_Or.fr {Q : Nat → Nat → Prop} {M M1 : mj_M} {n : Nat} {od : Nat → Nat} (h : mv_Or M n od) (f : mv_fr Q M M1) (hq : ∀ a k, Q a k → ¬ (a = 23 ∧ k = 4) ∧ ¬ (a = 45 ∧ k = 32) ∧ a ≠ 24 ∧ a ≠ 64) : mv_Or M1 n od := by
  obtain ⟨h1, h2, h3, h4⟩ := h
  refine ⟨by rw [f 23 4 (fun z => (hq _ _ z).1 ⟨rfl, rfl⟩)]; exact h1, by rw [f 45 32 (fun z => (hq _ _ z).2.1 ⟨rfl, rfl⟩)]; exact h2, h3, fun j hj => ?_⟩
  rw [f 24 j (fun z => (hq _ _ z).2.2.1 rfl), f 64 j (fun z => (hq _ _ z).2.2.2 rfl)]
  exact h4 j hj
section MV9
variable {sl d : Nat} {M : mj_M} {mo : Nat → Option Nat} {cs : mv_CS}
theorem p_commands (B : mv_B M mo cs) : ∃ v M1, mj_C sl (d + 6) i_X8_commands [.ref 0] M = some (v, M1) ∧ mv_fr mv_Sc M M1 ∧ mj_C sl (d + 6) i_X9_commands [.ref 45] M1 = some (v, M1) := by
  obtain ⟨M1, e1, k1⟩ := c_firstInRank (sl := sl) (d := d + 2) (b := 3) rfl B.2.1 B.2.2.1 B.2.2.2.2.1 B.2.2.2.2.2
  have f1 := k1.fr (mv_P2s (b := 3) rfl)
  have B1 := B.sc f1
  refine ⟨mv_first mo cs, M1, ?_, f1, ?_⟩
  · rw [b_X8_commands, e1]
    rfl
  · rw [b_X9_commands, r_firstInRank B1.1 B1.2.2.1 B1.2.2.2.1 B1.2.2.2.2.2]
    rfl
def mv_gd (mo : Nat → Option Nat) (cs : mv_CS) (c : Nat) : Nat → Nat
  | 0 => 0
  | k + 1 => mv_gd mo cs c k + (if (mo k).isSome = true ∧ mv_rd mo (mv_fm mo cs c k) = nI k then 1 else 0)
def mv_nt (mo : Nat → Option Nat) (cs : mv_CS) (c : Nat) : Nat → Nat
  | 0 => 0
  | k + 1 => mv_nt mo cs c k + (if (mo k).isSome = true ∧ mv_rd mo (mv_fm mo cs c k) = -2 then 1 else 0)
theorem c_formsRead {c : Nat} {z : Int32} {F : Nat → Nat} (hz : z = 0 ∧ F = mv_nt mo cs c ∨ ¬ z = 0 ∧ F = mv_gd mo cs c) (B : mv_B M mo cs) (hc10 : c < 10) : mj_C sl (d + 3) i_X8_formsRead [.ref 0, .int (nI c), .int z] M = some (nI (F 8), M) := by
  obtain ⟨hm, hcm, hw, hr, hc, hwc⟩ := B
  rw [b_X8_formsRead]
  have h : ∀ k, k ≤ 8 → mj_E sl (d + 2 + 1) i_X8_formsRead 5 [.ref 0, .int (nI c), .int z, .int (nI (F k)), .int (nI k)] [] M = some (nI (F 8), M) := mq_up (by rw [b_X8_formsRead_5, if_neg (by decide)]) (fun k hk ih => by
    rw [b_X8_formsRead_5]
    simp (disch := omega) only [s_ltL, s_addL, hk, if_true, c_hasM hcm hk, Option.bind_some, s_b0]
    by_cases mk : (mo k).isSome = true
    · simp only [mk, not_true, if_false, c_formAt rfl hcm hc hwc hc10 hk mk, Option.bind_some, c_nearest hcm hw (mv_fm_lt hw hwc c k)]
      rcases hz with ⟨z0, rfl⟩ | ⟨z0, rfl⟩
      · rw [mv_nt] at ih
        rw [if_pos z0]
        by_cases h : mv_rd mo (mv_fm mo cs c k) = -2
        · rw [if_pos ⟨mk, h⟩] at ih
          rw [if_pos h]
          exact ih
        · rw [if_neg (fun q => h q.2)] at ih
          rw [if_neg h]
          exact ih
      · rw [mv_gd] at ih
        rw [if_neg z0]
        by_cases h : mv_rd mo (mv_fm mo cs c k) = nI k
        · rw [if_pos ⟨mk, h⟩] at ih
          rw [if_pos h]
          exact ih
        · rw [if_neg (fun q => h q.2)] at ih
          rw [if_neg h]
          exact ih
    · simp only [mk, not_false_eq_true, if_true]
      rcases hz with ⟨z0, rfl⟩ | ⟨z0, rfl⟩
      · rw [mv_nt, if_neg (fun q => mk q.1)] at ih
        exact ih
      · rw [mv_gd, if_neg (fun q => mk q.1)] at ih
        exact ih)
  have h0 := h 0 (Nat.zero_le _)
  rcases hz with ⟨z0, rfl⟩ | ⟨z0, rfl⟩
  · exact h0
  · exact h0
theorem p_courtierIs {x y : Int32} (B : mv_B M mo cs) : ∃ v M1, mj_C sl (d + 6) i_X8_courtierIs [.ref 0, .int x, .int y] M = some (v, M1) ∧ mv_fr mv_Sc M M1 ∧ mj_C sl (d + 6) i_X9_courtierIs [.ref 45, .int x, .int y] M1 = some (v, M1) := by
  obtain ⟨hm, hcm, hw, hr, hc, hwc⟩ := id B
  rcases mv_toldE x rfl hr hc with ⟨h1, h2⟩ | ⟨c, hc10, rfl, tc, h1, h2⟩
  · rw [b_X8_courtierIs]
    simp only [h1, Option.bind_some, if_true]
    refine ⟨_, _, rfl, mv_fr.rf, ?_⟩
    rw [b_X9_courtierIs]
    simp only [h2, Option.bind_some, if_true]
  · have R : ∀ M1, mv_B M1 mo cs → ∀ k, k ≤ 8 → ∀ w, ∃ w2, mj_E sl (d + 5 + 1) i_X9_courtierIs 18 [.ref 45, .int (nI c), .int y, .int (nI (mv_gd mo cs c k)), .int (nI (mv_nt mo cs c k)), .int (nI k), w] [] M1 = mj_E sl (d + 5 + 1) i_X9_courtierIs 18 [.ref 45, .int (nI c), .int y, .int (nI (mv_gd mo cs c 8)), .int (nI (mv_nt mo cs c 8)), .int (nI 8), w2] [] M1 := by
      intro M1 B1
      obtain ⟨hm, hcm, hw, hr, hc, hwc⟩ := B1
      refine mq_up (fun w => ⟨w, rfl⟩) (fun k hk ih w => ?_)
      rw [b_X9_courtierIs_18]
      rw [mv_gd, mv_nt] at ih
      simp (disch := omega) only [s_ltL, s_addL, hk, if_true, r_isLetter hm hw hk, Option.bind_some, s_b0]
      by_cases mk : (mo k).isSome = true
      · simp only [mk, not_true, if_false, r_formNow hm hw hr hwc hc10 hk mk, Option.bind_some, r_readsAs hm hw (mv_fm_lt hw hwc c k)]
        simp only [mk, true_and] at ih
        by_cases a1 : mv_rd mo (mv_fm mo cs c k) = nI k
        · by_cases a2 : mv_rd mo (mv_fm mo cs c k) = -2
          · simp only [a1, a2, if_true] at ih ⊢
            rw [a1] at a2
            simp only [a2, if_true] at ih ⊢
            exact ih _
          · simp only [a1, a2, if_true, if_false, Nat.add_zero] at ih ⊢
            rw [a1] at a2
            simp only [a2, if_false, Nat.add_zero] at ih ⊢
            exact ih _
        · by_cases a2 : mv_rd mo (mv_fm mo cs c k) = -2
          · simp only [a1, a2, if_true, if_false, Nat.add_zero] at ih ⊢
            rw [a2] at a1
            simp only [a1, if_false, Nat.add_zero] at ih ⊢
            exact ih _
          · simp only [a1, a2, if_true, if_false, Nat.add_zero] at ih ⊢
            exact ih _
      · simp only [mk, not_false_eq_true, if_true]
        simp only [mk, false_and, if_false, Nat.add_zero, Bool.false_eq_true] at ih
        exact ih _
    have z8 : ¬ nI 8 < 8 := by decide
    have RR : ∀ M1, mv_B M1 mo cs → (∀ sl d, mj_C sl (d + 1) i_X9_isTold [.ref 45, .int (nI c)] M1 = some (1, M1)) → ∃ w2, mj_C sl (d + 6) i_X9_courtierIs [.ref 45, .int (nI c), .int y] M1 = mj_E sl (d + 5 + 1) i_X9_courtierIs 18 [.ref 45, .int (nI c), .int y, .int (nI (mv_gd mo cs c 8)), .int (nI (mv_nt mo cs c 8)), .int (nI 8), w2] [] M1 := by
      intro M1 B1 h2
      obtain ⟨w2, e⟩ := R M1 B1 0 (by omega) .null
      refine ⟨w2, ?_⟩
      rw [b_X9_courtierIs]
      simp only [h2, Option.bind_some, s_10, if_false]
      exact e
    rw [b_X8_courtierIs]
    simp only [h1, Option.bind_some, s_10, if_false]
    have g1 := (hwc.1 c tc).1
    by_cases y3 : y = 3
    · obtain ⟨M1, e1, k1, f1, r1⟩ := c_rankAll (sl := sl) (d := d + 3) (b := 3) rfl hcm hw hc hwc
      have fr1 := k1.fr (mv_P2s (b := 3) rfl)
      have B1 := B.sc fr1
      refine ⟨nI (mv_rk mo cs c), M1, ?_, fr1, ?_⟩
      · rw [y3, if_neg (by decide), if_neg (by decide), if_neg (by decide), if_pos rfl, e1]
        simp (disch := omega) only [Option.bind_some, s_in, s_cl, if_true]
        rw [show (8 : Nat) = 3 + 5 from rfl, r1 c hc10 tc]
      · obtain ⟨w2, e⟩ := RR M1 B1 (fun sl d => by rw [r_isTold B1.2.2.2.1 hc10, tc]; rfl)
        rw [e, b_X9_courtierIs_18]
        simp only [z8, if_false]
        rw [y3, if_neg (by decide), if_neg (by decide), if_neg (by decide), if_pos rfl, r_rankOf B1.1 hw B1.2.2.2.1 hwc hc10 tc]
        rfl
    · obtain ⟨w2, e⟩ := RR M B h2
      rw [b_X9_courtierIs_18] at e
      suffices hs : ∃ v, _ = some (v, M) ∧ mj_C sl (d + 6) i_X9_courtierIs [.ref 45, .int (nI c), .int y] M = some (v, M) from by
        obtain ⟨v, a1, a2⟩ := hs
        exact ⟨v, M, a1, mv_fr.rf, a2⟩
      rw [e]
      simp (disch := omega) only [z8, if_false, y3, s_in, s_cl, s_Ladd, if_true, (hr.2.1 c hc10 tc).1, (hr.2.1 c hc10 tc).2, (hc.2.1 c hc10 tc).1, (hc.2.1 c hc10 tc).2, c_faultsOf (b := 3) rfl hcm hw hc hwc hc10, r_faultsOf hm hw hr hwc hc10, Option.bind_some]
      have t1 := c_formsRead (sl := sl) (d := d + 2) (z := 1) (F := mv_gd mo cs c) (Or.inr ⟨mq_10, rfl⟩) B hc10
      have t0 := c_formsRead (sl := sl) (d := d + 2) (z := 0) (F := mv_nt mo cs c) (Or.inl ⟨rfl, rfl⟩) B hc10
      simp only [t1, t0, Option.bind_some]
      by_cases y0 : y = 0
      · simp only [y0, if_true]
        exact ⟨_, rfl, rfl⟩
      by_cases y1 : y = 1
      · simp only [y1, s_10, if_true, if_false]
        exact ⟨_, rfl, rfl⟩
      by_cases y2 : y = 2
      · simp only [y0, y1, y2, if_true, if_false]
        exact ⟨_, rfl, rfl⟩
      by_cases y4 : y = 4
      · simp only [y0, y1, y2, y4, if_true, if_false]
        exact ⟨_, rfl, rfl⟩
      by_cases y5 : y = 5
      · simp only [y0, y1, y2, y4, y5, if_true, if_false]
        exact ⟨_, rfl, rfl⟩
      · simp only [y0, y1, y2, y4, y5, if_true, if_false]
        exact ⟨_, rfl, rfl⟩
end MV9
