def mv_ah (mo : Nat → Option Nat) (cs : mv_CS) (e c : Nat) : Bool := if mv_fl mo cs e = mv_fl mo cs c then (if mv_ag cs e = mv_ag cs c then decide (e < c) else decide (mv_ag cs c < mv_ag cs e)) else decide (mv_fl mo cs e < mv_fl mo cs c)
def mv_rkS (mo : Nat → Option Nat) (cs : mv_CS) (c : Nat) : Nat → Nat
  | 0 => 0
  | e + 1 => mv_rkS mo cs c e + (if e ≠ c ∧ mv_to cs e = true ∧ mv_ah mo cs e c = true then 1 else 0)
def mv_rk (mo : Nat → Option Nat) (cs : mv_CS) (c : Nat) : Nat := mv_rkS mo cs c 10
theorem mv_rkS_le (mo : Nat → Option Nat) (cs : mv_CS) (c : Nat) : ∀ e, mv_rkS mo cs c e ≤ e
  | 0 => Nat.le_refl 0
  | e + 1 => by
    have := mv_rkS_le mo cs c e
    rw [mv_rkS]
    split <;> omega
theorem mv_fl_le (mo : Nat → Option Nat) (cs : mv_CS) (c : Nat) : mv_fl mo cs c ≤ 200 := mv_fS_le mo cs c 8
theorem mv_ah_self (mo : Nat → Option Nat) (cs : mv_CS) (c : Nat) : mv_ah mo cs c c = false := by
  unfold mv_ah
  rw [if_pos rfl, if_pos rfl]
  simp
def mv_frS (mo : Nat → Option Nat) (cs : mv_CS) : Nat → Nat → Int32
  | 0, _ => -2
  | n + 1, c => if mv_to cs c = true ∧ mv_rk mo cs c = 0 then nI c else mv_frS mo cs n (c + 1)
def mv_first (mo : Nat → Option Nat) (cs : mv_CS) : Int32 := mv_frS mo cs 10 0
def mv_keep (P : Nat → Prop) (M M1 : mj_M) : Prop := ∀ a, ¬ P a → M1 a = M a
theorem mv_keep.rf {P : Nat → Prop} {M : mj_M} : mv_keep P M M := fun _ _ => rfl
theorem mv_keep.tr {P : Nat → Prop} {M M1 M2 : mj_M} (h : mv_keep P M M1) (h2 : mv_keep P M1 M2) : mv_keep P M M2 := fun a ha => (h2 a ha).trans (h a ha)
theorem mv_keep.st {P : Nat → Prop} {M M1 : mj_M} {a k : Nat} {x : Int32} (h : mv_keep P M M1) (ha : P a) : mv_keep P M (mj_st M1 a k x) := fun q hq => (mq_st_row (fun z => hq (by rw [z]; exact ha))).trans (h q hq)
theorem mv_cC.keep {P : Nat → Prop} {M M1 : mj_M} {b : Nat} {cs : mv_CS} (h : mv_cC M b cs) (hk : mv_keep P M M1) (h0 : ¬ P b) (h1 : ¬ P (b + 1)) (h2 : ¬ P (b + 2)) (h3 : ¬ P (b + 3)) : mv_cC M1 b cs := by
  unfold mv_cC
  rw [hk b h0, hk (b + 1) h1, hk (b + 2) h2, hk (b + 3) h3]
  exact h
theorem mv_cM.keep {P : Nat → Prop} {M M1 : mj_M} {mo : Nat → Option Nat} (h : mv_cM M mo) (hk : mv_keep P M M1) (h1 : ¬ P 1) (h2 : ¬ P 2) : mv_cM M1 mo := by
  unfold mv_cM
  rw [hk 1 h1, hk 2 h2]
  exact h
def mv_P2 (b : Nat) : Nat → Prop := fun a => a = b + 4 ∨ a = b + 5
section MV6
variable {sl d : Nat} {M : mj_M} {mo : Nat → Option Nat} {cs : mv_CS}
theorem r_isAhead {e c : Nat} (hm : mv_rM M mo) (hw : mv_wM mo) (hr : mv_rC M 46 cs) (hwc : mv_wC mo cs) (he : e < 10) (hc : c < 10) (te : mv_to cs e = true) (tc : mv_to cs c = true) : mj_C sl (d + 3) i_X9_isAhead [.ref 45, .int (nI e), .int (nI c)] M = some (if mv_ah mo cs e c then 1 else 0, M) := by
  have l1 := mv_fl_le mo cs e
  have l2 := mv_fl_le mo cs c
  have g1 := (hwc.1 e te).1
  have g2 := (hwc.1 c tc).1
  rw [b_X9_isAhead, r_faultsOf hm hw hr hwc he]
  simp only [Option.bind_some]
  rw [r_faultsOf hm hw hr hwc hc]
  simp only [Option.bind_some]
  unfold mv_ah
  by_cases h1 : mv_fl mo cs e = mv_fl mo cs c
  · rw [if_pos ((mq_eq (by omega) (by omega)).mpr h1), if_pos h1, show (10 : Int32) = nI 10 from rfl, nI_add, nI_add, if_pos (mq_inT (by omega) (by decide)), if_pos (mq_inT (by omega) (by decide)), nI_clamp (by omega), nI_clamp (by omega), (hr.2.1 e he te).1, (hr.2.1 c hc tc).1]
    by_cases h2 : mv_ag cs e = mv_ag cs c
    · rw [if_pos ((mq_eq (by omega) (by omega)).mpr h2), if_pos h2]
      by_cases h3 : e < c
      · rw [if_pos ((mq_lt (by omega) (by omega)).mpr h3)]
        simp [h3]
      · rw [if_neg (fun z => h3 ((mq_lt (by omega) (by omega)).mp z))]
        simp [h3]
    · rw [if_neg (fun z => h2 ((mq_eq (by omega) (by omega)).mp z)), if_neg h2, if_pos (mq_inT (by omega) (by decide)), if_pos (mq_inT (by omega) (by decide))]
      by_cases h3 : mv_ag cs c < mv_ag cs e
      · rw [if_neg (fun z => absurd ((mq_le (by omega) (by omega)).mp z) (by omega))]
        simp [h3]
      · rw [if_pos ((mq_le (by omega) (by omega)).mpr (by omega))]
        simp [h3]
  · rw [if_neg (fun z => h1 ((mq_eq (by omega) (by omega)).mp z)), if_neg h1]
    by_cases h3 : mv_fl mo cs e < mv_fl mo cs c
    · rw [if_pos ((mq_lt (by omega) (by omega)).mpr h3)]
      simp [h3]
    · rw [if_neg (fun z => h3 ((mq_lt (by omega) (by omega)).mp z))]
      simp [h3]
theorem r_rankOf {c : Nat} (hm : mv_rM M mo) (hw : mv_wM mo) (hr : mv_rC M 46 cs) (hwc : mv_wC mo cs) (hc : c < 10) (tc : mv_to cs c = true) : mj_C sl (d + 4) i_X9_rankOf [.ref 45, .int (nI c)] M = some (nI (mv_rk mo cs c), M) := by
  rw [b_X9_rankOf]
  have h : ∀ e, e ≤ 10 → mj_E sl (d + 3 + 1) i_X9_rankOf 4 [.ref 45, .int (nI c), .int (nI (mv_rkS mo cs c e)), .int (nI e)] [] M = some (nI (mv_rk mo cs c), M) := mq_up (by rw [b_X9_rankOf_4, if_neg (by decide)]; rfl) (fun e he ih => by
    rw [b_X9_rankOf_4, if_pos (show nI e < 10 from (nI_lt he (by decide) : nI e < nI 10))]
    rw [mv_rkS] at ih
    by_cases h1 : e = c
    · rw [if_pos ((mq_eq (by omega) (by omega)).mpr h1), nI_1]
      rw [if_neg (fun z => z.1 h1)] at ih
      exact ih
    · rw [if_neg (fun z => h1 ((mq_eq (by omega) (by omega)).mp z)), r_isTold hr he]
      simp only [Option.bind_some]
      cases te : mv_to cs e with
      | false =>
        rw [if_pos (by rfl), nI_1]
        rw [te, if_neg (fun z => by cases z.2.1)] at ih
        exact ih
      | true =>
        rw [if_neg (show ¬ (if true = true then (1 : Int32) else 0) = 0 from mq_10), r_isAhead hm hw hr hwc he hc te tc]
        simp only [Option.bind_some]
        cases ha : mv_ah mo cs e c with
        | false =>
          rw [if_pos (by rfl), nI_1]
          rw [ha, if_neg (fun z => by cases z.2.2)] at ih
          exact ih
        | true =>
          rw [if_neg (show ¬ (if true = true then (1 : Int32) else 0) = 0 from mq_10), nI_1, nI_1]
          rw [te, ha, if_pos ⟨h1, rfl, rfl⟩] at ih
          exact ih)
  exact h 0 (Nat.zero_le _)
theorem r_firstInRank (hm : mv_rM M mo) (hw : mv_wM mo) (hr : mv_rC M 46 cs) (hwc : mv_wC mo cs) : mj_C sl (d + 5) i_X9_firstInRank [.ref 45] M = some (mv_first mo cs, M) := by
  rw [b_X9_firstInRank]
  have h : ∀ n c, c + n = 10 → mj_E sl (d + 4 + 1) i_X9_firstInRank 2 [.ref 45, .int (nI c)] [] M = some (mv_frS mo cs n c, M) := by
    intro n
    induction n with
    | zero =>
      intro c hc
      obtain rfl : c = 10 := by omega
      rw [b_X9_firstInRank_2, if_neg (by decide)]
      rfl
    | succ n ih =>
      intro c hc
      have hc10 : c < 10 := by omega
      have hle := mv_rkS_le mo cs c 10
      rw [b_X9_firstInRank_2, if_pos (show nI c < 10 from (nI_lt hc10 (by decide) : nI c < nI 10)), r_isTold hr hc10, mv_frS]
      simp only [Option.bind_some]
      cases tc : mv_to cs c with
      | false =>
        rw [if_pos (by rfl), nI_1, ih (c + 1) (by omega), if_neg (fun z => by cases z.1)]
      | true =>
        rw [if_neg (show ¬ (if true = true then (1 : Int32) else 0) = 0 from mq_10), r_rankOf hm hw hr hwc hc10 tc]
        simp only [Option.bind_some]
        by_cases h0 : mv_rk mo cs c = 0
        · rw [if_pos (show nI (mv_rk mo cs c) = 0 from by rw [h0]; rfl), if_pos (by exact ⟨trivial, h0⟩)]
        · rw [if_neg (show ¬ nI (mv_rk mo cs c) = 0 from fun z => h0 ((mq_eq (b := 0) (by unfold mv_rk; omega) (by decide)).mp z)), nI_1, ih (c + 1) (by omega), if_neg (fun z => h0 z.2)]
  exact h 10 0 rfl
theorem c_isAhead {b e c : Nat} (hb : mj_ocl b = 0) (hc : mv_cC M b cs) (hwc : mv_wC mo cs) (hf : ∀ j, j < 10 → M (b + 4) j = nI (mv_fl mo cs j)) (he : e < 10) (hc10 : c < 10) : ∃ v, mj_C sl d i_X1_isAhead [.ref b, .int (nI e), .int (nI c)] M = some (v, M) ∧ (mv_to cs e = true → mv_to cs c = true → v = if mv_ah mo cs e c then 1 else 0) := by
  have l1 := mv_fl_le mo cs e
  have l2 := mv_fl_le mo cs c
  rw [b_X1_isAhead hb, if_pos (mq_inT he (by decide)), if_pos (mq_inT hc10 (by decide)), if_pos (mq_inT he (by decide)), if_pos (mq_inT hc10 (by decide)), if_pos (mq_inT he (by decide)), if_pos (mq_inT hc10 (by decide)), nI_clamp (by omega), nI_clamp (by omega), hf e he, hf c hc10]
  by_cases h1 : mv_fl mo cs e = mv_fl mo cs c
  · rw [if_pos ((mq_eq (by omega) (by omega)).mpr h1)]
    by_cases t : mv_to cs e = true ∧ mv_to cs c = true
    · obtain ⟨te, tc⟩ := t
      have g1 := (hwc.1 e te).1
      have g2 := (hwc.1 c tc).1
      rw [(hc.2.1 e he te).1, (hc.2.1 c hc10 tc).1]
      by_cases h2 : mv_ag cs e = mv_ag cs c
      · rw [if_pos ((mq_eq (by omega) (by omega)).mpr h2)]
        by_cases h3 : e < c
        · rw [if_pos ((mq_lt (by omega) (by omega)).mpr h3)]
          exact ⟨_, rfl, fun _ _ => by unfold mv_ah; simp [h1, h2, h3]⟩
        · rw [if_neg (fun z => h3 ((mq_lt (by omega) (by omega)).mp z))]
          exact ⟨_, rfl, fun _ _ => by unfold mv_ah; simp [h1, h2, h3]⟩
      · rw [if_neg (fun z => h2 ((mq_eq (by omega) (by omega)).mp z))]
        by_cases h3 : mv_ag cs c < mv_ag cs e
        · rw [if_neg (fun z => absurd ((mq_le (by omega) (by omega)).mp z) (by omega))]
          exact ⟨_, rfl, fun _ _ => by unfold mv_ah; simp [h1, h2, h3]⟩
        · rw [if_pos ((mq_le (by omega) (by omega)).mpr (by omega))]
          exact ⟨_, rfl, fun _ _ => by unfold mv_ah; simp [h1, h2, h3]⟩
    · have ht : ∀ v : Int32, mv_to cs e = true → mv_to cs c = true → v = if mv_ah mo cs e c then 1 else 0 := fun v a1 a2 => absurd ⟨a1, a2⟩ t
      split
      · split
        · exact ⟨_, rfl, ht _⟩
        · exact ⟨_, rfl, ht _⟩
      · split
        · exact ⟨_, rfl, ht _⟩
        · exact ⟨_, rfl, ht _⟩
  · rw [if_neg (fun z => h1 ((mq_eq (by omega) (by omega)).mp z)), if_pos (mq_inT he (by decide)), if_pos (mq_inT hc10 (by decide))]
    by_cases h3 : mv_fl mo cs e < mv_fl mo cs c
    · rw [if_pos ((mq_lt (by omega) (by omega)).mpr h3)]
      exact ⟨_, rfl, fun _ _ => by unfold mv_ah; simp [h1, h3]⟩
    · rw [if_neg (fun z => h3 ((mq_lt (by omega) (by omega)).mp z))]
      exact ⟨_, rfl, fun _ _ => by unfold mv_ah; simp [h1, h3]⟩
end MV6
