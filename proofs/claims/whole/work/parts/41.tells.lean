theorem mv_bits_tb (f : Nat → Bool) {n j : Nat} (hj : j < n) : (mv_bits f n).testBit j = f j := by
  have h := mv_bits_bt f hj
  rw [mq_bt_tb] at h
  cases h1 : (mv_bits f n).testBit j <;> cases h2 : f j <;> simp [h1, h2] at h ⊢
theorem mv_bits_or (f f2 : Nat → Bool) {n k : Nat} (hk : k < n) (h : ∀ j, f2 j = (decide (j = k) || f j)) : mv_bits f n ||| 2 ^ k = mv_bits f2 n := by
  apply Nat.eq_of_testBit_eq
  intro i
  rw [Nat.testBit_or, Nat.testBit_two_pow]
  by_cases hi : i < n
  · rw [mv_bits_tb f hi, mv_bits_tb f2 hi, h i, Bool.or_comm, show decide (k = i) = decide (i = k) from by simp [eq_comm]]
  · have e : 2 ^ n ≤ 2 ^ i := Nat.pow_le_pow_right (by decide) (by omega)
    rw [Nat.testBit_lt_two_pow (Nat.lt_of_lt_of_le (mv_bits_lt f n) e), Nat.testBit_lt_two_pow (Nat.lt_of_lt_of_le (mv_bits_lt f2 n) e)]
    simp
    omega
theorem mq_one {k : Nat} (hk : k < 31) : (1 : Int32) <<< (nI k &&& 31) = nI (2 ^ k) := by
  have h : 2 ^ k < 2 ^ 32 := Nat.pow_lt_pow_right (by decide) (by omega)
  have := mq_shl (g := 1) (j := k) (by omega) (by omega)
  rw [Nat.one_mul] at this
  exact this
def mv_Qm (a k : Nat) : Prop := a = 49 ∨ a = 2 ∨ (a = 1 ∧ k = 1)
def mv_Qp (a k : Nat) : Prop := a = 48 ∨ mv_Qk 9 a k ∨ (a = 0 ∧ k = 10) ∨ (a = 45 ∧ k = 45)
theorem mq_72 {Q : Nat → Nat → Prop} {M M1 : mj_M} (f : mv_fr Q M M1) (h : ∀ k, ¬ Q 72 k) : M1 72 = M 72 := funext (fun k => f 72 k (h k))
section MV12
variable {sl d : Nat} {M : mj_M} {mo : Nat → Option Nat} {cs : mv_CS}
theorem p_keep (B : mv_B M mo cs) : ∃ v M1 M2, mj_C sl (d + 2) i_X8_keep [.ref 0] M = some (v, M1) ∧ M1 72 = M 72 ∧ mj_C sl (d + 2) i_X9_keep [.ref 45] M1 = some (v, M2) ∧ mv_fr mv_Qp M M2 ∧ mv_Kp M2 mo true cs := by
  obtain ⟨hm, hcm, hw, hr, hc, hwc⟩ := B
  rw [b_X8_keep]
  obtain ⟨M1, e1, f1, c1⟩ := c_copyFrom (sl := sl) (d := d) (M := M) (t := 9) (c := 3) rfl rfl (by decide)
  rw [e1]
  simp only [Option.bind_some]
  have g1 : mv_fr mv_Qp M (mj_st M1 0 10 1) := (f1.wk (fun a k z => Or.inr (Or.inl z))).st (Or.inr (Or.inr (Or.inl ⟨rfl, rfl⟩)))
  have g2 : mv_fr mv_Qp M (mj_st (mj_st M1 0 10 1) 45 45 1) := g1.st (Or.inr (Or.inr (Or.inr ⟨rfl, rfl⟩)))
  obtain ⟨M2, e2, f2, c2⟩ := r_copies (sl := sl) (d := d + 1) (M := mj_st (mj_st M1 0 10 1) 45 45 1) (a := 46) (b := 48) rfl (by decide) rfl (by decide) (by decide)
  have g3 : mv_fr mv_Qp M M2 := g2.tr (f2.wk (fun a k z => Or.inl z))
  have r46 : mv_rC (mj_st (mj_st M1 0 10 1) 45 45 1) 46 cs := hr.fr g2 (fun k z => by unfold mv_Qp mv_Qk at z; omega)
  have r48 := c2 cs r46
  have c9 : mv_cC M2 9 cs := ((c1 cs hc).fr (Q := fun a k => (a = 0 ∧ k = 10) ∨ (a = 45 ∧ k = 45) ∨ a = 48) (((mv_fr.st mv_fr.rf (Or.inl ⟨rfl, rfl⟩)).st (Or.inr (Or.inl ⟨rfl, rfl⟩))).tr (f2.wk (fun a k z => Or.inr (Or.inr z)))) (fun k _ _ z => by omega) (fun j k _ _ z => by omega))
  refine ⟨_, _, M2, rfl, mq_72 g1 (fun k z => by unfold mv_Qp mv_Qk at z; omega), ?_, g3, ?_, ?_, fun _ => ⟨r48, c9, hwc⟩⟩
  · rw [b_X9_keep, e2]
    simp only [Option.bind_some]
    rw [f2 46 110 (by decide), r46.2.2.2.1, mq_st_ne (by omega), f1 3 7 (by unfold mv_Qk; omega), hc.2.2.2.1]
  · rw [f2 0 10 (by decide), mq_st_ne (by omega), mq_st_eq]; rfl
  · rw [f2 45 45 (by decide), mq_st_eq]; rfl
theorem p_undo {kp : Bool} {ck : mv_CS} (B : mv_B M mo cs) (K : mv_Kp M mo kp ck) : ∃ v M1 M2, mj_C sl (d + 2) i_X8_undo [.ref 0] M = some (v, M1) ∧ M1 72 = M 72 ∧ mj_C sl (d + 2) i_X9_undo [.ref 45] M1 = some (v, M2) ∧ mv_fr mv_Qs M M2 ∧ ∃ cs', mv_B M2 mo cs' := by
  obtain ⟨hm, hcm, hw, hr, hc, hwc⟩ := id B
  obtain ⟨k1, k2, k3⟩ := K
  rw [b_X8_undo, k1]
  cases kp with
  | false =>
    refine ⟨0, M, M, if_pos rfl, rfl, ?_, mv_fr.rf, cs, B⟩
    rw [b_X9_undo, k2]
    exact if_pos rfl
  | true =>
    obtain ⟨r48, c9, wk⟩ := k3 rfl
    obtain ⟨M1, e1, f1, c1⟩ := c_copyFrom (sl := sl) (d := d) (M := M) (t := 3) (c := 9) rfl rfl (by decide)
    rw [if_neg (show ¬ mv_bi true = 0 from mq_10), e1]
    have g1 : mv_fr mv_Qs M M1 := f1.wk (fun a k z => Or.inr z)
    obtain ⟨M2, e2, f2, c2⟩ := r_copies (sl := sl) (d := d + 1) (M := M1) (a := 48) (b := 46) rfl (by decide) rfl (by decide) (by decide)
    have g2 : mv_fr mv_Qs M M2 := g1.tr (f2.wk (fun a k z => Or.inl z))
    refine ⟨1, M1, M2, rfl, mq_72 g1 (fun k z => by unfold mv_Qs mv_Qk at z; omega), ?_, g2, ck, ?_⟩
    · rw [b_X9_undo, g1 45 45 (by unfold mv_Qs mv_Qk; omega), k2, if_neg (show ¬ mv_bi true = 0 from mq_10), e2]
      rfl
    · refine ⟨hm.fr g2 (fun k z => by unfold mv_Qs mv_Qk at z; omega), hcm.fr g2 (by unfold mv_Qs mv_Qk; omega) (fun k z => by unfold mv_Qs mv_Qk at z; omega), hw, c2 ck (r48.fr g1 (fun k z => by unfold mv_Qs mv_Qk at z; omega)), (c1 ck c9).fr f2 (fun k _ _ z => by omega) (fun j k _ _ z => by omega), wk⟩
theorem p_model {x y : Int32} (B : mv_B M mo cs) : ∃ v M1 M2, mj_C sl (d + 2) i_X8_model [.ref 0, .int x, .int y] M = some (v, M1) ∧ M1 72 = M 72 ∧ mj_C sl (d + 2) i_X9_model [.ref 45, .int x, .int y] M1 = some (v, M2) ∧ mv_fr mv_Qm M M2 ∧ ∃ mo', mv_B M2 mo' cs ∧ ∀ k, (mo k).isSome = true → (mo' k).isSome = true := by
  obtain ⟨hm, hcm, hw, hr, hc, hwc⟩ := id B
  have no : ∀ h : x < 0 ∨ nI 8 ≤ x, ∃ v M1 M2, mj_C sl (d + 2) i_X8_model [.ref 0, .int x, .int y] M = some (v, M1) ∧ M1 72 = M 72 ∧ mj_C sl (d + 2) i_X9_model [.ref 45, .int x, .int y] M1 = some (v, M2) ∧ mv_fr mv_Qm M M2 ∧ ∃ mo', mv_B M2 mo' cs ∧ ∀ k, (mo k).isSome = true → (mo' k).isSome = true := by
    intro h
    refine ⟨0, M, M, ?_, rfl, ?_, mv_fr.rf, mo, B, fun k h => h⟩
    · rw [b_X8_model]
      rcases h with h | h
      · rw [if_pos h]
      · split
        · rfl
        · rw [if_neg (show ¬ x < 8 from Int32.not_lt.mpr h)]
    · rw [b_X9_model, r_in]
      simp only [Option.bind_some]
      rw [if_pos]
      rcases h with h | h
      · rw [if_pos h]
      · split
        · rfl
        · rw [if_neg]
          intro h2
          have h3 : nI 8 ≤ nI 7 := Int32.le_trans h h2
          exact absurd h3 (by decide)
  rcases mq_out (x := x) (n := 8) (by decide) with h | h | ⟨k, hk, rfl⟩
  · exact no (Or.inl h)
  · exact no (Or.inr h)
  · clear no
    rcases mv_gr_cases y with ⟨-, e⟩ | ⟨g, hg, rfl, e⟩
    · refine ⟨0, M, M, ?_, rfl, ?_, mv_fr.rf, mo, B, fun k h => h⟩
      · rw [b_X8_model]
        simp (disch := omega) only [s_lt0, s_ltL, Nat.not_lt_zero, hk, if_true, if_false, c_fits, e, Option.bind_some]
      · rw [b_X9_model]
        simp (disch := omega) only [r_in, s_lt0, s_leL, if_false, show k ≤ 7 from by omega, if_true, Option.bind_some, s_10, r_isGrid, e]
    · have hl := mv_bits_lt (fun k => (mo k).isSome) 8
      have g1 : mv_fr mv_Qm M (mj_st (mj_st M 2 k (nI g)) 1 1 (nI (mv_bits (fun k => (mo k).isSome) 8 ||| 2 ^ k))) := (mv_fr.st mv_fr.rf (Or.inr (Or.inl rfl))).st (Or.inr (Or.inr ⟨rfl, rfl⟩))
      have g2 := g1.st (a := 49) (k := k) (x := nI g) (Or.inl rfl)
      refine ⟨1, _, _, ?_, mq_72 g1 (fun k z => by unfold mv_Qm at z; omega), ?_, g2, fun j => if j = k then some g else mo j, ⟨fun j hj => ?_, ⟨?_, fun j q hj hq => ?_⟩, fun j q hq => ?_, hr.fr g2 (fun k z => by unfold mv_Qm at z; omega), hc.fr g2 (fun k _ _ z => by unfold mv_Qm at z; omega) (fun j k _ _ z => by unfold mv_Qm at z; omega), hwc.1, fun c j q hq => ⟨(hwc.2.1 c j q hq).1, ?_⟩, hwc.2.2⟩, fun j hj => ?_⟩
      · rw [b_X8_model]
        simp (disch := omega) only [s_lt0, s_ltL, Nat.not_lt_zero, hk, if_true, if_false, c_fits, s_leL, show g ≤ 33554431 from by omega, Option.bind_some, s_10, b_X5_tell, s_in, s_cl, mq_st_ne, hcm.1, mq_one, mq_or]
      · rw [b_X9_model]
        simp (disch := omega) only [r_in, s_lt0, s_leL, if_false, show k ≤ 7 from by omega, if_true, Option.bind_some, s_10, r_isGrid, show g ≤ 33554431 from by omega, s_in, s_cl]
      · dsimp only
        by_cases q : j = k
        · rw [q, mq_st_eq, if_pos rfl]
          rfl
        · rw [mq_st_ne (Or.inr q), if_neg q]
          exact hm j hj
      · rw [mq_st_ne (by omega), mq_st_eq]
        congr 1
        refine mv_bits_or _ _ hk (fun j => ?_)
        by_cases q : j = k
        · simp [q]
        · simp [q]
      · dsimp only at hq
        by_cases qe : j = k
        · rw [if_pos qe] at hq
          rw [mq_st_ne (by omega), mq_st_ne (by omega), qe, mq_st_eq]
          injection hq with hq
          rw [hq]
        · rw [if_neg qe] at hq
          rw [mq_st_ne (by omega), mq_st_ne (by omega), mq_st_ne (Or.inr qe)]
          exact hcm.2 j q hj hq
      · dsimp only at hq
        by_cases qe : j = k
        · rw [if_pos qe] at hq
          injection hq with hq
          omega
        · rw [if_neg qe] at hq
          exact hw j q hq
      · dsimp only
        by_cases qe : j = k
        · rw [if_pos qe]; rfl
        · rw [if_neg qe]; exact (hwc.2.1 c j q hq).2
      · dsimp only
        by_cases qe : j = k
        · rw [if_pos qe]; rfl
        · rw [if_neg qe]; exact hj
theorem p_form {x y z : Int32} (B : mv_B M mo cs) : ∃ v M1 M2, mj_C sl (d + 2) i_X8_form [.ref 0, .int x, .int y, .int z] M = some (v, M1) ∧ M1 72 = M 72 ∧ mj_C sl (d + 2) i_X9_form [.ref 45, .int x, .int y, .int z] M1 = some (v, M2) ∧ mv_fr mv_Qs M M2 ∧ ∃ cs', mv_B M2 mo cs' := by
  obtain ⟨hm, hcm, hw, hr, hc, hwc⟩ := id B
  rw [b_X8_form]
  rcases mv_toldE x rfl hr hc with ⟨h1, h2⟩ | ⟨c, hc10, rfl, tc, h1, h2⟩
  · refine ⟨0, M, M, by simp only [h1, Option.bind_some, if_true], rfl, ?_, mv_fr.rf, cs, B⟩
    rw [b_X9_form]
    simp only [h2, Option.bind_some, if_true]
  rcases mv_letE y hm hcm hw with ⟨h3, h4⟩ | ⟨k, hk, rfl, mk, h3, h4⟩
  · refine ⟨0, M, M, by simp only [h1, h3, Option.bind_some, if_true, s_10, if_false], rfl, ?_, mv_fr.rf, cs, B⟩
    rw [b_X9_form]
    simp only [h2, h4, Option.bind_some, if_true, s_10, if_false]
  rcases mv_gr_cases z with ⟨-, e⟩ | ⟨g, hg, rfl, e⟩
  · refine ⟨0, M, M, by simp only [h1, h3, c_fits, e, Option.bind_some, if_true, s_10, if_false], rfl, ?_, mv_fr.rf, cs, B⟩
    rw [b_X9_form]
    simp only [h2, h4, r_isGrid, e, Option.bind_some, if_true, s_10, if_false]
  · have g1 : mv_fr mv_Qs M (mj_st M 6 (c * 8 + k) (nI g)) := mv_fr.st mv_fr.rf (Or.inr (Or.inr ⟨by omega, by omega⟩))
    have g2 := g1.st (a := 46) (k := 30 + 8 * c + k) (x := nI g) (Or.inl rfl)
    have B1 : mv_rM (mj_st M 6 (c * 8 + k) (nI g)) mo := hm
    have r1 : mv_rC (mj_st M 6 (c * 8 + k) (nI g)) 46 cs := hr
    refine ⟨1, _, _, ?_, mq_72 g1 (fun k z => by unfold mv_Qs mv_Qk at z; omega), ?_, g2, (mv_to cs, mv_ag cs, mv_in cs, fun a b => if a = c ∧ b = k then some g else mv_ow cs a b, mv_mn cs, mv_x cs), hm, ⟨hcm.1, hcm.2⟩, hw, ⟨fun a ha => ?_, fun a ha ta => ⟨?_, ?_⟩, fun a b ha hb => ?_, ?_, ?_⟩, ⟨hc.1, hc.2.1, fun a b ha hb => ?_, hc.2.2.2.1, hc.2.2.2.2⟩, hwc.1, fun a b q hq => ?_, hwc.2.2⟩
    · simp (disch := omega) only [h1, h3, c_fits, s_lt0, s_leL, show g ≤ 33554431 from by omega, Option.bind_some, if_true, s_10, if_false, b_X1_setForm (t0 := 3) rfl, s_mulL, nI_add, s_in, s_cl]
    · rw [b_X9_form]
      simp (disch := omega) only [r_isTold r1 hc10, r_isLetter B1 hw hk, tc, mk, r_isGrid, s_lt0, s_leL, show g ≤ 33554431 from by omega, Option.bind_some, if_true, s_10, if_false, r_own, s_in, s_cl]
    · rw [mq_st_ne (by omega)]; exact hr.1 a ha
    · rw [mq_st_ne (by omega)]; exact (hr.2.1 a ha ta).1
    · rw [mq_st_ne (by omega)]; exact (hr.2.1 a ha ta).2
    · by_cases q : a = c ∧ b = k
      · rw [q.1, q.2, mq_st_eq]
        show _ = mv_oi (if c = c ∧ k = k then some g else _)
        rw [if_pos ⟨rfl, rfl⟩]
        rfl
      · rw [mq_st_ne (by omega)]
        show _ = mv_oi (if a = c ∧ b = k then some g else _)
        rw [if_neg q]
        exact hr.2.2.1 a b ha hb
    · rw [mq_st_ne (by omega)]; exact hr.2.2.2.1
    · rw [mq_st_ne (by omega)]; exact hr.2.2.2.2
    · rw [mq_st_ne (by omega)]
      by_cases q : a = c ∧ b = k
      · rw [q.1, q.2, show 8 * c + k = c * 8 + k from by omega, mq_st_eq]
        show _ = mv_oi (if c = c ∧ k = k then some g else _)
        rw [if_pos ⟨rfl, rfl⟩]
        rfl
      · rw [mq_st_ne (by omega)]
        show _ = mv_oi (if a = c ∧ b = k then some g else _)
        rw [if_neg q]
        exact hc.2.2.1 a b ha hb
    · by_cases qe : a = c ∧ b = k
      · have hq2 : (if a = c ∧ b = k then some g else mv_ow cs a b) = some q := hq
        rw [if_pos qe] at hq2
        injection hq2 with hq2
        rw [qe.2]
        exact ⟨by omega, mk⟩
      · have hq2 : (if a = c ∧ b = k then some g else mv_ow cs a b) = some q := hq
        rw [if_neg qe] at hq2
        exact hwc.2.1 a b q hq2
end MV12
