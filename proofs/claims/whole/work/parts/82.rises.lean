def mv_rf (tol : Nat → Bool) (r0 r1 : Nat → Nat) : Nat → Int32 × Int32
  | 0 => (-2, 0)
  | c + 1 => if tol c = true then (if nI (r0 c) - nI (r1 c) ≤ (mv_rf tol r0 r1 c).2 then mv_rf tol r0 r1 c else (nI c, nI (r0 c) - nI (r1 c))) else mv_rf tol r0 r1 c
theorem mv_rf_0 (tol : Nat → Bool) (r0 r1 : Nat → Nat) : ∀ c, 0 ≤ (mv_rf tol r0 r1 c).2
  | 0 => show (0 : Int32) ≤ 0 by decide
  | c + 1 => by
    have ih := mv_rf_0 tol r0 r1 c
    unfold mv_rf
    split
    · split
      · exact ih
      · next h => exact Int32.le_trans ih (Int32.le_of_lt (Int32.not_le.mp h))
    · exact ih
section MV50
variable {sl d : Nat} {mo : Nat → Option Nat} {cs : mv_CS}
theorem c_rises68 {M : mj_M} {r0 r1 : Nat → Nat} {w1 : Value} {y : Int32} (cc : mv_cC M 3 cs) (h0 : ∀ j, j < 10 → mv_to cs j = true → M 8 j = nI (r0 j)) (h1 : ∀ j, j < 10 → mv_to cs j = true → M 20 j = nI (r1 j)) : ∀ c, c ≤ 10 → ∀ w6, mj_E sl (d + 1) i_X8_rises 68 [.ref 0, w1, .int y, .int (mv_rf (mv_to cs) r0 r1 c).1, .int (mv_rf (mv_to cs) r0 r1 c).2, .int (nI c), w6] [] M = some (if y = 0 then (mv_rf (mv_to cs) r0 r1 10).1 else (mv_rf (mv_to cs) r0 r1 10).2, M) := by
  refine mq_up ?_ ?_
  · intro w6
    rw [b_X8_rises_68, if_neg (by decide)]
    split <;> rfl
  · intro c hc ih w6
    have inC : mj_inB (nI c) 10 = true := mq_inT hc (by decide)
    have clC : (nI c).toNatClampNeg = c := nI_clamp (by omega)
    rw [b_X8_rises_68, if_pos (show nI c < 10 from (nI_lt hc (by decide) : nI c < nI 10)), c_hasC rfl cc hc]
    cases tc : mv_to cs c with
    | false =>
      have e : mv_rf (mv_to cs) r0 r1 (c + 1) = mv_rf (mv_to cs) r0 r1 c := by
        rw [mv_rf, tc, if_neg (by decide)]
      rw [e] at ih
      simp only [Option.bind_some, Bool.false_eq_true, if_false, if_true, s_addL]
      rw [if_pos (mv_rf_0 _ _ _ c)]
      exact ih _
    | true =>
      simp only [Option.bind_some, if_true, s_10, if_false, if_pos inC, clC, h0 c hc tc, h1 c hc tc, s_addL]
      by_cases q : nI (r0 c) - nI (r1 c) ≤ (mv_rf (mv_to cs) r0 r1 c).2
      · have e : mv_rf (mv_to cs) r0 r1 (c + 1) = mv_rf (mv_to cs) r0 r1 c := by
          rw [mv_rf, tc, if_pos rfl, if_pos q]
        rw [e] at ih
        rw [if_pos q]
        exact ih _
      · have e : mv_rf (mv_to cs) r0 r1 (c + 1) = (nI c, nI (r0 c) - nI (r1 c)) := by
          rw [mv_rf, tc, if_pos rfl, if_neg q]
        rw [e] at ih
        rw [if_neg q]
        exact ih _
theorem r_rises83 {M : mj_M} {r0 : Nat → Nat} {w1 : Value} {y : Int32} (hm : mv_rM M mo) (hw : mv_wM mo) (cr : mv_rC M 46 cs) (W : mv_wC mo cs) (h0 : ∀ j, j < 10 → mv_to cs j = true → M 71 j = nI (r0 j)) : ∀ c, c ≤ 10 → mj_E sl (d + 5) i_X9_rises 83 [.ref 45, w1, .int y, .int (mv_rf (mv_to cs) r0 (mv_rk mo cs) c).1, .int (mv_rf (mv_to cs) r0 (mv_rk mo cs) c).2, .int (nI c)] [] M = (mj_C sl (d + 4) i_X9_copies [.ref 47, .ref 46] M).bind (fun q4 => some (if y = 0 then (mv_rf (mv_to cs) r0 (mv_rk mo cs) 10).1 else (mv_rf (mv_to cs) r0 (mv_rk mo cs) 10).2, q4.2)) := by
  refine mq_up ?_ ?_
  · rw [b_X9_rises_83, if_neg (by decide)]
    congr 1
    funext q
    split <;> rfl
  · intro c hc ih
    have inC : mj_inB (nI c) 10 = true := mq_inT hc (by decide)
    have clC : (nI c).toNatClampNeg = c := nI_clamp (by omega)
    rw [b_X9_rises_83, if_pos (show nI c < 10 from (nI_lt hc (by decide) : nI c < nI 10)), r_isTold cr hc]
    cases tc : mv_to cs c with
    | false =>
      have e : mv_rf (mv_to cs) r0 (mv_rk mo cs) (c + 1) = mv_rf (mv_to cs) r0 (mv_rk mo cs) c := by
        rw [mv_rf, tc, if_neg (by decide)]
      rw [e] at ih
      simp only [Option.bind_some, Bool.false_eq_true, if_false, if_true, s_addL]
      exact ih
    | true =>
      have rr := r_rankOf (sl := sl) (d := d) hm hw cr W hc tc
      simp only [Option.bind_some, if_true, s_10, if_false, if_pos inC, clC, h0 c hc tc, s_addL]
      rw [rr]
      simp only [Option.bind_some, h0 c hc tc]
      by_cases q : nI (r0 c) - nI (mv_rk mo cs c) ≤ (mv_rf (mv_to cs) r0 (mv_rk mo cs) c).2
      · have e : mv_rf (mv_to cs) r0 (mv_rk mo cs) (c + 1) = mv_rf (mv_to cs) r0 (mv_rk mo cs) c := by
          rw [mv_rf, tc, if_pos rfl, if_pos q]
        rw [e] at ih
        rw [if_pos q]
        exact ih
      · have e : mv_rf (mv_to cs) r0 (mv_rk mo cs) (c + 1) = (nI c, nI (r0 c) - nI (mv_rk mo cs c)) := by
          rw [mv_rf, tc, if_pos rfl, if_neg q]
        rw [e] at ih
        rw [if_neg q, rr]
        exact ih
theorem r_rises23 {M : mj_M} {y1 y2 : Int32} (hm : mv_rM M mo) (hw : mv_wM mo) (hr : mv_rC M 46 cs) (hwc : mv_wC mo cs) : ∃ M', mj_E sl (d + 5) i_X9_rises 23 [.ref 45, .int y1, .int y2, .int 0, .null, .null] [] M = mj_E sl (d + 5) i_X9_rises 23 [.ref 45, .int y1, .int y2, .int (nI 10), .null, .null] [] M' ∧ mv_fr (fun a _ => a = 71) M M' ∧ ∀ j, j < 10 → mv_to cs j = true → M' 71 j = nI (mv_rk mo cs j) := by
  have L : ∀ c, c ≤ 10 → ∀ M', mv_fr (fun a _ => a = 71) M M' → (∀ j, j < c → mv_to cs j = true → M' 71 j = nI (mv_rk mo cs j)) → ∃ M'', mj_E sl (d + 5) i_X9_rises 23 [.ref 45, .int y1, .int y2, .int (nI c), .null, .null] [] M' = mj_E sl (d + 5) i_X9_rises 23 [.ref 45, .int y1, .int y2, .int (nI 10), .null, .null] [] M'' ∧ mv_fr (fun a _ => a = 71) M M'' ∧ ∀ j, j < 10 → mv_to cs j = true → M'' 71 j = nI (mv_rk mo cs j) := by
    refine mq_up ?_ ?_
    · intro M' f h
      exact ⟨M', rfl, f, h⟩
    · intro c hc ih M' f h
      have hm' := hm.fr f (fun k => by omega)
      have hr' := hr.fr f (fun k => by omega)
      rw [b_X9_rises_23, if_pos (show nI c < 10 from (nI_lt hc (by decide) : nI c < nI 10)), r_isTold hr' hc]
      cases tc : mv_to cs c with
      | false =>
        simp (disch := omega) only [Option.bind_some, Bool.false_eq_true, if_false, if_true, s_in, s_cl, s_addL]
        refine ih _ (f.st rfl) (fun j hj tj => ?_)
        by_cases q : j = c
        · rw [q, tc] at tj; exact absurd tj (by decide)
        · rw [mq_st_ne (by omega)]; exact h j (by omega) tj
      | true =>
        simp (disch := omega) only [Option.bind_some, if_true, s_10, if_false]
        rw [r_rankOf hm' hw hr' hwc hc tc]
        simp (disch := omega) only [Option.bind_some, if_true, s_in, s_cl, s_addL]
        refine ih _ (f.st rfl) (fun j hj tj => ?_)
        by_cases q : j = c
        · rw [q, mq_st_eq]
        · rw [mq_st_ne (by omega)]; exact h j (by omega) tj
  exact L 0 (by omega) M mv_fr.rf (fun j hj => by omega)
def mv_Qri (a k : Nat) : Prop := a = 7 ∨ a = 8 ∨ a = 71 ∨ mv_Qtr a k
theorem p_rises {M : mj_M} {x z : Int32} (B : mv_B M mo cs) (LW : mv_Lw M) : ∃ v M1 M2, mj_C sl (d + 7) i_X8_rises [.ref 0, .int x, .int z] M = some (v, M1) ∧ M1 72 = M 72 ∧ mj_C sl (d + 7) i_X9_rises [.ref 45, .int x, .int z] M1 = some (v, M2) ∧ mv_fr mv_Qri M M2 ∧ mv_B M2 mo cs := by
  obtain ⟨mr, mc, hw, cr, cc, W⟩ := id B
  obtain ⟨-, nr, kd, ca, cb, LS, lc, lr⟩ := LW
  by_cases hx : ¬ x < 1 ∧ x ≤ 60 ∧ ¬ z < 0 ∧ z ≤ 1
  · obtain ⟨x1, x2, z1, z2⟩ := hx
    obtain ⟨n, hn, rfl⟩ := nI_of2 (n := 60) (by decide) (fun w => x1 (Int32.lt_trans w (by decide))) x2
    have hR := mv_lwR (x := M 0 9)
    obtain ⟨Mc0, c1, c2, c3⟩ := c_copyFrom (sl := sl) (d := d + 5) (M := M) (t := 15) (c := 3) rfl rfl (by decide)
    have e09 : Mc0 0 9 = M 0 9 := c2 0 9 (by unfold mv_Qk; omega)
    have mc0 : mv_cM Mc0 mo := mc.fr c2 (by unfold mv_Qk; omega) (fun k => by unfold mv_Qk; omega)
    have lc0 : mv_LC Mc0 (mj_lw (M 0 9)) nr kd ca cb := lc.fr c2 (fun a k z => by unfold mv_Qk at z; omega)
    obtain ⟨Mc', a1, a2, a3⟩ := ms_seq (sl := sl) (d := d) (e := d) (b := 15) (Or.inr rfl) hR hw LS hn mc0 (c3 cs cc) lc0 mr cr lr W
    have qy : ∀ a k, mv_Qy 15 (mj_lw (M 0 9)) a k → (15 ≤ a ∧ a ≤ 20) ∨ a = 31 ∨ a = 32 ∨ a = 40 ∨ a = 41 := fun a k z => by unfold mv_Qy at z; omega
    have fC : mv_fr (fun a _ => a = 7 ∨ a = 8 ∨ (15 ≤ a ∧ a ≤ 20) ∨ a = 31 ∨ a = 32 ∨ a = 40 ∨ a = 41) M Mc' := (c2.wk (fun a k z => by unfold mv_Qk at z; omega)).tr (a2.wk (fun a k z => by have := qy a k z; omega))
    have post : ∀ cs' me sp us, mv_S0 Mc' 15 (mj_lw (M 0 9)) mo cs' me sp us nr kd ca cb → mv_wC mo cs' → mv_to cs' = mv_to cs → ∃ M1, mj_C sl (d + 7) i_X8_rises [.ref 0, .int (nI n), .int z] M = some (if z = 0 then (mv_rf (mv_to cs) (mv_rk mo cs) (mv_rk mo cs') 10).1 else (mv_rf (mv_to cs) (mv_rk mo cs) (mv_rk mo cs') 10).2, M1) ∧ mv_fr (fun a _ => a = 7 ∨ a = 8 ∨ (15 ≤ a ∧ a ≤ 20) ∨ a = 31 ∨ a = 32 ∨ a = 40 ∨ a = 41) M M1 := by
      intro cs' me sp us S W' to'
      obtain ⟨M1, f1, f2, f3, f4⟩ := c_rankAll (sl := sl) (d := d + 4) (b := 15) rfl S.1 hw S.2.1 W'
      have g1 : mv_fr (fun a _ => a = 7 ∨ a = 8 ∨ (15 ≤ a ∧ a ≤ 20) ∨ a = 31 ∨ a = 32 ∨ a = 40 ∨ a = 41) M M1 := fC.tr (f2.fr (fun a k z => by unfold mv_P2 at z; omega))
      have cc1 : mv_cC M1 3 cs := cc.fr g1 (fun k a b => by omega) (fun j k a b => by omega)
      have mc1 : mv_cM M1 mo := mc.fr g1 (by omega) (fun k => by omega)
      obtain ⟨M2, h1, h2, h3, h4⟩ := c_rankAll (sl := sl) (d := d + 4) (b := 3) rfl mc1 hw cc1 W
      have h2' : mv_fr (fun a _ => a = 7 ∨ a = 8) M1 M2 := h2.fr (fun a k z => by unfold mv_P2 at z; omega)
      have g2 : mv_fr (fun a _ => a = 7 ∨ a = 8 ∨ (15 ≤ a ∧ a ≤ 20) ∨ a = 31 ∨ a = 32 ∨ a = 40 ∨ a = 41) M M2 := g1.tr (h2'.wk (fun a k z => by omega))
      have L := c_rises68 (sl := sl) (d := d + 6) (M := M2) (r0 := mv_rk mo cs) (r1 := mv_rk mo cs') (w1 := .int (nI n)) (y := z) (cc1.fr h2' (fun k a b => by omega) (fun j k a b => by omega)) h4 (fun j hj tj => by rw [h2' 20 j (by omega)]; exact f4 j hj (by rw [to']; exact tj)) 0 (by omega) .null
      refine ⟨M2, ?_, g2⟩
      rw [b_X8_rises, if_neg x1, if_pos x2, if_neg z1, if_pos z2, c1]
      simp only [Option.bind_some]
      rw [e09, a1]
      simp only [Option.bind_some]
      rw [f1]
      simp only [Option.bind_some]
      rw [h1]
      exact L
    obtain ⟨-, cs0, me0, sp0, us0, -, b2, -, b4, b5, -⟩ := a3 M mr cr lr
    obtain ⟨M1, d1, d2⟩ := post cs0 me0 sp0 us0 b2 b4 b5
    have mr1 : mv_rM M1 mo := mr.fr d2 (fun k => by omega)
    have cr1 : mv_rC M1 46 cs := cr.fr d2 (fun k => by omega)
    have lr1 : mv_LR M1 nr kd ca cb := lr.fr d2 (fun a k z => by omega)
    obtain ⟨M2, i1, i2, i3⟩ := r_rises23 (sl := sl) (d := d + 2) (y1 := nI n) (y2 := z) mr1 hw cr1 W
    obtain ⟨X, g1, g2, g3⟩ := r_copies (sl := sl) (d := d + 6) (M := M2) (a := 46) (b := 47) rfl (by decide) rfl (by decide) (by decide)
    have cr2 := cr1.fr i2 (fun k => by omega)
    obtain ⟨Mr', cs', me, sp, us, h1, h2, h3, h4, h5, h6⟩ := a3 X ((mr1.fr i2 (fun k => by omega)).fr g2 (fun k => by omega)) (cr2.fr g2 (fun k => by omega)) ((lr1.fr i2 (fun a k z => by omega)).fr g2 (fun a k z => by omega))
    obtain ⟨M1', d1', -⟩ := post cs' me sp us h2 h4 h5
    rw [d1] at d1'
    injection d1' with d1'
    injection d1' with dv dM
    have X47 : mv_rC Mr' 47 cs := (g3 cs cr2).fr h6 (fun k z => by unfold mv_Qr at z; omega)
    obtain ⟨Y, k1, k2, k3⟩ := r_copies (sl := sl) (d := d + 6) (M := Mr') (a := 47) (b := 46) rfl (by decide) rfl (by decide) (by decide)
    have fY : mv_fr mv_Qri M Y := ((((d2.wk (fun a k z => by unfold mv_Qri mv_Qtr; omega)).tr (i2.wk (fun a k z => by unfold mv_Qri; omega))).tr (g2.wk (fun a k z => by unfold mv_Qri mv_Qtr; omega))).tr (h6.wk (fun a k z => by unfold mv_Qri mv_Qtr; exact Or.inr (Or.inr (Or.inr (Or.inr (Or.inr (Or.inr (Or.inr (Or.inr (Or.inr z)))))))))) ).tr (k2.wk (fun a k z => by unfold mv_Qri mv_Qtr mv_Qr; omega))
    have fyq : ∀ a k, mv_Qri a k → ¬ (a = 1 ∧ k = 1) ∧ a ≠ 2 ∧ ¬ (a = 3) ∧ ¬ (4 ≤ a ∧ a ≤ 6) ∧ a ≠ 49 := fun a k z => by unfold mv_Qri mv_Qtr mv_Qr at z; omega
    refine ⟨_, M1, Y, d1, mq_72 d2 (fun k => by omega), ?_, fY, mr.fr fY (fun k z => (fyq _ _ z).2.2.2.2 rfl), mc.fr fY (fun z => (fyq _ _ z).1 ⟨rfl, rfl⟩) (fun k z => (fyq _ _ z).2.1 rfl), hw, k3 cs X47, cc.fr fY (fun k a b z => (fyq _ _ z).2.2.1 rfl) (fun j k a b z => (fyq _ _ z).2.2.2.1 ⟨by omega, by omega⟩), W⟩
    rw [dv]
    have L := r_rises83 (sl := sl) (d := d + 2) (M := Mr') (r0 := mv_rk mo cs) (w1 := .int (nI n)) (y := z) h3.1 hw h3.2.1 h4 (fun j hj tj => by
      rw [h6 71 j (by unfold mv_Qr; omega), g2 71 j (by omega)]
      exact i3 j hj (by rw [← h5]; exact tj)) 0 (by omega)
    have i1' : mj_E sl (d + 7) 208 23 [.ref 45, .int (nI n), .int z, .int 0, .null, .null] [] M1 = mj_E sl (d + 7) 208 23 [.ref 45, .int (nI n), .int z, .int (nI 10), .null, .null] [] M2 := i1
    rw [b_X9_rises, r_in]
    simp only [x1, x2, if_true, if_false, Option.bind_some, s_10, r_in, z1, z2]
    rw [i1', b_X9_rises_23, if_neg (by decide), g1]
    simp only [Option.bind_some]
    rw [h1]
    simp only [Option.bind_some]
    rw [h5, k1] at L
    exact L
  · refine ⟨-1, M, M, ?_, rfl, ?_, mv_fr.rf, B⟩
    · rw [b_X8_rises]
      by_cases x1 : x < 1
      · rw [if_pos x1]
      by_cases x2 : x ≤ 60
      · by_cases z1 : z < 0
        · rw [if_neg x1, if_pos x2, if_pos z1]
        · by_cases z2 : z ≤ 1
          · exact absurd ⟨x1, x2, z1, z2⟩ hx
          · rw [if_neg x1, if_pos x2, if_neg z1, if_neg z2]
      · rw [if_neg x1, if_neg x2]
    · rw [b_X9_rises, r_in]
      by_cases x1 : x < 1
      · simp only [x1, if_true, Option.bind_some]
      by_cases x2 : x ≤ 60
      · by_cases z1 : z < 0
        · simp only [x1, x2, z1, if_true, if_false, Option.bind_some, s_10, r_in]
        · by_cases z2 : z ≤ 1
          · exact absurd ⟨x1, x2, z1, z2⟩ hx
          · simp only [x1, x2, z1, z2, if_true, if_false, Option.bind_some, s_10, r_in]
      · simp only [x1, x2, if_true, if_false, Option.bind_some]
end MV50
