def mv_Lw (M : mj_M) : Prop := ((M 0 9 = 0 ∧ M 28 1 = 1) ∨ (M 0 9 = 1 ∧ M 28 1 = 0)) ∧ ∃ nr kd ca cb, mv_LS nr kd ca cb ∧ mv_LC M (mj_lw (M 0 9)) nr kd ca cb ∧ mv_LR M nr kd ca cb
theorem mv_lwR {x : Int32} : mj_lw x = 29 ∨ mj_lw x = 38 := by
  unfold mj_lw
  split
  · exact Or.inl rfl
  · exact Or.inr rfl
theorem mv_Lw.fr {Q : Nat → Nat → Prop} {M M1 : mj_M} (h : mv_Lw M) (f : mv_fr Q M M1) (hq : ∀ a k, Q a k → ¬ (a = 0 ∧ k = 9) ∧ ¬ (a = 28 ∧ k = 1) ∧ ¬ ((a = 29 ∨ a = 38) ∧ (k = 6 ∨ k = 7)) ∧ ¬ (a = 30 ∨ a = 33 ∨ a = 34 ∨ a = 35) ∧ ¬ (a = 39 ∨ a = 42 ∨ a = 43 ∨ a = 44) ∧ ¬ (a = 45 ∧ k = 14) ∧ ¬ (57 ≤ a ∧ a ≤ 61)) : mv_Lw M1 := by
  obtain ⟨h1, nr, kd, ca, cb, h2, h3, h4⟩ := h
  have e9 : M1 0 9 = M 0 9 := f 0 9 (fun z => (hq _ _ z).1 ⟨rfl, rfl⟩)
  have e1 : M1 28 1 = M 28 1 := f 28 1 (fun z => (hq _ _ z).2.1 ⟨rfl, rfl⟩)
  refine ⟨by rw [e9, e1]; exact h1, nr, kd, ca, cb, h2, ?_, h4.fr f (fun a k z => (hq a k z).2.2.2.2.2)⟩
  rw [e9]
  rcases mv_lwR (x := M 0 9) with e | e
  · rw [e] at h3 ⊢
    exact h3.fr f (fun a k z => by have := hq a k z; omega)
  · rw [e] at h3 ⊢
    exact h3.fr f (fun a k z => by have := hq a k z; omega)
section MV49
variable {sl d e b R : Nat} {mo : Nat → Option Nat} {kd : Nat → Nat} {nr : Nat} {ca cb : mv_CD}
theorem ms_seq {n : Nat} {cs : mv_CS} {Mc Mr0 : mj_M} (hb : b = 3 ∨ b = 15) (hR : R = 29 ∨ R = 38) (hw : mv_wM mo) (LS : mv_LS nr kd ca cb) (hn : n ≤ 60) (mc : mv_cM Mc mo) (cc : mv_cC Mc b cs) (lc : mv_LC Mc R nr kd ca cb) (mr : mv_rM Mr0 mo) (cr : mv_rC Mr0 46 cs) (lr : mv_LR Mr0 nr kd ca cb) (W : mv_wC mo cs) : ∃ Mc', mj_C sl (d + 6) i_X1_passMoons [.ref b, .int (nI n), .ref R] Mc = some (0, Mc') ∧ mv_fr (mv_Qy b R) Mc Mc' ∧ ∀ Mr, mv_rM Mr mo → mv_rC Mr 46 cs → mv_LR Mr nr kd ca cb → ∃ Mr' cs' me sp us, mj_C sl (e + 6) i_X9_moonsGo [.ref 45, .int (nI n)] Mr = some (0, Mr') ∧ mv_S0 Mc' b R mo cs' me sp us nr kd ca cb ∧ mv_R0 Mr' mo cs' me sp us nr kd ca cb ∧ mv_wC mo cs' ∧ mv_to cs' = mv_to cs ∧ mv_fr mv_Qr Mr Mr' := by
  obtain ⟨Mc', Mr', a1, a2, cs2, me2, sp2, us2, a3, a4, a5, a6, a7, a8⟩ := ms_all (sl := sl) (d := d) (e := e) hb hR hw LS hn mc cc lc mr cr lr W
  refine ⟨Mc', a1, a7, fun Mr m1 m2 m3 => ?_⟩
  obtain ⟨Mc2, Mr2, b1, b2, cs3, me3, sp3, us3, b3, b4, b5, b6, b7, b8⟩ := ms_all (sl := sl) (d := d) (e := e) hb hR hw LS hn mc cc lc m1 m2 m3 W
  rw [a1] at b1
  injection b1 with b1
  injection b1 with b1 b0
  rw [← b0] at b3
  exact ⟨Mr2, cs3, me3, sp3, us3, b2, b3, b4, b5, b6, b8⟩
def mv_Qmo (a k : Nat) : Prop := (a = 3 ∧ 7 ≤ k ∧ k ≤ 11) ∨ (4 ≤ a ∧ a ≤ 8) ∨ a = 31 ∨ a = 32 ∨ a = 40 ∨ a = 41 ∨ mv_Qr a k
theorem p_moons {M : mj_M} {cs : mv_CS} {x : Int32} (B : mv_B M mo cs) (LW : mv_Lw M) : ∃ v M1 M2, mj_C sl (d + 7) i_X8_moons [.ref 0, .int x] M = some (v, M1) ∧ M1 72 = M 72 ∧ mj_C sl (d + 7) i_X9_moons [.ref 45, .int x] M1 = some (v, M2) ∧ mv_fr mv_Qmo M M2 ∧ ∃ cs', mv_B M2 mo cs' := by
  obtain ⟨mr, mc, hw, cr, cc, W⟩ := id B
  obtain ⟨-, nr, kd, ca, cb, LS, lc, lr⟩ := LW
  by_cases x1 : x < 1
  · refine ⟨-1, M, M, ?_, rfl, ?_, mv_fr.rf, ⟨cs, B⟩⟩
    · rw [b_X8_moons, if_pos x1]
    · rw [b_X9_moons, r_in]
      simp only [x1, if_true, Option.bind_some]
  by_cases x2 : x ≤ 60
  · obtain ⟨n, hn, rfl⟩ := nI_of2 (n := 60) (by decide) (fun w => x1 (Int32.lt_trans w (by decide))) x2
    have hR := mv_lwR (x := M 0 9)
    obtain ⟨Mc', a1, a2, a3⟩ := ms_seq (sl := sl) (d := d) (e := d) (b := 3) (Or.inl rfl) hR hw LS hn mc cc lc mr cr lr W
    have qy : ∀ a k, mv_Qy 3 (mj_lw (M 0 9)) a k → (a = 3 ∧ 7 ≤ k ∧ k ≤ 11) ∨ (4 ≤ a ∧ a ≤ 8) ∨ a = 31 ∨ a = 32 ∨ a = 40 ∨ a = 41 := fun a k z => by unfold mv_Qy at z; omega
    obtain ⟨Mr', cs', me, sp, us, b1, b2, b3, b4, b5, b6⟩ := a3 Mc' (mr.fr a2 (fun k z => by have := qy _ _ z; omega)) (cr.fr a2 (fun k z => by have := qy _ _ z; omega)) (lr.fr a2 (fun a k z => by have := qy _ _ z; omega))
    have f2 : mv_fr mv_Qmo M Mr' := (a2.wk (fun a k z => by have := qy _ _ z; unfold mv_Qmo; omega)).tr (b6.wk (fun a k z => by unfold mv_Qmo; exact Or.inr (Or.inr (Or.inr (Or.inr (Or.inr (Or.inr z)))))))
    refine ⟨nI me, Mc', Mr', ?_, mq_72 a2 (fun k z => by have := qy _ _ z; omega), ?_, f2, cs', ?_⟩
    · rw [b_X8_moons, if_neg x1, if_pos x2, a1]
      simp only [Option.bind_some]
      rw [b2.2.2.1]
    · rw [b_X9_moons, r_in]
      simp only [x1, x2, if_true, if_false, Option.bind_some, s_10]
      rw [b1]
      simp only [Option.bind_some]
      rw [b3.2.2.1]
    · exact ⟨b3.1, b2.1.fr b6 (by unfold mv_Qr; omega) (fun k z => by unfold mv_Qr at z; omega), hw, b3.2.1, b2.2.1.fr b6 (fun k a b z => by unfold mv_Qr at z; omega) (fun j k a b z => by unfold mv_Qr at z; omega), b4⟩
  · refine ⟨-1, M, M, ?_, rfl, ?_, mv_fr.rf, ⟨cs, B⟩⟩
    · rw [b_X8_moons, if_neg x1, if_neg x2]
    · rw [b_X9_moons, r_in]
      simp only [x1, x2, if_true, if_false, Option.bind_some]
def mv_tans (mo : Nat → Option Nat) (cs : mv_CS) (me sp us y : Nat) : Int32 := if y = 0 then nI me else if y = 1 then nI sp else if y = 2 then nI us else if y = 3 then mv_first mo cs else if y < 20 then nI (mv_fl mo cs (y % 10)) else if y < 30 then nI (mv_rk mo cs (y % 10)) else nI (mv_in cs (y % 10))
def mv_Qtr (a k : Nat) : Prop := (15 ≤ a ∧ a ≤ 20) ∨ a = 31 ∨ a = 32 ∨ a = 40 ∨ a = 41 ∨ a = 47 ∨ mv_Qr a k
theorem p_tried {M : mj_M} {cs : mv_CS} {x z : Int32} (B : mv_B M mo cs) (LW : mv_Lw M) : ∃ v M1 M2, mj_C sl (d + 7) i_X8_tried [.ref 0, .int x, .int z] M = some (v, M1) ∧ M1 72 = M 72 ∧ mj_C sl (d + 7) i_X9_tried [.ref 45, .int x, .int z] M1 = some (v, M2) ∧ mv_fr mv_Qtr M M2 ∧ mv_B M2 mo cs := by
  obtain ⟨mr, mc, hw, cr, cc, W⟩ := id B
  obtain ⟨-, nr, kd, ca, cb, LS, lc, lr⟩ := LW
  by_cases x1 : x < 1
  · refine ⟨-1, M, M, ?_, rfl, ?_, mv_fr.rf, B⟩
    · rw [b_X8_tried, if_pos x1]
    · rw [b_X9_tried, r_in]
      simp only [x1, if_true, Option.bind_some]
  by_cases x2 : x ≤ 60
  · by_cases hz : ∃ y, z = nI y ∧ (y ≤ 3 ∨ (10 ≤ y ∧ y < 40 ∧ mv_to cs (y % 10) = true))
    · obtain ⟨y, rfl, hy⟩ := hz
      obtain ⟨n, hn, rfl⟩ := nI_of2 (n := 60) (by decide) (fun w => x1 (Int32.lt_trans w (by decide))) x2
      have y40 : y < 40 := by omega
      have erm : mj_rm (nI y) 10 = nI (y % 10) := s_rmL (by omega) (by decide) (by decide)
      have ediv : nI y / 10 = nI (y / 10) := s_dvL (by omega) (by decide) (by decide)
      have hR := mv_lwR (x := M 0 9)
      have hC : mj_C sl (d + 6) 87 [.ref 0, .int (nI y)] M = some (1, M) := by
        rw [b_X8_canBeTried, if_neg (nI_pos (by omega)), erm]
        simp (disch := omega) only [s_leL, s_ltL]
        by_cases q : y ≤ 3
        · rw [if_pos q]
        · have hy2 : mv_to cs (y % 10) = true := by
            rcases hy with h | h
            · exact absurd h q
            · exact h.2.2
          rw [if_neg q, if_neg (by omega), if_pos y40, c_hasC rfl cc (by omega), hy2]
          rfl
      obtain ⟨Mc0, c1, c2, c3⟩ := c_copyFrom (sl := sl) (d := d + 5) (M := M) (t := 15) (c := 3) rfl rfl (by decide)
      have e09 : Mc0 0 9 = M 0 9 := c2 0 9 (by unfold mv_Qk; omega)
      have mc0 : mv_cM Mc0 mo := mc.fr c2 (by unfold mv_Qk; omega) (fun k => by unfold mv_Qk; omega)
      have lc0 : mv_LC Mc0 (mj_lw (M 0 9)) nr kd ca cb := lc.fr c2 (fun a k z => by unfold mv_Qk at z; omega)
      obtain ⟨Mc', a1, a2, a3⟩ := ms_seq (sl := sl) (d := d) (e := d) (b := 15) (Or.inr rfl) hR hw LS hn mc0 (c3 cs cc) lc0 mr cr lr W
      have qy : ∀ a k, mv_Qy 15 (mj_lw (M 0 9)) a k → (15 ≤ a ∧ a ≤ 20) ∨ a = 31 ∨ a = 32 ∨ a = 40 ∨ a = 41 := fun a k z => by unfold mv_Qy at z; omega
      have fC : mv_fr (fun a _ => (15 ≤ a ∧ a ≤ 20) ∨ a = 31 ∨ a = 32 ∨ a = 40 ∨ a = 41) M Mc' := (c2.wk (fun a k z => by unfold mv_Qk at z; omega)).tr (a2.wk (fun a k z => qy a k z))
      have post : ∀ cs' me sp us, mv_S0 Mc' 15 (mj_lw (M 0 9)) mo cs' me sp us nr kd ca cb → mv_wC mo cs' → mv_to cs' = mv_to cs → ∃ M1, mj_C sl (d + 7) i_X8_tried [.ref 0, .int (nI n), .int (nI y)] M = some (mv_tans mo cs' me sp us y, M1) ∧ mv_fr (fun a _ => (15 ≤ a ∧ a ≤ 20) ∨ a = 31 ∨ a = 32 ∨ a = 40 ∨ a = 41) M M1 := by
        intro cs' me sp us S W' to'
        have E0 : mj_C sl (d + 7) i_X8_tried [.ref 0, .int (nI n), .int (nI y)] M = (if nI y = 0 then (some ((Mc' 15 9 : Int32), Mc')) else (if nI y = 1 then (some ((Mc' 15 10 : Int32), Mc')) else (if nI y = 2 then (some ((Mc' 15 11 : Int32), Mc')) else (if nI y = 3 then ((mj_C sl (d + 6) 13 [.ref 15] Mc').bind (fun q4 => some ((q4.1 : Int32), q4.2))) else ((mj_C sl (d + 6) 88 [.ref 0, .int (nI (y / 10)), .int (nI (y % 10))] Mc').bind (fun q5 => some ((q5.1 : Int32), q5.2))))))) := by
          rw [b_X8_tried, if_neg x1, if_pos x2, hC]
          simp only [Option.bind_some, s_10, if_false]
          rw [c1]
          simp only [Option.bind_some]
          rw [e09, a1]
          simp only [Option.bind_some]
          rw [erm, ediv]
        rw [E0]
        unfold mv_tans
        simp (disch := omega) only [s_eqL]
        by_cases q0 : y = 0
        · rw [if_pos q0, if_pos q0, S.2.2.1]; exact ⟨Mc', rfl, fC⟩
        by_cases q1 : y = 1
        · rw [if_neg q0, if_neg q0, if_pos q1, if_pos q1, S.2.2.2.1]; exact ⟨Mc', rfl, fC⟩
        by_cases q2 : y = 2
        · rw [if_neg q0, if_neg q0, if_neg q1, if_neg q1, if_pos q2, if_pos q2, S.2.2.2.2.1]; exact ⟨Mc', rfl, fC⟩
        by_cases q3 : y = 3
        · obtain ⟨M1, f1, f2⟩ := c_firstInRank (sl := sl) (d := d + 3) (b := 15) rfl S.1 hw S.2.1 W'
          rw [if_neg q0, if_neg q0, if_neg q1, if_neg q1, if_neg q2, if_neg q2, if_pos q3, if_pos q3, f1]
          exact ⟨M1, rfl, fC.tr (f2.fr (fun a k z => by unfold mv_P2 at z; omega))⟩
        rw [if_neg q0, if_neg q0, if_neg q1, if_neg q1, if_neg q2, if_neg q2, if_neg q3, if_neg q3, b_X8_triedOfOne]
        have tc' : mv_to cs' (y % 10) = true := by
          rw [to']
          rcases hy with h | h
          · omega
          · exact h.2.2
        simp (disch := omega) only [s_eqL]
        by_cases q4 : y < 20
        · rw [if_pos (show y / 10 = 1 by omega), if_pos q4, c_faultsOf rfl S.1 hw S.2.1 W' (by omega)]
          exact ⟨Mc', rfl, fC⟩
        by_cases q5 : y < 30
        · obtain ⟨M1, f1, f2, f3, f4⟩ := c_rankAll (sl := sl) (d := d + 3) (b := 15) rfl S.1 hw S.2.1 W'
          rw [if_neg (show ¬ y / 10 = 1 by omega), if_pos (show y / 10 = 2 by omega), if_neg q4, if_pos q5, f1]
          simp (disch := omega) only [Option.bind_some, s_in, s_cl, if_true]
          rw [f4 (y % 10) (by omega) tc']
          exact ⟨M1, rfl, fC.tr (f2.fr (fun a k z => by unfold mv_P2 at z; omega))⟩
        · rw [if_neg (show ¬ y / 10 = 1 by omega), if_neg (show ¬ y / 10 = 2 by omega), if_neg q4, if_neg q5]
          simp (disch := omega) only [Option.bind_some, s_in, s_cl, if_true]
          rw [(S.2.1.2.1 (y % 10) (by omega) tc').2]
          exact ⟨Mc', rfl, fC⟩
      obtain ⟨-, cs0, me0, sp0, us0, -, b2, -, b4, b5, -⟩ := a3 M mr cr lr
      obtain ⟨M1, d1, d2⟩ := post cs0 me0 sp0 us0 b2 b4 b5
      have mr1 : mv_rM M1 mo := mr.fr d2 (fun k => by omega)
      have cr1 : mv_rC M1 46 cs := cr.fr d2 (fun k => by omega)
      have lr1 : mv_LR M1 nr kd ca cb := lr.fr d2 (fun a k z => by omega)
      obtain ⟨X, g1, g2, g3⟩ := r_copies (sl := sl) (d := d + 6) (M := M1) (a := 46) (b := 47) rfl (by decide) rfl (by decide) (by decide)
      obtain ⟨Mr', cs', me, sp, us, h1, h2, h3, h4, h5, h6⟩ := a3 X (mr1.fr g2 (fun k => by omega)) (cr1.fr g2 (fun k => by omega)) (lr1.fr g2 (fun a k z => by omega))
      obtain ⟨M1', d1', -⟩ := post cs' me sp us h2 h4 h5
      rw [d1] at d1'
      injection d1' with d1'
      injection d1' with dv dM
      have X47 : mv_rC Mr' 47 cs := (g3 cs cr1).fr h6 (fun k z => by unfold mv_Qr at z; omega)
      obtain ⟨Y, k1, k2, k3⟩ := r_copies (sl := sl) (d := d + 6) (M := Mr') (a := 47) (b := 46) rfl (by decide) rfl (by decide) (by decide)
      have fY : mv_fr mv_Qtr M Y := (((d2.wk (fun a k z => by unfold mv_Qtr; omega)).tr (g2.wk (fun a k z => by unfold mv_Qtr; omega))).tr (h6.wk (fun a k z => by unfold mv_Qtr; exact Or.inr (Or.inr (Or.inr (Or.inr (Or.inr (Or.inr z)))))))).tr (k2.wk (fun a k z => by unfold mv_Qtr mv_Qr; omega))
      have fyq : ∀ a k, mv_Qtr a k → ¬ (a = 1 ∧ k = 1) ∧ a ≠ 2 ∧ ¬ (a = 3) ∧ ¬ (4 ≤ a ∧ a ≤ 6) ∧ a ≠ 49 := fun a k z => by unfold mv_Qtr mv_Qr at z; omega
      have tc' : ¬ y ≤ 3 → mv_to cs' (y % 10) = true := fun q => by
        rw [h5]
        rcases hy with h | h
        · exact absurd h q
        · exact h.2.2
      refine ⟨_, M1, Y, d1, mq_72 d2 (fun k => by omega), ?_, fY, mr.fr fY (fun k z => (fyq _ _ z).2.2.2.2 rfl), mc.fr fY (fun z => (fyq _ _ z).1 ⟨rfl, rfl⟩) (fun k z => (fyq _ _ z).2.1 rfl), hw, k3 cs X47, cc.fr fY (fun k a b z => (fyq _ _ z).2.2.1 rfl) (fun j k a b z => (fyq _ _ z).2.2.2.1 ⟨by omega, by omega⟩), W⟩
      rw [dv]
      have E1 : mj_C sl (d + 7) i_X9_tried [.ref 45, .int (nI n), .int (nI y)] M1 = mj_E sl (d + 7) i_X9_tried 43 [.ref 45, .int (nI n), .int (nI y), .null] [] M1 := by
        rw [b_X9_tried, r_in]
        simp only [x1, x2, if_true, if_false, Option.bind_some, s_10, r_in]
        rw [if_neg (nI_pos (show y < 2147483648 by omega)), erm]
        simp (disch := omega) only [s_leL, s_ltL]
        by_cases q : y ≤ 3
        · simp only [q, if_true, s_10, if_false]
        · have hy2 : mv_to cs (y % 10) = true := by
            rcases hy with h | h
            · exact absurd h q
            · exact h.2.2
          simp only [q, if_false, if_true, show ¬ y < 10 by omega, show y ≤ 39 by omega, s_10]
          rw [r_isTold cr1 (by omega), hy2]
          simp only [Option.bind_some, if_true, s_10, if_false]
      rw [E1, b_X9_tried_43, g1]
      simp only [Option.bind_some]
      rw [h1]
      simp only [Option.bind_some]
      unfold mv_tans
      rw [erm]
      simp (disch := omega) only [s_eqL, s_ltL]
      by_cases q0 : y = 0
      · rw [if_pos q0, if_pos q0, k1, h3.2.2.1]; rfl
      by_cases q1 : y = 1
      · rw [if_neg q0, if_neg q0, if_pos q1, if_pos q1, k1, h3.2.2.2.1]; rfl
      by_cases q2 : y = 2
      · rw [if_neg q0, if_neg q0, if_neg q1, if_neg q1, if_pos q2, if_pos q2, k1, h3.2.2.2.2.1]; rfl
      by_cases q3 : y = 3
      · rw [if_neg q0, if_neg q0, if_neg q1, if_neg q1, if_neg q2, if_neg q2, if_pos q3, if_pos q3, r_firstInRank (sl := sl) (d := d + 1) h3.1 hw h3.2.1 h4]
        simp only [Option.bind_some]
        rw [k1]
        rfl
      have tcy := tc' (by omega)
      by_cases q4 : y < 20
      · rw [if_neg q0, if_neg q0, if_neg q1, if_neg q1, if_neg q2, if_neg q2, if_neg q3, if_neg q3, if_pos q4, if_pos q4, r_faultsOf h3.1 hw h3.2.1 h4 (by omega)]
        simp only [Option.bind_some]
        rw [k1]
        rfl
      by_cases q5 : y < 30
      · rw [if_neg q0, if_neg q0, if_neg q1, if_neg q1, if_neg q2, if_neg q2, if_neg q3, if_neg q3, if_neg q4, if_neg q4, if_pos q5, if_pos q5, r_rankOf h3.1 hw h3.2.1 h4 (by omega) tcy]
        simp only [Option.bind_some]
        rw [k1]
        rfl
      · rw [if_neg q0, if_neg q0, if_neg q1, if_neg q1, if_neg q2, if_neg q2, if_neg q3, if_neg q3, if_neg q4, if_neg q4, if_neg q5, if_neg q5]
        simp (disch := omega) only [s_Ladd, s_in, s_cl, if_true]
        rw [k1, (h3.2.1.2.1 (y % 10) (by omega) tcy).2]
        rfl
    · refine ⟨-1, M, M, ?_, rfl, ?_, mv_fr.rf, B⟩
      · have hC : mj_C sl (d + 6) 87 [.ref 0, .int z] M = some (0, M) := by
          rw [b_X8_canBeTried]
          rcases mq_out (x := z) (n := 40) (by decide) with h | h | ⟨y, hy, rfl⟩
          · rw [if_pos h, if_pos (Int32.lt_trans h (by decide))]
          · have n0 : ¬ z < 0 := fun w => absurd (Int32.lt_of_le_of_lt h w) (by decide)
            have n3 : ¬ z ≤ 3 := fun w => absurd (Int32.le_trans h w) (by decide)
            have n10 : ¬ z < 10 := fun w => absurd (Int32.lt_of_le_of_lt h w) (by decide)
            have n40 : ¬ z < 40 := fun w => Int32.lt_irrefl (Int32.lt_of_le_of_lt h w)
            rw [if_neg n0, if_neg n3, if_neg n10, if_neg n40]
          · have erm : mj_rm (nI y) 10 = nI (y % 10) := s_rmL (by omega) (by decide) (by decide)
            rw [if_neg (nI_pos (by omega)), erm]
            simp (disch := omega) only [s_leL, s_ltL]
            by_cases q : y ≤ 3
            · exact absurd ⟨y, rfl, Or.inl q⟩ hz
            · rw [if_neg q]
              by_cases q1 : y < 10
              · rw [if_pos q1]
              · rw [if_neg q1, if_pos hy, c_hasC rfl cc (by omega)]
                cases tc : mv_to cs (y % 10) with
                | false => rfl
                | true => exact absurd ⟨y, rfl, Or.inr ⟨by omega, hy, tc⟩⟩ hz
        rw [b_X8_tried, if_neg x1, if_pos x2, hC]
        simp only [Option.bind_some, if_true]
      · rw [b_X9_tried, r_in]
        simp only [x1, x2, if_true, if_false, Option.bind_some, s_10, r_in]
        rcases mq_out (x := z) (n := 40) (by decide) with h | h | ⟨y, hy, rfl⟩
        · simp only [h, if_true, Int32.lt_trans h (show (0 : Int32) < 10 by decide)]
        · have n0 : ¬ z < 0 := fun w => absurd (Int32.lt_of_le_of_lt h w) (by decide)
          have n3 : ¬ z ≤ 3 := fun w => absurd (Int32.le_trans h w) (by decide)
          have n10 : ¬ z < 10 := fun w => absurd (Int32.lt_of_le_of_lt h w) (by decide)
          have n39 : ¬ z ≤ 39 := fun w => absurd (Int32.le_trans h w) (by decide)
          simp only [n0, n3, n10, n39, if_false, if_true]
        · have erm : mj_rm (nI y) 10 = nI (y % 10) := s_rmL (by omega) (by decide) (by decide)
          have q : ¬ y ≤ 3 := fun q => hz ⟨y, rfl, Or.inl q⟩
          rw [if_neg (nI_pos (show y < 2147483648 by omega)), erm]
          simp (disch := omega) only [s_leL, s_ltL, q, if_false, if_true]
          by_cases q1 : y < 10
          · simp only [q1, if_true]
          · simp only [q1, if_false, show y ≤ 39 by omega, if_true, s_10]
            rw [r_isTold cr (by omega)]
            cases tc : mv_to cs (y % 10) with
            | false => rfl
            | true => exact absurd ⟨y, rfl, Or.inr ⟨by omega, hy, tc⟩⟩ hz
  · refine ⟨-1, M, M, ?_, rfl, ?_, mv_fr.rf, B⟩
    · rw [b_X8_tried, if_neg x1, if_neg x2]
    · rw [b_X9_tried, r_in]
      simp only [x1, x2, if_true, if_false, Option.bind_some]
end MV49
