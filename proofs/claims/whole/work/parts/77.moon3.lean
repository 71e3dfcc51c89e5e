def mv_Qx (b R a k : Nat) : Prop := (a = b ∧ 8 ≤ k ∧ k ≤ 11) ∨ (b + 2 ≤ a ∧ a ≤ b + 4) ∨ a = R + 2 ∨ (a = R + 3 ∧ (k = 2 ∨ k = 4 ∨ k = 5 ∨ k = 6 ∨ k = 7))
def mv_Qr (a k : Nat) : Prop := a = 46 ∨ a = 62 ∨ a = 63 ∨ a = 68 ∨ (a = 45 ∧ 37 ≤ k ∧ k ≤ 39)
def mv_PS (b R : Nat) (mo : Nat → Option Nat) (cs : mv_CS) (rk : Nat → Nat) (nr : Nat) (kd : Nat → Nat) (ca cb : mv_CD) (Mc Mr Mc' Mr' : mj_M) : Prop := ∃ cs' me sp us, mv_S1 Mc' b R mo cs' rk me sp us nr kd ca cb ∧ mv_R1 Mr' mo cs' rk me sp us nr kd ca cb ∧ mv_wC mo cs' ∧ mv_to cs' = mv_to cs ∧ mv_mn cs' = mv_mn cs ∧ mv_ag cs' = mv_ag cs ∧ mv_fr (mv_Qx b R) Mc Mc' ∧ mv_fr mv_Qr Mr Mr'
theorem mv_PS.pre {b R : Nat} {mo : Nat → Option Nat} {cs cs0 : mv_CS} {rk kd : Nat → Nat} {nr : Nat} {ca cb : mv_CD} {Mc Mr Mc' Mr' Mc0 Mr0 : mj_M} (h : mv_PS b R mo cs rk nr kd ca cb Mc Mr Mc' Mr') (h1 : mv_to cs = mv_to cs0) (h2 : mv_mn cs = mv_mn cs0) (h3 : mv_ag cs = mv_ag cs0) (f : mv_fr (mv_Qx b R) Mc0 Mc) (g : mv_fr mv_Qr Mr0 Mr) : mv_PS b R mo cs0 rk nr kd ca cb Mc0 Mr0 Mc' Mr' := by
  obtain ⟨cs', me, sp, us, a1, a2, a3, a4, a5, a6, a7, a8⟩ := h
  exact ⟨cs', me, sp, us, a1, a2, a3, a4.trans h1, a5.trans h2, a6.trans h3, f.tr a7, g.tr a8⟩
section MV45
variable {sl d e b R : Nat} {mo : Nat → Option Nat} {cs : mv_CS} {rk kd : Nat → Nat} {me sp us nr : Nat} {ca cb : mv_CD}
theorem pr_tail {Mc Mr : mj_M} {c k : Nat} {w : Int32} {w4 w5 w6 w8 w9 v3 v4 v5 v6 v8 v9 : Value} (hb : b = 3 ∨ b = 15) (hR : R = 29 ∨ R = 38) (S : mv_S1 Mc b R mo cs rk me sp us nr kd ca cb) (T : mv_R1 Mr mo cs rk me sp us nr kd ca cb) (hw : mv_wM mo) (wc : mv_wC mo cs) (hc : c < 10) (hk : k < 8) (mk : (mo k).isSome = true) : ∃ Mc' Mr', mj_E sl (d + 2) i_X1_practise 129 [.ref b, .int (nI c), .int (nI k), .ref R, w4, w5, w6, .int w, w8, w9] [] Mc = some (0, Mc') ∧ mj_E sl (e + 2) i_X9_practises 180 [.ref 45, .int (nI c), .int (nI k), v3, v4, v5, v6, .int w, v8, v9] [] Mr = some (0, Mr') ∧ mv_PS b R mo cs rk nr kd ca cb Mc Mr Mc' Mr' := by
  have hb0 : mj_ocl b = 0 := by rcases hb with rfl | rfl <;> rfl
  have hR0 : mj_ocl R = 1 := by rcases hR with rfl | rfl <;> rfl
  have hx := wc.2.2.2
  obtain ⟨x1, hx1⟩ : ∃ x1, x1 = mv_dr (mv_x cs) := ⟨_, rfl⟩
  have l1 : x1 ≤ 65535 := by rw [hx1]; exact mv_dr_le _
  have ec1 := c_draw (sl := sl) (d := d + 1) hb0 S.2.1.2.2.2.2 hx
  have er1 := r_draws (sl := sl) (d := e + 1) T.2.1.2.2.2.2 hx
  rw [← hx1] at ec1 er1
  have S1 := S.ux (x := x1) hb hR
  have T1 := T.ux (x := x1)
  have W1 := wc.ux l1
  have fc1 : mv_fr (mv_Qx b R) Mc (mj_st Mc b 8 (nI x1)) := mv_fr.rf.st (by unfold mv_Qx; omega)
  have fr1 : mv_fr mv_Qr Mr (mj_st Mr 46 111 (nI x1)) := mv_fr.rf.st (by unfold mv_Qr; omega)
  rw [b_X1_practise_129 hb0 hR0, b_X9_practises_180, ec1, er1]
  simp only [Option.bind_some]
  by_cases q : nI (x1 % 10) < w
  · obtain ⟨x2, hx2⟩ : ∃ x2, x2 = mv_dr x1 := ⟨_, rfl⟩
    obtain ⟨x3, hx3⟩ : ∃ x3, x3 = mv_dr x2 := ⟨_, rfl⟩
    have l2 : x2 ≤ 65535 := by rw [hx2]; exact mv_dr_le _
    have l3 : x3 ≤ 65535 := by rw [hx3]; exact mv_dr_le _
    have ec2 := c_draw (sl := sl) (d := d + 1) hb0 S1.2.1.2.2.2.2 l1
    have er2 := r_draws (sl := sl) (d := e + 1) T1.2.1.2.2.2.2 l1
    rw [← hx2] at ec2 er2
    have S2 := S1.ux (x := x2) hb hR
    have T2 := T1.ux (x := x2)
    have W2 := W1.ux l2
    have ec3 := c_draw (sl := sl) (d := d + 1) hb0 S2.2.1.2.2.2.2 l2
    have er3 := r_draws (sl := sl) (d := e + 1) T2.2.1.2.2.2.2 l2
    rw [← hx3] at ec3 er3
    have S3 := S2.ux (x := x3) hb hR
    have T3 := T2.ux (x := x3)
    have W3 := W2.ux l3
    obtain ⟨cs3, hcs3⟩ : ∃ cs3, cs3 = mv_ux (mv_ux (mv_ux cs x1) x2) x3 := ⟨_, rfl⟩
    have k1 : mv_to cs3 = mv_to cs := by rw [hcs3]
    have k2 : mv_mn cs3 = mv_mn cs := by rw [hcs3]
    have k3 : mv_ag cs3 = mv_ag cs := by rw [hcs3]
    rw [← hcs3] at S3 T3 W3
    obtain ⟨dt, hdt⟩ : ∃ dt, dt = (10 * (x2 % 10) + x3 % 10) % 25 := ⟨_, rfl⟩
    have dt25 : dt < 25 := by omega
    have edt : mj_rm ((10 : Int32) * nI (x2 % 10) + nI (x3 % 10)) 25 = nI dt := by
      rw [s_Lmul, nI_add, s_rmL (by omega) (by decide) (by decide), hdt]
    have hg := mv_fm_lt hw W3 c k
    have hg2 : mv_fm mo cs3 c k ^^^ 2 ^ dt < 2 ^ 25 := Nat.xor_lt_two_pow hg (Nat.pow_lt_pow_right (by decide) dt25)
    have W4 := W3.uf (c := c) hg2 mk
    have S4 := S3.uf (g := mv_fm mo cs3 c k ^^^ 2 ^ dt) hb hR hc hk
    have T4 := T3.uf (g := mv_fm mo cs3 c k ^^^ 2 ^ dt) hc hk
    have S5 := S4.ps (sp' := sp + 1) hb hR
    have T5 := T4.ps (sp' := sp + 1)
    simp only [q, if_true]
    rw [ec2, er2]
    simp only [Option.bind_some]
    rw [ec3, er3]
    simp only [Option.bind_some]
    rw [c_formAt hb0 S3.1 S3.2.1 W3 hc hk mk, r_own]
    simp only [Option.bind_some]
    rw [r_formNow T3.1 hw T3.2.1 W3 hc hk mk, edt, mq_one (by omega), mq_xor, b_X1_setForm hb0]
    simp (disch := omega) only [s_mulL, nI_add, s_in, s_cl, if_true, Option.bind_some, mq_xor]
    rw [c_faultsOf hb0 (mo := mo) (cs := mv_uf cs3 c k (mv_fm mo cs3 c k ^^^ 2 ^ dt)) (S3.1.fr (Q := fun a _ => a = b + 3) (mv_fr.rf.st rfl) (by omega) (fun k => by omega)) hw (S3.2.1.uf hc hk) W4 hc]
    simp (disch := omega) only [s_mulL, nI_add, s_in, s_cl, if_true, Option.bind_some, mq_xor]
    rw [S4.2.2.2.2.2.1, T4.2.2.2.2.1, s_addL]
    refine ⟨_, _, rfl, rfl, ⟨_, me, sp + 1, us, S5, T5, W4, k1, k2, k3, ?_, ?_⟩⟩
    · exact (((((fc1.st (by unfold mv_Qx; omega)).st (by unfold mv_Qx; omega)).st (by unfold mv_Qx; omega)).st (by unfold mv_Qx; omega)).st (by unfold mv_Qx; omega))
    · exact (((fr1.st (by unfold mv_Qr; omega)).st (by unfold mv_Qr; omega)).st (by unfold mv_Qr; omega)).st (by unfold mv_Qr; omega)
  · simp only [q, if_false]
    exact ⟨_, _, rfl, rfl, ⟨_, me, sp, us, S1, T1, W1, rfl, rfl, rfl, fc1, fr1⟩⟩
theorem pr_mend {Mc Mr : mj_M} {c k m : Nat} {w : Int32} {v5 v6 v9 : Value} (hb : b = 3 ∨ b = 15) (hR : R = 29 ∨ R = 38) (S : mv_S1 Mc b R mo cs rk me sp us nr kd ca cb) (T : mv_R1 Mr mo cs rk me sp us nr kd ca cb) (hw : mv_wM mo) (wc : mv_wC mo cs) (hc : c < 10) (hk : k < 8) (hm : mo k = some m) (hne : ¬ mv_fm mo cs c k ^^^ m = 0) : ∃ Mc' v8, ∃ g, mj_C sl (d + 1) i_X1_mend [.ref b, .int (nI c), .int (nI k)] Mc = some (0, Mc') ∧ mj_E sl (e + 2) i_X9_practises 135 [.ref 45, .int (nI c), .int (nI k), .int (nI (mv_fm mo cs c k)), .int (nI (mv_fm mo cs c k ^^^ m)), v5, v6, .int w, .int 0, v9] [] Mr = mj_E sl (e + 2) i_X9_practises 180 [.ref 45, .int (nI c), .int (nI k), .int (nI (mv_fm mo cs c k)), .int (nI (mv_fm mo cs c k ^^^ m)), v5, v6, .int w, v8, v9] [] (mj_st (mj_st Mr 46 (30 + 8 * c + k) (nI g)) 45 37 (nI (me + 1))) ∧ mv_S1 Mc' b R mo (mv_uf cs c k g) rk (me + 1) sp us nr kd ca cb ∧ mv_R1 (mj_st (mj_st Mr 46 (30 + 8 * c + k) (nI g)) 45 37 (nI (me + 1))) mo (mv_uf cs c k g) rk (me + 1) sp us nr kd ca cb ∧ mv_wC mo (mv_uf cs c k g) ∧ mv_fr (mv_Qx b R) Mc Mc' := by
  have hb0 : mj_ocl b = 0 := by rcases hb with rfl | rfl <;> rfl
  have mk : (mo k).isSome = true := by rw [hm]; rfl
  have hg := mv_fm_lt hw wc c k
  have hm25 := hw k m hm
  obtain ⟨u, hu⟩ : ∃ u, u = mv_fm mo cs c k ^^^ m := ⟨_, rfl⟩
  have hu25 : u < 2 ^ 25 := by rw [hu]; exact Nat.xor_lt_two_pow hg hm25
  obtain ⟨dd, h1, h2⟩ : ∃ dd, u.testBit dd = true ∧ ∀ j, j < dd → u.testBit j = false := by
    have hx : ∃ i, u.testBit i = true := by
      have := Nat.exists_testBit_of_ne_zero (x := u) (by rw [hu]; exact hne)
      exact this
    have L : ∀ n, (∃ i, i < n ∧ u.testBit i = true) → ∃ dd, u.testBit dd = true ∧ ∀ j, j < dd → u.testBit j = false := by
      intro n
      induction n with
      | zero => rintro ⟨i, hi, -⟩; omega
      | succ n ih =>
        rintro ⟨i, hi, hb⟩
        by_cases q : ∃ i, i < n ∧ u.testBit i = true
        · exact ih q
        · refine ⟨i, hb, fun j hj => ?_⟩
          cases hq : u.testBit j with
          | false => rfl
          | true => exact absurd ⟨j, by omega, hq⟩ q
    obtain ⟨i, hi⟩ := hx
    exact L (i + 1) ⟨i, by omega, hi⟩
  have hd25 : dd < 25 := mv_lt_bit hu25 h1
  have hg2 : mv_fm mo cs c k ^^^ 2 ^ dd < 2 ^ 25 := Nat.xor_lt_two_pow hg (Nat.pow_lt_pow_right (by decide) hd25)
  have hfl := mv_fl_me (cs := cs) (c := c) hm hk hd25 (by rw [← hu]; exact h1)
  have efl : nI (mv_fl mo cs c) - 1 = nI (mv_fl mo (mv_uf cs c k (mv_fm mo cs c k ^^^ 2 ^ dd)) c) := by
    rw [← hfl]; exact (show nI (_ + 1) - nI 1 = _ by rw [pk_sub (by omega), Nat.add_sub_cancel])
  have S4 := S.uf (g := mv_fm mo cs c k ^^^ 2 ^ dd) hb hR hc hk
  have T4 := T.uf (g := mv_fm mo cs c k ^^^ 2 ^ dd) hc hk
  have S5 := S4.pm (me' := me + 1) hb hR
  have T5 := T4.pm (me' := me + 1)
  have W4 := wc.uf (c := c) hg2 mk
  have em : Mc 2 k = nI m := S.1.2 k m hk hm
  have e0 : ¬ nI u = 0 := fun z => hne (by
    rw [← hu]
    rw [s_eqL (by omega) (by decide)] at z
    exact z)
  have C : mj_C sl (d + 1) i_X1_mend [.ref b, .int (nI c), .int (nI k)] Mc = some (0, mj_st (mj_st (mj_st Mc (b + 3) (c * 8 + k) (nI (mv_fm mo cs c k ^^^ 2 ^ dd))) (b + 4) c (nI (mv_fl mo (mv_uf cs c k (mv_fm mo cs c k ^^^ 2 ^ dd)) c))) b 9 (nI (me + 1))) := by
    rw [b_X1_mend hb0, c_formAt hb0 S.1 S.2.1 wc hc hk mk]
    simp (disch := omega) only [Option.bind_some, s_in, s_cl, if_true, em, mq_xor]
    rw [← hu, if_neg e0, mv_low (by omega) h1 h2, mq_xor, b_X1_setForm hb0]
    simp (disch := omega) only [s_mulL, nI_add, s_in, s_cl, if_true, Option.bind_some]
    rw [mq_st_ne (a := b + 3) (b := b + 4) (by omega), S.2.2.1 c hc, efl, S4.2.2.2.2.1, s_addL]
  have L : ∀ j, j ≤ dd → mj_E sl (e + 2) i_X9_practises 135 [.ref 45, .int (nI c), .int (nI k), .int (nI (mv_fm mo cs c k)), .int (nI u), v5, v6, .int w, .int (nI j), v9] [] Mr = mj_E sl (e + 2) i_X9_practises 180 [.ref 45, .int (nI c), .int (nI k), .int (nI (mv_fm mo cs c k)), .int (nI u), v5, v6, .int w, .int (nI dd), v9] [] (mj_st (mj_st Mr 46 (30 + 8 * c + k) (nI (mv_fm mo cs c k ^^^ 2 ^ dd))) 45 37 (nI (me + 1))) := by
    refine mq_up ?_ ?_
    · rw [b_X9_practises_135, r_has (by omega) (by omega), h1]
      simp (disch := omega) only [Option.bind_some, if_true, s_10, if_false, r_own, s_in, s_cl]
      rw [mq_one (by omega), mq_xor, T4.2.2.2.1, s_addL]
    · intro j hj ih
      rw [b_X9_practises_135, r_has (by omega) (by omega), h2 j hj]
      simp (disch := omega) only [Option.bind_some, if_true, if_false, s_addL, Bool.false_eq_true]
      exact ih
  rw [← hu]
  exact ⟨_, .int (nI dd), mv_fm mo cs c k ^^^ 2 ^ dd, C, L 0 (by omega), S5, T5, W4, ((mv_fr.rf.st (by unfold mv_Qx; omega)).st (by unfold mv_Qx; omega)).st (by unfold mv_Qx; omega)⟩
end MV45
