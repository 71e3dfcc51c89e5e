section MV46
variable {sl d e b R : Nat} {mo : Nat → Option Nat} {cs : mv_CS} {rk kd : Nat → Nat} {me sp us nr : Nat} {ca cb : mv_CD}
theorem pr_all {Mc Mr : mj_M} {c k : Nat} (hb : b = 3 ∨ b = 15) (hR : R = 29 ∨ R = 38) (S : mv_S1 Mc b R mo cs rk me sp us nr kd ca cb) (T : mv_R1 Mr mo cs rk me sp us nr kd ca cb) (hw : mv_wM mo) (wc : mv_wC mo cs) (LS : mv_LS nr kd ca cb) (hc : c < 10) (tc : mv_to cs c = true) (hk : k < 8) (mk : (mo k).isSome = true) (n0 : Mc (R + 3) 0 = nI c) (n1 : Mc (R + 3) 1 = nI (mv_ag cs c)) (n3 : Mc (R + 3) 3 = nI (rk c)) (n8 : Mc (R + 3) 8 = nI (mv_mn cs % 12)) : ∃ Mc' Mr', mj_C sl (d + 3) i_X1_practise [.ref b, .int (nI c), .int (nI k), .ref R] Mc = some (0, Mc') ∧ mj_C sl (e + 4) i_X9_practises [.ref 45, .int (nI c), .int (nI k)] Mr = some (0, Mr') ∧ mv_PS b R mo cs rk nr kd ca cb Mc Mr Mc' Mr' := by
  have hb0 : mj_ocl b = 0 := by rcases hb with rfl | rfl <;> rfl
  have hR0 : mj_ocl R = 1 := by rcases hR with rfl | rfl <;> rfl
  obtain ⟨m, hm⟩ := Option.isSome_iff_exists.mp mk
  have hg := mv_fm_lt hw wc c k
  have hm25 := hw k m hm
  obtain ⟨g, hgE⟩ : ∃ g, g = mv_fm mo cs c k := ⟨_, rfl⟩
  have hu25 : mv_fm mo cs c k ^^^ m < 2 ^ 25 := Nat.xor_lt_two_pow hg hm25
  obtain ⟨bl, hbl⟩ : ∃ bl, bl = mq_pc (mv_fm mo cs c k) 25 := ⟨_, rfl⟩
  have bl25 : bl ≤ 25 := by rw [hbl]; exact mq_pc_le _ _
  obtain ⟨fk, hfk⟩ : ∃ fk, fk = mq_pc (mv_fm mo cs c k ^^^ m) 25 := ⟨_, rfl⟩
  obtain ⟨i1, i2⟩ := wc.1 c tc
  obtain ⟨F, hF⟩ : ∃ F, F = mv_Fn (nI c) (nI (mv_ag cs c)) (nI (mv_in cs c)) (nI (rk c)) (nI (mv_fl mo cs c)) (nI k) (nI fk) (nI bl) (nI (mv_mn cs % 12)) := ⟨_, rfl⟩
  have em : Mc 2 k = nI m := S.1.2 k m hk hm
  have er : Mr 49 k = nI m := by rw [T.1 k hk, hm]; rfl
  have eI : Mc (b + 2) c = nI (mv_in cs c) := (S.2.1.2.1 c hc tc).2
  have eIr : Mr 46 (20 + c) = nI (mv_in cs c) := (T.2.1.2.1 c hc tc).2
  obtain ⟨Mc1, hMc1⟩ : ∃ Mc1, Mc1 = mj_st (mj_st Mc (R + 3) 2 (nI (mv_in cs c))) (R + 3) 4 (nI (mv_fl mo cs c)) := ⟨_, rfl⟩
  obtain ⟨Mc2, hMc2⟩ : ∃ Mc2, Mc2 = mj_st (mj_st (mj_st Mc1 (R + 3) 5 (nI k)) (R + 3) 6 (nI fk)) (R + 3) 7 (nI bl) := ⟨_, rfl⟩
  have f1 : mv_fr (mv_Qx b R) Mc Mc1 := by
    rw [hMc1]; exact (mv_fr.rf.st (by unfold mv_Qx; omega)).st (by unfold mv_Qx; omega)
  have f2 : mv_fr (mv_Qx b R) Mc Mc2 := by
    rw [hMc2]; exact ((f1.st (by unfold mv_Qx; omega)).st (by unfold mv_Qx; omega)).st (by unfold mv_Qx; omega)
  have f2' : mv_fr (fun a _ => a = R + 2 ∨ a = R + 3) Mc Mc2 := by
    rw [hMc2, hMc1]; refine mv_fr.st (mv_fr.st (mv_fr.st (mv_fr.st (mv_fr.st mv_fr.rf ?_) ?_) ?_) ?_) ?_ <;> exact Or.inr rfl
  have S2 := S.fr hb hR f2'
  have kF : ∀ v, v < 9 → Mc2 (R + 3) v = F v := by
    rw [hMc2, hMc1, hF]
    exact mv_know n0 n1 n3 n8
  have m12 : Mc1 2 k = nI m := by rw [f1 2 k (by unfold mv_Qx; omega)]; exact em
  have C0 : mj_C sl (d + 3) i_X1_practise [.ref b, .int (nI c), .int (nI k), .ref R] Mc = (if nI (mv_in cs c) < nI bl then (some ((0 : Int32), Mc2)) else ((mj_C sl (d + 2) 38 [.ref R] Mc2).bind (fun q6 => if q6.1 = 0 then ((mj_C sl (d + 2) 37 [.ref R, .int 112, .int 10] q6.2).bind (fun q7 => (mj_C sl (d + 2) 37 [.ref R, .int 119, .int 10] q7.2).bind (fun q8 => ((mj_C sl (d + 2) 19 [.ref b] (mj_st (mj_st q8.2 (b + 2) c ((q8.2 (b + 2) c) - nI bl)) b 11 (((mj_st q8.2 (b + 2) c ((q8.2 (b + 2) c) - nI bl)) b 11) + nI bl))).bind (fun q9 => if q9.1 < q7.1 then ((mj_C sl (d + 2) 18 [.ref b, .int (nI c), .int (nI k)] q9.2).bind (fun q10 => mj_E sl (d + 3) 17 129 [.ref b, .int (nI c), .int (nI k), .ref R, .int (nI g), .int (nI bl), .int q7.1, .int q8.1, .null, .null] [] q10.2)) else (mj_E sl (d + 3) 17 129 [.ref b, .int (nI c), .int (nI k), .ref R, .int (nI g), .int (nI bl), .int q7.1, .int q8.1, .null, .null] [] q9.2)))))) else (some ((0 : Int32), q6.2))))) := by
    rw [b_X1_practise hb0 hR0, c_formAt hb0 S.1 S.2.1 wc hc hk mk]
    simp only [Option.bind_some]
    rw [c_bitCount (by omega), mq_pc25 hg, ← hbl]
    simp (disch := omega) only [Option.bind_some, s_in, s_cl, if_true]
    rw [eI, S.2.2.1 c hc, b_X3_see hR0, ← hMc1]
    simp only [Option.bind_some]
    rw [m12, mq_xor, c_bitCount (by omega), mq_pc25 hu25, ← hfk]
    simp only [Option.bind_some]
    rw [b_X3_lookAt hR0, ← hMc2]
    simp only [Option.bind_some]
    rw [(S2.2.1.2.1 c hc tc).2, ← hgE]
  obtain ⟨Mr1, e1, e2, e3⟩ := r_feels (sl := sl) (d := e) (c := c) (g := rk c) (x2 := nI k) (x3 := nI fk) (x4 := nI bl) T.1 hw T.2.1 wc hc tc (T.2.2.1 c hc tc)
  rw [← hF] at e3
  have T1 := T.fr (e2.wk (fun a k z => Or.inr z))
  obtain ⟨Mr2, a1, a2⟩ := r_holdsAny (sl := sl) (d := e + 1) T1.2.2.2.2.2.2 LS e3
  have T2 := T1.fr (a2.wk (fun a k z => Or.inl z))
  have e3' : ∀ v, v < 9 → Mr2 63 v = F v := fun v hv => by rw [a2 63 v (by omega)]; exact e3 v hv
  obtain ⟨Mr3, a3, a4⟩ := r_byLaw (sl := sl) (d := e + 1) (n := 10) (kind := 112) T2.2.2.2.2.2.2 LS e3' (by omega) (by omega)
  have T3 := T2.fr (a4.wk (fun a k z => Or.inl z))
  have e3'' : ∀ v, v < 9 → Mr3 63 v = F v := fun v hv => by rw [a4 63 v (by omega)]; exact e3' v hv
  obtain ⟨Mr4, a5, a6⟩ := r_byLaw (sl := sl) (d := e + 1) (n := 10) (kind := 119) T3.2.2.2.2.2.2 LS e3'' (by omega) (by omega)
  have T4 := T3.fr (a6.wk (fun a k z => Or.inl z))
  have g4 : mv_fr mv_Qr Mr Mr4 := (((e2.wk (fun a k z => by unfold mv_Qr; omega)).tr (a2.wk (fun a k z => by unfold mv_Qr; omega))).tr (a4.wk (fun a k z => by unfold mv_Qr; omega))).tr (a6.wk (fun a k z => by unfold mv_Qr; omega))
  obtain ⟨wp, hwp⟩ : ∃ wp, wp = mv_wth F kd ca cb 112 (nI 10) nr 0 := ⟨_, rfl⟩
  obtain ⟨ww, hww⟩ : ∃ ww, ww = mv_wth F kd ca cb 119 (nI 10) nr 0 := ⟨_, rfl⟩
  have a3' : mj_C sl (e + 3) 171 [.ref 45, .int 112, .int 10] Mr2 = some (wp, Mr3) := by rw [hwp]; exact a3
  have a5' : mj_C sl (e + 3) 171 [.ref 45, .int 119, .int 10] Mr3 = some (ww, Mr4) := by rw [hww]; exact a5
  have rb : ∀ M : mj_M, mj_C sl (e + 3) 128 [.int (nI g)] M = some (nI bl, M) := fun M => by rw [hgE, hbl]; exact r_bits (by omega)
  have eI4 : Mr4 46 (20 + c) = nI (mv_in cs c) := (T4.2.1.2.1 c hc tc).2
  have R0 : mj_C sl (e + 4) i_X9_practises [.ref 45, .int (nI c), .int (nI k)] Mr = (if (if mv_fb F kd cb nr 0 = true then (1 : Int32) else 0) = 0 then (if nI (mv_in cs c) < nI bl then (some ((0 : Int32), Mr4)) else ((mj_C sl (e + 3) 185 [.ref 45] (mj_st (mj_st Mr4 46 (20 + c) (nI (mv_in cs c) - nI bl)) 45 39 (nI us + nI bl))).bind (fun q11 => if q11.1 < wp then (if nI (mv_fm mo cs c k ^^^ m) = 0 then (mj_E sl (e + 4) 187 180 [.ref 45, .int (nI c), .int (nI k), .int (nI g), .int (nI (mv_fm mo cs c k ^^^ m)), .int (if mv_fb F kd cb nr 0 = true then (1 : Int32) else 0), .int wp, .int ww, .null, .null] [] q11.2) else (mj_E sl (e + 4) 187 135 [.ref 45, .int (nI c), .int (nI k), .int (nI g), .int (nI (mv_fm mo cs c k ^^^ m)), .int (if mv_fb F kd cb nr 0 = true then (1 : Int32) else 0), .int wp, .int ww, .int 0, .null] [] q11.2)) else (mj_E sl (e + 4) 187 180 [.ref 45, .int (nI c), .int (nI k), .int (nI g), .int (nI (mv_fm mo cs c k ^^^ m)), .int (if mv_fb F kd cb nr 0 = true then (1 : Int32) else 0), .int wp, .int ww, .null, .null] [] q11.2)))) else (some ((0 : Int32), Mr4))) := by
    have inK : mj_inB (nI k) 8 = true := mq_inT hk (by decide)
    have clK : (nI k).toNatClampNeg = k := nI_clamp (by omega)
    rw [b_X9_practises, r_formNow T.1 hw T.2.1 wc hc hk mk, ← hgE]
    simp only [Option.bind_some, if_pos inK, clK, er, mq_xor]
    rw [ hgE, r_bits (by omega), ← hfk, ← hgE]
    simp only [Option.bind_some]
    rw [rb]
    simp only [Option.bind_some]
    rw [e1]
    simp only [Option.bind_some]
    rw [a1]
    simp only [Option.bind_some]
    rw [a3']
    simp only [Option.bind_some]
    rw [a5']
    have i20 : (20 : Int32) + nI c = nI (20 + c) := s_Ladd
    have in20 : mj_inB (nI (20 + c)) 112 = true := mq_inT (by omega) (by decide)
    have cl20 : (nI (20 + c)).toNatClampNeg = 20 + c := nI_clamp (by omega)
    simp only [Option.bind_some, i20, if_pos in20, cl20, rb, eI4]
    rw [mq_st_ne (by omega), T4.2.2.2.2.2.1, hgE]
  by_cases qi : mv_in cs c < bl
  · refine ⟨Mc2, Mr4, ?_, ?_, ⟨cs, me, sp, us, S2, T4, wc, rfl, rfl, rfl, f2, g4⟩⟩
    · rw [C0, if_pos (by rw [s_lt (by omega) (by omega)]; exact qi)]
    · rw [R0, if_pos (show nI (mv_in cs c) < nI bl from by rw [s_lt (by omega) (by omega)]; exact qi)]
      split <;> rfl
  · have qi' : ¬ nI (mv_in cs c) < nI bl := by rw [s_lt (by omega) (by omega)]; exact qi
    rw [if_neg qi'] at C0
    rw [if_neg qi'] at R0
    obtain ⟨Mc3, c1, c2⟩ := c_forbids (sl := sl) (d := d) hR0 S2.2.2.2.2.2.2.2 LS kF
    have S3 := S2.fr hb hR (c2.wk (fun a k z => Or.inl z))
    have f3 : mv_fr (mv_Qx b R) Mc Mc3 := f2.tr (c2.wk (fun a k z => by unfold mv_Qx; omega))
    rw [c1] at C0
    cases hfb : mv_fb F kd cb nr 0 with
    | true =>
      rw [hfb] at C0 R0
      refine ⟨Mc3, Mr4, ?_, ?_, ⟨cs, me, sp, us, S3, T4, wc, rfl, rfl, rfl, f3, g4⟩⟩
      · rw [C0]; rfl
      · rw [R0]; rfl
    | false =>
      rw [hfb] at C0 R0
      have kF3 : ∀ v, v < 9 → Mc3 (R + 3) v = F v := fun v hv => by rw [c2 _ _ (by omega)]; exact kF v hv
      obtain ⟨Mc4, c3, c4⟩ := c_worth (sl := sl) (d := d) (n := 10) (kind := 112) hR0 S3.2.2.2.2.2.2.2 LS kF3 (by omega) (by omega) (by decide)
      have S4 := S3.fr hb hR (c4.wk (fun a k z => Or.inl z))
      have kF4 : ∀ v, v < 9 → Mc4 (R + 3) v = F v := fun v hv => by rw [c4 _ _ (by omega)]; exact kF3 v hv
      obtain ⟨Mc5, c5, c6⟩ := c_worth (sl := sl) (d := d) (n := 10) (kind := 119) hR0 S4.2.2.2.2.2.2.2 LS kF4 (by omega) (by omega) (by decide)
      have S5 := S4.fr hb hR (c6.wk (fun a k z => Or.inl z))
      have f5 : mv_fr (mv_Qx b R) Mc Mc5 := (f3.tr (c4.wk (fun a k z => by unfold mv_Qx; omega))).tr (c6.wk (fun a k z => by unfold mv_Qx; omega))
      have c3' : mj_C sl (d + 2) 37 [.ref R, .int 112, .int 10] Mc3 = some (wp, Mc4) := by rw [hwp]; exact c3
      have c5' : mj_C sl (d + 2) 37 [.ref R, .int 119, .int 10] Mc4 = some (ww, Mc5) := by rw [hww]; exact c5
      have eI5 : Mc5 (b + 2) c = nI (mv_in cs c) := (S5.2.1.2.1 c hc tc).2
      obtain ⟨v, hv⟩ : ∃ v, v = mv_in cs c - bl := ⟨_, rfl⟩
      have ev : nI (mv_in cs c) - nI bl = nI v := by rw [pk_sub (by omega), hv]
      have S6 := S5.ui (c := c) (v := v) (us' := us + bl) hb hR
      have T6 := T4.ui (c := c) (v := v) (us' := us + bl) hc
      have W6 := wc.ui (c := c) (v := v) (by omega)
      have f6 : mv_fr (mv_Qx b R) Mc (mj_st (mj_st Mc5 (b + 2) c (nI v)) b 11 (nI (us + bl))) := (f5.st (by unfold mv_Qx; omega)).st (by unfold mv_Qx; omega)
      have g6 : mv_fr mv_Qr Mr (mj_st (mj_st Mr4 46 (20 + c) (nI v)) 45 39 (nI (us + bl))) := (g4.st (by unfold mv_Qr; omega)).st (by unfold mv_Qr; omega)
      have hx := wc.2.2.2
      obtain ⟨x1, hx1⟩ : ∃ x1, x1 = mv_dr (mv_x cs) := ⟨_, rfl⟩
      have l1 : x1 ≤ 65535 := by rw [hx1]; exact mv_dr_le _
      have ec1 := c_draw (sl := sl) (d := d + 2) hb0 S6.2.1.2.2.2.2 hx
      have er1 := r_draws (sl := sl) (d := e + 3) T6.2.1.2.2.2.2 hx
      have ec1' : mj_C sl (d + 2) 19 [.ref b] (mj_st (mj_st Mc5 (b + 2) c (nI v)) b 11 (nI (us + bl))) = some (nI (x1 % 10), mj_st (mj_st (mj_st Mc5 (b + 2) c (nI v)) b 11 (nI (us + bl))) b 8 (nI x1)) := by rw [hx1]; exact ec1
      have er1' : mj_C sl (e + 3) 185 [.ref 45] (mj_st (mj_st Mr4 46 (20 + c) (nI v)) 45 39 (nI (us + bl))) = some (nI (x1 % 10), mj_st (mj_st (mj_st Mr4 46 (20 + c) (nI v)) 45 39 (nI (us + bl))) 46 111 (nI x1)) := by rw [hx1]; exact er1
      have S7 := S6.ux (x := x1) hb hR
      have T7 := T6.ux (x := x1)
      have W7 := W6.ux l1
      obtain ⟨cs7, hcs7⟩ : ∃ cs7, cs7 = mv_ux (mv_ui cs c v) x1 := ⟨_, rfl⟩
      obtain ⟨Mc7, hMc7⟩ : ∃ Mc7, Mc7 = mj_st (mj_st (mj_st Mc5 (b + 2) c (nI v)) b 11 (nI (us + bl))) b 8 (nI x1) := ⟨_, rfl⟩
      obtain ⟨Mr7, hMr7⟩ : ∃ Mr7, Mr7 = mj_st (mj_st (mj_st Mr4 46 (20 + c) (nI v)) 45 39 (nI (us + bl))) 46 111 (nI x1) := ⟨_, rfl⟩
      rw [← hMc7] at ec1'
      rw [← hMr7] at er1'
      rw [← hcs7] at W7
      rw [← hcs7, ← hMc7] at S7
      rw [← hcs7, ← hMr7] at T7
      have f7 : mv_fr (mv_Qx b R) Mc Mc7 := by rw [hMc7]; exact f6.st (by unfold mv_Qx; omega)
      have g7 : mv_fr mv_Qr Mr Mr7 := by rw [hMr7]; exact g6.st (by unfold mv_Qr; omega)
      have k1 : mv_to cs7 = mv_to cs := by rw [hcs7]
      have k2 : mv_mn cs7 = mv_mn cs := by rw [hcs7]
      have k3 : mv_ag cs7 = mv_ag cs := by rw [hcs7]
      have k4 : mv_fm mo cs7 c k = g := by rw [hcs7, hgE]; rfl
      have C1 : mj_C sl (d + 3) i_X1_practise [.ref b, .int (nI c), .int (nI k), .ref R] Mc = if nI (x1 % 10) < wp then ((mj_C sl (d + 2) 18 [.ref b, .int (nI c), .int (nI k)] Mc7).bind (fun q10 => mj_E sl (d + 3) 17 129 [.ref b, .int (nI c), .int (nI k), .ref R, .int (nI g), .int (nI bl), .int wp, .int ww, .null, .null] [] q10.2)) else (mj_E sl (d + 3) 17 129 [.ref b, .int (nI c), .int (nI k), .ref R, .int (nI g), .int (nI bl), .int wp, .int ww, .null, .null] [] Mc7) := by
        rw [C0]
        simp only [Option.bind_some, if_true, if_false, Bool.false_eq_true]
        rw [c3']
        simp only [Option.bind_some]
        rw [c5']
        simp only [Option.bind_some]
        rw [eI5, ev, mq_st_ne (a := b + 2) (b := b) (by omega), S5.2.2.2.2.2.2.1, nI_add, ec1']
        rfl
      have R1 : mj_C sl (e + 4) i_X9_practises [.ref 45, .int (nI c), .int (nI k)] Mr = (if nI (x1 % 10) < wp then (if nI (mv_fm mo cs c k ^^^ m) = 0 then (mj_E sl (e + 4) 187 180 [.ref 45, .int (nI c), .int (nI k), .int (nI g), .int (nI (mv_fm mo cs c k ^^^ m)), .int 0, .int wp, .int ww, .null, .null] [] Mr7) else (mj_E sl (e + 4) 187 135 [.ref 45, .int (nI c), .int (nI k), .int (nI g), .int (nI (mv_fm mo cs c k ^^^ m)), .int 0, .int wp, .int ww, .int 0, .null] [] Mr7)) else (mj_E sl (e + 4) 187 180 [.ref 45, .int (nI c), .int (nI k), .int (nI g), .int (nI (mv_fm mo cs c k ^^^ m)), .int 0, .int wp, .int ww, .null, .null] [] Mr7)) := by
        rw [R0, ev, nI_add, er1']
        simp only [Option.bind_some, if_true, if_false, Bool.false_eq_true]
      by_cases qd : nI (x1 % 10) < wp
      · rw [if_pos qd] at C1 R1
        by_cases qz : mv_fm mo cs c k ^^^ m = 0
        · have qz' : nI (mv_fm mo cs c k ^^^ m) = 0 := by rw [qz]; rfl
          rw [if_pos qz'] at R1
          have em7 : Mc7 2 k = nI m := by rw [f7 2 k (by unfold mv_Qx; omega)]; exact em
          have Cm : mj_C sl (d + 2) 18 [.ref b, .int (nI c), .int (nI k)] Mc7 = some (0, Mc7) := by
            rw [b_X1_mend hb0, c_formAt hb0 S7.1 S7.2.1 W7 hc hk mk, k4, hgE]
            simp (disch := omega) only [Option.bind_some, s_in, s_cl, if_true, em7, mq_xor]
            rw [if_pos qz']
          rw [Cm] at C1
          obtain ⟨Mc', Mr', t1, t2, t3⟩ := pr_tail (sl := sl) (d := d + 1) (e := e + 2) (w := ww) (w4 := .int (nI g)) (w5 := .int (nI bl)) (w6 := .int wp) (w8 := .null) (w9 := .null) (v3 := .int (nI g)) (v4 := .int (nI (mv_fm mo cs c k ^^^ m))) (v5 := .int 0) (v6 := .int wp) (v8 := .null) (v9 := .null) hb hR S7 T7 hw W7 hc hk mk
          refine ⟨Mc', Mr', ?_, ?_, t3.pre k1 k2 k3 f7 g7⟩
          · rw [C1]; exact t1
          · rw [R1]; exact t2
        · have qz' : ¬ nI (mv_fm mo cs c k ^^^ m) = 0 := fun z => qz (by rw [s_eqL (by omega) (by decide)] at z; exact z)
          rw [if_neg qz'] at R1
          obtain ⟨Mc8, v8, g8, b1, b2, b3, b4, b5, b6⟩ := pr_mend (sl := sl) (d := d + 1) (e := e + 2) (w := ww) (v5 := .int 0) (v6 := .int wp) (v9 := .null) hb hR S7 T7 hw W7 hc hk hm (by rw [k4, hgE]; exact qz)
          rw [k4] at b2
          rw [b1] at C1
          have R1' := R1
          rw [← hgE] at R1'
          obtain ⟨Mc', Mr', t1, t2, t3⟩ := pr_tail (sl := sl) (d := d + 1) (e := e + 2) (w := ww) (w4 := .int (nI g)) (w5 := .int (nI bl)) (w6 := .int wp) (w8 := .null) (w9 := .null) (v3 := .int (nI g)) (v4 := .int (nI (g ^^^ m))) (v5 := .int 0) (v6 := .int wp) (v8 := v8) (v9 := .null) hb hR b3 b4 hw b5 hc hk mk
          refine ⟨Mc', Mr', ?_, ?_, t3.pre k1 k2 k3 (f7.tr b6) ((g7.st (by unfold mv_Qr; omega)).st (by unfold mv_Qr; omega))⟩
          · rw [C1]; exact t1
          · rw [R1']; exact b2.trans t2
      · rw [if_neg qd] at C1 R1
        obtain ⟨Mc', Mr', t1, t2, t3⟩ := pr_tail (sl := sl) (d := d + 1) (e := e + 2) (w := ww) (w4 := .int (nI g)) (w5 := .int (nI bl)) (w6 := .int wp) (w8 := .null) (w9 := .null) (v3 := .int (nI g)) (v4 := .int (nI (mv_fm mo cs c k ^^^ m))) (v5 := .int 0) (v6 := .int wp) (v8 := .null) (v9 := .null) hb hR S7 T7 hw W7 hc hk mk
        refine ⟨Mc', Mr', ?_, ?_, t3.pre k1 k2 k3 f7 g7⟩
        · rw [C1]; exact t1
        · rw [R1]; exact t2
end MV46
