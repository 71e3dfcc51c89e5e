def mv_Qy (b R a k : Nat) : Prop := (a = b ∧ 7 ≤ k ∧ k ≤ 11) ∨ (b + 1 ≤ a ∧ a ≤ b + 5) ∨ a = R + 2 ∨ a = R + 3
theorem mv_Qxy {b R a k : Nat} (h : mv_Qx b R a k) : mv_Qy b R a k := by unfold mv_Qx at h; unfold mv_Qy; omega
def mv_PT (b R : Nat) (mo : Nat → Option Nat) (cs : mv_CS) (rk : Nat → Nat) (nr : Nat) (kd : Nat → Nat) (ca cb : mv_CD) (Mc Mr Mc' Mr' : mj_M) : Prop := ∃ cs' me sp us, mv_S1 Mc' b R mo cs' rk me sp us nr kd ca cb ∧ mv_R1 Mr' mo cs' rk me sp us nr kd ca cb ∧ mv_wC mo cs' ∧ mv_to cs' = mv_to cs ∧ mv_mn cs' = mv_mn cs ∧ mv_fr (mv_Qy b R) Mc Mc' ∧ mv_fr mv_Qr Mr Mr'
theorem mv_PT.pre {b R : Nat} {mo : Nat → Option Nat} {cs cs0 : mv_CS} {rk kd : Nat → Nat} {nr : Nat} {ca cb : mv_CD} {Mc Mr Mc' Mr' Mc0 Mr0 : mj_M} (h : mv_PT b R mo cs rk nr kd ca cb Mc Mr Mc' Mr') (h1 : mv_to cs = mv_to cs0) (h2 : mv_mn cs = mv_mn cs0) (f : mv_fr (mv_Qy b R) Mc0 Mc) (g : mv_fr mv_Qr Mr0 Mr) : mv_PT b R mo cs0 rk nr kd ca cb Mc0 Mr0 Mc' Mr' := by
  obtain ⟨cs', me, sp, us, a1, a2, a3, a4, a5, a7, a8⟩ := h
  exact ⟨cs', me, sp, us, a1, a2, a3, a4.trans h1, a5.trans h2, f.tr a7, g.tr a8⟩
section MV47
variable {sl d e b R : Nat} {mo : Nat → Option Nat} {rk kd : Nat → Nat} {nr : Nat} {ca cb : mv_CD}
theorem tt_loop {c : Nat} (hb : b = 3 ∨ b = 15) (hR : R = 29 ∨ R = 38) (hw : mv_wM mo) (LS : mv_LS nr kd ca cb) (hc : c < 10) : ∀ k, k ≤ 8 → ∀ (cs : mv_CS) (me sp us : Nat) (Mc Mr : mj_M), mv_S1 Mc b R mo cs rk me sp us nr kd ca cb → mv_R1 Mr mo cs rk me sp us nr kd ca cb → mv_wC mo cs → mv_to cs c = true → Mc (R + 3) 0 = nI c → Mc (R + 3) 1 = nI (mv_ag cs c) → Mc (R + 3) 3 = nI (rk c) → Mc (R + 3) 8 = nI (mv_mn cs % 12) → ∃ Mc' Mr', mj_E sl (d + 4) i_X1_takeTurn 76 [.ref b, .int (nI c), .ref R, .int (nI k)] [] Mc = some (0, Mc') ∧ mj_E sl (e + 5) i_X9_moonGoes 99 [.ref 45, .int (nI c), .int (nI k)] [] Mr = mj_E sl (e + 5) i_X9_moonGoes 39 [.ref 45, .int (nI (c + 1)), .int (nI 8)] [] Mr' ∧ mv_PS b R mo cs rk nr kd ca cb Mc Mr Mc' Mr' := by
  have hb0 : mj_ocl b = 0 := by rcases hb with rfl | rfl <;> rfl
  have hR0 : mj_ocl R = 1 := by rcases hR with rfl | rfl <;> rfl
  refine mq_up ?_ ?_
  · intro cs me sp us Mc Mr S T W tc n0 n1 n3 n8
    refine ⟨Mc, Mr, ?_, ?_, ⟨cs, me, sp, us, S, T, W, rfl, rfl, rfl, mv_fr.rf, mv_fr.rf⟩⟩
    · rw [b_X1_takeTurn_76 hb0 hR0, if_neg (by decide)]
    · rw [b_X9_moonGoes_99, if_neg (by decide), s_addL]
  · intro k hk ih cs me sp us Mc Mr S T W tc n0 n1 n3 n8
    rw [b_X1_takeTurn_76 hb0 hR0, b_X9_moonGoes_99, c_hasM S.1 hk, r_isLetter T.1 hw hk]
    cases mk : (mo k).isSome with
    | false =>
      simp (disch := omega) only [s_ltL, hk, if_true, Option.bind_some, Bool.false_eq_true, if_false, s_addL]
      exact ih cs me sp us Mc Mr S T W tc n0 n1 n3 n8
    | true =>
      obtain ⟨Mc1, Mr1, e1, e2, cs', me', sp', us', S1, T1, W1, t1, t2, t3, t4, t5⟩ := pr_all (sl := sl) (d := d) (e := e) hb hR S T hw W LS hc tc hk mk n0 n1 n3 n8
      have kn : ∀ v, v = 0 ∨ v = 1 ∨ v = 3 ∨ v = 8 → Mc1 (R + 3) v = Mc (R + 3) v := fun v hv => t4 _ _ (by unfold mv_Qx; omega)
      obtain ⟨Mc', Mr', a1, a2, a3⟩ := ih cs' me' sp' us' Mc1 Mr1 S1 T1 W1 (by rw [t1]; exact tc) (by rw [kn 0 (by omega)]; exact n0) (by rw [kn 1 (by omega), t3]; exact n1) (by rw [kn 3 (by omega)]; exact n3) (by rw [kn 8 (by omega), t2]; exact n8)
      have e1' : mj_C sl (d + 3) 17 [.ref b, .int (nI c), .int (nI k), .ref R] Mc = some (0, Mc1) := e1
      have e2' : mj_C sl (e + 4) 187 [.ref 45, .int (nI c), .int (nI k)] Mr = some (0, Mr1) := e2
      refine ⟨Mc', Mr', ?_, ?_, a3.pre t1 t2 t3 t4 t5⟩
      · simp (disch := omega) only [s_ltL, hk, if_true, Option.bind_some, s_10, if_false, s_addL]
        rw [e1']
        exact a1
      · simp (disch := omega) only [s_ltL, hk, if_true, Option.bind_some, s_10, if_false, s_addL]
        rw [e2']
        exact a2
theorem tt_one {c : Nat} {cs : mv_CS} {me sp us : Nat} {Mc Mr : mj_M} {w2 : Value} (hb : b = 3 ∨ b = 15) (hR : R = 29 ∨ R = 38) (hw : mv_wM mo) (LS : mv_LS nr kd ca cb) (hc : c < 10) (S : mv_S1 Mc b R mo cs rk me sp us nr kd ca cb) (T : mv_R1 Mr mo cs rk me sp us nr kd ca cb) (W : mv_wC mo cs) (tc : mv_to cs c = true) : ∃ Mc' Mr', mj_C sl (d + 4) i_X1_takeTurn [.ref b, .int (nI c), .ref R] Mc = some (0, Mc') ∧ mj_E sl (e + 5) i_X9_moonGoes 39 [.ref 45, .int (nI c), w2] [] Mr = mj_E sl (e + 5) i_X9_moonGoes 39 [.ref 45, .int (nI (c + 1)), .int (nI 8)] [] Mr' ∧ mv_PT b R mo cs rk nr kd ca cb Mc Mr Mc' Mr' := by
  have hb0 : mj_ocl b = 0 := by rcases hb with rfl | rfl <;> rfl
  have hR0 : mj_ocl R = 1 := by rcases hR with rfl | rfl <;> rfl
  obtain ⟨i1, i2⟩ := W.1 c tc
  obtain ⟨s1, s2⟩ := S.2.1.2.1 c hc tc
  have hmn := W.2.2.1
  obtain ⟨F, hF⟩ : ∃ F, F = mv_Fn (nI c) (nI (mv_ag cs c)) (nI (mv_in cs c)) (nI (rk c)) (nI (mv_fl mo cs c)) 0 0 0 (nI (mv_mn cs % 12)) := ⟨_, rfl⟩
  obtain ⟨Mc1, hMc1⟩ : ∃ Mc1, Mc1 = mj_st (mj_st (mj_st (mj_st Mc (R + 3) 0 (nI c)) (R + 3) 1 (nI (mv_ag cs c))) (R + 3) 3 (nI (rk c))) (R + 3) 8 (nI (mv_mn cs % 12)) := ⟨_, rfl⟩
  obtain ⟨Mc2, hMc2⟩ : ∃ Mc2, Mc2 = mj_st (mj_st (mj_st (mj_st (mj_st Mc1 (R + 3) 2 (nI (mv_in cs c))) (R + 3) 4 (nI (mv_fl mo cs c))) (R + 3) 5 0) (R + 3) 6 0) (R + 3) 7 0 := ⟨_, rfl⟩
  have fk1 : mv_fr (fun a _ => a = R + 2 ∨ a = R + 3) Mc Mc1 := by
    rw [hMc1]; refine mv_fr.st (mv_fr.st (mv_fr.st (mv_fr.st mv_fr.rf ?_) ?_) ?_) ?_ <;> exact Or.inr rfl
  have fk2 : mv_fr (fun a _ => a = R + 2 ∨ a = R + 3) Mc Mc2 := by
    rw [hMc2]; refine mv_fr.st (mv_fr.st (mv_fr.st (mv_fr.st (mv_fr.st fk1 ?_) ?_) ?_) ?_) ?_ <;> exact Or.inr rfl
  have S1 := S.fr hb hR fk1
  have S2 := S.fr hb hR fk2
  have z0 : Mc1 (R + 3) 0 = nI c := by rw [hMc1]; simp (disch := omega) only [mq_st_eq, mq_st_ne]
  have z1 : Mc1 (R + 3) 1 = nI (mv_ag cs c) := by rw [hMc1]; simp (disch := omega) only [mq_st_eq, mq_st_ne]
  have z3 : Mc1 (R + 3) 3 = nI (rk c) := by rw [hMc1]; simp (disch := omega) only [mq_st_eq, mq_st_ne]
  have z8 : Mc1 (R + 3) 8 = nI (mv_mn cs % 12) := by rw [hMc1]; simp (disch := omega) only [mq_st_eq, mq_st_ne]
  have kF : ∀ v, v < 9 → Mc2 (R + 3) v = F v := by
    rw [hMc2, hF]
    exact mv_know z0 z1 z3 z8
  obtain ⟨Mc3, c3, c4⟩ := c_worth (sl := sl) (d := d + 1) (n := 99) (kind := 105) hR0 S2.2.2.2.2.2.2.2 LS kF (by omega) (by omega) (by decide)
  have S3 := S2.fr hb hR (c4.wk (fun a k z => Or.inl z))
  obtain ⟨w, hw99, hwv⟩ := mv_wth_b (n := 99) (by omega) (F := F) (kd := kd) (ca := ca) (cb := cb) (kind := 105) nr 0
  obtain ⟨v, hv⟩ : ∃ v, v = if mv_in cs c + w < 9999 then mv_in cs c + w else 9999 := ⟨_, rfl⟩
  have v9 : v ≤ 9999 := by rw [hv]; split <;> omega
  have ev : mj_mn 9999 (nI (mv_in cs c) + nI w) = nI v := by
    unfold mj_mn
    rw [nI_add, hv]
    simp (disch := omega) only [s_ltL]
    split <;> rfl
  rw [hwv] at c3
  have c3' : mj_C sl (d + 3) 37 [.ref R, .int 105, .int 99] Mc2 = some (nI w, Mc3) := c3
  have C0 : mj_C sl (d + 4) i_X1_takeTurn [.ref b, .int (nI c), .ref R] Mc = mj_E sl (d + 4) i_X1_takeTurn 76 [.ref b, .int (nI c), .ref R, .int 0] [] (mj_st Mc3 (b + 2) c (nI v)) := by
    have inC : mj_inB (nI c) 10 = true := mq_inT hc (by decide)
    have clC : (nI c).toNatClampNeg = c := nI_clamp (by omega)
    rw [b_X1_takeTurn hb0 hR0]
    simp only [if_pos inC, clC, s1, S.2.2.2.1 c hc tc, S.2.1.2.2.2.1]
    rw [s_rmL (by omega) (by decide) (by decide), b_X3_meet hR0, ← hMc1]
    simp only [Option.bind_some]
    rw [(S1.2.1.2.1 c hc tc).2, S1.2.2.1 c hc, b_X3_see hR0]
    simp only [Option.bind_some]
    rw [b_X3_lookAt hR0, ← hMc2]
    simp only [Option.bind_some]
    rw [c3']
    simp only [Option.bind_some]
    rw [(S2.2.1.2.1 c hc tc).2, ev]
  have S4 : mv_S1 (mj_st (mj_st Mc3 (b + 2) c (nI v)) b 11 (nI us)) b R mo (mv_ui cs c v) rk me sp us nr kd ca cb := S3.ui hb hR
  have S4' : mv_S1 (mj_st Mc3 (b + 2) c (nI v)) b R mo (mv_ui cs c v) rk me sp us nr kd ca cb := by
    have eq : mj_st (mj_st Mc3 (b + 2) c (nI v)) b 11 (nI us) = mj_st Mc3 (b + 2) c (nI v) := by
      funext a k
      by_cases q : a = b ∧ k = 11
      · rw [q.1, q.2, mq_st_eq, mq_st_ne (by omega)]; exact S3.2.2.2.2.2.2.1.symm
      · rw [mq_st_ne (by omega)]
    rw [eq] at S4
    exact S4
  obtain ⟨Mr1, e1, e2, e3⟩ := r_feels (sl := sl) (d := e + 1) (c := c) (g := rk c) (x2 := 0) (x3 := 0) (x4 := 0) T.1 hw T.2.1 W hc tc (T.2.2.1 c hc tc)
  rw [← hF] at e3
  have T1 := T.fr (e2.wk (fun a k z => Or.inr z))
  obtain ⟨Mr2, a3, a4⟩ := r_byLaw (sl := sl) (d := e + 2) (n := 99) (kind := 105) T1.2.2.2.2.2.2 LS e3 (by omega) (by omega)
  have T2 := T1.fr (a4.wk (fun a k z => Or.inl z))
  rw [hwv] at a3
  have a3' : mj_C sl (e + 4) 171 [.ref 45, .int 105, .int 99] Mr1 = some (nI w, Mr2) := a3
  have e1' : mj_C sl (e + 4) 186 [.ref 45, .int (nI c), .int 0, .int 0, .int 0] Mr = some (0, Mr1) := e1
  have T4 : mv_R1 (mj_st (mj_st Mr2 46 (20 + c) (nI v)) 45 39 (nI us)) mo (mv_ui cs c v) rk me sp us nr kd ca cb := T2.ui hc
  have T4' : mv_R1 (mj_st Mr2 46 (20 + c) (nI v)) mo (mv_ui cs c v) rk me sp us nr kd ca cb := by
    have eq : mj_st (mj_st Mr2 46 (20 + c) (nI v)) 45 39 (nI us) = mj_st Mr2 46 (20 + c) (nI v) := by
      funext a k
      by_cases q : a = 45 ∧ k = 39
      · rw [q.1, q.2, mq_st_eq, mq_st_ne (by omega)]; exact T2.2.2.2.2.2.1.symm
      · rw [mq_st_ne (by omega)]
    rw [eq] at T4
    exact T4
  have R0 : mj_E sl (e + 5) i_X9_moonGoes 39 [.ref 45, .int (nI c), w2] [] Mr = mj_E sl (e + 5) i_X9_moonGoes 99 [.ref 45, .int (nI c), .int 0] [] (mj_st Mr2 46 (20 + c) (nI v)) := by
    have i20 : (20 : Int32) + nI c = nI (20 + c) := s_Ladd
    have in20 : mj_inB (nI (20 + c)) 112 = true := mq_inT (by omega) (by decide)
    have cl20 : (nI (20 + c)).toNatClampNeg = 20 + c := nI_clamp (by omega)
    have mnE : mj_C sl (e + 4) 125 [.int 9999, .int (nI (mv_in cs c) + nI w)] Mr2 = some (nI v, Mr2) := by
      rw [b_X9_min, nI_add, hv]
      simp (disch := omega) only [s_Llt]
      by_cases q : 9999 < mv_in cs c + w
      · rw [if_pos q, if_neg (by omega)]; rfl
      · rw [if_neg q]
        by_cases q2 : mv_in cs c + w < 9999
        · rw [if_pos q2]
        · rw [if_neg q2, show mv_in cs c + w = 9999 from by omega]
    rw [b_X9_moonGoes_39, if_pos (show nI c < 10 from (nI_lt hc (by decide) : nI c < nI 10)), r_isTold T.2.1 hc, tc]
    simp only [Option.bind_some, if_true, s_10, if_false]
    rw [e1']
    simp only [Option.bind_some, i20, if_pos in20, cl20]
    rw [a3']
    simp only [Option.bind_some]
    rw [(T1.2.1.2.1 c hc tc).2, mnE]
    simp only [Option.bind_some]
  have f4 : mv_fr (mv_Qy b R) Mc (mj_st Mc3 (b + 2) c (nI v)) := ((fk2.wk (fun a k z => by unfold mv_Qy; omega)).tr (c4.wk (fun a k z => by unfold mv_Qy; omega))).st (by unfold mv_Qy; omega)
  have g4 : mv_fr mv_Qr Mr (mj_st Mr2 46 (20 + c) (nI v)) := ((e2.wk (fun a k z => by unfold mv_Qr; omega)).tr (a4.wk (fun a k z => by unfold mv_Qr; omega))).st (by unfold mv_Qr; omega)
  have kn : ∀ j, j = 0 ∨ j = 1 ∨ j = 3 ∨ j = 8 → (mj_st Mc3 (b + 2) c (nI v)) (R + 3) j = Mc1 (R + 3) j := fun j hj => by
    rw [mq_st_ne (by omega), c4 _ _ (by omega), hMc2]
    simp (disch := omega) only [mq_st_ne]
  obtain ⟨Mc', Mr', b1, b2, cs', me', sp', us', b3, b4, b5, b6, b7, b8, b9, b10⟩ := tt_loop (sl := sl) (d := d) (e := e) (rk := rk) hb hR hw LS hc 0 (by omega) (mv_ui cs c v) me sp us _ _ S4' T4' (W.ui v9) tc (by rw [kn 0 (by omega)]; exact z0) (by rw [kn 1 (by omega)]; exact z1) (by rw [kn 3 (by omega)]; exact z3) (by rw [kn 8 (by omega)]; exact z8)
  exact ⟨Mc', Mr', C0.trans b1, R0.trans b2, ⟨cs', me', sp', us', b3, b4, b5, b6, b7, f4.tr (b9.wk (fun a k z => mv_Qxy z)), g4.tr b10⟩⟩
end MV47
