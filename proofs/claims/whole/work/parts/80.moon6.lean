def mv_S0 (M : mj_M) (b R : Nat) (mo : Nat → Option Nat) (cs : mv_CS) (me sp us nr : Nat) (kd : Nat → Nat) (ca cb : mv_CD) : Prop := mv_cM M mo ∧ mv_cC M b cs ∧ M b 9 = nI me ∧ M b 10 = nI sp ∧ M b 11 = nI us ∧ mv_LC M R nr kd ca cb
def mv_R0 (M : mj_M) (mo : Nat → Option Nat) (cs : mv_CS) (me sp us nr : Nat) (kd : Nat → Nat) (ca cb : mv_CD) : Prop := mv_rM M mo ∧ mv_rC M 46 cs ∧ M 45 37 = nI me ∧ M 45 38 = nI sp ∧ M 45 39 = nI us ∧ mv_LR M nr kd ca cb
def mv_P0 (b R : Nat) (mo : Nat → Option Nat) (cs : mv_CS) (nr : Nat) (kd : Nat → Nat) (ca cb : mv_CD) (Mc Mr Mc' Mr' : mj_M) : Prop := ∃ cs' me sp us, mv_S0 Mc' b R mo cs' me sp us nr kd ca cb ∧ mv_R0 Mr' mo cs' me sp us nr kd ca cb ∧ mv_wC mo cs' ∧ mv_to cs' = mv_to cs ∧ mv_fr (mv_Qy b R) Mc Mc' ∧ mv_fr mv_Qr Mr Mr'
section MV48
variable {sl d e b R : Nat} {mo : Nat → Option Nat} {rk kd : Nat → Nat} {nr : Nat} {ca cb : mv_CD}
theorem mo_loop (hb : b = 3 ∨ b = 15) (hR : R = 29 ∨ R = 38) (hw : mv_wM mo) (LS : mv_LS nr kd ca cb) : ∀ c, c ≤ 10 → ∀ (cs : mv_CS) (me sp us : Nat) (Mc Mr : mj_M) (w2 : Value), mv_S1 Mc b R mo cs rk me sp us nr kd ca cb → mv_R1 Mr mo cs rk me sp us nr kd ca cb → mv_wC mo cs → ∃ Mc' Mr' w3, mj_E sl (d + 5) i_X1_passMoon 6 [.ref b, .ref R, .int (nI c)] [] Mc = mj_E sl (d + 5) i_X1_passMoon 6 [.ref b, .ref R, .int (nI 10)] [] Mc' ∧ mj_E sl (e + 5) i_X9_moonGoes 39 [.ref 45, .int (nI c), w2] [] Mr = mj_E sl (e + 5) i_X9_moonGoes 39 [.ref 45, .int (nI 10), w3] [] Mr' ∧ mv_PT b R mo cs rk nr kd ca cb Mc Mr Mc' Mr' := by
  have hb0 : mj_ocl b = 0 := by rcases hb with rfl | rfl <;> rfl
  have hR0 : mj_ocl R = 1 := by rcases hR with rfl | rfl <;> rfl
  refine mq_up ?_ ?_
  · intro cs me sp us Mc Mr w2 S T W
    exact ⟨Mc, Mr, w2, rfl, rfl, ⟨cs, me, sp, us, S, T, W, rfl, rfl, mv_fr.rf, mv_fr.rf⟩⟩
  · intro c hc ih cs me sp us Mc Mr w2 S T W
    cases tc : mv_to cs c with
    | false =>
      obtain ⟨Mc', Mr', w3, a1, a2, a3⟩ := ih cs me sp us Mc Mr w2 S T W
      refine ⟨Mc', Mr', w3, ?_, ?_, a3⟩
      · rw [b_X1_passMoon_6 hb0 hR0, if_pos (show nI c < 10 from (nI_lt hc (by decide) : nI c < nI 10)), c_hasC hb0 S.2.1 hc, tc]
        simp only [Option.bind_some, Bool.false_eq_true, if_false, if_true, s_addL]
        exact a1
      · rw [b_X9_moonGoes_39, if_pos (show nI c < 10 from (nI_lt hc (by decide) : nI c < nI 10)), r_isTold T.2.1 hc, tc]
        simp only [Option.bind_some, Bool.false_eq_true, if_false, if_true, s_addL]
        exact a2
    | true =>
      obtain ⟨Mc1, Mr1, e1, e2, cs', me', sp', us', S1, T1, W1, t1, t2, t4, t5⟩ := tt_one (sl := sl) (d := d) (e := e) (w2 := w2) hb hR hw LS hc S T W tc
      obtain ⟨Mc', Mr', w3, a1, a2, a3⟩ := ih cs' me' sp' us' Mc1 Mr1 (.int (nI 8)) S1 T1 W1
      have e1' : mj_C sl (d + 4) 16 [.ref b, .int (nI c), .ref R] Mc = some (0, Mc1) := e1
      refine ⟨Mc', Mr', w3, ?_, e2.trans a2, a3.pre t1 t2 t4 t5⟩
      rw [b_X1_passMoon_6 hb0 hR0, if_pos (show nI c < 10 from (nI_lt hc (by decide) : nI c < nI 10)), c_hasC hb0 S.2.1 hc, tc]
      simp only [Option.bind_some, if_true, s_10, if_false]
      rw [e1']
      simp only [Option.bind_some, s_addL]
      exact a1
theorem r_ranks {cs : mv_CS} {M : mj_M} {w2 : Value} (hm : mv_rM M mo) (hw : mv_wM mo) (hr : mv_rC M 46 cs) (hwc : mv_wC mo cs) : ∃ M', mj_C sl (e + 5) i_X9_moonGoes [.ref 45] M = mj_E sl (e + 5) i_X9_moonGoes 39 [.ref 45, .int 0, .null] [] M' ∧ mv_fr (fun a _ => a = 68) M M' ∧ ∀ j, j < 10 → mv_to cs j = true → M' 68 j = nI (mv_rk mo cs j) := by
  rw [b_X9_moonGoes]
  have L : ∀ c, c ≤ 10 → ∀ M', mv_fr (fun a _ => a = 68) M M' → (∀ j, j < c → mv_to cs j = true → M' 68 j = nI (mv_rk mo cs j)) → ∃ M'', mj_E sl (e + 5) i_X9_moonGoes 2 [.ref 45, .int (nI c), .null] [] M' = mj_E sl (e + 5) i_X9_moonGoes 39 [.ref 45, .int 0, .null] [] M'' ∧ mv_fr (fun a _ => a = 68) M M'' ∧ ∀ j, j < 10 → mv_to cs j = true → M'' 68 j = nI (mv_rk mo cs j) := by
    refine mq_up ?_ ?_
    · intro M' f h
      exact ⟨M', by rw [b_X9_moonGoes_2, if_neg (by decide)], f, h⟩
    · intro c hc ih M' f h
      have hm' := hm.fr f (fun k => by omega)
      have hr' := hr.fr f (fun k => by omega)
      rw [b_X9_moonGoes_2, if_pos (show nI c < 10 from (nI_lt hc (by decide) : nI c < nI 10)), r_isTold hr' hc]
      cases tc : mv_to cs c with
      | false =>
        simp (disch := omega) only [Option.bind_some, Bool.false_eq_true, if_false, if_true, s_in, s_cl, s_addL]
        refine ih _ (f.st rfl) (fun j hj tj => ?_)
        by_cases q : j = c
        · rw [q, tc] at tj; exact absurd tj (by decide)
        · rw [mq_st_ne (by omega)]; exact h j (by omega) tj
      | true =>
        simp (disch := omega) only [Option.bind_some, if_true, s_10, if_false]
        rw [r_rankOf hm' hw hr' hwc hc tc]
        simp (disch := omega) only [Option.bind_some, if_true, s_in, s_cl, s_addL]
        refine ih _ (f.st rfl) (fun j hj tj => ?_)
        by_cases q : j = c
        · rw [q, mq_st_eq]
        · rw [mq_st_ne (by omega)]; exact h j (by omega) tj
  exact L 0 (by omega) M mv_fr.rf (fun j hj => by omega)
theorem c_ages {M : mj_M} {q : Nat} (hb : b = 3 ∨ b = 15) (hR : R = 29 ∨ R = 38) (h7 : M b 7 = nI q) (hq : q ≤ 10000) (hq0 : q % 12 = 0) : ∃ M', mj_E sl (d + 5) i_X1_passMoon 44 [.ref b, .ref R, .int 0] [] M = some (0, M') ∧ mv_fr (fun a _ => a = b + 1) M M' ∧ ∀ j, j < 10 → M' (b + 1) j = mj_mn 99 (M (b + 1) j + 1) := by
  have hb0 : mj_ocl b = 0 := by rcases hb with rfl | rfl <;> rfl
  have hR0 : mj_ocl R = 1 := by rcases hR with rfl | rfl <;> rfl
  have L : ∀ c, c ≤ 10 → ∀ M1, mv_fr (fun a _ => a = b + 1) M M1 → (∀ j, c ≤ j → M1 (b + 1) j = M (b + 1) j) → (∀ j, j < c → M1 (b + 1) j = mj_mn 99 (M (b + 1) j + 1)) → ∃ M', mj_E sl (d + 5) i_X1_passMoon 44 [.ref b, .ref R, .int (nI c)] [] M1 = some (0, M') ∧ mv_fr (fun a _ => a = b + 1) M M' ∧ ∀ j, j < 10 → M' (b + 1) j = mj_mn 99 (M (b + 1) j + 1) := by
    refine mq_up ?_ ?_
    · intro M1 f h h2
      exact ⟨M1, by rw [b_X1_passMoon_44 hb0 hR0, if_neg (by decide)], f, h2⟩
    · intro c hc ih M1 f h h2
      have h7' : M1 b 7 = nI q := by rw [f _ _ (by omega)]; exact h7
      have inC : mj_inB (nI c) 10 = true := mq_inT hc (by decide)
      have clC : (nI c).toNatClampNeg = c := nI_clamp (by omega)
      have e0 : mj_rm (nI q) 12 = 0 := by rw [s_rmL (by omega) (by decide) (by decide), hq0]; rfl
      rw [b_X1_passMoon_44 hb0 hR0, if_pos (show nI c < 10 from (nI_lt hc (by decide) : nI c < nI 10)), h7', if_pos e0, if_pos inC, if_pos inC, clC, h c (Nat.le_refl _), s_addL]
      refine ih _ (f.st rfl) (fun j hj => ?_) (fun j hj => ?_)
      · rw [mq_st_ne (by omega)]; exact h j (by omega)
      · by_cases z : j = c
        · rw [z, mq_st_eq]
        · rw [mq_st_ne (by omega)]; exact h2 j (by omega)
  exact L 0 (by omega) M mv_fr.rf (fun j hj => rfl) (fun j hj => by omega)
def mv_m99 (x : Int32) : Int32 := if 99 < x then 99 else x
theorem r_ages {M : mj_M} {w2 : Value} : ∃ M', mj_E sl (e + 5) i_X9_moonGoes 163 [.ref 45, .int 0, w2] [] M = some (0, M') ∧ mv_fr (fun a k => a = 46 ∧ 10 ≤ k ∧ k < 20) M M' ∧ ∀ j, j < 10 → M' 46 (10 + j) = mv_m99 (M 46 (10 + j) + M 46 j) := by
  have L : ∀ c, c ≤ 10 → ∀ M1, mv_fr (fun a k => a = 46 ∧ 10 ≤ k ∧ k < 20) M M1 → (∀ j, c ≤ j → M1 46 (10 + j) = M 46 (10 + j)) → (∀ j, j < c → M1 46 (10 + j) = mv_m99 (M 46 (10 + j) + M 46 j)) → ∃ M', mj_E sl (e + 5) i_X9_moonGoes 163 [.ref 45, .int (nI c), w2] [] M1 = some (0, M') ∧ mv_fr (fun a k => a = 46 ∧ 10 ≤ k ∧ k < 20) M M' ∧ ∀ j, j < 10 → M' 46 (10 + j) = mv_m99 (M 46 (10 + j) + M 46 j) := by
    refine mq_up ?_ ?_
    · intro M1 f h h2
      exact ⟨M1, by rw [b_X9_moonGoes_163, if_neg (by decide)], f, h2⟩
    · intro c hc ih M1 f h h2
      have i10 : (10 : Int32) + nI c = nI (10 + c) := s_Ladd
      have i0 : (0 : Int32) + nI c = nI c := Int32.zero_add _
      have in10 : mj_inB (nI (10 + c)) 112 = true := mq_inT (by omega) (by decide)
      have in0 : mj_inB (nI c) 112 = true := mq_inT (by omega) (by decide)
      have cl10 : (nI (10 + c)).toNatClampNeg = 10 + c := nI_clamp (by omega)
      have cl0 : (nI c).toNatClampNeg = c := nI_clamp (by omega)
      have hc0 : M1 46 c = M 46 c := f _ _ (by omega)
      have emn : mj_C sl (e + 4) 125 [.int 99, .int (M 46 (10 + c) + M 46 c)] M1 = some (mv_m99 (M 46 (10 + c) + M 46 c), M1) := by
        rw [b_X9_min]
        unfold mv_m99
        split <;> rfl
      rw [b_X9_moonGoes_163, if_pos (show nI c < 10 from (nI_lt hc (by decide) : nI c < nI 10)), i10, i0, if_pos in10, if_pos in0, cl10, cl0, h c (Nat.le_refl _), hc0, emn]
      simp only [Option.bind_some, s_addL, if_pos in10]
      refine ih _ (f.st (a := 46) (k := 10 + c) ⟨rfl, by omega, by omega⟩) (fun j hj => ?_) (fun j hj => ?_)
      · rw [mq_st_ne (by omega)]; exact h j (by omega)
      · by_cases z : j = c
        · rw [z, mq_st_eq]
        · rw [mq_st_ne (by omega)]; exact h2 j (by omega)
  exact L 0 (by omega) M mv_fr.rf (fun j hj => rfl) (fun j hj => by omega)
theorem mo_one {cs : mv_CS} {me sp us : Nat} {Mc Mr : mj_M} (hb : b = 3 ∨ b = 15) (hR : R = 29 ∨ R = 38) (hw : mv_wM mo) (LS : mv_LS nr kd ca cb) (S : mv_S0 Mc b R mo cs me sp us nr kd ca cb) (T : mv_R0 Mr mo cs me sp us nr kd ca cb) (W : mv_wC mo cs) (hmn : mv_mn cs < 9999) : ∃ Mc' Mr', mj_C sl (d + 5) i_X1_passMoon [.ref b, .ref R] Mc = some (0, Mc') ∧ mj_C sl (e + 5) i_X9_moonGoes [.ref 45] Mr = some (0, Mr') ∧ mv_P0 b R mo cs nr kd ca cb Mc Mr Mc' Mr' := by
  have hb0 : mj_ocl b = 0 := by rcases hb with rfl | rfl <;> rfl
  have hR0 : mj_ocl R = 1 := by rcases hR with rfl | rfl <;> rfl
  obtain ⟨s1, s2, s3, s4, s5, s6⟩ := S
  obtain ⟨t1, t2, t3, t4, t5, t6⟩ := T
  obtain ⟨Mc1, c1, c2, c3, c4⟩ := c_rankAll (sl := sl) (d := d + 2) hb0 s1 hw s2 W
  have f1 : mv_fr (fun a _ => a = b + 4 ∨ a = b + 5) Mc Mc1 := c2.fr (fun a k z => z)
  have S1 : mv_S1 Mc1 b R mo cs (mv_rk mo cs) me sp us nr kd ca cb := by
    refine ⟨s1.fr f1 (by omega) (fun k => by omega), s2.fr f1 (fun k a b => by omega) (fun j k a b => by omega), c3, c4, ?_, ?_, ?_, s6.fr f1 (fun a k z => by omega)⟩
    · rw [f1 _ _ (by omega)]; exact s3
    · rw [f1 _ _ (by omega)]; exact s4
    · rw [f1 _ _ (by omega)]; exact s5
  obtain ⟨Mr1, r1, r2, r3⟩ := r_ranks (sl := sl) (e := e) (w2 := .null) t1 hw t2 W
  have T1 : mv_R1 Mr1 mo cs (mv_rk mo cs) me sp us nr kd ca cb := by
    refine ⟨t1.fr r2 (fun k => by omega), t2.fr r2 (fun k => by omega), r3, ?_, ?_, ?_, t6.fr r2 (fun a k z => by omega)⟩
    · rw [r2 _ _ (by omega)]; exact t3
    · rw [r2 _ _ (by omega)]; exact t4
    · rw [r2 _ _ (by omega)]; exact t5
  obtain ⟨Mc2, Mr2, w3, a1, a2, cs2, me2, sp2, us2, S2, T2, W2, k1, k2, k3, k4⟩ := mo_loop (sl := sl) (d := d) (e := e) (rk := mv_rk mo cs) hb hR hw LS 0 (by omega) cs me sp us Mc1 Mr1 .null S1 T1 W
  obtain ⟨Mc3, hMc3⟩ : ∃ Mc3, Mc3 = mj_st Mc2 b 7 (nI (mv_mn cs2 + 1)) := ⟨_, rfl⟩
  obtain ⟨Mr3, hMr3⟩ : ∃ Mr3, Mr3 = mj_st Mr2 46 110 (nI (mv_mn cs2 + 1)) := ⟨_, rfl⟩
  have hmn2 : mv_mn cs2 < 9999 := by rw [k2]; exact hmn
  have C0 : mj_C sl (d + 5) i_X1_passMoon [.ref b, .ref R] Mc = mj_E sl (d + 5) i_X1_passMoon 44 [.ref b, .ref R, .int 0] [] Mc3 := by
    have a1' : mj_E sl (d + 5) 15 6 [.ref b, .ref R, .int 0] [] Mc1 = mj_E sl (d + 5) 15 6 [.ref b, .ref R, .int (nI 10)] [] Mc2 := a1
    rw [b_X1_passMoon hb0 hR0, c1]
    simp only [Option.bind_some]
    rw [a1', b_X1_passMoon_6 hb0 hR0, if_neg (by decide), S2.2.1.2.2.2.1, s_addL, ← hMc3]
  have R0 : mj_C sl (e + 5) i_X9_moonGoes [.ref 45] Mr = if mj_rm (nI (mv_mn cs2 + 1)) 12 = 0 then (mj_E sl (e + 5) 188 163 [.ref 45, .int 0, w3] [] Mr3) else (some ((0 : Int32), Mr3)) := by
    have a2' : mj_E sl (e + 5) i_X9_moonGoes 39 [.ref 45, .int 0, .null] [] Mr1 = mj_E sl (e + 5) i_X9_moonGoes 39 [.ref 45, .int (nI 10), w3] [] Mr2 := a2
    rw [r1, a2', b_X9_moonGoes_39, if_neg (by decide), T2.2.1.2.2.2.1, s_addL, ← hMr3, hMr3, mq_st_eq, ← hMr3]
  have g3 : mv_fr (mv_Qy b R) Mc Mc3 := by
    rw [hMc3]; exact ((f1.wk (fun a k z => by unfold mv_Qy; omega)).tr k3).st (by unfold mv_Qy; omega)
  have h3 : mv_fr mv_Qr Mr Mr3 := by
    rw [hMr3]; exact ((r2.wk (fun a k z => by unfold mv_Qr; omega)).tr k4).st (by unfold mv_Qr; omega)
  have u3 : mv_fr (fun a k => a = b ∧ k = 7) Mc2 Mc3 := by rw [hMc3]; exact mv_fr.rf.st ⟨rfl, rfl⟩
  have v3 : mv_fr (fun a k => a = 46 ∧ k = 110) Mr2 Mr3 := by rw [hMr3]; exact mv_fr.rf.st ⟨rfl, rfl⟩
  obtain ⟨p1, p2, p3, p4, p5, p6, p7, p8⟩ := S2
  obtain ⟨q1, q2, q4, q5, q6, q7, q8⟩ := T2
  have e12 : mj_rm (nI (mv_mn cs2 + 1)) 12 = nI ((mv_mn cs2 + 1) % 12) := s_rmL (by omega) (by decide) (by decide)
  have m7 : Mc3 b 7 = nI (mv_mn cs2 + 1) := by rw [hMc3, mq_st_eq]
  have m110 : Mr3 46 110 = nI (mv_mn cs2 + 1) := by rw [hMr3, mq_st_eq]
  by_cases z : (mv_mn cs2 + 1) % 12 = 0
  · obtain ⟨Mc4, x1, x2, x3⟩ := c_ages (sl := sl) (d := d) hb hR m7 (by omega) z
    obtain ⟨Mr4, y1, y2, y3⟩ := r_ages (sl := sl) (e := e) (M := Mr3) (w2 := w3)
    rw [e12, z, if_pos (show nI 0 = 0 from rfl)] at R0
    refine ⟨Mc4, Mr4, C0.trans x1, R0.trans y1, ⟨(mv_to cs2, fun j => if mv_ag cs2 j + 1 < 99 then mv_ag cs2 j + 1 else 99, mv_in cs2, mv_ow cs2, mv_mn cs2 + 1, mv_x cs2), me2, sp2, us2, ⟨?_, ⟨?_, fun j hj tj => ⟨?_, ?_⟩, fun c k hc hk => ?_, ?_, ?_⟩, ?_, ?_, ?_, ?_⟩, ⟨?_, ⟨fun j hj => ?_, fun j hj tj => ⟨?_, ?_⟩, fun c k hc hk => ?_, ?_, ?_⟩, ?_, ?_, ?_, ?_⟩, ⟨fun j tj => ⟨?_, (W2.1 j tj).2⟩, W2.2.1, ?_, W2.2.2.2⟩, k1, g3.tr (x2.wk (fun a k z => by unfold mv_Qy; omega)), h3.tr (y2.wk (fun a k z => by unfold mv_Qr; omega))⟩⟩
    · exact (p1.fr u3 (by omega) (fun k => by omega)).fr x2 (by omega) (fun k => by omega)
    · rw [x2 _ _ (by omega), u3 _ _ (by omega)]; exact p2.1
    · rw [x3 j hj, u3 _ _ (by omega), (p2.2.1 j hj tj).1]
      have := (W2.1 j tj).1
      unfold mj_mn
      rw [s_addL]
      simp (disch := omega) only [s_ltL]
      show _ = nI (if mv_ag cs2 j + 1 < 99 then mv_ag cs2 j + 1 else 99)
      split <;> rfl
    · rw [x2 _ _ (by omega), u3 _ _ (by omega)]; exact (p2.2.1 j hj tj).2
    · rw [x2 _ _ (by omega), u3 _ _ (by omega)]; exact p2.2.2.1 c k hc hk
    · rw [x2 _ _ (by omega)]; exact m7
    · rw [x2 _ _ (by omega), u3 _ _ (by omega)]; exact p2.2.2.2.2
    · rw [x2 _ _ (by omega), u3 _ _ (by omega)]; exact p5
    · rw [x2 _ _ (by omega), u3 _ _ (by omega)]; exact p6
    · rw [x2 _ _ (by omega), u3 _ _ (by omega)]; exact p7
    · exact (p8.fr u3 (fun a k z => by omega)).fr x2 (fun a k z => by omega)
    · exact (q1.fr v3 (fun k => by omega)).fr y2 (fun k => by omega)
    · rw [y2 _ _ (by omega), v3 _ _ (by omega)]; exact q2.1 j hj
    · have tj' : mv_to cs2 j = true := tj
      rw [y3 j hj, v3 _ _ (by omega), v3 _ _ (by omega), (q2.2.1 j hj tj).1, q2.1 j hj, if_pos tj']
      have := (W2.1 j tj).1
      unfold mv_m99
      rw [s_addL]
      simp (disch := omega) only [s_Llt]
      show _ = nI (if mv_ag cs2 j + 1 < 99 then mv_ag cs2 j + 1 else 99)
      by_cases w : 99 < mv_ag cs2 j + 1
      · rw [if_pos w, if_neg (by omega)]; rfl
      · rw [if_neg w]
        by_cases w2 : mv_ag cs2 j + 1 < 99
        · rw [if_pos w2]
        · rw [if_neg w2, show mv_ag cs2 j + 1 = 99 from by omega]
    · rw [y2 _ _ (by omega), v3 _ _ (by omega)]; exact (q2.2.1 j hj tj).2
    · rw [y2 _ _ (by omega), v3 _ _ (by omega)]; exact q2.2.2.1 c k hc hk
    · rw [y2 _ _ (by omega)]; exact m110
    · rw [y2 _ _ (by omega), v3 _ _ (by omega)]; exact q2.2.2.2.2
    · rw [y2 _ _ (by omega), v3 _ _ (by omega)]; exact q5
    · rw [y2 _ _ (by omega), v3 _ _ (by omega)]; exact q6
    · rw [y2 _ _ (by omega), v3 _ _ (by omega)]; exact q7
    · exact (q8.fr v3 (fun a k z => by omega)).fr y2 (fun a k z => by omega)
    · show (if mv_ag cs2 j + 1 < 99 then mv_ag cs2 j + 1 else 99) ≤ 99
      split <;> omega
    · show mv_mn cs2 + 1 ≤ 9999
      omega
  · have z' : ¬ mj_rm (nI (mv_mn cs2 + 1)) 12 = 0 := by
      rw [e12, s_eqL (by omega) (by decide)]; exact z
    rw [if_neg z'] at R0
    refine ⟨Mc3, Mr3, ?_, R0, ⟨(mv_to cs2, mv_ag cs2, mv_in cs2, mv_ow cs2, mv_mn cs2 + 1, mv_x cs2), me2, sp2, us2, ⟨?_, ⟨?_, fun j hj tj => ⟨?_, ?_⟩, fun c k hc hk => ?_, ?_, ?_⟩, ?_, ?_, ?_, ?_⟩, ⟨?_, ⟨fun j hj => ?_, fun j hj tj => ⟨?_, ?_⟩, fun c k hc hk => ?_, ?_, ?_⟩, ?_, ?_, ?_, ?_⟩, ⟨W2.1, W2.2.1, ?_, W2.2.2.2⟩, k1, g3, h3⟩⟩
    · rw [C0, b_X1_passMoon_44 hb0 hR0, if_pos (by decide), m7, if_neg z']
    · exact p1.fr u3 (by omega) (fun k => by omega)
    · rw [u3 _ _ (by omega)]; exact p2.1
    · rw [u3 _ _ (by omega)]; exact (p2.2.1 j hj tj).1
    · rw [u3 _ _ (by omega)]; exact (p2.2.1 j hj tj).2
    · rw [u3 _ _ (by omega)]; exact p2.2.2.1 c k hc hk
    · exact m7
    · rw [u3 _ _ (by omega)]; exact p2.2.2.2.2
    · rw [u3 _ _ (by omega)]; exact p5
    · rw [u3 _ _ (by omega)]; exact p6
    · rw [u3 _ _ (by omega)]; exact p7
    · exact p8.fr u3 (fun a k z => by omega)
    · exact q1.fr v3 (fun k => by omega)
    · rw [v3 _ _ (by omega)]; exact q2.1 j hj
    · rw [v3 _ _ (by omega)]; exact (q2.2.1 j hj tj).1
    · rw [v3 _ _ (by omega)]; exact (q2.2.1 j hj tj).2
    · rw [v3 _ _ (by omega)]; exact q2.2.2.1 c k hc hk
    · exact m110
    · rw [v3 _ _ (by omega)]; exact q2.2.2.2.2
    · rw [v3 _ _ (by omega)]; exact q5
    · rw [v3 _ _ (by omega)]; exact q6
    · rw [v3 _ _ (by omega)]; exact q7
    · exact q8.fr v3 (fun a k z => by omega)
    · show mv_mn cs2 + 1 ≤ 9999
      omega
theorem ms_loop {n : Nat} (hb : b = 3 ∨ b = 15) (hR : R = 29 ∨ R = 38) (hw : mv_wM mo) (LS : mv_LS nr kd ca cb) (hn : n ≤ 60) : ∀ i, i ≤ n → ∀ (cs : mv_CS) (me sp us : Nat) (Mc Mr : mj_M), mv_S0 Mc b R mo cs me sp us nr kd ca cb → mv_R0 Mr mo cs me sp us nr kd ca cb → mv_wC mo cs → ∃ Mc' Mr', mj_E sl (d + 6) i_X1_passMoons 17 [.ref b, .int (nI n), .ref R, .int (nI i)] [] Mc = some (0, Mc') ∧ mj_E sl (e + 6) i_X9_moonsGo 17 [.ref 45, .int (nI n), .int (nI i)] [] Mr = some (0, Mr') ∧ mv_P0 b R mo cs nr kd ca cb Mc Mr Mc' Mr' := by
  have hb0 : mj_ocl b = 0 := by rcases hb with rfl | rfl <;> rfl
  have hR0 : mj_ocl R = 1 := by rcases hR with rfl | rfl <;> rfl
  refine mq_up ?_ ?_
  · intro cs me sp us Mc Mr S T W
    refine ⟨Mc, Mr, ?_, ?_, ⟨cs, me, sp, us, S, T, W, rfl, mv_fr.rf, mv_fr.rf⟩⟩
    · rw [b_X1_passMoons_17 hb0 hR0, if_neg Int32.lt_irrefl]
    · rw [b_X9_moonsGo_17, if_neg Int32.lt_irrefl]
  · intro i hi ih cs me sp us Mc Mr S T W
    rw [b_X1_passMoons_17 hb0 hR0, b_X9_moonsGo_17, S.2.1.2.2.2.1, T.2.1.2.2.2.1]
    have hmn := W.2.2.1
    simp (disch := omega) only [s_lt, hi, if_true, s_ltL]
    by_cases q : mv_mn cs < 9999
    · simp only [q, if_true]
      obtain ⟨Mc1, Mr1, e1, e2, cs', me', sp', us', S1, T1, W1, t1, t4, t5⟩ := mo_one (sl := sl) (d := d) (e := e) hb hR hw LS S T W q
      obtain ⟨Mc', Mr', a1, a2, cs2, me2, sp2, us2, a3, a4, a5, a6, a7, a8⟩ := ih cs' me' sp' us' Mc1 Mr1 S1 T1 W1
      have e1' : mj_C sl (d + 5) 15 [.ref b, .ref R] Mc = some (0, Mc1) := e1
      have e2' : mj_C sl (e + 5) 188 [.ref 45] Mr = some (0, Mr1) := e2
      refine ⟨Mc', Mr', ?_, ?_, ⟨cs2, me2, sp2, us2, a3, a4, a5, a6.trans t1, t4.tr a7, t5.tr a8⟩⟩
      · rw [e1']
        simp only [Option.bind_some, s_addL]
        exact a1
      · rw [e2']
        simp only [Option.bind_some, s_addL]
        exact a2
    · simp only [q, if_false]
      exact ⟨Mc, Mr, rfl, rfl, ⟨cs, me, sp, us, S, T, W, rfl, mv_fr.rf, mv_fr.rf⟩⟩
theorem ms_all {n : Nat} {cs : mv_CS} {Mc Mr : mj_M} (hb : b = 3 ∨ b = 15) (hR : R = 29 ∨ R = 38) (hw : mv_wM mo) (LS : mv_LS nr kd ca cb) (hn : n ≤ 60) (mc : mv_cM Mc mo) (cc : mv_cC Mc b cs) (lc : mv_LC Mc R nr kd ca cb) (mr : mv_rM Mr mo) (cr : mv_rC Mr 46 cs) (lr : mv_LR Mr nr kd ca cb) (W : mv_wC mo cs) : ∃ Mc' Mr', mj_C sl (d + 6) i_X1_passMoons [.ref b, .int (nI n), .ref R] Mc = some (0, Mc') ∧ mj_C sl (e + 6) i_X9_moonsGo [.ref 45, .int (nI n)] Mr = some (0, Mr') ∧ mv_P0 b R mo cs nr kd ca cb Mc Mr Mc' Mr' := by
  have hb0 : mj_ocl b = 0 := by rcases hb with rfl | rfl <;> rfl
  have hR0 : mj_ocl R = 1 := by rcases hR with rfl | rfl <;> rfl
  rw [b_X1_passMoons hb0 hR0, b_X9_moonsGo]
  obtain ⟨Mc1, hMc1⟩ : ∃ Mc1, Mc1 = mj_st (mj_st (mj_st Mc b 9 0) b 10 0) b 11 0 := ⟨_, rfl⟩
  obtain ⟨Mr1, hMr1⟩ : ∃ Mr1, Mr1 = mj_st (mj_st (mj_st Mr 45 37 0) 45 38 0) 45 39 0 := ⟨_, rfl⟩
  have f1 : mv_fr (fun a k => a = b ∧ 9 ≤ k ∧ k ≤ 11) Mc Mc1 := by
    rw [hMc1]; exact ((mv_fr.rf.st ⟨rfl, by omega, by omega⟩).st ⟨rfl, by omega, by omega⟩).st ⟨rfl, by omega, by omega⟩
  have g1 : mv_fr (fun a k => a = 45 ∧ 37 ≤ k ∧ k ≤ 39) Mr Mr1 := by
    rw [hMr1]; exact ((mv_fr.rf.st ⟨rfl, by omega, by omega⟩).st ⟨rfl, by omega, by omega⟩).st ⟨rfl, by omega, by omega⟩
  have S : mv_S0 Mc1 b R mo cs 0 0 0 nr kd ca cb := by
    refine ⟨mc.fr f1 (by omega) (fun k => by omega), cc.fr f1 (fun k a b => by omega) (fun j k a b => by omega), ?_, ?_, ?_, lc.fr f1 (fun a k z => by omega)⟩
    · rw [hMc1, mq_st_ne (by omega), mq_st_ne (by omega), mq_st_eq]; rfl
    · rw [hMc1, mq_st_ne (by omega), mq_st_eq]; rfl
    · rw [hMc1, mq_st_eq]; rfl
  have T : mv_R0 Mr1 mo cs 0 0 0 nr kd ca cb := by
    refine ⟨mr.fr g1 (fun k => by omega), cr.fr g1 (fun k => by omega), ?_, ?_, ?_, lr.fr g1 (fun a k z => by omega)⟩
    · rw [hMr1, mq_st_ne (by omega), mq_st_ne (by omega), mq_st_eq]; rfl
    · rw [hMr1, mq_st_ne (by omega), mq_st_eq]; rfl
    · rw [hMr1, mq_st_eq]; rfl
  obtain ⟨Mc', Mr', a1, a2, cs2, me2, sp2, us2, a3, a4, a5, a6, a7, a8⟩ := ms_loop (sl := sl) (d := d) (e := e) hb hR hw LS hn 0 (by omega) cs 0 0 0 Mc1 Mr1 S T W
  rw [← hMc1, ← hMr1]
  exact ⟨Mc', Mr', a1, a2, ⟨cs2, me2, sp2, us2, a3, a4, a5, a6, (f1.wk (fun a k z => by unfold mv_Qy; omega)).tr a7, (g1.wk (fun a k z => by unfold mv_Qr; omega)).tr a8⟩⟩
end MV48
