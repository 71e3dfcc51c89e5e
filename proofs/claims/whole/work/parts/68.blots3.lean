def mv_Qb2 (a k : Nat) : Prop := a = 46 ∨ (a = 45 ∧ (k = 5 ∨ k = 6 ∨ k = 8 ∨ k = 35))
section MV39
variable {sl d : Nat} {mo : Nat → Option Nat}
theorem r_blBad {Mr : mj_M} {w1 : Value} {cs0 : mv_CS} {x : Int32} (h47 : mv_rC Mr 47 cs0) (hx : Mr 45 8 = x) : ∃ M', mj_E sl (d + 1) i_X9_blots 46 [.ref 45, w1, .int 0] [] Mr = some (x, M') ∧ mv_fr mv_Qb2 Mr M' ∧ mv_rC M' 46 cs0 ∧ M' 45 5 = 0 := by
  obtain ⟨M', e, f, h⟩ := r_copies (sl := sl) (d := d) (M := mj_st Mr 45 5 0) (a := 47) (b := 46) rfl (by decide) rfl (by decide) (by decide)
  have f2 : mv_fr mv_Qb2 Mr M' := (mv_fr.rf.st (a := 45) (k := 5) (x := 0) (Or.inr ⟨rfl, by omega⟩)).tr (f.wk (fun a k z => Or.inl z))
  refine ⟨M', ?_, f2, h cs0 ?_, ?_⟩
  · rw [b_X9_blots_46, if_pos rfl, if_pos rfl, e]
    simp only [Option.bind_some]
    rw [f 45 8 (by decide), mq_st_ne (by omega), hx]
  · exact h47.fr (Q := fun a k => a = 45) (mv_fr.rf.st rfl) (fun k => by decide)
  · rw [f 45 5 (by decide), mq_st_eq]
def mv_blP (sl d n : Nat) (tp : Nat → Nat) (mo : Nat → Option Nat) (cs0 : mv_CS) (w1 : Value) (i : Nat) : Prop := ∀ (l : Nat) (cs : mv_CS) (Mc Mr : mj_M) (w5 w6 w7 w8 : Value), l ≤ 20 → mv_cM Mc mo → mv_rM Mr mo → mv_cC Mc 15 cs → mv_rC Mr 46 cs → mv_wC mo cs → mv_Tb Mc tp → mv_Tb Mr tp → Mr 45 6 = nI i → Mr 45 7 = nI n → Mr 45 35 = nI l → mv_rC Mr 47 cs0 → ∃ v b Mr1 Mc' Mr', mj_E sl (d + 2) i_X0_doLines 5 [.ref 21, .int (nI n), .ref 15, .int (nI i), .int (nI l), w5, w6, w7, w8] [] Mc = some (v, Mc') ∧ mj_C sl (d + 3) i_X9_readsBlot [.ref 45] Mr = some (b, Mr1) ∧ (b = 0 ∨ b = 1) ∧ mj_E sl (d + 4) i_X9_blots 46 [.ref 45, w1, .int b] [] Mr1 = some (v, Mr') ∧ mv_fr (fun a _ => a = 18) Mc Mc' ∧ mv_fr mv_Qb2 Mr Mr' ∧ Mr' 45 5 = 0 ∧ ((v ≤ 0 ∧ mv_rC Mr' 46 cs0) ∨ (¬ v ≤ 0 ∧ ∃ cs', mv_cC Mc' 15 cs' ∧ mv_rC Mr' 46 cs' ∧ mv_wC mo cs'))
theorem bl_go {n : Nat} {tp : Nat → Nat} {cs0 : mv_CS} {w1 : Value} (hn : n ≤ 120) (hw : mv_wM mo) : ∀ m i, i ≤ n → n - i ≤ m → mv_blP sl d n tp mo cs0 w1 i := by
  intro m
  induction m with
  | zero =>
    intro i hi hm l cs Mc Mr w5 w6 w7 w8 hl mc mr cc cr wc Tc Tr h6 h7 h35 h47
    rcases bl_A (sl := sl) (d := d) hn hi hl mc mr hw cc cr Tc Tr h6 h7 h35 with ⟨x, Mr1, x0, x1, e1, e2, e3, e4, e5⟩ | ⟨c, k, q, -⟩
    · have h47' : mv_rC Mr1 47 cs0 := h47.fr e4 (fun k z => by unfold mv_Qbr at z; omega)
      obtain ⟨Mr', b1, b2, b3, b4⟩ := r_blBad (sl := sl) (d := d + 3) (w1 := w1) h47' e3
      refine ⟨x, 0, Mr1, Mc, Mr', ?_, e2, Or.inl rfl, b1, mv_fr.rf, (e4.wk (fun a k z => by unfold mv_Qbr at z; unfold mv_Qb2; omega)).tr b2, b4, Or.inl ⟨x1, b3⟩⟩
      rw [b_X0_doLines_5 rfl, if_pos (show nI l ≤ 20 from nI_le hl (by decide)), e1]
      exact mv_bnz x0
    · omega
  | succ m ih =>
    intro i hi hm l cs Mc Mr w5 w6 w7 w8 hl mc mr cc cr wc Tc Tr h6 h7 h35 h47
    rcases bl_A (sl := sl) (d := d) hn hi hl mc mr hw cc cr Tc Tr h6 h7 h35 with ⟨x, Mr1, x0, x1, e1, e2, e3, e4, e5⟩ | ⟨c, k, p1, p2, hc, tc, p3, hk, mk, hl2, e1, e2⟩
    · have h47' : mv_rC Mr1 47 cs0 := h47.fr e4 (fun k z => by unfold mv_Qbr at z; omega)
      obtain ⟨Mr', b1, b2, b3, b4⟩ := r_blBad (sl := sl) (d := d + 3) (w1 := w1) h47' e3
      refine ⟨x, 0, Mr1, Mc, Mr', ?_, e2, Or.inl rfl, b1, mv_fr.rf, (e4.wk (fun a k z => by unfold mv_Qbr at z; unfold mv_Qb2; omega)).tr b2, b4, Or.inl ⟨x1, b3⟩⟩
      rw [b_X0_doLines_5 rfl, if_pos (show nI l ≤ 20 from nI_le hl (by decide)), e1]
      exact mv_bnz x0
    · obtain ⟨Mr2, hMr2⟩ : ∃ Mr2, Mr2 = mj_st (mj_st Mr 45 6 (nI (i + 1))) 45 6 (nI (i + 2)) := ⟨_, rfl⟩
      have g2 : mv_fr (fun a k => a = 45 ∧ k = 6) Mr Mr2 := by
        rw [hMr2]; exact (mv_fr.rf.st ⟨rfl, rfl⟩).st ⟨rfl, rfl⟩
      have s6 : Mr2 45 6 = nI (i + 2) := by rw [hMr2]; exact mq_st_eq
      rw [← hMr2] at e2
      have s7 : Mr2 45 7 = nI n := by rw [g2 45 7 (by omega)]; exact h7
      have s35 : Mr2 45 35 = nI l := by rw [g2 45 35 (by omega)]; exact h35
      have Tr2 : mv_Tb Mr2 tp := Tr.fr g2 (fun a k z => by omega)
      have mr2 : mv_rM Mr2 mo := mr.fr g2 (fun k => by omega)
      have cr2 : mv_rC Mr2 46 cs := cr.fr g2 (fun k => by omega)
      have k48 : nI (tp i) - 48 = nI c := by
        rw [p2]; exact (show nI (48 + c) - nI 48 = nI c by rw [pk_sub (by omega)]; congr 1; omega)
      have k65 : nI (tp (i + 1)) - 65 = nI k := by
        rw [p3]; exact (show nI (65 + k) - nI 65 = nI k by rw [pk_sub (by omega)]; congr 1; omega)
      have fA : ∀ (a b : Int32) (M : mj_M), mj_C sl (d + 1) 123 [.int a, .int b] M = some (mv_fx a b, M) := fun a b M => b_X8_fault
      have E0 : mj_E sl (d + 2) i_X0_doLines 5 [.ref 21, .int (nI n), .ref 15, .int (nI i), .int (nI l), w5, w6, w7, w8] [] Mc = (mj_C sl (d + 1) 2 [.ref 21, .int (nI n), .int (nI (i + 2))] Mc).bind (fun q4 => if q4.1 = nI (i + 2) then ((mj_C sl (d + 1) 123 [.int 1, .int q4.1] q4.2).bind (fun q5 => some ((q5.1 : Int32), q5.2))) else ((mj_C sl (d + 1) 8 [.ref 15, .int (nI c), .int (nI k)] q4.2).bind (fun q6 => (mj_C sl (d + 1) 3 [.int q6.1, .ref 21, .int (nI (i + 2)), .int q4.1] q6.2).bind (fun q7 => (mj_C sl (d + 1) 7 [.ref 15, .int (nI c), .int (nI k), .int q7.1] q7.2).bind (fun q8 => if q4.1 < nI n then ((mj_C sl (d + 1) 76 [.ref 21, .int q4.1] q8.2).bind (fun q9 => if q9.1 = 59 then (mj_E sl (d + 2) 0 5 [.ref 21, .int (nI n), .ref 15, .int (q4.1 + 1), .int (nI (l + 1)), .int 0, .int (nI c), .int (nI k), .int q4.1] [] q9.2) else ((mj_C sl (d + 1) 123 [.int 1, .int q4.1] q9.2).bind (fun q10 => some ((q10.1 : Int32), q10.2))))) else (some ((nI (l + 1) : Int32), q8.2))))))) := by
        rw [b_X0_doLines_5 rfl, if_pos (show nI l ≤ 20 from nI_le hl (by decide)), e1]
        simp (disch := omega) only [Option.bind_some, if_true, c_byteB Tc, s_addL, k48, k65]
      rcases bl_B (sl := sl) (d := d) (cs := cs) hn p1 mr2 hw cr2 wc Tc Tr2 s6 s7 s35 hc hk mk with ⟨b1, b2⟩ | ⟨j, g, M1, j1, j2, hg, b1, b2, b3, b4, b5⟩
      · have f3 : mv_fr mv_Qb2 Mr (mj_st Mr2 45 8 (mv_fx 1 (nI (i + 2)))) := (g2.wk (fun a k z => by unfold mv_Qb2; omega)).st (Or.inr ⟨rfl, by omega⟩)
        have h47' : mv_rC (mj_st Mr2 45 8 (mv_fx 1 (nI (i + 2)))) 47 cs0 := h47.fr f3 (fun k z => by unfold mv_Qb2 at z; omega)
        obtain ⟨Mr', d1, d2, d3, d4⟩ := r_blBad (sl := sl) (d := d + 3) (w1 := w1) h47' mq_st_eq
        refine ⟨mv_fx 1 (nI (i + 2)), 0, _, Mc, Mr', ?_, by rw [e2, b2], Or.inl rfl, d1, mv_fr.rf, f3.tr d2, d4, Or.inl ⟨(mv_fle (i + 2) (by omega)).1, d3⟩⟩
        rw [E0, b1]
        simp only [Option.bind_some, if_true]
        rw [fA]
        rfl
      · obtain ⟨Mc2, hMc2⟩ : ∃ Mc2, Mc2 = mj_st Mc 18 (c * 8 + k) (nI g) := ⟨_, rfl⟩
        obtain ⟨Mr3, hMr3⟩ : ∃ Mr3, Mr3 = mj_st (mj_st M1 46 (30 + 8 * c + k) (nI g)) 45 35 (nI (l + 1)) := ⟨_, rfl⟩
        rw [← hMr3] at b5
        have gc : mv_fr (fun a _ => a = 18) Mc Mc2 := by rw [hMc2]; exact mv_fr.rf.st rfl
        have cc2 : mv_cC Mc2 15 (mv_uf cs c k g) := by rw [hMc2]; exact cc.uf (r := 15) hc hk
        have gr : mv_fr mv_Qb2 Mr Mr3 := by
          rw [hMr3]
          exact (((g2.tr b3).wk (fun a k z => by unfold mv_Qb2; omega)).st (Or.inl rfl)).st (Or.inr ⟨rfl, by omega⟩)
        have cr3 : mv_rC Mr3 46 (mv_uf cs c k g) := by
          have q : mv_rC M1 46 cs := cr2.fr b3 (fun k => by omega)
          have q2 := q.uf (g := g) hc hk
          rw [hMr3]
          exact q2.fr (Q := fun a k => a = 45) (mv_fr.rf.st rfl) (fun k => by decide)
        have wc2 : mv_wC mo (mv_uf cs c k g) := wc.uf hg mk
        have Tc2 : mv_Tb Mc2 tp := Tc.fr gc (fun a k z => by omega)
        have Tr3 : mv_Tb Mr3 tp := Tr.fr gr (fun a k z => by unfold mv_Qb2 at z; omega)
        have mc2 : mv_cM Mc2 mo := mc.fr gc (by decide) (fun k => by decide)
        have mr3 : mv_rM Mr3 mo := mr.fr gr (fun k z => by unfold mv_Qb2 at z; omega)
        have t6 : Mr3 45 6 = nI j := by rw [hMr3, mq_st_ne (by omega), mq_st_ne (by omega)]; exact b4
        have t7 : Mr3 45 7 = nI n := by rw [gr 45 7 (by unfold mv_Qb2; omega)]; exact h7
        have t35 : Mr3 45 35 = nI (l + 1) := by rw [hMr3]; exact mq_st_eq
        have h47' : mv_rC Mr3 47 cs0 := h47.fr gr (fun k z => by unfold mv_Qb2 at z; omega)
        have E1 : mj_E sl (d + 2) i_X0_doLines 5 [.ref 21, .int (nI n), .ref 15, .int (nI i), .int (nI l), w5, w6, w7, w8] [] Mc = if j < n then (if tp j = 59 then (mj_E sl (d + 2) 0 5 [.ref 21, .int (nI n), .ref 15, .int (nI (j + 1)), .int (nI (l + 1)), .int 0, .int (nI c), .int (nI k), .int (nI j)] [] Mc2) else some (mv_fx 1 (nI j), Mc2)) else some (nI (l + 1), Mc2) := by
          rw [E0, b1]
          simp only [Option.bind_some]
          rw [if_neg (by rw [s_eq (by omega) (by omega)]; omega), c_formAt rfl mc cc wc hc hk mk]
          simp only [Option.bind_some]
          rw [b2]
          simp only [Option.bind_some]
          rw [b_X1_setForm rfl]
          simp (disch := omega) only [s_mulL, nI_add, s_in, s_cl, if_true, Option.bind_some, s_lt]
          rw [← hMc2]
          by_cases q : j < n
          · have h8 := (Tc j (by omega)).1
            rw [if_pos q, if_pos q, c_byteB Tc2 (by omega)]
            simp (disch := omega) only [Option.bind_some, s_eqL, s_addL]
            rw [fA]
            rfl
          · rw [if_neg q, if_neg q]
        by_cases q : j < n
        · have h8 := (Tc j (by omega)).1
          have rH := r_here (sl := sl) (d := d + 2) t6 t7 j2 (by omega) Tr3
          have eH : mv_hr n tp j = nI (tp j) := if_pos q
          have R0 : mj_E sl (d + 4) i_X9_blots 46 [.ref 45, w1, .int 1] [] Mr3 = (mj_C sl (d + 3) 150 [.ref 45, .int 59] Mr3).bind (fun q2 => if q2.1 = 0 then (mj_E sl (d + 4) 184 46 [.ref 45, w1, .int 0] [] q2.2) else ((mj_C sl (d + 3) 183 [.ref 45] q2.2).bind (fun q3 => if q3.1 = 0 then (mj_E sl (d + 4) 184 46 [.ref 45, w1, .int 0] [] q3.2) else (mj_E sl (d + 4) 184 46 [.ref 45, w1, .int 1] [] q3.2)))) := by
            rw [b_X9_blots_46, if_neg mq_10, t6, t7, if_pos (by rw [s_lt (by omega) (by omega)]; exact q)]
          rw [if_pos q] at E1
          by_cases q2 : tp j = 59
          · rw [if_pos q2] at E1
            obtain ⟨Mr4, hMr4⟩ : ∃ Mr4, Mr4 = mj_st Mr3 45 6 (nI (j + 1)) := ⟨_, rfl⟩
            have g4 : mv_fr mv_Qb2 Mr3 Mr4 := by rw [hMr4]; exact mv_fr.rf.st (Or.inr ⟨rfl, by omega⟩)
            have T4 : mj_C sl (d + 3) 150 [.ref 45, .int 59] Mr3 = some (1, Mr4) := by
              rw [b_X9_takes, rH, eH, q2]
              simp only [Option.bind_some]
              rw [if_pos (show nI 59 = 59 from rfl), t6, s_addL, hMr4]
            obtain ⟨v, b, Mr5, Mc', Mr', a1, a2, a3, a4, a5, a6, a7, a8⟩ := ih (j + 1) (by omega) (by omega) (l + 1) (mv_uf cs c k g) Mc2 Mr4 (.int 0) (.int (nI c)) (.int (nI k)) (.int (nI j)) (by omega) mc2 (mr3.fr g4 (fun k z => by unfold mv_Qb2 at z; omega)) cc2 (by rw [hMr4]; exact cr3.fr (Q := fun a k => a = 45) (mv_fr.rf.st rfl) (fun k => by decide)) wc2 Tc2 (Tr3.fr g4 (fun a k z => by unfold mv_Qb2 at z; omega)) (by rw [hMr4]; exact mq_st_eq) (by rw [hMr4, mq_st_ne (by omega)]; exact t7) (by rw [hMr4, mq_st_ne (by omega)]; exact t35) (h47'.fr g4 (fun k z => by unfold mv_Qb2 at z; omega))
            refine ⟨v, 1, Mr3, Mc', Mr', ?_, by rw [e2, b5], Or.inr rfl, ?_, gc.tr a5, (gr.tr g4).tr a6, a7, a8⟩
            · rw [E1]; exact a1
            · rw [R0, T4]
              simp only [Option.bind_some]
              rw [if_neg mq_10]
              have a2' : mj_C sl (d + 3) 183 [.ref 45] Mr4 = some (b, Mr5) := a2
              rw [a2']
              simp only [Option.bind_some]
              rcases a3 with a3 | a3
              · rw [if_pos a3]; rw [a3] at a4; exact a4
              · rw [if_neg (by rw [a3]; exact mq_10)]; rw [a3] at a4; exact a4
          · rw [if_neg q2] at E1
            have T4 : mj_C sl (d + 3) 150 [.ref 45, .int 59] Mr3 = some (0, mj_st Mr3 45 8 (mv_fx 1 (nI j))) := by
              rw [b_X9_takes, rH, eH]
              simp only [Option.bind_some]
              rw [if_neg (by rw [s_eqL (by omega) (by decide)]; exact q2), b_X9_wrongAt, t6]
              exact mv_wr
            have g4 : mv_fr mv_Qb2 Mr3 (mj_st Mr3 45 8 (mv_fx 1 (nI j))) := mv_fr.rf.st (Or.inr ⟨rfl, by omega⟩)
            obtain ⟨Mr', d1, d2, d3, d4⟩ := r_blBad (sl := sl) (d := d + 3) (w1 := w1) (h47'.fr g4 (fun k z => by unfold mv_Qb2 at z; omega)) mq_st_eq
            refine ⟨mv_fx 1 (nI j), 1, Mr3, Mc2, Mr', E1, by rw [e2, b5], Or.inr rfl, ?_, gc, (gr.tr g4).tr d2, d4, Or.inl ⟨(mv_fle j (by omega)).1, d3⟩⟩
            rw [R0, T4]
            simp only [Option.bind_some, if_true]
            exact d1
        · rw [if_neg q] at E1
          refine ⟨nI (l + 1), 1, Mr3, Mc2, mj_st Mr3 45 5 0, E1, by rw [e2, b5], Or.inr rfl, ?_, gc, gr.st (Or.inr ⟨rfl, by omega⟩), mq_st_eq, Or.inr ⟨?_, _, cc2, cr3.fr (Q := fun a k => a = 45) (mv_fr.rf.st rfl) (fun k => by decide), wc2⟩⟩
          · rw [b_X9_blots_46, if_neg mq_10, t6, t7, if_neg (by rw [s_lt (by omega) (by omega)]; exact q), if_neg mq_10, mq_st_ne (by omega), t35]
          · intro z
            have z' : nI (l + 1) ≤ nI 0 := z
            rw [s_le (by omega) (by omega)] at z'
            omega
end MV39
