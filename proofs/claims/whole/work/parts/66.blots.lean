theorem mv_byt : ∀ c, c < 256 → (nI c - 48 < 0 ↔ c < 48) ∧ (nI c - 48 ≤ 9 ↔ c ≤ 57) ∧ (nI c - 65 < 0 ↔ c < 65) ∧ (nI c - 65 < 8 ↔ c ≤ 72) ∧ (nI c - 65 ≤ 7 ↔ c ≤ 72) := by decide +kernel
def mv_fx (a b : Int32) : Int32 := -1000 * a - b
theorem mv_fle : ∀ i, i < 261 → mv_fx 1 (nI i) ≤ 0 ∧ mv_fx 2 (nI i) ≤ 0 ∧ mv_fx 4 (nI i) ≤ 0 ∧ mv_fx 5 (nI i) ≤ 0 ∧ mv_fx 7 (nI i) ≤ 0 := by decide +kernel
theorem mv_fne : ∀ i, i < 261 → ¬ mv_fx 1 (nI i) = 0 ∧ ¬ mv_fx 2 (nI i) = 0 ∧ ¬ mv_fx 4 (nI i) = 0 ∧ ¬ mv_fx 5 (nI i) = 0 ∧ ¬ mv_fx 7 (nI i) = 0 := by decide +kernel
abbrev mv_uf (cs : mv_CS) (c k g : Nat) : mv_CS := (mv_to cs, mv_ag cs, mv_in cs, fun a b => if a = c ∧ b = k then some g else mv_ow cs a b, mv_mn cs, mv_x cs)
theorem mv_rC.uf {M : mj_M} {r c k g : Nat} {cs : mv_CS} (h : mv_rC M r cs) (hc : c < 10) (hk : k < 8) : mv_rC (mj_st M r (30 + 8 * c + k) (nI g)) r (mv_uf cs c k g) := by
  refine ⟨fun a ha => ?_, fun a ha ta => ⟨?_, ?_⟩, fun a b ha hb => ?_, ?_, ?_⟩
  · rw [mq_st_ne (by omega)]; exact h.1 a ha
  · rw [mq_st_ne (by omega)]; exact (h.2.1 a ha ta).1
  · rw [mq_st_ne (by omega)]; exact (h.2.1 a ha ta).2
  · by_cases q : a = c ∧ b = k
    · rw [q.1, q.2, mq_st_eq]
      show _ = mv_oi (if c = c ∧ k = k then some g else _)
      rw [if_pos ⟨rfl, rfl⟩]
      rfl
    · rw [mq_st_ne (by omega)]
      show _ = mv_oi (if a = c ∧ b = k then some g else _)
      rw [if_neg q]
      exact h.2.2.1 a b ha hb
  · rw [mq_st_ne (by omega)]; exact h.2.2.2.1
  · rw [mq_st_ne (by omega)]; exact h.2.2.2.2
theorem mv_cC.uf {M : mj_M} {r c k g : Nat} {cs : mv_CS} (h : mv_cC M r cs) (hc : c < 10) (hk : k < 8) : mv_cC (mj_st M (r + 3) (c * 8 + k) (nI g)) r (mv_uf cs c k g) := by
  refine ⟨?_, fun a ha ta => ⟨?_, ?_⟩, fun a b ha hb => ?_, ?_, ?_⟩
  · rw [mq_st_ne (by omega)]; exact h.1
  · rw [mq_st_ne (by omega)]; exact (h.2.1 a ha ta).1
  · rw [mq_st_ne (by omega)]; exact (h.2.1 a ha ta).2
  · by_cases q : a = c ∧ b = k
    · rw [q.1, q.2, show 8 * c + k = c * 8 + k from by omega, mq_st_eq]
      show _ = mv_oi (if c = c ∧ k = k then some g else _)
      rw [if_pos ⟨rfl, rfl⟩]
      rfl
    · rw [mq_st_ne (by omega)]
      show _ = mv_oi (if a = c ∧ b = k then some g else _)
      rw [if_neg q]
      exact h.2.2.1 a b ha hb
  · rw [mq_st_ne (by omega)]; exact h.2.2.2.1
  · rw [mq_st_ne (by omega)]; exact h.2.2.2.2
theorem mv_wC.uf {mo : Nat → Option Nat} {c k g : Nat} {cs : mv_CS} (h : mv_wC mo cs) (hg : g < 2 ^ 25) (mk : (mo k).isSome = true) : mv_wC mo (mv_uf cs c k g) := by
  refine ⟨h.1, fun a b q hq => ?_, h.2.2⟩
  have hq2 : (if a = c ∧ b = k then some g else mv_ow cs a b) = some q := hq
  by_cases qe : a = c ∧ b = k
  · rw [if_pos qe] at hq2
    injection hq2 with hq2
    rw [qe.2]
    exact ⟨by omega, mk⟩
  · rw [if_neg qe] at hq2
    exact h.2.1 a b q hq2
noncomputable def mv_RB (sl D c k : Nat) (M : mj_M) : Option (Int32 × mj_M) := (mj_C sl D 136 [.ref 45, .int (nI c), .int (nI k)] M).bind (fun q12 => (mj_C sl D 147 [.ref 45] q12.2).bind (fun q13 => (mj_C sl D 182 [.int q13.1] q13.2).bind (fun q14 => if q14.1 = 0 then ((mj_C sl D 147 [.ref 45] q14.2).bind (fun q15 => (mj_C sl D 124 [.int q15.1, .int 97, .int 121] q15.2).bind (fun q16 => if q16.1 = 0 then ((mj_C sl D 149 [.ref 45, .int 1, .int (q16.2 45 6)] q16.2).bind (fun q17 => if q17.1 &&& 1 = q17.1 then some ((q17.1 : Int32), q17.2) else none)) else (mj_E sl (D + 1) 183 196 [.ref 45, .int (nI c), .int (nI k), .int q12.1] [] q16.2)))) else ((mj_C sl D 147 [.ref 45] q14.2).bind (fun q18 => (mj_C sl D 181 [.int q12.1, .int q18.1] q18.2).bind (fun q19 => (mj_C sl D 135 [.int (nI c), .int (nI k)] (mj_st q19.2 45 6 ((q19.2 45 6) + 1))).bind (fun q20 => if mj_inB q20.1 112 = true then (some ((1 : Int32), mj_st (mj_st q20.2 46 (q20.1 : Int32).toNatClampNeg q19.1) 45 35 (((mj_st q20.2 46 (q20.1 : Int32).toNatClampNeg q19.1) 45 35) + 1))) else none)))))))
theorem mv_wr {x : Int32} {M : mj_M} : (some ((0 : Int32), mj_st M 45 8 x)).bind (fun q : Int32 × mj_M => if q.1 &&& 1 = q.1 then some ((q.1 : Int32), q.2) else none) = some (0, mj_st M 45 8 x) := if_pos (show (0 : Int32) &&& 1 = 0 by decide)
def mv_Qbr (a k : Nat) : Prop := a = 46 ∨ (a = 45 ∧ (k = 6 ∨ k = 8 ∨ k = 35))
section MV37
variable {sl d : Nat} {mo : Nat → Option Nat} {cs : mv_CS}
theorem bl_A {Mc Mr : mj_M} {n i l : Nat} {tp : Nat → Nat} (hn : n ≤ 120) (hi : i ≤ n) (hl : l ≤ 20) (mc : mv_cM Mc mo) (mr : mv_rM Mr mo) (hw : mv_wM mo) (cc : mv_cC Mc 15 cs) (cr : mv_rC Mr 46 cs) (Tc : mv_Tb Mc tp) (Tr : mv_Tb Mr tp) (h6 : Mr 45 6 = nI i) (h7 : Mr 45 7 = nI n) (h35 : Mr 45 35 = nI l) :
    (∃ x Mr', ¬ x = 0 ∧ x ≤ 0 ∧ mj_C sl (d + 1) i_X0_faultAhead [.ref 21, .int (nI n), .int (nI i), .int (nI l), .ref 15] Mc = some (x, Mc) ∧ mj_C sl (d + 3) i_X9_readsBlot [.ref 45] Mr = some (0, Mr') ∧ Mr' 45 8 = x ∧ mv_fr mv_Qbr Mr Mr' ∧ Mr' 46 = Mr 46) ∨
    (∃ c k, i + 2 ≤ n ∧ tp i = 48 + c ∧ c < 10 ∧ mv_to cs c = true ∧ tp (i + 1) = 65 + k ∧ k < 8 ∧ (mo k).isSome = true ∧ l < 20 ∧ mj_C sl (d + 1) i_X0_faultAhead [.ref 21, .int (nI n), .int (nI i), .int (nI l), .ref 15] Mc = some (0, Mc) ∧ mj_C sl (d + 3) i_X9_readsBlot [.ref 45] Mr = mv_RB sl (d + 2) c k (mj_st (mj_st Mr 45 6 (nI (i + 1))) 45 6 (nI (i + 2)))) := by
  have hfb : ∀ x : Int32, mv_fr mv_Qbr Mr (mj_st Mr 45 8 x) := fun x => mv_fr.rf.st (Or.inr ⟨rfl, by omega⟩)
  have hm1 : mv_fr mv_Qbr Mr (mj_st Mr 45 6 (nI (i + 1))) := mv_fr.rf.st (Or.inr ⟨rfl, by omega⟩)
  have Tr1 : mv_Tb (mj_st Mr 45 6 (nI (i + 1))) tp := Tr.fr (Q := fun a k => a = 45 ∧ k = 6) (mv_fr.rf.st ⟨rfl, rfl⟩) (fun a k z => by omega)
  have mr1 : mv_rM (mj_st Mr 45 6 (nI (i + 1))) mo := fun k hk => by rw [mq_st_ne (by omega)]; exact mr k hk
  have g7 : mj_st Mr 45 6 (nI (i + 1)) 45 7 = nI n := by rw [mq_st_ne (by omega)]; exact h7
  have g6 : mj_st Mr 45 6 (nI (i + 1)) 45 6 = nI (i + 1) := mq_st_eq
  obtain ⟨z1, z2, z4, z5, z7⟩ := mv_fne i (by omega)
  obtain ⟨y1, y2, y4, y5, y7⟩ := mv_fle i (by omega)
  obtain ⟨z1', z2', z4', z5', z7'⟩ := mv_fne (i + 1) (by omega)
  obtain ⟨y1', y2', y4', y5', y7'⟩ := mv_fle (i + 1) (by omega)
  have fA : ∀ a b : Int32, mj_C sl d 123 [.int a, .int b] Mc = some (mv_fx a b, Mc) := fun a b => b_X8_fault
  have wA : ∀ a b : Int32, mj_C sl (d + 2) 149 [.ref 45, .int a, .int b] Mr = some (0, mj_st Mr 45 8 (mv_fx a b)) := fun a b => b_X9_wrongAt
  have wB : ∀ a b : Int32, mj_C sl (d + 2) 149 [.ref 45, .int a, .int b] (mj_st Mr 45 6 (nI (i + 1))) = some (0, mj_st (mj_st Mr 45 6 (nI (i + 1))) 45 8 (mv_fx a b)) := fun a b => b_X9_wrongAt
  have r46 : ∀ x, mj_st Mr 45 8 x 46 = Mr 46 := fun x => mq_st_row (by decide)
  have r46' : ∀ x, mj_st (mj_st Mr 45 6 (nI (i + 1))) 45 8 x 46 = Mr 46 := fun x => by rw [mq_st_row (by decide), mq_st_row (by decide)]
  have rH := r_here (sl := sl) (d := d + 2) h6 h7 hi (by omega) Tr
  by_cases a1 : i < n ∧ 48 ≤ tp i ∧ tp i ≤ 57
  · obtain ⟨a0, a1, a2⟩ := a1
    obtain ⟨c, hc⟩ : ∃ c, tp i = 48 + c := ⟨tp i - 48, by omega⟩
    have hc10 : c < 10 := by omega
    have eH : mv_hr n tp i = nI (tp i) := if_pos a0
    have sC : nI (tp i) - 48 = nI c := by
      rw [hc]; exact (show nI (48 + c) - nI 48 = nI c by rw [pk_sub (by omega), Nat.add_sub_cancel_left])
    have bC := c_byteB (sl := sl) (d := d) (j := i) Tc (by omega)
    rw [eH] at rH
    have R1 : mj_C sl (d + 2) 124 [.int (nI c), .int 0, .int 9] Mr = some (1, Mr) := by
      rw [r_in, if_neg (nI_pos (by omega)), if_pos (show nI c ≤ 9 from (nI_le (by omega) (by decide) : nI c ≤ nI 9))]
    by_cases a3 : l < 20
    · have a3' : ¬ Mr 45 35 = 20 := fun z => by rw [h35, s_eqL (by omega) (by decide)] at z; omega
      cases tc : mv_to cs c with
      | false =>
        have tC : mj_C sl d 5 [.ref 15, .int (nI c)] Mc = some (0, Mc) := by rw [c_hasC rfl cc hc10, tc]; rfl
        have tR : mj_C sl (d + 2) 132 [.ref 45, .int (nI c)] Mr = some (0, Mr) := by rw [r_isTold cr hc10, tc]; rfl
        refine Or.inl ⟨mv_fx 7 (nI i), mj_st Mr 45 8 (mv_fx 7 (nI i)), z7, y7, ?_, ?_, mq_st_eq, hfb _, r46 _⟩
        · rw [b_X0_faultAhead rfl]
          simp (disch := omega) only [s_lt, a0, if_true, bC, Option.bind_some, sC, s_lt0, Nat.not_lt_zero, s_leL, show c ≤ 9 by omega, s_ltL, a3, if_false, tC, fA]
        · rw [b_X9_readsBlot, rH, Option.bind_some]
          dsimp only
          rw [sC, R1, Option.bind_some]
          dsimp only
          rw [if_neg mq_10]
          rw [if_neg a3', tR, Option.bind_some]
          dsimp only
          rw [if_pos rfl, h6, wA]
          exact mv_wr
      | true =>
        have tC : mj_C sl d 5 [.ref 15, .int (nI c)] Mc = some (1, Mc) := by rw [c_hasC rfl cc hc10, tc]; rfl
        have tR : mj_C sl (d + 2) 132 [.ref 45, .int (nI c)] Mr = some (1, Mr) := by rw [r_isTold cr hc10, tc]; rfl
        have rH1 := r_here (sl := sl) (d := d + 2) g6 g7 (by omega) (by omega) Tr1
        by_cases a4 : i + 1 < n ∧ 65 ≤ tp (i + 1) ∧ tp (i + 1) ≤ 72
        · obtain ⟨a4, a5, a6⟩ := a4
          obtain ⟨k, hk⟩ : ∃ k, tp (i + 1) = 65 + k := ⟨tp (i + 1) - 65, by omega⟩
          have hk8 : k < 8 := by omega
          have eH1 : mv_hr n tp (i + 1) = nI (tp (i + 1)) := if_pos a4
          rw [eH1] at rH1
          have sK : nI (tp (i + 1)) - 65 = nI k := by
            rw [hk]; exact (show nI (65 + k) - nI 65 = nI k by rw [pk_sub (by omega), Nat.add_sub_cancel_left])
          have bC1 := c_byteB (sl := sl) (d := d) (j := i + 1) Tc (by omega)
          have R2 : mj_C sl (d + 2) 124 [.int (nI k), .int 0, .int 7] (mj_st Mr 45 6 (nI (i + 1))) = some (1, mj_st Mr 45 6 (nI (i + 1))) := by
            rw [r_in, if_neg (nI_pos (by omega)), if_pos (show nI k ≤ 7 from (nI_le (by omega) (by decide) : nI k ≤ nI 7))]
          cases mk : (mo k).isSome with
          | false =>
            have mC : mj_C sl d 62 [.ref 1, .int (nI k)] Mc = some (0, Mc) := by rw [c_hasM mc hk8, mk]; rfl
            have mR : mj_C sl (d + 2) 131 [.ref 45, .int (nI k)] (mj_st Mr 45 6 (nI (i + 1))) = some (0, mj_st Mr 45 6 (nI (i + 1))) := by rw [r_isLetter mr1 hw hk8, mk]; rfl
            refine Or.inl ⟨mv_fx 7 (nI (i + 1)), mj_st (mj_st Mr 45 6 (nI (i + 1))) 45 8 (mv_fx 7 (nI (i + 1))), z7', y7', ?_, ?_, mq_st_eq, hm1.st (Or.inr ⟨rfl, by omega⟩), r46' _⟩
            · rw [b_X0_faultAhead rfl]
              simp (disch := omega) only [s_lt, a0, if_true, bC, Option.bind_some, sC, s_lt0, Nat.not_lt_zero, s_leL, show c ≤ 9 by omega, s_ltL, a3, if_false, tC, s_10, s_addL, a4, bC1, sK, hk8, mC, fA]
            · rw [b_X9_readsBlot, rH, Option.bind_some]
              dsimp only
              rw [sC, R1, Option.bind_some]
              dsimp only
              rw [if_neg mq_10]
              rw [if_neg a3', tR, Option.bind_some]
              dsimp only
              rw [if_neg mq_10, h6, s_addL, rH1, Option.bind_some]
              dsimp only
              rw [sK, R2, Option.bind_some]
              dsimp only
              rw [if_neg mq_10, mR, Option.bind_some]
              dsimp only
              rw [if_pos rfl, g6, wB]
              exact mv_wr
          | true =>
            have mC : mj_C sl d 62 [.ref 1, .int (nI k)] Mc = some (1, Mc) := by rw [c_hasM mc hk8, mk]; rfl
            have mR : mj_C sl (d + 2) 131 [.ref 45, .int (nI k)] (mj_st Mr 45 6 (nI (i + 1))) = some (1, mj_st Mr 45 6 (nI (i + 1))) := by rw [r_isLetter mr1 hw hk8, mk]; rfl
            refine Or.inr ⟨c, k, by omega, hc, hc10, tc, hk, hk8, mk, a3, ?_, ?_⟩
            · rw [b_X0_faultAhead rfl]
              simp (disch := omega) only [s_lt, a0, if_true, bC, Option.bind_some, sC, s_lt0, Nat.not_lt_zero, s_leL, show c ≤ 9 by omega, s_ltL, a3, if_false, tC, s_10, s_addL, a4, bC1, sK, hk8, mC]
            · rw [b_X9_readsBlot, rH, Option.bind_some]
              dsimp only
              rw [sC, R1, Option.bind_some]
              dsimp only
              rw [if_neg mq_10, if_neg a3', tR, Option.bind_some]
              dsimp only
              rw [if_neg mq_10, h6, s_addL, rH1, Option.bind_some]
              dsimp only
              rw [sK, R2, Option.bind_some]
              dsimp only
              rw [if_neg mq_10, mR, Option.bind_some]
              dsimp only
              rw [if_neg mq_10, g6, s_addL]
              rfl
        · refine Or.inl ⟨mv_fx 1 (nI (i + 1)), mj_st (mj_st Mr 45 6 (nI (i + 1))) 45 8 (mv_fx 1 (nI (i + 1))), z1', y1', ?_, ?_, mq_st_eq, hm1.st (Or.inr ⟨rfl, by omega⟩), r46' _⟩
          · rw [b_X0_faultAhead rfl]
            by_cases a5 : i + 1 < n
            · obtain ⟨-, -, k3, k4, -⟩ := mv_byt (tp (i + 1)) (Tc (i + 1) (by omega)).1
              have bC1 := c_byteB (sl := sl) (d := d) (j := i + 1) Tc (by omega)
              by_cases a6 : tp (i + 1) < 65
              · simp (disch := omega) only [s_lt, a0, if_true, bC, Option.bind_some, sC, s_lt0, Nat.not_lt_zero, s_leL, show c ≤ 9 by omega, s_ltL, a3, if_false, tC, s_10, s_addL, a5, bC1, k3, a6, fA]
              · simp (disch := omega) only [s_lt, a0, if_true, bC, Option.bind_some, sC, s_lt0, Nat.not_lt_zero, s_leL, show c ≤ 9 by omega, s_ltL, a3, if_false, tC, s_10, s_addL, a5, bC1, k3, a6, k4, show ¬ tp (i + 1) ≤ 72 by omega, fA]
            · simp (disch := omega) only [s_lt, a0, if_true, bC, Option.bind_some, sC, s_lt0, Nat.not_lt_zero, s_leL, show c ≤ 9 by omega, s_ltL, a3, if_false, tC, s_10, s_addL, a5, fA]
          · have e0 : (if mv_hr n tp (i + 1) - 65 < 0 then (0 : Int32) else if mv_hr n tp (i + 1) - 65 ≤ 7 then 1 else 0) = 0 := by
              unfold mv_hr
              by_cases a5 : i + 1 < n
              · obtain ⟨-, -, k3, -, k4⟩ := mv_byt (tp (i + 1)) (Tc (i + 1) (by omega)).1
                rw [if_pos a5]
                simp only [k3, k4]
                by_cases a6 : tp (i + 1) < 65
                · rw [if_pos a6]
                · rw [if_neg a6, if_neg (by omega)]
              · rw [if_neg a5]
                decide
            have R2 : mj_C sl (d + 2) 124 [.int (mv_hr n tp (i + 1) - 65), .int 0, .int 7] (mj_st Mr 45 6 (nI (i + 1))) = some (0, mj_st Mr 45 6 (nI (i + 1))) := by
              rw [r_in, e0]
            rw [b_X9_readsBlot, rH, Option.bind_some]
            dsimp only
            rw [sC, R1, Option.bind_some]
            dsimp only
            rw [if_neg mq_10]
            rw [if_neg a3', tR, Option.bind_some]
            dsimp only
            rw [if_neg mq_10, h6, s_addL, rH1, Option.bind_some]
            dsimp only
            rw [R2, Option.bind_some]
            dsimp only
            rw [if_pos rfl, g6, wB]
            exact mv_wr
    · have a3' : Mr 45 35 = 20 := by rw [h35, s_eqL (by omega) (by decide)]; omega
      refine Or.inl ⟨mv_fx 4 (nI i), mj_st Mr 45 8 (mv_fx 4 (nI i)), z4, y4, ?_, ?_, mq_st_eq, hfb _, r46 _⟩
      · rw [b_X0_faultAhead rfl]
        simp (disch := omega) only [s_lt, a0, if_true, bC, Option.bind_some, sC, s_lt0, Nat.not_lt_zero, s_leL, show c ≤ 9 by omega, s_ltL, a3, if_false, fA]
      · rw [b_X9_readsBlot, rH, Option.bind_some]
        dsimp only
        rw [sC, R1, Option.bind_some]
        dsimp only
        rw [if_neg mq_10]
        rw [if_pos a3', h6, wA]
        exact mv_wr
  · refine Or.inl ⟨mv_fx 1 (nI i), mj_st Mr 45 8 (mv_fx 1 (nI i)), z1, y1, ?_, ?_, mq_st_eq, hfb _, r46 _⟩
    · rw [b_X0_faultAhead rfl]
      simp (disch := omega) only [s_lt]
      by_cases a5 : i < n
      · obtain ⟨k3, k4, -⟩ := mv_byt (tp i) (Tc i (by omega)).1
        rw [if_pos a5, c_byteB Tc (by omega)]
        simp only [Option.bind_some, k3, k4, fA]
        by_cases a6 : tp i < 48
        · rw [if_pos a6]
        · rw [if_neg a6, if_neg (by omega)]
      · rw [if_neg a5, fA]
        rfl
    · have e0 : (if mv_hr n tp i - 48 < 0 then (0 : Int32) else if mv_hr n tp i - 48 ≤ 9 then 1 else 0) = 0 := by
        unfold mv_hr
        by_cases a5 : i < n
        · obtain ⟨k3, k4, -⟩ := mv_byt (tp i) (Tc i (by omega)).1
          rw [if_pos a5]
          simp only [k3, k4]
          by_cases a6 : tp i < 48
          · rw [if_pos a6]
          · rw [if_neg a6, if_neg (by omega)]
        · rw [if_neg a5]
          decide
      rw [b_X9_readsBlot, rH, Option.bind_some]
      dsimp only
      rw [r_in, e0, Option.bind_some]
      dsimp only
      rw [if_pos rfl, h6, wA]
      exact mv_wr
end MV37
