section MV38
variable {sl d : Nat} {mo : Nat → Option Nat} {cs : mv_CS}
theorem mv_hrN {n : Nat} {tp : Nat → Nat} {j : Nat} (h8 : j < n → tp j < 256) (h : j < n → ¬ (97 ≤ tp j ∧ tp j ≤ 121)) : (if mv_hr n tp j < 97 then (0 : Int32) else if mv_hr n tp j ≤ 121 then 1 else 0) = 0 := by
  unfold mv_hr
  by_cases q : j < n
  · have := h8 q
    have := h q
    rw [if_pos q]
    simp (disch := omega) only [s_ltL, s_leL]
    by_cases q2 : tp j < 97
    · rw [if_pos q2]
    · rw [if_neg q2, if_neg (by omega)]
  · rw [if_neg q]
    decide
theorem r_blot196 {Mr : mj_M} {n p j l c k g : Nat} {tp : Nat → Nat} (hn : n ≤ 120) (hj : j ≤ n) (T : mv_Tb Mr tp) (h7 : Mr 45 7 = nI n) (h35 : Mr 45 35 = nI l) (hc : c < 10) (hk : k < 8) (hd : ∀ m, p ≤ m → m < j → 97 ≤ tp m ∧ tp m ≤ 121) (hs : j < n → ¬ (97 ≤ tp j ∧ tp j ≤ 121)) : ∀ m, m ≤ j → p ≤ m → ∀ M', mv_fr (fun a k => a = 45 ∧ k = 6) Mr M' → M' 45 6 = nI m → ∃ M1, mv_fr (fun a k => a = 45 ∧ k = 6) Mr M1 ∧ M1 45 6 = nI j ∧ mj_E sl (d + 1) i_X9_readsBlot 196 [.ref 45, .int (nI c), .int (nI k), .int (nI (mv_dx tp g p (m - p)))] [] M' = some (1, mj_st (mj_st M1 46 (30 + 8 * c + k) (nI (mv_dx tp g p (j - p)))) 45 35 (nI (l + 1))) := by
  refine mq_up ?_ ?_
  · intro hp M' f h6
    have T' := T.fr f (fun a k z => by omega)
    have h7' : M' 45 7 = nI n := by rw [f 45 7 (by omega)]; exact h7
    have h35' : M' 45 35 = nI l := by rw [f 45 35 (by omega)]; exact h35
    refine ⟨M', f, h6, ?_⟩
    rw [b_X9_readsBlot_196, r_here h6 h7' hj (by omega) T']
    simp only [Option.bind_some, r_in]
    rw [mv_hrN (fun z => (T j (by omega)).1) hs]
    simp (disch := omega) only [if_true, r_own, Option.bind_some, s_in, s_cl]
    rw [mq_st_ne (by omega), h35', s_addL]
  · intro m hm ih hp M' f h6
    have T' := T.fr f (fun a k z => by omega)
    have h7' : M' 45 7 = nI n := by rw [f 45 7 (by omega)]; exact h7
    have hdm := hd m hp hm
    have h8 := (T m (by omega)).1
    have eH : mv_hr n tp m = nI (tp m) := if_pos (by omega)
    obtain ⟨M1, f1, e1, e2⟩ := ih (by omega) (mj_st M' 45 6 (nI (m + 1))) (f.st ⟨rfl, rfl⟩) mq_st_eq
    refine ⟨M1, f1, e1, ?_⟩
    rw [b_X9_readsBlot_196, r_here h6 h7' (by omega) (by omega) T', eH]
    simp (disch := omega) only [Option.bind_some, r_in, s_ltL, s_leL, show ¬ tp m < 97 by omega, show tp m ≤ 121 by omega, if_true, if_false, s_10]
    rw [r_here h6 h7' (by omega) (by omega) T', eH]
    simp (disch := omega) only [Option.bind_some, h6, s_addL, s_subL, mq_one, mq_xor]
    rw [show m + 1 - p = (m - p) + 1 from by omega] at e2
    have ed : mv_dx tp g p (m - p + 1) = mv_dx tp g p (m - p) ^^^ 2 ^ (tp m - 97) := by
      show mv_dx tp g p (m - p) ^^^ 2 ^ (tp (p + (m - p)) - 97) = _
      rw [show p + (m - p) = m from by omega]
    rw [ed] at e2
    exact e2
theorem bl_B {Mc Mr : mj_M} {n p l c k : Nat} {tp : Nat → Nat} (hn : n ≤ 120) (hp : p ≤ n) (mr : mv_rM Mr mo) (hw : mv_wM mo) (cr : mv_rC Mr 46 cs) (wc : mv_wC mo cs) (Tc : mv_Tb Mc tp) (Tr : mv_Tb Mr tp) (h6 : Mr 45 6 = nI p) (h7 : Mr 45 7 = nI n) (h35 : Mr 45 35 = nI l) (hc : c < 10) (hk : k < 8) (mk : (mo k).isSome = true) :
    (mj_C sl (d + 1) i_X0_lineEnd [.ref 21, .int (nI n), .int (nI p)] Mc = some (nI p, Mc) ∧ mv_RB sl (d + 2) c k Mr = some (0, mj_st Mr 45 8 (mv_fx 1 (nI p)))) ∨
    (∃ j g M1, p < j ∧ j ≤ n ∧ g < 2 ^ 25 ∧ mj_C sl (d + 1) i_X0_lineEnd [.ref 21, .int (nI n), .int (nI p)] Mc = some (nI j, Mc) ∧ mj_C sl (d + 1) i_X0_blotted [.int (nI (mv_fm mo cs c k)), .ref 21, .int (nI p), .int (nI j)] Mc = some (nI g, Mc) ∧ mv_fr (fun a k => a = 45 ∧ k = 6) Mr M1 ∧ M1 45 6 = nI j ∧ mv_RB sl (d + 2) c k Mr = some (1, mj_st (mj_st M1 46 (30 + 8 * c + k) (nI g)) 45 35 (nI (l + 1)))) := by
  have hg := mv_fm_lt hw wc c k
  have wA : ∀ a b : Int32, mj_C sl (d + 2) 149 [.ref 45, .int a, .int b] Mr = some (0, mj_st Mr 45 8 (mv_fx a b)) := fun a b => b_X9_wrongAt
  have rH := r_here (sl := sl) (d := d + 2) h6 h7 hp (by omega) Tr
  have eF := r_formNow (sl := sl) (d := d + 1) mr hw cr wc hc hk mk
  have rI : ∀ x : Int32, mj_C sl (d + 2) i_X9_isSign [.int x] Mr = some (if x = 33 ∨ x = 126 ∨ x = 60 ∨ x = 62 ∨ x = 124 then 1 else 0, Mr) := fun x => by
    rw [b_X9_isSign]
    by_cases h1 : x = 33
    · simp only [h1, if_true, true_or]
    by_cases h2 : x = 126
    · simp only [h1, h2, if_true, if_false, true_or, or_true]
      rfl
    by_cases h3 : x = 60
    · simp only [h1, h2, h3, if_true, if_false, true_or, or_true]
      rfl
    by_cases h4 : x = 62
    · simp only [h1, h2, h3, h4, if_true, if_false, true_or, or_true]
      rfl
    by_cases h5 : x = 124
    · simp only [h1, h2, h3, h4, h5, if_true, if_false, true_or, or_true]
      rfl
    · simp only [h1, h2, h3, h4, h5, if_false, or_self]
  by_cases hs : p < n ∧ mv_sg (tp p)
  · obtain ⟨p1, p2⟩ := hs
    have h8 := (Tc p (by omega)).1
    have eH : mv_hr n tp p = nI (tp p) := if_pos p1
    have p2' : nI (tp p) = 33 ∨ nI (tp p) = 126 ∨ nI (tp p) = 60 ∨ nI (tp p) = 62 ∨ nI (tp p) = 124 := by
      unfold mv_sg at p2
      simp (disch := omega) only [s_eqL]
      exact p2
    refine Or.inr ⟨p + 1, mv_bg (tp p) (mv_fm mo cs c k), mj_st Mr 45 6 (nI (p + 1)), by omega, by omega, mv_bg_lt hg, ?_, c_blottedS (n := n) Tc (by omega) rfl hg p2, mv_fr.rf.st ⟨rfl, rfl⟩, mq_st_eq, ?_⟩
    · rw [b_X0_lineEnd]
      simp (disch := omega) only [s_lt, p1, if_true, c_byteB Tc, Option.bind_some, s_eqL, s_addL]
      unfold mv_sg at p2
      by_cases h1 : tp p = 33
      · rw [if_pos h1]
      by_cases h2 : tp p = 126
      · rw [if_neg h1, if_pos h2]
      by_cases h3 : tp p = 60
      · rw [if_neg h1, if_neg h2, if_pos h3]
      by_cases h4 : tp p = 62
      · rw [if_neg h1, if_neg h2, if_neg h3, if_pos h4]
      · rw [if_neg h1, if_neg h2, if_neg h3, if_neg h4, if_pos (by omega)]
    · unfold mv_RB
      rw [eF]
      simp only [Option.bind_some]
      rw [rH, eH]
      simp only [Option.bind_some]
      rw [rI, if_pos p2']
      simp only [Option.bind_some, s_10, if_false]
      rw [rH, eH]
      simp only [Option.bind_some]
      have hb := r_blotted (sl := sl) (d := d) (M := Mr) h8 hg p2
      rw [hb]
      simp (disch := omega) only [Option.bind_some, h6, s_addL, r_own, s_in, s_cl, if_true]
      rw [mq_st_ne (by omega), mq_st_ne (by omega), h35, s_addL]
  · have nS : ¬ (mv_hr n tp p = 33 ∨ mv_hr n tp p = 126 ∨ mv_hr n tp p = 60 ∨ mv_hr n tp p = 62 ∨ mv_hr n tp p = 124) := by
      unfold mv_hr
      by_cases q : p < n
      · have h8 := (Tc p (by omega)).1
        rw [if_pos q]
        simp (disch := omega) only [s_eqL]
        exact fun z => hs ⟨q, z⟩
      · rw [if_neg q]
        decide
    have eL : ∃ w3, mj_C sl (d + 1) i_X0_lineEnd [.ref 21, .int (nI n), .int (nI p)] Mc = mj_E sl (d + 1) i_X0_lineEnd 52 [.ref 21, .int (nI n), .int (nI p), w3, .int (nI p)] [] Mc := by
      rw [b_X0_lineEnd]
      by_cases q : p < n
      · have h8 := (Tc p (by omega)).1
        have hs' : ¬ mv_sg (tp p) := fun z => hs ⟨q, z⟩
        unfold mv_sg at hs'
        simp (disch := omega) only [s_lt, q, if_true, c_byteB Tc, Option.bind_some, s_eqL, show ¬ tp p = 33 by omega, show ¬ tp p = 126 by omega, show ¬ tp p = 60 by omega, show ¬ tp p = 62 by omega, show ¬ tp p = 124 by omega, if_false]
        exact ⟨_, rfl⟩
      · simp (disch := omega) only [s_lt, q, if_false]
        exact ⟨_, rfl⟩
    obtain ⟨w3, eL⟩ := eL
    obtain ⟨j, j1, j2, j3, j4, j5⟩ := c_lineEnd52 (sl := sl) (d := d) (w2 := .int (nI p)) (w3 := w3) (n := n) (i := p) (by omega) Tc p (Nat.le_refl _) hp (fun k a b => by omega)
    rw [← eL] at j5
    by_cases q : j = p
    · subst q
      refine Or.inl ⟨j5, ?_⟩
      unfold mv_RB
      rw [eF]
      simp only [Option.bind_some]
      rw [rH]
      simp only [Option.bind_some]
      rw [rI, if_neg nS]
      simp only [Option.bind_some, if_true]
      rw [rH]
      simp only [Option.bind_some, r_in]
      rw [mv_hrN (fun z => (Tc j (by omega)).1) j4]
      simp only [if_true, h6]
      rw [wA]
      exact mv_wr
    · have hjp := j3 p (by omega) (by omega)
      obtain ⟨M1, f1, e1, e2⟩ := r_blot196 (sl := sl) (d := d + 2) (g := mv_fm mo cs c k) (p := p) hn j2 Tr h7 h35 hc hk (fun m a b => j3 m a b) j4 p (by omega) (Nat.le_refl _) Mr mv_fr.rf h6
      refine Or.inr ⟨j, mv_dx tp (mv_fm mo cs c k) p (j - p), M1, by omega, j2, mv_dx_lt hg (j - p) (fun m a b => j3 m a (by omega)), j5, ?_, f1, e1, ?_⟩
      · have h8 := (Tc p (by omega)).1
        have e84 := c_blotted84 (sl := sl) (d := d) (M := Mc) (w0 := .int (nI (mv_fm mo cs c k))) (w2 := .int (nI p)) (g := mv_fm mo cs c k) Tc (show j ≤ 260 by omega) j3 0 (by omega)
        rw [b_X0_blotted, c_byteB Tc (by omega)]
        simp (disch := omega) only [Option.bind_some, s_eqL, show ¬ tp p = 33 by omega, show ¬ tp p = 60 by omega, show ¬ tp p = 62 by omega, show ¬ tp p = 124 by omega, show ¬ tp p = 126 by omega, if_false]
        exact e84
      · unfold mv_RB
        rw [eF]
        simp only [Option.bind_some]
        rw [rH]
        simp only [Option.bind_some]
        rw [rI, if_neg nS]
        simp only [Option.bind_some, if_true]
        rw [rH]
        have h8 := (Tc p (by omega)).1
        have eH : mv_hr n tp p = nI (tp p) := if_pos (by omega)
        rw [eH]
        simp (disch := omega) only [Option.bind_some, r_in, s_ltL, s_leL, show ¬ tp p < 97 by omega, show tp p ≤ 121 by omega, if_true, if_false, s_10]
        rw [Nat.sub_self] at e2
        exact e2
end MV38
