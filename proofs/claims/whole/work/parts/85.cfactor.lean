theorem mv_u16 : ∀ c, c < 256 → ((nI c).toUInt32 % 65536).toInt32 = nI c := by decide +kernel
theorem mv_btk : ∀ c, c < 256 → (mj_bt 0 = (nI c).toInt8.toInt32 ↔ c = 99) ∧ (mj_bt 1 = (nI c).toInt8.toInt32 ↔ c = 97) ∧ (mj_bt 2 = (nI c).toInt8.toInt32 ↔ c = 108) ∧ (mj_bt 3 = (nI c).toInt8.toInt32 ↔ c = 103) ∧ (mj_bt 4 = (nI c).toInt8.toInt32 ↔ c = 115) ∧ (mj_bt 5 = (nI c).toInt8.toInt32 ↔ c = 107) ∧ (mj_bt 6 = (nI c).toInt8.toInt32 ↔ c = 102) ∧ (mj_bt 7 = (nI c).toInt8.toInt32 ↔ c = 100) ∧ (mj_bt 8 = (nI c).toInt8.toInt32 ↔ c = 109) := by decide +kernel
section LC2
variable {sl d D n i L : Nat} {M : mj_M} {tp : Nat → Nat} {w : Int32}
theorem c_indexOf {c : Nat} (hc : c < 256) (h74 : M 74 = mj_bt) : mj_C sl (d + 3) i_J0_indexOf_0f7a4 [.ref 73, .int (((nI c).toUInt32 % 65536).toInt32)] M = some (if lp_nam c < 9 then nI (lp_nam c) else -1, M) := by
  have st : ∀ j, j < 9 → ∀ (w1 w2 : Value) (y : Int32), mj_E sl d 240 7 [.ref 74, w1, w2, .int 9, .int y, .int (nI j)] [] M = if mj_bt j = y then some (nI j, M) else mj_E sl d 240 7 [.ref 74, w1, w2, .int 9, .int y, .int (nI (j + 1))] [] M := fun j hj w1 w2 y => by
    rw [b_J1_indexOfChar_4cfef_7, if_pos (show nI j < 9 from (nI_lt hj (by decide) : nI j < nI 9)), if_pos (mq_inT hj (by decide)), nI_clamp (by omega), h74, s_addL]
  have en : ∀ (w1 w2 : Value) (y : Int32), mj_E sl d 240 7 [.ref 74, w1, w2, .int 9, .int y, .int (nI 9)] [] M = some (-1, M) := fun w1 w2 y => by
    rw [b_J1_indexOfChar_4cfef_7, if_neg (by decide)]
  have e240 : mj_C sl d 240 [.ref 74, .int (nI c), .int 0, .int 9] M = some (if lp_nam c < 9 then nI (lp_nam c) else -1, M) := by
    obtain ⟨k0, k1, k2, k3, k4, k5, k6, k7, k8⟩ := mv_btk c hc
    rw [b_J1_indexOfChar_4cfef]
    show mj_E sl d 240 7 [.ref 74, .int (nI c), .int 0, .int 9, .int ((nI c).toInt8.toInt32), .int (nI 0)] [] M = _
    unfold lp_nam
    rw [st 0 (by omega)]
    by_cases h0 : c = 99
    · rw [if_pos (k0.mpr h0), if_pos h0, if_pos (by decide)]
    rw [if_neg (fun z => h0 (k0.mp z)), if_neg h0, st 1 (by omega)]
    by_cases h1 : c = 97
    · rw [if_pos (k1.mpr h1), if_pos h1, if_pos (by decide)]
    rw [if_neg (fun z => h1 (k1.mp z)), if_neg h1, st 2 (by omega)]
    by_cases h2 : c = 108
    · rw [if_pos (k2.mpr h2), if_pos h2, if_pos (by decide)]
    rw [if_neg (fun z => h2 (k2.mp z)), if_neg h2, st 3 (by omega)]
    by_cases h3 : c = 103
    · rw [if_pos (k3.mpr h3), if_pos h3, if_pos (by decide)]
    rw [if_neg (fun z => h3 (k3.mp z)), if_neg h3, st 4 (by omega)]
    by_cases h4 : c = 115
    · rw [if_pos (k4.mpr h4), if_pos h4, if_pos (by decide)]
    rw [if_neg (fun z => h4 (k4.mp z)), if_neg h4, st 5 (by omega)]
    by_cases h5 : c = 107
    · rw [if_pos (k5.mpr h5), if_pos h5, if_pos (by decide)]
    rw [if_neg (fun z => h5 (k5.mp z)), if_neg h5, st 6 (by omega)]
    by_cases h6 : c = 102
    · rw [if_pos (k6.mpr h6), if_pos h6, if_pos (by decide)]
    rw [if_neg (fun z => h6 (k6.mp z)), if_neg h6, st 7 (by omega)]
    by_cases h7 : c = 100
    · rw [if_pos (k7.mpr h7), if_pos h7, if_pos (by decide)]
    rw [if_neg (fun z => h7 (k7.mp z)), if_neg h7, st 8 (by omega)]
    by_cases h8 : c = 109
    · rw [if_pos (k8.mpr h8), if_pos h8, if_pos (by decide)]
    rw [if_neg (fun z => h8 (k8.mp z)), if_neg h8, if_neg (by decide), en]
  have e9 : (9 : Int32) >>> ((0 : Int32) &&& 31) = 9 := by decide
  rw [b_J0_indexOf_0f7a4, mv_u16 c hc, b_J0_indexOf_7cf53, b_J0_isLatin1_aae02]
  simp only [Option.bind_some, s_10, if_false]
  rw [b_J0_length_8abf5, b_J0_coder_7d493]
  simp only [Option.bind_some]
  rw [e9, b_J1_indexOf_4cfef, b_J1_canEncode_9a6ad, if_neg (nI_pos (by omega)), if_pos (show nI c ≤ 255 from (nI_le (by omega) (by decide) : nI c ≤ nI 255))]
  simp only [Option.bind_some, s_10, if_false]
  rw [show mj_mx 0 0 = 0 from rfl, show mj_mn 9 9 = 9 from rfl, if_pos (by decide), e240]
  rfl
theorem mv_cc1 {cd : Nat → Int32} {op v : Nat} (h : (op = 0 ∧ v ≤ 99999 ∧ cd L = nI (265 + v)) ∨ (op = 1 ∧ v < 9 ∧ cd L = nI (256 + v)) ∨ (2 ≤ op ∧ op ≤ 10 ∧ cd L = nI (mv_sgn op))) : mv_cc cd L [(op, v)] := by
  refine ⟨?_, trivial⟩
  rcases h with h | h | h
  · exact Or.inl h
  · exact Or.inr (Or.inl h)
  · exact Or.inr (Or.inr (Or.inl h))
theorem lc_R.pre {M0 M' : mj_M} {r : lp_PR} (h : lc_R D n L r M M') (f : mv_fr (lc_Q D L) M0 M) : lc_R D n L r M0 M' := by
  cases r with
  | inl x =>
    obtain ⟨q, p⟩ := x
    exact ⟨h.1, (f.wk (fun a k z => z.wk (by omega))).tr h.2⟩
  | inr y =>
    obtain ⟨j, c⟩ := y
    exact ⟨h.1, h.2.1, f.tr h.2.2⟩
theorem lc_Tb {M' : mj_M} {L0 : Nat} (hD : D = 29 ∨ D = 38) (T : mv_Tb M tp) (f : mv_fr (lc_Q D L0) M M') : mv_Tb M' tp := T.fr f (fun a k z => by unfold lc_Q at z; omega)
theorem lc_74 {M' : mj_M} {L0 : Nat} (hD : D = 29 ∨ D = 38) (h : M 74 = mj_bt) (f : mv_fr (lc_Q D L0) M M') : M' 74 = mj_bt := by
  rw [← h]; exact funext (fun k => f 74 k (by unfold lc_Q; omega))
theorem c_end {M0 : mj_M} {s i0 : Nat} {r : lp_PR} {P : List (Nat × Nat) → Prop} (hD : D = 29 ∨ D = 38) (hn : n ≤ 240) (T0 : mv_Tb M0 tp) (hs : s < 256) (R : lc_R D n L r M0 M) (ok : lp_ok n i0 P r) : ∃ M', (mj_C sl (d + 2) i_X4_pass [.ref 28, .int (nI s)] M).bind (fun q4 => some ((0 : Int32), q4.2)) = some (0, M') ∧ lc_R D n L (lp_end (lp_sn n tp) s r) M0 M' := by
  unfold lp_end
  cases r with
  | inl x =>
    obtain ⟨q, p⟩ := x
    obtain ⟨⟨i', L', h'⟩, f'⟩ := R
    obtain ⟨M', e1, ⟨i2, e2⟩, e3⟩ := c_passF (sl := sl) (d := d) (x := nI s) hD h' hn (lc_Tb hD T0 f') (mv_fxne ok.1 (by have := ok.2; omega)) (mq_neg1 (by omega))
    rw [e1]
    exact ⟨M', rfl, ⟨i2, L', e2⟩, f'.tr e3⟩
  | inr y =>
    obtain ⟨j, c⟩ := y
    obtain ⟨h', cc, f'⟩ := R
    have hj := h'.2.2.2.2.2.1
    rw [c_pass h' hn (lc_Tb hD T0 f') hs]
    dsimp only
    by_cases q : lp_sn n tp j = s
    · rw [if_pos q, if_pos q]
      have hlt : j < n := lp_sn_lt (tp := tp) (by omega)
      refine ⟨_, rfl, lc_at hD h' (by omega), ?_, f'.st (by unfold lc_Q; omega)⟩
      show mv_cc ((mj_st M 28 3 (nI (j + 1))) (D + 1)) L c
      rw [mq_st_row (by omega)]
      exact cc
    · rw [if_neg q, if_neg q]
      obtain ⟨a1, a2⟩ := lc_failR (q := 1) hD h'
      exact ⟨_, rfl, a1, (f'.wk (fun a k z => z.wk (by omega))).tr a2⟩
theorem c_F_gen {k o : Nat} (hD : D = 29 ∨ D = 38) (hn : n ≤ 240) (ho : o + k = 6) (hS : ∀ k', k = k' + 1 → lc_K sl (d + 3) D n tp i_X4_readSum (o + 1) (lp_S (lp_sn n tp) (lp_F (lp_sn n tp) k'))) : lc_K sl (d + 4) D n tp i_X4_readFactor o (lp_F (lp_sn n tp) k) := by
  intro i L M h hL T h74
  have hi := h.2.2.2.2.2.1
  have h8 := (T i (by omega)).1
  have e1 := c_sign (sl := sl) (d := d + 2) h hn T
  have eD := c_isDg (sl := sl) (d := d + 3) (n := n) (M := M) h8
  have hF : lp_F (lp_sn n tp) k i = if lp_sn n tp i = 91 then (match k with
      | 0 => .inl (5, i)
      | k' + 1 => lp_end (lp_sn n tp) 93 (lp_S (lp_sn n tp) (lp_F (lp_sn n tp) k') (i + 1))) else lp_atom (lp_sn n tp) i := by
    cases k with
    | zero => rfl
    | succ k' => rfl
  rw [b_X4_readFactor, h.2.2.2.1, if_pos rfl, e1]
  simp only [Option.bind_some]
  by_cases hp : i < n ∧ 0 < tp i
  · have eH : mv_hr n tp i = nI (tp i) := if_pos hp.1
    have eS : lp_sn n tp i = tp i := if_pos hp.1
    have n0 : ¬ mv_hr n tp i ≤ 0 := by
      rw [eH]
      intro z
      have z' : nI (tp i) ≤ nI 0 := z
      rw [s_le (by omega) (by omega)] at z'
      omega
    rw [if_neg n0, eH, c_indexOf h8 h74]
    simp only [Option.bind_some]
    by_cases q : tp i = 91
    · rw [if_pos (show nI (tp i) = 91 by rw [q]; rfl), hF, eS, if_pos q, c_opens h (by omega)]
      cases k with
      | zero =>
        rw [if_neg (by omega)]
        simp only [Option.bind_some, if_true]
        exact ⟨_, rfl, lc_failR (q := 5) hD h⟩
      | succ k' =>
        rw [if_pos (show o < 6 by omega)]
        simp only [Option.bind_some, s_10, if_false]
        have f1 : mv_fr (lc_Q D L) M (mj_st M 28 3 (nI (i + 1))) := mv_fr.rf.st (by unfold lc_Q; omega)
        have T1 := lc_Tb hD T f1
        obtain ⟨M2, a1, a2⟩ := hS k' rfl (i + 1) L _ (lc_at hD h (by omega)) (by omega) T1 (lc_74 hD h74 f1)
        have a1' : mj_C sl (d + 3) 57 [.ref 28, .int (nI o + 1)] (mj_st M 28 3 (nI (i + 1))) = some (0, M2) := by rw [s_addL]; exact a1
        rw [a1']
        obtain ⟨M', b1, b2⟩ := c_end (sl := sl) (d := d + 1) (s := 93) hD hn T1 (by omega) a2 (lp_ok_S (lp_ok_F k') (i + 1) (by omega))
        exact ⟨M', b1, b2.pre f1⟩
    · have nq : ¬ nI (tp i) = 91 := by rw [s_eqL (by omega) (by decide)]; exact q
      rw [if_neg nq, hF, eS, if_neg q]
      rw [eH, eS] at eD
      rw [eD]
      unfold lp_atom
      rw [eS]
      by_cases qd : lp_dg (tp i) = true
      · simp only [qd, if_true, Option.bind_some, s_10, if_false]
        rw [b_X4_readNumber]
        obtain ⟨M', a1, a2⟩ := c_readNum4 (sl := sl) (d := d + 1) (tp := tp) (M0 := M) (i0 := i) hD hn (show L < 480 by omega) 5 0 i 0 M rfl h T mv_fr.rf (by decide)
        have a1' : mj_E sl (d + 2 + 1) 60 4 [.ref 28, .int 0, .int 0] [] M = some (0, M') := a1
        rw [a1']
        exact ⟨M', rfl, a2⟩
      · simp only [qd, if_false, Option.bind_some, if_true, Bool.false_eq_true]
        by_cases qn : lp_nam (tp i) < 9
        · rw [if_pos qn]
          simp only [qn, if_true]
          rw [if_neg (nI_pos (show lp_nam (tp i) < 2147483648 by omega))]
          have hl := lc_at (j := i + 1) hD h (by omega)
          have ep := lc_put (sl := sl) (d := d + 3) (x := (256 : Int32) + nI (lp_nam (tp i))) hD hl (show L < 480 by omega)
          rw [h.2.2.1, s_addL, hl.1, mv_lwD hD, ep]
          refine ⟨_, rfl, lc_putS hD hl (by omega), mv_cc1 (Or.inr (Or.inl ⟨rfl, qn, ?_⟩)), (mv_fr.rf.st (by unfold lc_Q; omega)).tr (lc_putQ (Nat.le_refl _))⟩
          exact lc_putC.trans s_Ladd
        · rw [if_neg qn]
          simp only [qn, if_false]
          rw [if_pos (show (-1 : Int32) < 0 by decide), c_fail h]
          exact ⟨_, rfl, lc_failR (q := 1) hD h⟩
  · have n0 : mv_hr n tp i ≤ 0 := by
      unfold mv_hr
      by_cases z : i < n
      · rw [if_pos z, show tp i = 0 from by omega]; decide
      · rw [if_neg z]; decide
    have nS : lp_sn n tp i = 999 ∨ lp_sn n tp i = 0 := by
      unfold lp_sn
      by_cases z : i < n
      · rw [if_pos z]; omega
      · rw [if_neg z]; omega
    have n91 : ¬ mv_hr n tp i = 91 := fun z => by
      rw [lp_hrL (by decide) h8] at z
      rw [z] at nS
      exact absurd nS (by decide)
    have nd : lp_dg (lp_sn n tp i) = false := by rcases nS with z | z <;> rw [z] <;> decide
    have nn : ¬ lp_nam (lp_sn n tp i) < 9 := by rcases nS with z | z <;> rw [z] <;> decide
    have n91' : ¬ lp_sn n tp i = 91 := fun z => by rw [z] at nS; exact absurd nS (by decide)
    rw [nd] at eD
    rw [if_pos n0, if_neg n91, eD, hF, if_neg n91']
    unfold lp_atom
    rw [nd, if_neg (by decide), if_neg nn]
    simp only [Option.bind_some, Bool.false_eq_true, if_false, if_true]
    rw [c_fail h]
    exact ⟨_, rfl, lc_failR (q := 1) hD h⟩
end LC2
