def mv_di (D : Nat) : Int32 := if D = 29 then 0 else 1
theorem mv_lwD {D : Nat} (hD : D = 29 ∨ D = 38) : mj_lw (mv_di D) = D := by rcases hD with rfl | rfl <;> rfl
def lc_S (M : mj_M) (D n i L : Nat) (w : Int32) : Prop := M 28 1 = mv_di D ∧ M 28 2 = nI n ∧ M 28 3 = nI i ∧ M 28 4 = w ∧ M D 6 = nI L ∧ i ≤ n ∧ L ≤ 480
def lc_Q (D L : Nat) (a k : Nat) : Prop := (a = 28 ∧ (k = 3 ∨ k = 4)) ∨ (a = D ∧ k = 6) ∨ (a = D + 1 ∧ L ≤ k)
theorem lc_Q.wk {D L L2 a k : Nat} (h : lc_Q D L a k) (hl : L2 ≤ L) : lc_Q D L2 a k := by unfold lc_Q at *; omega
def lc_R (D n L : Nat) (r : lp_PR) (M M' : mj_M) : Prop := match r with
  | .inl (q, p) => (∃ i' L', lc_S M' D n i' L' (mv_fx (nI q) (nI p))) ∧ mv_fr (lc_Q D 0) M M'
  | .inr (j, c) => lc_S M' D n j (L + mv_szs c) 0 ∧ mv_cc (M' (D + 1)) L c ∧ mv_fr (lc_Q D L) M M'
def lc_K (sl h D n : Nat) (tp : Nat → Nat) (id o : Nat) (f : Nat → lp_PR) : Prop := ∀ i L M, lc_S M D n i L 0 → L ≤ 2 * i → mv_Tb M tp → M 74 = mj_bt → ∃ M', mj_C sl h id [.ref 28, .int (nI o)] M = some (0, M') ∧ lc_R D n L (f i) M M'
theorem lc_K.up {sl h D n : Nat} {tp : Nat → Nat} {id o : Nat} {f : Nat → lp_PR} (K : lc_K sl h D n tp id o f) (k : Nat) : lc_K sl (h + k) D n tp id o f := fun i L M a b c e => by
  obtain ⟨M', h1, h2⟩ := K i L M a b c e
  exact ⟨M', mj_C_dk h1 k, h2⟩
theorem lp_hr {n : Nat} {tp : Nat → Nat} {i k : Nat} (hk : k < 256) (h8 : tp i < 256) : (mv_hr n tp i = nI k) = (lp_sn n tp i = k) := by
  unfold mv_hr lp_sn
  by_cases q : i < n
  · rw [if_pos q, if_pos q, s_eq (by omega) (by omega)]
  · rw [if_neg q, if_neg q]
    refine propext ⟨fun z => absurd z.symm (mq_neg1 (by omega)), fun z => by omega⟩
theorem lp_hrL {n : Nat} {tp : Nat → Nat} {i k : Nat} (hk : (OfNat.ofNat k : Nat) < 256) (h8 : tp i < 256) : (mv_hr n tp i = (no_index (OfNat.ofNat k : Int32))) = (lp_sn n tp i = OfNat.ofNat k) := lp_hr hk h8
theorem lp_hrS {n : Nat} {tp : Nat → Nat} {i : Nat} (h : lp_sn n tp i < 999) : mv_hr n tp i = nI (lp_sn n tp i) := by
  have hi := lp_sn_lt h
  unfold mv_hr lp_sn
  rw [if_pos hi, if_pos hi]
theorem lp_hrD {n : Nat} {tp : Nat → Nat} {i : Nat} (h8 : tp i < 256) : (if mv_hr n tp i < 48 then (0 : Int32) else if mv_hr n tp i ≤ 57 then 1 else 0) = if lp_dg (lp_sn n tp i) = true then 1 else 0 := by
  unfold mv_hr lp_sn lp_dg
  by_cases q : i < n
  · rw [if_pos q, if_pos q]
    simp (disch := omega) only [s_ltL, s_leL]
    by_cases q1 : tp i < 48
    · rw [if_pos q1, if_neg (by simp only [Bool.and_eq_true, decide_eq_true_eq]; omega)]
    · rw [if_neg q1]
      by_cases q2 : tp i ≤ 57
      · rw [if_pos q2, if_pos (by simp only [Bool.and_eq_true, decide_eq_true_eq]; omega)]
      · rw [if_neg q2, if_neg (by simp only [Bool.and_eq_true, decide_eq_true_eq]; omega)]
  · rw [if_neg q, if_neg q]
    decide
section LC1
variable {sl d D n i L : Nat} {M : mj_M} {tp : Nat → Nat} {w : Int32}
theorem lc_S.fr {M' : mj_M} {w' : Int32} {i' L' : Nat} {Q : Nat → Nat → Prop} (h : lc_S M D n i L w) (f : mv_fr Q M M') (h1 : ¬ Q 28 1) (h2 : ¬ Q 28 2) (e3 : M' 28 3 = nI i') (e4 : M' 28 4 = w') (e6 : M' D 6 = nI L') (hi : i' ≤ n) (hL : L' ≤ 480) : lc_S M' D n i' L' w' := ⟨by rw [f _ _ h1]; exact h.1, by rw [f _ _ h2]; exact h.2.1, e3, e4, e6, hi, hL⟩
theorem c_sign (h : lc_S M D n i L w) (hn : n ≤ 240) (T : mv_Tb M tp) : mj_C sl (d + 1) i_X4_sign [.ref 28] M = some (mv_hr n tp i, M) := by
  obtain ⟨h1, h2, h3, h4, h5, h6, h7⟩ := h
  rw [b_X4_sign, h3, h2]
  unfold mv_hr
  simp (disch := omega) only [s_lt]
  by_cases q : i < n
  · rw [if_pos q, if_pos q, c_byteB T (by omega)]; rfl
  · rw [if_neg q, if_neg q]
theorem c_fail {x : Int32} (h : lc_S M D n i L 0) : mj_C sl (d + 1) i_X4_fail [.ref 28, .int x] M = some (0, mj_st M 28 4 (mv_fx x (nI i))) := by
  obtain ⟨h1, h2, h3, h4, h5, h6, h7⟩ := h
  have ef : mj_C sl d 123 [.int x, .int (nI i)] M = some (mv_fx x (nI i), M) := b_X8_fault
  rw [b_X4_fail, h4, if_pos rfl, h3, ef]
  rfl
theorem c_failN {x : Int32} (h : lc_S M D n i L w) (hw : ¬ w = 0) : mj_C sl (d + 1) i_X4_fail [.ref 28, .int x] M = some (0, M) := by
  rw [b_X4_fail, h.2.2.2.1, if_neg hw]
theorem lc_failR {q : Nat} (hD : D = 29 ∨ D = 38) (h : lc_S M D n i L 0) : lc_R D n L (.inl (q, i)) M (mj_st M 28 4 (mv_fx (nI q) (nI i))) := by
  refine ⟨⟨i, L, ?_⟩, mv_fr.rf.st (by unfold lc_Q; omega)⟩
  exact h.fr (Q := fun a k => a = 28 ∧ k = 4) (mv_fr.rf.st ⟨rfl, rfl⟩) (by omega) (by omega) (by rw [mq_st_ne (by omega)]; exact h.2.2.1) mq_st_eq (by rw [mq_st_ne (by omega)]; exact h.2.2.2.2.1) h.2.2.2.2.2.1 h.2.2.2.2.2.2
theorem lc_at {j : Nat} (hD : D = 29 ∨ D = 38) (h : lc_S M D n i L w) (hj : j ≤ n) : lc_S (mj_st M 28 3 (nI j)) D n j L w := h.fr (Q := fun a k => a = 28 ∧ k = 3) (mv_fr.rf.st ⟨rfl, rfl⟩) (by omega) (by omega) mq_st_eq (by rw [mq_st_ne (by omega)]; exact h.2.2.2.1) (by rw [mq_st_ne (by omega)]; exact h.2.2.2.2.1) hj h.2.2.2.2.2.2
theorem lc_put {x : Int32} (hD : D = 29 ∨ D = 38) (h : lc_S M D n i L w) (hL : L < 480) : mj_C sl d i_X3_put [.ref D, .int x] M = some (0, mj_st (mj_st M (D + 1) L x) D 6 (nI (L + 1))) := by
  have hD0 : mj_ocl D = 1 := by rcases hD with rfl | rfl <;> rfl
  rw [b_X3_put hD0, h.2.2.2.2.1, if_pos (by rw [s_ltL (by omega) (by decide)]; exact hL), if_pos (mq_inT hL (by decide)), nI_clamp (by omega), mq_st_ne (by omega), h.2.2.2.2.1, s_addL]
theorem lc_putS {x : Int32} (hD : D = 29 ∨ D = 38) (h : lc_S M D n i L w) (hL : L < 480) : lc_S (mj_st (mj_st M (D + 1) L x) D 6 (nI (L + 1))) D n i (L + 1) w := by
  refine h.fr (Q := fun a k => a = D + 1 ∨ a = D) ((mv_fr.rf.st (Or.inl rfl)).st (Or.inr rfl)) (by omega) (by omega) ?_ ?_ mq_st_eq h.2.2.2.2.2.1 (by omega)
  · rw [mq_st_ne (by omega), mq_st_ne (by omega)]; exact h.2.2.1
  · rw [mq_st_ne (by omega), mq_st_ne (by omega)]; exact h.2.2.2.1
theorem lc_putQ {x : Int32} {L0 : Nat} (hl : L0 ≤ L) : mv_fr (lc_Q D L0) M (mj_st (mj_st M (D + 1) L x) D 6 (nI (L + 1))) := (mv_fr.rf.st (by unfold lc_Q; omega)).st (by unfold lc_Q; omega)
theorem lc_putC {x : Int32} : (mj_st (mj_st M (D + 1) L x) D 6 (nI (L + 1))) (D + 1) L = x := by
  rw [mq_st_ne (by omega), mq_st_eq]
theorem lc_putF {x : Int32} (hD : D = 29 ∨ D = 38) (h : lc_S M D n i L w) : ∃ M', mj_C sl d i_X3_put [.ref D, .int x] M = some (0, M') ∧ (∃ L', lc_S M' D n i L' w) ∧ mv_fr (lc_Q D 0) M M' := by
  by_cases q : L < 480
  · exact ⟨_, lc_put hD h q, ⟨L + 1, lc_putS hD h q⟩, lc_putQ (by omega)⟩
  · have hD0 : mj_ocl D = 1 := by rcases hD with rfl | rfl <;> rfl
    have := h.2.2.2.2.2.2
    refine ⟨M, ?_, ⟨L, h⟩, mv_fr.rf⟩
    rw [b_X3_put hD0, h.2.2.2.2.1, if_neg (by rw [s_ltL (by omega) (by decide)]; exact q)]
theorem c_passF {x : Int32} (hD : D = 29 ∨ D = 38) (h : lc_S M D n i L w) (hn : n ≤ 240) (T : mv_Tb M tp) (hw : ¬ w = 0) (hx : ¬ x = -1) : ∃ M', mj_C sl (d + 2) i_X4_pass [.ref 28, .int x] M = some (0, M') ∧ (∃ i', lc_S M' D n i' L w) ∧ mv_fr (lc_Q D 0) M M' := by
  rw [b_X4_pass, c_sign h hn T]
  simp only [Option.bind_some]
  by_cases q : mv_hr n tp i = x
  · have hi : i < n := by
      unfold mv_hr at q
      by_cases z : i < n
      · exact z
      · rw [if_neg z] at q; exact absurd q.symm hx
    rw [if_pos q, h.2.2.1, s_addL]
    exact ⟨_, rfl, ⟨i + 1, lc_at hD h (by omega)⟩, mv_fr.rf.st (by unfold lc_Q; omega)⟩
  · rw [if_neg q, c_failN h hw]
    exact ⟨M, rfl, ⟨i, h⟩, mv_fr.rf⟩
theorem c_pass {s : Nat} (h : lc_S M D n i L 0) (hn : n ≤ 240) (T : mv_Tb M tp) (hs : s < 256) : mj_C sl (d + 2) i_X4_pass [.ref 28, .int (nI s)] M = if lp_sn n tp i = s then some (0, mj_st M 28 3 (nI (i + 1))) else some (0, mj_st M 28 4 (mv_fx 1 (nI i))) := by
  have hi := h.2.2.2.2.2.1
  rw [b_X4_pass, c_sign h hn T]
  simp only [Option.bind_some]
  rw [h.2.2.1, s_addL, c_fail h]
  have e := lp_hr (n := n) (i := i) hs (T i (by omega)).1
  by_cases q : lp_sn n tp i = s
  · rw [if_pos q, if_pos (by rw [e]; exact q)]
  · rw [if_neg q, if_neg (by rw [e]; exact q)]
    rfl
theorem c_isSign {a b : Nat} (h : lc_S M D n i L 0) (hn : n ≤ 240) (T : mv_Tb M tp) (ha : a < 256) (hb : b < 256) : mj_C sl (d + 2) i_X4_isSign [.ref 28, .int (nI a), .int (nI b)] M = some (if lp_sn n tp i = a ∨ lp_sn n tp i = b then 1 else 0, M) := by
  have hi := h.2.2.2.2.2.1
  rw [b_X4_isSign, c_sign h hn T]
  simp only [Option.bind_some]
  have ea := lp_hr (n := n) (i := i) ha (T i (by omega)).1
  have eb := lp_hr (n := n) (i := i) hb (T i (by omega)).1
  rw [h.2.2.2.1, if_pos rfl]
  by_cases q : lp_sn n tp i = a
  · rw [if_pos (show mv_hr n tp i = nI a by rw [ea]; exact q), if_pos (Or.inl q)]
  · rw [if_neg (show ¬ mv_hr n tp i = nI a by rw [ea]; exact q)]
    by_cases q2 : lp_sn n tp i = b
    · rw [if_pos (show mv_hr n tp i = nI b by rw [eb]; exact q2), if_pos (Or.inr q2)]
    · rw [if_neg (show ¬ mv_hr n tp i = nI b by rw [eb]; exact q2), if_neg (fun z => by rcases z with z | z <;> contradiction)]
theorem c_isSignF {x y : Int32} (h : lc_S M D n i L w) (hn : n ≤ 240) (T : mv_Tb M tp) (hw : ¬ w = 0) : mj_C sl (d + 2) i_X4_isSign [.ref 28, .int x, .int y] M = some (0, M) := by
  rw [b_X4_isSign, c_sign h hn T]
  simp only [Option.bind_some]
  rw [h.2.2.2.1, if_neg hw]
theorem c_opens {o : Nat} (h : lc_S M D n i L 0) (ho : o ≤ 6) : mj_C sl (d + 2) i_X4_opens [.ref 28, .int (nI o)] M = if o < 6 then some (1, mj_st M 28 3 (nI (i + 1))) else some (0, mj_st M 28 4 (mv_fx 5 (nI i))) := by
  rw [b_X4_opens, h.2.2.1, s_addL, c_fail h]
  simp (disch := omega) only [s_ltL, Option.bind_some]
theorem c_isDg (h8 : tp i < 256) : mj_C sl d i_X4_isDigit [.int (mv_hr n tp i)] M = some (if lp_dg (lp_sn n tp i) = true then 1 else 0, M) := by
  rw [← lp_hrD h8, b_X4_isDigit]
  split
  · rfl
  · split <;> rfl
theorem mv_fxne {q p : Nat} (hq : q = 1 ∨ q = 2 ∨ q = 5) (hp : p ≤ 240) : ¬ mv_fx (nI q) (nI p) = 0 := by
  have h := mv_fne p (by omega)
  rcases hq with rfl | rfl | rfl
  · exact h.1
  · exact h.2.1
  · exact h.2.2.2.1
theorem c_readNum4 {i0 L0 : Nat} {M0 : mj_M} (hD : D = 29 ∨ D = 38) (hn : n ≤ 240) (hL0 : L0 < 480) : ∀ m t i v M, m + t = 5 → lc_S M D n i L0 0 → mv_Tb M tp → mv_fr (lc_Q D L0) M0 M → v < 10 ^ t → ∃ M', mj_E sl (d + 2) i_X4_readNumber 4 [.ref 28, .int (nI v), .int (nI t)] [] M = some (0, M') ∧ lc_R D n L0 (lp_nm (lp_sn n tp) m i v) M0 M' := by
  have fin : ∀ i v M, lc_S M D n i L0 0 → mv_fr (lc_Q D L0) M0 M → v < 10 ^ 5 → ∃ M', (mj_C sl (d + 1) 42 [.ref D, .int ((265 : Int32) + nI v)] M).bind (fun q5 => some ((0 : Int32), q5.2)) = some (0, M') ∧ lc_R D n L0 (.inr (i, [(0, v)])) M0 M' := by
    intro i v M h f hv
    rw [s_Ladd, lc_put hD h hL0]
    refine ⟨_, rfl, lc_putS hD h hL0, ⟨Or.inl ⟨rfl, by omega, lc_putC⟩, trivial⟩, f.tr (lc_putQ (Nat.le_refl _))⟩
  have bad : ∀ i v M, lc_S M D n i L0 0 → mv_fr (lc_Q D L0) M0 M → ∃ M', (mj_C sl (d + 1) 50 [.ref 28, .int 2] M).bind (fun q6 => (mj_C sl (d + 1) 42 [.ref (mj_lw (q6.2 28 1)), .int ((265 : Int32) + nI v)] q6.2).bind (fun q7 => some ((0 : Int32), q7.2))) = some (0, M') ∧ lc_R D n L0 (.inl (2, i)) M0 M' := by
    intro i v M h f
    obtain ⟨⟨i', L', h'⟩, f'⟩ := lc_failR (q := 2) hD h
    have e1 : mj_C sl (d + 1) 50 [.ref 28, .int 2] M = some (0, mj_st M 28 4 (mv_fx (nI 2) (nI i))) := c_fail h
    obtain ⟨M', p1, ⟨L2, p2⟩, p3⟩ := lc_putF (sl := sl) (d := d + 1) (x := (265 : Int32) + nI v) hD h'
    have p1' : mj_C sl (d + 1) 42 [.ref D, .int ((265 : Int32) + nI v)] (mj_st M 28 4 (mv_fx (nI 2) (nI i))) = some (0, M') := p1
    rw [e1]
    simp only [Option.bind_some]
    rw [h'.1, mv_lwD hD, p1']
    exact ⟨M', rfl, ⟨i', L2, p2⟩, ((f.wk (fun a k z => z.wk (by omega))).tr f').tr p3⟩
  intro m
  induction m with
  | zero =>
    intro t i v M ht h T f hv
    have hi := h.2.2.2.2.2.1
    have t5 : t = 5 := by omega
    subst t5
    have e1 := c_sign (sl := sl) (d := d) h hn T
    have e2 := c_isDg (sl := sl) (d := d + 1) (n := n) (M := M) (T i (by omega)).1
    rw [b_X4_readNumber_4, if_neg (by decide), e1]
    simp only [Option.bind_some]
    rw [e2]
    unfold lp_nm
    by_cases q : lp_dg (lp_sn n tp i) = true
    · simp only [q, if_true, Option.bind_some, s_10, if_false]
      exact bad i v M h f
    · simp only [q, if_false, Option.bind_some, if_true, Bool.false_eq_true]
      rw [h.1, mv_lwD hD]
      exact fin i v M h f hv
  | succ m ih =>
    intro t i v M ht h T f hv
    have hi := h.2.2.2.2.2.1
    have e1 := c_sign (sl := sl) (d := d) h hn T
    have e2 := c_isDg (sl := sl) (d := d + 1) (n := n) (M := M) (T i (by omega)).1
    rw [b_X4_readNumber_4, if_pos (by rw [s_ltL (by omega) (by decide)]; omega), e1]
    simp only [Option.bind_some]
    rw [e2]
    unfold lp_nm
    by_cases q : lp_dg (lp_sn n tp i) = true
    · simp only [q, if_true, Option.bind_some, s_10, if_false]
      rw [e1]
      simp only [Option.bind_some]
      have q' : 48 ≤ lp_sn n tp i ∧ lp_sn n tp i ≤ 57 := by
        unfold lp_dg at q
        simp only [Bool.and_eq_true, decide_eq_true_eq] at q
        exact q
      have hlt : i < n := lp_sn_lt (tp := tp) (by omega)
      have h5 : 10 ^ t ≤ 10 ^ 5 := Nat.pow_le_pow_right (by decide) (by omega)
      have ev : (10 : Int32) * nI v + mv_hr n tp i - 48 = nI (10 * v + lp_sn n tp i - 48) := by
        rw [lp_hrS (by omega), s_Lmul, nI_add, s_subL (by omega)]
      rw [ev, h.2.2.1, s_addL, s_addL]
      have hp : 10 ^ (t + 1) = 10 ^ t * 10 := Nat.pow_succ ..
      exact ih (t + 1) (i + 1) _ _ (by omega) (lc_at hD h (by omega)) (T.fr (Q := fun a k => a = 28) (mv_fr.rf.st rfl) (fun a k z => by omega)) (f.st (by unfold lc_Q; omega)) (by omega)
    · simp only [q, if_false, Option.bind_some, if_true, Bool.false_eq_true]
      rw [e1]
      simp only [Option.bind_some]
      rw [e2]
      simp only [q, if_false, Option.bind_some, if_true, Bool.false_eq_true]
      rw [h.1, mv_lwD hD]
      have h5 : 10 ^ t ≤ 10 ^ 5 := Nat.pow_le_pow_right (by decide) (by omega)
      exact fin i v M h f (by omega)
end LC1
