abbrev lp_RU : Type := Nat × List (Nat × Nat) × List (Nat × Nat)
abbrev lp_RR : Type := (Nat × Nat) ⊕ (Nat × lp_RU)
def lp_cond (sn : Nat → Nat) (kd : Nat) (ca : List (Nat × Nat)) (j : Nat) : lp_RR := if sn j = 40 then (match lp_end sn 41 (lp_C sn (lp_T sn 5) (j + 1)) with
  | .inl x => .inl x
  | .inr (j2, cb) => .inr (j2, kd, ca, cb)) else .inl (1, j)
def lp_R (sn : Nat → Nat) (r i : Nat) : lp_RR := if sn i = 112 ∨ sn i = 119 ∨ sn i = 105 ∨ sn i = 120 then (if r < 16 then (if sn i = 120 then lp_cond sn 120 [] (i + 1) else (match lp_S sn (lp_F sn 6) (i + 1) with
  | .inl x => .inl x
  | .inr (j, ca) => lp_cond sn (sn i) ca j)) else .inl (4, i)) else .inl (1, i)
def lp_lw (n : Nat) (sn : Nat → Nat) : Nat → Nat → List lp_RU → (Nat × Nat) ⊕ List lp_RU
  | 0, i, _ => .inl (4, i)
  | F + 1, i, rs => match lp_R sn rs.length i with
    | .inl x => .inl x
    | .inr (j, x) => if j < n then (if sn j = 59 then lp_lw n sn F (j + 1) (rs ++ [x]) else .inl (1, j)) else .inr (rs ++ [x])
def lc_QR (D L r : Nat) (a k : Nat) : Prop := (a = 28 ∧ (k = 3 ∨ k = 4)) ∨ (a = D ∧ (k = 6 ∨ k = 7)) ∨ (a = D + 1 ∧ L ≤ k) ∨ ((a = D + 4 ∨ a = D + 5 ∨ a = D + 6) ∧ r ≤ k)
theorem lc_Q.qr {D L a k : Nat} (h : lc_Q D L a k) (r : Nat) : lc_QR D L r a k := by unfold lc_Q at h; unfold lc_QR; omega
theorem lc_QR.wk {D L r L2 r2 a k : Nat} (h : lc_QR D L r a k) (hl : L2 ≤ L) (hr : r2 ≤ r) : lc_QR D L2 r2 a k := by unfold lc_QR at *; omega
def lp_oR (n i : Nat) (r : lp_RR) : Prop := match r with
  | .inl (q, p) => (q = 1 ∨ q = 2 ∨ q = 4 ∨ q = 5) ∧ p ≤ n
  | .inr (j, kd, ca, cb) => i < j ∧ j ≤ n ∧ mv_szs ca + mv_szs cb + 2 ≤ 2 * (j - i) ∧ ca.length + cb.length ≤ j - i ∧ kd < 256 ∧ (¬ kd = 120 → ∀ F, ∃ v, mv_ev F ca 0 [] = some v) ∧ (∀ F, mv_ev F cb 0 [] = some 0 ∨ mv_ev F cb 0 [] = some 1)
theorem lp_ok_cond {n i j kd : Nat} {tp : Nat → Nat} {ca : List (Nat × Nat)} (hij : i < j) (hj : j ≤ n) (h1 : mv_szs ca ≤ 2 * (j - i - 1)) (h2 : ca.length ≤ j - i - 1) (hk : kd < 256) (hs : ¬ kd = 120 → ∀ F, ∃ v, mv_ev F ca 0 [] = some v) : lp_oR n i (lp_cond (lp_sn n tp) kd ca j) := by
  unfold lp_cond
  by_cases q : lp_sn n tp j = 40
  · rw [if_pos q]
    have hlt : j < n := lp_sn_lt (tp := tp) (by omega)
    have h := lp_ok_end (n := n) (tp := tp) (s := 41) (i := j) (by omega) (lp_ok_C (n := n) (tp := tp) (lp_ok_T (n := n) (tp := tp) 5 (by omega)) (j + 1) (by omega))
    cases hr : lp_end (lp_sn n tp) 41 (lp_C (lp_sn n tp) (lp_T (lp_sn n tp) 5) (j + 1)) with
    | inl x =>
      obtain ⟨a, b⟩ := x
      rw [hr] at h
      have h' : (a = 1 ∨ a = 2 ∨ a = 5) ∧ b ≤ n := h
      exact ⟨by omega, h'.2⟩
    | inr y =>
      obtain ⟨j2, cb⟩ := y
      rw [hr] at h
      obtain ⟨k1, k2, k3, k4, k5⟩ := h
      have hsz : mv_szs cb + 2 ≤ 2 * (j2 - j) ∧ cb.length + 1 ≤ j2 - j := by
        have hC := lp_ok_C (n := n) (tp := tp) (lp_ok_T (n := n) (tp := tp) 5 (by omega)) (j + 1) (by omega)
        unfold lp_end at hr
        cases hr2 : lp_C (lp_sn n tp) (lp_T (lp_sn n tp) 5) (j + 1) with
        | inl x => rw [hr2] at hr; cases hr
        | inr y =>
          obtain ⟨j3, c3⟩ := y
          rw [hr2] at hr hC
          obtain ⟨m1, m2, m3, m4, m5⟩ := hC
          dsimp only at hr
          by_cases q2 : lp_sn n tp j3 = 41
          · rw [if_pos q2] at hr
            cases hr
            omega
          · rw [if_neg q2] at hr
            cases hr
      refine ⟨by omega, k2, by omega, by omega, hk, hs, fun F => ?_⟩
      rcases k5 F [] with ⟨v, hv, e⟩ | e
      · rw [List.append_nil] at e
        rcases hv with rfl | rfl
        · exact Or.inl e
        · exact Or.inr e
      · rw [List.append_nil] at e
        exact Or.inl e
  · rw [if_neg q]
    exact ⟨Or.inl rfl, hj⟩
theorem lp_ok_R {n i r : Nat} {tp : Nat → Nat} (hi : i ≤ n) (h8 : ∀ j, j < 260 → tp j < 256) (hn : n ≤ 240) : lp_oR n i (lp_R (lp_sn n tp) r i) := by
  unfold lp_R
  by_cases q : lp_sn n tp i = 112 ∨ lp_sn n tp i = 119 ∨ lp_sn n tp i = 105 ∨ lp_sn n tp i = 120
  · rw [if_pos q]
    have hlt : i < n := lp_sn_lt (tp := tp) (by omega)
    by_cases q1 : r < 16
    · rw [if_pos q1]
      by_cases q2 : lp_sn n tp i = 120
      · rw [if_pos q2]
        exact lp_ok_cond (by omega) (by omega) (by show 0 ≤ _; omega) (by show 0 ≤ _; omega) (by omega) (fun z => absurd rfl z)
      · rw [if_neg q2]
        have h := lp_ok_S (n := n) (tp := tp) (lp_ok_F (n := n) (tp := tp) 6) (i + 1) (by omega)
        cases hr : lp_S (lp_sn n tp) (lp_F (lp_sn n tp) 6) (i + 1) with
        | inl x =>
          obtain ⟨a, b⟩ := x
          rw [hr] at h
          have h' : (a = 1 ∨ a = 2 ∨ a = 5) ∧ b ≤ n := h
          exact ⟨by omega, h'.2⟩
        | inr y =>
          obtain ⟨j, ca⟩ := y
          rw [hr] at h
          obtain ⟨k1, k2, k3, k4, k5⟩ := h
          refine lp_ok_cond (by omega) k2 (by omega) (by omega) (by omega) (fun _ F => ?_)
          rcases k5 F [] [] (by decide) with ⟨v, e⟩ | e
          · rw [List.append_nil] at e
            exact ⟨v, e⟩
          · rw [List.append_nil] at e
            exact ⟨0, e⟩
    · rw [if_neg q1]
      exact ⟨by omega, hi⟩
  · rw [if_neg q]
    exact ⟨Or.inl rfl, hi⟩
theorem mv_fxn4 {q p : Nat} (hq : q = 1 ∨ q = 2 ∨ q = 4 ∨ q = 5) (hp : p ≤ 240) : ¬ mv_fx (nI q) (nI p) = 0 ∧ mv_fx (nI q) (nI p) ≤ 0 := by
  have h := mv_fne p (by omega)
  have h2 := mv_fle p (by omega)
  rcases hq with rfl | rfl | rfl | rfl
  · exact ⟨h.1, h2.1⟩
  · exact ⟨h.2.1, h2.2.1⟩
  · exact ⟨h.2.2.1, h2.2.2.1⟩
  · exact ⟨h.2.2.2.1, h2.2.2.2.1⟩
section LC5
variable {sl d D n i L r : Nat} {M : mj_M} {tp : Nat → Nat} {w : Int32}
def lc_RR (D n L r : Nat) (x : lp_RR) (M M' : mj_M) : Prop := match x with
  | .inl (q, p) => (∃ i' L', lc_S M' D n i' L' (mv_fx (nI q) (nI p))) ∧ mv_fr (lc_QR D 0 0) M M'
  | .inr (j, kd, ca, cb) => lc_S M' D n j (L + mv_szs ca + 1 + mv_szs cb + 1) 0 ∧ M' D 7 = nI (r + 1) ∧ M' (D + 4) r = nI kd ∧ M' (D + 5) r = nI L ∧ M' (D + 6) r = nI (L + mv_szs ca + 1) ∧ mv_cc (M' (D + 1)) L ca ∧ M' (D + 1) (L + mv_szs ca) = 0 ∧ mv_cc (M' (D + 1)) (L + mv_szs ca + 1) cb ∧ M' (D + 1) (L + mv_szs ca + 1 + mv_szs cb) = 0 ∧ mv_fr (lc_QR D L r) M M'
theorem c_addRule {x1 x2 x3 : Int32} (hD : D = 29 ∨ D = 38) (h7 : M D 7 = nI r) (hr : r < 16) : mj_C sl d i_X3_addRule [.ref D, .int x1, .int x2, .int x3] M = some (0, mj_st (mj_st (mj_st (mj_st M (D + 4) r x1) (D + 5) r x2) (D + 6) r x3) D 7 (nI (r + 1))) := by
  have hD0 : mj_ocl D = 1 := by rcases hD with rfl | rfl <;> rfl
  have inR : mj_inB (nI r) 16 = true := mq_inT hr (by decide)
  have clR : (nI r).toNatClampNeg = r := nI_clamp (by omega)
  rw [b_X3_addRule hD0]
  simp (disch := omega) only [mq_st_ne, h7, clR, inR, if_true, s_ltL, hr, s_addL]
theorem c_tailF {x1 x2 x3 : Int32} (hD : D = 29 ∨ D = 38) (h : lc_S M D n i L w) (h7 : M D 7 = nI r) (hr : r < 16) : ∃ M', (mj_C sl d 42 [.ref (mj_lw (M 28 1)), .int 0] M).bind (fun q5 => (mj_C sl d 45 [.ref (mj_lw (q5.2 28 1)), .int x1, .int x2, .int x3] q5.2).bind (fun q6 => some ((0 : Int32), q6.2))) = some (0, M') ∧ (∃ i' L', lc_S M' D n i' L' w) ∧ mv_fr (lc_QR D 0 0) M M' := by
  obtain ⟨M3, p1, ⟨L3, p2⟩, p3⟩ := lc_putF (sl := sl) (d := d) (x := 0) hD h
  have h7' : M3 D 7 = nI r := by rw [p3 _ _ (by unfold lc_Q; omega)]; exact h7
  have e := c_addRule (sl := sl) (d := d) (x1 := x1) (x2 := x2) (x3 := x3) hD h7' hr
  rw [h.1, mv_lwD hD, p1]
  simp only [Option.bind_some]
  rw [p2.1, mv_lwD hD, e]
  have fa : mv_fr (fun a k => a = D + 4 ∨ a = D + 5 ∨ a = D + 6 ∨ (a = D ∧ k = 7)) M3 (mj_st (mj_st (mj_st (mj_st M3 (D + 4) r x1) (D + 5) r x2) (D + 6) r x3) D 7 (nI (r + 1))) := (((mv_fr.rf.st (by omega)).st (by omega)).st (by omega)).st (by omega)
  refine ⟨_, rfl, ⟨i, L3, p2.fr fa (by omega) (by omega) ?_ ?_ ?_ p2.2.2.2.2.2.1 p2.2.2.2.2.2.2⟩, (p3.wk (fun a k z => z.qr 0)).tr (fa.wk (fun a k z => by unfold lc_QR; omega))⟩
  · exact (fa _ _ (by omega)).trans p2.2.2.1
  · exact (fa _ _ (by omega)).trans p2.2.2.2.1
  · exact (fa _ _ (by omega)).trans p2.2.2.2.2.1
theorem c_condDead {o : Nat} (h : lc_S M D n i L w) (hn : n ≤ 240) (T : mv_Tb M tp) (hw : ¬ w = 0) : mj_C sl (d + 5) i_X4_readCondition [.ref 28, .int (nI o)] M = some (0, M) := by
  have t1 : mj_C sl (d + 3) 56 [.ref 28, .int (nI o)] M = some (0, M) := by
    rw [b_X4_readTest, h.2.2.2.1, if_neg hw]
  have p1 : mj_C sl (d + 4) 55 [.ref 28, .int (nI o)] M = some (0, M) := by
    rw [b_X4_readPart, t1]
    simp only [Option.bind_some]
    rw [b_X4_readPart_7, c_isSignF h hn T hw]
    rfl
  rw [b_X4_readCondition, p1]
  simp only [Option.bind_some]
  rw [b_X4_readCondition_7, c_isSignF h hn T hw]
  rfl
theorem c_118F {x1 x2 x3 : Int32} (hD : D = 29 ∨ D = 38) (h : lc_S M D n i L w) (hn : n ≤ 240) (T : mv_Tb M tp) (hw : ¬ w = 0) (h7 : M D 7 = nI r) (hr : r < 16) : ∃ M', mj_E sl (d + 6) i_X4_readRule 118 [.ref 28, .int x1, .int x2, .int x3] [] M = some (0, M') ∧ (∃ i' L', lc_S M' D n i' L' w) ∧ mv_fr (lc_QR D 0 0) M M' := by
  have e1 := c_condDead (sl := sl) (d := d) (o := 1) h hn T hw
  have e1' : mj_C sl (d + 5) 54 [.ref 28, .int 1] M = some (0, M) := e1
  rw [b_X4_readRule_118, e1']
  simp only [Option.bind_some]
  rw [h.2.2.2.1, if_neg hw]
  exact c_tailF hD h h7 hr
theorem c_cond {kd La : Nat} {ca : List (Nat × Nat)} {M0 : mj_M} (hD : D = 29 ∨ D = 38) (hn : n ≤ 240) (h : lc_S M D n i (La + mv_szs ca) 0) (hL : La + mv_szs ca + 1 ≤ 2 * i) (T : mv_Tb M tp) (h74 : M 74 = mj_bt) (h7 : M D 7 = nI r) (hr : r < 16) (hcc : mv_cc (M (D + 1)) La ca) (f0 : mv_fr (lc_QR D La r) M0 M) : ∃ M', (mj_C sl (d + 47) 42 [.ref (mj_lw (M 28 1)), .int 0] M).bind (fun q4 => if q4.2 28 4 = 0 then ((mj_C sl (d + 47) 51 [.ref 28, .int 40] q4.2).bind (fun q5 => mj_E sl (d + 48) 53 118 [.ref 28, .int (nI kd), .int (nI La), .int (q4.2 (mj_lw (q4.2 28 1)) 6)] [] q5.2)) else (mj_E sl (d + 48) 53 118 [.ref 28, .int (nI kd), .int (nI La), .int (q4.2 (mj_lw (q4.2 28 1)) 6)] [] q4.2)) = some (0, M') ∧ lc_RR D n La r (lp_cond (lp_sn n tp) kd ca i) M0 M' := by
  have hi := h.2.2.2.2.2.1
  have p1 := lc_put (sl := sl) (d := d + 47) (x := 0) hD h (by omega)
  have S1 := lc_putS (x := (0 : Int32)) hD h (by omega)
  obtain ⟨M1, hM1⟩ : ∃ M1, M1 = mj_st (mj_st M (D + 1) (La + mv_szs ca) 0) D 6 (nI (La + mv_szs ca + 1)) := ⟨_, rfl⟩
  have f1 : mv_fr (lc_Q D (La + mv_szs ca)) M M1 := by rw [hM1]; exact lc_putQ (Nat.le_refl _)
  have c1 : M1 (D + 1) (La + mv_szs ca) = 0 := by rw [hM1]; exact lc_putC
  rw [← hM1] at p1 S1
  have T1 := lc_Tb hD T f1
  have p1' : mj_C sl (d + 47) 42 [.ref D, .int 0] M = some (0, M1) := p1
  rw [h.1, mv_lwD hD, p1']
  simp only [Option.bind_some]
  rw [S1.2.2.2.1, if_pos rfl, S1.1, mv_lwD hD, S1.2.2.2.2.1]
  have e2 := c_pass (sl := sl) (d := d + 45) (s := 40) S1 hn T1 (by omega)
  have e2' : mj_C sl (d + 47) 51 [.ref 28, .int 40] M1 = if lp_sn n tp i = 40 then some (0, mj_st M1 28 3 (nI (i + 1))) else some (0, mj_st M1 28 4 (mv_fx 1 (nI i))) := e2
  rw [e2']
  unfold lp_cond
  have h7a : M1 D 7 = nI r := by rw [f1 _ _ (by unfold lc_Q; omega)]; exact h7
  by_cases q : lp_sn n tp i = 40
  · rw [if_pos q, if_pos q]
    simp only [Option.bind_some]
    have hlt : i < n := lp_sn_lt (tp := tp) (by omega)
    obtain ⟨M2, hM2⟩ : ∃ M2, M2 = mj_st M1 28 3 (nI (i + 1)) := ⟨_, rfl⟩
    rw [← hM2]
    have f2 : mv_fr (lc_Q D (La + mv_szs ca + 1)) M1 M2 := by rw [hM2]; exact mv_fr.rf.st (by unfold lc_Q; omega)
    have S2 : lc_S M2 D n (i + 1) (La + mv_szs ca + 1) 0 := by rw [hM2]; exact lc_at hD S1 (by omega)
    have T2 := lc_Tb hD T1 f2
    obtain ⟨M3, a1, a2⟩ := ((c_T_all (sl := sl) (d := d + 2) (tp := tp) hD hn 5 (by omega)).2) (i + 1) (La + mv_szs ca + 1) M2 S2 (by omega) T2 (lc_74 hD (lc_74 hD h74 f1) f2)
    have a1' : mj_C sl (d + 47) 54 [.ref 28, .int 1] M2 = some (0, M3) := a1
    have ok := lp_ok_C (n := n) (tp := tp) (lp_ok_T (n := n) (tp := tp) 5 (by omega)) (i + 1) (by omega)
    have f02 : mv_fr (lc_QR D La r) M0 M2 := (f0.tr ((f1.wk (fun a k z => (z.wk (by omega)).qr r)))).tr (f2.wk (fun a k z => (z.wk (by omega)).qr r))
    rw [b_X4_readRule_118, a1']
    simp only [Option.bind_some]
    unfold lp_end
    cases hr2 : lp_C (lp_sn n tp) (lp_T (lp_sn n tp) 5) (i + 1) with
    | inl x =>
      obtain ⟨qf, pf⟩ := x
      rw [hr2] at a2 ok
      obtain ⟨⟨i', L', S3⟩, f3⟩ := a2
      have hp : pf ≤ n := ok.2
      have h7b : M3 D 7 = nI r := by rw [f3 _ _ (by unfold lc_Q; omega), f2 _ _ (by unfold lc_Q; omega)]; exact h7a
      rw [S3.2.2.2.1, if_neg (mv_fxne ok.1 (by omega))]
      obtain ⟨M', b1, b2, b3⟩ := c_tailF (sl := sl) (d := d + 47) (x1 := nI kd) (x2 := nI La) (x3 := nI (La + mv_szs ca + 1)) hD S3 h7b hr
      exact ⟨M', b1, b2, ((f02.wk (fun a k z => z.wk (by omega) (by omega))).tr (f3.wk (fun a k z => z.qr 0))).tr b3⟩
    | inr y =>
      obtain ⟨j, cb⟩ := y
      rw [hr2] at a2 ok
      obtain ⟨S3, cc3, f3⟩ := a2
      obtain ⟨k1, k2, k3, k4, k5⟩ := ok
      have T3 := lc_Tb hD T2 f3
      have h7b : M3 D 7 = nI r := by rw [f3 _ _ (by unfold lc_Q; omega), f2 _ _ (by unfold lc_Q; omega)]; exact h7a
      rw [S3.2.2.2.1, if_pos rfl]
      have e4 := c_pass (sl := sl) (d := d + 45) (s := 41) S3 hn T3 (by omega)
      have e4' : mj_C sl (d + 47) 51 [.ref 28, .int 41] M3 = if lp_sn n tp j = 41 then some (0, mj_st M3 28 3 (nI (j + 1))) else some (0, mj_st M3 28 4 (mv_fx 1 (nI j))) := e4
      rw [e4']
      dsimp only
      by_cases q2 : lp_sn n tp j = 41
      · rw [if_pos q2, if_pos q2]
        have hlt2 : j < n := lp_sn_lt (tp := tp) (by omega)
        obtain ⟨M4, hM4⟩ : ∃ M4, M4 = mj_st M3 28 3 (nI (j + 1)) := ⟨_, rfl⟩
        rw [← hM4]
        have S4 : lc_S M4 D n (j + 1) (La + mv_szs ca + 1 + mv_szs cb) 0 := by rw [hM4]; exact lc_at hD S3 (by omega)
        have f4 : mv_fr (lc_Q D (La + mv_szs ca + 1 + mv_szs cb)) M3 M4 := by rw [hM4]; exact mv_fr.rf.st (by unfold lc_Q; omega)
        have p5 := lc_put (sl := sl) (d := d + 47) (x := 0) hD S4 (by omega)
        have S5 := lc_putS (x := (0 : Int32)) hD S4 (by omega)
        obtain ⟨M5, hM5⟩ : ∃ M5, M5 = mj_st (mj_st M4 (D + 1) (La + mv_szs ca + 1 + mv_szs cb) 0) D 6 (nI (La + mv_szs ca + 1 + mv_szs cb + 1)) := ⟨_, rfl⟩
        have f5 : mv_fr (lc_Q D (La + mv_szs ca + 1 + mv_szs cb)) M4 M5 := by rw [hM5]; exact lc_putQ (Nat.le_refl _)
        have c5 : M5 (D + 1) (La + mv_szs ca + 1 + mv_szs cb) = 0 := by rw [hM5]; exact lc_putC
        rw [← hM5] at p5 S5
        have p5' : mj_C sl (d + 47) 42 [.ref D, .int 0] M4 = some (0, M5) := p5
        have h7c : M5 D 7 = nI r := by rw [f5 _ _ (by unfold lc_Q; omega), f4 _ _ (by unfold lc_Q; omega)]; exact h7b
        have e6 := c_addRule (sl := sl) (d := d + 47) (x1 := nI kd) (x2 := nI La) (x3 := nI (La + mv_szs ca + 1)) hD h7c hr
        have e6' : mj_C sl (d + 47) 45 [.ref D, .int (nI kd), .int (nI La), .int (nI (La + mv_szs ca + 1))] M5 = _ := e6
        simp only [Option.bind_some]
        rw [S4.1, mv_lwD hD, p5']
        simp only [Option.bind_some]
        rw [S5.1, mv_lwD hD, e6']
        obtain ⟨M6, hM6⟩ : ∃ M6, M6 = mj_st (mj_st (mj_st (mj_st M5 (D + 4) r (nI kd)) (D + 5) r (nI La)) (D + 6) r (nI (La + mv_szs ca + 1))) D 7 (nI (r + 1)) := ⟨_, rfl⟩
        have fa : mv_fr (fun a k => ((a = D + 4 ∨ a = D + 5 ∨ a = D + 6) ∧ k = r) ∨ (a = D ∧ k = 7)) M5 M6 := by
          rw [hM6]; exact (((mv_fr.rf.st (by omega)).st (by omega)).st (by omega)).st (by omega)
        rw [← hM6]
        have c61 : ∀ x, M6 (D + 1) x = M5 (D + 1) x := fun x => fa _ _ (by omega)
        have c51 : ∀ x, x < La + mv_szs ca + 1 + mv_szs cb → M5 (D + 1) x = M3 (D + 1) x := fun x hx => by
          rw [f5 _ _ (by unfold lc_Q; omega), f4 _ _ (by unfold lc_Q; omega)]
        have c31 : ∀ x, x < La + mv_szs ca + 1 → M3 (D + 1) x = M1 (D + 1) x := fun x hx => by
          rw [f3 _ _ (by unfold lc_Q; omega), f2 _ _ (by unfold lc_Q; omega)]
        refine ⟨M6, rfl, S5.fr fa (by omega) (by omega) ?_ ?_ ?_ S5.2.2.2.2.2.1 S5.2.2.2.2.2.2, ?_, ?_, ?_, ?_, ?_, ?_, ?_, ?_, ?_⟩
        · rw [fa _ _ (by omega)]; exact S5.2.2.1
        · rw [fa _ _ (by omega)]; exact S5.2.2.2.1
        · rw [fa _ _ (by omega)]; exact S5.2.2.2.2.1
        · rw [hM6, mq_st_eq]
        · rw [hM6, mq_st_ne (by omega), mq_st_ne (by omega), mq_st_ne (by omega), mq_st_eq]
        · rw [hM6, mq_st_ne (by omega), mq_st_ne (by omega), mq_st_eq]
        · rw [hM6, mq_st_ne (by omega), mq_st_eq]
        · refine mv_cc_cg ca La (fun x x1 x2 => ?_) hcc
          rw [c61, c51 x (by omega), c31 x (by omega), f1 _ _ (by unfold lc_Q; omega)]
        · rw [c61, c51 _ (by omega), c31 _ (by omega)]; exact c1
        · refine mv_cc_cg cb _ (fun x x1 x2 => ?_) cc3
          rw [c61, c51 x (by omega)]
        · rw [c61]; exact c5
        · exact (((f02.tr (f3.wk (fun a k z => (z.wk (by omega)).qr r))).tr (f4.wk (fun a k z => (z.wk (by omega)).qr r))).tr (f5.wk (fun a k z => (z.wk (by omega)).qr r))).tr (fa.wk (fun a k z => by unfold lc_QR; omega))
      · rw [if_neg q2, if_neg q2]
        simp only [Option.bind_some]
        obtain ⟨⟨i', L', g1⟩, g2⟩ := lc_failR (q := 1) hD S3
        have g7 : mj_st M3 28 4 (mv_fx (nI 1) (nI j)) D 7 = nI r := by rw [mq_st_ne (by omega)]; exact h7b
        obtain ⟨M', b1, b2, b3⟩ := c_tailF (sl := sl) (d := d + 47) (x1 := nI kd) (x2 := nI La) (x3 := nI (La + mv_szs ca + 1)) hD g1 g7 hr
        exact ⟨M', b1, b2, (((f02.wk (fun a k z => z.wk (by omega) (by omega))).tr (f3.wk (fun a k z => (z.wk (by omega)).qr 0))).tr (g2.wk (fun a k z => z.qr 0))).tr b3⟩
  · rw [if_neg q, if_neg q]
    simp only [Option.bind_some]
    obtain ⟨⟨i', L', g1⟩, g2⟩ := lc_failR (q := 1) hD S1
    have g7 : mj_st M1 28 4 (mv_fx (nI 1) (nI i)) D 7 = nI r := by rw [mq_st_ne (by omega)]; exact h7a
    obtain ⟨M', b1, b2, b3⟩ := c_118F (sl := sl) (d := d + 42) (x1 := nI kd) (x2 := nI La) (x3 := nI (La + mv_szs ca + 1)) hD g1 hn (lc_Tb hD T1 g2) (mv_fxne (Or.inl rfl) (by omega)) g7 hr
    exact ⟨M', b1, b2, (((f0.wk (fun a k z => z.wk (by omega) (by omega))).tr (f1.wk (fun a k z => (z.wk (by omega)).qr 0))).tr (g2.wk (fun a k z => z.qr 0))).tr b3⟩
theorem c_rule (hD : D = 29 ∨ D = 38) (hn : n ≤ 240) (h : lc_S M D n i L 0) (hL : L ≤ 2 * i) (T : mv_Tb M tp) (h74 : M 74 = mj_bt) (h7 : M D 7 = nI r) (hr : r ≤ 16) : ∃ M', mj_C sl (d + 48) i_X4_readRule [.ref 28] M = some (0, M') ∧ lc_RR D n L r (lp_R (lp_sn n tp) r i) M M' := by
  have hi := h.2.2.2.2.2.1
  have h8 := (T i (by omega)).1
  have e1 := c_sign (sl := sl) (d := d + 46) h hn T
  have k112 : (mv_hr n tp i = 112) = (lp_sn n tp i = 112) := lp_hrL (by decide) h8
  have k119 : (mv_hr n tp i = 119) = (lp_sn n tp i = 119) := lp_hrL (by decide) h8
  have k105 : (mv_hr n tp i = 105) = (lp_sn n tp i = 105) := lp_hrL (by decide) h8
  have k120 : (mv_hr n tp i = 120) = (lp_sn n tp i = 120) := lp_hrL (by decide) h8
  rw [b_X4_readRule, e1]
  simp only [Option.bind_some]
  rw [h.2.2.2.1, if_pos rfl]
  unfold lp_R
  by_cases q : lp_sn n tp i = 112 ∨ lp_sn n tp i = 119 ∨ lp_sn n tp i = 105 ∨ lp_sn n tp i = 120
  · rw [if_pos q]
    have hlt : i < n := lp_sn_lt (tp := tp) (by omega)
    have goal : ∃ M', mj_E sl (d + 48) 53 42 [.ref 28, .int (mv_hr n tp i), .null, .null] [] M = some (0, M') ∧ lc_RR D n L r (if r < 16 then (if lp_sn n tp i = 120 then lp_cond (lp_sn n tp) 120 [] (i + 1) else (match lp_S (lp_sn n tp) (lp_F (lp_sn n tp) 6) (i + 1) with
        | .inl x => .inl x
        | .inr (j, ca) => lp_cond (lp_sn n tp) (lp_sn n tp i) ca j)) else .inl (4, i)) M M' := by
      rw [b_X4_readRule_42, h.1, mv_lwD hD, h7]
      by_cases q1 : r < 16
      · rw [if_pos (show nI r < 16 by rw [s_ltL (by omega) (by decide)]; exact q1), if_pos q1, h.2.2.1, s_addL]
        obtain ⟨M1, hM1⟩ : ∃ M1, M1 = mj_st M 28 3 (nI (i + 1)) := ⟨_, rfl⟩
        rw [← hM1]
        have S1 : lc_S M1 D n (i + 1) L 0 := by rw [hM1]; exact lc_at hD h (by omega)
        have f1 : mv_fr (lc_Q D L) M M1 := by rw [hM1]; exact mv_fr.rf.st (by unfold lc_Q; omega)
        have T1 := lc_Tb hD T f1
        have h7a : M1 D 7 = nI r := by rw [f1 _ _ (by unfold lc_Q; omega)]; exact h7
        have e6 : M1 (mj_lw (M1 28 1)) 6 = nI L := by rw [S1.1, mv_lwD hD]; exact S1.2.2.2.2.1
        rw [e6]
        by_cases q2 : lp_sn n tp i = 120
        · rw [if_pos (by rw [k120]; exact q2), if_pos q2, (show mv_hr n tp i = nI 120 by rw [lp_hrS (by omega), q2])]
          exact c_cond (sl := sl) (d := d) (La := L) (ca := []) hD hn S1 (by show L + 0 + 1 ≤ _; omega) T1 (lc_74 hD h74 f1) h7a q1 trivial (f1.wk (fun a k z => z.qr r))
        · rw [if_neg (by rw [k120]; exact q2), if_neg q2]
          obtain ⟨M2, a1, a2⟩ := ((c_F_all (sl := sl) (d := d + 23) (tp := tp) hD hn 6 (by omega)).2) (i + 1) L M1 S1 (by omega) T1 (lc_74 hD h74 f1)
          have a1' : mj_C sl (d + 47) 57 [.ref 28, .int 0] M1 = some (0, M2) := a1
          have ok := lp_ok_S (n := n) (tp := tp) (lp_ok_F (n := n) (tp := tp) 6) (i + 1) (by omega)
          rw [a1']
          simp only [Option.bind_some]
          cases hr2 : lp_S (lp_sn n tp) (lp_F (lp_sn n tp) 6) (i + 1) with
          | inl x =>
            obtain ⟨qf, pf⟩ := x
            rw [hr2] at a2 ok
            obtain ⟨⟨i', L', S2⟩, f2⟩ := a2
            have hp : pf ≤ n := ok.2
            have hne := mv_fxne ok.1 (p := pf) (by omega)
            obtain ⟨M3, p1, ⟨L3, p2⟩, p3⟩ := lc_putF (sl := sl) (d := d + 47) (x := 0) hD S2
            have p1' : mj_C sl (d + 47) 42 [.ref D, .int 0] M2 = some (0, M3) := p1
            rw [S2.1, mv_lwD hD, p1']
            simp only [Option.bind_some]
            rw [p2.2.2.2.1, if_neg hne, p2.1, mv_lwD hD, p2.2.2.2.2.1]
            have h7b : M3 D 7 = nI r := by rw [p3 _ _ (by unfold lc_Q; omega), f2 _ _ (by unfold lc_Q; omega)]; exact h7a
            obtain ⟨M', b1, b2, b3⟩ := c_118F (sl := sl) (d := d + 42) (x1 := mv_hr n tp i) (x2 := nI L) (x3 := nI L3) hD p2 hn (lc_Tb hD (lc_Tb hD T1 f2) p3) hne h7b q1
            exact ⟨M', b1, b2, (((f1.wk (fun a k z => (z.wk (by omega)).qr 0)).tr (f2.wk (fun a k z => z.qr 0))).tr (p3.wk (fun a k z => z.qr 0))).tr b3⟩
          | inr y =>
            obtain ⟨j, ca⟩ := y
            rw [hr2] at a2 ok
            obtain ⟨S2, cc2, f2⟩ := a2
            obtain ⟨m1, m2, m3, m4, m5⟩ := ok
            rw [lp_hrS (n := n) (tp := tp) (i := i) (by omega)]
            exact c_cond (sl := sl) (d := d) (La := L) (ca := ca) hD hn S2 (by omega) (lc_Tb hD T1 f2) (lc_74 hD (lc_74 hD h74 f1) f2) (by rw [f2 _ _ (by unfold lc_Q; omega)]; exact h7a) q1 cc2 ((f1.tr f2).wk (fun a k z => z.qr r))
      · rw [if_neg (show ¬ nI r < 16 by rw [s_ltL (by omega) (by decide)]; exact q1), if_neg q1, c_fail h]
        obtain ⟨g1, g2⟩ := lc_failR (q := 4) hD h
        exact ⟨_, rfl, g1, g2.wk (fun a k z => z.qr 0)⟩
    by_cases z1 : lp_sn n tp i = 112
    · rw [if_pos (by rw [k112]; exact z1)]; exact goal
    rw [if_neg (by rw [k112]; exact z1)]
    by_cases z2 : lp_sn n tp i = 119
    · rw [if_pos (by rw [k119]; exact z2)]; exact goal
    rw [if_neg (by rw [k119]; exact z2)]
    by_cases z3 : lp_sn n tp i = 105
    · rw [if_pos (by rw [k105]; exact z3)]; exact goal
    rw [if_neg (by rw [k105]; exact z3), if_pos (by rw [k120]; omega)]
    exact goal
  · rw [if_neg q, if_neg (by rw [k112]; omega), if_neg (by rw [k119]; omega), if_neg (by rw [k105]; omega), if_neg (by rw [k120]; omega), c_fail h]
    obtain ⟨g1, g2⟩ := lc_failR (q := 1) hD h
    exact ⟨_, rfl, g1, g2.wk (fun a k z => z.qr 0)⟩
end LC5
