section LC4
variable {sl d D n : Nat} {tp : Nat → Nat}
theorem c_P {o : Nat} {f : Nat → lp_PR} {Pf : List (Nat × Nat) → Prop} (hD : D = 29 ∨ D = 38) (hn : n ≤ 240) (K : lc_K sl (d + 2) D n tp i_X4_readFactor o f) (ok : ∀ i, i ≤ n → lp_ok n i Pf (f i)) : lc_K sl (d + 3) D n tp i_X4_readProduct o (lp_P (lp_sn n tp) f) := by
  have hdead : ∀ (t : Nat) (w3 : Value) (i L : Nat) (w : Int32) (M : mj_M), lc_S M D n i L w → mv_Tb M tp → ¬ w = 0 → t ≤ 240 → mj_E sl (d + 3) 58 7 [.ref 28, .int (nI o), .int (nI t), w3] [] M = some (0, M) := by
    intro t w3 i L w M S T hw ht
    rw [b_X4_readProduct_7, c_isSignF S hn T hw]
    simp only [Option.bind_some, if_true]
    rw [c_isSignF S hn T hw]
    simp only [Option.bind_some, if_true]
    split <;> rfl
  refine c_seqE (Lp := fun t w3 M => mj_E sl (d + 3) 58 7 [.ref 28, .int (nI o), .int (nI t), w3] [] M) hD hn K ok hdead (fun M => b_X4_readProduct) ?_
  refine c_chn hD hn K ok (fun s hs => ?_) ?_ ?_ hdead
  · have := lp_on_b (Or.inl hs)
    exact ⟨this.1, this.2.1, this.2.2.2.2.1, this.2.2.2.2.2⟩
  · intro t w3 i L M ht S T q
    have hs := (lp_on_b (Or.inl q)).2.2.2.2.1
    have q' : lp_sn n tp i = 42 ∨ lp_sn n tp i = 47 ∨ lp_sn n tp i = 37 := by
      unfold lp_om at q
      simp only [Bool.or_eq_true, decide_eq_true_eq] at q
      omega
    have e1 := c_sign (sl := sl) (d := d + 1) S hn T
    rw [lp_hrS hs] at e1
    have i1 := c_isSign (sl := sl) (d := d) (a := 42) (b := 47) S hn T (by omega) (by omega)
    have i2 := c_isSign (sl := sl) (d := d) (a := 37) (b := 37) S hn T (by omega) (by omega)
    have i1' : mj_C sl (d + 2) 49 [.ref 28, .int 42, .int 47] M = some (if lp_sn n tp i = 42 ∨ lp_sn n tp i = 47 then 1 else 0, M) := i1
    have i2' : mj_C sl (d + 2) 49 [.ref 28, .int 37, .int 37] M = some (if lp_sn n tp i = 37 ∨ lp_sn n tp i = 37 then 1 else 0, M) := i2
    rw [b_X4_readProduct_7, if_pos (by rw [s_ltL (by omega) (by decide)]; exact ht), i1']
    by_cases z : lp_sn n tp i = 42 ∨ lp_sn n tp i = 47
    · rw [if_pos z]
      simp only [Option.bind_some, s_10, if_false]
      rw [e1]
      simp only [Option.bind_some]
      rw [S.2.2.1, s_addL, s_addL]
    · rw [if_neg z]
      simp only [Option.bind_some, if_true]
      rw [i2', if_pos (show lp_sn n tp i = 37 ∨ lp_sn n tp i = 37 by omega)]
      simp only [Option.bind_some, s_10, if_false]
      rw [e1]
      simp only [Option.bind_some]
      rw [S.2.2.1, s_addL, s_addL]
  · intro t w3 i L M S T ht q
    rw [b_X4_readProduct_7]
    by_cases z : t = 240
    · rw [if_neg (by rw [s_ltL (by omega) (by decide)]; omega)]
    · have q' : lp_om (lp_sn n tp i) = false := by
        rcases q with q | q
        · exact q
        · exact absurd q z
      have q2 : ¬ (lp_sn n tp i = 42 ∨ lp_sn n tp i = 47) ∧ ¬ (lp_sn n tp i = 37 ∨ lp_sn n tp i = 37) := by
        unfold lp_om at q'
        simp only [Bool.or_eq_false_iff, decide_eq_false_iff_not] at q'
        omega
      have i1 := c_isSign (sl := sl) (d := d) (a := 42) (b := 47) S hn T (by omega) (by omega)
      have i2 := c_isSign (sl := sl) (d := d) (a := 37) (b := 37) S hn T (by omega) (by omega)
      rw [if_neg q2.1] at i1
      rw [if_neg q2.2] at i2
      have i1' : mj_C sl (d + 2) 49 [.ref 28, .int 42, .int 47] M = some (0, M) := i1
      have i2' : mj_C sl (d + 2) 49 [.ref 28, .int 37, .int 37] M = some (0, M) := i2
      rw [if_pos (by rw [s_ltL (by omega) (by decide)]; omega), i1']
      simp only [Option.bind_some, if_true]
      rw [i2']
      rfl
theorem c_Sm {o : Nat} {f : Nat → lp_PR} {Pf : List (Nat × Nat) → Prop} (hD : D = 29 ∨ D = 38) (hn : n ≤ 240) (K : lc_K sl (d + 2) D n tp i_X4_readProduct o f) (ok : ∀ i, i ≤ n → lp_ok n i Pf (f i)) : lc_K sl (d + 3) D n tp i_X4_readSum o (lp_seq lp_oa lp_eb f (lp_sn n tp)) := by
  have hdead : ∀ (t : Nat) (w3 : Value) (i L : Nat) (w : Int32) (M : mj_M), lc_S M D n i L w → mv_Tb M tp → ¬ w = 0 → t ≤ 240 → mj_E sl (d + 3) 57 7 [.ref 28, .int (nI o), .int (nI t), w3] [] M = some (0, M) := by
    intro t w3 i L w M S T hw ht
    rw [b_X4_readSum_7, c_isSignF S hn T hw]
    simp only [Option.bind_some, if_true]
    split <;> rfl
  refine c_seqE (Lp := fun t w3 M => mj_E sl (d + 3) 57 7 [.ref 28, .int (nI o), .int (nI t), w3] [] M) hD hn K ok hdead (fun M => b_X4_readSum) ?_
  refine c_chn hD hn K ok (fun s hs => ?_) ?_ ?_ hdead
  · have := lp_on_b (Or.inr hs)
    exact ⟨this.1, this.2.1, this.2.2.2.2.1, this.2.2.2.2.2⟩
  · intro t w3 i L M ht S T q
    have hs := (lp_on_b (Or.inr q)).2.2.2.2.1
    have q' : lp_sn n tp i = 43 ∨ lp_sn n tp i = 45 := by
      unfold lp_oa at q
      simp only [Bool.or_eq_true, decide_eq_true_eq] at q
      omega
    have e1 := c_sign (sl := sl) (d := d + 1) S hn T
    rw [lp_hrS hs] at e1
    have i1 := c_isSign (sl := sl) (d := d) (a := 43) (b := 45) S hn T (by omega) (by omega)
    rw [if_pos q'] at i1
    have i1' : mj_C sl (d + 2) 49 [.ref 28, .int 43, .int 45] M = some (1, M) := i1
    rw [b_X4_readSum_7, if_pos (by rw [s_ltL (by omega) (by decide)]; exact ht), i1']
    simp only [Option.bind_some, s_10, if_false]
    rw [e1]
    simp only [Option.bind_some]
    rw [S.2.2.1, s_addL, s_addL]
  · intro t w3 i L M S T ht q
    rw [b_X4_readSum_7]
    by_cases z : t = 240
    · rw [if_neg (by rw [s_ltL (by omega) (by decide)]; omega)]
    · have q' : lp_oa (lp_sn n tp i) = false := by
        rcases q with q | q
        · exact q
        · exact absurd q z
      have q2 : ¬ (lp_sn n tp i = 43 ∨ lp_sn n tp i = 45) := by
        unfold lp_oa at q'
        simp only [Bool.or_eq_false_iff, decide_eq_false_iff_not] at q'
        omega
      have i1 := c_isSign (sl := sl) (d := d) (a := 43) (b := 45) S hn T (by omega) (by omega)
      rw [if_neg q2] at i1
      have i1' : mj_C sl (d + 2) 49 [.ref 28, .int 43, .int 45] M = some (0, M) := i1
      rw [if_pos (by rw [s_ltL (by omega) (by decide)]; omega), i1']
      rfl
theorem c_Qp {o : Nat} {f : Nat → lp_PR} {Pf : List (Nat × Nat) → Prop} (hD : D = 29 ∨ D = 38) (hn : n ≤ 240) (K : lc_K sl (d + 2) D n tp i_X4_readTest o f) (ok : ∀ i, i ≤ n → lp_ok n i Pf (f i)) : lc_K sl (d + 3) D n tp i_X4_readPart o (lp_Q (lp_sn n tp) f) := by
  have hdead : ∀ (t : Nat) (w3 : Value) (i L : Nat) (w : Int32) (M : mj_M), lc_S M D n i L w → mv_Tb M tp → ¬ w = 0 → t ≤ 240 → mj_E sl (d + 3) 55 7 [.ref 28, .int (nI o), .int (nI t), w3] [] M = some (0, M) := by
    intro t w3 i L w M S T hw ht
    rw [b_X4_readPart_7, c_isSignF S hn T hw]
    simp only [Option.bind_some, if_true]
    split <;> rfl
  refine c_seqE (Lp := fun t w3 M => mj_E sl (d + 3) 55 7 [.ref 28, .int (nI o), .int (nI t), w3] [] M) hD hn K ok hdead (fun M => b_X4_readPart) ?_
  refine c_jchn (sg := 38) (op := 11) hD hn K ok (Or.inl rfl) (by omega) rfl (by omega) ?_ ?_ hdead
  · intro t w3 i L M ht S T q
    have i1 := c_isSign (sl := sl) (d := d) (a := 38) (b := 38) S hn T (by omega) (by omega)
    rw [if_pos (Or.inl q)] at i1
    have i1' : mj_C sl (d + 2) 49 [.ref 28, .int 38, .int 38] M = some (1, M) := i1
    have hi : i < n := lp_sn_lt (tp := tp) (by omega)
    have S1 := lc_at (j := i + 1) hD S (by omega)
    rw [b_X4_readPart_7, if_pos (by rw [s_ltL (by omega) (by decide)]; exact ht), i1']
    simp only [Option.bind_some, s_10, if_false]
    rw [S.2.2.1, s_addL, s_addL, S1.1, mv_lwD hD]
    rfl
  · intro t w3 i L M S T ht q
    rw [b_X4_readPart_7]
    by_cases z : t = 240
    · rw [if_neg (by rw [s_ltL (by omega) (by decide)]; omega)]
    · have q2 : ¬ (lp_sn n tp i = 38 ∨ lp_sn n tp i = 38) := by omega
      have i1 := c_isSign (sl := sl) (d := d) (a := 38) (b := 38) S hn T (by omega) (by omega)
      rw [if_neg q2] at i1
      have i1' : mj_C sl (d + 2) 49 [.ref 28, .int 38, .int 38] M = some (0, M) := i1
      rw [if_pos (by rw [s_ltL (by omega) (by decide)]; omega), i1']
      rfl
theorem c_Cn {o : Nat} {f : Nat → lp_PR} {Pf : List (Nat × Nat) → Prop} (hD : D = 29 ∨ D = 38) (hn : n ≤ 240) (K : lc_K sl (d + 2) D n tp i_X4_readPart o f) (ok : ∀ i, i ≤ n → lp_ok n i Pf (f i)) : lc_K sl (d + 3) D n tp i_X4_readCondition o (lp_seq (lp_o1 124) (lp_ej 12) f (lp_sn n tp)) := by
  have hdead : ∀ (t : Nat) (w3 : Value) (i L : Nat) (w : Int32) (M : mj_M), lc_S M D n i L w → mv_Tb M tp → ¬ w = 0 → t ≤ 240 → mj_E sl (d + 3) 54 7 [.ref 28, .int (nI o), .int (nI t), w3] [] M = some (0, M) := by
    intro t w3 i L w M S T hw ht
    rw [b_X4_readCondition_7, c_isSignF S hn T hw]
    simp only [Option.bind_some, if_true]
    split <;> rfl
  refine c_seqE (Lp := fun t w3 M => mj_E sl (d + 3) 54 7 [.ref 28, .int (nI o), .int (nI t), w3] [] M) hD hn K ok hdead (fun M => b_X4_readCondition) ?_
  refine c_jchn (sg := 124) (op := 12) hD hn K ok (Or.inr rfl) (by omega) rfl (by omega) ?_ ?_ hdead
  · intro t w3 i L M ht S T q
    have i1 := c_isSign (sl := sl) (d := d) (a := 124) (b := 124) S hn T (by omega) (by omega)
    rw [if_pos (Or.inl q)] at i1
    have i1' : mj_C sl (d + 2) 49 [.ref 28, .int 124, .int 124] M = some (1, M) := i1
    have hi : i < n := lp_sn_lt (tp := tp) (by omega)
    have S1 := lc_at (j := i + 1) hD S (by omega)
    rw [b_X4_readCondition_7, if_pos (by rw [s_ltL (by omega) (by decide)]; exact ht), i1']
    simp only [Option.bind_some, s_10, if_false]
    rw [S.2.2.1, s_addL, s_addL, S1.1, mv_lwD hD]
    rfl
  · intro t w3 i L M S T ht q
    rw [b_X4_readCondition_7]
    by_cases z : t = 240
    · rw [if_neg (by rw [s_ltL (by omega) (by decide)]; omega)]
    · have q2 : ¬ (lp_sn n tp i = 124 ∨ lp_sn n tp i = 124) := by omega
      have i1 := c_isSign (sl := sl) (d := d) (a := 124) (b := 124) S hn T (by omega) (by omega)
      rw [if_neg q2] at i1
      have i1' : mj_C sl (d + 2) 49 [.ref 28, .int 124, .int 124] M = some (0, M) := i1
      rw [if_pos (by rw [s_ltL (by omega) (by decide)]; omega), i1']
      rfl
theorem c_F_all (hD : D = 29 ∨ D = 38) (hn : n ≤ 240) : ∀ k, k ≤ 6 → lc_K sl (d + (3 * k + 4)) D n tp i_X4_readFactor (6 - k) (lp_F (lp_sn n tp) k) ∧ lc_K sl (d + (3 * k + 6)) D n tp i_X4_readSum (6 - k) (lp_S (lp_sn n tp) (lp_F (lp_sn n tp) k)) := by
  have up : ∀ k, k ≤ 6 → lc_K sl (d + (3 * k + 4)) D n tp i_X4_readFactor (6 - k) (lp_F (lp_sn n tp) k) → lc_K sl (d + (3 * k + 6)) D n tp i_X4_readSum (6 - k) (lp_S (lp_sn n tp) (lp_F (lp_sn n tp) k)) := by
    intro k hk K
    have p := c_P (sl := sl) (d := d + (3 * k + 2)) hD hn K (lp_ok_F k)
    have q := c_Sm (sl := sl) (d := d + (3 * k + 3)) hD hn p (Pf := lp_sE (2 * k + 1 + 1)) (fun i hi => lp_ok_seq (Pf := lp_sE (2 * k + 1)) (fun s h => (lp_on_b (Or.inl h)).2.2.2.2.1) lp_eb_b (fun s c c2 h p q => lp_sE_bin (lp_on_b (Or.inl h)).1 (by have := (lp_on_b (Or.inl h)).2.1; omega) p q) (fun c p => lp_sE_le (by omega) p) (lp_ok_F k) i hi)
    exact q
  intro k
  induction k with
  | zero =>
    intro _
    have K : lc_K sl (d + (3 * 0 + 4)) D n tp i_X4_readFactor (6 - 0) (lp_F (lp_sn n tp) 0) := c_F_gen (sl := sl) (d := d) hD hn (by omega) (fun k' h => by omega)
    exact ⟨K, up 0 (by omega) K⟩
  | succ k ih =>
    intro hk
    obtain ⟨-, s1⟩ := ih (by omega)
    have K : lc_K sl (d + (3 * (k + 1) + 4)) D n tp i_X4_readFactor (6 - (k + 1)) (lp_F (lp_sn n tp) (k + 1)) := by
      have := c_F_gen (sl := sl) (d := d + (3 * k + 3)) (o := 6 - (k + 1)) (k := k + 1) hD hn (by omega) (fun k' h => by
        have e : k' = k := by omega
        subst e
        rw [show 6 - (k' + 1) + 1 = 6 - k' from by omega]
        exact s1)
      rw [show d + (3 * (k + 1) + 4) = d + (3 * k + 3) + 4 from by omega]
      exact this
    exact ⟨K, up (k + 1) hk K⟩
theorem c_T_gen {k o : Nat} (hD : D = 29 ∨ D = 38) (hn : n ≤ 240) (ho : o + k = 6) (hT : ∀ k', k = k' + 1 → lc_K sl (d + 3) D n tp i_X4_readTest (o + 1) (lp_T (lp_sn n tp) k')) (hC : ∀ k', k = k' + 1 → lc_K sl (d + 3) D n tp i_X4_readCondition (o + 1) (lp_C (lp_sn n tp) (lp_T (lp_sn n tp) k'))) (hS : lc_K sl (d + 3) D n tp i_X4_readSum o (lp_S (lp_sn n tp) (lp_F (lp_sn n tp) k))) : lc_K sl (d + 4) D n tp i_X4_readTest o (lp_T (lp_sn n tp) k) := by
  intro i L M h hL T h74
  have hi := h.2.2.2.2.2.1
  have h8 := (T i (by omega)).1
  have e1 := c_sign (sl := sl) (d := d + 2) h hn T
  rw [b_X4_readTest, h.2.2.2.1, if_pos rfl, e1]
  simp only [Option.bind_some]
  have e33 : (mv_hr n tp i = 33) = (lp_sn n tp i = 33) := lp_hrL (by decide) h8
  have e40 : (mv_hr n tp i = 40) = (lp_sn n tp i = 40) := lp_hrL (by decide) h8
  have f1 : mv_fr (lc_Q D L) M (mj_st M 28 3 (nI (i + 1))) := mv_fr.rf.st (by unfold lc_Q; omega)
  have T1 := lc_Tb hD T f1
  by_cases q33 : lp_sn n tp i = 33
  · rw [if_pos (by rw [e33]; exact q33), c_opens h (by omega)]
    have hlt : i < n := lp_sn_lt (tp := tp) (by omega)
    cases k with
    | zero =>
      rw [if_neg (by omega)]
      simp only [Option.bind_some, if_true]
      unfold lp_T
      rw [if_pos (Or.inl q33)]
      exact ⟨_, rfl, lc_failR (q := 5) hD h⟩
    | succ k' =>
      rw [if_pos (show o < 6 by omega)]
      simp only [Option.bind_some, s_10, if_false]
      unfold lp_T
      rw [if_pos q33]
      obtain ⟨M2, a1, a2⟩ := hT k' rfl (i + 1) L _ (lc_at hD h (by omega)) (by omega) T1 (lc_74 hD h74 f1)
      have a1' : mj_C sl (d + 3) 56 [.ref 28, .int (nI o + 1)] (mj_st M 28 3 (nI (i + 1))) = some (0, M2) := by rw [s_addL]; exact a1
      rw [a1']
      simp only [Option.bind_some]
      have ok := lp_ok_T (n := n) (tp := tp) k' (by omega) (i + 1) (by omega)
      unfold lp_ap
      cases hr : lp_T (lp_sn n tp) k' (i + 1) with
      | inl x =>
        obtain ⟨qf, pf⟩ := x
        rw [hr] at a2
        obtain ⟨⟨i', L', S2⟩, f2⟩ := a2
        obtain ⟨M3, p1, ⟨L3, p2⟩, p3⟩ := lc_putF (sl := sl) (d := d + 3) (x := 33) hD S2
        rw [S2.1, mv_lwD hD, p1]
        exact ⟨M3, rfl, ⟨i', L3, p2⟩, ((f1.wk (fun a k z => z.wk (by omega))).tr f2).tr p3⟩
      | inr y =>
        obtain ⟨j, c⟩ := y
        rw [hr] at a2 ok
        obtain ⟨S2, cc, f2⟩ := a2
        obtain ⟨k1, k2, k3, k4, k5⟩ := ok
        have p1 := lc_put (sl := sl) (d := d + 3) (x := 33) hD S2 (by omega)
        have fp : mv_fr (lc_Q D (L + mv_szs c)) M2 _ := lc_putQ (D := D) (M := M2) (x := 33) (Nat.le_refl (L + mv_szs c))
        rw [S2.1, mv_lwD hD, p1]
        refine ⟨_, rfl, ?_, ?_, (f1.tr f2).tr (fp.wk (fun a k z => z.wk (by omega)))⟩
        · rw [mv_szs_ap]
          exact lc_putS hD S2 (by omega)
        · refine mv_cc_ap c L ?_ ?_
          · refine mv_cc_cg c L (fun x x1 x2 => ?_) cc
            exact fp _ _ (by unfold lc_Q; omega)
          · exact mv_cc1 (Or.inr (Or.inr ⟨by omega, by omega, lc_putC⟩))
  rw [if_neg (by rw [e33]; exact q33)]
  by_cases q40 : lp_sn n tp i = 40
  · rw [if_pos (by rw [e40]; exact q40), c_opens h (by omega)]
    have hlt : i < n := lp_sn_lt (tp := tp) (by omega)
    cases k with
    | zero =>
      rw [if_neg (by omega)]
      simp only [Option.bind_some, if_true]
      unfold lp_T
      rw [if_pos (Or.inr q40)]
      exact ⟨_, rfl, lc_failR (q := 5) hD h⟩
    | succ k' =>
      rw [if_pos (show o < 6 by omega)]
      simp only [Option.bind_some, s_10, if_false]
      unfold lp_T
      rw [if_neg q33, if_pos q40]
      obtain ⟨M2, a1, a2⟩ := hC k' rfl (i + 1) L _ (lc_at hD h (by omega)) (by omega) T1 (lc_74 hD h74 f1)
      have a1' : mj_C sl (d + 3) 54 [.ref 28, .int (nI o + 1)] (mj_st M 28 3 (nI (i + 1))) = some (0, M2) := by rw [s_addL]; exact a1
      rw [a1']
      obtain ⟨M', b1, b2⟩ := c_end (sl := sl) (d := d + 1) (s := 41) hD hn T1 (by omega) a2 (lp_ok_C (lp_ok_T k' (by omega)) (i + 1) (by omega))
      exact ⟨M', b1, b2.pre f1⟩
  rw [if_neg (by rw [e40]; exact q40)]
  have hT0 : lp_T (lp_sn n tp) k i = lp_cmp (lp_sn n tp) k i := by
    cases k with
    | zero => unfold lp_T; rw [if_neg (by omega)]
    | succ k' => unfold lp_T; rw [if_neg q33, if_neg q40]
  rw [hT0]
  obtain ⟨M2, a1, a2⟩ := hS i L M h hL T h74
  have ok := lp_ok_S (n := n) (tp := tp) (lp_ok_F (n := n) (tp := tp) k) i hi
  have a1' : mj_C sl (d + 3) 57 [.ref 28, .int (nI o)] M = some (0, M2) := a1
  rw [a1']
  simp only [Option.bind_some]
  unfold lp_cmp lp_ap
  cases hr : lp_S (lp_sn n tp) (lp_F (lp_sn n tp) k) i with
  | inl x =>
    obtain ⟨qf, pf⟩ := x
    rw [hr] at a2 ok
    obtain ⟨⟨i', L', S2⟩, f2⟩ := a2
    have hp : pf ≤ n := ok.2
    have hne := mv_fxne ok.1 (p := pf) (by omega)
    rw [c_sign S2 hn (lc_Tb hD T f2)]
    simp only [Option.bind_some]
    rw [S2.2.2.2.1, if_neg hne, c_failN S2 hne]
    exact ⟨M2, rfl, ⟨i', L', S2⟩, f2⟩
  | inr y =>
    obtain ⟨j, c1⟩ := y
    rw [hr] at a2 ok
    obtain ⟨S2, cc, f2⟩ := a2
    obtain ⟨k1, k2, k3, k4, k5⟩ := ok
    have T2 := lc_Tb hD T f2
    have h8j := (T j (by omega)).1
    have e60 : (mv_hr n tp j = 60) = (lp_sn n tp j = 60) := lp_hrL (by decide) h8j
    have e62 : (mv_hr n tp j = 62) = (lp_sn n tp j = 62) := lp_hrL (by decide) h8j
    have e61 : (mv_hr n tp j = 61) = (lp_sn n tp j = 61) := lp_hrL (by decide) h8j
    rw [c_sign S2 hn T2]
    simp only [Option.bind_some]
    rw [S2.2.2.2.1, if_pos rfl, S2.2.2.1, s_addL]
    by_cases q : lp_sn n tp j = 60 ∨ lp_sn n tp j = 62 ∨ lp_sn n tp j = 61
    · rw [if_pos q]
      have hj : j < n := lp_sn_lt (tp := tp) (by omega)
      have S3 := lc_at (j := j + 1) hD S2 (by omega)
      have f3 : mv_fr (lc_Q D (L + mv_szs c1)) M2 (mj_st M2 28 3 (nI (j + 1))) := mv_fr.rf.st (by unfold lc_Q; omega)
      have T3 := lc_Tb hD T2 f3
      obtain ⟨M4, b1, b2⟩ := hS (j + 1) (L + mv_szs c1) _ S3 (by omega) T3 (lc_74 hD (lc_74 hD h74 f2) f3)
      have b1' : mj_C sl (d + 3) 57 [.ref 28, .int (nI o)] (mj_st M2 28 3 (nI (j + 1))) = some (0, M4) := b1
      have ok2 := lp_ok_S (n := n) (tp := tp) (lp_ok_F (n := n) (tp := tp) k) (j + 1) (by omega)
      have hgo : ∃ M', (mj_C sl (d + 3) 57 [.ref 28, .int (nI o)] (mj_st M2 28 3 (nI (j + 1)))).bind (fun q10 => (mj_C sl (d + 3) 42 [.ref (mj_lw (q10.2 28 1)), .int (mv_hr n tp j)] q10.2).bind (fun q11 => some ((0 : Int32), q11.2))) = some (0, M') ∧ lc_R D n L (match lp_S (lp_sn n tp) (lp_F (lp_sn n tp) k) (j + 1) with
          | .inl x => .inl x
          | .inr (j2, c2) => .inr (j2, c1 ++ (c2 ++ [(lp_on (lp_sn n tp j), 0)]))) M M' := by
        rw [b1']
        simp only [Option.bind_some]
        cases hr2 : lp_S (lp_sn n tp) (lp_F (lp_sn n tp) k) (j + 1) with
        | inl x =>
          obtain ⟨qf, pf⟩ := x
          rw [hr2] at b2
          obtain ⟨⟨i', L', S4⟩, f4⟩ := b2
          obtain ⟨M5, p1, ⟨L5, p2⟩, p3⟩ := lc_putF (sl := sl) (d := d + 3) (x := mv_hr n tp j) hD S4
          rw [S4.1, mv_lwD hD, p1]
          exact ⟨M5, rfl, ⟨i', L5, p2⟩, (((f2.wk (fun a k z => z.wk (by omega))).tr (f3.wk (fun a k z => z.wk (by omega)))).tr f4).tr p3⟩
        | inr y =>
          obtain ⟨j2, c2⟩ := y
          rw [hr2] at b2 ok2
          obtain ⟨S4, cc2, f4⟩ := b2
          obtain ⟨m1, m2, m3, m4, m5⟩ := ok2
          have p1 := lc_put (sl := sl) (d := d + 3) (x := mv_hr n tp j) hD S4 (by omega)
          have fp : mv_fr (lc_Q D (L + mv_szs c1 + mv_szs c2)) M4 _ := lc_putQ (D := D) (M := M4) (x := mv_hr n tp j) (Nat.le_refl (L + mv_szs c1 + mv_szs c2))
          have f24 : mv_fr (lc_Q D (L + mv_szs c1)) M2 M4 := f3.tr f4
          have hop : 7 ≤ lp_on (lp_sn n tp j) ∧ lp_on (lp_sn n tp j) ≤ 9 ∧ mv_sgn (lp_on (lp_sn n tp j)) = lp_sn n tp j := by
            rcases q with q | q | q <;> rw [q] <;> decide
          have hz : mv_szs [(lp_on (lp_sn n tp j), 0)] = 1 := by
            show mv_sz (lp_on (lp_sn n tp j), 0) + 0 = 1
            unfold mv_sz
            dsimp only
            rw [if_neg (by omega)]
          rw [S4.1, mv_lwD hD, p1]
          refine ⟨_, rfl, ?_, ?_, (f2.tr (f24.wk (fun a k z => z.wk (by omega)))).tr (fp.wk (fun a k z => z.wk (by omega)))⟩
          · rw [mv_szs_ap, mv_szs_ap, hz, show L + (mv_szs c1 + (mv_szs c2 + 1)) = L + mv_szs c1 + mv_szs c2 + 1 from by omega]
            exact lc_putS hD S4 (by omega)
          · refine mv_cc_ap c1 L ?_ (mv_cc_ap c2 _ ?_ ?_)
            · refine mv_cc_cg c1 L (fun x x1 x2 => ?_) cc
              exact (fp _ _ (by unfold lc_Q; omega)).trans (f24 _ _ (by unfold lc_Q; omega))
            · refine mv_cc_cg c2 _ (fun x x1 x2 => ?_) cc2
              exact fp _ _ (by unfold lc_Q; omega)
            · refine mv_cc1 (Or.inr (Or.inr ⟨by omega, by omega, ?_⟩))
              rw [hop.2.2, ← lp_hrS (n := n) (tp := tp) (i := j) (by omega)]
              exact lc_putC
      by_cases q1 : lp_sn n tp j = 60
      · rw [if_pos (by rw [e60]; exact q1)]
        exact hgo
      rw [if_neg (by rw [e60]; exact q1)]
      by_cases q2 : lp_sn n tp j = 62
      · rw [if_pos (by rw [e62]; exact q2)]
        exact hgo
      rw [if_neg (by rw [e62]; exact q2), if_pos (by rw [e61]; omega)]
      exact hgo
    · rw [if_neg q, if_neg (by rw [e60]; omega), if_neg (by rw [e62]; omega), if_neg (by rw [e61]; omega), c_fail S2]
      obtain ⟨g1, g2⟩ := lc_failR (q := 1) hD S2
      exact ⟨_, rfl, g1, (f2.wk (fun a k z => z.wk (by omega))).tr g2⟩
theorem c_T_all (hD : D = 29 ∨ D = 38) (hn : n ≤ 240) : ∀ k, k ≤ 6 → lc_K sl (d + 24 + (3 * k + 4)) D n tp i_X4_readTest (6 - k) (lp_T (lp_sn n tp) k) ∧ lc_K sl (d + 24 + (3 * k + 6)) D n tp i_X4_readCondition (6 - k) (lp_C (lp_sn n tp) (lp_T (lp_sn n tp) k)) := by
  have hS : ∀ k, k ≤ 6 → ∀ x, lc_K sl (d + 24 + x) D n tp i_X4_readSum (6 - k) (lp_S (lp_sn n tp) (lp_F (lp_sn n tp) k)) := fun k hk x => by
    have := ((c_F_all (sl := sl) (d := d) (tp := tp) hD hn k hk).2).up (24 + x - (3 * k + 6))
    rw [show d + (3 * k + 6) + (24 + x - (3 * k + 6)) = d + 24 + x from by omega] at this
    exact this
  have up : ∀ k, k ≤ 6 → lc_K sl (d + 24 + (3 * k + 4)) D n tp i_X4_readTest (6 - k) (lp_T (lp_sn n tp) k) → lc_K sl (d + 24 + (3 * k + 6)) D n tp i_X4_readCondition (6 - k) (lp_C (lp_sn n tp) (lp_T (lp_sn n tp) k)) := by
    intro k hk K
    have p := c_Qp (sl := sl) (d := d + 24 + (3 * k + 2)) hD hn K (lp_ok_T k hk)
    exact c_Cn (sl := sl) (d := d + 24 + (3 * k + 3)) hD hn p (Pf := lp_sC) (fun i hi => lp_ok_seq (Pf := lp_sC) (fun s h => by
      have := of_decide_eq_true h
      omega) (lp_ej_b 11) (fun s c c2 h p q => lp_sC_jmp (Or.inl rfl) p q) (fun c p => p) (lp_ok_T k hk) i hi)
  intro k
  induction k with
  | zero =>
    intro _
    have K : lc_K sl (d + 24 + (3 * 0 + 4)) D n tp i_X4_readTest (6 - 0) (lp_T (lp_sn n tp) 0) := c_T_gen (sl := sl) (d := d + 24) hD hn (by omega) (fun k' h => by omega) (fun k' h => by omega) (hS 0 (by omega) 3)
    exact ⟨K, up 0 (by omega) K⟩
  | succ k ih =>
    intro hk
    obtain ⟨t1, c1⟩ := ih (by omega)
    have K : lc_K sl (d + 24 + (3 * (k + 1) + 4)) D n tp i_X4_readTest (6 - (k + 1)) (lp_T (lp_sn n tp) (k + 1)) := by
      have := c_T_gen (sl := sl) (d := d + 24 + (3 * k + 3)) (o := 6 - (k + 1)) (k := k + 1) hD hn (by omega) (fun k' h => by
        have e : k' = k := by omega
        subst e
        rw [show 6 - (k' + 1) + 1 = 6 - k' from by omega]
        exact t1.up 2) (fun k' h => by
        have e : k' = k := by omega
        subst e
        rw [show 6 - (k' + 1) + 1 = 6 - k' from by omega]
        exact c1) (hS (k + 1) hk (3 * k + 6))
      rw [show d + 24 + (3 * (k + 1) + 4) = d + 24 + (3 * k + 3) + 4 from by omega]
      exact this
    exact ⟨K, up (k + 1) hk K⟩
end LC4
