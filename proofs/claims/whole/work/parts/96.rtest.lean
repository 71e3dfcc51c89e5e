section LR7
variable {sl d e n o : Nat} {tp : Nat → Nat}
theorem r_T_gen {k : Nat} (hn : n ≤ 240) (ho : o + k = 6) (hT : ∀ k', k = k' + 1 → lr_TT sl e n tp (o + 1) (lp_T (lp_sn n tp) k')) (hC : ∀ k', k = k' + 1 → lr_TP lr_PC 13 sl e n tp (o + 1) (lp_C (lp_sn n tp) (lp_T (lp_sn n tp) k'))) : lr_TT sl e n tp o (lp_T (lp_sn n tp) k) := by
  intro i C m W0 M S hW hW2 hm hCi hWl T
  have hi := S.2.2.2.2.2.2
  have h8 := (T i (by omega)).1
  have hlW : (List.replicate m ((10, 0) : Nat × Nat) ++ W0).length = m + W0.length := by rw [List.length_append, List.length_replicate]
  have eH := rr_here (sl := sl) (d := e + 6) S hn T
  have e33 : (mv_hr n tp i = 33) = (lp_sn n tp i = 33) := lp_hrL (by decide) h8
  have e40 : (mv_hr n tp i = 40) = (lp_sn n tp i = 40) := lp_hrL (by decide) h8
  have hW1 : 1 ≤ W0.length := by
    cases W0 with
    | nil => exact absurd hW2 (by decide)
    | cons w t => simp only [List.length_cons]; omega
  by_cases q33 : lp_sn n tp i = 33
  · have hlt : i < n := lp_sn_lt (tp := tp) (by omega)
    have eO := rr_opens (sl := sl) (d := e + 5) (op := 10) S (by omega) (by omega) (by omega) hlt
    have eO' : mj_C sl (e + 6) 153 [.ref 45, .int 10] M = _ := eO
    have E0 : lr_A sl e M = (mj_C sl (e + 6) 153 [.ref 45, .int 10] M).bind (fun q3 => if q3.1 = 0 then (some ((0 : Int32), q3.2)) else (lr_A sl e q3.2)) := by
      unfold lr_A
      rw [b_X9_readsCondition_40, eH]
      simp only [Option.bind_some]
      rw [if_pos (by rw [e33]; exact q33), eH]
      simp only [Option.bind_some]
      rw [if_pos (by rw [e33]; exact q33)]
    cases k with
    | zero =>
      unfold lp_T
      rw [if_pos (Or.inl q33)]
      refine ⟨mj_st M 45 8 (mv_fx (nI 5) (nI i)), ?_, mq_st_eq, mv_fr.rf.st (by unfold lr_Q; omega)⟩
      rw [E0, eO', if_pos (by omega)]
      rfl
    | succ k' =>
      rw [if_neg (by omega)] at eO'
      have S1 := lr_opened (op := 10) S (by omega) hlt
      obtain ⟨M1, hM1⟩ : ∃ M1, M1 = mj_st (mj_st (mj_st (mj_st M 45 10 (nI (o + 1))) 52 (List.replicate m ((10, 0) : Nat × Nat) ++ W0).length (nI (1048576 * 10 + 0))) 45 12 (nI ((List.replicate m ((10, 0) : Nat × Nat) ++ W0).length + 1))) 45 6 (nI (i + 1)) := ⟨_, rfl⟩
      rw [← hM1] at S1 eO'
      have f1 : mv_fr (lr_Q C) M M1 := by
        rw [hM1]; exact (((mv_fr.rf.st (by unfold lr_Q; omega)).st (by unfold lr_Q; omega)).st (by unfold lr_Q; omega)).st (by unfold lr_Q; omega)
      rw [eO'] at E0
      simp only [Option.bind_some, s_10, if_false] at E0
      have K := hT k' rfl (i + 1) C (m + 1) W0 M1 S1 hW hW2 (by omega) (by omega) (by omega) (lr_Tb T f1)
      unfold lp_T
      rw [if_pos q33, E0]
      unfold lp_ap
      cases hr : lp_T (lp_sn n tp) k' (i + 1) with
      | inl x =>
        obtain ⟨qq, p⟩ := x
        rw [hr] at K
        obtain ⟨M', k1, k2, k3⟩ := K
        exact ⟨M', k1, k2, (f1.wk (fun a k z => z.wk (by omega))).tr k3⟩
      | inr y =>
        obtain ⟨j, c⟩ := y
        rw [hr] at K
        obtain ⟨M', k1, k2, k3, k4⟩ := K
        have hl : (c ++ [((10, 0) : Nat × Nat)]).length = c.length + 1 := by rw [List.length_append]; rfl
        refine ⟨M', k1, ?_, ?_, f1.tr k4⟩
        · rw [hl, show C + (c.length + 1) + m = C + c.length + (m + 1) from by omega, show o - m = o + 1 - (m + 1) from by omega]
          exact k2
        · rw [List.append_assoc]
          exact k3
  by_cases q40 : lp_sn n tp i = 40
  · have hlt : i < n := lp_sn_lt (tp := tp) (by omega)
    have eO := rr_opens (sl := sl) (d := e + 5) (op := 13) S (by omega) (by omega) (by omega) hlt
    have eO' : mj_C sl (e + 6) 153 [.ref 45, .int 13] M = _ := eO
    have E0 : lr_A sl e M = (mj_C sl (e + 6) 153 [.ref 45, .int 13] M).bind (fun q3 => if q3.1 = 0 then (some ((0 : Int32), q3.2)) else (lr_A sl e q3.2)) := by
      unfold lr_A
      rw [b_X9_readsCondition_40, eH]
      simp only [Option.bind_some]
      rw [if_neg (by rw [e33]; exact q33), eH]
      simp only [Option.bind_some]
      rw [if_pos (by rw [e40]; exact q40), eH]
      simp only [Option.bind_some]
      rw [if_neg (by rw [e33]; exact q33)]
    cases k with
    | zero =>
      unfold lp_T
      rw [if_pos (Or.inr q40)]
      refine ⟨mj_st M 45 8 (mv_fx (nI 5) (nI i)), ?_, mq_st_eq, mv_fr.rf.st (by unfold lr_Q; omega)⟩
      rw [E0, eO', if_pos (by omega)]
      rfl
    | succ k' =>
      rw [if_neg (by omega)] at eO'
      have S1 := lr_opened (op := 13) S (by omega) hlt
      obtain ⟨M1, hM1⟩ : ∃ M1, M1 = mj_st (mj_st (mj_st (mj_st M 45 10 (nI (o + 1))) 52 (List.replicate m ((10, 0) : Nat × Nat) ++ W0).length (nI (1048576 * 13 + 0))) 45 12 (nI ((List.replicate m ((10, 0) : Nat × Nat) ++ W0).length + 1))) 45 6 (nI (i + 1)) := ⟨_, rfl⟩
      rw [← hM1] at S1 eO'
      have f1 : mv_fr (lr_Q C) M M1 := by
        rw [hM1]; exact (((mv_fr.rf.st (by unfold lr_Q; omega)).st (by unfold lr_Q; omega)).st (by unfold lr_Q; omega)).st (by unfold lr_Q; omega)
      rw [eO'] at E0
      simp only [Option.bind_some, s_10, if_false] at E0
      have T1 := lr_Tb T f1
      have K := hC k' rfl (i + 1) C ((13, 0) :: (List.replicate m (10, 0) ++ W0)) M1 S1 (by show 13 ≤ 13; omega) (by show 13 ≤ 13; omega) (by omega) (by rw [List.length_cons, hlW]; omega) T1
      have ok := lp_ok_C (n := n) (tp := tp) (lp_ok_T (n := n) (tp := tp) k' (by omega)) (i + 1) (by omega)
      have st := lp_st_C (n := n) (k := k') (tp := tp) hn (by omega) (i + 1)
      unfold lp_T
      rw [if_neg q33, if_pos q40, E0]
      unfold lp_end
      cases hr : lp_C (lp_sn n tp) (lp_T (lp_sn n tp) k') (i + 1) with
      | inl x =>
        obtain ⟨qq, p⟩ := x
        rw [hr] at K
        obtain ⟨M', k1, k2, k3⟩ := K
        exact ⟨M', k1, k2, (f1.wk (fun a k z => z.wk (by omega))).tr k3⟩
      | inr y =>
        obtain ⟨j, c⟩ := y
        obtain ⟨st1, st2⟩ := st j c (by omega) hr
        rw [hr] at K ok
        obtain ⟨M2, q, k1, k2, k3, k4⟩ := K
        obtain ⟨m1, m2, m3, m4, m5⟩ := ok
        have T2 := lr_Tb T1 k4
        dsimp only
        rw [k1]
        by_cases q41 : lp_sn n tp j = 41
        · rw [if_pos q41]
          have hltj : j < n := lp_sn_lt (tp := tp) (by omega)
          have h8j := (T j (by omega)).1
          have eHj := rr_here (sl := sl) (d := e + 6) k2 hn T2
          have e41 : (mv_hr n tp j = 41) = (lp_sn n tp j = 41) := lp_hrL (by decide) h8j
          obtain ⟨M3, a1, a2, a3, a4⟩ := r_landC (sl := sl) (e := e + 5) (w := .null) k2 k3 (by rw [List.length_cons, hlW]; omega) (by omega) ⟨by show ¬ 13 = 11; omega, by show ¬ 13 = 12; omega⟩
          have a1' : mj_C sl (e + 6) 162 [.ref 45, .int 1] M2 = some (0, M3) := a1
          have S4 := lr_at (j := j + 1) (lr_open (o2 := o) (lr_pop a2)) (by omega)
          obtain ⟨M4, hM4⟩ : ∃ M4, M4 = mj_st (mj_st (mj_st M3 45 12 (nI (List.replicate m ((10, 0) : Nat × Nat) ++ W0).length)) 45 10 (nI o)) 45 6 (nI (j + 1)) := ⟨_, rfl⟩
          have e12 : M3 45 12 - 1 = nI (List.replicate m ((10, 0) : Nat × Nat) ++ W0).length := by
            rw [a2.2.2.2.2.1, List.length_cons]
            exact (show nI ((List.replicate m ((10, 0) : Nat × Nat) ++ W0).length + 1) - nI 1 = _ by rw [pk_sub (by omega), Nat.add_sub_cancel])
          have e10 : (mj_st M3 45 12 (nI (List.replicate m ((10, 0) : Nat × Nat) ++ W0).length)) 45 10 - 1 = nI o := by
            rw [mq_st_ne (by omega), a2.2.2.1]
            exact (show nI (o + 1) - nI 1 = nI o by rw [pk_sub (by omega), Nat.add_sub_cancel])
          have e6 : (mj_st (mj_st M3 45 12 (nI (List.replicate m ((10, 0) : Nat × Nat) ++ W0).length)) 45 10 (nI o)) 45 6 + 1 = nI (j + 1) := by
            rw [mq_st_ne (by omega), mq_st_ne (by omega), a2.1, s_addL]
          rw [← hM4] at S4
          have f4 : mv_fr (lr_Q (C + c.length)) M3 M4 := by
            rw [hM4]; exact ((mv_fr.rf.st (by unfold lr_Q; omega)).st (by unfold lr_Q; omega)).st (by unfold lr_Q; omega)
          obtain ⟨M5, b1, b2, b3, b4⟩ := r_ends (sl := sl) (e := e + 5) (W := W0) hn (by omega) (by omega) m (C + c.length) M4 o S4 hm (by omega) (by omega)
          have b1' : mj_C sl (e + 6) 161 [.ref 45] M4 = some (0, M5) := b1
          refine ⟨M5, ?_, b2, ?_, (((f1.tr k4).tr a4).tr (f4.wk (fun a k z => z.wk (by omega)))).tr (b4.wk (fun a k z => z.wk (by omega)))⟩
          · unfold lr_B
            rw [b_X9_readsCondition_92, eHj]
            simp only [Option.bind_some]
            rw [if_pos (by rw [e41]; exact q41), a1']
            simp only [Option.bind_some]
            rw [e12, e10, e6, ← hM4, S4.2.2.2.2.1, hlW, if_neg (by rw [s_eqL (by omega) (by decide)]; omega), b1']
            rfl
          · refine mv_rc_ap c C (mv_rc_cg c C (fun x x1 x2 => ?_) a3) b3
            rw [b4 _ _ (by unfold lr_Q; omega), f4 _ _ (by unfold lr_Q; omega)]
        · rw [if_neg q41]
          exact ⟨_, rB_bad hn k2 T2 q41 st2 st1, mq_st_eq, ((f1.wk (fun a k z => z.wk (by omega))).tr (k4.wk (fun a k z => z.wk (by omega)))).st (by unfold lr_Q; omega)⟩
  have hT0 : lp_T (lp_sn n tp) k i = lp_cmp (lp_sn n tp) k i := by
    cases k with
    | zero => unfold lp_T; rw [if_neg (by omega)]
    | succ k' => unfold lp_T; rw [if_neg q33, if_neg q40]
  have K := rr_cmp (sl := sl) (e := e) (tp := tp) hn (show k ≤ 6 by omega) ho S hW hW2 hm hCi hWl T
  have E0 : lr_A sl e M = (mj_C sl (e + 6) 164 [.ref 45] M).bind (fun q9 => if q9.1 = 0 then (some ((0 : Int32), q9.2)) else (lr_B sl e q9.2)) := by
    unfold lr_A lr_B
    rw [b_X9_readsCondition_40, eH]
    simp only [Option.bind_some]
    rw [if_neg (by rw [e33]; exact q33), eH]
    simp only [Option.bind_some]
    rw [if_neg (by rw [e40]; exact q40)]
  rw [hT0, E0]
  cases hr : lp_cmp (lp_sn n tp) k i with
  | inl x =>
    obtain ⟨qq, p⟩ := x
    rw [hr] at K
    obtain ⟨M', k1, k2, k3⟩ := K
    have k1' : mj_C sl (e + 6) 164 [.ref 45] M = some (0, M') := k1
    refine ⟨M', ?_, k2, k3⟩
    rw [k1']
    rfl
  | inr y =>
    obtain ⟨j, c⟩ := y
    rw [hr] at K
    obtain ⟨M', k1, k2, k3, k4⟩ := K
    have k1' : mj_C sl (e + 6) 164 [.ref 45] M = some (1, M') := k1
    refine ⟨M', ?_, k2, k3, k4⟩
    rw [k1']
    simp only [Option.bind_some, s_10, if_false]
theorem r_T_all (hn : n ≤ 240) : ∀ k, k ≤ 6 → lr_TT sl e n tp (6 - k) (lp_T (lp_sn n tp) k) ∧ lr_TP lr_PC 13 sl e n tp (6 - k) (lp_C (lp_sn n tp) (lp_T (lp_sn n tp) k)) := by
  have up : ∀ k, k ≤ 6 → lr_TT sl e n tp (6 - k) (lp_T (lp_sn n tp) k) → lr_TP lr_PC 13 sl e n tp (6 - k) (lp_C (lp_sn n tp) (lp_T (lp_sn n tp) k)) := by
    intro k hk K
    exact r_Cn hn (r_Qp hn K (lp_ok_T k hk)) (Pf := lp_sC) (fun i hi => lp_ok_seq (Pf := lp_sC) (fun s h => by
      have := of_decide_eq_true h
      omega) (lp_ej_b 11) (fun s c c2 h p q => lp_sC_jmp (Or.inl rfl) p q) (fun c p => p) (lp_ok_T k hk) i hi)
  intro k
  induction k with
  | zero =>
    intro _
    have K := r_T_gen (sl := sl) (e := e) (o := 6) (k := 0) (tp := tp) hn (by omega) (fun k' h => by omega) (fun k' h => by omega)
    exact ⟨K, up 0 (by omega) K⟩
  | succ k ih =>
    intro hk
    obtain ⟨t1, c1⟩ := ih (by omega)
    have K := r_T_gen (sl := sl) (e := e) (o := 6 - (k + 1)) (k := k + 1) (tp := tp) hn (by omega) (fun k' h => by
      have ek : k' = k := by omega
      subst ek
      rw [show 6 - (k' + 1) + 1 = 6 - k' from by omega]
      exact t1) (fun k' h => by
      have ek : k' = k := by omega
      subst ek
      rw [show 6 - (k' + 1) + 1 = 6 - k' from by omega]
      exact c1)
    exact ⟨K, up (k + 1) hk K⟩
theorem rr_cond {i C kd : Nat} {ca : List (Nat × Nat)} {W : List (Nat × Nat)} {M : mj_M} (hn : n ≤ 240) (S : lr_S M n i o W C) (hC : C ≤ i) (T : mv_Tb M tp) : (match lp_cond (lp_sn n tp) kd ca i with
    | .inl (q, p) => lr_bad (mj_C sl (e + 7) i_X9_readsCondition [.ref 45] M) q p M
    | .inr (j, x) => ∃ M' cb, x = (kd, ca, cb) ∧ mj_C sl (e + 7) i_X9_readsCondition [.ref 45] M = some (1, M') ∧ lr_S M' n j 0 [] (C + cb.length) ∧ mv_rc (M' 51) C cb ∧ mv_fr (lr_Q C) M M' ∧ i + cb.length ≤ j) := by
  have hi := S.2.2.2.2.2.2
  have h8 := (T i (by omega)).1
  have eH := rr_here (sl := sl) (d := e + 6) S hn T
  have e40 : (mv_hr n tp i = 40) = (lp_sn n tp i = 40) := lp_hrL (by decide) h8
  unfold lp_cond
  by_cases q40 : lp_sn n tp i = 40
  · rw [if_pos q40]
    have hlt : i < n := lp_sn_lt (tp := tp) (by omega)
    have S0 : lr_S (mj_st (mj_st M 45 10 0) 45 12 0) n i 0 [] C := by
      obtain ⟨s1, s2, s3, s4, s5, s6, s7⟩ := S
      refine ⟨?_, ?_, ?_, ?_, mq_st_eq, trivial, s7⟩
      · rw [mq_st_ne (by omega), mq_st_ne (by omega)]; exact s1
      · rw [mq_st_ne (by omega), mq_st_ne (by omega)]; exact s2
      · rw [mq_st_ne (by omega), mq_st_eq]; rfl
      · rw [mq_st_ne (by omega), mq_st_ne (by omega)]; exact s4
    obtain ⟨M0, hM0⟩ : ∃ M0, M0 = mj_st (mj_st M 45 10 0) 45 12 0 := ⟨_, rfl⟩
    rw [← hM0] at S0
    have f0 : mv_fr (lr_Q C) M M0 := by
      rw [hM0]; exact (mv_fr.rf.st (by unfold lr_Q; omega)).st (by unfold lr_Q; omega)
    have eO := rr_opens (sl := sl) (d := e + 5) (op := 13) S0 (by omega) (by show 0 < 250; omega) (by omega) hlt
    rw [if_neg (by omega)] at eO
    have S1 := lr_opened (op := 13) S0 (by omega) hlt
    obtain ⟨M1, hM1⟩ : ∃ M1, M1 = mj_st (mj_st (mj_st (mj_st M0 45 10 (nI (0 + 1))) 52 ([] : List (Nat × Nat)).length (nI (1048576 * 13 + 0))) 45 12 (nI (([] : List (Nat × Nat)).length + 1))) 45 6 (nI (i + 1)) := ⟨_, rfl⟩
    rw [← hM1] at S1 eO
    have eO' : mj_C sl (e + 6) 153 [.ref 45, .int 13] M0 = some (1, M1) := eO
    have f1 : mv_fr (lr_Q C) M0 M1 := by
      rw [hM1]; exact (((mv_fr.rf.st (by unfold lr_Q; omega)).st (by unfold lr_Q; omega)).st (by unfold lr_Q; omega)).st (by unfold lr_Q; omega)
    have f01 := f0.tr f1
    have T1 := lr_Tb T f01
    have E0 : mj_C sl (e + 7) i_X9_readsCondition [.ref 45] M = lr_A sl e M1 := by
      unfold lr_A
      rw [b_X9_readsCondition, eH]
      simp only [Option.bind_some]
      rw [if_pos (by rw [e40]; exact q40), ← hM0, eO']
      simp only [Option.bind_some, s_10, if_false]
    have K := (r_T_all (sl := sl) (e := e) (tp := tp) hn 5 (by omega)).2 (i + 1) C [(13, 0)] M1 S1 (by show 13 ≤ 13; omega) (by show 13 ≤ 13; omega) (by omega) (by show 1 ≤ i + 1; omega) T1
    have ok := lp_ok_C (n := n) (tp := tp) (lp_ok_T (n := n) (tp := tp) 5 (by omega)) (i + 1) (by omega)
    have st := lp_st_C (n := n) (k := 5) (tp := tp) hn (by omega) (i + 1)
    rw [E0]
    unfold lp_end
    cases hr : lp_C (lp_sn n tp) (lp_T (lp_sn n tp) 5) (i + 1) with
    | inl x =>
      obtain ⟨qq, p⟩ := x
      rw [hr] at K
      obtain ⟨M', k1, k2, k3⟩ := K
      exact ⟨M', k1, k2, (f01.wk (fun a k z => z.wk (by omega))).tr k3⟩
    | inr y =>
      obtain ⟨j, c⟩ := y
      obtain ⟨st1, st2⟩ := st j c (by omega) hr
      rw [hr] at K ok
      obtain ⟨M2, q, k1, k2, k3, k4⟩ := K
      obtain ⟨m1, m2, m3, m4, m5⟩ := ok
      have T2 := lr_Tb T1 k4
      dsimp only
      rw [k1]
      by_cases q41 : lp_sn n tp j = 41
      · rw [if_pos q41]
        have hltj : j < n := lp_sn_lt (tp := tp) (by omega)
        have h8j := (T j (by omega)).1
        have eHj := rr_here (sl := sl) (d := e + 6) k2 hn T2
        have e41 : (mv_hr n tp j = 41) = (lp_sn n tp j = 41) := lp_hrL (by decide) h8j
        obtain ⟨M3, a1, a2, a3, a4⟩ := r_landC (sl := sl) (e := e + 5) (w := .null) k2 k3 (by show 1 ≤ 238; omega) (by omega) ⟨by show ¬ 13 = 11; omega, by show ¬ 13 = 12; omega⟩
        have a1' : mj_C sl (e + 6) 162 [.ref 45, .int 1] M2 = some (0, M3) := a1
        have S4 := lr_at (j := j + 1) (lr_open (o2 := 0) (lr_pop a2)) (by omega)
        obtain ⟨M4, hM4⟩ : ∃ M4, M4 = mj_st (mj_st (mj_st M3 45 12 (nI ([] : List (Nat × Nat)).length)) 45 10 (nI 0)) 45 6 (nI (j + 1)) := ⟨_, rfl⟩
        have e12 : M3 45 12 - 1 = nI ([] : List (Nat × Nat)).length := by
          rw [a2.2.2.2.2.1]
          rfl
        have e10 : (mj_st M3 45 12 (nI ([] : List (Nat × Nat)).length)) 45 10 - 1 = nI 0 := by
          rw [mq_st_ne (by omega), a2.2.2.1]
          rfl
        have e6 : (mj_st (mj_st M3 45 12 (nI ([] : List (Nat × Nat)).length)) 45 10 (nI 0)) 45 6 + 1 = nI (j + 1) := by
          rw [mq_st_ne (by omega), mq_st_ne (by omega), a2.1, s_addL]
        rw [← hM4] at S4
        have f4 : mv_fr (lr_Q (C + c.length)) M3 M4 := by
          rw [hM4]; exact ((mv_fr.rf.st (by unfold lr_Q; omega)).st (by unfold lr_Q; omega)).st (by unfold lr_Q; omega)
        refine ⟨M4, c, rfl, ?_, S4, mv_rc_cg c C (fun x x1 x2 => f4 _ _ (by unfold lr_Q; omega)) a3, ((f01.tr k4).tr a4).tr (f4.wk (fun a k z => z.wk (by omega))), by omega⟩
        unfold lr_B
        rw [b_X9_readsCondition_92, eHj]
        simp only [Option.bind_some]
        rw [if_pos (by rw [e41]; exact q41), a1']
        simp only [Option.bind_some]
        rw [e12, e10, e6, ← hM4, S4.2.2.2.2.1, if_pos (show nI ([] : List (Nat × Nat)).length = 0 from rfl)]
      · rw [if_neg q41]
        exact ⟨_, rB_bad hn k2 T2 q41 st2 st1, mq_st_eq, ((f01.wk (fun a k z => z.wk (by omega))).tr (k4.wk (fun a k z => z.wk (by omega)))).st (by unfold lr_Q; omega)⟩
  · rw [if_neg q40]
    have wA : mj_C sl (e + 6) 149 [.ref 45, .int 1, .int (nI i)] M = some (0, mj_st M 45 8 (mv_fx (nI 1) (nI i))) := b_X9_wrongAt
    refine ⟨mj_st M 45 8 (mv_fx (nI 1) (nI i)), ?_, mq_st_eq, mv_fr.rf.st (by unfold lr_Q; omega)⟩
    rw [b_X9_readsCondition, eH]
    simp only [Option.bind_some]
    rw [if_neg (by rw [e40]; exact q40), S.1, wA]
    exact mv_wr
end LR7
