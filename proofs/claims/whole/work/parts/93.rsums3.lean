section LR4
variable {sl d e n o : Nat} {tp : Nat → Nat}
theorem r_E0 {j : Nat} {M : mj_M} {bs : Nat} {w2 : Value} {W : List (Nat × Nat)} {C : Nat} (hn : n ≤ 240) (S : lr_S M n j o W C) (T : mv_Tb M tp) (h1 : lp_oa (lp_sn n tp j) = false) (h2 : lp_om (lp_sn n tp j) = false) : lr_E sl (e + 4) bs w2 M = if lp_sn n tp j = 93 then ((mj_C sl (e + 4) 159 [.ref 45, .int (nI bs)] M).bind (fun q4 => if q4.1 = 0 then ((mj_C sl (e + 4) 159 [.ref 45, .int (nI bs)] q4.2).bind (fun q5 => if q5.1 = 0 then ((mj_C sl (e + 4) 157 [.ref 45, .int 1] q5.2).bind (fun q6 => some ((1 : Int32), q6.2))) else ((mj_C sl (e + 4) 149 [.ref 45, .int 1, .int (q5.2 45 6)] q5.2).bind (fun q7 => if q7.1 &&& 1 = q7.1 then some ((q7.1 : Int32), q7.2) else none)))) else ((mj_C sl (e + 4) 157 [.ref 45, .int 1] q4.2).bind (fun q8 => lr_E sl (e + 4) bs (.int (-1)) (mj_st (mj_st (mj_st q8.2 45 12 ((q8.2 45 12) - 1)) 45 10 (((mj_st q8.2 45 12 ((q8.2 45 12) - 1)) 45 10) - 1)) 45 6 (((mj_st (mj_st q8.2 45 12 ((q8.2 45 12) - 1)) 45 10 (((mj_st q8.2 45 12 ((q8.2 45 12) - 1)) 45 10) - 1)) 45 6) + 1)))))) else ((mj_C sl (e + 4) 159 [.ref 45, .int (nI bs)] M).bind (fun q9 => if q9.1 = 0 then ((mj_C sl (e + 4) 157 [.ref 45, .int 1] q9.2).bind (fun q10 => some ((1 : Int32), q10.2))) else ((mj_C sl (e + 4) 149 [.ref 45, .int 1, .int (q9.2 45 6)] q9.2).bind (fun q11 => if q11.1 &&& 1 = q11.1 then some ((q11.1 : Int32), q11.2) else none)))) := by
  have hi := S.2.2.2.2.2.2
  have h8 := (T j (by omega)).1
  have eH := rr_here (sl := sl) (d := e + 4) S hn T
  have eS := rr_sumSign (sl := sl) (d := e + 4) (n := n) (tp := tp) (M := M) h8
  rw [if_neg (by rw [h1, h2]; decide)] at eS
  have e93 : (mv_hr n tp j = 93) = (lp_sn n tp j = 93) := lp_hrL (by decide) h8
  unfold lr_E
  rw [b_X9_readsSum_14, eH]
  simp only [Option.bind_some]
  rw [eS]
  simp only [Option.bind_some]
  rw [if_pos trivial, eH]
  simp only [Option.bind_some]
  by_cases q : lp_sn n tp j = 93
  · rw [if_pos q, if_pos (by rw [e93]; exact q)]
  · rw [if_neg q, if_neg (by rw [e93]; exact q)]
theorem r_F_gen {k : Nat} (hn : n ≤ 240) (ho : o + k = 6) (hS : ∀ k', k = k' + 1 → lr_TQ lr_qs lr_h2 sl (e + 4) n tp (o + 1) (lp_S (lp_sn n tp) (lp_F (lp_sn n tp) k'))) : lr_TF sl (e + 4) n tp o (lp_F (lp_sn n tp) k) := by
  intro i C W M bs w2 S hC hWl hb T
  have hi := S.2.2.2.2.2.2
  have h8 := (T i (by omega)).1
  by_cases q91 : lp_sn n tp i = 91
  · have hlt : i < n := lp_sn_lt (tp := tp) (by omega)
    have eH := rr_here (sl := sl) (d := e + 3) S hn T
    have y91 : mv_hr n tp i = 91 := by rw [lp_hrL (by decide) h8]; exact q91
    have eO := rr_opens (sl := sl) (d := e + 2) (op := 14) S (by omega) (by omega) (by omega) hlt
    have eO' : mj_C sl (e + 3) 153 [.ref 45, .int 14] M = if o = 6 then some (0, mj_st M 45 8 (mv_fx 5 (nI i))) else some (1, mj_st (mj_st (mj_st (mj_st M 45 10 (nI (o + 1))) 52 W.length (nI (1048576 * 14 + 0))) 45 12 (nI (W.length + 1))) 45 6 (nI (i + 1))) := eO
    have E0 : mj_C sl (e + 4) 158 [.ref 45] M = (mj_C sl (e + 3) 153 [.ref 45, .int 14] M).bind (fun q2 => if q2.1 = 0 then (some ((0 : Int32), q2.2)) else (mj_E sl (e + 4) 158 0 [.ref 45, .null] [] q2.2)) := by
      rw [e_readsFactor, b_X9_readsFactor_0, eH]
      simp only [Option.bind_some]
      rw [if_pos y91]
    cases k with
    | zero =>
      unfold lp_F
      rw [if_pos q91]
      refine ⟨mj_st M 45 8 (mv_fx (nI 5) (nI i)), ?_, mq_st_eq, mv_fr.rf.st (by unfold lr_Q; omega)⟩
      unfold lr_KF
      rw [E0, eO', if_pos (by omega)]
      rfl
    | succ k' =>
      rw [if_neg (by omega)] at eO'
      obtain ⟨M1, hM1⟩ : ∃ M1, M1 = mj_st (mj_st (mj_st (mj_st M 45 10 (nI (o + 1))) 52 W.length (nI (1048576 * 14 + 0))) 45 12 (nI (W.length + 1))) 45 6 (nI (i + 1)) := ⟨_, rfl⟩
      have S1 : lr_S M1 n (i + 1) (o + 1) ((14, 0) :: W) C := by rw [hM1]; exact lr_opened S (by omega) hlt
      rw [← hM1] at eO'
      have f1 : mv_fr (lr_Q C) M M1 := by
        rw [hM1]; exact (((mv_fr.rf.st (by unfold lr_Q; omega)).st (by unfold lr_Q; omega)).st (by unfold lr_Q; omega)).st (by unfold lr_Q; omega)
      have EK : lr_KF sl (e + 4) bs w2 M = lr_KF sl (e + 4) bs w2 M1 := by
        unfold lr_KF
        rw [E0, eO']
        simp only [Option.bind_some, s_10, if_false]
        rw [e_readsFactor]
      have T1 := lr_Tb T f1
      have K := hS k' rfl (i + 1) C ((14, 0) :: W) M1 bs w2 S1 (by show lr_h2 14; unfold lr_h2; omega) (by omega) (by show W.length + 1 ≤ i + 1; omega) (by show bs ≤ W.length + 1; omega) T1
      have ok := lp_ok_S (n := n) (tp := tp) (lp_ok_F (n := n) (tp := tp) k') (i + 1) (by omega)
      have st := lp_st_S (n := n) (k := k') (tp := tp) hn (i + 1)
      unfold lp_F
      rw [if_pos q91, EK]
      unfold lp_end
      cases hr : lp_S (lp_sn n tp) (lp_F (lp_sn n tp) k') (i + 1) with
      | inl x =>
        obtain ⟨qq, p⟩ := x
        rw [hr] at K
        obtain ⟨M', k1, k2, k3⟩ := K
        exact ⟨M', k1, k2, (f1.wk (fun a k z => z.wk (by omega))).tr k3⟩
      | inr y =>
        obtain ⟨j, c⟩ := y
        obtain ⟨st1, st2⟩ := st j c (by omega) hr
        rw [hr] at K ok
        obtain ⟨M', w4, c0, q, rfl, kq, k1, k2, k3, k4⟩ := K
        obtain ⟨m1, m2, m3, m4, m5⟩ := ok
        rw [List.length_append] at m4
        obtain ⟨q1, q2⟩ := lr_qs_b kq
        have T2 := lr_Tb T1 k4
        have hl : (q ++ ((14, 0) :: W)).length = q.length + W.length + 1 := by rw [List.length_append, List.length_cons]; omega
        have h1 := r_hos1 (sl := sl) (d := e + 4) (w1 := .null) (bs := bs) k2 (by omega) hb
        have h1' : mj_C sl (e + 4) 159 [.ref 45, .int (nI bs)] M' = some (1, M') := h1
        have eE := r_E0 (sl := sl) (e := e) (bs := bs) (w2 := w4) hn k2 T2 st1 st2
        rw [h1'] at eE
        dsimp only
        rw [k1]
        by_cases q93 : lp_sn n tp j = 93
        · rw [if_pos q93] at eE ⊢
          have hltj : j < n := lp_sn_lt (tp := tp) (by omega)
          obtain ⟨M2, a1, a2, a3, a4⟩ := r_close (sl := sl) (e := e + 3) (x := 1) (W := (14, 0) :: W) hn (by show W.length + 1 ≤ 245; omega) ⟨by show ¬ (4 ≤ 14 ∧ 14 ≤ 6); omega, Or.inr (by show ¬ (2 ≤ 14 ∧ 14 ≤ 3); omega)⟩ q (C + c0.length) M' (by omega) (fun w hw => ⟨(q2 w hw).1, by
            have := q2 w hw
            by_cases y : 4 ≤ w.1
            · exact Or.inl ⟨y, by omega⟩
            · exact Or.inr ⟨by decide, by omega, by omega⟩⟩) k2 (by omega)
          have a1' : mj_C sl (e + 4) 157 [.ref 45, .int 1] M' = some (0, M2) := a1
          simp only [Option.bind_some, s_10, if_false] at eE
          rw [a1'] at eE
          simp only [Option.bind_some] at eE
          have S3 := lr_at (j := j + 1) (lr_open (o2 := o) (lr_pop a2)) (by omega)
          obtain ⟨M3, hM3⟩ : ∃ M3, M3 = mj_st (mj_st (mj_st M2 45 12 (nI W.length)) 45 10 (nI o)) 45 6 (nI (j + 1)) := ⟨_, rfl⟩
          have e12 : M2 45 12 - 1 = nI W.length := by
            rw [a2.2.2.2.2.1]
            exact (show nI (W.length + 1) - nI 1 = nI W.length by rw [pk_sub (by omega), Nat.add_sub_cancel])
          have e10 : (mj_st M2 45 12 (nI W.length)) 45 10 - 1 = nI o := by
            rw [mq_st_ne (by omega), a2.2.2.1]
            exact (show nI (o + 1) - nI 1 = nI o by rw [pk_sub (by omega), Nat.add_sub_cancel])
          have e6 : (mj_st (mj_st M2 45 12 (nI W.length)) 45 10 (nI o)) 45 6 + 1 = nI (j + 1) := by
            rw [mq_st_ne (by omega), mq_st_ne (by omega), a2.1, s_addL]
          rw [e12, e10, e6, ← hM3] at eE
          rw [← hM3] at S3
          have f3 : mv_fr (lr_Q (C + c0.length + q.length)) M2 M3 := by
            rw [hM3]; exact ((mv_fr.rf.st (by unfold lr_Q; omega)).st (by unfold lr_Q; omega)).st (by unfold lr_Q; omega)
          refine ⟨M3, .int (-1), eE, by rw [List.length_append, ← Nat.add_assoc]; exact S3, ?_, (f1.tr (k4.tr (a4.wk (fun a k z => z.wk (by omega))))).tr (f3.wk (fun a k z => z.wk (by omega)))⟩
          refine mv_rc_ap c0 C (mv_rc_cg c0 C (fun x x1 x2 => ?_) k3) (mv_rc_cg q _ (fun x x1 x2 => ?_) a3)
          · rw [f3 _ _ (by unfold lr_Q; omega), a4 _ _ (by unfold lr_Q; omega)]
          · rw [f3 _ _ (by unfold lr_Q; omega)]
        · rw [if_neg q93] at eE ⊢
          have wA : mj_C sl (e + 4) 149 [.ref 45, .int 1, .int (nI j)] M' = some (0, mj_st M' 45 8 (mv_fx (nI 1) (nI j))) := b_X9_wrongAt
          simp only [Option.bind_some, s_10, if_false] at eE
          rw [k2.1, wA, mv_wr] at eE
          exact ⟨_, eE, mq_st_eq, ((f1.wk (fun a k z => z.wk (by omega))).tr (k4.wk (fun a k z => z.wk (by omega)))).st (by unfold lr_Q; omega)⟩
  · have hF : lp_F (lp_sn n tp) k i = lp_atom (lp_sn n tp) i := by
      cases k with
      | zero => unfold lp_F; rw [if_neg q91]
      | succ k' => unfold lp_F; rw [if_neg q91]
    rw [hF]
    exact r_atom hn S hC T q91
theorem r_S_all (hn : n ≤ 240) : ∀ k, k ≤ 6 → lr_TQ lr_qs lr_h2 sl (e + 4) n tp (6 - k) (lp_S (lp_sn n tp) (lp_F (lp_sn n tp) k)) := by
  have up : ∀ k, k ≤ 6 → lr_TF sl (e + 4) n tp (6 - k) (lp_F (lp_sn n tp) k) → lr_TQ lr_qs lr_h2 sl (e + 4) n tp (6 - k) (lp_S (lp_sn n tp) (lp_F (lp_sn n tp) k)) := by
    intro k hk K
    exact r_Sm hn (r_P hn K (lp_ok_F k)) (Pf := lp_sE (2 * k + 1 + 1)) (fun i hi => lp_ok_seq (Pf := lp_sE (2 * k + 1)) (fun s h => (lp_on_b (Or.inl h)).2.2.2.2.1) lp_eb_b (fun s c c2 h p q => lp_sE_bin (lp_on_b (Or.inl h)).1 (by have := (lp_on_b (Or.inl h)).2.1; omega) p q) (fun c p => lp_sE_le (by omega) p) (lp_ok_F k) i hi)
  intro k
  induction k with
  | zero =>
    intro _
    exact up 0 (by omega) (r_F_gen (sl := sl) (e := e) hn (by omega) (fun k' h => by omega))
  | succ k ih =>
    intro hk
    refine up (k + 1) hk (r_F_gen (sl := sl) (e := e) hn (by omega) (fun k' h => ?_))
    have ek : k' = k := by omega
    subst ek
    rw [show 6 - (k' + 1) + 1 = 6 - k' from by omega]
    exact ih (by omega)
theorem rr_sum {k i C : Nat} {W : List (Nat × Nat)} {M : mj_M} (hn : n ≤ 240) (hk : k ≤ 6) (ho : o + k = 6) (S : lr_S M n i o W C) (hW : lr_h2 (lr_hd W)) (hC : C ≤ i) (hWl : W.length ≤ i) (T : mv_Tb M tp) : (match lp_S (lp_sn n tp) (lp_F (lp_sn n tp) k) i with
    | .inl (q, p) => lr_bad (mj_C sl (e + 5) i_X9_readsSum [.ref 45] M) q p M
    | .inr (j, c) => ∃ M', mj_C sl (e + 5) i_X9_readsSum [.ref 45] M = some (1, M') ∧ lr_S M' n j o W (C + c.length) ∧ mv_rc (M' 51) C c ∧ mv_fr (lr_Q C) M M') := by
  have hi := S.2.2.2.2.2.2
  have K0 := r_S_all (sl := sl) (e := e) (tp := tp) hn k hk
  rw [show 6 - k = o from by omega] at K0
  have K := K0 i C W M W.length .null S hW hC hWl (Nat.le_refl _) T
  have EK : mj_C sl (e + 5) i_X9_readsSum [.ref 45] M = lr_KF sl (e + 4) W.length .null M := by
    unfold lr_KF
    rw [b_X9_readsSum, S.2.2.2.2.1]
  have ok := lp_ok_S (n := n) (tp := tp) (lp_ok_F (n := n) (tp := tp) k) i hi
  have st := lp_st_S (n := n) (k := k) (tp := tp) hn i
  rw [EK]
  cases hr : lp_S (lp_sn n tp) (lp_F (lp_sn n tp) k) i with
  | inl x =>
    obtain ⟨qq, p⟩ := x
    rw [hr] at K
    exact K
  | inr y =>
    obtain ⟨j, c⟩ := y
    obtain ⟨st1, st2⟩ := st j c hi hr
    rw [hr] at K ok
    obtain ⟨M', w4, c0, q, rfl, kq, k1, k2, k3, k4⟩ := K
    obtain ⟨m1, m2, m3, m4, m5⟩ := ok
    rw [List.length_append] at m4
    obtain ⟨q1, q2⟩ := lr_qs_b kq
    have T2 := lr_Tb T k4
    have hl : (q ++ W).length = q.length + W.length := List.length_append
    have h0 := r_hos0 (sl := sl) (d := e + 4) k2 (by omega) (fun w hw => by have := q2 w hw; omega)
    have h0' : mj_C sl (e + 4) 159 [.ref 45, .int (nI W.length)] M' = some (0, M') := h0
    have eE := r_E0 (sl := sl) (e := e) (bs := W.length) (w2 := w4) hn k2 T2 st1 st2
    obtain ⟨M2, a1, a2, a3, a4⟩ := r_close (sl := sl) (e := e + 3) (x := 1) (W := W) hn (by omega) ⟨by unfold lr_h2 at hW; omega, Or.inr (by unfold lr_h2 at hW; omega)⟩ q (C + c0.length) M' (by omega) (fun w hw => ⟨(q2 w hw).1, by
      have := q2 w hw
      by_cases y : 4 ≤ w.1
      · exact Or.inl ⟨y, by omega⟩
      · exact Or.inr ⟨by decide, by omega, by omega⟩⟩) k2 (by omega)
    have a1' : mj_C sl (e + 4) 157 [.ref 45, .int 1] M' = some (0, M2) := a1
    rw [h0'] at eE
    simp only [Option.bind_some, if_true] at eE
    rw [h0'] at eE
    simp only [Option.bind_some, if_true] at eE
    rw [a1'] at eE
    simp only [Option.bind_some, if_true] at eE
    dsimp only
    rw [k1, eE]
    refine ⟨M2, ?_, by rw [List.length_append, ← Nat.add_assoc]; exact a2, ?_, k4.tr (a4.wk (fun a k z => z.wk (by omega)))⟩
    · split <;> rfl
    · exact mv_rc_ap c0 C (mv_rc_cg c0 C (fun x x1 x2 => a4 _ _ (by unfold lr_Q; omega)) k3) a3
end LR4
