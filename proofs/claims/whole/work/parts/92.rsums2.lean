section LR3
variable {sl d e n o : Nat} {tp : Nat → Nat}
theorem mv_rc1 {rd : Nat → Int32} {C op v : Nat} (h : rd C = nI (1048576 * op + v)) (h1 : op ≤ 10) (h2 : v < 100000) (h3 : op = 1 → v < 9) : mv_rc rd C [(op, v)] := ⟨⟨by rw [if_neg (show ¬ (op = 11 ∨ op = 12) by omega)]; exact h, by show op ≤ 12; omega, h2, h3, fun z => by have z' : op = 11 ∨ op = 12 := z; omega⟩, trivial⟩
theorem r_atom {i C bs : Nat} {W : List (Nat × Nat)} {M : mj_M} {w2 : Value} (hn : n ≤ 240) (S : lr_S M n i o W C) (hC : C ≤ i) (T : mv_Tb M tp) (h91 : ¬ lp_sn n tp i = 91) : (match lp_atom (lp_sn n tp) i with
    | .inl (q, p) => lr_bad (lr_KF sl (e + 4) bs w2 M) q p M
    | .inr (j, c) => ∃ M' w2', lr_KF sl (e + 4) bs w2 M = lr_E sl (e + 4) bs w2' M' ∧ lr_S M' n j o W (C + c.length) ∧ mv_rc (M' 51) C c ∧ mv_fr (lr_Q C) M M') := by
  have hi := S.2.2.2.2.2.2
  have h8 := (T i (by omega)).1
  have eH := rr_here (sl := sl) (d := e + 3) S hn T
  have n91 : ¬ mv_hr n tp i = 91 := by rw [lp_hrL (by decide) h8]; exact h91
  have eD := rr_isDg (sl := sl) (d := e + 2) S hn T
  have E0 : mj_C sl (e + 4) 158 [.ref 45] M = (mj_C sl (e + 3) 148 [.ref 45] M).bind (fun q3 => if q3.1 = 0 then ((mj_C sl (e + 3) 147 [.ref 45] q3.2).bind (fun q4 => (mj_C sl (e + 3) 155 [.int q4.1] q4.2).bind (fun q5 => if q5.1 = (-1) then ((mj_C sl (e + 3) 149 [.ref 45, .int 1, .int (q5.2 45 6)] q5.2).bind (fun q6 => if q6.1 &&& 1 = q6.1 then some ((q6.1 : Int32), q6.2) else none)) else ((mj_C sl (e + 3) 152 [.ref 45, .int 1, .int q5.1] q5.2).bind (fun q7 => some ((1 : Int32), mj_st q7.2 45 6 ((q7.2 45 6) + 1))))))) else ((mj_C sl (e + 3) 151 [.ref 45] q3.2).bind (fun q8 => if q8.1 = 0 then (some ((0 : Int32), q8.2)) else ((mj_C sl (e + 3) 152 [.ref 45, .int 0, .int (q8.2 45 9)] q8.2).bind (fun q9 => some ((1 : Int32), q9.2)))))) := by
    rw [e_readsFactor, b_X9_readsFactor_0, eH]
    simp only [Option.bind_some]
    rw [if_neg n91]
  unfold lp_atom lr_KF
  rw [E0]
  by_cases qd : lp_dg (lp_sn n tp i) = true
  · rw [if_pos qd] at eD ⊢
    have eD' : mj_C sl (e + 3) 148 [.ref 45] M = some (1, M) := eD
    rw [eD']
    simp only [Option.bind_some, s_10, if_false]
    have f0 : mv_fr (lr_Q C) M (mj_st M 45 9 0) := mv_fr.rf.st (by unfold lr_Q; omega)
    have S0 : lr_S (mj_st M 45 9 0) n i o W C := by
      obtain ⟨s1, s2, s3, s4, s5, s6, s7⟩ := S
      exact ⟨by rw [mq_st_ne (by omega)]; exact s1, by rw [mq_st_ne (by omega)]; exact s2, by rw [mq_st_ne (by omega)]; exact s3, by rw [mq_st_ne (by omega)]; exact s4, by rw [mq_st_ne (by omega)]; exact s5, lr_k_cg W (fun j hj => mq_st_ne (by omega)) s6, s7⟩
    have N := rr_number (sl := sl) (d := e) (tp := tp) (from0 := i) (M0 := M) hn 5 i 0 (mj_st M 45 9 0) (by omega) rfl S0 (lr_Tb T f0) mq_st_eq (by decide) f0
    have ok := lp_ok_nm (n := n) (tp := tp) 5 i i 0 (Nat.le_refl _) hi (fun w => by omega) (by decide) (Nat.le_refl _) (fun _ => qd)
    rw [b_X9_readsNumber, S.1]
    cases hr : lp_nm (lp_sn n tp) 5 i 0 with
    | inl x =>
      obtain ⟨q, p⟩ := x
      rw [hr] at N
      obtain ⟨M', a1, a2, a3⟩ := N
      have a1' : mj_E sl (e + 2 + 1) 151 10 [.ref 45, .int (nI i)] [] (mj_st M 45 9 0) = some (0, M') := a1
      refine ⟨M', ?_, a2, a3⟩
      rw [a1']
      rfl
    | inr y =>
      obtain ⟨j, c⟩ := y
      rw [hr] at N ok
      obtain ⟨M', v', rfl, v9, a1, a2, a3, a4⟩ := N
      obtain ⟨k1, k2, k3, k4, k5⟩ := ok
      have a1' : mj_E sl (e + 2 + 1) 151 10 [.ref 45, .int (nI i)] [] (mj_st M 45 9 0) = some (1, M') := a1
      have en := rr_notes (sl := sl) (d := e + 3) (op := 0) (v := v') a2 (by omega)
      have en' : mj_C sl (e + 3) 152 [.ref 45, .int 0, .int (nI v')] M' = some (0, mj_st (mj_st M' 51 C (nI (1048576 * 0 + v'))) 45 11 (nI (C + 1))) := en
      refine ⟨_, w2, ?_, lr_note (op := 0) (v := v') a2, mv_rc1 lr_noteC (by omega) (by omega) (fun z => by omega), a4.tr lr_noteQ⟩
      rw [a1']
      simp only [Option.bind_some, s_10, if_false]
      rw [a3, en']
      simp only [Option.bind_some, s_10, if_false]
  · rw [if_neg qd] at eD ⊢
    have eD' : mj_C sl (e + 3) 148 [.ref 45] M = some (0, M) := eD
    have eF := rr_factOf (sl := sl) (d := e + 3) (n := n) (M := M) h8
    rw [eD']
    simp only [Option.bind_some, if_true]
    rw [eH]
    simp only [Option.bind_some]
    rw [eF]
    simp only [Option.bind_some]
    by_cases qn : lp_nam (lp_sn n tp i) < 9
    · rw [if_pos qn, if_pos qn]
      have hlt : i < n := by
        refine lp_sn_lt (tp := tp) ?_
        by_cases w : lp_sn n tp i < 999
        · exact w
        · unfold lp_nam at qn
          rw [if_neg (by omega), if_neg (by omega), if_neg (by omega), if_neg (by omega), if_neg (by omega), if_neg (by omega), if_neg (by omega), if_neg (by omega), if_neg (by omega)] at qn
          omega
      have en := rr_notes (sl := sl) (d := e + 3) (op := 1) (v := lp_nam (lp_sn n tp i)) S (by omega)
      have en' : mj_C sl (e + 3) 152 [.ref 45, .int 1, .int (nI (lp_nam (lp_sn n tp i)))] M = some (0, mj_st (mj_st M 51 C (nI (1048576 * 1 + lp_nam (lp_sn n tp i)))) 45 11 (nI (C + 1))) := en
      have S1 := lr_note (op := 1) (v := lp_nam (lp_sn n tp i)) S
      refine ⟨_, w2, ?_, lr_at S1 (show i + 1 ≤ n by omega), mv_rc1 (by rw [mq_st_ne (by omega)]; exact lr_noteC) (by omega) (by omega) (fun _ => qn), lr_noteQ.st (by unfold lr_Q; omega)⟩
      rw [if_neg (mq_neg1 (by omega)), en']
      simp only [Option.bind_some, s_10, if_false]
      rw [S1.1, s_addL]
    · rw [if_neg qn, if_neg qn, if_pos rfl]
      have wA : mj_C sl (e + 3) 149 [.ref 45, .int 1, .int (nI i)] M = some (0, mj_st M 45 8 (mv_fx (nI 1) (nI i))) := b_X9_wrongAt
      refine ⟨mj_st M 45 8 (mv_fx (nI 1) (nI i)), ?_, mq_st_eq, mv_fr.rf.st (by unfold lr_Q; omega)⟩
      rw [S.1, wA, mv_wr]
      rfl
theorem r_P {f : Nat → lp_PR} {Pf : List (Nat × Nat) → Prop} (hn : n ≤ 240) (TF : lr_TF sl (e + 4) n tp o f) (ok : ∀ i, i ≤ n → lp_ok n i Pf (f i)) : lr_TQ lr_qm lr_h4 sl (e + 4) n tp o (lp_P (lp_sn n tp) f) := by
  have L : ∀ F i c0 q C W M0 M bs w2, 240 ≤ i + F → lr_qm q → lr_S M n i o (q ++ W) (C + c0.length) → lr_h4 (lr_hd W) → mv_rc (M 51) C c0 → C + c0.length + q.length ≤ i → q.length + W.length ≤ i → bs ≤ W.length → mv_Tb M tp → mv_fr (lr_Q C) M0 M → (match lp_chn lp_om lp_eb f (lp_sn n tp) F i (c0 ++ q) with
      | .inl (qq, p) => lr_bad (lr_E sl (e + 4) bs w2 M) qq p M0
      | .inr (j, c') => ∃ M' w2' c0' q', c' = c0' ++ q' ∧ lr_qm q' ∧ lr_E sl (e + 4) bs w2 M = lr_E sl (e + 4) bs w2' M' ∧ lr_S M' n j o (q' ++ W) (C + c0'.length) ∧ mv_rc (M' 51) C c0' ∧ mv_fr (lr_Q C) M0 M') := by
    intro F
    induction F with
    | zero =>
      intro i c0 q C W M0 M bs w2 hF hq S hW rc b1 b2 b3 T f0
      exact ⟨M, w2, c0, q, rfl, hq, rfl, S, rc, f0⟩
    | succ F ih =>
      intro i c0 q C W M0 M bs w2 hF hq S hW rc b1 b2 b3 T f0
      have hi := S.2.2.2.2.2.2
      unfold lp_chn
      by_cases z : lp_om (lp_sn n tp i) = true
      · obtain ⟨o1, o2, o3, o4, o5, o6⟩ := lp_on_b (Or.inl z)
        have o4' := o4 z
        have hlt : i < n := lp_sn_lt (tp := tp) o5
        obtain ⟨q1, q2⟩ := lr_qm_b hq
        rw [if_pos z]
        have eH := rr_here (sl := sl) (d := e + 4) S hn T
        have eS := rr_sumSign (sl := sl) (d := e + 4) (n := n) (tp := tp) (M := M) (T i (by omega)).1
        rw [if_pos (Or.inl z)] at eS
        obtain ⟨M1, a1, a2, a3, a4⟩ := r_close (sl := sl) (e := e + 3) (x := 0) (W := W) hn (by omega) ⟨hW, Or.inl rfl⟩ q (C + c0.length) M (by omega) (fun w hw => ⟨(q2 w hw).1, Or.inl (q2 w hw).2⟩) S (by omega)
        have a1' : mj_C sl (e + 4) 157 [.ref 45, .int 0] M = some (0, M1) := a1
        have S2 := lr_at (j := i + 1) (lr_push (op := lp_on (lp_sn n tp i)) (v := 0) a2 (by omega) (by omega)) (by omega)
        obtain ⟨M2, hM2⟩ : ∃ M2, M2 = mj_st (mj_st (mj_st M1 52 W.length (nI (1048576 * lp_on (lp_sn n tp i) + 0))) 45 12 (nI (W.length + 1))) 45 6 (nI (i + 1)) := ⟨_, rfl⟩
        rw [← hM2] at S2
        have f2 : mv_fr (lr_Q (C + c0.length + q.length)) M1 M2 := by
          rw [hM2]; exact ((mv_fr.rf.st (by unfold lr_Q; omega)).st (by unfold lr_Q; omega)).st (by unfold lr_Q; omega)
        have T1 := lr_Tb T a4
        have T2 := lr_Tb T1 f2
        have EE : ∃ w3, lr_E sl (e + 4) bs w2 M = lr_KF sl (e + 4) bs w3 M2 := by
          refine ⟨.int (nI (lp_on (lp_sn n tp i))), ?_⟩
          have inW : mj_inB (nI W.length) 260 = true := mq_inT (by omega) (by decide)
          have clW : (nI W.length).toNatClampNeg = W.length := nI_clamp (by omega)
          unfold lr_KF lr_E
          rw [b_X9_readsSum_14, eH]
          simp only [Option.bind_some]
          rw [eS]
          simp only [Option.bind_some]
          rw [if_neg (mq_neg1 (by omega)), if_neg (by rw [s_ltL (by omega) (by decide)]; omega), a1']
          simp only [Option.bind_some]
          rw [a2.2.2.2.2.1, if_pos inW, clW]
          simp (disch := omega) only [mq_st_ne, a2.2.2.2.2.1, a2.1, s_addL, s_Lmul]
          rw [hM2]
          rfl
        obtain ⟨w3, EE⟩ := EE
        have ok1 := ok (i + 1) (by omega)
        have hlc : C + (c0 ++ q).length = C + c0.length + q.length := by rw [List.length_append]; omega
        have rcq : mv_rc (M1 51) C (c0 ++ q) := mv_rc_ap c0 C (mv_rc_cg c0 C (fun x x1 x2 => a4 _ _ (by unfold lr_Q; omega)) rc) a3
        have K := TF (i + 1) (C + c0.length + q.length) ((lp_on (lp_sn n tp i), 0) :: W) M2 bs w3 S2 (by omega) (by show W.length + 1 ≤ i + 1; omega) (by show bs ≤ W.length + 1; omega) T2
        have f02 : mv_fr (lr_Q C) M0 M2 := (f0.tr (a4.wk (fun a k z => z.wk (by omega)))).tr (f2.wk (fun a k z => z.wk (by omega)))
        rw [EE]
        cases hr : f (i + 1) with
        | inl x =>
          obtain ⟨qq, p⟩ := x
          rw [hr] at K
          obtain ⟨M', k1, k2, k3⟩ := K
          exact ⟨M', k1, k2, (f02.wk (fun a k z => z.wk (by omega))).tr k3⟩
        | inr y =>
          obtain ⟨j, c2⟩ := y
          rw [hr] at K ok1
          obtain ⟨M', w4, k1, k2, k3, k4⟩ := K
          obtain ⟨m1, m2, m3, m4, m5⟩ := ok1
          rw [k1]
          have hcc : (c0 ++ q) ++ lp_eb (lp_sn n tp i) c2 = ((c0 ++ q) ++ c2) ++ [(lp_on (lp_sn n tp i), 0)] := by
            unfold lp_eb
            simp only [List.append_assoc]
          have hl3 : C + ((c0 ++ q) ++ c2).length = C + c0.length + q.length + c2.length := by rw [List.length_append, List.length_append]; omega
          dsimp only
          rw [hcc]
          refine ih j ((c0 ++ q) ++ c2) [(lp_on (lp_sn n tp i), 0)] C W M0 M' bs w4 (by omega) (Or.inr ⟨_, o4', o2, rfl⟩) (by rw [hl3]; exact k2) hW ?_ (by rw [hl3]; show C + c0.length + q.length + c2.length + 1 ≤ j; omega) (by show 1 + W.length ≤ j; omega) b3 (lr_Tb T2 k4) (f02.tr (k4.wk (fun a k z => z.wk (by omega))))
          refine mv_rc_ap (c0 ++ q) C (mv_rc_cg (c0 ++ q) C (fun x x1 x2 => ?_) rcq) (by rw [hlc]; exact k3)
          rw [hlc] at x2
          rw [k4 _ _ (by unfold lr_Q; omega), f2 _ _ (by unfold lr_Q; omega)]
      · rw [if_neg z]
        exact ⟨M, w2, c0, q, rfl, hq, rfl, S, rc, f0⟩
  intro i C W M bs w2 S hW hC hWl hb T
  have hi := S.2.2.2.2.2.2
  have K := TF i C W M bs w2 S hC hWl hb T
  have ok1 := ok i hi
  unfold lp_P lp_seq
  cases hr : f i with
  | inl x =>
    obtain ⟨qq, p⟩ := x
    rw [hr] at K
    exact K
  | inr y =>
    obtain ⟨j, c⟩ := y
    rw [hr] at K ok1
    obtain ⟨M', w4, k1, k2, k3, k4⟩ := K
    obtain ⟨m1, m2, m3, m4, m5⟩ := ok1
    have R := L 240 j c [] C W M M' bs w4 (by omega) (Or.inl rfl) k2 hW k3 (by show C + c.length + 0 ≤ j; omega) (by show 0 + W.length ≤ j; omega) hb (lr_Tb T k4) k4
    rw [List.append_nil] at R
    rw [k1]
    exact R
theorem r_Sm {f : Nat → lp_PR} {Pf : List (Nat × Nat) → Prop} (hn : n ≤ 240) (TF : lr_TQ lr_qm lr_h4 sl (e + 4) n tp o f) (ok : ∀ i, i ≤ n → lp_ok n i Pf (f i)) : lr_TQ lr_qs lr_h2 sl (e + 4) n tp o (lp_seq lp_oa lp_eb f (lp_sn n tp)) := by
  have L : ∀ F i c0 q C W M0 M bs w2, 240 ≤ i + F → lr_qs q → lr_S M n i o (q ++ W) (C + c0.length) → lr_h2 (lr_hd W) → mv_rc (M 51) C c0 → C + c0.length + q.length ≤ i → q.length + W.length ≤ i → bs ≤ W.length → mv_Tb M tp → mv_fr (lr_Q C) M0 M → (match lp_chn lp_oa lp_eb f (lp_sn n tp) F i (c0 ++ q) with
      | .inl (qq, p) => lr_bad (lr_E sl (e + 4) bs w2 M) qq p M0
      | .inr (j, c') => ∃ M' w2' c0' q', c' = c0' ++ q' ∧ lr_qs q' ∧ lr_E sl (e + 4) bs w2 M = lr_E sl (e + 4) bs w2' M' ∧ lr_S M' n j o (q' ++ W) (C + c0'.length) ∧ mv_rc (M' 51) C c0' ∧ mv_fr (lr_Q C) M0 M') := by
    intro F
    induction F with
    | zero =>
      intro i c0 q C W M0 M bs w2 hF hq S hW rc b1 b2 b3 T f0
      exact ⟨M, w2, c0, q, rfl, hq, rfl, S, rc, f0⟩
    | succ F ih =>
      intro i c0 q C W M0 M bs w2 hF hq S hW rc b1 b2 b3 T f0
      have hi := S.2.2.2.2.2.2
      unfold lp_chn
      by_cases z : lp_oa (lp_sn n tp i) = true
      · obtain ⟨o1, o2, o3, o4, o5, o6⟩ := lp_on_b (Or.inr z)
        have o3' := o3 z
        have hlt : i < n := lp_sn_lt (tp := tp) o5
        obtain ⟨q1, q2⟩ := lr_qs_b hq
        rw [if_pos z]
        have eH := rr_here (sl := sl) (d := e + 4) S hn T
        have eS := rr_sumSign (sl := sl) (d := e + 4) (n := n) (tp := tp) (M := M) (T i (by omega)).1
        rw [if_pos (Or.inr z)] at eS
        obtain ⟨M1, a1, a2, a3, a4⟩ := r_close (sl := sl) (e := e + 3) (x := 1) (W := W) hn (by omega) ⟨by unfold lr_h2 at hW; omega, Or.inr (by unfold lr_h2 at hW; omega)⟩ q (C + c0.length) M (by omega) (fun w hw => ⟨(q2 w hw).1, by
          have := q2 w hw
          by_cases y : 4 ≤ w.1
          · exact Or.inl ⟨y, by omega⟩
          · exact Or.inr ⟨by decide, by omega, by omega⟩⟩) S (by omega)
        have a1' : mj_C sl (e + 4) 157 [.ref 45, .int 1] M = some (0, M1) := a1
        have S2 := lr_at (j := i + 1) (lr_push (op := lp_on (lp_sn n tp i)) (v := 0) a2 (by omega) (by omega)) (by omega)
        obtain ⟨M2, hM2⟩ : ∃ M2, M2 = mj_st (mj_st (mj_st M1 52 W.length (nI (1048576 * lp_on (lp_sn n tp i) + 0))) 45 12 (nI (W.length + 1))) 45 6 (nI (i + 1)) := ⟨_, rfl⟩
        rw [← hM2] at S2
        have f2 : mv_fr (lr_Q (C + c0.length + q.length)) M1 M2 := by
          rw [hM2]; exact ((mv_fr.rf.st (by unfold lr_Q; omega)).st (by unfold lr_Q; omega)).st (by unfold lr_Q; omega)
        have T1 := lr_Tb T a4
        have T2 := lr_Tb T1 f2
        have EE : ∃ w3, lr_E sl (e + 4) bs w2 M = lr_KF sl (e + 4) bs w3 M2 := by
          refine ⟨.int (nI (lp_on (lp_sn n tp i))), ?_⟩
          have inW : mj_inB (nI W.length) 260 = true := mq_inT (by omega) (by decide)
          have clW : (nI W.length).toNatClampNeg = W.length := nI_clamp (by omega)
          unfold lr_KF lr_E
          rw [b_X9_readsSum_14, eH]
          simp only [Option.bind_some]
          rw [eS]
          simp only [Option.bind_some]
          rw [if_neg (mq_neg1 (by omega)), if_pos (by rw [s_ltL (by omega) (by decide)]; omega), a1']
          simp only [Option.bind_some]
          rw [a2.2.2.2.2.1, if_pos inW, clW]
          simp (disch := omega) only [mq_st_ne, a2.2.2.2.2.1, a2.1, s_addL, s_Lmul]
          rw [hM2]
          rfl
        obtain ⟨w3, EE⟩ := EE
        have ok1 := ok (i + 1) (by omega)
        have hlc : C + (c0 ++ q).length = C + c0.length + q.length := by rw [List.length_append]; omega
        have rcq : mv_rc (M1 51) C (c0 ++ q) := mv_rc_ap c0 C (mv_rc_cg c0 C (fun x x1 x2 => a4 _ _ (by unfold lr_Q; omega)) rc) a3
        have K := TF (i + 1) (C + c0.length + q.length) ((lp_on (lp_sn n tp i), 0) :: W) M2 bs w3 S2 (by show lr_h4 (lp_on (lp_sn n tp i)); unfold lr_h4; omega) (by omega) (by show W.length + 1 ≤ i + 1; omega) (by show bs ≤ W.length + 1; omega) T2
        have f02 : mv_fr (lr_Q C) M0 M2 := (f0.tr (a4.wk (fun a k z => z.wk (by omega)))).tr (f2.wk (fun a k z => z.wk (by omega)))
        rw [EE]
        cases hr : f (i + 1) with
        | inl x =>
          obtain ⟨qq, p⟩ := x
          rw [hr] at K
          obtain ⟨M', k1, k2, k3⟩ := K
          exact ⟨M', k1, k2, (f02.wk (fun a k z => z.wk (by omega))).tr k3⟩
        | inr y =>
          obtain ⟨j, c2⟩ := y
          rw [hr] at K ok1
          obtain ⟨M', w4, c20, qm, k0, kq, k1, k2, k3, k4⟩ := K
          obtain ⟨m1, m2, m3, m4, m5⟩ := ok1
          rw [k1]
          rw [k0, List.length_append] at m4
          have hcc : (c0 ++ q) ++ lp_eb (lp_sn n tp i) c2 = ((c0 ++ q) ++ c20) ++ (qm ++ [(lp_on (lp_sn n tp i), 0)]) := by
            unfold lp_eb
            simp only [k0, List.append_assoc]
          have hl3 : C + ((c0 ++ q) ++ c20).length = C + c0.length + q.length + c20.length := by rw [List.length_append, List.length_append]; omega
          have hq1 := (lr_qm_b kq).1
          have hl4 : (qm ++ [(lp_on (lp_sn n tp i), 0)]).length = qm.length + 1 := by rw [List.length_append]; rfl
          dsimp only
          rw [hcc]
          refine ih j ((c0 ++ q) ++ c20) (qm ++ [(lp_on (lp_sn n tp i), 0)]) C W M0 M' bs w4 (by omega) ⟨qm, [(lp_on (lp_sn n tp i), 0)], kq, Or.inr ⟨_, o1, o3', rfl⟩, rfl⟩ (by rw [hl3, List.append_assoc]; exact k2) hW ?_ (by rw [hl3, hl4]; omega) (by rw [hl4]; omega) b3 (lr_Tb T2 k4) (f02.tr (k4.wk (fun a k z => z.wk (by omega))))
          refine mv_rc_ap (c0 ++ q) C (mv_rc_cg (c0 ++ q) C (fun x x1 x2 => ?_) rcq) (by rw [hlc]; exact k3)
          rw [hlc] at x2
          rw [k4 _ _ (by unfold lr_Q; omega), f2 _ _ (by unfold lr_Q; omega)]
      · rw [if_neg z]
        exact ⟨M, w2, c0, q, rfl, hq, rfl, S, rc, f0⟩
  intro i C W M bs w2 S hW hC hWl hb T
  have hi := S.2.2.2.2.2.2
  have K := TF i C W M bs w2 S (by unfold lr_h2 at hW; unfold lr_h4; omega) hC hWl hb T
  have ok1 := ok i hi
  unfold lp_seq
  cases hr : f i with
  | inl x =>
    obtain ⟨qq, p⟩ := x
    rw [hr] at K
    exact K
  | inr y =>
    obtain ⟨j, c⟩ := y
    rw [hr] at K ok1
    obtain ⟨M', w4, c0, qm, rfl, kq, k1, k2, k3, k4⟩ := K
    obtain ⟨m1, m2, m3, m4, m5⟩ := ok1
    rw [List.length_append] at m4
    have hq1 := (lr_qm_b kq).1
    have R := L 240 j c0 qm C W M M' bs w4 (by omega) ⟨qm, [], kq, Or.inl rfl, (List.append_nil _).symm⟩ k2 hW k3 (by omega) (by omega) hb (lr_Tb T k4) k4
    dsimp only
    rw [k1]
    exact R
end LR3
