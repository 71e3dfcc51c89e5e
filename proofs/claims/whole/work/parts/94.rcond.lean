set_option maxRecDepth 10000 in
theorem b_X9_lands_w {sl d : Nat} {M : mj_M} {x1 : Int32} {w2 : Value} : mj_E sl (d + 1) 162 0 [.ref 45, .int x1, w2] [] M = (mj_C sl d 154 [.ref 45] M).bind (fun q1 => if q1.1 = 11 then (mj_E sl (d + 1) 162 22 [.ref 45, .int x1, w2] [] q1.2) else (if x1 = 0 then (some ((0 : Int32), q1.2)) else ((mj_C sl d 154 [.ref 45] q1.2).bind (fun q2 => if q2.1 = 12 then (mj_E sl (d + 1) 162 22 [.ref 45, .int x1, w2] [] q2.2) else (some ((0 : Int32), q2.2)))))) := by
  refine (sx_aload_n dx_162_0 rfl).trans ?_
  refine (sx_v0i dx_162_1 ow_162 cx_7_164 oc_45 (Nat.le_of_ble_eq_true rfl)).trans ?_
  refine mj_bnd (fun q1 => ?_)
  refine (sx_bipush (v := 11) dx_162_4 rfl).trans ?_
  refine (sx_icmp_eq (tgt := 22) dx_162_6 (by decide)).trans ?_
  refine mj_ite ?_ ?_
  · rfl
  · refine (sx_iload_n dx_162_9 rfl).trans ?_
    refine (sx_if_eq (tgt := 73) dx_162_10 (by decide)).trans ?_
    refine mj_ite ?_ ?_
    · exact sx_retv dx_162_73 rt_162
    · refine (sx_aload_n dx_162_13 rfl).trans ?_
      refine (sx_v0i dx_162_14 ow_162 cx_7_164 oc_45 (Nat.le_of_ble_eq_true rfl)).trans ?_
      refine mj_bnd (fun q2 => ?_)
      refine (sx_bipush (v := 12) dx_162_17 rfl).trans ?_
      refine (sx_icmp_ne (tgt := 73) dx_162_19 (by decide)).trans ?_
      refine mj_ite ?_ ?_
      · rfl
      · exact sx_retv dx_162_73 rt_162
section LR5
variable {sl d e n i o : Nat} {tp : Nat → Nat}
theorem r_ends {W : List (Nat × Nat)} (hn : n ≤ 240) (hW : ¬ lr_hd W = 10) (hWl : W.length ≤ 240) : ∀ m C M o, lr_S M n i o (List.replicate m (10, 0) ++ W) C → m ≤ o → o ≤ 6 → C + m ≤ 250 → ∃ M', mj_E sl (e + 1) i_X9_endsPiece 0 [.ref 45] [] M = some (0, M') ∧ lr_S M' n i (o - m) W (C + m) ∧ mv_rc (M' 51) C (List.replicate m (10, 0)) ∧ mv_fr (lr_Q C) M M' := by
  intro m
  induction m with
  | zero =>
    intro C M o S hm ho hC
    have S' : lr_S M n i o W C := S
    have ew := rr_wait (sl := sl) (d := e) S' (by omega)
    refine ⟨M, ?_, S', trivial, mv_fr.rf⟩
    have hy : ¬ lr_wt W = 10 := by
      cases W with
      | nil => decide
      | cons w t =>
        have k2 : w.1 ≤ 14 := S'.2.2.2.2.2.1.2.1
        have hW' : ¬ w.1 = 10 := hW
        show ¬ nI w.1 = 10
        rw [s_eqL (by omega) (by decide)]
        exact hW'
    rw [b_X9_endsPiece_0, ew]
    simp only [Option.bind_some]
    rw [if_neg hy]
  | succ m ih =>
    intro C M o S hm ho hC
    have S' : lr_S M n i o ((10, 0) :: (List.replicate m (10, 0) ++ W)) C := S
    have hlen : ((10, 0) :: (List.replicate m ((10, 0) : Nat × Nat) ++ W)).length = m + W.length + 1 := by rw [List.length_cons, List.length_append, List.length_replicate]
    have ew := rr_wait (sl := sl) (d := e) S' (by omega)
    have ew : mj_C sl e 154 [.ref 45] M = some (nI 10, M) := ew
    have en := rr_notes (sl := sl) (d := e) (op := 10) (v := 0) S' (by omega)
    have en' : mj_C sl e 152 [.ref 45, .int 10, .int 0] M = some (0, mj_st (mj_st M 51 C (nI (1048576 * 10 + 0))) 45 11 (nI (C + 1))) := en
    have S1 := lr_note (op := 10) (v := 0) S'
    obtain ⟨M1, hM1⟩ : ∃ M1, M1 = mj_st (mj_st M 51 C (nI (1048576 * 10 + 0))) 45 11 (nI (C + 1)) := ⟨_, rfl⟩
    have f1 : mv_fr (lr_Q C) M M1 := by rw [hM1]; exact lr_noteQ
    have c1 : M1 51 C = nI (1048576 * 10 + 0) := by rw [hM1]; exact lr_noteC
    rw [← hM1] at S1 en'
    have S2 := lr_open (o2 := o - 1) (lr_pop S1)
    obtain ⟨M2, hM2⟩ : ∃ M2, M2 = mj_st (mj_st M1 45 12 (nI (List.replicate m ((10, 0) : Nat × Nat) ++ W).length)) 45 10 (nI (o - 1)) := ⟨_, rfl⟩
    rw [← hM2] at S2
    have e12 : M1 45 12 - 1 = nI (List.replicate m ((10, 0) : Nat × Nat) ++ W).length := by
      rw [S1.2.2.2.2.1, List.length_cons]
      exact (show nI ((List.replicate m ((10, 0) : Nat × Nat) ++ W).length + 1) - nI 1 = _ by rw [pk_sub (by omega), Nat.add_sub_cancel])
    have e10 : (mj_st M1 45 12 (nI (List.replicate m ((10, 0) : Nat × Nat) ++ W).length)) 45 10 - 1 = nI (o - 1) := by
      rw [mq_st_ne (by omega), S1.2.2.1]
      exact (show nI o - nI 1 = nI (o - 1) from pk_sub (by omega))
    have f2 : mv_fr (lr_Q (C + 1)) M1 M2 := by
      rw [hM2]; exact (mv_fr.rf.st (by unfold lr_Q; omega)).st (by unfold lr_Q; omega)
    obtain ⟨M', a1, a2, a3, a4⟩ := ih (C + 1) M2 (o - 1) S2 (by omega) (by omega) (by omega)
    refine ⟨M', ?_, by rw [show o - (m + 1) = o - 1 - m from by omega, show C + (m + 1) = C + 1 + m from by omega]; exact a2, ?_, (f1.tr (f2.wk (fun a k z => z.wk (by omega)))).tr (a4.wk (fun a k z => z.wk (by omega)))⟩
    · rw [b_X9_endsPiece_0, ew]
      simp only [Option.bind_some]
      rw [if_pos (show nI 10 = 10 from rfl), en']
      simp only [Option.bind_some]
      rw [e12, e10, ← hM2]
      exact a1
    · show mv_rc (M' 51) C ((10, 0) :: List.replicate m (10, 0))
      refine ⟨⟨?_, by show (10 : Nat) ≤ 12; omega, by show (0 : Nat) < 100000; omega, fun z => by have z' : (10 : Nat) = 1 := z; omega, fun z => by have z' : (10 : Nat) = 11 ∨ (10 : Nat) = 12 := z; omega⟩, a3⟩
      rw [a4 _ _ (by unfold lr_Q; omega), f2 _ _ (by unfold lr_Q; omega), c1]
      rfl
theorem r_land0 {W : List (Nat × Nat)} {C : Nat} {M : mj_M} {x : Int32} {w : Value} (S : lr_S M n i o W C) (hWl : W.length ≤ 240) (h : ¬ lr_hd W = 11 ∧ (x = 0 ∨ ¬ lr_hd W = 12)) : mj_E sl (e + 1) i_X9_lands 0 [.ref 45, .int x, w] [] M = some (0, M) := by
  have ew := rr_wait (sl := sl) (d := e) S (by omega)
  obtain ⟨h1, h2⟩ := h
  have hy : ¬ lr_wt W = 11 ∧ (x = 0 ∨ ¬ lr_wt W = 12) := by
    cases W with
    | nil => exact ⟨by decide, Or.inr (by decide)⟩
    | cons v t =>
      have k2 : v.1 ≤ 14 := S.2.2.2.2.2.1.2.1
      have h1' : ¬ v.1 = 11 := h1
      have h2' : x = 0 ∨ ¬ v.1 = 12 := h2
      refine ⟨?_, ?_⟩
      · show ¬ nI v.1 = 11
        rw [s_eqL (by omega) (by decide)]
        exact h1'
      · rcases h2' with z | z
        · exact Or.inl z
        · refine Or.inr ?_
          show ¬ nI v.1 = 12
          rw [s_eqL (by omega) (by decide)]
          exact z
  rw [b_X9_lands_w, ew]
  simp only [Option.bind_some]
  rw [if_neg hy.1]
  by_cases x0 : x = 0
  · rw [if_pos x0]
  · rw [if_neg x0, ew]
    simp only [Option.bind_some]
    rcases hy.2 with z | z
    · exact absurd z x0
    · rw [if_neg z]
theorem r_land1 {W : List (Nat × Nat)} {C op p : Nat} {M : mj_M} {x : Int32} {w : Value} (S : lr_S M n i o ((op, p) :: W) C) (hWl : W.length ≤ 240) (hC : C < 100000) (hp : M 51 p = nI (1048576 * op + 0)) (h : op = 11 ∨ (op = 12 ∧ ¬ x = 0)) : ∃ w', mj_E sl (e + 1) i_X9_lands 0 [.ref 45, .int x, w] [] M = mj_E sl (e + 1) i_X9_lands 0 [.ref 45, .int x, w'] [] (mj_st (mj_st M 51 p (nI (1048576 * op + C))) 45 12 (nI W.length)) ∧ lr_S (mj_st (mj_st M 51 p (nI (1048576 * op + C))) 45 12 (nI W.length)) n i o W C := by
  have ew := rr_wait (sl := sl) (d := e) S (by show W.length + 1 ≤ 250; omega)
  have ew : mj_C sl e 154 [.ref 45] M = some (nI op, M) := ew
  obtain ⟨s1, s2, s3, s4, s5, s6, s7⟩ := S
  obtain ⟨k1, k2, k3, k4⟩ := s6
  have k1 : M 52 W.length = nI (1048576 * op + p) := k1
  have k3 : p < 260 := k3
  have s5 : M 45 12 = nI (W.length + 1) := s5
  have e12 : M 45 12 - 1 = nI W.length := by
    rw [s5]
    exact (show nI (W.length + 1) - nI 1 = nI W.length by rw [pk_sub (by omega), Nat.add_sub_cancel])
  have erm : mj_rm (M 52 W.length) 1048576 = nI p := by rw [k1]; exact mv_u2 (by omega) (by omega)
  have inW : mj_inB (nI W.length) 260 = true := mq_inT (by omega) (by decide)
  have clW : (nI W.length).toNatClampNeg = W.length := nI_clamp (by omega)
  have inP : mj_inB (nI p) 260 = true := mq_inT (by omega) (by decide)
  have clP : (nI p).toNatClampNeg = p := nI_clamp (by omega)
  have ed : M 51 p / 1048576 = nI op := by rw [hp]; exact mv_u1 (by omega) (by omega)
  have e22 : ∃ w', mj_E sl (e + 1) 162 22 [.ref 45, .int x, w] [] M = mj_E sl (e + 1) 162 0 [.ref 45, .int x, w'] [] (mj_st (mj_st M 51 p (nI (1048576 * op + C))) 45 12 (nI W.length)) := by
    refine ⟨.int (nI p), ?_⟩
    rw [b_X9_lands_22, e12, if_pos inW, clW, erm, if_pos inP, if_pos inP, clP, ed, s4, s_Lmul, nI_add, mq_st_ne (by omega), e12]
  obtain ⟨w', e22⟩ := e22
  have f : mv_fr (fun a k => a = 51 ∨ (a = 45 ∧ k = 12)) M (mj_st (mj_st M 51 p (nI (1048576 * op + C))) 45 12 (nI W.length)) := (mv_fr.rf.st (Or.inl rfl)).st (Or.inr ⟨rfl, rfl⟩)
  refine ⟨w', ?_, ?_, ?_, ?_, ?_, mq_st_eq, lr_k_cg W (fun j hj => f _ _ (by omega)) k4, s7⟩
  · rw [b_X9_lands_w, ew]
    simp only [Option.bind_some]
    rcases h with h | ⟨h, hx⟩
    · rw [if_pos (by rw [h]; rfl), e22]
    · rw [if_neg (by rw [h]; decide), if_neg hx, ew]
      simp only [Option.bind_some]
      rw [if_pos (by rw [h]; rfl), e22]
  · rw [f _ _ (by omega)]; exact s1
  · rw [f _ _ (by omega)]; exact s2
  · rw [f _ _ (by omega)]; exact s3
  · rw [f _ _ (by omega)]; exact s4
def lr_PA (rd : Nat → Int32) (C : Nat) (c q : List (Nat × Nat)) : Prop := (q = [] ∧ mv_rc rd C c) ∨ ∃ c0 c2, c = c0 ++ (11, c2.length) :: c2 ∧ q = [(11, C + c0.length)] ∧ mv_rc rd C c0 ∧ rd (C + c0.length) = nI (1048576 * 11 + 0) ∧ mv_rc rd (C + c0.length + 1) c2
def lr_PC (rd : Nat → Int32) (C : Nat) (c q : List (Nat × Nat)) : Prop := lr_PA rd C c q ∨ ∃ d0 d2 qa, c = d0 ++ (12, d2.length) :: d2 ∧ q = qa ++ [(12, C + d0.length)] ∧ mv_rc rd C d0 ∧ rd (C + d0.length) = nI (1048576 * 12 + 0) ∧ lr_PA rd (C + d0.length + 1) d2 qa
theorem lr_PA_l {rd : Nat → Int32} {C : Nat} {c q : List (Nat × Nat)} (h : lr_PA rd C c q) : q.length ≤ 1 := by
  rcases h with ⟨rfl, -⟩ | ⟨c0, c2, -, rfl, -⟩
  · decide
  · exact Nat.le_refl _
theorem lr_PC_l {rd : Nat → Int32} {C : Nat} {c q : List (Nat × Nat)} (h : lr_PC rd C c q) : q.length ≤ 2 := by
  rcases h with h | ⟨d0, d2, qa, -, rfl, -, -, h⟩
  · have := lr_PA_l h; omega
  · have := lr_PA_l h
    rw [List.length_append]
    show qa.length + 1 ≤ 2
    omega
theorem mv_rcJ {rd : Nat → Int32} {C op : Nat} {c2 : List (Nat × Nat)} (ho : op = 11 ∨ op = 12) (hl : c2.length < 100000) (h : rd C = nI (1048576 * op + (C + 1 + c2.length))) (h2 : mv_rc rd (C + 1) c2) : mv_rc rd C ((op, c2.length) :: c2) := ⟨⟨by rw [if_pos ho]; exact h, by show op ≤ 12; omega, hl, fun z => by have z' : op = 1 := z; omega, fun _ => Nat.le_refl _⟩, h2⟩
theorem r_landA {W : List (Nat × Nat)} {C : Nat} {c q : List (Nat × Nat)} {M : mj_M} {x : Int32} {w : Value} (S : lr_S M n i o (q ++ W) (C + c.length)) (P : lr_PA (M 51) C c q) (hWl : W.length ≤ 239) (hC : C + c.length ≤ 250) : ∃ M' w', mj_E sl (e + 1) i_X9_lands 0 [.ref 45, .int x, w] [] M = mj_E sl (e + 1) i_X9_lands 0 [.ref 45, .int x, w'] [] M' ∧ lr_S M' n i o W (C + c.length) ∧ mv_rc (M' 51) C c ∧ mv_fr (lr_Q C) M M' := by
  rcases P with ⟨rfl, rc⟩ | ⟨c0, c2, rfl, rfl, r1, r2, r3⟩
  · exact ⟨M, w, rfl, S, rc, mv_fr.rf⟩
  · have hl : (c0 ++ (11, c2.length) :: c2).length = c0.length + (c2.length + 1) := by rw [List.length_append, List.length_cons]
    obtain ⟨w', a1, a2⟩ := r_land1 (sl := sl) (e := e) (x := x) (w := w) (op := 11) (p := C + c0.length) (W := W) S (by omega) (by omega) r2 (Or.inl rfl)
    refine ⟨_, w', a1, a2, ?_, (mv_fr.rf.st (by unfold lr_Q; omega)).st (by unfold lr_Q; omega)⟩
    refine mv_rc_ap c0 C (mv_rc_cg c0 C (fun y y1 y2 => ?_) r1) (mv_rcJ (Or.inl rfl) (by omega) ?_ (mv_rc_cg c2 _ (fun y y1 y2 => ?_) r3))
    · rw [mq_st_ne (by omega), mq_st_ne (by omega)]
    · rw [mq_st_ne (by omega), mq_st_eq, hl, show C + (c0.length + (c2.length + 1)) = C + c0.length + 1 + c2.length from by omega]
    · rw [mq_st_ne (by omega), mq_st_ne (by omega)]
theorem r_landC {W : List (Nat × Nat)} {C : Nat} {c q : List (Nat × Nat)} {M : mj_M} {w : Value} (S : lr_S M n i o (q ++ W) (C + c.length)) (P : lr_PC (M 51) C c q) (hWl : W.length ≤ 238) (hC : C + c.length ≤ 250) (hd : ¬ lr_hd W = 11 ∧ ¬ lr_hd W = 12) : ∃ M', mj_E sl (e + 1) i_X9_lands 0 [.ref 45, .int 1, w] [] M = some (0, M') ∧ lr_S M' n i o W (C + c.length) ∧ mv_rc (M' 51) C c ∧ mv_fr (lr_Q C) M M' := by
  rcases P with P | ⟨d0, d2, qa, rfl, rfl, r1, r2, r3⟩
  · obtain ⟨M', w', a1, a2, a3, a4⟩ := r_landA (sl := sl) (e := e) (x := 1) (w := w) S P (by omega) hC
    exact ⟨M', a1.trans (r_land0 a2 (by omega) ⟨hd.1, Or.inr hd.2⟩), a2, a3, a4⟩
  · have hl : (d0 ++ (12, d2.length) :: d2).length = d0.length + (d2.length + 1) := by rw [List.length_append, List.length_cons]
    have S' : lr_S M n i o (qa ++ ((12, C + d0.length) :: W)) (C + d0.length + 1 + d2.length) := by
      rw [List.append_assoc] at S
      rw [show C + d0.length + 1 + d2.length = C + (d0 ++ (12, d2.length) :: d2).length from by rw [hl]; omega]
      exact S
    obtain ⟨M1, w1, a1, a2, a3, a4⟩ := r_landA (sl := sl) (e := e) (x := 1) (w := w) S' r3 (by show W.length + 1 ≤ 239; omega) (by omega)
    have r2' : M1 51 (C + d0.length) = nI (1048576 * 12 + 0) := by rw [a4 _ _ (by unfold lr_Q; omega)]; exact r2
    obtain ⟨w2, b1, b2⟩ := r_land1 (sl := sl) (e := e) (x := 1) (w := w1) (op := 12) (p := C + d0.length) (W := W) a2 (by omega) (by omega) r2' (Or.inr ⟨rfl, by decide⟩)
    refine ⟨_, (a1.trans b1).trans (r_land0 b2 (by omega) ⟨hd.1, Or.inr hd.2⟩), ?_, ?_, (a4.wk (fun a k z => z.wk (by omega))).tr ((mv_fr.rf.st (by unfold lr_Q; omega)).st (by unfold lr_Q; omega))⟩
    · rw [hl, show C + (d0.length + (d2.length + 1)) = C + d0.length + 1 + d2.length from by omega]
      exact b2
    · refine mv_rc_ap d0 C (mv_rc_cg d0 C (fun y y1 y2 => ?_) r1) (mv_rcJ (Or.inr rfl) (by omega) ?_ (mv_rc_cg d2 _ (fun y y1 y2 => ?_) a3))
      · rw [mq_st_ne (by omega), mq_st_ne (by omega), a4 _ _ (by unfold lr_Q; omega)]
      · rw [mq_st_ne (by omega), mq_st_eq]
      · rw [mq_st_ne (by omega), mq_st_ne (by omega)]
theorem r_jumps {W : List (Nat × Nat)} {C op : Nat} {M : mj_M} (S : lr_S M n i o W C) (hWl : W.length ≤ 240) (hC : C ≤ 250) (ho : op = 11 ∨ op = 12) (hi : i < n) : ∃ M', mj_C sl (d + 1) i_X9_jumps [.ref 45, .int (nI op)] M = some (0, M') ∧ lr_S M' n (i + 1) o ((op, C) :: W) (C + 1) ∧ M' 51 C = nI (1048576 * op + 0) ∧ mv_fr (lr_Q C) M M' := by
  have S1 := lr_push (op := op) (v := C) S (by omega) (by omega)
  obtain ⟨M1, hM1⟩ : ∃ M1, M1 = mj_st (mj_st M 52 W.length (nI (1048576 * op + C))) 45 12 (nI (W.length + 1)) := ⟨_, rfl⟩
  rw [← hM1] at S1
  have en := rr_notes (sl := sl) (d := d) (op := op) (v := 0) S1 (by omega)
  have en' : mj_C sl d 152 [.ref 45, .int (nI op), .int 0] M1 = some (0, mj_st (mj_st M1 51 C (nI (1048576 * op + 0))) 45 11 (nI (C + 1))) := en
  have S2 := lr_note (op := op) (v := 0) S1
  have S3 := lr_at (j := i + 1) S2 (by omega)
  have f1 : mv_fr (lr_Q C) M M1 := by
    rw [hM1]; exact (mv_fr.rf.st (by unfold lr_Q; omega)).st (by unfold lr_Q; omega)
  refine ⟨_, ?_, S3, ?_, (f1.tr lr_noteQ).st (by unfold lr_Q; omega)⟩
  · rw [b_X9_jumps, S.2.2.2.2.1, if_pos (mq_inT (by omega) (by decide)), nI_clamp (by omega), S.2.2.2.1, s_Lmul, nI_add, mq_st_ne (by omega), S.2.2.2.2.1, s_addL, ← hM1, en']
    simp only [Option.bind_some]
    rw [S2.1, s_addL]
  · rw [mq_st_ne (by omega)]
    exact lr_noteC
end LR5
