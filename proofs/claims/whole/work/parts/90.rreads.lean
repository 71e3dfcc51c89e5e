def lr_k (st : Nat → Int32) : List (Nat × Nat) → Prop
  | [] => True
  | w :: t => st t.length = nI (1048576 * w.1 + w.2) ∧ w.1 ≤ 14 ∧ w.2 < 260 ∧ lr_k st t
theorem lr_k_cg {st st2 : Nat → Int32} : ∀ W : List (Nat × Nat), (∀ j, j < W.length → st2 j = st j) → lr_k st W → lr_k st2 W
  | [], _, _ => trivial
  | w :: t, h, ⟨h1, h2, h3, h4⟩ => ⟨by rw [h _ (Nat.lt_succ_self _)]; exact h1, h2, h3, lr_k_cg t (fun j hj => h j (Nat.lt_succ_of_lt hj)) h4⟩
def lr_S (M : mj_M) (n i o : Nat) (W : List (Nat × Nat)) (C : Nat) : Prop := M 45 6 = nI i ∧ M 45 7 = nI n ∧ M 45 10 = nI o ∧ M 45 11 = nI C ∧ M 45 12 = nI W.length ∧ lr_k (M 52) W ∧ i ≤ n
def lr_Q (C : Nat) (a k : Nat) : Prop := (a = 45 ∧ (k = 6 ∨ (8 ≤ k ∧ k ≤ 12))) ∨ (a = 51 ∧ C ≤ k) ∨ a = 52
theorem lr_Q.wk {C C2 a k : Nat} (h : lr_Q C a k) (hc : C2 ≤ C) : lr_Q C2 a k := by unfold lr_Q at *; omega
def lr_hd (W : List (Nat × Nat)) : Nat := match W with
  | [] => 99
  | w :: _ => w.1
def lr_wt (W : List (Nat × Nat)) : Int32 := match W with
  | [] => -1
  | w :: _ => nI w.1
theorem e_readsFactor {sl d : Nat} {M : mj_M} : mj_C sl d 158 [.ref 45] M = mj_E sl d 158 0 [.ref 45, .null] [] M := rfl
theorem e_closesSums {sl d : Nat} {M : mj_M} {x : Int32} : mj_C sl d 157 [.ref 45, .int x] M = mj_E sl d 157 0 [.ref 45, .int x] [] M := rfl
theorem e_endsPiece {sl d : Nat} {M : mj_M} : mj_C sl d 161 [.ref 45] M = mj_E sl d 161 0 [.ref 45] [] M := rfl
theorem e_lands {sl d : Nat} {M : mj_M} {x : Int32} : mj_C sl d 162 [.ref 45, .int x] M = mj_E sl d 162 0 [.ref 45, .int x, .null] [] M := rfl
section LR1
variable {sl d e n i o C : Nat} {W : List (Nat × Nat)} {M : mj_M} {tp : Nat → Nat}
theorem lr_Tb {M' : mj_M} {C0 : Nat} (T : mv_Tb M tp) (f : mv_fr (lr_Q C0) M M') : mv_Tb M' tp := T.fr f (fun a k z => by unfold lr_Q at z; omega)
theorem rr_here (S : lr_S M n i o W C) (hn : n ≤ 240) (T : mv_Tb M tp) : mj_C sl d i_X9_here [.ref 45] M = some (mv_hr n tp i, M) := r_here S.1 S.2.1 S.2.2.2.2.2.2 (by omega) T
theorem rr_isDg (S : lr_S M n i o W C) (hn : n ≤ 240) (T : mv_Tb M tp) : mj_C sl (d + 1) i_X9_isDigit [.ref 45] M = some (if lp_dg (lp_sn n tp i) = true then 1 else 0, M) := by
  have hi := S.2.2.2.2.2.2
  rw [← lp_hrD (T i (by omega)).1, b_X9_isDigit, rr_here S hn T]
  simp only [Option.bind_some]
  split
  · rfl
  · rw [rr_here S hn T]
    simp only [Option.bind_some]
    split <;> rfl
theorem rr_wait (S : lr_S M n i o W C) (hW : W.length ≤ 250) : mj_C sl d i_X9_waitTop [.ref 45] M = some (lr_wt W, M) := by
  obtain ⟨s1, s2, s3, s4, s5, s6, s7⟩ := S
  rw [b_X9_waitTop, s5]
  cases W with
  | nil => rfl
  | cons w t =>
    obtain ⟨k1, k2, k3, k4⟩ := s6
    have hl : (w :: t).length = t.length + 1 := rfl
    rw [hl] at hW ⊢
    rw [if_neg (by rw [s_eqL (by omega) (by decide)]; omega), s_subL (by omega), if_pos (mq_inT (by show t.length + 1 - 1 < 260; omega) (by decide)), nI_clamp (by omega), Nat.add_sub_cancel, k1, mv_u1 k2 (by omega)]
    rfl
theorem rr_notes {op v : Nat} (S : lr_S M n i o W C) (hC : C < 260) : mj_C sl d i_X9_notes [.ref 45, .int (nI op), .int (nI v)] M = some (0, mj_st (mj_st M 51 C (nI (1048576 * op + v))) 45 11 (nI (C + 1))) := by
  obtain ⟨s1, s2, s3, s4, s5, s6, s7⟩ := S
  rw [b_X9_notes, s4, if_pos (mq_inT hC (by decide)), nI_clamp (by omega), s_Lmul, nI_add, mq_st_ne (by omega), s4, s_addL]
theorem lr_note {op v : Nat} (S : lr_S M n i o W C) : lr_S (mj_st (mj_st M 51 C (nI (1048576 * op + v))) 45 11 (nI (C + 1))) n i o W (C + 1) := by
  obtain ⟨s1, s2, s3, s4, s5, s6, s7⟩ := S
  have f : mv_fr (fun a k => a = 51 ∨ (a = 45 ∧ k = 11)) M (mj_st (mj_st M 51 C (nI (1048576 * op + v))) 45 11 (nI (C + 1))) := (mv_fr.rf.st (Or.inl rfl)).st (Or.inr ⟨rfl, rfl⟩)
  refine ⟨?_, ?_, ?_, mq_st_eq, ?_, ?_, s7⟩
  · rw [f _ _ (by omega)]; exact s1
  · rw [f _ _ (by omega)]; exact s2
  · rw [f _ _ (by omega)]; exact s3
  · rw [f _ _ (by omega)]; exact s5
  · exact lr_k_cg W (fun j hj => f _ _ (by omega)) s6
theorem lr_noteC {op v : Nat} : (mj_st (mj_st M 51 C (nI (1048576 * op + v))) 45 11 (nI (C + 1))) 51 C = nI (1048576 * op + v) := by
  rw [mq_st_ne (by omega), mq_st_eq]
theorem lr_noteQ {op v : Nat} : mv_fr (lr_Q C) M (mj_st (mj_st M 51 C (nI (1048576 * op + v))) 45 11 (nI (C + 1))) := (mv_fr.rf.st (by unfold lr_Q; omega)).st (by unfold lr_Q; omega)
theorem lr_pop {w : Nat × Nat} (S : lr_S M n i o (w :: W) C) : lr_S (mj_st M 45 12 (nI W.length)) n i o W C := by
  obtain ⟨s1, s2, s3, s4, s5, s6, s7⟩ := S
  refine ⟨?_, ?_, ?_, ?_, mq_st_eq, ?_, s7⟩
  · rw [mq_st_ne (by omega)]; exact s1
  · rw [mq_st_ne (by omega)]; exact s2
  · rw [mq_st_ne (by omega)]; exact s3
  · rw [mq_st_ne (by omega)]; exact s4
  · exact lr_k_cg W (fun j hj => mq_st_ne (by omega)) s6.2.2.2
theorem lr_at {j : Nat} (S : lr_S M n i o W C) (hj : j ≤ n) : lr_S (mj_st M 45 6 (nI j)) n j o W C := by
  obtain ⟨s1, s2, s3, s4, s5, s6, s7⟩ := S
  refine ⟨mq_st_eq, ?_, ?_, ?_, ?_, ?_, hj⟩
  · rw [mq_st_ne (by omega)]; exact s2
  · rw [mq_st_ne (by omega)]; exact s3
  · rw [mq_st_ne (by omega)]; exact s4
  · rw [mq_st_ne (by omega)]; exact s5
  · exact lr_k_cg W (fun j hj => mq_st_ne (by omega)) s6
theorem lr_open {o2 : Nat} (S : lr_S M n i o W C) : lr_S (mj_st M 45 10 (nI o2)) n i o2 W C := by
  obtain ⟨s1, s2, s3, s4, s5, s6, s7⟩ := S
  refine ⟨?_, ?_, mq_st_eq, ?_, ?_, ?_, s7⟩
  · rw [mq_st_ne (by omega)]; exact s1
  · rw [mq_st_ne (by omega)]; exact s2
  · rw [mq_st_ne (by omega)]; exact s4
  · rw [mq_st_ne (by omega)]; exact s5
  · exact lr_k_cg W (fun j hj => mq_st_ne (by omega)) s6
theorem lr_push {op v : Nat} (S : lr_S M n i o W C) (ho : op ≤ 14) (hv : v < 260) : lr_S (mj_st (mj_st M 52 W.length (nI (1048576 * op + v))) 45 12 (nI (W.length + 1))) n i o ((op, v) :: W) C := by
  obtain ⟨s1, s2, s3, s4, s5, s6, s7⟩ := S
  refine ⟨?_, ?_, ?_, ?_, mq_st_eq, ⟨?_, ho, hv, ?_⟩, s7⟩
  · rw [mq_st_ne (by omega), mq_st_ne (by omega)]; exact s1
  · rw [mq_st_ne (by omega), mq_st_ne (by omega)]; exact s2
  · rw [mq_st_ne (by omega), mq_st_ne (by omega)]; exact s3
  · rw [mq_st_ne (by omega), mq_st_ne (by omega)]; exact s4
  · rw [mq_st_ne (by omega), mq_st_eq]
  · exact lr_k_cg W (fun j hj => by rw [mq_st_ne (by omega), mq_st_ne (by omega)]) s6
theorem rr_opens {op : Nat} (S : lr_S M n i o W C) (ho : o ≤ 6) (hW : W.length < 250) (hop : op ≤ 14) (hi : i < n) : mj_C sl (d + 1) i_X9_opens [.ref 45, .int (nI op)] M = if o = 6 then some (0, mj_st M 45 8 (mv_fx 5 (nI i))) else some (1, mj_st (mj_st (mj_st (mj_st M 45 10 (nI (o + 1))) 52 W.length (nI (1048576 * op + 0))) 45 12 (nI (W.length + 1))) 45 6 (nI (i + 1))) := by
  obtain ⟨s1, s2, s3, s4, s5, s6, s7⟩ := S
  have wA : mj_C sl d 149 [.ref 45, .int 5, .int (nI i)] M = some (0, mj_st M 45 8 (mv_fx 5 (nI i))) := b_X9_wrongAt
  have inW : mj_inB (nI W.length) 260 = true := mq_inT (by omega) (by decide)
  have clW : (nI W.length).toNatClampNeg = W.length := nI_clamp (by omega)
  rw [b_X9_opens, s3, s1, wA]
  by_cases q : o = 6
  · rw [if_pos q, if_pos (by rw [q]; rfl)]
    exact mv_wr
  · rw [if_neg q, if_neg (by rw [s_eqL (by omega) (by decide)]; exact q)]
    simp (disch := omega) only [mq_st_ne, s5, inW, clW, if_true, s_addL, s_Lmul, Nat.add_zero, s1]
theorem lr_opened {op : Nat} (S : lr_S M n i o W C) (hop : op ≤ 14) (hi : i < n) : lr_S (mj_st (mj_st (mj_st (mj_st M 45 10 (nI (o + 1))) 52 W.length (nI (1048576 * op + 0))) 45 12 (nI (W.length + 1))) 45 6 (nI (i + 1))) n (i + 1) (o + 1) ((op, 0) :: W) C := lr_at (lr_push (lr_open S) hop (by omega)) (by omega)
theorem r_close {x : Int32} (hn : n ≤ 240) (hWl : W.length ≤ 245) (hW : ¬ (4 ≤ lr_hd W ∧ lr_hd W ≤ 6) ∧ (x = 0 ∨ ¬ (2 ≤ lr_hd W ∧ lr_hd W ≤ 3))) : ∀ (q : List (Nat × Nat)) C M, q.length ≤ 5 → (∀ w, w ∈ q → w.2 = 0 ∧ ((4 ≤ w.1 ∧ w.1 ≤ 6) ∨ (¬ x = 0 ∧ 2 ≤ w.1 ∧ w.1 ≤ 3))) → lr_S M n i o (q ++ W) C → C + q.length ≤ 255 → ∃ M', mj_E sl (e + 1) i_X9_closesSums 0 [.ref 45, .int x] [] M = some (0, M') ∧ lr_S M' n i o W (C + q.length) ∧ mv_rc (M' 51) C q ∧ mv_fr (lr_Q C) M M' := by
  intro q
  induction q with
  | nil =>
    intro C M _ _ S hC
    have S' : lr_S M n i o W C := S
    have ew := rr_wait (sl := sl) (d := e) S' (by omega)
    obtain ⟨y, ey, y1, y2⟩ : ∃ y : Int32, mj_C sl e i_X9_waitTop [.ref 45] M = some (y, M) ∧ (y < 4 ∨ ¬ y ≤ 6) ∧ (x = 0 ∨ (¬ y = 2 ∧ ¬ y = 3)) := by
      cases W with
      | nil => exact ⟨-1, ew, Or.inl (by decide), Or.inr ⟨by decide, by decide⟩⟩
      | cons w t =>
        have k2 : w.1 ≤ 14 := S'.2.2.2.2.2.1.2.1
        have hW1 : ¬ (4 ≤ w.1 ∧ w.1 ≤ 6) := hW.1
        have hW2 : x = 0 ∨ ¬ (2 ≤ w.1 ∧ w.1 ≤ 3) := hW.2
        refine ⟨nI w.1, ew, ?_, ?_⟩
        · rw [s_ltL (by omega) (by decide), s_leL (by omega) (by decide)]
          omega
        · rcases hW2 with z | z
          · exact Or.inl z
          · refine Or.inr ⟨?_, ?_⟩
            · rw [s_eqL (by omega) (by decide)]; omega
            · rw [s_eqL (by omega) (by decide)]; omega
    refine ⟨M, ?_, S', trivial, mv_fr.rf⟩
    have e17 : mj_E sl (e + 1) 157 17 [.ref 45, .int x] [] M = some (0, M) := by
      rw [b_X9_closesSums_17]
      by_cases x0 : x = 0
      · rw [if_pos x0]
      · rcases y2 with z | ⟨z1, z2⟩
        · exact absurd z x0
        · rw [if_neg x0, ey]
          simp only [Option.bind_some]
          rw [if_neg z1, ey]
          simp only [Option.bind_some]
          rw [if_neg z2]
    rw [b_X9_closesSums_0, ey]
    simp only [Option.bind_some]
    by_cases z : y < 4
    · rw [if_pos z]
      exact e17
    · rw [if_neg z, ey]
      simp only [Option.bind_some]
      rw [if_neg (by rcases y1 with w | w; exact absurd w z; exact w)]
      exact e17
  | cons w q ih =>
    intro C M hl hq S hC
    have hl' : (w :: q).length = q.length + 1 := rfl
    rw [hl'] at hl hC
    have S' : lr_S M n i o (w :: (q ++ W)) C := S
    have hlen : (w :: (q ++ W)).length = q.length + W.length + 1 := by rw [List.length_cons, List.length_append]
    have ew := rr_wait (sl := sl) (d := e) S' (by omega)
    have ew : mj_C sl e i_X9_waitTop [.ref 45] M = some (nI w.1, M) := ew
    obtain ⟨w0, wr⟩ := hq w List.mem_cons_self
    have en := rr_notes (sl := sl) (d := e) (op := w.1) (v := 0) S' (by omega)
    have en' : mj_C sl e 152 [.ref 45, .int (nI w.1), .int 0] M = some (0, mj_st (mj_st M 51 C (nI (1048576 * w.1 + 0))) 45 11 (nI (C + 1))) := en
    have S1 := lr_note (op := w.1) (v := 0) S'
    obtain ⟨M1, hM1⟩ : ∃ M1, M1 = mj_st (mj_st M 51 C (nI (1048576 * w.1 + 0))) 45 11 (nI (C + 1)) := ⟨_, rfl⟩
    have f1 : mv_fr (lr_Q C) M M1 := by rw [hM1]; exact lr_noteQ
    have c1 : M1 51 C = nI (1048576 * w.1 + 0) := by rw [hM1]; exact lr_noteC
    rw [← hM1] at S1 en'
    have S2 := lr_pop S1
    have e12 : M1 45 12 - 1 = nI (q ++ W).length := by
      rw [S1.2.2.2.2.1, List.length_cons]
      exact (show nI ((q ++ W).length + 1) - nI 1 = nI (q ++ W).length by rw [pk_sub (by omega), Nat.add_sub_cancel])
    have f2 : mv_fr (lr_Q (C + 1)) M1 (mj_st M1 45 12 (nI (q ++ W).length)) := mv_fr.rf.st (by unfold lr_Q; omega)
    obtain ⟨M', a1, a2, a3, a4⟩ := ih (C + 1) _ (by omega) (fun y hy => hq y (List.mem_cons_of_mem _ hy)) S2 (by omega)
    refine ⟨M', ?_, by rw [hl', show C + (q.length + 1) = C + 1 + q.length from by omega]; exact a2, ⟨⟨?_, by omega, by omega, fun z => by omega, fun z => by omega⟩, a3⟩, (f1.tr (f2.wk (fun a k z => z.wk (by omega)))).tr (a4.wk (fun a k z => z.wk (by omega)))⟩
    · have go : ∀ y : Int32, y = nI w.1 → (mj_C sl e 152 [.ref 45, .int y, .int 0] M).bind (fun q4 => mj_E sl (e + 1) 157 0 [.ref 45, .int x] [] (mj_st q4.2 45 12 ((q4.2 45 12) - 1))) = some (0, M') := by
        intro y hy
        rw [hy, en']
        simp only [Option.bind_some]
        rw [e12]
        exact a1
      rw [b_X9_closesSums_0, ew]
      simp only [Option.bind_some]
      rcases wr with ⟨z1, z2⟩ | ⟨z0, z1, z2⟩
      · rw [if_neg (by rw [s_ltL (by omega) (by decide)]; omega), ew]
        simp only [Option.bind_some]
        rw [if_pos (by rw [s_leL (by omega) (by decide)]; omega), ew]
        simp only [Option.bind_some]
        exact go _ rfl
      · rw [if_pos (by rw [s_ltL (by omega) (by decide)]; omega), b_X9_closesSums_17, if_neg z0, ew]
        simp only [Option.bind_some]
        by_cases z3 : w.1 = 2
        · rw [if_pos (by rw [s_eqL (by omega) (by decide)]; exact z3), ew]
          simp only [Option.bind_some]
          exact go _ rfl
        · rw [if_neg (by rw [s_eqL (by omega) (by decide)]; exact z3), ew]
          simp only [Option.bind_some]
          rw [if_pos (by rw [s_eqL (by omega) (by decide)]; omega), ew]
          simp only [Option.bind_some]
          exact go _ rfl
    · rw [a4 _ _ (by unfold lr_Q; omega), f2 _ _ (by unfold lr_Q; omega), c1, if_neg (by omega), w0]
theorem r_hos1 {bs : Nat} {w1 : Value} {q : List (Nat × Nat)} (S : lr_S M n i o (q ++ ((14, 0) :: W)) C) (hl : (q ++ ((14, 0) :: W)).length ≤ 250) (hb : bs ≤ W.length) : mj_C sl d i_X9_hasOpenSum [.ref 45, .int (nI bs)] M = some (1, M) := by
  obtain ⟨s1, s2, s3, s4, s5, s6, s7⟩ := S
  have hlen : (q ++ ((14, 0) :: W)).length = q.length + W.length + 1 := by rw [List.length_append, List.length_cons]; omega
  have key : ∀ q : List (Nat × Nat), lr_k (M 52) (q ++ ((14, 0) :: W)) → M 52 W.length = nI (1048576 * 14 + 0) := by
    intro q
    induction q with
    | nil => intro h; exact h.1
    | cons w q ih => intro h; exact ih h.2.2.2
  have k14 := key q s6
  have L : ∀ m, m ≤ W.length → ∀ w1, mj_E sl d 159 2 [.ref 45, w1, .int (nI m)] [] M = some (1, M) := by
    refine mq_up ?_ ?_
    · intro w1
      rw [b_X9_hasOpenSum_2, s5, if_pos (by rw [s_lt (by omega) (by omega)]; omega), if_pos (mq_inT (by omega) (by decide)), nI_clamp (by omega), k14, mv_u1 (by omega) (by omega), if_pos (by decide)]
    · intro m hm ih w1
      rw [b_X9_hasOpenSum_2, s5, if_pos (by rw [s_lt (by omega) (by omega)]; omega), if_pos (mq_inT (by omega) (by decide)), nI_clamp (by omega), s_addL, ih w1]
      split <;> rfl
  rw [b_X9_hasOpenSum]
  exact L bs hb _
theorem r_hos0 {q : List (Nat × Nat)} (S : lr_S M n i o (q ++ W) C) (hl : (q ++ W).length ≤ 250) (hq : ∀ w, w ∈ q → ¬ w.1 = 14) : mj_C sl d i_X9_hasOpenSum [.ref 45, .int (nI W.length)] M = some (0, M) := by
  obtain ⟨s1, s2, s3, s4, s5, s6, s7⟩ := S
  have hlen : (q ++ W).length = q.length + W.length := List.length_append
  have key : ∀ q : List (Nat × Nat), (∀ w, w ∈ q → ¬ w.1 = 14) → lr_k (M 52) (q ++ W) → ∀ m, W.length ≤ m → m < q.length + W.length → ¬ (M 52 m) / 1048576 = 14 := by
    intro q
    induction q with
    | nil => intro _ _ m a b; simp only [List.length_nil] at b; omega
    | cons w q ih =>
      intro hq h m a b
      simp only [List.length_cons] at b
      by_cases z : m = q.length + W.length
      · have h1 : M 52 (q ++ W).length = nI (1048576 * w.1 + w.2) := h.1
        rw [List.length_append] at h1
        have b1 : w.1 ≤ 14 := h.2.1
        have b2 : w.2 < 260 := h.2.2.1
        rw [z, h1, mv_u1 b1 (by omega), s_eqL (by omega) (by decide)]
        exact hq w List.mem_cons_self
      · exact ih (fun y hy => hq y (List.mem_cons_of_mem _ hy)) h.2.2.2 m a (by omega)
  have L : ∀ m, m ≤ q.length + W.length → W.length ≤ m → ∀ w1, mj_E sl d 159 2 [.ref 45, w1, .int (nI m)] [] M = some (0, M) := by
    refine mq_up ?_ ?_
    · intro _ w1
      rw [b_X9_hasOpenSum_2, s5, hlen, if_neg Int32.lt_irrefl]
    · intro m hm ih hw w1
      rw [b_X9_hasOpenSum_2, s5, hlen, if_pos (by rw [s_lt (by omega) (by omega)]; exact hm), if_pos (mq_inT (by omega) (by decide)), nI_clamp (by omega), if_neg (key q hq s6 m hw hm), s_addL]
      exact ih (by omega) w1
  rw [b_X9_hasOpenSum]
  exact L W.length (by omega) (Nat.le_refl _) _
end LR1
