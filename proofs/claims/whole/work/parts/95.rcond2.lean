noncomputable abbrev lr_A (sl e : Nat) (M : mj_M) : Option (Int32 × mj_M) := mj_E sl (e + 7) 165 40 [.ref 45] [] M
noncomputable abbrev lr_B (sl e : Nat) (M : mj_M) : Option (Int32 × mj_M) := mj_E sl (e + 7) 165 92 [.ref 45] [] M
def lr_TT (sl e n : Nat) (tp : Nat → Nat) (o : Nat) (t : Nat → lp_PR) : Prop := ∀ i C m W0 M, lr_S M n i o (List.replicate m (10, 0) ++ W0) C → 11 ≤ lr_hd W0 → lr_hd W0 ≤ 13 → m ≤ o → C + m ≤ i → m + W0.length ≤ i → mv_Tb M tp → (match t i with
  | .inl (q, p) => lr_bad (lr_A sl e M) q p M
  | .inr (j, c) => ∃ M', lr_A sl e M = lr_B sl e M' ∧ lr_S M' n j (o - m) W0 (C + c.length + m) ∧ mv_rc (M' 51) C (c ++ List.replicate m (10, 0)) ∧ mv_fr (lr_Q C) M M')
def lr_TP (Sh : (Nat → Int32) → Nat → List (Nat × Nat) → List (Nat × Nat) → Prop) (h0 : Nat) (sl e n : Nat) (tp : Nat → Nat) (o : Nat) (f : Nat → lp_PR) : Prop := ∀ i C W M, lr_S M n i o W C → h0 ≤ lr_hd W → lr_hd W ≤ 13 → C ≤ i → W.length ≤ i → mv_Tb M tp → (match f i with
  | .inl (q, p) => lr_bad (lr_A sl e M) q p M
  | .inr (j, c) => ∃ M' q, lr_A sl e M = lr_B sl e M' ∧ lr_S M' n j o (q ++ W) (C + c.length) ∧ Sh (M' 51) C c q ∧ mv_fr (lr_Q C) M M')
theorem lp_st_C {n k : Nat} {tp : Nat → Nat} (hn : n ≤ 240) (hk : k ≤ 6) (i j : Nat) (c : List (Nat × Nat)) (hi : i ≤ n) (e : lp_C (lp_sn n tp) (lp_T (lp_sn n tp) k) i = .inr (j, c)) : ¬ lp_sn n tp j = 124 ∧ ¬ lp_sn n tp j = 38 := by
  have o1 : ∀ k s, k < 999 → lp_o1 k s = true → s < 999 := fun k s hk h => by
    have := of_decide_eq_true h
    omega
  have h := lp_st_seq (Z := fun j => ¬ lp_sn n tp j = 38) (Pf := lp_sC) hn (fun s h => o1 124 s (by omega) h) (fun i hi => lp_ok_seq (Pf := lp_sC) (fun s h => o1 38 s (by omega) h) (lp_ej_b 11) (fun s c c2 h p q => lp_sC_jmp (Or.inl rfl) p q) (fun c p => p) (lp_ok_T k hk) i hi) (fun i j c hi e => ?_) i j c hi e
  · exact ⟨of_decide_eq_false h.1, h.2⟩
  · exact of_decide_eq_false (lp_st_seq (Z := fun _ => True) (Pf := lp_sC) hn (fun s h => o1 38 s (by omega) h) (lp_ok_T k hk) (fun _ _ _ _ _ => trivial) i j c hi e).1
section LR6
variable {sl d e n o : Nat} {tp : Nat → Nat}
theorem rB_bad {j C : Nat} {W : List (Nat × Nat)} {M : mj_M} (hn : n ≤ 240) (S : lr_S M n j o W C) (T : mv_Tb M tp) (h1 : ¬ lp_sn n tp j = 41) (h2 : ¬ lp_sn n tp j = 38) (h3 : ¬ lp_sn n tp j = 124) : lr_B sl e M = some (0, mj_st M 45 8 (mv_fx (nI 1) (nI j))) := by
  have hi := S.2.2.2.2.2.2
  have h8 := (T j (by omega)).1
  have eH := rr_here (sl := sl) (d := e + 6) S hn T
  have e41 : (mv_hr n tp j = 41) = (lp_sn n tp j = 41) := lp_hrL (by decide) h8
  have e38 : (mv_hr n tp j = 38) = (lp_sn n tp j = 38) := lp_hrL (by decide) h8
  have e124 : (mv_hr n tp j = 124) = (lp_sn n tp j = 124) := lp_hrL (by decide) h8
  have wA : mj_C sl (e + 6) 149 [.ref 45, .int 1, .int (nI j)] M = some (0, mj_st M 45 8 (mv_fx (nI 1) (nI j))) := b_X9_wrongAt
  unfold lr_B
  rw [b_X9_readsCondition_92, eH]
  simp only [Option.bind_some]
  rw [if_neg (by rw [e41]; exact h1), eH]
  simp only [Option.bind_some]
  rw [if_neg (by rw [e38]; exact h2), eH]
  simp only [Option.bind_some]
  rw [if_neg (by rw [e124]; exact h3), S.1, wA]
  exact mv_wr
theorem rB_and {j C : Nat} {W c q : List (Nat × Nat)} {M : mj_M} (hn : n ≤ 240) (S : lr_S M n j o (q ++ W) (C + c.length)) (P : lr_PA (M 51) C c q) (T : mv_Tb M tp) (h2 : lp_sn n tp j = 38) (hW : 12 ≤ lr_hd W) (hWl : W.length ≤ 238) (hC : C + c.length ≤ 250) : ∃ M', lr_B sl e M = lr_A sl e M' ∧ lr_S M' n (j + 1) o ((11, C + c.length) :: W) (C + c.length + 1) ∧ mv_rc (M' 51) C c ∧ M' 51 (C + c.length) = nI (1048576 * 11 + 0) ∧ mv_fr (lr_Q C) M M' := by
  have hi := S.2.2.2.2.2.2
  have h8 := (T j (by omega)).1
  have hlt : j < n := lp_sn_lt (tp := tp) (by omega)
  have eH := rr_here (sl := sl) (d := e + 6) S hn T
  have e41 : (mv_hr n tp j = 41) = (lp_sn n tp j = 41) := lp_hrL (by decide) h8
  have e38 : (mv_hr n tp j = 38) = (lp_sn n tp j = 38) := lp_hrL (by decide) h8
  have e124 : (mv_hr n tp j = 124) = (lp_sn n tp j = 124) := lp_hrL (by decide) h8
  obtain ⟨M1, w', a1, a2, a3, a4⟩ := r_landA (sl := sl) (e := e + 5) (x := 0) (w := .null) S P (by omega) hC
  have a1' : mj_C sl (e + 6) 162 [.ref 45, .int 0] M = some (0, M1) := a1.trans (r_land0 a2 (by omega) ⟨by omega, Or.inl rfl⟩)
  have T1 := lr_Tb T a4
  have eH1 := rr_here (sl := sl) (d := e + 6) a2 hn T1
  obtain ⟨M2, b1, b2, b3, b4⟩ := r_jumps (sl := sl) (d := e + 5) (op := 11) a2 (by omega) hC (Or.inl rfl) hlt
  have b1' : mj_C sl (e + 6) 163 [.ref 45, .int 11] M1 = some (0, M2) := b1
  refine ⟨M2, ?_, b2, mv_rc_cg c C (fun x x1 x2 => b4 _ _ (by unfold lr_Q; omega)) a3, b3, a4.tr (b4.wk (fun a k z => z.wk (by omega)))⟩
  unfold lr_B lr_A
  rw [b_X9_readsCondition_92, eH]
  simp only [Option.bind_some]
  rw [if_neg (by rw [e41]; omega), eH]
  simp only [Option.bind_some]
  rw [if_pos (by rw [e38]; exact h2), b_X9_readsCondition_180, eH]
  simp only [Option.bind_some]
  rw [if_neg (by rw [e124]; omega), a1']
  simp only [Option.bind_some]
  rw [eH1]
  simp only [Option.bind_some]
  rw [if_pos (by rw [e38]; exact h2), b1']
  rfl
theorem rB_or {j C : Nat} {W c q : List (Nat × Nat)} {M : mj_M} (hn : n ≤ 240) (S : lr_S M n j o (q ++ W) (C + c.length)) (P : lr_PC (M 51) C c q) (T : mv_Tb M tp) (h2 : lp_sn n tp j = 124) (hW : 13 ≤ lr_hd W) (hWl : W.length ≤ 238) (hC : C + c.length ≤ 250) : ∃ M', lr_B sl e M = lr_A sl e M' ∧ lr_S M' n (j + 1) o ((12, C + c.length) :: W) (C + c.length + 1) ∧ mv_rc (M' 51) C c ∧ M' 51 (C + c.length) = nI (1048576 * 12 + 0) ∧ mv_fr (lr_Q C) M M' := by
  have hi := S.2.2.2.2.2.2
  have h8 := (T j (by omega)).1
  have hlt : j < n := lp_sn_lt (tp := tp) (by omega)
  have eH := rr_here (sl := sl) (d := e + 6) S hn T
  have e41 : (mv_hr n tp j = 41) = (lp_sn n tp j = 41) := lp_hrL (by decide) h8
  have e38 : (mv_hr n tp j = 38) = (lp_sn n tp j = 38) := lp_hrL (by decide) h8
  have e124 : (mv_hr n tp j = 124) = (lp_sn n tp j = 124) := lp_hrL (by decide) h8
  obtain ⟨M1, a1, a2, a3, a4⟩ := r_landC (sl := sl) (e := e + 5) (w := .null) S P hWl hC ⟨by omega, by omega⟩
  have a1' : mj_C sl (e + 6) 162 [.ref 45, .int 1] M = some (0, M1) := a1
  have T1 := lr_Tb T a4
  have eH1 := rr_here (sl := sl) (d := e + 6) a2 hn T1
  obtain ⟨M2, b1, b2, b3, b4⟩ := r_jumps (sl := sl) (d := e + 5) (op := 12) a2 (by omega) hC (Or.inr rfl) hlt
  have b1' : mj_C sl (e + 6) 163 [.ref 45, .int 12] M1 = some (0, M2) := b1
  refine ⟨M2, ?_, b2, mv_rc_cg c C (fun x x1 x2 => b4 _ _ (by unfold lr_Q; omega)) a3, b3, a4.tr (b4.wk (fun a k z => z.wk (by omega)))⟩
  unfold lr_B lr_A
  rw [b_X9_readsCondition_92, eH]
  simp only [Option.bind_some]
  rw [if_neg (by rw [e41]; omega), eH]
  simp only [Option.bind_some]
  rw [if_neg (by rw [e38]; omega), eH]
  simp only [Option.bind_some]
  rw [if_pos (by rw [e124]; exact h2), b_X9_readsCondition_180, eH]
  simp only [Option.bind_some]
  rw [if_pos (by rw [e124]; exact h2), a1']
  simp only [Option.bind_some]
  rw [eH1]
  simp only [Option.bind_some]
  rw [if_neg (by rw [e38]; omega), b1']
  rfl
theorem r_Qp {t : Nat → lp_PR} {Pf : List (Nat × Nat) → Prop} (hn : n ≤ 240) (TT : lr_TT sl e n tp o t) (ok : ∀ i, i ≤ n → lp_ok n i Pf (t i)) : lr_TP lr_PA 12 sl e n tp o (lp_Q (lp_sn n tp) t) := by
  have L : ∀ F i c q C W M0 M, 240 ≤ i + F → lr_S M n i o (q ++ W) (C + c.length) → lr_PA (M 51) C c q → 12 ≤ lr_hd W → lr_hd W ≤ 13 → C + c.length ≤ i → W.length + 1 ≤ i → mv_Tb M tp → mv_fr (lr_Q C) M0 M → (match lp_chn (lp_o1 38) (lp_ej 11) t (lp_sn n tp) F i c with
      | .inl (qq, p) => lr_bad (lr_B sl e M) qq p M0
      | .inr (j, c') => ∃ M' q', lr_B sl e M = lr_B sl e M' ∧ lr_S M' n j o (q' ++ W) (C + c'.length) ∧ lr_PA (M' 51) C c' q' ∧ mv_fr (lr_Q C) M0 M') := by
    intro F
    induction F with
    | zero =>
      intro i c q C W M0 M hF S P hW hW2 b1 b2 T f0
      exact ⟨M, q, rfl, S, P, f0⟩
    | succ F ih =>
      intro i c q C W M0 M hF S P hW hW2 b1 b2 T f0
      have hi := S.2.2.2.2.2.2
      unfold lp_chn
      by_cases z : lp_sn n tp i = 38
      · rw [if_pos (show lp_o1 38 (lp_sn n tp i) = true from decide_eq_true z)]
        have hlt : i < n := lp_sn_lt (tp := tp) (by omega)
        obtain ⟨M1, a1, a2, a3, a4, a5⟩ := rB_and (sl := sl) (e := e) hn S P T z hW (by omega) (by omega)
        have T1 := lr_Tb T a5
        have K := TT (i + 1) (C + c.length + 1) 0 ((11, C + c.length) :: W) M1 a2 (by show 11 ≤ 11; omega) (by show 11 ≤ 13; omega) (by omega) (by omega) (by show 0 + (W.length + 1) ≤ i + 1; omega) T1
        have ok1 := ok (i + 1) (by omega)
        rw [a1]
        cases hr : t (i + 1) with
        | inl x =>
          obtain ⟨qq, p⟩ := x
          rw [hr] at K
          obtain ⟨M', k1, k2, k3⟩ := K
          exact ⟨M', k1, k2, ((f0.wk (fun a k z => z.wk (by omega))).tr (a5.wk (fun a k z => z.wk (by omega)))).tr k3⟩
        | inr y =>
          obtain ⟨j, c2⟩ := y
          rw [hr] at K ok1
          obtain ⟨M', k1, k2, k3, k4⟩ := K
          obtain ⟨m1, m2, m3, m4, m5⟩ := ok1
          have k3 : mv_rc (M' 51) (C + c.length + 1) (c2 ++ []) := k3
          rw [List.append_nil] at k3
          have hl : (c ++ lp_ej 11 (lp_sn n tp i) c2).length = c.length + (c2.length + 1) := by rw [List.length_append]; rfl
          dsimp only
          rw [k1]
          refine ih j (c ++ lp_ej 11 (lp_sn n tp i) c2) [(11, C + c.length)] C W M0 M' (by omega) ?_ (Or.inr ⟨c, c2, rfl, rfl, mv_rc_cg c C (fun x x1 x2 => k4 _ _ (by unfold lr_Q; omega)) a3, ?_, k3⟩) hW hW2 (by rw [hl]; omega) (by omega) (lr_Tb T1 k4) ((f0.tr a5).tr (k4.wk (fun a k z => z.wk (by omega))))
          · rw [hl, show C + (c.length + (c2.length + 1)) = C + c.length + 1 + c2.length from by omega]
            exact k2
          · rw [k4 _ _ (by unfold lr_Q; omega)]
            exact a4
      · rw [if_neg (show ¬ lp_o1 38 (lp_sn n tp i) = true from fun y => z (of_decide_eq_true y))]
        exact ⟨M, q, rfl, S, P, f0⟩
  intro i C W M S hW hW2 hC hWl T
  have hi := S.2.2.2.2.2.2
  have K := TT i C 0 W M S (by omega) hW2 (by omega) (by omega) (by omega) T
  have ok1 := ok i hi
  unfold lp_Q lp_seq
  cases hr : t i with
  | inl x =>
    obtain ⟨qq, p⟩ := x
    rw [hr] at K
    exact K
  | inr y =>
    obtain ⟨j, c⟩ := y
    rw [hr] at K ok1
    obtain ⟨M', k1, k2, k3, k4⟩ := K
    obtain ⟨m1, m2, m3, m4, m5⟩ := ok1
    have k3 : mv_rc (M' 51) C (c ++ []) := k3
    rw [List.append_nil] at k3
    have R := L 240 j c [] C W M M' (by omega) k2 (Or.inl ⟨rfl, k3⟩) hW hW2 (by omega) (by omega) (lr_Tb T k4) k4
    dsimp only
    rw [k1]
    exact R
theorem r_Cn {f : Nat → lp_PR} {Pf : List (Nat × Nat) → Prop} (hn : n ≤ 240) (TA : lr_TP lr_PA 12 sl e n tp o f) (ok : ∀ i, i ≤ n → lp_ok n i Pf (f i)) : lr_TP lr_PC 13 sl e n tp o (lp_seq (lp_o1 124) (lp_ej 12) f (lp_sn n tp)) := by
  have L : ∀ F i c q C W M0 M, 240 ≤ i + F → lr_S M n i o (q ++ W) (C + c.length) → lr_PC (M 51) C c q → 13 ≤ lr_hd W → lr_hd W ≤ 13 → C + c.length ≤ i → W.length + 1 ≤ i → mv_Tb M tp → mv_fr (lr_Q C) M0 M → (match lp_chn (lp_o1 124) (lp_ej 12) f (lp_sn n tp) F i c with
      | .inl (qq, p) => lr_bad (lr_B sl e M) qq p M0
      | .inr (j, c') => ∃ M' q', lr_B sl e M = lr_B sl e M' ∧ lr_S M' n j o (q' ++ W) (C + c'.length) ∧ lr_PC (M' 51) C c' q' ∧ mv_fr (lr_Q C) M0 M') := by
    intro F
    induction F with
    | zero =>
      intro i c q C W M0 M hF S P hW hW2 b1 b2 T f0
      exact ⟨M, q, rfl, S, P, f0⟩
    | succ F ih =>
      intro i c q C W M0 M hF S P hW hW2 b1 b2 T f0
      have hi := S.2.2.2.2.2.2
      unfold lp_chn
      by_cases z : lp_sn n tp i = 124
      · rw [if_pos (show lp_o1 124 (lp_sn n tp i) = true from decide_eq_true z)]
        have hlt : i < n := lp_sn_lt (tp := tp) (by omega)
        obtain ⟨M1, a1, a2, a3, a4, a5⟩ := rB_or (sl := sl) (e := e) hn S P T z hW (by omega) (by omega)
        have T1 := lr_Tb T a5
        have K := TA (i + 1) (C + c.length + 1) ((12, C + c.length) :: W) M1 a2 (by show 12 ≤ 12; omega) (by show 12 ≤ 13; omega) (by omega) (by show W.length + 1 ≤ i + 1; omega) T1
        have ok1 := ok (i + 1) (by omega)
        rw [a1]
        cases hr : f (i + 1) with
        | inl x =>
          obtain ⟨qq, p⟩ := x
          rw [hr] at K
          obtain ⟨M', k1, k2, k3⟩ := K
          exact ⟨M', k1, k2, ((f0.wk (fun a k z => z.wk (by omega))).tr (a5.wk (fun a k z => z.wk (by omega)))).tr k3⟩
        | inr y =>
          obtain ⟨j, c2⟩ := y
          rw [hr] at K ok1
          obtain ⟨M', qa, k1, k2, k3, k4⟩ := K
          obtain ⟨m1, m2, m3, m4, m5⟩ := ok1
          have hl : (c ++ lp_ej 12 (lp_sn n tp i) c2).length = c.length + (c2.length + 1) := by rw [List.length_append]; rfl
          dsimp only
          rw [k1]
          refine ih j (c ++ lp_ej 12 (lp_sn n tp i) c2) (qa ++ [(12, C + c.length)]) C W M0 M' (by omega) ?_ (Or.inr ⟨c, c2, qa, rfl, rfl, mv_rc_cg c C (fun x x1 x2 => k4 _ _ (by unfold lr_Q; omega)) a3, ?_, k3⟩) hW hW2 (by rw [hl]; omega) (by omega) (lr_Tb T1 k4) ((f0.tr a5).tr (k4.wk (fun a k z => z.wk (by omega))))
          · rw [hl, show C + (c.length + (c2.length + 1)) = C + c.length + 1 + c2.length from by omega, List.append_assoc]
            exact k2
          · rw [k4 _ _ (by unfold lr_Q; omega)]
            exact a4
      · rw [if_neg (show ¬ lp_o1 124 (lp_sn n tp i) = true from fun y => z (of_decide_eq_true y))]
        exact ⟨M, q, rfl, S, P, f0⟩
  intro i C W M S hW hW2 hC hWl T
  have hi := S.2.2.2.2.2.2
  have K := TA i C W M S (by omega) hW2 hC hWl T
  have ok1 := ok i hi
  unfold lp_seq
  cases hr : f i with
  | inl x =>
    obtain ⟨qq, p⟩ := x
    rw [hr] at K
    exact K
  | inr y =>
    obtain ⟨j, c⟩ := y
    rw [hr] at K ok1
    obtain ⟨M', qa, k1, k2, k3, k4⟩ := K
    obtain ⟨m1, m2, m3, m4, m5⟩ := ok1
    have R := L 240 j c qa C W M M' (by omega) k2 (Or.inl k3) hW hW2 (by omega) (by omega) (lr_Tb T k4) k4
    dsimp only
    rw [k1]
    exact R
theorem rr_cmp {k i C m : Nat} {W0 : List (Nat × Nat)} {M : mj_M} (hn : n ≤ 240) (hk : k ≤ 6) (ho : o + k = 6) (S : lr_S M n i o (List.replicate m (10, 0) ++ W0) C) (hW : 11 ≤ lr_hd W0) (hW2 : lr_hd W0 ≤ 13) (hm : m ≤ o) (hC : C + m ≤ i) (hWl : m + W0.length ≤ i) (T : mv_Tb M tp) : (match lp_cmp (lp_sn n tp) k i with
    | .inl (q, p) => lr_bad (mj_C sl (e + 6) i_X9_readsCompared [.ref 45] M) q p M
    | .inr (j, c) => ∃ M', mj_C sl (e + 6) i_X9_readsCompared [.ref 45] M = some (1, M') ∧ lr_S M' n j (o - m) W0 (C + c.length + m) ∧ mv_rc (M' 51) C (c ++ List.replicate m (10, 0)) ∧ mv_fr (lr_Q C) M M') := by
  have hi := S.2.2.2.2.2.2
  have hlW : (List.replicate m ((10, 0) : Nat × Nat) ++ W0).length = m + W0.length := by rw [List.length_append, List.length_replicate]
  have hh2 : lr_h2 (lr_hd (List.replicate m ((10, 0) : Nat × Nat) ++ W0)) := by
    cases m with
    | zero => show lr_h2 (lr_hd W0); unfold lr_h2; omega
    | succ m => show lr_h2 10; unfold lr_h2; omega
  have K := rr_sum (sl := sl) (e := e) (tp := tp) hn hk ho S hh2 (by omega) (by omega) T
  have ok := lp_ok_S (n := n) (tp := tp) (lp_ok_F (n := n) (tp := tp) k) i hi
  unfold lp_cmp lp_ap
  cases hr : lp_S (lp_sn n tp) (lp_F (lp_sn n tp) k) i with
  | inl x =>
    obtain ⟨qq, p⟩ := x
    rw [hr] at K
    obtain ⟨M', k1, k2, k3⟩ := K
    have k1' : mj_C sl (e + 5) 160 [.ref 45] M = some (0, M') := k1
    refine ⟨M', ?_, k2, k3⟩
    rw [b_X9_readsCompared, k1']
    rfl
  | inr y =>
    obtain ⟨j, c1⟩ := y
    rw [hr] at K ok
    obtain ⟨M1, k1, k2, k3, k4⟩ := K
    obtain ⟨m1, m2, m3, m4, m5⟩ := ok
    have k1' : mj_C sl (e + 5) 160 [.ref 45] M = some (1, M1) := k1
    have T1 := lr_Tb T k4
    have h8 := (T j (by omega)).1
    have eH := rr_here (sl := sl) (d := e + 5) k2 hn T1
    have e60 : (mv_hr n tp j = 60) = (lp_sn n tp j = 60) := lp_hrL (by decide) h8
    have e62 : (mv_hr n tp j = 62) = (lp_sn n tp j = 62) := lp_hrL (by decide) h8
    have e61 : (mv_hr n tp j = 61) = (lp_sn n tp j = 61) := lp_hrL (by decide) h8
    dsimp only
    by_cases q : lp_sn n tp j = 60 ∨ lp_sn n tp j = 62 ∨ lp_sn n tp j = 61
    · rw [if_pos q]
      have hj : j < n := lp_sn_lt (tp := tp) (by omega)
      have S2 := lr_at (j := j + 1) k2 (by omega)
      have f2 : mv_fr (lr_Q (C + c1.length)) M1 (mj_st M1 45 6 (nI (j + 1))) := mv_fr.rf.st (by unfold lr_Q; omega)
      obtain ⟨M2, hM2⟩ : ∃ M2, M2 = mj_st M1 45 6 (nI (j + 1)) := ⟨_, rfl⟩
      rw [← hM2] at S2 f2
      have T2 := lr_Tb T1 f2
      have K2 := rr_sum (sl := sl) (e := e) (tp := tp) hn hk ho S2 hh2 (by omega) (by omega) T2
      have ok2 := lp_ok_S (n := n) (tp := tp) (lp_ok_F (n := n) (tp := tp) k) (j + 1) (by omega)
      have hop : 7 ≤ lp_on (lp_sn n tp j) ∧ lp_on (lp_sn n tp j) ≤ 9 := by
        rcases q with q | q | q <;> rw [q] <;> decide
      have E0 : mj_C sl (e + 6) i_X9_readsCompared [.ref 45] M = (mj_C sl (e + 5) 160 [.ref 45] M2).bind (fun q3 => if q3.1 = 0 then (some ((0 : Int32), q3.2)) else ((mj_C sl (e + 5) 152 [.ref 45, .int (nI (lp_on (lp_sn n tp j))), .int 0] q3.2).bind (fun q4 => (mj_C sl (e + 5) 161 [.ref 45] q4.2).bind (fun q5 => some ((1 : Int32), q5.2))))) := by
        rw [b_X9_readsCompared, k1']
        simp only [Option.bind_some, s_10, if_false]
        rw [eH]
        simp only [Option.bind_some]
        rw [k2.1, s_addL, ← hM2]
        by_cases z1 : lp_sn n tp j = 60
        · rw [if_pos (by rw [e60]; exact z1), z1]; rfl
        rw [if_neg (by rw [e60]; exact z1), eH]
        simp only [Option.bind_some]
        rw [k2.1, s_addL, ← hM2]
        by_cases z2 : lp_sn n tp j = 62
        · rw [if_pos (by rw [e62]; exact z2), z2]; rfl
        rw [if_neg (by rw [e62]; exact z2), eH]
        simp only [Option.bind_some]
        rw [k2.1, s_addL, ← hM2]
        have z3 : lp_sn n tp j = 61 := by omega
        rw [if_pos (by rw [e61]; exact z3), z3]; rfl
      rw [E0]
      cases hr2 : lp_S (lp_sn n tp) (lp_F (lp_sn n tp) k) (j + 1) with
      | inl x =>
        obtain ⟨qq, p⟩ := x
        rw [hr2] at K2
        obtain ⟨M', l1, l2, l3⟩ := K2
        have l1' : mj_C sl (e + 5) 160 [.ref 45] M2 = some (0, M') := l1
        refine ⟨M', ?_, l2, ((k4.wk (fun a k z => z.wk (by omega))).tr (f2.wk (fun a k z => z.wk (by omega)))).tr l3⟩
        rw [l1']
        rfl
      | inr y =>
        obtain ⟨j2, c2⟩ := y
        rw [hr2] at K2 ok2
        obtain ⟨M3, l1, l2, l3, l4⟩ := K2
        obtain ⟨n1, n2, n3, n4, n5⟩ := ok2
        have l1' : mj_C sl (e + 5) 160 [.ref 45] M2 = some (1, M3) := l1
        have en := rr_notes (sl := sl) (d := e + 5) (op := lp_on (lp_sn n tp j)) (v := 0) l2 (by omega)
        have en' : mj_C sl (e + 5) 152 [.ref 45, .int (nI (lp_on (lp_sn n tp j))), .int 0] M3 = some (0, mj_st (mj_st M3 51 (C + c1.length + c2.length) (nI (1048576 * lp_on (lp_sn n tp j) + 0))) 45 11 (nI (C + c1.length + c2.length + 1))) := en
        have S4 := lr_note (op := lp_on (lp_sn n tp j)) (v := 0) l2
        obtain ⟨M4, hM4⟩ : ∃ M4, M4 = mj_st (mj_st M3 51 (C + c1.length + c2.length) (nI (1048576 * lp_on (lp_sn n tp j) + 0))) 45 11 (nI (C + c1.length + c2.length + 1)) := ⟨_, rfl⟩
        have f4 : mv_fr (lr_Q (C + c1.length + c2.length)) M3 M4 := by rw [hM4]; exact lr_noteQ
        have c4 : M4 51 (C + c1.length + c2.length) = nI (1048576 * lp_on (lp_sn n tp j) + 0) := by rw [hM4]; exact lr_noteC
        rw [← hM4] at S4 en'
        obtain ⟨M5, b1, b2, b3, b4⟩ := r_ends (sl := sl) (e := e + 4) (W := W0) hn (by omega) (by omega) m (C + c1.length + c2.length + 1) M4 o S4 hm (by omega) (by omega)
        have b1' : mj_C sl (e + 5) 161 [.ref 45] M4 = some (0, M5) := b1
        have hl : (c1 ++ (c2 ++ [(lp_on (lp_sn n tp j), 0)])).length = c1.length + (c2.length + 1) := by rw [List.length_append, List.length_append]; rfl
        dsimp only
        refine ⟨M5, ?_, ?_, ?_, ((((k4.tr (f2.wk (fun a k z => z.wk (by omega)))).tr (l4.wk (fun a k z => z.wk (by omega)))).tr (f4.wk (fun a k z => z.wk (by omega)))).tr (b4.wk (fun a k z => z.wk (by omega))))⟩
        · rw [l1']
          simp only [Option.bind_some, s_10, if_false]
          rw [en']
          simp only [Option.bind_some]
          rw [b1']
          rfl
        · rw [hl, show C + (c1.length + (c2.length + 1)) + m = C + c1.length + c2.length + 1 + m from by omega]
          exact b2
        · rw [List.append_assoc, List.append_assoc]
          refine mv_rc_ap c1 C (mv_rc_cg c1 C (fun x x1 x2 => ?_) k3) (mv_rc_ap c2 _ (mv_rc_cg c2 _ (fun x x1 x2 => ?_) l3) (mv_rc_ap [(lp_on (lp_sn n tp j), 0)] _ (mv_rc1 ?_ (by omega) (by omega) (fun z => by omega)) b3))
          · rw [b4 _ _ (by unfold lr_Q; omega), f4 _ _ (by unfold lr_Q; omega), l4 _ _ (by unfold lr_Q; omega), f2 _ _ (by unfold lr_Q; omega)]
          · rw [b4 _ _ (by unfold lr_Q; omega), f4 _ _ (by unfold lr_Q; omega)]
          · rw [b4 _ _ (by unfold lr_Q; omega)]
            exact c4
    · rw [if_neg q]
      have wA : mj_C sl (e + 5) 149 [.ref 45, .int 1, .int (nI j)] M1 = some (0, mj_st M1 45 8 (mv_fx (nI 1) (nI j))) := b_X9_wrongAt
      refine ⟨mj_st M1 45 8 (mv_fx (nI 1) (nI j)), ?_, mq_st_eq, (k4.wk (fun a k z => z.wk (by omega))).st (by unfold lr_Q; omega)⟩
      rw [b_X9_readsCompared, k1']
      simp only [Option.bind_some, s_10, if_false]
      rw [eH]
      simp only [Option.bind_some]
      rw [if_neg (by rw [e60]; omega), eH]
      simp only [Option.bind_some]
      rw [if_neg (by rw [e62]; omega), eH]
      simp only [Option.bind_some]
      rw [if_neg (by rw [e61]; omega), k2.1, wA]
      exact mv_wr
end LR6
