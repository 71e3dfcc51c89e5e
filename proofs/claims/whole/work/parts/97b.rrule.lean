def lr_QR (C r : Nat) (a k : Nat) : Prop := (a = 45 ∧ (k = 6 ∨ (8 ≤ k ∧ k ≤ 13))) ∨ (a = 51 ∧ C ≤ k) ∨ a = 52 ∨ ((53 ≤ a ∧ a ≤ 56) ∧ r ≤ k)
theorem lr_Q.qr {C a k : Nat} (h : lr_Q C a k) (r : Nat) : lr_QR C r a k := by unfold lr_Q at h; unfold lr_QR; omega
theorem lr_QR.wk {C r C2 r2 a k : Nat} (h : lr_QR C r a k) (hc : C2 ≤ C) (hr : r2 ≤ r) : lr_QR C2 r2 a k := by unfold lr_QR at *; omega
def lr_badR (x : Option (Int32 × mj_M)) (q p : Nat) (M0 : mj_M) : Prop := ∃ M', x = some (0, M') ∧ M' 45 8 = mv_fx (nI q) (nI p) ∧ mv_fr (lr_QR 0 0) M0 M'
def lr_OK (x : Option (Int32 × mj_M)) (n C r j kd : Nat) (ca cb : List (Nat × Nat)) (M0 : mj_M) : Prop := ∃ M', x = some (1, M') ∧ lr_S M' n j 0 [] (C + ca.length + cb.length) ∧ M' 45 13 = nI (r + 1) ∧ M' 53 r = nI kd ∧ M' 54 r = nI C ∧ M' 55 r = nI (C + ca.length) ∧ M' 56 r = nI (C + ca.length + cb.length) ∧ mv_rc (M' 51) C ca ∧ mv_rc (M' 51) (C + ca.length) cb ∧ mv_fr (lr_QR C r) M0 M'
def lr_RO (x : Option (Int32 × mj_M)) (n C r : Nat) (M0 : mj_M) (y : lp_RR) : Prop := match y with
  | .inl (q, p) => lr_badR x q p M0
  | .inr (j, kd, ca, cb) => lr_OK x n C r j kd ca cb M0
def lr_S0 (M : mj_M) (n i C : Nat) : Prop := M 45 6 = nI i ∧ M 45 7 = nI n ∧ M 45 11 = nI C ∧ i ≤ n
theorem lr_S.s0 {M : mj_M} {n i o C : Nat} {W : List (Nat × Nat)} (S : lr_S M n i o W C) : lr_S0 M n i C := ⟨S.1, S.2.1, S.2.2.2.1, S.2.2.2.2.2.2⟩
section LR8
variable {sl d e n o i C r : Nat} {tp : Nat → Nat} {W : List (Nat × Nat)} {M : mj_M}
theorem rr_116 {kd C0 : Nat} {ca : List (Nat × Nat)} {M0 : mj_M} {w1 : Value} (hn : n ≤ 240) (S : lr_S M n i 0 [] (C0 + ca.length)) (hC : C0 + ca.length ≤ i) (T : mv_Tb M tp) (h13 : M 45 13 = nI r) (hr : r < 16) (c53 : M 53 r = nI kd) (c54 : M 54 r = nI C0) (rc : mv_rc (M 51) C0 ca) (f0 : mv_fr (lr_QR C0 r) M0 M) : lr_RO (mj_E sl (e + 8) i_X9_readsRule 116 [.ref 45, w1] [] M) n C0 r M0 (lp_cond (lp_sn n tp) kd ca i) := by
  have hi := S.2.2.2.2.2.2
  have inR : mj_inB (nI r) 16 = true := mq_inT hr (by decide)
  have clR : (nI r).toNatClampNeg = r := nI_clamp (by omega)
  obtain ⟨M1, hM1⟩ : ∃ M1, M1 = mj_st M 55 r (nI (C0 + ca.length)) := ⟨_, rfl⟩
  have f1 : mv_fr (fun a k => a = 55 ∧ k = r) M M1 := by rw [hM1]; exact mv_fr.rf.st ⟨rfl, rfl⟩
  have S1 : lr_S M1 n i 0 [] (C0 + ca.length) := by
    obtain ⟨s1, s2, s3, s4, s5, s6, s7⟩ := S
    refine ⟨?_, ?_, ?_, ?_, ?_, trivial, s7⟩
    · rw [f1 _ _ (by omega)]; exact s1
    · rw [f1 _ _ (by omega)]; exact s2
    · rw [f1 _ _ (by omega)]; exact s3
    · rw [f1 _ _ (by omega)]; exact s4
    · rw [f1 _ _ (by omega)]; exact s5
  have T1 : mv_Tb M1 tp := T.fr f1 (fun a k z => by omega)
  have K := rr_cond (sl := sl) (e := e) (tp := tp) (kd := kd) (ca := ca) hn S1 hC T1
  have f01 : mv_fr (lr_QR C0 r) M0 M1 := f0.tr (f1.wk (fun a k z => by unfold lr_QR; omega))
  rw [b_X9_readsRule_116, h13, if_pos inR, clR, S.2.2.2.1, ← hM1]
  unfold lr_RO
  cases hr2 : lp_cond (lp_sn n tp) kd ca i with
  | inl x =>
    obtain ⟨q, p⟩ := x
    rw [hr2] at K
    obtain ⟨M', k1, k2, k3⟩ := K
    have k1' : mj_C sl (e + 7) 165 [.ref 45] M1 = some (0, M') := k1
    refine ⟨M', ?_, k2, (f01.wk (fun a k z => z.wk (by omega) (by omega))).tr (k3.wk (fun a k z => z.qr 0))⟩
    rw [k1']
    rfl
  | inr y =>
    obtain ⟨j, x⟩ := y
    rw [hr2] at K
    obtain ⟨M2, cb, rfl, k1, k2, k3, k4, k5⟩ := K
    have k1' : mj_C sl (e + 7) 165 [.ref 45] M1 = some (1, M2) := k1
    have g : ∀ a, 53 ≤ a → a ≤ 56 → ∀ k, M2 a k = M1 a k := fun a x1 x2 k => k4 _ _ (by unfold lr_Q; omega)
    have h13' : M2 45 13 = nI r := by rw [k4 _ _ (by unfold lr_Q; omega), f1 _ _ (by omega)]; exact h13
    obtain ⟨M3, hM3⟩ : ∃ M3, M3 = mj_st (mj_st M2 56 r (nI (C0 + ca.length + cb.length))) 45 13 (nI (r + 1)) := ⟨_, rfl⟩
    have f3 : mv_fr (fun a k => (a = 56 ∧ k = r) ∨ (a = 45 ∧ k = 13)) M2 M3 := by
      rw [hM3]; exact (mv_fr.rf.st (Or.inl ⟨rfl, rfl⟩)).st (Or.inr ⟨rfl, rfl⟩)
    refine ⟨M3, ?_, ?_, ?_, ?_, ?_, ?_, ?_, ?_, ?_, (f01.tr (k4.wk (fun a k z => (z.wk (by omega)).qr r))).tr (f3.wk (fun a k z => by unfold lr_QR; omega))⟩
    · rw [k1']
      simp only [Option.bind_some, s_10, if_false]
      rw [h13', if_pos inR, clR, k2.2.2.2.1, mq_st_ne (by omega), h13', s_addL, ← hM3]
    · obtain ⟨s1, s2, s3, s4, s5, s6, s7⟩ := k2
      refine ⟨?_, ?_, ?_, ?_, ?_, trivial, s7⟩
      · rw [f3 _ _ (by omega)]; exact s1
      · rw [f3 _ _ (by omega)]; exact s2
      · rw [f3 _ _ (by omega)]; exact s3
      · rw [f3 _ _ (by omega)]; exact s4
      · rw [f3 _ _ (by omega)]; exact s5
    · rw [hM3, mq_st_eq]
    · rw [f3 _ _ (by omega), g 53 (by omega) (by omega), f1 _ _ (by omega)]; exact c53
    · rw [f3 _ _ (by omega), g 54 (by omega) (by omega), f1 _ _ (by omega)]; exact c54
    · rw [f3 _ _ (by omega), g 55 (by omega) (by omega), hM1, mq_st_eq]
    · rw [hM3, mq_st_ne (by omega), mq_st_eq]
    · refine mv_rc_cg ca C0 (fun x x1 x2 => ?_) rc
      rw [f3 _ _ (by omega), k4 _ _ (by unfold lr_Q; omega), f1 _ _ (by omega)]
    · refine mv_rc_cg cb _ (fun x x1 x2 => ?_) k3
      rw [f3 _ _ (by omega)]
theorem rr_rule (hn : n ≤ 240) (S : lr_S0 M n i C) (hC : C ≤ i) (T : mv_Tb M tp) (h13 : M 45 13 = nI r) (hr : r ≤ 16) : lr_RO (mj_C sl (e + 8) i_X9_readsRule [.ref 45] M) n C r M (lp_R (lp_sn n tp) r i) := by
  have hi := S.2.2.2
  have h8 := (T i (by omega)).1
  have eH := r_here (sl := sl) (d := e + 7) S.1 S.2.1 hi (show n ≤ 260 by omega) T
  have k112 : (mv_hr n tp i = 112) = (lp_sn n tp i = 112) := lp_hrL (by decide) h8
  have k119 : (mv_hr n tp i = 119) = (lp_sn n tp i = 119) := lp_hrL (by decide) h8
  have k105 : (mv_hr n tp i = 105) = (lp_sn n tp i = 105) := lp_hrL (by decide) h8
  have k120 : (mv_hr n tp i = 120) = (lp_sn n tp i = 120) := lp_hrL (by decide) h8
  have wA : ∀ q : Nat, mj_C sl (e + 7) 149 [.ref 45, .int (nI q), .int (nI i)] M = some (0, mj_st M 45 8 (mv_fx (nI q) (nI i))) := fun q => b_X9_wrongAt
  unfold lp_R
  by_cases q : lp_sn n tp i = 112 ∨ lp_sn n tp i = 119 ∨ lp_sn n tp i = 105 ∨ lp_sn n tp i = 120
  · rw [if_pos q]
    have hlt : i < n := lp_sn_lt (tp := tp) (by omega)
    have E0 : mj_C sl (e + 8) i_X9_readsRule [.ref 45] M = mj_E sl (e + 8) 166 39 [.ref 45, .int (mv_hr n tp i)] [] M := by
      rw [b_X9_readsRule, eH]
      simp only [Option.bind_some]
      by_cases z1 : lp_sn n tp i = 112
      · rw [if_pos (by rw [k112]; exact z1)]
      rw [if_neg (by rw [k112]; exact z1)]
      by_cases z2 : lp_sn n tp i = 119
      · rw [if_pos (by rw [k119]; exact z2)]
      rw [if_neg (by rw [k119]; exact z2)]
      by_cases z3 : lp_sn n tp i = 105
      · rw [if_pos (by rw [k105]; exact z3)]
      rw [if_neg (by rw [k105]; exact z3), if_pos (by rw [k120]; omega)]
    rw [E0]
    by_cases q1 : r < 16
    · rw [if_pos q1]
      have inR : mj_inB (nI r) 16 = true := mq_inT q1 (by decide)
      have clR : (nI r).toNatClampNeg = r := nI_clamp (by omega)
      have n16 : ¬ nI r = 16 := by rw [s_eqL (by omega) (by decide)]; omega
      obtain ⟨s1, s2, s4, s7⟩ := id S
      obtain ⟨M1, hM1⟩ : ∃ M1, M1 = mj_st (mj_st (mj_st (mj_st (mj_st M 53 r (mv_hr n tp i)) 45 6 (nI (i + 1))) 54 r (nI C)) 45 10 0) 45 12 0 := ⟨_, rfl⟩
      have f1 : mv_fr (fun a k => (a = 53 ∧ k = r) ∨ (a = 54 ∧ k = r) ∨ (a = 45 ∧ (k = 6 ∨ k = 10 ∨ k = 12))) M M1 := by
        rw [hM1]; exact ((((mv_fr.rf.st (by omega)).st (by omega)).st (by omega)).st (by omega)).st (by omega)
      have S1 : lr_S M1 n (i + 1) 0 [] C := by
        refine ⟨?_, ?_, ?_, ?_, ?_, trivial, by omega⟩
        · rw [hM1]; simp (disch := omega) only [mq_st_ne, mq_st_eq]
        · rw [f1 _ _ (by omega)]; exact s2
        · rw [hM1, mq_st_ne (by omega), mq_st_eq]; rfl
        · rw [f1 _ _ (by omega)]; exact s4
        · rw [hM1, mq_st_eq]; rfl
      have T1 : mv_Tb M1 tp := T.fr f1 (fun a k z => by omega)
      have h13' : M1 45 13 = nI r := by rw [f1 _ _ (by omega)]; exact h13
      have c53 : M1 53 r = mv_hr n tp i := by rw [hM1]; simp (disch := omega) only [mq_st_ne, mq_st_eq]
      have c54 : M1 54 r = nI C := by rw [hM1]; simp (disch := omega) only [mq_st_ne, mq_st_eq]
      have E1 : mj_E sl (e + 8) 166 39 [.ref 45, .int (mv_hr n tp i)] [] M = if mv_hr n tp i = 120 then (mj_E sl (e + 8) 166 116 [.ref 45, .int (mv_hr n tp i)] [] M1) else ((mj_C sl (e + 7) 160 [.ref 45] M1).bind (fun q2 => if q2.1 = 0 then (some ((0 : Int32), q2.2)) else (mj_E sl (e + 8) 166 116 [.ref 45, .int (mv_hr n tp i)] [] q2.2))) := by
        rw [b_X9_readsRule_39]
        simp (disch := omega) only [mq_st_ne, h13, n16, if_false, inR, if_true, clR, s1, s_addL, s4]
        rw [← hM1]
      rw [E1]
      have f1' : mv_fr (lr_QR C r) M M1 := f1.wk (fun a k z => by unfold lr_QR; omega)
      by_cases q2 : lp_sn n tp i = 120
      · rw [if_pos (by rw [k120]; exact q2), if_pos q2]
        exact rr_116 (sl := sl) (e := e) (ca := []) hn S1 (by show C + 0 ≤ i + 1; omega) T1 h13' q1 (by rw [c53, lp_hrS (by omega), q2]) c54 trivial f1'
      · rw [if_neg (by rw [k120]; exact q2), if_neg q2]
        have K := rr_sum (sl := sl) (e := e + 2) (k := 6) (tp := tp) hn (by omega) (by omega) S1 (by show lr_h2 99; unfold lr_h2; omega) (by omega) (by show 0 ≤ i + 1; omega) T1
        have ok := lp_ok_S (n := n) (tp := tp) (lp_ok_F (n := n) (tp := tp) 6) (i + 1) (by omega)
        cases hr2 : lp_S (lp_sn n tp) (lp_F (lp_sn n tp) 6) (i + 1) with
        | inl x =>
          obtain ⟨qq, p⟩ := x
          rw [hr2] at K
          obtain ⟨M', k1, k2, k3⟩ := K
          have k1' : mj_C sl (e + 7) 160 [.ref 45] M1 = some (0, M') := k1
          refine ⟨M', ?_, k2, (f1'.wk (fun a k z => z.wk (by omega) (by omega))).tr (k3.wk (fun a k z => z.qr 0))⟩
          rw [k1']
          rfl
        | inr y =>
          obtain ⟨j, ca⟩ := y
          rw [hr2] at K ok
          obtain ⟨M2, k1, k2, k3, k4⟩ := K
          obtain ⟨m1, m2, m3, m4, m5⟩ := ok
          have k1' : mj_C sl (e + 7) 160 [.ref 45] M1 = some (1, M2) := k1
          have R := rr_116 (sl := sl) (e := e) (kd := lp_sn n tp i) (w1 := .int (mv_hr n tp i)) hn k2 (by omega) (lr_Tb T1 k4) (by rw [k4 _ _ (by unfold lr_Q; omega)]; exact h13') q1 (by rw [k4 _ _ (by unfold lr_Q; omega), c53, lp_hrS (by omega)]) (by rw [k4 _ _ (by unfold lr_Q; omega)]; exact c54) k3 (f1'.tr (k4.wk (fun a k z => z.qr r)))
          rw [k1']
          exact R
    · rw [if_neg q1]
      have r16 : r = 16 := by omega
      refine ⟨mj_st M 45 8 (mv_fx (nI 4) (nI i)), ?_, mq_st_eq, mv_fr.rf.st (by unfold lr_QR; omega)⟩
      have w4 : mj_C sl (e + 7) 149 [.ref 45, .int 4, .int (nI i)] M = some (0, mj_st M 45 8 (mv_fx (nI 4) (nI i))) := wA 4
      rw [b_X9_readsRule_39, h13, if_pos (by rw [r16]; rfl), S.1, w4]
      exact mv_wr
  · rw [if_neg q]
    refine ⟨mj_st M 45 8 (mv_fx (nI 1) (nI i)), ?_, mq_st_eq, mv_fr.rf.st (by unfold lr_QR; omega)⟩
    have w1 : mj_C sl (e + 7) 149 [.ref 45, .int 1, .int (nI i)] M = some (0, mj_st M 45 8 (mv_fx (nI 1) (nI i))) := wA 1
    rw [b_X9_readsRule, eH]
    simp only [Option.bind_some]
    rw [if_neg (by rw [k112]; omega), if_neg (by rw [k119]; omega), if_neg (by rw [k105]; omega), if_neg (by rw [k120]; omega), S.1, w1]
    exact mv_wr
end LR8
def lr_L (M : mj_M) (C : Nat) (rs : List lp_RU) : Prop := ∀ j x, rs[j]? = some x → M 53 j = nI x.1 ∧ ∃ Cx, M 54 j = nI Cx ∧ M 55 j = nI (Cx + x.2.1.length) ∧ M 56 j = nI (Cx + x.2.1.length + x.2.2.length) ∧ mv_rc (M 51) Cx x.2.1 ∧ mv_rc (M 51) (Cx + x.2.1.length) x.2.2 ∧ Cx + x.2.1.length + x.2.2.length ≤ C
def lr_QW (a k : Nat) : Prop := (a = 45 ∧ (k = 5 ∨ k = 6 ∨ (8 ≤ k ∧ k ≤ 13))) ∨ (51 ≤ a ∧ a ≤ 56)
section LR9
variable {sl d e n : Nat} {tp : Nat → Nat}
def lr_W (sl e n : Nat) (w1 w3 : Value) (M : mj_M) (y : (Nat × Nat) ⊕ List lp_RU) : Prop := match y with
  | .inl (q, p) => ∃ b M1 M', mj_C sl (e + 8) i_X9_readsRule [.ref 45] M = some (b, M1) ∧ (b = 0 ∨ b = 1) ∧ mj_E sl (e + 9) i_X9_law 31 [.ref 45, w1, .int b, w3] [] M1 = some (mv_fx (nI q) (nI p), M') ∧ M' 45 5 = 0 ∧ mv_fr lr_QW M M'
  | .inr rs' => ∃ b M1 M2 C, mj_C sl (e + 8) i_X9_readsRule [.ref 45] M = some (b, M1) ∧ (b = 0 ∨ b = 1) ∧ mj_E sl (e + 9) i_X9_law 31 [.ref 45, w1, .int b, w3] [] M1 = mj_E sl (e + 9) i_X9_law 95 [.ref 45, w1, .int 1, .int 0] [] (mj_st (mj_st M2 45 5 0) 45 14 (nI rs'.length)) ∧ lr_L M2 C rs' ∧ M2 45 11 = nI C ∧ C ≤ 240 ∧ M2 45 13 = nI rs'.length ∧ mv_fr lr_QW M M2
theorem r_law0 {M : mj_M} {w1 w3 : Value} {x : Int32} (h : M 45 8 = x) : mj_E sl (e + 9) i_X9_law 31 [.ref 45, w1, .int 0, w3] [] M = some (x, mj_st M 45 5 0) := by
  rw [b_X9_law_31, if_pos rfl, if_pos rfl, mq_st_ne (by omega), h]
theorem r_laws {w1 w3 : Value} (hn : n ≤ 240) : ∀ F i C (rs : List lp_RU) M, rs.length + F = 17 → rs.length ≤ 16 → lr_S0 M n i C → C ≤ i → mv_Tb M tp → M 45 13 = nI rs.length → lr_L M C rs → lr_W sl e n w1 w3 M (lp_lw n (lp_sn n tp) F i rs) := by
  intro F
  induction F with
  | zero =>
    intro i C rs M hF h16
    omega
  | succ F ih =>
    intro i C rs M hF h16 S hC T h13 LL
    have hi := S.2.2.2
    have K := rr_rule (sl := sl) (e := e) (tp := tp) hn S hC T h13 h16
    have ok := lp_ok_R (n := n) (i := i) (r := rs.length) (tp := tp) hi (fun j hj => (T j hj).1) hn
    unfold lp_lw
    unfold lr_RO at K
    cases hr : lp_R (lp_sn n tp) rs.length i with
    | inl x =>
      obtain ⟨q, p⟩ := x
      rw [hr] at K
      obtain ⟨M1, k1, k2, k3⟩ := K
      exact ⟨0, M1, mj_st M1 45 5 0, k1, Or.inl rfl, r_law0 k2, mq_st_eq, (k3.wk (fun a k z => by unfold lr_QR at z; unfold lr_QW; omega)).st (by unfold lr_QW; omega)⟩
    | inr y =>
      obtain ⟨j, kd, ca, cb⟩ := y
      rw [hr] at K ok
      obtain ⟨M1, k1, k2, k3, k4, k5, k6, k7, k8, k9, k10⟩ := K
      obtain ⟨m1, m2, m3, m4, m5, m6, m7⟩ := ok
      have hl16 : rs.length < 16 := by
        by_cases z : rs.length < 16
        · exact z
        · unfold lp_R at hr
          rw [if_neg z] at hr
          split at hr <;> cases hr
      have hl : (rs ++ [(kd, ca, cb)]).length = rs.length + 1 := by rw [List.length_append]; rfl
      have T1 : mv_Tb M1 tp := T.fr k10 (fun a k z => by unfold lr_QR at z; omega)
      have fw : mv_fr lr_QW M M1 := k10.wk (fun a k z => by unfold lr_QR at z; unfold lr_QW; omega)
      have LL1 : lr_L M1 (C + ca.length + cb.length) (rs ++ [(kd, ca, cb)]) := by
        intro y x hx
        by_cases z : y < rs.length
        · rw [List.getElem?_append_left z] at hx
          obtain ⟨b1, Cx, b2, b3, b4, b5, b6, b7⟩ := LL y x hx
          refine ⟨?_, Cx, ?_, ?_, ?_, ?_, ?_, by omega⟩
          · rw [k10 _ _ (by unfold lr_QR; omega)]; exact b1
          · rw [k10 _ _ (by unfold lr_QR; omega)]; exact b2
          · rw [k10 _ _ (by unfold lr_QR; omega)]; exact b3
          · rw [k10 _ _ (by unfold lr_QR; omega)]; exact b4
          · exact mv_rc_cg _ _ (fun u u1 u2 => k10 _ _ (by unfold lr_QR; omega)) b5
          · exact mv_rc_cg _ _ (fun u u1 u2 => k10 _ _ (by unfold lr_QR; omega)) b6
        · rw [List.getElem?_append_right (by omega)] at hx
          have z2 : y = rs.length := by
            by_cases w : y - rs.length = 0
            · omega
            · rw [List.getElem?_eq_none (by show 1 ≤ y - rs.length; omega)] at hx
              cases hx
          subst z2
          rw [Nat.sub_self] at hx
          have hx' : some (kd, ca, cb) = some x := hx
          injection hx' with hx'
          rw [← hx']
          exact ⟨k4, C, k5, k6, k7, k8, k9, Nat.le_refl _⟩
      dsimp only
      by_cases q : j < n
      · rw [if_pos q]
        have eH := rr_here (sl := sl) (d := e + 7) k2 hn T1
        have h8 := (T j (by omega)).1
        have e59 : (mv_hr n tp j = 59) = (lp_sn n tp j = 59) := lp_hrL (by decide) h8
        have E1 : mj_E sl (e + 9) i_X9_law 31 [.ref 45, w1, .int 1, w3] [] M1 = (mj_C sl (e + 8) 150 [.ref 45, .int 59] M1).bind (fun q1 => if q1.1 = 0 then (mj_E sl (e + 9) 168 31 [.ref 45, w1, .int 0, w3] [] q1.2) else ((mj_C sl (e + 8) 166 [.ref 45] q1.2).bind (fun q2 => if q2.1 = 0 then (mj_E sl (e + 9) 168 31 [.ref 45, w1, .int 0, w3] [] q2.2) else (mj_E sl (e + 9) 168 31 [.ref 45, w1, .int 1, w3] [] q2.2)))) := by
          rw [b_X9_law_31, if_neg mq_10, k2.1, k2.2.1, if_pos (by rw [s_lt (by omega) (by omega)]; exact q)]
        by_cases q2 : lp_sn n tp j = 59
        · rw [if_pos q2]
          have S2 := lr_at (j := j + 1) k2 (by omega)
          obtain ⟨M2, hM2⟩ : ∃ M2, M2 = mj_st M1 45 6 (nI (j + 1)) := ⟨_, rfl⟩
          rw [← hM2] at S2
          have f2 : mv_fr (fun a k => a = 45 ∧ k = 6) M1 M2 := by rw [hM2]; exact mv_fr.rf.st ⟨rfl, rfl⟩
          have et : mj_C sl (e + 8) 150 [.ref 45, .int 59] M1 = some (1, M2) := by
            rw [b_X9_takes, eH]
            simp only [Option.bind_some]
            rw [if_pos (by rw [e59]; exact q2), k2.1, s_addL, hM2]
          have LL2 : lr_L M2 (C + ca.length + cb.length) (rs ++ [(kd, ca, cb)]) := by
            have r1 : ∀ x, 51 ≤ x → M2 x = M1 x := fun x hx => by rw [hM2]; exact mq_st_row (by omega)
            intro y x hx
            rw [r1 51 (by omega), r1 53 (by omega), r1 54 (by omega), r1 55 (by omega), r1 56 (by omega)]
            exact LL1 y x hx
          have R := ih (j + 1) _ (rs ++ [(kd, ca, cb)]) M2 (by rw [hl]; omega) (by rw [hl]; omega) S2.s0 (by omega) (T1.fr f2 (fun a k z => by omega)) (by rw [f2 _ _ (by omega), hl]; exact k3) LL2
          rw [et] at E1
          simp only [Option.bind_some, s_10, if_false] at E1
          have f2w : mv_fr lr_QW M1 M2 := f2.wk (fun a k z => by unfold lr_QW; omega)
          unfold lr_W at R
          cases hq : lp_lw n (lp_sn n tp) F (j + 1) (rs ++ [(kd, ca, cb)]) with
          | inl x =>
            obtain ⟨qq, p⟩ := x
            rw [hq] at R
            obtain ⟨b, Ma, Mb, r1, r2, r3, r4, r5⟩ := R
            have r1' : mj_C sl (e + 8) 166 [.ref 45] M2 = some (b, Ma) := r1
            rw [r1'] at E1
            simp only [Option.bind_some] at E1
            refine ⟨1, M1, Mb, k1, Or.inr rfl, ?_, r4, (fw.tr f2w).tr r5⟩
            rcases r2 with r2 | r2
            · rw [E1, if_pos r2]; rw [r2] at r3; exact r3
            · rw [E1, if_neg (by rw [r2]; exact mq_10)]; rw [r2] at r3; exact r3
          | inr rs' =>
            rw [hq] at R
            obtain ⟨b, Ma, Mb, C', r1, r2, r3, r4, r5, r6, r7, r8⟩ := R
            have r1' : mj_C sl (e + 8) 166 [.ref 45] M2 = some (b, Ma) := r1
            rw [r1'] at E1
            simp only [Option.bind_some] at E1
            refine ⟨1, M1, Mb, C', k1, Or.inr rfl, ?_, r4, r5, r6, r7, (fw.tr f2w).tr r8⟩
            rcases r2 with r2 | r2
            · rw [E1, if_pos r2]; rw [r2] at r3; exact r3
            · rw [E1, if_neg (by rw [r2]; exact mq_10)]; rw [r2] at r3; exact r3
        · rw [if_neg q2]
          obtain ⟨w, hw⟩ : ∃ w, w = mv_fx (nI 1) (nI j) := ⟨_, rfl⟩
          have wA : mj_C sl (e + 7) 149 [.ref 45, .int 1, .int (nI j)] M1 = some (0, mj_st M1 45 8 w) := by rw [hw]; exact b_X9_wrongAt
          have et : mj_C sl (e + 8) 150 [.ref 45, .int 59] M1 = some (0, mj_st M1 45 8 w) := by
            rw [b_X9_takes, eH]
            simp only [Option.bind_some]
            rw [if_neg (by rw [e59]; exact q2), k2.1, wA]
            exact mv_wr
          rw [et] at E1
          simp only [Option.bind_some, if_true] at E1
          refine ⟨1, M1, mj_st (mj_st M1 45 8 w) 45 5 0, k1, Or.inr rfl, ?_, mq_st_eq, (fw.st (by unfold lr_QW; omega)).st (by unfold lr_QW; omega)⟩
          rw [E1, ← hw]
          exact r_law0 mq_st_eq
      · rw [if_neg q]
        refine ⟨1, M1, M1, C + ca.length + cb.length, k1, Or.inr rfl, ?_, LL1, k2.2.2.2.1, by omega, by rw [hl]; exact k3, fw⟩
        rw [b_X9_law_31, if_neg mq_10, k2.1, k2.2.1, if_neg (by rw [s_lt (by omega) (by omega)]; exact q), if_neg mq_10, mq_st_ne (by omega), k3, hl]
end LR9
