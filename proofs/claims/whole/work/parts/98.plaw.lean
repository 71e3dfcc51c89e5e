def lp_kd (rs : List lp_RU) (j : Nat) : Nat := ((rs[j]?).getD (0, [], [])).1
def lp_ca (rs : List lp_RU) (j : Nat) : List (Nat × Nat) := ((rs[j]?).getD (0, [], [])).2.1
def lp_cb (rs : List lp_RU) (j : Nat) : List (Nat × Nat) := ((rs[j]?).getD (0, [], [])).2.2
theorem lp_get {rs : List lp_RU} {j : Nat} (h : j < rs.length) : ∃ x, rs[j]? = some x ∧ x ∈ rs ∧ lp_kd rs j = x.1 ∧ lp_ca rs j = x.2.1 ∧ lp_cb rs j = x.2.2 := by
  refine ⟨rs[j], List.getElem?_eq_getElem h, List.getElem_mem h, ?_, ?_, ?_⟩
  · unfold lp_kd; rw [List.getElem?_eq_getElem h]; rfl
  · unfold lp_ca; rw [List.getElem?_eq_getElem h]; rfl
  · unfold lp_cb; rw [List.getElem?_eq_getElem h]; rfl
section PL1
variable {sl d e : Nat} {M : mj_M}
theorem r_c95 {C : Nat} {w1 w2 : Value} (h11 : M 45 11 = nI C) (hC : C ≤ 240) : ∃ M', mj_E sl (e + 9) i_X9_law 95 [.ref 45, w1, w2, .int 0] [] M = mj_E sl (e + 9) i_X9_law 123 [.ref 45, w1, w2, .int 0] [] M' ∧ mv_fr (fun a _ => a = 57) M M' ∧ ∀ j, j < C → M' 57 j = M 51 j := by
  have L : ∀ k, k ≤ C → ∀ M1, mv_fr (fun a _ => a = 57) M M1 → (∀ j, j < k → M1 57 j = M 51 j) → ∃ M', mj_E sl (e + 9) i_X9_law 95 [.ref 45, w1, w2, .int (nI k)] [] M1 = mj_E sl (e + 9) i_X9_law 123 [.ref 45, w1, w2, .int 0] [] M' ∧ mv_fr (fun a _ => a = 57) M M' ∧ ∀ j, j < C → M' 57 j = M 51 j := by
    refine mq_up ?_ ?_
    · intro M1 f h
      refine ⟨M1, ?_, f, h⟩
      rw [b_X9_law_95, f _ _ (by omega), h11, if_neg Int32.lt_irrefl]
    · intro k hk ih M1 f h
      have inK : mj_inB (nI k) 260 = true := mq_inT (by omega) (by decide)
      rw [b_X9_law_95, f 45 11 (by omega), h11, if_pos (by rw [s_lt (by omega) (by omega)]; exact hk), if_pos inK, if_pos inK, nI_clamp (by omega), s_addL]
      refine ih _ (f.st rfl) (fun j hj => ?_)
      by_cases z : j = k
      · rw [z, mq_st_eq, f _ _ (by omega)]
      · rw [mq_st_ne (by omega)]; exact h j (by omega)
  exact L 0 (by omega) M mv_fr.rf (fun j hj => by omega)
theorem r_c123 {r : Nat} {w1 w2 : Value} (h13 : M 45 13 = nI r) (hr : r ≤ 16) : ∃ M', mj_E sl (e + 9) i_X9_law 123 [.ref 45, w1, w2, .int 0] [] M = some (nI r, M') ∧ mv_fr (fun a _ => 58 ≤ a ∧ a ≤ 61) M M' ∧ ∀ j, j < r → M' 58 j = M 53 j ∧ M' 59 j = M 54 j ∧ M' 60 j = M 55 j ∧ M' 61 j = M 56 j := by
  have L : ∀ k, k ≤ r → ∀ M1, mv_fr (fun a _ => 58 ≤ a ∧ a ≤ 61) M M1 → (∀ j, j < k → M1 58 j = M 53 j ∧ M1 59 j = M 54 j ∧ M1 60 j = M 55 j ∧ M1 61 j = M 56 j) → ∃ M', mj_E sl (e + 9) i_X9_law 123 [.ref 45, w1, w2, .int (nI k)] [] M1 = some (nI r, M') ∧ mv_fr (fun a _ => 58 ≤ a ∧ a ≤ 61) M M' ∧ ∀ j, j < r → M' 58 j = M 53 j ∧ M' 59 j = M 54 j ∧ M' 60 j = M 55 j ∧ M' 61 j = M 56 j := by
    refine mq_up ?_ ?_
    · intro M1 f h
      refine ⟨M1, ?_, f, h⟩
      rw [b_X9_law_123, f _ _ (by omega), h13, if_neg Int32.lt_irrefl]
    · intro k hk ih M1 f h
      have inK : mj_inB (nI k) 16 = true := mq_inT (by omega) (by decide)
      have clK : (nI k).toNatClampNeg = k := nI_clamp (by omega)
      rw [b_X9_law_123, f 45 13 (by omega), h13, if_pos (by rw [s_lt (by omega) (by omega)]; exact hk)]
      simp (disch := omega) only [inK, clK, if_true, s_addL, mq_st_ne]
      refine ih _ ((((f.st (by omega)).st (by omega)).st (by omega)).st (by omega)) (fun j hj => ?_)
      by_cases z : j = k
      · subst z
        refine ⟨?_, ?_, ?_, ?_⟩
        · rw [mq_st_ne (by omega), mq_st_ne (by omega), mq_st_ne (by omega), mq_st_eq, f _ _ (by omega)]
        · rw [mq_st_ne (by omega), mq_st_ne (by omega), mq_st_eq, f _ _ (by omega)]
        · rw [mq_st_ne (by omega), mq_st_eq, f _ _ (by omega)]
        · rw [mq_st_eq, f _ _ (by omega)]
      · obtain ⟨h1, h2, h3, h4⟩ := h j (by omega)
        refine ⟨?_, ?_, ?_, ?_⟩
        · rw [mq_st_ne (by omega), mq_st_ne (by omega), mq_st_ne (by omega), mq_st_ne (by omega)]; exact h1
        · rw [mq_st_ne (by omega), mq_st_ne (by omega), mq_st_ne (by omega), mq_st_ne (by omega)]; exact h2
        · rw [mq_st_ne (by omega), mq_st_ne (by omega), mq_st_ne (by omega), mq_st_ne (by omega)]; exact h3
        · rw [mq_st_ne (by omega), mq_st_ne (by omega), mq_st_ne (by omega), mq_st_ne (by omega)]; exact h4
  exact L 0 (by omega) M mv_fr.rf (fun j hj => by omega)
def mv_Qlw (a k : Nat) : Prop := (a = 28 ∧ 1 ≤ k ∧ k ≤ 4) ∨ ((a = 29 ∨ a = 38) ∧ (k = 6 ∨ k = 7)) ∨ a = 30 ∨ a = 33 ∨ a = 34 ∨ a = 35 ∨ a = 39 ∨ a = 42 ∨ a = 43 ∨ a = 44 ∨ (a = 21 ∧ k = 1) ∨ (a = 0 ∧ k = 9) ∨ (a = 45 ∧ 5 ≤ k ∧ k ≤ 14) ∨ (51 ≤ a ∧ a ≤ 61)
theorem mv_DR (h : (M 0 9 = 0 ∧ M 28 1 = 1) ∨ (M 0 9 = 1 ∧ M 28 1 = 0)) : ∃ D R, ((D = 29 ∧ R = 38) ∨ (D = 38 ∧ R = 29)) ∧ M 28 1 = mv_di D ∧ M 0 9 = mv_di R := by
  rcases h with ⟨h1, h2⟩ | ⟨h1, h2⟩
  · exact ⟨38, 29, Or.inr ⟨rfl, rfl⟩, h2, h1⟩
  · exact ⟨29, 38, Or.inl ⟨rfl, rfl⟩, h2, h1⟩
theorem mv_di_or {D R : Nat} {a b : Int32} (h : (D = 29 ∧ R = 38) ∨ (D = 38 ∧ R = 29)) (ha : a = mv_di R) (hb : b = mv_di D) : (a = 0 ∧ b = 1) ∨ (a = 1 ∧ b = 0) := by
  rw [ha, hb]
  rcases h with ⟨rfl, rfl⟩ | ⟨rfl, rfl⟩
  · exact Or.inr ⟨rfl, rfl⟩
  · exact Or.inl ⟨rfl, rfl⟩
theorem p_law_29 {n : Nat} {tp : Nat → Nat} {x : Int32} (T : mv_Tp M n tp) (LW : mv_Lw M) (h74 : M 74 = mj_bt) (eD : M 28 1 = mv_di 29) (eR : M 0 9 = mv_di 38) : ∃ v M1 M2, mj_C sl (d + 50) i_X8_law [.ref 0, .int x] M = some (v, M1) ∧ M1 72 = M 72 ∧ mj_C sl (d + 50) i_X9_law [.ref 45, .int x] M1 = some (v, M2) ∧ mv_fr mv_Qlw M M2 ∧ (∃ n', mv_Tp M2 n' tp) ∧ mv_Lw M2 := by
  obtain ⟨t1, t2, t3, t4⟩ := id T
  obtain ⟨l1, nr, kd, ca, cb, LS, lc, lr⟩ := id LW
  by_cases hx : ¬ x < 1 ∧ x ≤ 240 ∧ x ≤ nI n
  · obtain ⟨x1, x2, x3⟩ := hx
    obtain ⟨g, hg, rfl⟩ := nI_of2 (n := 240) (by decide) (fun w => x1 (Int32.lt_trans w (by decide))) x2
    have hD : 29 = 29 ∨ 29 = 38 := by decide
    have hR : 38 = 29 ∨ 38 = 38 := by decide
    have lwR : mj_lw (M 0 9) = 38 := by rw [eR]; exact mv_lwD hR
    rw [lwR] at lc
    have hD0 : mj_ocl 29 = 1 := rfl
    obtain ⟨Ma, hMa⟩ : ∃ Ma, Ma = mj_st (mj_st (mj_st M 28 2 (nI g)) 28 3 0) 28 4 0 := ⟨_, rfl⟩
    obtain ⟨Mb, hMb⟩ : ∃ Mb, Mb = mj_st (mj_st Ma 29 6 0) 29 7 0 := ⟨_, rfl⟩
    have fa : mv_fr (fun a k => a = 28 ∧ 2 ≤ k ∧ k ≤ 4) M Ma := by
      rw [hMa]; exact ((mv_fr.rf.st (by omega)).st (by omega)).st (by omega)
    have fb : mv_fr (fun a k => a = 29 ∧ (k = 6 ∨ k = 7)) Ma Mb := by
      rw [hMb]; exact (mv_fr.rf.st (by omega)).st (by omega)
    have fab : mv_fr (fun a k => (a = 28 ∧ 2 ≤ k ∧ k ≤ 4) ∨ (a = 29 ∧ (k = 6 ∨ k = 7))) M Mb := (fa.wk (fun a k z => Or.inl z)).tr (fb.wk (fun a k z => Or.inr z))
    have Sb : lc_S Mb 29 g 0 0 0 := by
      refine ⟨?_, ?_, ?_, ?_, ?_, by omega, by omega⟩
      · rw [fab _ _ (by omega)]; exact eD
      · rw [fb _ _ (by omega), hMa]; simp (disch := omega) only [mq_st_ne, mq_st_eq]
      · rw [fb _ _ (by omega), hMa]; simp (disch := omega) only [mq_st_ne, mq_st_eq]; rfl
      · rw [fb _ _ (by omega), hMa, mq_st_eq]
      · rw [hMb, mq_st_ne (by omega), mq_st_eq]; rfl
    have Tb : mv_Tb Mb tp := mv_Tb.fr t4 fab (fun a k z => by omega)
    have b74 : Mb 74 = mj_bt := by rw [← h74]; exact funext (fun k => fab 74 k (by omega))
    obtain ⟨Mc, v, c1, c2, c3⟩ := c_laws (sl := sl) (d := d) (w1 := .int (nI g)) (tp := tp) hD hg 17 0 0 [] Mb rfl (by decide) Sb (by omega) Tb b74 (by rw [hMb, mq_st_eq]; rfl) (fun j x hx => by simp at hx)
    have okl := lp_ok_lw (n := g) (tp := tp) hg (fun j hj => (t4 j hj).1) 17 0 [] (by omega) rfl (fun x hx => absurd hx List.not_mem_nil)
    have c1' : mj_C sl (d + 49) 47 [.ref 28, .int (nI g)] M = some (v, Mc) := by
      rw [b_X4_readLaw, ← hMa]
      have e1 : Ma 28 1 = mv_di 29 := by rw [fa _ _ (by omega)]; exact eD
      rw [e1, mv_lwD hD, b_X3_begin hD0, ← hMb]
      exact c1
    have fc : mv_fr (fun a k => (a = 28 ∧ 2 ≤ k ∧ k ≤ 4) ∨ (a = 29 ∧ (k = 6 ∨ k = 7)) ∨ a = 29 + 1 ∨ a = 29 + 4 ∨ a = 29 + 5 ∨ a = 29 + 6) M Mc := (fab.wk (fun a k z => by omega)).tr (c2.wk (fun a k z => by unfold lc_QR at z; omega))
    have C0 : mj_C sl (d + 50) i_X8_law [.ref 0, .int (nI g)] M = if v ≤ 0 then some (v, mj_st Mc 21 1 0) else some (v, mj_st (mj_st (mj_st Mc 21 1 0) 28 1 (mv_di 38)) 0 9 (mv_di 29)) := by
      have e9 : mj_lw ((mj_st Mc 21 1 0) 0 9) = 38 := by rw [mq_st_ne (by omega), fc _ _ (by omega)]; exact lwR
      have e1 : mj_lw ((mj_st Mc 21 1 0) 28 1) = 29 := by rw [mq_st_ne (by omega), fc _ _ (by omega), eD]; exact mv_lwD hD
      rw [b_X8_law, b_X7_has, t1]
      simp only [x1, x2, x3, if_true, if_false, Option.bind_some, s_10]
      rw [c1']
      simp only [Option.bind_some]
      rw [e9, e1]
      rfl
    have run : ∀ X : mj_M, X 45 5 = nI n → mv_Tb X tp → ∃ Xb, mv_fr (fun a k => a = 45 ∧ (k = 6 ∨ k = 7 ∨ k = 11 ∨ k = 13)) X Xb ∧ mj_C sl (d + 50) i_X9_law [.ref 45, .int (nI g)] X = (mj_C sl (d + 49) i_X9_readsRule [.ref 45] Xb).bind (fun q3 => mj_E sl (d + 50) i_X9_law 31 [.ref 45, .int (nI g), .int q3.1, .null] [] q3.2) ∧ lr_W sl (d + 41) g (.int (nI g)) .null Xb (lp_lw g (lp_sn g tp) 17 0 []) := by
      intro X h5 TX
      obtain ⟨Xb, hXb⟩ : ∃ Xb, Xb = mj_st (mj_st (mj_st (mj_st X 45 6 0) 45 7 (nI g)) 45 11 0) 45 13 0 := ⟨_, rfl⟩
      have fx : mv_fr (fun a k => a = 45 ∧ (k = 6 ∨ k = 7 ∨ k = 11 ∨ k = 13)) X Xb := by
        rw [hXb]; exact (((mv_fr.rf.st (by omega)).st (by omega)).st (by omega)).st (by omega)
      refine ⟨Xb, fx, ?_, ?_⟩
      · rw [b_X9_law, r_in]
        simp only [x1, x2, if_true, if_false, Option.bind_some, s_10]
        rw [h5, if_pos x3, b_X9_beginsText]
        simp only [Option.bind_some]
        rw [← hXb]
      · refine r_laws (sl := sl) (e := d + 41) (tp := tp) hg 17 0 0 [] Xb rfl (by decide) ⟨?_, ?_, ?_, by omega⟩ (by omega) (TX.fr fx (fun a k z => by omega)) ?_ (fun j x hx => by simp at hx)
        · rw [hXb]; simp (disch := omega) only [mq_st_ne, mq_st_eq]; rfl
        · rw [hXb]; simp (disch := omega) only [mq_st_ne, mq_st_eq]
        · rw [hXb]; simp (disch := omega) only [mq_st_ne, mq_st_eq]; rfl
        · rw [hXb, mq_st_eq]; rfl
    have fxr : ∀ (X X2 : mj_M), mv_fr (fun a k => (a = 45 ∧ 5 ≤ k ∧ k ≤ 14) ∨ (51 ≤ a ∧ a ≤ 61)) X X2 → mv_fr mv_Qlw M X → mv_fr mv_Qlw M X2 := fun X X2 f h => h.tr (f.wk (fun a k z => by unfold mv_Qlw; omega))
    have Tq : ∀ a k, mv_Qlw a k → a ≠ 22 ∧ a ≠ 50 := fun a k z => by unfold mv_Qlw at z; omega
    cases hl : lp_lw g (lp_sn g tp) 17 0 [] with
    | inl y =>
      obtain ⟨q, p⟩ := y
      rw [hl] at c3 okl
      have c3 : v = mv_fx (nI q) (nI p) := c3
      have okl : (q = 1 ∨ q = 2 ∨ q = 4 ∨ q = 5) ∧ p ≤ g := okl
      have hv : v ≤ 0 := by rw [c3]; exact (mv_fxn4 okl.1 (by omega)).2
      rw [if_pos hv] at C0
      have f1 : mv_fr (fun a k => (a = 28 ∧ 2 ≤ k ∧ k ≤ 4) ∨ (a = 29 ∧ (k = 6 ∨ k = 7)) ∨ a = 29 + 1 ∨ a = 29 + 4 ∨ a = 29 + 5 ∨ a = 29 + 6 ∨ (a = 21 ∧ k = 1)) M (mj_st Mc 21 1 0) := (fc.wk (fun a k z => by omega)).st (by omega)
      have f1q : mv_fr mv_Qlw M (mj_st Mc 21 1 0) := f1.wk (fun a k z => by unfold mv_Qlw; omega)
      obtain ⟨Xb, g1, g2, g3⟩ := run (mj_st Mc 21 1 0) (by rw [f1 _ _ (by omega)]; exact t2) (mv_Tb.fr t4 f1 (fun a k z => by omega))
      rw [hl] at g3
      obtain ⟨b, M1, M', r1, r2, r3, r4, r5⟩ := g3
      have r1' : mj_C sl (d + 49) i_X9_readsRule [.ref 45] Xb = some (b, M1) := r1
      have f2 : mv_fr (fun a k => (a = 45 ∧ 5 ≤ k ∧ k ≤ 13) ∨ (51 ≤ a ∧ a ≤ 56)) (mj_st Mc 21 1 0) M' := (g1.wk (fun a k z => by omega)).tr (r5.wk (fun a k z => by unfold lr_QW at z; omega))
      have fM : mv_fr mv_Qlw M M' := fxr _ _ (f2.wk (fun a k z => by omega)) f1q
      refine ⟨v, mj_st Mc 21 1 0, M', C0, mq_72 f1q (fun k z => by unfold mv_Qlw at z; omega), ?_, fM, ⟨0, ?_, ?_, by omega, mv_Tb.fr t4 fM Tq⟩, ?_⟩
      · rw [g2, r1', c3]
        exact r3
      · rw [f2 _ _ (by omega), mq_st_eq]; rfl
      · rw [r4]; rfl
      · have e9 : M' 0 9 = M 0 9 := by rw [f2 _ _ (by omega), f1 _ _ (by omega)]
        have e1 : M' 28 1 = M 28 1 := by rw [f2 _ _ (by omega), f1 _ _ (by omega)]
        refine ⟨by rw [e9, e1]; exact l1, nr, kd, ca, cb, LS, ?_, (lr.fr f1 (fun a k z => by omega)).fr f2 (fun a k z => by omega)⟩
        rw [e9, lwR]
        exact (lc.fr f1 (fun a k z => by omega)).fr f2 (fun a k z => by omega)
    | inr rs =>
      rw [hl] at c3 okl
      obtain ⟨c3, L', b1, b2, b3, b4⟩ := c3
      obtain ⟨o1, o2, o3⟩ := okl
      have hv : ¬ v ≤ 0 := by
        rw [c3]
        intro z
        have z' : nI rs.length ≤ nI 0 := z
        rw [s_le (by omega) (by omega)] at z'
        omega
      rw [if_neg hv] at C0
      obtain ⟨M1, hM1⟩ : ∃ M1, M1 = mj_st (mj_st (mj_st Mc 21 1 0) 28 1 (mv_di 38)) 0 9 (mv_di 29) := ⟨_, rfl⟩
      rw [← hM1] at C0
      have fM1 : mv_fr (fun a k => (a = 21 ∧ k = 1) ∨ (a = 28 ∧ k = 1) ∨ (a = 0 ∧ k = 9)) Mc M1 := by
        rw [hM1]; exact ((mv_fr.rf.st (by omega)).st (by omega)).st (by omega)
      have f1q : mv_fr mv_Qlw M M1 := (fc.wk (fun a k z => by unfold mv_Qlw; omega)).tr (fM1.wk (fun a k z => by unfold mv_Qlw; omega))
      obtain ⟨Xb, g1, g2, g3⟩ := run M1 (by rw [fM1 _ _ (by omega), fc _ _ (by omega)]; exact t2) (mv_Tb.fr t4 f1q Tq)
      rw [hl] at g3
      obtain ⟨b, Mr1, Mr2, C, r1, r2, r3, r4, r5, r6, r7, r8⟩ := g3
      have r1' : mj_C sl (d + 49) i_X9_readsRule [.ref 45] Xb = some (b, Mr1) := r1
      obtain ⟨Mr3, hMr3⟩ : ∃ Mr3, Mr3 = mj_st (mj_st Mr2 45 5 0) 45 14 (nI rs.length) := ⟨_, rfl⟩
      rw [← hMr3] at r3
      have f3 : mv_fr (fun a k => a = 45 ∧ (k = 5 ∨ k = 14)) Mr2 Mr3 := by
        rw [hMr3]; exact (mv_fr.rf.st (by omega)).st (by omega)
      obtain ⟨Mr4, s1, s2, s3⟩ := r_c95 (sl := sl) (e := d + 41) (M := Mr3) (C := C) (w1 := .int (nI g)) (w2 := .int 1) (by rw [f3 _ _ (by omega)]; exact r5) r6
      obtain ⟨Mr5, u1, u2, u3⟩ := r_c123 (sl := sl) (e := d + 41) (M := Mr4) (r := rs.length) (w1 := .int (nI g)) (w2 := .int 1) (by rw [s2 _ _ (by omega), f3 _ _ (by omega)]; exact r7) o2
      have fR : mv_fr (fun a k => (a = 45 ∧ 5 ≤ k ∧ k ≤ 14) ∨ (51 ≤ a ∧ a ≤ 61)) M1 Mr5 := ((((g1.wk (fun a k z => by omega)).tr (r8.wk (fun a k z => by unfold lr_QW at z; omega))).tr (f3.wk (fun a k z => by omega))).tr (s2.wk (fun a k z => by omega))).tr (u2.wk (fun a k z => by omega))
      have fM : mv_fr mv_Qlw M Mr5 := fxr _ _ fR f1q
      refine ⟨v, M1, Mr5, C0, mq_72 f1q (fun k z => by unfold mv_Qlw at z; omega), ?_, fM, ⟨0, ?_, ?_, by omega, mv_Tb.fr t4 fM Tq⟩, ?_⟩
      · rw [g2, r1', c3]
        exact (r3.trans s1).trans u1
      · rw [fR _ _ (by omega), hM1, mq_st_ne (by omega), mq_st_ne (by omega), mq_st_eq]; rfl
      · rw [u2 _ _ (by omega), s2 _ _ (by omega), hMr3, mq_st_ne (by omega), mq_st_eq]; rfl
      · have e9 : Mr5 0 9 = mv_di 29 := by rw [fR _ _ (by omega), hM1, mq_st_eq]
        have e1 : Mr5 28 1 = mv_di 38 := by rw [fR _ _ (by omega), hM1, mq_st_ne (by omega), mq_st_eq]
        refine ⟨mv_di_or (D := 38) (R := 29) (by decide) e9 e1, rs.length, lp_kd rs, lp_ca rs, lp_cb rs, ⟨o2, fun j hj => ?_⟩, ?_, ?_, fun j hj => ?_⟩
        · obtain ⟨x, x1, x2, x3, x4, x5⟩ := lp_get hj
          rw [x3, x4, x5]
          exact o3 x x2
        · rw [e9, mv_lwD hD]
          have gD : ∀ a k, a = 29 ∨ a = 29 + 1 ∨ a = 29 + 4 ∨ a = 29 + 5 ∨ a = 29 + 6 → Mr5 a k = Mc a k := fun a k z => by rw [fR _ _ (by omega), fM1 _ _ (by omega)]
          have gR : ∀ a, a = 29 ∨ a = 29 + 1 ∨ a = 29 + 4 ∨ a = 29 + 5 ∨ a = 29 + 6 → Mr5 a = Mc a := fun a z => funext (fun k => gD a k z)
          refine ⟨by rw [gD _ _ (by omega)]; exact b3, L', b1, by rw [gD _ _ (by omega)]; exact b2, fun j hj => ?_⟩
          obtain ⟨x, x1, x2, x3, x4, x5⟩ := lp_get hj
          rw [gR (29 + 1) (by omega), gR (29 + 4) (by omega), gR (29 + 5) (by omega), gR (29 + 6) (by omega), x3, x4, x5]
          exact b4 j x x1
        · rw [u2 _ _ (by omega), s2 _ _ (by omega), hMr3, mq_st_eq]
        · obtain ⟨x, x1, x2, x3, x4, x5⟩ := lp_get hj
          obtain ⟨v1, v2, v3, v4⟩ := u3 j hj
          obtain ⟨w1, Cx, w2, w3, w4, w5, w6, w7⟩ := r4 j x x1
          have g4 : ∀ a k, 51 ≤ a → a ≤ 56 → Mr4 a k = Mr2 a k := fun a k z1 z2 => by rw [s2 _ _ (by omega), f3 _ _ (by omega)]
          have g57 : ∀ k, k < C → Mr5 57 k = Mr2 51 k := fun k hk => by rw [u2 _ _ (by omega), s3 k hk, f3 _ _ (by omega)]
          rw [x3, x4, x5, v1, v2, v3, v4, g4 53 j (by omega) (by omega), g4 54 j (by omega) (by omega), g4 55 j (by omega) (by omega), g4 56 j (by omega) (by omega)]
          exact ⟨w1, Cx, w2, w3, w4, mv_rc_cg _ _ (fun y y1 y2 => g57 y (by omega)) w5, mv_rc_cg _ _ (fun y y1 y2 => g57 y (by omega)) w6, by omega⟩
  · refine ⟨-1, M, M, ?_, rfl, ?_, mv_fr.rf, ⟨n, T⟩, LW⟩
    · rw [b_X8_law, b_X7_has, t1]
      by_cases x1 : x < 1
      · simp only [x1, if_true, Option.bind_some]
      by_cases x2 : x ≤ 240
      · by_cases x3 : x ≤ nI n
        · exact absurd ⟨x1, x2, x3⟩ hx
        · simp only [x1, x2, x3, if_true, if_false, Option.bind_some]
      · simp only [x1, x2, if_true, if_false, Option.bind_some]
    · rw [b_X9_law, r_in]
      by_cases x1 : x < 1
      · simp only [x1, if_true, Option.bind_some]
      by_cases x2 : x ≤ 240
      · by_cases x3 : x ≤ nI n
        · exact absurd ⟨x1, x2, x3⟩ hx
        · simp only [x1, x2, x3, t2, if_true, if_false, Option.bind_some, s_10]
      · simp only [x1, x2, if_true, if_false, Option.bind_some]
theorem p_law_38 {n : Nat} {tp : Nat → Nat} {x : Int32} (T : mv_Tp M n tp) (LW : mv_Lw M) (h74 : M 74 = mj_bt) (eD : M 28 1 = mv_di 38) (eR : M 0 9 = mv_di 29) : ∃ v M1 M2, mj_C sl (d + 50) i_X8_law [.ref 0, .int x] M = some (v, M1) ∧ M1 72 = M 72 ∧ mj_C sl (d + 50) i_X9_law [.ref 45, .int x] M1 = some (v, M2) ∧ mv_fr mv_Qlw M M2 ∧ (∃ n', mv_Tp M2 n' tp) ∧ mv_Lw M2 := by
  obtain ⟨t1, t2, t3, t4⟩ := id T
  obtain ⟨l1, nr, kd, ca, cb, LS, lc, lr⟩ := id LW
  by_cases hx : ¬ x < 1 ∧ x ≤ 240 ∧ x ≤ nI n
  · obtain ⟨x1, x2, x3⟩ := hx
    obtain ⟨g, hg, rfl⟩ := nI_of2 (n := 240) (by decide) (fun w => x1 (Int32.lt_trans w (by decide))) x2
    have hD : 38 = 29 ∨ 38 = 38 := by decide
    have hR : 29 = 29 ∨ 29 = 38 := by decide
    have lwR : mj_lw (M 0 9) = 29 := by rw [eR]; exact mv_lwD hR
    rw [lwR] at lc
    have hD0 : mj_ocl 38 = 1 := rfl
    obtain ⟨Ma, hMa⟩ : ∃ Ma, Ma = mj_st (mj_st (mj_st M 28 2 (nI g)) 28 3 0) 28 4 0 := ⟨_, rfl⟩
    obtain ⟨Mb, hMb⟩ : ∃ Mb, Mb = mj_st (mj_st Ma 38 6 0) 38 7 0 := ⟨_, rfl⟩
    have fa : mv_fr (fun a k => a = 28 ∧ 2 ≤ k ∧ k ≤ 4) M Ma := by
      rw [hMa]; exact ((mv_fr.rf.st (by omega)).st (by omega)).st (by omega)
    have fb : mv_fr (fun a k => a = 38 ∧ (k = 6 ∨ k = 7)) Ma Mb := by
      rw [hMb]; exact (mv_fr.rf.st (by omega)).st (by omega)
    have fab : mv_fr (fun a k => (a = 28 ∧ 2 ≤ k ∧ k ≤ 4) ∨ (a = 38 ∧ (k = 6 ∨ k = 7))) M Mb := (fa.wk (fun a k z => Or.inl z)).tr (fb.wk (fun a k z => Or.inr z))
    have Sb : lc_S Mb 38 g 0 0 0 := by
      refine ⟨?_, ?_, ?_, ?_, ?_, by omega, by omega⟩
      · rw [fab _ _ (by omega)]; exact eD
      · rw [fb _ _ (by omega), hMa]; simp (disch := omega) only [mq_st_ne, mq_st_eq]
      · rw [fb _ _ (by omega), hMa]; simp (disch := omega) only [mq_st_ne, mq_st_eq]; rfl
      · rw [fb _ _ (by omega), hMa, mq_st_eq]
      · rw [hMb, mq_st_ne (by omega), mq_st_eq]; rfl
    have Tb : mv_Tb Mb tp := mv_Tb.fr t4 fab (fun a k z => by omega)
    have b74 : Mb 74 = mj_bt := by rw [← h74]; exact funext (fun k => fab 74 k (by omega))
    obtain ⟨Mc, v, c1, c2, c3⟩ := c_laws (sl := sl) (d := d) (w1 := .int (nI g)) (tp := tp) hD hg 17 0 0 [] Mb rfl (by decide) Sb (by omega) Tb b74 (by rw [hMb, mq_st_eq]; rfl) (fun j x hx => by simp at hx)
    have okl := lp_ok_lw (n := g) (tp := tp) hg (fun j hj => (t4 j hj).1) 17 0 [] (by omega) rfl (fun x hx => absurd hx List.not_mem_nil)
    have c1' : mj_C sl (d + 49) 47 [.ref 28, .int (nI g)] M = some (v, Mc) := by
      rw [b_X4_readLaw, ← hMa]
      have e1 : Ma 28 1 = mv_di 38 := by rw [fa _ _ (by omega)]; exact eD
      rw [e1, mv_lwD hD, b_X3_begin hD0, ← hMb]
      exact c1
    have fc : mv_fr (fun a k => (a = 28 ∧ 2 ≤ k ∧ k ≤ 4) ∨ (a = 38 ∧ (k = 6 ∨ k = 7)) ∨ a = 38 + 1 ∨ a = 38 + 4 ∨ a = 38 + 5 ∨ a = 38 + 6) M Mc := (fab.wk (fun a k z => by omega)).tr (c2.wk (fun a k z => by unfold lc_QR at z; omega))
    have C0 : mj_C sl (d + 50) i_X8_law [.ref 0, .int (nI g)] M = if v ≤ 0 then some (v, mj_st Mc 21 1 0) else some (v, mj_st (mj_st (mj_st Mc 21 1 0) 28 1 (mv_di 29)) 0 9 (mv_di 38)) := by
      have e9 : mj_lw ((mj_st Mc 21 1 0) 0 9) = 29 := by rw [mq_st_ne (by omega), fc _ _ (by omega)]; exact lwR
      have e1 : mj_lw ((mj_st Mc 21 1 0) 28 1) = 38 := by rw [mq_st_ne (by omega), fc _ _ (by omega), eD]; exact mv_lwD hD
      rw [b_X8_law, b_X7_has, t1]
      simp only [x1, x2, x3, if_true, if_false, Option.bind_some, s_10]
      rw [c1']
      simp only [Option.bind_some]
      rw [e9, e1]
      rfl
    have run : ∀ X : mj_M, X 45 5 = nI n → mv_Tb X tp → ∃ Xb, mv_fr (fun a k => a = 45 ∧ (k = 6 ∨ k = 7 ∨ k = 11 ∨ k = 13)) X Xb ∧ mj_C sl (d + 50) i_X9_law [.ref 45, .int (nI g)] X = (mj_C sl (d + 49) i_X9_readsRule [.ref 45] Xb).bind (fun q3 => mj_E sl (d + 50) i_X9_law 31 [.ref 45, .int (nI g), .int q3.1, .null] [] q3.2) ∧ lr_W sl (d + 41) g (.int (nI g)) .null Xb (lp_lw g (lp_sn g tp) 17 0 []) := by
      intro X h5 TX
      obtain ⟨Xb, hXb⟩ : ∃ Xb, Xb = mj_st (mj_st (mj_st (mj_st X 45 6 0) 45 7 (nI g)) 45 11 0) 45 13 0 := ⟨_, rfl⟩
      have fx : mv_fr (fun a k => a = 45 ∧ (k = 6 ∨ k = 7 ∨ k = 11 ∨ k = 13)) X Xb := by
        rw [hXb]; exact (((mv_fr.rf.st (by omega)).st (by omega)).st (by omega)).st (by omega)
      refine ⟨Xb, fx, ?_, ?_⟩
      · rw [b_X9_law, r_in]
        simp only [x1, x2, if_true, if_false, Option.bind_some, s_10]
        rw [h5, if_pos x3, b_X9_beginsText]
        simp only [Option.bind_some]
        rw [← hXb]
      · refine r_laws (sl := sl) (e := d + 41) (tp := tp) hg 17 0 0 [] Xb rfl (by decide) ⟨?_, ?_, ?_, by omega⟩ (by omega) (TX.fr fx (fun a k z => by omega)) ?_ (fun j x hx => by simp at hx)
        · rw [hXb]; simp (disch := omega) only [mq_st_ne, mq_st_eq]; rfl
        · rw [hXb]; simp (disch := omega) only [mq_st_ne, mq_st_eq]
        · rw [hXb]; simp (disch := omega) only [mq_st_ne, mq_st_eq]; rfl
        · rw [hXb, mq_st_eq]; rfl
    have fxr : ∀ (X X2 : mj_M), mv_fr (fun a k => (a = 45 ∧ 5 ≤ k ∧ k ≤ 14) ∨ (51 ≤ a ∧ a ≤ 61)) X X2 → mv_fr mv_Qlw M X → mv_fr mv_Qlw M X2 := fun X X2 f h => h.tr (f.wk (fun a k z => by unfold mv_Qlw; omega))
    have Tq : ∀ a k, mv_Qlw a k → a ≠ 22 ∧ a ≠ 50 := fun a k z => by unfold mv_Qlw at z; omega
    cases hl : lp_lw g (lp_sn g tp) 17 0 [] with
    | inl y =>
      obtain ⟨q, p⟩ := y
      rw [hl] at c3 okl
      have c3 : v = mv_fx (nI q) (nI p) := c3
      have okl : (q = 1 ∨ q = 2 ∨ q = 4 ∨ q = 5) ∧ p ≤ g := okl
      have hv : v ≤ 0 := by rw [c3]; exact (mv_fxn4 okl.1 (by omega)).2
      rw [if_pos hv] at C0
      have f1 : mv_fr (fun a k => (a = 28 ∧ 2 ≤ k ∧ k ≤ 4) ∨ (a = 38 ∧ (k = 6 ∨ k = 7)) ∨ a = 38 + 1 ∨ a = 38 + 4 ∨ a = 38 + 5 ∨ a = 38 + 6 ∨ (a = 21 ∧ k = 1)) M (mj_st Mc 21 1 0) := (fc.wk (fun a k z => by omega)).st (by omega)
      have f1q : mv_fr mv_Qlw M (mj_st Mc 21 1 0) := f1.wk (fun a k z => by unfold mv_Qlw; omega)
      obtain ⟨Xb, g1, g2, g3⟩ := run (mj_st Mc 21 1 0) (by rw [f1 _ _ (by omega)]; exact t2) (mv_Tb.fr t4 f1 (fun a k z => by omega))
      rw [hl] at g3
      obtain ⟨b, M1, M', r1, r2, r3, r4, r5⟩ := g3
      have r1' : mj_C sl (d + 49) i_X9_readsRule [.ref 45] Xb = some (b, M1) := r1
      have f2 : mv_fr (fun a k => (a = 45 ∧ 5 ≤ k ∧ k ≤ 13) ∨ (51 ≤ a ∧ a ≤ 56)) (mj_st Mc 21 1 0) M' := (g1.wk (fun a k z => by omega)).tr (r5.wk (fun a k z => by unfold lr_QW at z; omega))
      have fM : mv_fr mv_Qlw M M' := fxr _ _ (f2.wk (fun a k z => by omega)) f1q
      refine ⟨v, mj_st Mc 21 1 0, M', C0, mq_72 f1q (fun k z => by unfold mv_Qlw at z; omega), ?_, fM, ⟨0, ?_, ?_, by omega, mv_Tb.fr t4 fM Tq⟩, ?_⟩
      · rw [g2, r1', c3]
        exact r3
      · rw [f2 _ _ (by omega), mq_st_eq]; rfl
      · rw [r4]; rfl
      · have e9 : M' 0 9 = M 0 9 := by rw [f2 _ _ (by omega), f1 _ _ (by omega)]
        have e1 : M' 28 1 = M 28 1 := by rw [f2 _ _ (by omega), f1 _ _ (by omega)]
        refine ⟨by rw [e9, e1]; exact l1, nr, kd, ca, cb, LS, ?_, (lr.fr f1 (fun a k z => by omega)).fr f2 (fun a k z => by omega)⟩
        rw [e9, lwR]
        exact (lc.fr f1 (fun a k z => by omega)).fr f2 (fun a k z => by omega)
    | inr rs =>
      rw [hl] at c3 okl
      obtain ⟨c3, L', b1, b2, b3, b4⟩ := c3
      obtain ⟨o1, o2, o3⟩ := okl
      have hv : ¬ v ≤ 0 := by
        rw [c3]
        intro z
        have z' : nI rs.length ≤ nI 0 := z
        rw [s_le (by omega) (by omega)] at z'
        omega
      rw [if_neg hv] at C0
      obtain ⟨M1, hM1⟩ : ∃ M1, M1 = mj_st (mj_st (mj_st Mc 21 1 0) 28 1 (mv_di 29)) 0 9 (mv_di 38) := ⟨_, rfl⟩
      rw [← hM1] at C0
      have fM1 : mv_fr (fun a k => (a = 21 ∧ k = 1) ∨ (a = 28 ∧ k = 1) ∨ (a = 0 ∧ k = 9)) Mc M1 := by
        rw [hM1]; exact ((mv_fr.rf.st (by omega)).st (by omega)).st (by omega)
      have f1q : mv_fr mv_Qlw M M1 := (fc.wk (fun a k z => by unfold mv_Qlw; omega)).tr (fM1.wk (fun a k z => by unfold mv_Qlw; omega))
      obtain ⟨Xb, g1, g2, g3⟩ := run M1 (by rw [fM1 _ _ (by omega), fc _ _ (by omega)]; exact t2) (mv_Tb.fr t4 f1q Tq)
      rw [hl] at g3
      obtain ⟨b, Mr1, Mr2, C, r1, r2, r3, r4, r5, r6, r7, r8⟩ := g3
      have r1' : mj_C sl (d + 49) i_X9_readsRule [.ref 45] Xb = some (b, Mr1) := r1
      obtain ⟨Mr3, hMr3⟩ : ∃ Mr3, Mr3 = mj_st (mj_st Mr2 45 5 0) 45 14 (nI rs.length) := ⟨_, rfl⟩
      rw [← hMr3] at r3
      have f3 : mv_fr (fun a k => a = 45 ∧ (k = 5 ∨ k = 14)) Mr2 Mr3 := by
        rw [hMr3]; exact (mv_fr.rf.st (by omega)).st (by omega)
      obtain ⟨Mr4, s1, s2, s3⟩ := r_c95 (sl := sl) (e := d + 41) (M := Mr3) (C := C) (w1 := .int (nI g)) (w2 := .int 1) (by rw [f3 _ _ (by omega)]; exact r5) r6
      obtain ⟨Mr5, u1, u2, u3⟩ := r_c123 (sl := sl) (e := d + 41) (M := Mr4) (r := rs.length) (w1 := .int (nI g)) (w2 := .int 1) (by rw [s2 _ _ (by omega), f3 _ _ (by omega)]; exact r7) o2
      have fR : mv_fr (fun a k => (a = 45 ∧ 5 ≤ k ∧ k ≤ 14) ∨ (51 ≤ a ∧ a ≤ 61)) M1 Mr5 := ((((g1.wk (fun a k z => by omega)).tr (r8.wk (fun a k z => by unfold lr_QW at z; omega))).tr (f3.wk (fun a k z => by omega))).tr (s2.wk (fun a k z => by omega))).tr (u2.wk (fun a k z => by omega))
      have fM : mv_fr mv_Qlw M Mr5 := fxr _ _ fR f1q
      refine ⟨v, M1, Mr5, C0, mq_72 f1q (fun k z => by unfold mv_Qlw at z; omega), ?_, fM, ⟨0, ?_, ?_, by omega, mv_Tb.fr t4 fM Tq⟩, ?_⟩
      · rw [g2, r1', c3]
        exact (r3.trans s1).trans u1
      · rw [fR _ _ (by omega), hM1, mq_st_ne (by omega), mq_st_ne (by omega), mq_st_eq]; rfl
      · rw [u2 _ _ (by omega), s2 _ _ (by omega), hMr3, mq_st_ne (by omega), mq_st_eq]; rfl
      · have e9 : Mr5 0 9 = mv_di 38 := by rw [fR _ _ (by omega), hM1, mq_st_eq]
        have e1 : Mr5 28 1 = mv_di 29 := by rw [fR _ _ (by omega), hM1, mq_st_ne (by omega), mq_st_eq]
        refine ⟨mv_di_or (D := 29) (R := 38) (by decide) e9 e1, rs.length, lp_kd rs, lp_ca rs, lp_cb rs, ⟨o2, fun j hj => ?_⟩, ?_, ?_, fun j hj => ?_⟩
        · obtain ⟨x, x1, x2, x3, x4, x5⟩ := lp_get hj
          rw [x3, x4, x5]
          exact o3 x x2
        · rw [e9, mv_lwD hD]
          have gD : ∀ a k, a = 38 ∨ a = 38 + 1 ∨ a = 38 + 4 ∨ a = 38 + 5 ∨ a = 38 + 6 → Mr5 a k = Mc a k := fun a k z => by rw [fR _ _ (by omega), fM1 _ _ (by omega)]
          have gR : ∀ a, a = 38 ∨ a = 38 + 1 ∨ a = 38 + 4 ∨ a = 38 + 5 ∨ a = 38 + 6 → Mr5 a = Mc a := fun a z => funext (fun k => gD a k z)
          refine ⟨by rw [gD _ _ (by omega)]; exact b3, L', b1, by rw [gD _ _ (by omega)]; exact b2, fun j hj => ?_⟩
          obtain ⟨x, x1, x2, x3, x4, x5⟩ := lp_get hj
          rw [gR (38 + 1) (by omega), gR (38 + 4) (by omega), gR (38 + 5) (by omega), gR (38 + 6) (by omega), x3, x4, x5]
          exact b4 j x x1
        · rw [u2 _ _ (by omega), s2 _ _ (by omega), hMr3, mq_st_eq]
        · obtain ⟨x, x1, x2, x3, x4, x5⟩ := lp_get hj
          obtain ⟨v1, v2, v3, v4⟩ := u3 j hj
          obtain ⟨w1, Cx, w2, w3, w4, w5, w6, w7⟩ := r4 j x x1
          have g4 : ∀ a k, 51 ≤ a → a ≤ 56 → Mr4 a k = Mr2 a k := fun a k z1 z2 => by rw [s2 _ _ (by omega), f3 _ _ (by omega)]
          have g57 : ∀ k, k < C → Mr5 57 k = Mr2 51 k := fun k hk => by rw [u2 _ _ (by omega), s3 k hk, f3 _ _ (by omega)]
          rw [x3, x4, x5, v1, v2, v3, v4, g4 53 j (by omega) (by omega), g4 54 j (by omega) (by omega), g4 55 j (by omega) (by omega), g4 56 j (by omega) (by omega)]
          exact ⟨w1, Cx, w2, w3, w4, mv_rc_cg _ _ (fun y y1 y2 => g57 y (by omega)) w5, mv_rc_cg _ _ (fun y y1 y2 => g57 y (by omega)) w6, by omega⟩
  · refine ⟨-1, M, M, ?_, rfl, ?_, mv_fr.rf, ⟨n, T⟩, LW⟩
    · rw [b_X8_law, b_X7_has, t1]
      by_cases x1 : x < 1
      · simp only [x1, if_true, Option.bind_some]
      by_cases x2 : x ≤ 240
      · by_cases x3 : x ≤ nI n
        · exact absurd ⟨x1, x2, x3⟩ hx
        · simp only [x1, x2, x3, if_true, if_false, Option.bind_some]
      · simp only [x1, x2, if_true, if_false, Option.bind_some]
    · rw [b_X9_law, r_in]
      by_cases x1 : x < 1
      · simp only [x1, if_true, Option.bind_some]
      by_cases x2 : x ≤ 240
      · by_cases x3 : x ≤ nI n
        · exact absurd ⟨x1, x2, x3⟩ hx
        · simp only [x1, x2, x3, t2, if_true, if_false, Option.bind_some, s_10]
      · simp only [x1, x2, if_true, if_false, Option.bind_some]
theorem p_law {n : Nat} {tp : Nat → Nat} {x : Int32} (T : mv_Tp M n tp) (LW : mv_Lw M) (h74 : M 74 = mj_bt) : ∃ v M1 M2, mj_C sl (d + 50) i_X8_law [.ref 0, .int x] M = some (v, M1) ∧ M1 72 = M 72 ∧ mj_C sl (d + 50) i_X9_law [.ref 45, .int x] M1 = some (v, M2) ∧ mv_fr mv_Qlw M M2 ∧ (∃ n', mv_Tp M2 n' tp) ∧ mv_Lw M2 := by
  rcases LW.1 with ⟨h1, h2⟩ | ⟨h1, h2⟩
  · exact p_law_38 T LW h74 h2 h1
  · exact p_law_29 T LW h74 h2 h1
end PL1
