section MV21
variable {sl d : Nat} {M : mj_M} {mo : Nat → Option Nat} {cs : mv_CS}
theorem mv_Tp.tb {n : Nat} {tp : Nat → Nat} (T : mv_Tp M n tp) : mv_Tb M tp := T.2.2.2
theorem cp_both {Mc Mr : mj_M} {tp od : Nat → Nat} {n on : Nat} {y : Int32} (Bc : mv_B Mc mo cs) (Br : mv_B Mr mo cs) (Tc : mv_Tb Mc tp) (Tr : mv_Tb Mr tp) (Oc : mv_Or Mc on od) (Or' : mv_Or Mr on od) (hn : n ≤ 12) (hy : y = 100 ∨ y = 101 ∨ ∃ j, j < 60 ∧ y = nI j) : ∃ v Mc' Mr', mj_E sl (d + 4) i_X8_copied 59 [.ref 0, .int (nI n), .int y, .int 1, .int 0] [] Mc = some (v, Mc') ∧ mv_fr (fun a _ => a = 37) Mc Mc' ∧ mj_E sl (d + 4) i_X9_copied 48 [.ref 45, .int (nI n), .int y, .int 0, .null, .null, .null, .null] [] Mr = some (v, Mr') ∧ mv_fr (fun a _ => a = 69) Mr Mr' := by
  obtain ⟨hm, hcm, hw, hr, hcc, hwc⟩ := id Bc
  obtain ⟨hm2, hcm2, -, hr2, hcc2, -⟩ := id Br
  obtain ⟨o1, o2, o3, o4⟩ := id Oc
  obtain ⟨r1, r2, r3, r4⟩ := id Or'
  by_cases hall : ∀ i, i < n → tp i < 10 ∧ mv_to cs (tp i) = true
  · have A : ∀ i, i ≤ n → mj_E sl (d + 3 + 1) i_X8_copied 59 [.ref 0, .int (nI n), .int y, .int 1, .int (nI i)] [] Mc = mj_E sl (d + 3 + 1) i_X8_copied 59 [.ref 0, .int (nI n), .int y, .int 1, .int (nI n)] [] Mc := mq_up rfl (fun i hi ih => by
      obtain ⟨h1, h2⟩ := hall i hi
      rw [b_X8_copied_59 (y4 := nI i)]
      simp (disch := omega) only [s_lt, hi, if_true, c_byteB Tc, Option.bind_some, c_hasC (b := 3) rfl hcc h1, h2, s_10, if_false, s_addL]
      exact ih)
    have A2 : ∀ i, i ≤ n → mj_E sl (d + 3 + 1) i_X9_copied 48 [.ref 45, .int (nI n), .int y, .int (nI i), .null, .null, .null, .null] [] Mr = mj_E sl (d + 3 + 1) i_X9_copied 48 [.ref 45, .int (nI n), .int y, .int (nI n), .null, .null, .null, .null] [] Mr := mq_up rfl (fun i hi ih => by
      obtain ⟨h1, h2⟩ := hall i hi
      rw [b_X9_copied_48 (y3 := nI i)]
      simp (disch := omega) only [s_lt, hi, if_true, r_octB Tr, Option.bind_some, r_isTold hr2 h1, h2, s_10, if_false, s_addL]
      exact ih)
    have C : ∀ k, k ≤ on → ∀ Mr', mv_fr (fun a _ => a = 69) Mr Mr' → (∀ j, j < k → Mr' 69 j = nI (od j)) → ∃ Mr2, mv_fr (fun a _ => a = 69) Mr Mr2 ∧ (∀ j, j < on → Mr2 69 j = nI (od j)) ∧ mj_E sl (d + 3 + 1) i_X9_copied 82 [.ref 45, .int (nI n), .int y, .int (nI on), .int (nI k), .null, .null, .null] [] Mr' = mj_E sl (d + 3 + 1) i_X9_copied 111 [.ref 45, .int (nI n), .int y, .int (nI on), .int 0, .null, .null, .null] [] Mr2 := by
      refine mq_up ?_ ?_
      · intro Mr' f h
        refine ⟨Mr', f, h, ?_⟩
        rw [b_X9_copied_82]
        simp only [Int32.lt_irrefl, if_false]
      · intro k hk ih Mr' f h
        rw [b_X9_copied_82]
        simp (disch := omega) only [s_lt, hk, if_true, s_in, s_cl, s_addL]
        refine ih _ (mv_fr.st f rfl) (fun j hj => ?_)
        by_cases q : j = k
        · rw [q, mq_st_eq, f 64 k (by omega)]
          exact (r4 k hk).2.2
        · rw [mq_st_ne (Or.inr q)]
          exact h j (by omega)
    obtain ⟨Mr1, g1, g2, g3⟩ := C 0 (by omega) Mr mv_fr.rf (fun j hj => by omega)
    have fcp : mv_fr (fun a _ => a = 37) Mc (mj_cp Mc 24 37 0 0 on) := mv_fr.cp mv_fr.rf (fun k => rfl)
    obtain ⟨left, Mc2, Mr2, l1, l2, fc2, fr2, hs2, e3, u5, u6, u7, e4⟩ := cp_outer (sl := sl) (d := d) (dr := d + 1) (n := n) (yy := y) Bc Br Tc Tr hn (fun i hi => (hall i hi).1) 0 (by omega) on (mj_cp Mc 24 37 0 0 on) Mr1 .null .null .null .null .null .null .null .null o3 fcp g1 (fun j hj => ⟨od j, (o4 j hj).1, by rw [mq_cp_in hj]; exact (o4 j hj).2.1, g2 j hj⟩)
    have z0 : (0 : Int32).toNatClampNeg = 0 := by decide
    have ealong : mj_C sl (d + 3) i_X8_copyAlong [.ref 0, .int (nI n)] Mc = some (nI left, Mc2) := by
      rw [b_X8_copyAlong (d := d + 2), o1, nI_clamp (by omega), z0, if_pos ⟨by decide, by decide, nI_pos (by omega), by omega, by omega⟩]
      exact e3
    have er : mj_E sl (d + 4) i_X9_copied 48 [.ref 45, .int (nI n), .int y, .int 0, .null, .null, .null, .null] [] Mr = mj_E sl (d + 3 + 1) i_X9_copied 111 [.ref 45, .int (nI n), .int y, .int (nI left), .int (nI n), u5, u6, u7] [] Mr2 := by
      have a0 := A2 0 (by omega)
      have h48 : mj_E sl (d + 3 + 1) i_X9_copied 48 [.ref 45, .int (nI n), .int y, .int (nI n), .null, .null, .null, .null] [] Mr = mj_E sl (d + 3 + 1) i_X9_copied 82 [.ref 45, .int (nI n), .int y, .int (nI on), .int 0, .null, .null, .null] [] Mr := by
        rw [b_X9_copied_48, r2]
        simp only [Int32.lt_irrefl, if_false]
      exact a0.trans (h48.trans (g3.trans e4))
    have ec : mj_E sl (d + 4) i_X8_copied 59 [.ref 0, .int (nI n), .int y, .int 1, .int 0] [] Mc = (if y = 100 then some (nI left, Mc2) else if y = 101 then (mj_C sl (d + 3) i_X8_placesAsTheyWere [.ref 0, .int (nI left)] Mc2).bind (fun q4 => some (q4.1, q4.2)) else if y < nI left then (if mj_inB y 60 = true then some (Mc2 37 y.toNatClampNeg, Mc2) else none) else some (-4, Mc2)) := by
      refine (A 0 (by omega)).trans ?_
      rw [b_X8_copied_59, if_neg (Int32.lt_irrefl), ealong]
      simp only [Option.bind_some]
    have P : ∀ k, k ≤ left → ∀ f, ∃ r, mj_E sl (d + 3) i_X8_placesAsTheyWere 4 [.ref 0, .int (nI left), .int (nI f), .int (nI k)] [] Mc2 = some (nI r, Mc2) ∧ ∀ w1 w2 w6 w7, mj_E sl (d + 3 + 1) i_X9_copied 248 [.ref 45, w1, w2, .int (nI left), .int (nI f), .int (nI k), w6, w7] [] Mr2 = some (nI r, Mr2) := by
      refine mq_up ?_ ?_
      · intro f
        refine ⟨f, ?_, fun w1 w2 w6 w7 => ?_⟩
        · rw [b_X8_placesAsTheyWere_4, if_neg (Int32.lt_irrefl)]
        · rw [b_X9_copied_248, if_neg (Int32.lt_irrefl)]
      · intro k hk ih f
        obtain ⟨q, q8, q1, q2⟩ := hs2 k hk
        have z1 : Mc2 24 k = nI (od k) := by rw [fc2 24 k (by omega)]; exact (o4 k (by omega)).2.1
        have z2 : Mr2 64 k = nI (od k) := by rw [fr2 64 k (by omega)]; exact (r4 k (by omega)).2.2
        by_cases e : nI q = nI (od k)
        · obtain ⟨r, a1, a2⟩ := ih (f + 1)
          refine ⟨r, ?_, fun w1 w2 w6 w7 => ?_⟩
          · rw [b_X8_placesAsTheyWere_4]
            simp (disch := omega) only [s_lt, hk, if_true, s_in, s_cl, q1, z1, e, s_addL]
            exact a1
          · rw [b_X9_copied_248]
            simp (disch := omega) only [s_lt, hk, if_true, s_in, s_cl, q2, z2, e, s_addL]
            exact a2 _ _ _ _
        · obtain ⟨r, a1, a2⟩ := ih f
          refine ⟨r, ?_, fun w1 w2 w6 w7 => ?_⟩
          · rw [b_X8_placesAsTheyWere_4]
            simp (disch := omega) only [s_lt, hk, if_true, s_in, s_cl, q1, z1, e, if_false, s_addL]
            exact a1
          · rw [b_X9_copied_248]
            simp (disch := omega) only [s_lt, hk, if_true, s_in, s_cl, q2, z2, e, if_false, s_addL]
            exact a2 _ _ _ _
    rw [ec, er, b_X9_copied_111, if_neg (Int32.lt_irrefl)]
    rcases hy with rfl | rfl | ⟨j, hj, rfl⟩
    · exact ⟨_, Mc2, Mr2, rfl, fc2, rfl, fr2⟩
    · obtain ⟨r, a1, a2⟩ := P 0 (by omega) 0
      refine ⟨nI r, Mc2, Mr2, ?_, fc2, ?_, fr2⟩
      · rw [if_neg (by decide), if_pos rfl, b_X8_placesAsTheyWere]
        have a1' : mj_E sl (d + 3) 100 4 [.ref 0, .int (nI left), .int 0, .int 0] [] Mc2 = some (nI r, Mc2) := a1
        rw [a1']
        rfl
      · rw [if_neg (by decide), if_neg (by decide)]
        exact a2 _ _ _ _
    · have h100 : ¬ nI j = 100 := fun z => absurd ((mq_eq (b := 100) (by omega) (by decide)).mp z) (by omega)
      have h101 : ¬ nI j = 101 := fun z => absurd ((mq_eq (b := 101) (by omega) (by decide)).mp z) (by omega)
      have hlt : nI j < 100 := (mq_lt (b := 100) (by omega) (by decide)).mpr (by omega)
      simp (disch := omega) only [h100, h101, hlt, if_true, if_false, s_lt, s_in, s_cl]
      by_cases q : j < left
      · obtain ⟨b, b8, q1, q2⟩ := hs2 j q
        rw [if_pos q, if_pos q, q1, q2]
        exact ⟨_, Mc2, Mr2, rfl, fc2, rfl, fr2⟩
      · rw [if_neg q, if_neg q]
        exact ⟨_, Mc2, Mr2, rfl, fc2, rfl, fr2⟩
  · have hex : ∃ j, 0 ≤ j ∧ j < n ∧ ¬ (tp j < 10 ∧ mv_to cs (tp j) = true) := by
      by_cases q : ∃ j, 0 ≤ j ∧ j < n ∧ ¬ (tp j < 10 ∧ mv_to cs (tp j) = true)
      · exact q
      · refine absurd (fun i hi => ?_) hall
        by_cases z : tp i < 10 ∧ mv_to cs (tp i) = true
        · exact z
        · exact absurd ⟨i, by omega, hi, z⟩ q
    have A : ∀ i, i ≤ n → (∃ j, i ≤ j ∧ j < n ∧ ¬ (tp j < 10 ∧ mv_to cs (tp j) = true)) → mj_E sl (d + 3 + 1) i_X8_copied 59 [.ref 0, .int (nI n), .int y, .int 1, .int (nI i)] [] Mc = some (-2, Mc) ∧ mj_E sl (d + 3 + 1) i_X9_copied 48 [.ref 45, .int (nI n), .int y, .int (nI i), .null, .null, .null, .null] [] Mr = some (-2, Mr) := by
      refine mq_up ?_ ?_
      · intro z
        obtain ⟨j, h1, h2, -⟩ := z
        omega
      · intro i hi ih z
        have t8 := (Tc i (by omega)).1
        have e1 := mv_told_nat hr2 t8
        have e2 := mv_toldC_nat (b := 3) rfl hcc t8
        rw [b_X8_copied_59 (y4 := nI i), b_X9_copied_48 (y3 := nI i)]
        simp (disch := omega) only [s_lt, hi, if_true, c_byteB Tc, r_octB Tr, Option.bind_some, s_addL]
        rcases e1 with ⟨k1, k2, k3⟩ | ⟨k1, k2⟩
        · rw [e2.1 ⟨k1, k2⟩, k3]
          simp only [Option.bind_some, s_10, if_false]
          obtain ⟨j, h1, h2, h3⟩ := z
          refine ih ⟨j, ?_, h2, h3⟩
          by_cases q : j = i
          · rw [q] at h3
            exact absurd ⟨k1, k2⟩ h3
          · omega
        · rw [e2.2 k1, k2]
          simp only [Option.bind_some, if_true]
          exact ⟨trivial, trivial⟩
    obtain ⟨a1, a2⟩ := A 0 (by omega) hex
    exact ⟨-2, Mc, Mr, a1, mv_fr.rf, a2, mv_fr.rf⟩
theorem p_copied {n on : Nat} {tp od : Nat → Nat} {x y : Int32} (B : mv_B M mo cs) (T : mv_Tp M n tp) (O : mv_Or M on od) : ∃ v M1 M2, mj_C sl (d + 4) i_X8_copied [.ref 0, .int x, .int y] M = some (v, M1) ∧ M1 72 = M 72 ∧ mj_C sl (d + 4) i_X9_copied [.ref 45, .int x, .int y] M1 = some (v, M2) ∧ mv_fr mv_Qo M M2 ∧ ∃ n', mv_Tp M2 n' tp := by
  obtain ⟨t1, t2, t3, t4⟩ := id T
  have hya : (¬ y = 100 ∧ ¬ y = 101 ∧ (y < 0 ∨ ¬ y < 60)) ∨ (y = 100 ∨ y = 101 ∨ ∃ j, j < 60 ∧ y = nI j) := by
    by_cases h1 : y = 100
    · exact Or.inr (Or.inl h1)
    by_cases h2 : y = 101
    · exact Or.inr (Or.inr (Or.inl h2))
    rcases mq_out (x := y) (n := 60) (by decide) with h | h | ⟨j, hj, e⟩
    · exact Or.inl ⟨h1, h2, Or.inl h⟩
    · exact Or.inl ⟨h1, h2, Or.inr (Int32.not_lt.mpr h)⟩
    · exact Or.inr (Or.inr (Or.inr ⟨j, hj, e⟩))
  have rin : ∀ (M : mj_M), (if y < 0 then (0 : Int32) else if y ≤ 59 then 1 else 0) = 0 ∧ (if y < 100 then (0 : Int32) else if y ≤ 101 then 1 else 0) = 0 ∨ (y = 100 ∨ y = 101 ∨ ∃ j, j < 60 ∧ y = nI j) := fun _ => by
    rcases hya with ⟨h1, h2, h3⟩ | h
    · refine Or.inl ⟨?_, ?_⟩
      · split
        · rfl
        · next q =>
          rw [if_neg]
          intro z
          rcases h3 with h3 | h3
          · exact q h3
          · exact h3 (Int32.lt_of_le_of_lt z (by decide))
      · split
        · rfl
        · next q =>
          rw [if_neg]
          intro z
          obtain ⟨j, hj, rfl⟩ := nI_of2 (n := 101) (by decide) (fun w => q (Int32.lt_of_lt_of_le w (by decide))) z
          have : ¬ j < 100 := fun w => q ((mq_lt (b := 100) (by omega) (by decide)).mpr w)
          have : j = 100 ∨ j = 101 := by omega
          rcases this with rfl | rfl
          · exact h1 rfl
          · exact h2 rfl
    · exact Or.inr h
  have c22 : (y = 100 ∨ y = 101 ∨ ∃ j, j < 60 ∧ y = nI j) → mj_C sl (d + 4) i_X8_copied [.ref 0, .int x, .int y] M = mj_E sl (d + 3 + 1) 98 22 [.ref 0, .int x, .int y, .null, .null] [] M := fun hy => by
    rw [b_X8_copied]
    rcases hy with rfl | rfl | ⟨j, hj, rfl⟩
    · rw [if_pos rfl]
    · rw [if_neg (by decide), if_pos rfl]
    · have h100 : ¬ nI j = 100 := fun z => absurd ((mq_eq (b := 100) (by omega) (by decide)).mp z) (by omega)
      have h101 : ¬ nI j = 101 := fun z => absurd ((mq_eq (b := 101) (by omega) (by decide)).mp z) (by omega)
      simp (disch := omega) only [h100, h101, s_lt0, s_ltL, hj, if_true, if_false, Nat.not_lt_zero]
  have ry : (y = 100 ∨ y = 101 ∨ ∃ j, j < 60 ∧ y = nI j) → (if y < 0 then (0 : Int32) else if y ≤ 59 then 1 else 0) = 1 ∨ (if y < 0 then (0 : Int32) else if y ≤ 59 then 1 else 0) = 0 ∧ (if y < 100 then (0 : Int32) else if y ≤ 101 then 1 else 0) = 1 := fun hy => by
    rcases hy with rfl | rfl | ⟨j, hj, rfl⟩
    · exact Or.inr (by decide)
    · exact Or.inr (by decide)
    · refine Or.inl ?_
      rw [if_neg (nI_pos (by omega)), if_pos (show nI j ≤ 59 from (mq_le (b := 59) (by omega) (by decide)).mpr (by omega))]
  by_cases hx : ¬ x < 1 ∧ x ≤ 12 ∧ x ≤ nI n ∧ (y = 100 ∨ y = 101 ∨ ∃ j, j < 60 ∧ y = nI j)
  · obtain ⟨x1, x2, x3, hy⟩ := hx
    obtain ⟨g, hg, rfl⟩ := nI_of2 (n := 12) (by decide) (fun w => x1 (Int32.lt_trans w (by decide))) x2
    have f1 : mv_fr mv_Qo M (mj_st M 21 1 0) := mv_fr.st mv_fr.rf (Or.inl (Or.inl ⟨rfl, rfl⟩))
    have qB : ∀ a k, mv_Qo a k → ¬ (a = 1 ∧ k = 1) ∧ a ≠ 2 ∧ ¬ (a = 3 ∧ 6 ≤ k ∧ k ≤ 8) ∧ ¬ (4 ≤ a ∧ a ≤ 6) ∧ a ≠ 46 ∧ a ≠ 49 := fun a k z => by unfold mv_Qo mv_Qn mv_Sc at z; omega
    have qT : ∀ a k, mv_Qo a k → a ≠ 22 ∧ a ≠ 50 := fun a k z => by unfold mv_Qo mv_Qn mv_Sc at z; omega
    have qO : ∀ a k, mv_Qo a k → ¬ (a = 23 ∧ k = 4) ∧ ¬ (a = 45 ∧ k = 32) ∧ a ≠ 24 ∧ a ≠ 64 := fun a k z => by unfold mv_Qo mv_Qn mv_Sc at z; omega
    have q37 : ∀ a k : Nat, a = 37 → mv_Qo a k := fun a k z => Or.inr (by unfold mv_Sc; omega)
    have q69 : ∀ a k : Nat, a = 69 → mv_Qo a k := fun a k z => Or.inr (by unfold mv_Sc; omega)
    obtain ⟨v, Mc', Mr0, c1, cf, -, -⟩ := cp_both (sl := sl) (d := d) (n := g) (y := y) (B.fr f1 qB) (B.fr f1 qB) (T.tb.fr f1 qT) (T.tb.fr f1 qT) (O.fr f1 qO) (O.fr f1 qO) (by omega) hy
    have f2 : mv_fr mv_Qo M Mc' := f1.tr (cf.wk q37)
    have f3 : mv_fr mv_Qo M (mj_st Mc' 45 5 0) := f2.st (Or.inl (Or.inr ⟨rfl, rfl⟩))
    obtain ⟨v2, Mc2, Mr', c2, -, c3, rf⟩ := cp_both (sl := sl) (d := d) (n := g) (y := y) (B.fr f1 qB) (B.fr f3 qB) (T.tb.fr f1 qT) (T.tb.fr f3 qT) (O.fr f1 qO) (O.fr f3 qO) (by omega) hy
    rw [c1] at c2
    injection c2 with c2
    injection c2 with c2 c4
    have f4 : mv_fr mv_Qo M Mr' := f3.tr (rf.wk q69)
    have h455 : Mc' 45 5 = nI n := by rw [cf 45 5 (by omega), mq_st_ne (by omega)]; exact t2
    refine ⟨v, Mc', Mr', ?_, mq_72 f2 (fun k z => by unfold mv_Qo mv_Qn mv_Sc at z; omega), ?_, f4, 0, ?_, ?_, by omega, ?_⟩
    · rw [c22 hy, b_X8_copied_22, b_X7_has, t1]
      simp only [x1, x2, x3, if_true, if_false, Option.bind_some, s_10]
      exact c1
    · rw [b_X9_copied, r_in]
      simp only [x1, x2, if_true, if_false, Option.bind_some, s_10, r_in]
      rw [← c2] at c3
      rcases ry hy with a | ⟨a, b⟩
      · rw [a, if_neg mq_10, h455, if_pos x3]
        exact c3
      · rw [a, b, if_pos rfl, if_neg mq_10, h455, if_pos x3]
        exact c3
    · rw [rf 21 1 (by omega), mq_st_ne (by omega), cf 21 1 (by omega), mq_st_eq]
      rfl
    · rw [rf 45 5 (by omega), mq_st_eq]
      rfl
    · exact T.tb.fr f4 qT
  · refine ⟨-1, M, M, ?_, rfl, ?_, mv_fr.rf, n, T⟩
    · rcases hya with ⟨h1, h2, h3⟩ | hy
      · rw [b_X8_copied, if_neg h1, if_neg h2]
        rcases h3 with h3 | h3
        · rw [if_pos h3]
        · simp only [h3, if_false, ite_self]
      · rw [c22 hy, b_X8_copied_22, b_X7_has, t1]
        by_cases x1 : x < 1
        · simp only [x1, if_true, Option.bind_some]
        by_cases x2 : x ≤ 12
        · by_cases x3 : x ≤ nI n
          · exact absurd ⟨x1, x2, x3, hy⟩ hx
          · simp only [x1, x2, x3, if_true, if_false, Option.bind_some]
        · simp only [x1, x2, if_true, if_false, Option.bind_some]
    · rw [b_X9_copied, r_in]
      by_cases x1 : x < 1
      · simp only [x1, if_true, Option.bind_some]
      by_cases x2 : x ≤ 12
      · simp only [x1, x2, if_true, if_false, Option.bind_some, s_10, r_in]
        rcases rin M with ⟨a, b⟩ | hy
        · rw [a, b, if_pos rfl, if_pos rfl]
        · by_cases x3 : x ≤ nI n
          · exact absurd ⟨x1, x2, x3, hy⟩ hx
          · rw [t2]
            rcases ry hy with a | ⟨a, b⟩
            · rw [a, if_neg mq_10, if_neg x3]
            · rw [a, b, if_pos rfl, if_neg mq_10, if_neg x3]
      · simp only [x1, x2, if_true, if_false, Option.bind_some]
end MV21
