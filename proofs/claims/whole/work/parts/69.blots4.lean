def mv_Qbl (a k : Nat) : Prop := mv_Qk 15 a k ∨ mv_Qk 3 a k ∨ (a = 21 ∧ k = 1) ∨ a = 46 ∨ a = 47 ∨ (a = 45 ∧ (k = 5 ∨ k = 6 ∨ k = 7 ∨ k = 8 ∨ k = 11 ∨ k = 13 ∨ k = 35))
section MV40
variable {sl d : Nat} {M : mj_M} {mo : Nat → Option Nat} {cs : mv_CS}
theorem p_blots {n : Nat} {tp : Nat → Nat} {x : Int32} (B : mv_B M mo cs) (T : mv_Tp M n tp) : ∃ v M1 M2, mj_C sl (d + 4) i_X8_blots [.ref 0, .int x] M = some (v, M1) ∧ M1 72 = M 72 ∧ mj_C sl (d + 5) i_X9_blots [.ref 45, .int x] M1 = some (v, M2) ∧ mv_fr mv_Qbl M M2 ∧ (∃ n', mv_Tp M2 n' tp) ∧ ∃ cs', mv_B M2 mo cs' := by
  obtain ⟨t1, t2, t3, t4⟩ := id T
  obtain ⟨mr, mc, hw, cr, cc, wc⟩ := id B
  by_cases hx : ¬ x < 1 ∧ x ≤ 120 ∧ x ≤ nI n
  · obtain ⟨x1, x2, x3⟩ := hx
    obtain ⟨g, hg, rfl⟩ := nI_of2 (n := 120) (by decide) (fun w => x1 (Int32.lt_trans w (by decide))) x2
    have hgn : g ≤ n := (mq_le (by omega) (by omega)).mp x3
    have A := bl_go (sl := sl) (d := d + 1) (tp := tp) (cs0 := cs) (w1 := .int (nI g)) hg hw g 0 (by omega) (by omega)
    obtain ⟨Mc0, c1, c2, c3⟩ := c_copyFrom (sl := sl) (d := d + 2) (M := M) (t := 15) (c := 3) rfl rfl (by decide)
    have fc0 : mv_fr mv_Qbl M Mc0 := c2.wk (fun a k z => Or.inl z)
    have cc0 : mv_cC Mc0 15 cs := c3 cs cc
    have mc0 : mv_cM Mc0 mo := mc.fr c2 (by unfold mv_Qk; omega) (fun k => by unfold mv_Qk; omega)
    have Tc0 : mv_Tb Mc0 tp := mv_Tb.fr t4 c2 (fun a k z => by unfold mv_Qk at z; omega)
    have setR : ∀ X : mj_M, X 45 5 = nI n → mv_rC X 46 cs → ∃ Mr0, mv_fr (fun a k => a = 47 ∨ (a = 45 ∧ (k = 6 ∨ k = 7 ∨ k = 11 ∨ k = 13 ∨ k = 35))) X Mr0 ∧ Mr0 45 6 = nI 0 ∧ Mr0 45 7 = nI g ∧ Mr0 45 35 = nI 0 ∧ mv_rC Mr0 47 cs ∧ mj_C sl (d + 5) i_X9_blots [.ref 45, .int (nI g)] X = (mj_C sl (d + 4) i_X9_readsBlot [.ref 45] Mr0).bind (fun q4 => mj_E sl (d + 5) i_X9_blots 46 [.ref 45, .int (nI g), .int q4.1] [] q4.2) := by
      intro X hX hr
      obtain ⟨X1, hX1⟩ : ∃ X1, X1 = mj_st (mj_st (mj_st (mj_st (mj_st X 45 6 0) 45 7 (nI g)) 45 11 0) 45 13 0) 45 35 0 := ⟨_, rfl⟩
      have f1 : mv_fr (fun a k => a = 47 ∨ (a = 45 ∧ (k = 6 ∨ k = 7 ∨ k = 11 ∨ k = 13 ∨ k = 35))) X X1 := by
        rw [hX1]
        exact ((((mv_fr.rf.st (by omega)).st (by omega)).st (by omega)).st (by omega)).st (by omega)
      obtain ⟨Mr0, e1, e2, e3⟩ := r_copies (sl := sl) (d := d + 4) (M := X1) (a := 46) (b := 47) rfl (by decide) rfl (by decide) (by decide)
      refine ⟨Mr0, f1.tr (e2.wk (fun a k z => Or.inl z)), ?_, ?_, ?_, e3 cs (hr.fr f1 (fun k => by omega)), ?_⟩
      · rw [e2 45 6 (by decide), hX1]
        rw [mq_st_ne (by omega), mq_st_ne (by omega), mq_st_ne (by omega), mq_st_ne (by omega), mq_st_eq]; rfl
      · rw [e2 45 7 (by decide), hX1]
        rw [mq_st_ne (by omega), mq_st_ne (by omega), mq_st_ne (by omega), mq_st_eq]
      · rw [e2 45 35 (by decide), hX1]
        rw [mq_st_eq]; rfl
      · rw [b_X9_blots, r_in]
        simp only [x1, x2, if_true, if_false, Option.bind_some, s_10]
        rw [hX, if_pos x3, b_X9_beginsText]
        simp only [Option.bind_some]
        rw [← hX1, e1]
        rfl
    obtain ⟨Mrx, frx, x6, x7, x35, x47, -⟩ := setR M t2 cr
    have Trx : mv_Tb Mrx tp := mv_Tb.fr t4 frx (fun a k z => by omega)
    obtain ⟨v, b, Mr1, Mc', Mr', a1, -, -, -, a5, -, -, -⟩ := A 0 cs Mc0 Mrx .null .null .null .null (by omega) mc0 (mr.fr frx (fun k => by omega)) cc0 (cr.fr frx (fun k => by omega)) wc Tc0 Trx x6 x7 x35 x47
    have f1 : mv_fr mv_Qbl M (mj_st Mc' 21 1 0) := (fc0.tr (a5.wk (fun a k z => Or.inl (by unfold mv_Qk; omega)))).st (by unfold mv_Qbl; omega)
    have hC : mj_C sl (d + 4) i_X8_blots [.ref 0, .int (nI g)] M = if v ≤ 0 then some (v, mj_st Mc' 21 1 0) else ((mj_C sl (d + 3) 4 [.ref 3, .ref 15] (mj_st Mc' 21 1 0)).bind (fun q4 => some (v, q4.2))) := by
      rw [b_X8_blots, b_X7_has, t1]
      simp only [x1, x2, x3, if_true, if_false, Option.bind_some, s_10]
      rw [c1]
      simp only [Option.bind_some]
      rw [b_X0_doLines rfl]
      have a1' : mj_E sl (d + 3) 0 5 [.ref 21, .int (nI g), .ref 15, .int 0, .int 0, .null, .null, .null, .null] [] Mc0 = some (v, Mc') := a1
      rw [a1']
      rfl
    have Tq : ∀ a k, mv_Qbl a k → a ≠ 22 ∧ a ≠ 50 := fun a k z => by unfold mv_Qbl mv_Qk at z; omega
    have fin : ∀ X : mj_M, mv_fr mv_Qbl M X → (∀ k, X 46 k = M 46 k) → X 45 5 = nI n → X 21 1 = 0 → ∃ X2, mj_C sl (d + 5) i_X9_blots [.ref 45, .int (nI g)] X = some (v, X2) ∧ mv_fr mv_Qbl M X2 ∧ mv_fr (fun a k => a = 46 ∨ a = 47 ∨ a = 45) X X2 ∧ mv_Tp X2 0 tp ∧ ((v ≤ 0 ∧ mv_rC X2 46 cs) ∨ (¬ v ≤ 0 ∧ ∃ cs', mv_cC Mc' 15 cs' ∧ mv_rC X2 46 cs' ∧ mv_wC mo cs')) := by
      intro X fX h46 h5 h21
      have cX : mv_rC X 46 cs := by
        have e : X 46 = M 46 := funext h46
        unfold mv_rC
        rw [e]
        exact cr
      obtain ⟨Mr0, f0, r6, r7, r35, r47, r0⟩ := setR X h5 cX
      have fM0 : mv_fr mv_Qbl M Mr0 := fX.tr (f0.wk (fun a k z => by unfold mv_Qbl; omega))
      have mr0 : mv_rM Mr0 mo := mr.fr fM0 (fun k z => by unfold mv_Qbl mv_Qk at z; omega)
      obtain ⟨v2, b2, Mr2, Mc2, Mr3, k1, k2, k3, k4, k5, k6, k7, k8⟩ := A 0 cs Mc0 Mr0 .null .null .null .null (by omega) mc0 mr0 cc0 (cX.fr f0 (fun k => by omega)) wc Tc0 (mv_Tb.fr t4 fM0 Tq) r6 r7 r35 r47
      rw [a1] at k1
      injection k1 with k1
      injection k1 with k1 kc
      rw [← k1] at k4 k8
      rw [← kc] at k8
      have fX3 : mv_fr mv_Qbl M Mr3 := fM0.tr (k6.wk (fun a k z => by unfold mv_Qb2 at z; unfold mv_Qbl; omega))
      refine ⟨Mr3, ?_, fX3, (f0.wk (fun a k z => by omega)).tr (k6.wk (fun a k z => by unfold mv_Qb2 at z; omega)), ⟨?_, ?_, by omega, mv_Tb.fr t4 fX3 Tq⟩, k8⟩
      · rw [r0, k2]
        exact k4
      · rw [k6 21 1 (by unfold mv_Qb2; omega), f0 21 1 (by omega), h21]; rfl
      · rw [k7]; rfl
    have m45 : mj_st Mc' 21 1 0 45 5 = nI n := by rw [mq_st_ne (by omega), a5 45 5 (by omega), c2 45 5 (by unfold mv_Qk; omega)]; exact t2
    have m46 : ∀ k, mj_st Mc' 21 1 0 46 k = M 46 k := fun k => by rw [mq_st_ne (by omega), a5 46 k (by omega), c2 46 k (by unfold mv_Qk; omega)]
    by_cases hv : v ≤ 0
    · rw [if_pos hv] at hC
      obtain ⟨X2, e1, e2, e2', e3, e4⟩ := fin (mj_st Mc' 21 1 0) f1 m46 m45 mq_st_eq
      refine ⟨v, mj_st Mc' 21 1 0, X2, hC, mq_72 f1 (fun k z => by unfold mv_Qbl mv_Qk at z; omega), e1, e2, ⟨0, e3⟩, cs, ?_⟩
      rcases e4 with ⟨-, e4⟩ | ⟨e4, -⟩
      · have c3' : mv_fr (fun a k => mv_Qk 15 a k ∨ a = 21 ∨ (a = 46 ∨ a = 47 ∨ a = 45)) M X2 := (((c2.wk (R := fun a k => mv_Qk 15 a k ∨ a = 21 ∨ (a = 46 ∨ a = 47 ∨ a = 45)) (fun a k z => Or.inl z)).tr (a5.wk (fun a k z => Or.inl (by unfold mv_Qk; omega)))).st (a := 21) (k := 1) (x := 0) (Or.inr (Or.inl rfl))).tr (e2'.wk (fun a k z => Or.inr (Or.inr z)))
        exact ⟨mr.fr e2 (fun k z => by unfold mv_Qbl mv_Qk at z; omega), mc.fr e2 (by unfold mv_Qbl mv_Qk; omega) (fun k z => by unfold mv_Qbl mv_Qk at z; omega), hw, e4, cc.fr c3' (fun k a b z => by unfold mv_Qk at z; omega) (fun j k a b z => by unfold mv_Qk at z; omega), wc⟩
      · exact absurd hv e4
    · rw [if_neg hv] at hC
      obtain ⟨Mc3, k1, k2, k3⟩ := c_copyFrom (sl := sl) (d := d + 2) (M := mj_st Mc' 21 1 0) (t := 3) (c := 15) rfl rfl (by decide)
      rw [k1] at hC
      have f3 : mv_fr mv_Qbl M Mc3 := f1.tr (k2.wk (fun a k z => Or.inr (Or.inl z)))
      obtain ⟨X2, e1, e2, e2', e3, e4⟩ := fin Mc3 f3 (fun k => by rw [k2 46 k (by unfold mv_Qk; omega)]; exact m46 k) (by rw [k2 45 5 (by unfold mv_Qk; omega)]; exact m45) (by rw [k2 21 1 (by unfold mv_Qk; omega)]; exact mq_st_eq)
      refine ⟨v, Mc3, X2, hC, mq_72 f3 (fun k z => by unfold mv_Qbl mv_Qk at z; omega), e1, e2, ⟨0, e3⟩, ?_⟩
      rcases e4 with ⟨e4, -⟩ | ⟨-, cs', q1, q2, q3⟩
      · exact absurd e4 hv
      · have q1' : mv_cC (mj_st Mc' 21 1 0) 15 cs' := q1.fr (Q := fun a k => a = 21) (mv_fr.rf.st rfl) (fun k a b => by decide) (fun j k a b => by omega)
        have q4 : mv_cC Mc3 3 cs' := k3 cs' q1'
        exact ⟨cs', mr.fr e2 (fun k z => by unfold mv_Qbl mv_Qk at z; omega), mc.fr e2 (by unfold mv_Qbl mv_Qk; omega) (fun k z => by unfold mv_Qbl mv_Qk at z; omega), hw, q2, q4.fr e2' (fun k a b => by omega) (fun j k a b => by omega), q3⟩
  · refine ⟨-1, M, M, ?_, rfl, ?_, mv_fr.rf, ⟨n, T⟩, ⟨cs, B⟩⟩
    · rw [b_X8_blots, b_X7_has, t1]
      by_cases x1 : x < 1
      · simp only [x1, if_true, Option.bind_some]
      by_cases x2 : x ≤ 120
      · by_cases x3 : x ≤ nI n
        · exact absurd ⟨x1, x2, x3⟩ hx
        · simp only [x1, x2, x3, if_true, if_false, Option.bind_some]
      · simp only [x1, x2, if_true, if_false, Option.bind_some]
    · rw [b_X9_blots, r_in]
      by_cases x1 : x < 1
      · simp only [x1, if_true, Option.bind_some]
      by_cases x2 : x ≤ 120
      · by_cases x3 : x ≤ nI n
        · exact absurd ⟨x1, x2, x3⟩ hx
        · simp only [x1, x2, x3, t2, if_true, if_false, Option.bind_some, s_10]
      · simp only [x1, x2, if_true, if_false, Option.bind_some]
end MV40
