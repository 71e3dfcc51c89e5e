def mv_Tb (M : mj_M) (tp : Nat → Nat) : Prop := ∀ j, j < 260 → tp j < 256 ∧ M 22 j = nI (tp j) ∧ M 50 j &&& 255 = nI (tp j)
theorem mv_Tb.fr {Q : Nat → Nat → Prop} {M M1 : mj_M} {tp : Nat → Nat} (h : mv_Tb M tp) (f : mv_fr Q M M1) (hq : ∀ a k, Q a k → a ≠ 22 ∧ a ≠ 50) : mv_Tb M1 tp := fun j hj => by
  rw [f 22 j (fun z => (hq _ _ z).1 rfl), f 50 j (fun z => (hq _ _ z).2 rfl)]
  exact h j hj
section MV20
variable {sl d dr : Nat} {M : mj_M} {mo : Nat → Option Nat} {cs : mv_CS}
theorem c_byteB {j : Nat} {tp : Nat → Nat} (T : mv_Tb M tp) (hj : j < 260) : mj_C sl d i_X7_byteAt [.ref 21, .int (nI j)] M = some (nI (tp j), M) := by
  rw [b_X7_byteAt]
  simp (disch := omega) only [s_ltL, Nat.not_lt_zero, s_lt0, hj, if_true, if_false, s_in, s_cl, (T j hj).2.1]
theorem r_octB {j : Nat} {tp : Nat → Nat} (T : mv_Tb M tp) (hj : j < 260) : mj_C sl d i_X9_octet [.ref 45, .int (nI j)] M = some (nI (tp j), M) := by
  rw [b_X9_octet]
  simp (disch := omega) only [hj, if_true, s_in, s_cl, (T j hj).2.2]
theorem mv_told_nat {c : Nat} (hr : mv_rC M 46 cs) (h : c < 256) : (c < 10 ∧ mv_to cs c = true ∧ ∀ sl d, mj_C sl (d + 1) i_X9_isTold [.ref 45, .int (nI c)] M = some (1, M)) ∨ (¬ (c < 10 ∧ mv_to cs c = true) ∧ ∀ sl d, mj_C sl (d + 1) i_X9_isTold [.ref 45, .int (nI c)] M = some (0, M)) := by
  by_cases hc : c < 10
  · cases t : mv_to cs c with
    | true => exact Or.inl ⟨hc, rfl, fun sl d => by rw [r_isTold hr hc, t]; rfl⟩
    | false => exact Or.inr ⟨fun z => absurd z.2 (by decide), fun sl d => by rw [r_isTold hr hc, t]; rfl⟩
  · exact Or.inr ⟨fun z => hc z.1, fun sl d => r_isTold_no (Or.inr ((mq_le (by decide) (by omega)).mpr (by omega)))⟩
theorem mv_toldC_nat {b c : Nat} (hb : mj_ocl b = 0) (hcc : mv_cC M b cs) (h : c < 256) : (c < 10 ∧ mv_to cs c = true → ∀ sl d, mj_C sl d i_X1_has [.ref b, .int (nI c)] M = some (1, M)) ∧ (¬ (c < 10 ∧ mv_to cs c = true) → ∀ sl d, mj_C sl d i_X1_has [.ref b, .int (nI c)] M = some (0, M)) := by
  constructor
  · rintro ⟨h1, h2⟩ sl d
    rw [c_hasC hb hcc h1, h2]
    rfl
  · intro hn sl d
    by_cases hc : c < 10
    · cases t : mv_to cs c with
      | true => exact absurd ⟨hc, t⟩ hn
      | false => rw [c_hasC hb hcc hc, t]; rfl
    · exact c_hasC_no hb (Or.inr ((mq_le (by decide) (by omega)).mpr (by omega)))
def mv_same (Mc Mr : mj_M) (P : Nat → Prop) : Prop := ∀ j, P j → ∃ k, k < 8 ∧ Mc 37 j = nI k ∧ Mr 69 j = nI k
theorem mv_rd_c (mo : Nat → Option Nat) (g : Nat) : mv_rd mo g = -2 ∨ ∃ j, j < 8 ∧ mv_rd mo g = nI j ∧ (mo j).isSome = true := mv_rd_cases mo g 8 (Nat.le_refl _)
theorem cp_inner {Mc0 Mr0 : mj_M} {tp : Nat → Nat} {n y i left c : Nat} {yy : Int32} (Bc : mv_B Mc0 mo cs) (Br : mv_B Mr0 mo cs) (Tr : mv_Tb Mr0 tp) (hc : c < 10) (hi : i < 260) (ht : tp i = c) (hl : left ≤ 60) : ∀ k, k ≤ left → ∀ (next : Nat) (Mc Mr : mj_M) (w7 w8 w9 : Value), next ≤ k → mv_fr (fun a _ => a = 37) Mc0 Mc → mv_fr (fun a _ => a = 69) Mr0 Mr → mv_same Mc Mr (fun j => j < next ∨ (k ≤ j ∧ j < left)) → ∃ next' Mc' Mr', next' ≤ left ∧ mv_fr (fun a _ => a = 37) Mc0 Mc' ∧ mv_fr (fun a _ => a = 69) Mr0 Mr' ∧ mv_same Mc' Mr' (fun j => j < next') ∧ (∃ v5 v6 v7 v8, mj_E sl (d + 3) i_X8_copyAlong 48 [.ref 0, .int (nI n), .int (nI left), .int (nI i), .int (nI c), .int (nI next), .int (nI k), w7, w8] [] Mc = mj_E sl (d + 3) i_X8_copyAlong 27 [.ref 0, .int (nI n), .int (nI next'), .int (nI (i + 1)), .int (nI c), v5, v6, v7, v8] [] Mc') ∧ (∃ v5 v6 v7, mj_E sl (dr + 3) i_X9_copied 123 [.ref 45, .int (nI n), .int yy, .int (nI left), .int (nI i), .int (nI next), .int (nI k), w9] [] Mr = mj_E sl (dr + 3) i_X9_copied 111 [.ref 45, .int (nI n), .int yy, .int (nI next'), .int (nI (i + 1)), v5, v6, v7] [] Mr') := by
  refine mq_up ?_ ?_
  · intro next Mc Mr w7 w8 w9 hn fc fr hs
    refine ⟨next, Mc, Mr, hn, fc, fr, fun j hj => hs j (Or.inl hj), ⟨.int (nI next), .int (nI left), w7, w8, ?_⟩, ⟨.int (nI next), .int (nI left), w9, ?_⟩⟩
    · rw [b_X8_copyAlong_48 (d := d + 2)]
      simp only [Int32.lt_irrefl, if_false, nI_1]
    · rw [b_X9_copied_123 (d := dr + 2)]
      simp only [Int32.lt_irrefl, if_false, nI_1]
  · intro k hk ih next Mc Mr w7 w8 w9 hn fc fr hs
    obtain ⟨hm, hcm, hw, hr, hcc, hwc⟩ := Bc.fr fc (fun a k z => by omega)
    obtain ⟨hm2, hcm2, -, hr2, hcc2, -⟩ := Br.fr fr (fun a k z => by omega)
    have T2 := Tr.fr fr (fun a k z => by omega)
    obtain ⟨q, q8, e1, e2⟩ := hs k (Or.inr ⟨Nat.le_refl _, hk⟩)
    have skip : ∀ w7 w8 w9 : Value, _ := fun w7 w8 w9 => ih next Mc Mr w7 w8 w9 (by omega) fc fr (fun j hj => hs j (by omega))
    rw [b_X8_copyAlong_48 (d := d + 2), b_X9_copied_123 (d := dr + 2)]
    simp (disch := omega) only [s_lt, hk, if_true, s_in, s_cl, e1, e2, c_hasM hcm q8, r_isLetter hm2 hw q8, Option.bind_some, s_b0, s_addL]
    by_cases mq : (mo q).isSome = true
    · simp (disch := omega) only [mq, not_true, if_false, c_formAt (b := 3) rfl hcm hcc hwc hc q8 mq, Option.bind_some, c_nearest hcm hw (mv_fm_lt hw hwc c q), r_octB T2, ht, if_true, e2, r_formNow hm2 hw hr2 hwc hc q8 mq, r_readsAs hm2 hw (mv_fm_lt hw hwc c q)]
      rcases mv_rd_c mo (mv_fm mo cs c q) with e | ⟨j, j8, e, -⟩
      · simp only [e, if_true]
        exact skip _ _ _
      · have nj : ¬ nI j = -2 := by rw [s_m2 (by omega)]; exact id
        simp only [e, nj, if_false]
        refine ih (next + 1) _ _ _ _ _ (by omega) (mv_fr.st fc rfl) (mv_fr.st fr rfl) (fun a ha => ?_)
        by_cases an : a = next
        · refine ⟨j, j8, ?_, ?_⟩
          · rw [an, mq_st_eq]
          · rw [an, mq_st_eq]
        · obtain ⟨b, b1, b2, b3⟩ := hs a (by omega)
          refine ⟨b, b1, ?_, ?_⟩
          · rw [mq_st_ne (Or.inr an)]; exact b2
          · rw [mq_st_ne (Or.inr an)]; exact b3
    · simp only [mq, not_false_eq_true, if_true]
      exact skip _ _ _
theorem cp_outer {Mc0 Mr0 : mj_M} {tp : Nat → Nat} {n : Nat} {yy : Int32} (Bc : mv_B Mc0 mo cs) (Br : mv_B Mr0 mo cs) (Tc : mv_Tb Mc0 tp) (Tr : mv_Tb Mr0 tp) (hn : n ≤ 12) (ht : ∀ i, i < n → tp i < 10) : ∀ i, i ≤ n → ∀ (left : Nat) (Mc Mr : mj_M) (w4 w5 w6 w7 w8 v5 v6 v7 : Value), left ≤ 60 → mv_fr (fun a _ => a = 37) Mc0 Mc → mv_fr (fun a _ => a = 69) Mr0 Mr → mv_same Mc Mr (fun j => j < left) → ∃ left' Mc' Mr', left' ≤ 60 ∧ left' ≤ left ∧ mv_fr (fun a _ => a = 37) Mc0 Mc' ∧ mv_fr (fun a _ => a = 69) Mr0 Mr' ∧ mv_same Mc' Mr' (fun j => j < left') ∧ mj_E sl (d + 3) i_X8_copyAlong 27 [.ref 0, .int (nI n), .int (nI left), .int (nI i), w4, w5, w6, w7, w8] [] Mc = some (nI left', Mc') ∧ ∃ u5 u6 u7, mj_E sl (dr + 3) i_X9_copied 111 [.ref 45, .int (nI n), .int yy, .int (nI left), .int (nI i), v5, v6, v7] [] Mr = mj_E sl (dr + 3) i_X9_copied 111 [.ref 45, .int (nI n), .int yy, .int (nI left'), .int (nI n), u5, u6, u7] [] Mr' := by
  refine mq_up ?_ ?_
  · intro left Mc Mr w4 w5 w6 w7 w8 v5 v6 v7 hl fc fr hs
    refine ⟨left, Mc, Mr, hl, Nat.le_refl _, fc, fr, hs, ?_, _, _, _, rfl⟩
    rw [b_X8_copyAlong_27 (d := d + 2)]
    simp only [Int32.lt_irrefl, if_false]
  · intro i hi ih left Mc Mr w4 w5 w6 w7 w8 v5 v6 v7 hl fc fr hs
    have T1 := Tc.fr fc (fun a k z => by omega)
    obtain ⟨next', Mc', Mr', h1, fc1, fr1, hs1, ⟨a5, a6, a7, a8, e1⟩, ⟨c5, c6, c7, e2⟩⟩ := cp_inner (sl := sl) (d := d) (dr := dr) (n := n) (y := 0) (yy := yy) Bc Br Tr (ht i hi) (by omega) rfl hl 0 (by omega) 0 Mc Mr w7 w8 v7 (by omega) fc fr (fun j hj => hs j (by omega))
    obtain ⟨left', Mc2, Mr2, g1, g2, fc2, fr2, hs2, e3, u5, u6, u7, e4⟩ := ih next' Mc' Mr' (.int (nI (tp i))) a5 a6 a7 a8 c5 c6 c7 (by omega) fc1 fr1 hs1
    refine ⟨left', Mc2, Mr2, g1, by omega, fc2, fr2, hs2, ?_, u5, u6, u7, ?_⟩
    · rw [b_X8_copyAlong_27 (d := d + 2)]
      simp (disch := omega) only [s_lt, hi, if_true, c_byteB T1, Option.bind_some]
      exact e1.trans e3
    · rw [b_X9_copied_111 (d := dr + 2)]
      simp (disch := omega) only [s_lt, hi, if_true]
      exact e2.trans e4
end MV20
