section MV21
variable {sl d : Nat} {M : mj_M} {mo : Nat → Option Nat} {cs : mv_CS}
theorem mv_Tp.tb {n : Nat} {tp : Nat → Nat} (T : mv_Tp M n tp) : mv_Tb M tp := T.2.2.2
theorem cp_both {Mc Mr : mj_M} {tp od : Nat → Nat} {n on : Nat} {y : Int32} (Bc : mv_B Mc mo cs) (Br : mv_B Mr mo cs) (Tc : mv_Tb Mc tp) (Tr : mv_Tb Mr tp) (Oc : mv_Or Mc on od) (Or' : mv_Or Mr on od) (hn : n ≤ 12) (hy : y = 100 ∨ y = 101 ∨ ∃ j, j < 60 ∧ y = nI j) : ∃ v Mc' Mr', mj_E sl (d + 4) i_X8_copied 59 [.ref 0, .int (nI n), .int y, .int 1, .int 0] [] Mc = some (v, Mc') ∧ mv_fr (fun a _ => a = 37) Mc Mc' ∧ mj_E sl (d + 4) i_X9_copied 48 [.ref 45, .int (nI n), .int y, .int 0, .null, .null, .null, .null] [] Mr = some (v, Mr') ∧ mv_fr (fun a _ => a = 69) Mr Mr' := by
  obtain ⟨hm, hcm, hw, hr, hcc, hwc⟩ := id Bc
  obtain ⟨hm2, hcm2, -, hr2, hcc2, -⟩ := id Br
  obtain ⟨o1, o2, o3, o4⟩ := id Oc
  obtain ⟨r1, r2, r3, r4⟩ := id Or'
  by_cases hall : ∀ i, i < n → tp i < 10 ∧ mv_to cs (tp i) = true
  · have A : ∀ i, i ≤ n → mj_E sl (d + 3 + 1) i_X8_copied 59 [.ref 0, .int (nI n), .int y, .int 1, .int (nI i)] [] Mc = mj_E sl (d + 3 + 1) i_X8_copied 59 [.ref 0, .int (nI n), .int y, .int 1, .int (nI n)] [] Mc := mq_up rfl (fun i hi ih => by
      obtain ⟨h1, h2⟩ := hall i hi
      rw [b_X8_copied_59 (y4 := nI i)]
      simp (disch := omega) only [s_lt, hi, if_true, c_byteB Tc, Option.bind_some, c_hasC (b := 3) rfl hcc h1, h2, s_10, if_false, s_addL]
      exact ih)
    have A2 : ∀ i, i ≤ n → mj_E sl (d + 3 + 1) i_X9_copied 48 [.ref 45, .int (nI n), .int y, .int (nI i), .null, .null, .null, .null] [] Mr = mj_E sl (d + 3 + 1) i_X9_copied 48 [.ref 45, .int (nI n), .int y, .int (nI n), .null, .null, .null, .null] [] Mr := mq_up rfl (fun i hi ih => by
      obtain ⟨h1, h2⟩ := hall i hi
      rw [b_X9_copied_48 (y3 := nI i)]
      simp (disch := omega) only [s_lt, hi, if_true, r_octB Tr, Option.bind_some, r_isTold hr2 h1, h2, s_10, if_false, s_addL]
      exact ih)
    have C : ∀ k, k ≤ on → ∀ Mr', mv_fr (fun a _ => a = 69) Mr Mr' → (∀ j, j < k → Mr' 69 j = nI (od j)) → ∃ Mr2, mv_fr (fun a _ => a = 69) Mr Mr2 ∧ (∀ j, j < on → Mr2 69 j = nI (od j)) ∧ mj_E sl (d + 3 + 1) i_X9_copied 82 [.ref 45, .int (nI n), .int y, .int (nI on), .int (nI k), .null, .null, .null] [] Mr' = mj_E sl (d + 3 + 1) i_X9_copied 111 [.ref 45, .int (nI n), .int y, .int (nI on), .int 0, .null, .null, .null] [] Mr2 := by
      refine mq_up ?_ ?_
      · intro Mr' f h
        refine ⟨Mr', f, h, ?_⟩
        rw [b_X9_copied_82]
        simp only [Int32.lt_irrefl, if_false]
      · intro k hk ih Mr' f h
        rw [b_X9_copied_82]
        simp (disch := omega) only [s_lt, hk, if_true, s_in, s_cl, s_addL]
        refine ih _ (mv_fr.st f rfl) (fun j hj => ?_)
        by_cases q : j = k
        · rw [q, mq_st_eq, f 64 k (by omega)]
          exact (r4 k hk).2.2
        · rw [mq_st_ne (Or.inr q)]
          exact h j (by omega)
    obtain ⟨Mr1, g1, g2, g3⟩ := C 0 (by omega) Mr mv_fr.rf (fun j hj => by omega)
    have fcp : mv_fr (fun a _ => a = 37) Mc (mj_cp Mc 24 37 0 0 on) := mv_fr.cp mv_fr.rf (fun k => rfl)
    obtain ⟨left, Mc2, Mr2, l1, l2, fc2, fr2, hs2, e3, u5, u6, u7, e4⟩ := cp_outer (sl := sl) (d := d) (n := n) (yy := y) Bc Br Tc Tr hn (fun i hi => (hall i hi).1) 0 (by omega) on (mj_cp Mc 24 37 0 0 on) Mr1 .null .null .null .null .null .null .null .null o3 fcp g1 (fun j hj => ⟨od j, (o4 j hj).1, by rw [mq_cp_in hj]; exact (o4 j hj).2.1, g2 j hj⟩)
    have z0 : (0 : Int32).toNatClampNeg = 0 := by decide
    have ealong : mj_C sl (d + 3) i_X8_copyAlong [.ref 0, .int (nI n)] Mc = some (nI left, Mc2) := by
      rw [b_X8_copyAlong (d := d + 2), o1, nI_clamp (by omega), z0, if_pos ⟨by decide, by decide, nI_pos (by omega), by omega, by omega⟩]
      exact e3
    have er : mj_E sl (d + 4) i_X9_copied 48 [.ref 45, .int (nI n), .int y, .int 0, .null, .null, .null, .null] [] Mr = mj_E sl (d + 3 + 1) i_X9_copied 111 [.ref 45, .int (nI n), .int y, .int (nI left), .int (nI n), u5, u6, u7] [] Mr2 := by
      have a0 := A2 0 (by omega)
      have h48 : mj_E sl (d + 3 + 1) i_X9_copied 48 [.ref 45, .int (nI n), .int y, .int (nI n), .null, .null, .null, .null] [] Mr = mj_E sl (d + 3 + 1) i_X9_copied 82 [.ref 45, .int (nI n), .int y, .int (nI on), .int 0, .null, .null, .null] [] Mr := by
        rw [b_X9_copied_48, r2]
        simp only [Int32.lt_irrefl, if_false]
      exact a0.trans (h48.trans (g3.trans ?_))
      sorry
    sorry
  · sorry
end MV21
