section MV35
variable {sl d e : Nat} {M : mj_M}
theorem o_AB {n : Nat} {tp : Nat → Nat} {w1 w3 : Value} (hn : n ≤ 60) : ∀ m i, i + m = n → mv_oA sl d e n tp w1 w3 i ∧ ∀ i', i ≤ i' → i' ≤ n → mv_oB sl d e n tp w1 w3 i' := by
  intro m
  induction m with
  | zero =>
    intro i him
    have hA : mv_oA sl d e n tp w1 w3 i := o_A hn (by omega) (fun h => by omega) (fun i' h1 h2 => by omega)
    refine ⟨hA, fun i' h1 h2 => ?_⟩
    have : i' = i := by omega
    rw [this]
    exact o_B hn (by omega) hA (fun i' h1 h2 => by omega)
  | succ m ih =>
    intro i him
    obtain ⟨a1, a2⟩ := ih (i + 1) (by omega)
    have hA : mv_oA sl d e n tp w1 w3 i := o_A hn (by omega) (fun _ => a1) (fun i' h1 h2 => a2 i' (by omega) h2)
    refine ⟨hA, fun i' h1 h2 => ?_⟩
    by_cases q : i' = i
    · rw [q]
      exact o_B hn (by omega) hA (fun i' h1 h2 => a2 i' (by omega) h2)
    · exact a2 i' (by omega) h2
def mv_Qord (a k : Nat) : Prop := mv_QC a k ∨ mv_QR a k ∨ (a = 21 ∧ k = 1) ∨ (a = 45 ∧ (k = 7 ∨ k = 11 ∨ k = 13))
theorem p_order {n on : Nat} {tp od : Nat → Nat} {x : Int32} (T : mv_Tp M n tp) (O : mv_Or M on od) : ∃ v M1 M2, mj_C sl (d + 4) i_X8_order [.ref 0, .int x] M = some (v, M1) ∧ M1 72 = M 72 ∧ mj_C sl (d + 4) i_X9_order [.ref 45, .int x] M1 = some (v, M2) ∧ mv_fr mv_Qord M M2 ∧ (∃ n', mv_Tp M2 n' tp) ∧ ∃ on' od', mv_Or M2 on' od' := by
  obtain ⟨t1, t2, t3, t4⟩ := id T
  obtain ⟨p1, p2, p3, p4⟩ := id O
  by_cases hx : ¬ x < 1 ∧ x ≤ 60 ∧ x ≤ nI n
  · obtain ⟨x1, x2, x3⟩ := hx
    obtain ⟨g, hg, rfl⟩ := nI_of2 (n := 60) (by decide) (fun w => x1 (Int32.lt_trans w (by decide))) x2
    have hg1 : 1 ≤ g := by
      by_cases q : 1 ≤ g
      · exact q
      · exact absurd ((mq_lt (b := 1) (by omega) (by decide)).mpr (by omega)) x1
    have hgn : g ≤ n := (mq_le (by omega) (by omega)).mp x3
    have A := (o_AB (sl := sl) (d := d) (e := d + 1) (tp := tp) (w1 := .int (nI g)) (w3 := .null) hg g 0 (by omega)).1
    obtain ⟨Mc0, hMc0⟩ : ∃ Mc0, Mc0 = mj_st (mj_st M 23 5 0) 23 6 0 := ⟨_, rfl⟩
    have fc0 : mv_fr mv_QC1 M Mc0 := by
      rw [hMc0]
      exact (mv_fr.rf.st (Or.inr ⟨rfl, by omega, by omega⟩)).st (Or.inr ⟨rfl, by omega, by omega⟩)
    have C0 : mv_oc Mc0 0 (fun _ => 0) 0 (fun _ => 0) (fun _ => 0) := by
      rw [hMc0]
      exact ⟨by rw [mq_st_ne (by omega), mq_st_eq]; rfl, by rw [mq_st_eq]; rfl, fun j hj => by omega, fun j hj => by omega⟩
    have W0 : mv_wo 0 (fun _ => 0) 0 (fun _ => 0) := ⟨by omega, by omega, fun j hj => by omega, fun j hj => by omega⟩
    have setR : ∀ B : mj_M, B 45 5 = nI n → mv_Tb B tp → ∃ Mr0, mv_fr (fun a k => a = 45 ∧ (k = 6 ∨ k = 7 ∨ k = 11 ∨ k = 13 ∨ k = 33 ∨ k = 34)) B Mr0 ∧ mv_od Mr0 0 (fun _ => 0) 0 (fun _ => 0) (fun _ => 0) g 0 ∧ mv_Tb Mr0 tp ∧ mj_C sl (d + 4) i_X9_order [.ref 45, .int (nI g)] B = (mj_E sl (d + 1 + 1 + 1) i_X9_readsItem 0 [.ref 45, .null, .null, .null] [] Mr0).bind (fun q => mj_E sl (d + 1 + 2 + 1) i_X9_order 40 [.ref 45, .int (nI g), .int q.1, .null] [] q.2) := by
      intro B hB TB
      have f : mv_fr (fun a k => a = 45 ∧ (k = 6 ∨ k = 7 ∨ k = 11 ∨ k = 13 ∨ k = 33 ∨ k = 34)) B (mj_st (mj_st (mj_st (mj_st (mj_st (mj_st B 45 6 0) 45 7 (nI g)) 45 11 0) 45 13 0) 45 33 0) 45 34 0) := (((((mv_fr.rf.st ⟨rfl, by omega⟩).st ⟨rfl, by omega⟩).st ⟨rfl, by omega⟩).st ⟨rfl, by omega⟩).st ⟨rfl, by omega⟩).st ⟨rfl, by omega⟩
      refine ⟨_, f, ⟨?_, ?_, fun j hj => by omega, fun j hj => by omega, ?_, ?_⟩, TB.fr f (fun a k z => by omega), ?_⟩
      · rw [mq_st_ne (by omega), mq_st_eq]; rfl
      · rw [mq_st_eq]; rfl
      · rw [mq_st_ne (by omega), mq_st_ne (by omega), mq_st_ne (by omega), mq_st_ne (by omega), mq_st_ne (by omega), mq_st_eq]; rfl
      · rw [mq_st_ne (by omega), mq_st_ne (by omega), mq_st_ne (by omega), mq_st_ne (by omega), mq_st_eq]
      · rw [b_X9_order, r_in]
        simp only [x1, x2, if_true, if_false, Option.bind_some, s_10]
        rw [hB, if_pos x3, b_X9_beginsText]
        simp only [Option.bind_some]
        rfl
    have Tc0 := T.tb.qc fc0
    obtain ⟨Mrx, frx, Rx, Tx, -⟩ := setR M t2 T.tb
    obtain ⟨v, Mc', Mr0', a1, -, po1⟩ := A 0 0 0 _ _ _ Mc0 Mrx .null .null .null (by omega) C0 Rx W0 (fun j hj => by omega) Tc0 Tx (Or.inl rfl) (Or.inl (by omega))
    have fcc : mv_fr mv_QC M Mc' := (fc0.wk (fun a k z => by unfold mv_QC1 at z; unfold mv_QC; omega)).tr po1.1
    have f1 : mv_fr mv_Qord M (mj_st Mc' 21 1 0) := (fcc.wk (fun a k z => Or.inl z)).st (Or.inr (Or.inr (Or.inl ⟨rfl, rfl⟩)))
    have Tq : ∀ a k, mv_Qord a k → a ≠ 22 ∧ a ≠ 50 := fun a k z => by unfold mv_Qord mv_QC mv_QR at z; omega
    obtain ⟨Mr0, fr0, R0, T0, e0⟩ := setR (mj_st Mc' 21 1 0) (by rw [mq_st_ne (by omega), fcc 45 5 (by unfold mv_QC; omega)]; exact t2) (T.tb.fr f1 Tq)
    obtain ⟨v2, Mc2, Mr', b1, b2, po2⟩ := A 0 0 0 _ _ _ Mc0 Mr0 .null .null .null (by omega) C0 R0 W0 (fun j hj => by omega) Tc0 T0 (Or.inl rfl) (Or.inl (by omega))
    rw [a1] at b1
    injection b1 with b1
    injection b1 with b1 b3
    rw [← b3] at po2
    have f2 : mv_fr mv_Qord M Mr0 := f1.tr (fr0.wk (fun a k z => by unfold mv_Qord mv_QR; omega))
    have f3 : mv_fr mv_Qord M Mr' := f2.tr (po2.2.1.wk (fun a k z => Or.inr (Or.inl z)))
    have m211 : Mr' 21 1 = 0 := by rw [po2.2.1 21 1 (by unfold mv_QR; omega), fr0 21 1 (by omega), mq_st_eq]
    refine ⟨v, mj_st Mc' 21 1 0, Mr', ?_, mq_72 f1 (fun k z => by unfold mv_Qord mv_QC mv_QR at z; omega), ?_, f3, ⟨0, ?_, ?_, by omega, ?_⟩, ?_⟩
    · have a1' : mj_E sl (d + 2 + 1) 67 15 [.ref 23, .ref 21, .int (nI g), .int 0, .int 0, .null, .null, .null] [] Mc0 = some (v, Mc') := a1
      rw [b_X8_order, b_X7_has, t1]
      simp only [x1, x2, x3, if_true, if_false, Option.bind_some, s_10]
      rw [b_X6_readOrder, ← hMc0, a1']
      rfl
    · rw [e0, b1]
      exact b2
    · rw [m211]; rfl
    · rw [po2.2.2.1]; rfl
    · exact T.tb.fr f3 Tq
    · rcases po2.2.2.2 with ⟨o1, o2, o3, o4⟩ | ⟨on', od', o1, o2, o3, o4⟩
      · refine ⟨on, od, ?_, ?_, p3, fun j hj => ⟨(p4 j hj).1, ?_, ?_⟩⟩
        · rw [po2.2.1 23 4 (by unfold mv_QR; omega), fr0 23 4 (by omega), mq_st_ne (by omega), o1, fc0 23 4 (by unfold mv_QC1; omega)]; exact p1
        · rw [o3, fr0 45 32 (by omega), mq_st_ne (by omega), fcc 45 32 (by unfold mv_QC; omega)]; exact p2
        · rw [po2.2.1 24 j (by unfold mv_QR; omega), fr0 24 j (by omega), mq_st_ne (by omega), o2, fc0 24 j (by unfold mv_QC1; omega)]; exact (p4 j hj).2.1
        · rw [o4, fr0 64 j (by omega), mq_st_ne (by omega), fcc 64 j (by unfold mv_QC; omega)]; exact (p4 j hj).2.2
      · refine ⟨on', od', ?_, o3, o1, fun j hj => ⟨(o4 j hj).1, ?_, (o4 j hj).2.2⟩⟩
        · rw [po2.2.1 23 4 (by unfold mv_QR; omega), fr0 23 4 (by omega), mq_st_ne (by omega)]; exact o2
        · rw [po2.2.1 24 j (by unfold mv_QR; omega), fr0 24 j (by omega), mq_st_ne (by omega)]; exact (o4 j hj).2.1
  · refine ⟨-1, M, M, ?_, rfl, ?_, mv_fr.rf, ⟨n, T⟩, ⟨on, od, O⟩⟩
    · rw [b_X8_order, b_X7_has, t1]
      by_cases x1 : x < 1
      · simp only [x1, if_true, Option.bind_some]
      by_cases x2 : x ≤ 60
      · by_cases x3 : x ≤ nI n
        · exact absurd ⟨x1, x2, x3⟩ hx
        · simp only [x1, x2, x3, if_true, if_false, Option.bind_some]
      · simp only [x1, x2, if_true, if_false, Option.bind_some]
    · rw [b_X9_order, r_in]
      by_cases x1 : x < 1
      · simp only [x1, if_true, Option.bind_some]
      by_cases x2 : x ≤ 60
      · by_cases x3 : x ≤ nI n
        · exact absurd ⟨x1, x2, x3⟩ hx
        · simp only [x1, x2, x3, t2, if_true, if_false, Option.bind_some, s_10]
      · simp only [x1, x2, if_true, if_false, Option.bind_some]
end MV35
