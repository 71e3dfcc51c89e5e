def mv_Inv (M : mj_M) : Prop := ∃ mo cs n tp on od kp ck, mv_B M mo cs ∧ mv_Tp M n tp ∧ mv_Or M on od ∧ mv_Kp M mo kp ck ∧ mv_Lw M ∧ M 74 = mj_bt
theorem mq_74 {Q : Nat → Nat → Prop} {M M1 : mj_M} (f : mv_fr Q M M1) (h : ∀ k, ¬ Q 74 k) (e : M 74 = mj_bt) : M1 74 = mj_bt := by
  rw [← e]
  funext k
  exact f 74 k (h k)
theorem mj_C_to {sl id : Nat} (a : Nat) {as : List Value} {M : mj_M} {r : Int32 × mj_M} (h : mj_C sl a id as M = some r) (ha : a ≤ 1999) : mj_C sl 1999 id as M = some r := by
  have e := mj_C_dk h (1999 - a)
  rw [show a + (1999 - a) = 1999 from by omega] at e
  exact e
theorem sd_Sc_B : ∀ a k, mv_Sc a k → ¬ (a = 1 ∧ k = 1) ∧ a ≠ 2 ∧ ¬ (a = 3 ∧ 6 ≤ k ∧ k ≤ 8) ∧ ¬ (4 ≤ a ∧ a ≤ 6) ∧ a ≠ 46 ∧ a ≠ 49 := fun a k z => by
  unfold mv_Sc at z
  refine ⟨?_, ?_, ?_, ?_, ?_, ?_⟩ <;> omega
theorem sd_Sc_Tp : ∀ a k, mv_Sc a k → ¬ (a = 21 ∧ k = 1) ∧ ¬ (a = 45 ∧ k = 5) ∧ a ≠ 22 ∧ a ≠ 50 := fun a k z => by
  unfold mv_Sc at z
  refine ⟨?_, ?_, ?_, ?_⟩ <;> omega
theorem sd_Sc_Or : ∀ a k, mv_Sc a k → ¬ (a = 23 ∧ k = 4) ∧ ¬ (a = 45 ∧ k = 32) ∧ a ≠ 24 ∧ a ≠ 64 := fun a k z => by
  unfold mv_Sc at z
  refine ⟨?_, ?_, ?_, ?_⟩ <;> omega
theorem sd_Sc_Kp : ∀ a k, mv_Sc a k → ¬ (a = 0 ∧ k = 10) ∧ ¬ (a = 45 ∧ k = 45) ∧ a ≠ 48 ∧ ¬ (a = 9 ∧ 6 ≤ k ∧ k ≤ 8) ∧ ¬ (10 ≤ a ∧ a ≤ 12) := fun a k z => by
  unfold mv_Sc at z
  refine ⟨?_, ?_, ?_, ?_, ?_⟩ <;> omega
theorem sd_Sc_Lw : ∀ a k, mv_Sc a k → ¬ (a = 0 ∧ k = 9) ∧ ¬ (a = 28 ∧ k = 1) ∧ ¬ ((a = 29 ∨ a = 38) ∧ (k = 6 ∨ k = 7)) ∧ ¬ (a = 30 ∨ a = 33 ∨ a = 34 ∨ a = 35) ∧ ¬ (a = 39 ∨ a = 42 ∨ a = 43 ∨ a = 44) ∧ ¬ (a = 45 ∧ k = 14) ∧ ¬ (57 ≤ a ∧ a ≤ 61) := fun a k z => by
  unfold mv_Sc at z
  refine ⟨?_, ?_, ?_, ?_, ?_, ?_, ?_⟩ <;> omega
theorem sd_Sc_74 : ∀ k, ¬ mv_Sc 74 k := fun k z => by
  unfold mv_Sc at z
  omega
theorem sd_Qs_Tp : ∀ a k, mv_Qs a k → ¬ (a = 21 ∧ k = 1) ∧ ¬ (a = 45 ∧ k = 5) ∧ a ≠ 22 ∧ a ≠ 50 := fun a k z => by
  unfold mv_Qs mv_Qk at z
  refine ⟨?_, ?_, ?_, ?_⟩ <;> omega
theorem sd_Qs_Or : ∀ a k, mv_Qs a k → ¬ (a = 23 ∧ k = 4) ∧ ¬ (a = 45 ∧ k = 32) ∧ a ≠ 24 ∧ a ≠ 64 := fun a k z => by
  unfold mv_Qs mv_Qk at z
  refine ⟨?_, ?_, ?_, ?_⟩ <;> omega
theorem sd_Qs_Kp : ∀ a k, mv_Qs a k → ¬ (a = 0 ∧ k = 10) ∧ ¬ (a = 45 ∧ k = 45) ∧ a ≠ 48 ∧ ¬ (a = 9 ∧ 6 ≤ k ∧ k ≤ 8) ∧ ¬ (10 ≤ a ∧ a ≤ 12) := fun a k z => by
  unfold mv_Qs mv_Qk at z
  refine ⟨?_, ?_, ?_, ?_, ?_⟩ <;> omega
theorem sd_Qs_Lw : ∀ a k, mv_Qs a k → ¬ (a = 0 ∧ k = 9) ∧ ¬ (a = 28 ∧ k = 1) ∧ ¬ ((a = 29 ∨ a = 38) ∧ (k = 6 ∨ k = 7)) ∧ ¬ (a = 30 ∨ a = 33 ∨ a = 34 ∨ a = 35) ∧ ¬ (a = 39 ∨ a = 42 ∨ a = 43 ∨ a = 44) ∧ ¬ (a = 45 ∧ k = 14) ∧ ¬ (57 ≤ a ∧ a ≤ 61) := fun a k z => by
  unfold mv_Qs mv_Qk at z
  refine ⟨?_, ?_, ?_, ?_, ?_, ?_, ?_⟩ <;> omega
theorem sd_Qs_74 : ∀ k, ¬ mv_Qs 74 k := fun k z => by
  unfold mv_Qs mv_Qk at z
  omega
theorem sd_Qm_Tp : ∀ a k, mv_Qm a k → ¬ (a = 21 ∧ k = 1) ∧ ¬ (a = 45 ∧ k = 5) ∧ a ≠ 22 ∧ a ≠ 50 := fun a k z => by
  unfold mv_Qm at z
  refine ⟨?_, ?_, ?_, ?_⟩ <;> omega
theorem sd_Qm_Or : ∀ a k, mv_Qm a k → ¬ (a = 23 ∧ k = 4) ∧ ¬ (a = 45 ∧ k = 32) ∧ a ≠ 24 ∧ a ≠ 64 := fun a k z => by
  unfold mv_Qm at z
  refine ⟨?_, ?_, ?_, ?_⟩ <;> omega
theorem sd_Qm_Kp : ∀ a k, mv_Qm a k → ¬ (a = 0 ∧ k = 10) ∧ ¬ (a = 45 ∧ k = 45) ∧ a ≠ 48 ∧ ¬ (a = 9 ∧ 6 ≤ k ∧ k ≤ 8) ∧ ¬ (10 ≤ a ∧ a ≤ 12) := fun a k z => by
  unfold mv_Qm at z
  refine ⟨?_, ?_, ?_, ?_, ?_⟩ <;> omega
theorem sd_Qm_Lw : ∀ a k, mv_Qm a k → ¬ (a = 0 ∧ k = 9) ∧ ¬ (a = 28 ∧ k = 1) ∧ ¬ ((a = 29 ∨ a = 38) ∧ (k = 6 ∨ k = 7)) ∧ ¬ (a = 30 ∨ a = 33 ∨ a = 34 ∨ a = 35) ∧ ¬ (a = 39 ∨ a = 42 ∨ a = 43 ∨ a = 44) ∧ ¬ (a = 45 ∧ k = 14) ∧ ¬ (57 ≤ a ∧ a ≤ 61) := fun a k z => by
  unfold mv_Qm at z
  refine ⟨?_, ?_, ?_, ?_, ?_, ?_, ?_⟩ <;> omega
theorem sd_Qm_74 : ∀ k, ¬ mv_Qm 74 k := fun k z => by
  unfold mv_Qm at z
  omega
theorem sd_Qp_B : ∀ a k, mv_Qp a k → ¬ (a = 1 ∧ k = 1) ∧ a ≠ 2 ∧ ¬ (a = 3 ∧ 6 ≤ k ∧ k ≤ 8) ∧ ¬ (4 ≤ a ∧ a ≤ 6) ∧ a ≠ 46 ∧ a ≠ 49 := fun a k z => by
  unfold mv_Qp mv_Qk at z
  refine ⟨?_, ?_, ?_, ?_, ?_, ?_⟩ <;> omega
theorem sd_Qp_Tp : ∀ a k, mv_Qp a k → ¬ (a = 21 ∧ k = 1) ∧ ¬ (a = 45 ∧ k = 5) ∧ a ≠ 22 ∧ a ≠ 50 := fun a k z => by
  unfold mv_Qp mv_Qk at z
  refine ⟨?_, ?_, ?_, ?_⟩ <;> omega
theorem sd_Qp_Or : ∀ a k, mv_Qp a k → ¬ (a = 23 ∧ k = 4) ∧ ¬ (a = 45 ∧ k = 32) ∧ a ≠ 24 ∧ a ≠ 64 := fun a k z => by
  unfold mv_Qp mv_Qk at z
  refine ⟨?_, ?_, ?_, ?_⟩ <;> omega
theorem sd_Qp_Lw : ∀ a k, mv_Qp a k → ¬ (a = 0 ∧ k = 9) ∧ ¬ (a = 28 ∧ k = 1) ∧ ¬ ((a = 29 ∨ a = 38) ∧ (k = 6 ∨ k = 7)) ∧ ¬ (a = 30 ∨ a = 33 ∨ a = 34 ∨ a = 35) ∧ ¬ (a = 39 ∨ a = 42 ∨ a = 43 ∨ a = 44) ∧ ¬ (a = 45 ∧ k = 14) ∧ ¬ (57 ≤ a ∧ a ≤ 61) := fun a k z => by
  unfold mv_Qp mv_Qk at z
  refine ⟨?_, ?_, ?_, ?_, ?_, ?_, ?_⟩ <;> omega
theorem sd_Qp_74 : ∀ k, ¬ mv_Qp 74 k := fun k z => by
  unfold mv_Qp mv_Qk at z
  omega
theorem sd_Qt_B : ∀ a k, mv_Qt a k → ¬ (a = 1 ∧ k = 1) ∧ a ≠ 2 ∧ ¬ (a = 3 ∧ 6 ≤ k ∧ k ≤ 8) ∧ ¬ (4 ≤ a ∧ a ≤ 6) ∧ a ≠ 46 ∧ a ≠ 49 := fun a k z => by
  unfold mv_Qt at z
  refine ⟨?_, ?_, ?_, ?_, ?_, ?_⟩ <;> omega
theorem sd_Qt_Or : ∀ a k, mv_Qt a k → ¬ (a = 23 ∧ k = 4) ∧ ¬ (a = 45 ∧ k = 32) ∧ a ≠ 24 ∧ a ≠ 64 := fun a k z => by
  unfold mv_Qt at z
  refine ⟨?_, ?_, ?_, ?_⟩ <;> omega
theorem sd_Qt_Kp : ∀ a k, mv_Qt a k → ¬ (a = 0 ∧ k = 10) ∧ ¬ (a = 45 ∧ k = 45) ∧ a ≠ 48 ∧ ¬ (a = 9 ∧ 6 ≤ k ∧ k ≤ 8) ∧ ¬ (10 ≤ a ∧ a ≤ 12) := fun a k z => by
  unfold mv_Qt at z
  refine ⟨?_, ?_, ?_, ?_, ?_⟩ <;> omega
theorem sd_Qt_Lw : ∀ a k, mv_Qt a k → ¬ (a = 0 ∧ k = 9) ∧ ¬ (a = 28 ∧ k = 1) ∧ ¬ ((a = 29 ∨ a = 38) ∧ (k = 6 ∨ k = 7)) ∧ ¬ (a = 30 ∨ a = 33 ∨ a = 34 ∨ a = 35) ∧ ¬ (a = 39 ∨ a = 42 ∨ a = 43 ∨ a = 44) ∧ ¬ (a = 45 ∧ k = 14) ∧ ¬ (57 ≤ a ∧ a ≤ 61) := fun a k z => by
  unfold mv_Qt at z
  refine ⟨?_, ?_, ?_, ?_, ?_, ?_, ?_⟩ <;> omega
theorem sd_Qt_74 : ∀ k, ¬ mv_Qt 74 k := fun k z => by
  unfold mv_Qt at z
  omega
theorem sd_Qn_B : ∀ a k, mv_Qn a k → ¬ (a = 1 ∧ k = 1) ∧ a ≠ 2 ∧ ¬ (a = 3 ∧ 6 ≤ k ∧ k ≤ 8) ∧ ¬ (4 ≤ a ∧ a ≤ 6) ∧ a ≠ 46 ∧ a ≠ 49 := fun a k z => by
  unfold mv_Qn at z
  refine ⟨?_, ?_, ?_, ?_, ?_, ?_⟩ <;> omega
theorem sd_Qn_Or : ∀ a k, mv_Qn a k → ¬ (a = 23 ∧ k = 4) ∧ ¬ (a = 45 ∧ k = 32) ∧ a ≠ 24 ∧ a ≠ 64 := fun a k z => by
  unfold mv_Qn at z
  refine ⟨?_, ?_, ?_, ?_⟩ <;> omega
theorem sd_Qn_Kp : ∀ a k, mv_Qn a k → ¬ (a = 0 ∧ k = 10) ∧ ¬ (a = 45 ∧ k = 45) ∧ a ≠ 48 ∧ ¬ (a = 9 ∧ 6 ≤ k ∧ k ≤ 8) ∧ ¬ (10 ≤ a ∧ a ≤ 12) := fun a k z => by
  unfold mv_Qn at z
  refine ⟨?_, ?_, ?_, ?_, ?_⟩ <;> omega
theorem sd_Qn_Lw : ∀ a k, mv_Qn a k → ¬ (a = 0 ∧ k = 9) ∧ ¬ (a = 28 ∧ k = 1) ∧ ¬ ((a = 29 ∨ a = 38) ∧ (k = 6 ∨ k = 7)) ∧ ¬ (a = 30 ∨ a = 33 ∨ a = 34 ∨ a = 35) ∧ ¬ (a = 39 ∨ a = 42 ∨ a = 43 ∨ a = 44) ∧ ¬ (a = 45 ∧ k = 14) ∧ ¬ (57 ≤ a ∧ a ≤ 61) := fun a k z => by
  unfold mv_Qn at z
  refine ⟨?_, ?_, ?_, ?_, ?_, ?_, ?_⟩ <;> omega
theorem sd_Qn_74 : ∀ k, ¬ mv_Qn 74 k := fun k z => by
  unfold mv_Qn at z
  omega
theorem sd_Qo_B : ∀ a k, mv_Qo a k → ¬ (a = 1 ∧ k = 1) ∧ a ≠ 2 ∧ ¬ (a = 3 ∧ 6 ≤ k ∧ k ≤ 8) ∧ ¬ (4 ≤ a ∧ a ≤ 6) ∧ a ≠ 46 ∧ a ≠ 49 := fun a k z => by
  unfold mv_Qo mv_Qn mv_Sc at z
  refine ⟨?_, ?_, ?_, ?_, ?_, ?_⟩ <;> omega
theorem sd_Qo_Or : ∀ a k, mv_Qo a k → ¬ (a = 23 ∧ k = 4) ∧ ¬ (a = 45 ∧ k = 32) ∧ a ≠ 24 ∧ a ≠ 64 := fun a k z => by
  unfold mv_Qo mv_Qn mv_Sc at z
  refine ⟨?_, ?_, ?_, ?_⟩ <;> omega
theorem sd_Qo_Kp : ∀ a k, mv_Qo a k → ¬ (a = 0 ∧ k = 10) ∧ ¬ (a = 45 ∧ k = 45) ∧ a ≠ 48 ∧ ¬ (a = 9 ∧ 6 ≤ k ∧ k ≤ 8) ∧ ¬ (10 ≤ a ∧ a ≤ 12) := fun a k z => by
  unfold mv_Qo mv_Qn mv_Sc at z
  refine ⟨?_, ?_, ?_, ?_, ?_⟩ <;> omega
theorem sd_Qo_Lw : ∀ a k, mv_Qo a k → ¬ (a = 0 ∧ k = 9) ∧ ¬ (a = 28 ∧ k = 1) ∧ ¬ ((a = 29 ∨ a = 38) ∧ (k = 6 ∨ k = 7)) ∧ ¬ (a = 30 ∨ a = 33 ∨ a = 34 ∨ a = 35) ∧ ¬ (a = 39 ∨ a = 42 ∨ a = 43 ∨ a = 44) ∧ ¬ (a = 45 ∧ k = 14) ∧ ¬ (57 ≤ a ∧ a ≤ 61) := fun a k z => by
  unfold mv_Qo mv_Qn mv_Sc at z
  refine ⟨?_, ?_, ?_, ?_, ?_, ?_, ?_⟩ <;> omega
theorem sd_Qo_74 : ∀ k, ¬ mv_Qo 74 k := fun k z => by
  unfold mv_Qo mv_Qn mv_Sc at z
  omega
theorem sd_Qord_B : ∀ a k, mv_Qord a k → ¬ (a = 1 ∧ k = 1) ∧ a ≠ 2 ∧ ¬ (a = 3 ∧ 6 ≤ k ∧ k ≤ 8) ∧ ¬ (4 ≤ a ∧ a ≤ 6) ∧ a ≠ 46 ∧ a ≠ 49 := fun a k z => by
  unfold mv_Qord mv_QC mv_QR at z
  refine ⟨?_, ?_, ?_, ?_, ?_, ?_⟩ <;> omega
theorem sd_Qord_Kp : ∀ a k, mv_Qord a k → ¬ (a = 0 ∧ k = 10) ∧ ¬ (a = 45 ∧ k = 45) ∧ a ≠ 48 ∧ ¬ (a = 9 ∧ 6 ≤ k ∧ k ≤ 8) ∧ ¬ (10 ≤ a ∧ a ≤ 12) := fun a k z => by
  unfold mv_Qord mv_QC mv_QR at z
  refine ⟨?_, ?_, ?_, ?_, ?_⟩ <;> omega
theorem sd_Qord_Lw : ∀ a k, mv_Qord a k → ¬ (a = 0 ∧ k = 9) ∧ ¬ (a = 28 ∧ k = 1) ∧ ¬ ((a = 29 ∨ a = 38) ∧ (k = 6 ∨ k = 7)) ∧ ¬ (a = 30 ∨ a = 33 ∨ a = 34 ∨ a = 35) ∧ ¬ (a = 39 ∨ a = 42 ∨ a = 43 ∨ a = 44) ∧ ¬ (a = 45 ∧ k = 14) ∧ ¬ (57 ≤ a ∧ a ≤ 61) := fun a k z => by
  unfold mv_Qord mv_QC mv_QR at z
  refine ⟨?_, ?_, ?_, ?_, ?_, ?_, ?_⟩ <;> omega
theorem sd_Qord_74 : ∀ k, ¬ mv_Qord 74 k := fun k z => by
  unfold mv_Qord mv_QC mv_QR at z
  omega
theorem sd_Qbl_Or : ∀ a k, mv_Qbl a k → ¬ (a = 23 ∧ k = 4) ∧ ¬ (a = 45 ∧ k = 32) ∧ a ≠ 24 ∧ a ≠ 64 := fun a k z => by
  unfold mv_Qbl mv_Qk at z
  refine ⟨?_, ?_, ?_, ?_⟩ <;> omega
theorem sd_Qbl_Kp : ∀ a k, mv_Qbl a k → ¬ (a = 0 ∧ k = 10) ∧ ¬ (a = 45 ∧ k = 45) ∧ a ≠ 48 ∧ ¬ (a = 9 ∧ 6 ≤ k ∧ k ≤ 8) ∧ ¬ (10 ≤ a ∧ a ≤ 12) := fun a k z => by
  unfold mv_Qbl mv_Qk at z
  refine ⟨?_, ?_, ?_, ?_, ?_⟩ <;> omega
theorem sd_Qbl_Lw : ∀ a k, mv_Qbl a k → ¬ (a = 0 ∧ k = 9) ∧ ¬ (a = 28 ∧ k = 1) ∧ ¬ ((a = 29 ∨ a = 38) ∧ (k = 6 ∨ k = 7)) ∧ ¬ (a = 30 ∨ a = 33 ∨ a = 34 ∨ a = 35) ∧ ¬ (a = 39 ∨ a = 42 ∨ a = 43 ∨ a = 44) ∧ ¬ (a = 45 ∧ k = 14) ∧ ¬ (57 ≤ a ∧ a ≤ 61) := fun a k z => by
  unfold mv_Qbl mv_Qk at z
  refine ⟨?_, ?_, ?_, ?_, ?_, ?_, ?_⟩ <;> omega
theorem sd_Qbl_74 : ∀ k, ¬ mv_Qbl 74 k := fun k z => by
  unfold mv_Qbl mv_Qk at z
  omega
theorem sd_Qmo_Tp : ∀ a k, mv_Qmo a k → ¬ (a = 21 ∧ k = 1) ∧ ¬ (a = 45 ∧ k = 5) ∧ a ≠ 22 ∧ a ≠ 50 := fun a k z => by
  unfold mv_Qmo mv_Qr at z
  refine ⟨?_, ?_, ?_, ?_⟩ <;> omega
theorem sd_Qmo_Or : ∀ a k, mv_Qmo a k → ¬ (a = 23 ∧ k = 4) ∧ ¬ (a = 45 ∧ k = 32) ∧ a ≠ 24 ∧ a ≠ 64 := fun a k z => by
  unfold mv_Qmo mv_Qr at z
  refine ⟨?_, ?_, ?_, ?_⟩ <;> omega
theorem sd_Qmo_Kp : ∀ a k, mv_Qmo a k → ¬ (a = 0 ∧ k = 10) ∧ ¬ (a = 45 ∧ k = 45) ∧ a ≠ 48 ∧ ¬ (a = 9 ∧ 6 ≤ k ∧ k ≤ 8) ∧ ¬ (10 ≤ a ∧ a ≤ 12) := fun a k z => by
  unfold mv_Qmo mv_Qr at z
  refine ⟨?_, ?_, ?_, ?_, ?_⟩ <;> omega
theorem sd_Qmo_Lw : ∀ a k, mv_Qmo a k → ¬ (a = 0 ∧ k = 9) ∧ ¬ (a = 28 ∧ k = 1) ∧ ¬ ((a = 29 ∨ a = 38) ∧ (k = 6 ∨ k = 7)) ∧ ¬ (a = 30 ∨ a = 33 ∨ a = 34 ∨ a = 35) ∧ ¬ (a = 39 ∨ a = 42 ∨ a = 43 ∨ a = 44) ∧ ¬ (a = 45 ∧ k = 14) ∧ ¬ (57 ≤ a ∧ a ≤ 61) := fun a k z => by
  unfold mv_Qmo mv_Qr at z
  refine ⟨?_, ?_, ?_, ?_, ?_, ?_, ?_⟩ <;> omega
theorem sd_Qmo_74 : ∀ k, ¬ mv_Qmo 74 k := fun k z => by
  unfold mv_Qmo mv_Qr at z
  omega
theorem sd_Qtr_Tp : ∀ a k, mv_Qtr a k → ¬ (a = 21 ∧ k = 1) ∧ ¬ (a = 45 ∧ k = 5) ∧ a ≠ 22 ∧ a ≠ 50 := fun a k z => by
  unfold mv_Qtr mv_Qr at z
  refine ⟨?_, ?_, ?_, ?_⟩ <;> omega
theorem sd_Qtr_Or : ∀ a k, mv_Qtr a k → ¬ (a = 23 ∧ k = 4) ∧ ¬ (a = 45 ∧ k = 32) ∧ a ≠ 24 ∧ a ≠ 64 := fun a k z => by
  unfold mv_Qtr mv_Qr at z
  refine ⟨?_, ?_, ?_, ?_⟩ <;> omega
theorem sd_Qtr_Kp : ∀ a k, mv_Qtr a k → ¬ (a = 0 ∧ k = 10) ∧ ¬ (a = 45 ∧ k = 45) ∧ a ≠ 48 ∧ ¬ (a = 9 ∧ 6 ≤ k ∧ k ≤ 8) ∧ ¬ (10 ≤ a ∧ a ≤ 12) := fun a k z => by
  unfold mv_Qtr mv_Qr at z
  refine ⟨?_, ?_, ?_, ?_, ?_⟩ <;> omega
theorem sd_Qtr_Lw : ∀ a k, mv_Qtr a k → ¬ (a = 0 ∧ k = 9) ∧ ¬ (a = 28 ∧ k = 1) ∧ ¬ ((a = 29 ∨ a = 38) ∧ (k = 6 ∨ k = 7)) ∧ ¬ (a = 30 ∨ a = 33 ∨ a = 34 ∨ a = 35) ∧ ¬ (a = 39 ∨ a = 42 ∨ a = 43 ∨ a = 44) ∧ ¬ (a = 45 ∧ k = 14) ∧ ¬ (57 ≤ a ∧ a ≤ 61) := fun a k z => by
  unfold mv_Qtr mv_Qr at z
  refine ⟨?_, ?_, ?_, ?_, ?_, ?_, ?_⟩ <;> omega
theorem sd_Qtr_74 : ∀ k, ¬ mv_Qtr 74 k := fun k z => by
  unfold mv_Qtr mv_Qr at z
  omega
theorem sd_Qri_Tp : ∀ a k, mv_Qri a k → ¬ (a = 21 ∧ k = 1) ∧ ¬ (a = 45 ∧ k = 5) ∧ a ≠ 22 ∧ a ≠ 50 := fun a k z => by
  unfold mv_Qri mv_Qtr mv_Qr at z
  refine ⟨?_, ?_, ?_, ?_⟩ <;> omega
theorem sd_Qri_Or : ∀ a k, mv_Qri a k → ¬ (a = 23 ∧ k = 4) ∧ ¬ (a = 45 ∧ k = 32) ∧ a ≠ 24 ∧ a ≠ 64 := fun a k z => by
  unfold mv_Qri mv_Qtr mv_Qr at z
  refine ⟨?_, ?_, ?_, ?_⟩ <;> omega
theorem sd_Qri_Kp : ∀ a k, mv_Qri a k → ¬ (a = 0 ∧ k = 10) ∧ ¬ (a = 45 ∧ k = 45) ∧ a ≠ 48 ∧ ¬ (a = 9 ∧ 6 ≤ k ∧ k ≤ 8) ∧ ¬ (10 ≤ a ∧ a ≤ 12) := fun a k z => by
  unfold mv_Qri mv_Qtr mv_Qr at z
  refine ⟨?_, ?_, ?_, ?_, ?_⟩ <;> omega
theorem sd_Qri_Lw : ∀ a k, mv_Qri a k → ¬ (a = 0 ∧ k = 9) ∧ ¬ (a = 28 ∧ k = 1) ∧ ¬ ((a = 29 ∨ a = 38) ∧ (k = 6 ∨ k = 7)) ∧ ¬ (a = 30 ∨ a = 33 ∨ a = 34 ∨ a = 35) ∧ ¬ (a = 39 ∨ a = 42 ∨ a = 43 ∨ a = 44) ∧ ¬ (a = 45 ∧ k = 14) ∧ ¬ (57 ≤ a ∧ a ≤ 61) := fun a k z => by
  unfold mv_Qri mv_Qtr mv_Qr at z
  refine ⟨?_, ?_, ?_, ?_, ?_, ?_, ?_⟩ <;> omega
theorem sd_Qri_74 : ∀ k, ¬ mv_Qri 74 k := fun k z => by
  unfold mv_Qri mv_Qtr mv_Qr at z
  omega
theorem sd_Qlw_B : ∀ a k, mv_Qlw a k → ¬ (a = 1 ∧ k = 1) ∧ a ≠ 2 ∧ ¬ (a = 3 ∧ 6 ≤ k ∧ k ≤ 8) ∧ ¬ (4 ≤ a ∧ a ≤ 6) ∧ a ≠ 46 ∧ a ≠ 49 := fun a k z => by
  unfold mv_Qlw at z
  refine ⟨?_, ?_, ?_, ?_, ?_, ?_⟩ <;> omega
theorem sd_Qlw_Or : ∀ a k, mv_Qlw a k → ¬ (a = 23 ∧ k = 4) ∧ ¬ (a = 45 ∧ k = 32) ∧ a ≠ 24 ∧ a ≠ 64 := fun a k z => by
  unfold mv_Qlw at z
  refine ⟨?_, ?_, ?_, ?_⟩ <;> omega
theorem sd_Qlw_Kp : ∀ a k, mv_Qlw a k → ¬ (a = 0 ∧ k = 10) ∧ ¬ (a = 45 ∧ k = 45) ∧ a ≠ 48 ∧ ¬ (a = 9 ∧ 6 ≤ k ∧ k ≤ 8) ∧ ¬ (10 ≤ a ∧ a ≤ 12) := fun a k z => by
  unfold mv_Qlw at z
  refine ⟨?_, ?_, ?_, ?_, ?_⟩ <;> omega
theorem sd_Qlw_74 : ∀ k, ¬ mv_Qlw 74 k := fun k z => by
  unfold mv_Qlw at z
  omega
theorem o_model {sl : Nat} {M : mj_M} {x1 x2 : Int32} (I : mv_Inv M) : ∃ v M1 M2, mj_C sl 1999 78 [.ref 0, .int x1, .int x2] M = some (v, M1) ∧ M1 72 = M 72 ∧ mj_C sl 1999 141 [.ref 45, .int x1, .int x2] M1 = some (v, M2) ∧ mv_Inv M2 := by
  obtain ⟨mo, cs, n, tp, on, od, kp, ck, B, T, O, K, LW, e74⟩ := id I
  obtain ⟨v, M1, M2, e1, h72, e2, f, mo2, B2, hs⟩ := p_model (sl := sl) (d := 0) (M := M) (x := x1) (y := x2) B
  have K2 : mv_Kp M2 mo kp ck := K.fr f sd_Qm_Kp
  have K3 : mv_Kp M2 mo2 kp ck := ⟨K2.1, K2.2.1, fun z => ⟨(K2.2.2 z).1, (K2.2.2 z).2.1, (K2.2.2 z).2.2.1, fun c k g y => ⟨((K2.2.2 z).2.2.2.1 c k g y).1, hs k ((K2.2.2 z).2.2.2.1 c k g y).2⟩, (K2.2.2 z).2.2.2.2⟩⟩
  exact ⟨v, M1, M2, mj_C_to (0 + 2) e1 (by omega), h72, mj_C_to (0 + 2) e2 (by omega), mo2, cs, n, tp, on, od, kp, ck, B2, T.fr f sd_Qm_Tp, O.fr f sd_Qm_Or, K3, LW.fr f sd_Qm_Lw, mq_74 f sd_Qm_74 e74⟩
theorem o_courtier {sl : Nat} {M : mj_M} {x1 x2 x3 : Int32} (I : mv_Inv M) : ∃ v M1 M2, mj_C sl 1999 79 [.ref 0, .int x1, .int x2, .int x3] M = some (v, M1) ∧ M1 72 = M 72 ∧ mj_C sl 1999 142 [.ref 45, .int x1, .int x2, .int x3] M1 = some (v, M2) ∧ mv_Inv M2 := by
  obtain ⟨mo, cs, n, tp, on, od, kp, ck, B, T, O, K, LW, e74⟩ := id I
  obtain ⟨v, M1, M2, e1, h72, e2, f, cs2, B2⟩ := p_courtier (sl := sl) (d := 0) (M := M) (x := x1) (y := x2) (z := x3) B
  exact ⟨v, M1, M2, mj_C_to (0 + 4) e1 (by omega), h72, mj_C_to (0 + 4) e2 (by omega), mo, cs2, n, tp, on, od, kp, ck, B2, T.fr f sd_Qs_Tp, O.fr f sd_Qs_Or, K.fr f sd_Qs_Kp, LW.fr f sd_Qs_Lw, mq_74 f sd_Qs_74 e74⟩
theorem o_form {sl : Nat} {M : mj_M} {x1 x2 x3 : Int32} (I : mv_Inv M) : ∃ v M1 M2, mj_C sl 1999 80 [.ref 0, .int x1, .int x2, .int x3] M = some (v, M1) ∧ M1 72 = M 72 ∧ mj_C sl 1999 143 [.ref 45, .int x1, .int x2, .int x3] M1 = some (v, M2) ∧ mv_Inv M2 := by
  obtain ⟨mo, cs, n, tp, on, od, kp, ck, B, T, O, K, LW, e74⟩ := id I
  obtain ⟨v, M1, M2, e1, h72, e2, f, cs2, B2⟩ := p_form (sl := sl) (d := 0) (M := M) (x := x1) (y := x2) (z := x3) B
  exact ⟨v, M1, M2, mj_C_to (0 + 2) e1 (by omega), h72, mj_C_to (0 + 2) e2 (by omega), mo, cs2, n, tp, on, od, kp, ck, B2, T.fr f sd_Qs_Tp, O.fr f sd_Qs_Or, K.fr f sd_Qs_Kp, LW.fr f sd_Qs_Lw, mq_74 f sd_Qs_74 e74⟩
theorem o_feed {sl : Nat} {M : mj_M} {x1 x2 x3 x4 x5 : Int32} (I : mv_Inv M) : ∃ v M1 M2, mj_C sl 1999 81 [.ref 0, .int x1, .int x2, .int x3, .int x4, .int x5] M = some (v, M1) ∧ M1 72 = M 72 ∧ mj_C sl 1999 145 [.ref 45, .int x1, .int x2, .int x3, .int x4, .int x5] M1 = some (v, M2) ∧ mv_Inv M2 := by
  obtain ⟨mo, cs, n, tp, on, od, kp, ck, B, T, O, K, LW, e74⟩ := id I
  obtain ⟨v, M1, M2, e1, h72, e2, f, n2, tp2, T2⟩ := p_feed (sl := sl) (d := 0) (M := M) (x1 := x1) (x2 := x2) (x3 := x3) (x4 := x4) (x5 := x5) T
  exact ⟨v, M1, M2, mj_C_to (0 + 1) e1 (by omega), h72, mj_C_to (0 + 1) e2 (by omega), mo, cs, n2, tp2, on, od, kp, ck, B.fr f sd_Qt_B, T2, O.fr f sd_Qt_Or, K.fr f sd_Qt_Kp, LW.fr f sd_Qt_Lw, mq_74 f sd_Qt_74 e74⟩
theorem o_law {sl : Nat} {M : mj_M} {x1 : Int32} (I : mv_Inv M) : ∃ v M1 M2, mj_C sl 1999 82 [.ref 0, .int x1] M = some (v, M1) ∧ M1 72 = M 72 ∧ mj_C sl 1999 168 [.ref 45, .int x1] M1 = some (v, M2) ∧ mv_Inv M2 := by
  obtain ⟨mo, cs, n, tp, on, od, kp, ck, B, T, O, K, LW, e74⟩ := id I
  obtain ⟨v, M1, M2, e1, h72, e2, f, ⟨n2, T2⟩, LW2⟩ := p_law (sl := sl) (d := 0) (M := M) (x := x1) T LW e74
  exact ⟨v, M1, M2, mj_C_to (0 + 50) e1 (by omega), h72, mj_C_to (0 + 50) e2 (by omega), mo, cs, n2, tp, on, od, kp, ck, B.fr f sd_Qlw_B, T2, O.fr f sd_Qlw_Or, K.fr f sd_Qlw_Kp, LW2, mq_74 f sd_Qlw_74 e74⟩
theorem o_order {sl : Nat} {M : mj_M} {x1 : Int32} (I : mv_Inv M) : ∃ v M1 M2, mj_C sl 1999 83 [.ref 0, .int x1] M = some (v, M1) ∧ M1 72 = M 72 ∧ mj_C sl 1999 176 [.ref 45, .int x1] M1 = some (v, M2) ∧ mv_Inv M2 := by
  obtain ⟨mo, cs, n, tp, on, od, kp, ck, B, T, O, K, LW, e74⟩ := id I
  obtain ⟨v, M1, M2, e1, h72, e2, f, ⟨n2, T2⟩, on2, od2, O2⟩ := p_order (sl := sl) (d := 0) (M := M) (x := x1) T O
  exact ⟨v, M1, M2, mj_C_to (0 + 4) e1 (by omega), h72, mj_C_to (0 + 4) e2 (by omega), mo, cs, n2, tp, on2, od2, kp, ck, B.fr f sd_Qord_B, T2, O2, K.fr f sd_Qord_Kp, LW.fr f sd_Qord_Lw, mq_74 f sd_Qord_74 e74⟩
theorem o_blots {sl : Nat} {M : mj_M} {x1 : Int32} (I : mv_Inv M) : ∃ v M1 M2, mj_C sl 1999 84 [.ref 0, .int x1] M = some (v, M1) ∧ M1 72 = M 72 ∧ mj_C sl 1999 184 [.ref 45, .int x1] M1 = some (v, M2) ∧ mv_Inv M2 := by
  obtain ⟨mo, cs, n, tp, on, od, kp, ck, B, T, O, K, LW, e74⟩ := id I
  obtain ⟨v, M1, M2, e1, h72, e2, f, ⟨n2, T2⟩, cs2, B2⟩ := p_blots (sl := sl) (d := 0) (M := M) (x := x1) B T
  exact ⟨v, M1, M2, mj_C_to (0 + 4) e1 (by omega), h72, mj_C_to (0 + 5) e2 (by omega), mo, cs2, n2, tp, on, od, kp, ck, B2, T2, O.fr f sd_Qbl_Or, K.fr f sd_Qbl_Kp, LW.fr f sd_Qbl_Lw, mq_74 f sd_Qbl_74 e74⟩
theorem o_moons {sl : Nat} {M : mj_M} {x1 : Int32} (I : mv_Inv M) : ∃ v M1 M2, mj_C sl 1999 85 [.ref 0, .int x1] M = some (v, M1) ∧ M1 72 = M 72 ∧ mj_C sl 1999 190 [.ref 45, .int x1] M1 = some (v, M2) ∧ mv_Inv M2 := by
  obtain ⟨mo, cs, n, tp, on, od, kp, ck, B, T, O, K, LW, e74⟩ := id I
  obtain ⟨v, M1, M2, e1, h72, e2, f, cs2, B2⟩ := p_moons (sl := sl) (d := 0) (M := M) (x := x1) B LW
  exact ⟨v, M1, M2, mj_C_to (0 + 7) e1 (by omega), h72, mj_C_to (0 + 7) e2 (by omega), mo, cs2, n, tp, on, od, kp, ck, B2, T.fr f sd_Qmo_Tp, O.fr f sd_Qmo_Or, K.fr f sd_Qmo_Kp, LW.fr f sd_Qmo_Lw, mq_74 f sd_Qmo_74 e74⟩
theorem o_tried {sl : Nat} {M : mj_M} {x1 x2 : Int32} (I : mv_Inv M) : ∃ v M1 M2, mj_C sl 1999 86 [.ref 0, .int x1, .int x2] M = some (v, M1) ∧ M1 72 = M 72 ∧ mj_C sl 1999 192 [.ref 45, .int x1, .int x2] M1 = some (v, M2) ∧ mv_Inv M2 := by
  obtain ⟨mo, cs, n, tp, on, od, kp, ck, B, T, O, K, LW, e74⟩ := id I
  obtain ⟨v, M1, M2, e1, h72, e2, f, B2⟩ := p_tried (sl := sl) (d := 0) (M := M) (x := x1) (z := x2) B LW
  exact ⟨v, M1, M2, mj_C_to (0 + 7) e1 (by omega), h72, mj_C_to (0 + 7) e2 (by omega), mo, cs, n, tp, on, od, kp, ck, B2, T.fr f sd_Qtr_Tp, O.fr f sd_Qtr_Or, K.fr f sd_Qtr_Kp, LW.fr f sd_Qtr_Lw, mq_74 f sd_Qtr_74 e74⟩
theorem o_courtierIs {sl : Nat} {M : mj_M} {x1 x2 : Int32} (I : mv_Inv M) : ∃ v M1 M2, mj_C sl 1999 89 [.ref 0, .int x1, .int x2] M = some (v, M1) ∧ M1 72 = M 72 ∧ mj_C sl 1999 193 [.ref 45, .int x1, .int x2] M1 = some (v, M2) ∧ mv_Inv M2 := by
  obtain ⟨mo, cs, n, tp, on, od, kp, ck, B, T, O, K, LW, e74⟩ := id I
  obtain ⟨v, M1, e1, f, e2⟩ := p_courtierIs (sl := sl) (d := 0) (M := M) (x := x1) (y := x2) B
  exact ⟨v, M1, M1, mj_C_to (0 + 6) e1 (by omega), mq_72 f (fun k z => by unfold mv_Sc at z; omega), mj_C_to (0 + 6) e2 (by omega), mo, cs, n, tp, on, od, kp, ck, B.fr f sd_Sc_B, T.fr f sd_Sc_Tp, O.fr f sd_Sc_Or, K.fr f sd_Sc_Kp, LW.fr f sd_Sc_Lw, mq_74 f sd_Sc_74 e74⟩
theorem o_formOf {sl : Nat} {M : mj_M} {x1 x2 : Int32} (I : mv_Inv M) : ∃ v M1 M2, mj_C sl 1999 91 [.ref 0, .int x1, .int x2] M = some (v, M1) ∧ M1 72 = M 72 ∧ mj_C sl 1999 194 [.ref 45, .int x1, .int x2] M1 = some (v, M2) ∧ mv_Inv M2 := by
  obtain ⟨mo, cs, n, tp, on, od, kp, ck, B, T, O, K, LW, e74⟩ := id I
  obtain ⟨v, e1, e2⟩ := p_formOf (sl := sl) (d := 0) (M := M) (x := x1) (y := x2) B.1 B.2.1 B.2.2.1 B.2.2.2.1 B.2.2.2.2.1 B.2.2.2.2.2
  exact ⟨v, M, M, mj_C_to (0 + 1) e1 (by omega), rfl, mj_C_to (0 + 2) e2 (by omega), I⟩
theorem o_modelOf {sl : Nat} {M : mj_M} {x1 : Int32} (I : mv_Inv M) : ∃ v M1 M2, mj_C sl 1999 92 [.ref 0, .int x1] M = some (v, M1) ∧ M1 72 = M 72 ∧ mj_C sl 1999 195 [.ref 45, .int x1] M1 = some (v, M2) ∧ mv_Inv M2 := by
  obtain ⟨mo, cs, n, tp, on, od, kp, ck, B, T, O, K, LW, e74⟩ := id I
  obtain ⟨v, e1, e2⟩ := p_modelOf (sl := sl) (d := 0) (M := M) (x := x1) B.1 B.2.1 B.2.2.1
  exact ⟨v, M, M, mj_C_to (0 + 1) e1 (by omega), rfl, mj_C_to (0 + 2) e2 (by omega), I⟩
theorem o_read {sl : Nat} {M : mj_M} {x1 : Int32} (I : mv_Inv M) : ∃ v M1 M2, mj_C sl 1999 93 [.ref 0, .int x1] M = some (v, M1) ∧ M1 72 = M 72 ∧ mj_C sl 1999 196 [.ref 45, .int x1] M1 = some (v, M2) ∧ mv_Inv M2 := by
  obtain ⟨mo, cs, n, tp, on, od, kp, ck, B, T, O, K, LW, e74⟩ := id I
  obtain ⟨v, e1, e2⟩ := p_read (sl := sl) (d := 0) (M := M) (x := x1) B.1 B.2.1 B.2.2.1
  exact ⟨v, M, M, mj_C_to (0 + 2) e1 (by omega), rfl, mj_C_to (0 + 3) e2 (by omega), I⟩
theorem o_apart {sl : Nat} {M : mj_M} {x1 x2 : Int32} (I : mv_Inv M) : ∃ v M1 M2, mj_C sl 1999 94 [.ref 0, .int x1, .int x2] M = some (v, M1) ∧ M1 72 = M 72 ∧ mj_C sl 1999 197 [.ref 45, .int x1, .int x2] M1 = some (v, M2) ∧ mv_Inv M2 := by
  obtain ⟨mo, cs, n, tp, on, od, kp, ck, B, T, O, K, LW, e74⟩ := id I
  obtain ⟨v, e1, e2⟩ := p_apart (sl := sl) (d := 0) (M := M) (x := x1) (y := x2) 
  exact ⟨v, M, M, mj_C_to (0 + 2) e1 (by omega), rfl, mj_C_to (0 + 2) e2 (by omega), I⟩
theorem o_written {sl : Nat} {M : mj_M} {x1 x2 : Int32} (I : mv_Inv M) : ∃ v M1 M2, mj_C sl 1999 95 [.ref 0, .int x1, .int x2] M = some (v, M1) ∧ M1 72 = M 72 ∧ mj_C sl 1999 198 [.ref 45, .int x1, .int x2] M1 = some (v, M2) ∧ mv_Inv M2 := by
  obtain ⟨mo, cs, n, tp, on, od, kp, ck, B, T, O, K, LW, e74⟩ := id I
  obtain ⟨v, e1, e2⟩ := p_written (sl := sl) (d := 0) (M := M) (x := x1) (y := x2) B O
  exact ⟨v, M, M, mj_C_to (0 + 4) e1 (by omega), rfl, mj_C_to (0 + 4) e2 (by omega), I⟩
theorem o_copied {sl : Nat} {M : mj_M} {x1 x2 : Int32} (I : mv_Inv M) : ∃ v M1 M2, mj_C sl 1999 98 [.ref 0, .int x1, .int x2] M = some (v, M1) ∧ M1 72 = M 72 ∧ mj_C sl 1999 199 [.ref 45, .int x1, .int x2] M1 = some (v, M2) ∧ mv_Inv M2 := by
  obtain ⟨mo, cs, n, tp, on, od, kp, ck, B, T, O, K, LW, e74⟩ := id I
  obtain ⟨v, M1, M2, e1, h72, e2, f, n2, T2⟩ := p_copied (sl := sl) (d := 0) (M := M) (x := x1) (y := x2) B T O
  exact ⟨v, M1, M2, mj_C_to (0 + 4) e1 (by omega), h72, mj_C_to (0 + 4) e2 (by omega), mo, cs, n2, tp, on, od, kp, ck, B.fr f sd_Qo_B, T2, O.fr f sd_Qo_Or, K.fr f sd_Qo_Kp, LW.fr f sd_Qo_Lw, mq_74 f sd_Qo_74 e74⟩
theorem o_another {sl : Nat} {M : mj_M} {x1 x2 x3 : Int32} (I : mv_Inv M) : ∃ v M1 M2, mj_C sl 1999 101 [.ref 0, .int x1, .int x2, .int x3] M = some (v, M1) ∧ M1 72 = M 72 ∧ mj_C sl 1999 201 [.ref 45, .int x1, .int x2, .int x3] M1 = some (v, M2) ∧ mv_Inv M2 := by
  obtain ⟨mo, cs, n, tp, on, od, kp, ck, B, T, O, K, LW, e74⟩ := id I
  obtain ⟨v, M2, e1, e2, f⟩ := p_another (sl := sl) (d := 0) (M := M) (x := x1) (y := x2) (z := x3) B
  exact ⟨v, M, M2, mj_C_to (0 + 4) e1 (by omega), rfl, mj_C_to (0 + 4) e2 (by omega), mo, cs, n, tp, on, od, kp, ck, B.fr f sd_Sc_B, T.fr f sd_Sc_Tp, O.fr f sd_Sc_Or, K.fr f sd_Sc_Kp, LW.fr f sd_Sc_Lw, mq_74 f sd_Sc_74 e74⟩
theorem o_whose {sl : Nat} {M : mj_M} {x1 x2 : Int32} (I : mv_Inv M) : ∃ v M1 M2, mj_C sl 1999 104 [.ref 0, .int x1, .int x2] M = some (v, M1) ∧ M1 72 = M 72 ∧ mj_C sl 1999 203 [.ref 45, .int x1, .int x2] M1 = some (v, M2) ∧ mv_Inv M2 := by
  obtain ⟨mo, cs, n, tp, on, od, kp, ck, B, T, O, K, LW, e74⟩ := id I
  obtain ⟨v, M1, M2, e1, h72, e2, f, n2, T2⟩ := p_whose (sl := sl) (d := 0) (M := M) (x := x1) (y := x2) B T
  exact ⟨v, M1, M2, mj_C_to (0 + 4) e1 (by omega), h72, mj_C_to (0 + 4) e2 (by omega), mo, cs, n2, tp, on, od, kp, ck, B.fr f sd_Qo_B, T2, O.fr f sd_Qo_Or, K.fr f sd_Qo_Kp, LW.fr f sd_Qo_Lw, mq_74 f sd_Qo_74 e74⟩
theorem o_forge {sl : Nat} {M : mj_M} {x1 x2 : Int32} (I : mv_Inv M) : ∃ v M1 M2, mj_C sl 1999 107 [.ref 0, .int x1, .int x2] M = some (v, M1) ∧ M1 72 = M 72 ∧ mj_C sl 1999 205 [.ref 45, .int x1, .int x2] M1 = some (v, M2) ∧ mv_Inv M2 := by
  obtain ⟨mo, cs, n, tp, on, od, kp, ck, B, T, O, K, LW, e74⟩ := id I
  obtain ⟨v, e1, e2⟩ := p_forge (sl := sl) (d := 0) (M := M) (x := x1) (y := x2) B.1 B.2.1 B.2.2.1 B.2.2.2.1 B.2.2.2.2.1 B.2.2.2.2.2
  exact ⟨v, M, M, mj_C_to (0 + 3) e1 (by omega), rfl, mj_C_to (0 + 3) e2 (by omega), I⟩
theorem o_alike {sl : Nat} {M : mj_M} {x1 x2 : Int32} (I : mv_Inv M) : ∃ v M1 M2, mj_C sl 1999 108 [.ref 0, .int x1, .int x2] M = some (v, M1) ∧ M1 72 = M 72 ∧ mj_C sl 1999 207 [.ref 45, .int x1, .int x2] M1 = some (v, M2) ∧ mv_Inv M2 := by
  obtain ⟨mo, cs, n, tp, on, od, kp, ck, B, T, O, K, LW, e74⟩ := id I
  obtain ⟨v, M1, e1, f, e2⟩ := p_alike (sl := sl) (d := 0) (M := M) (x := x1) (y := x2) B
  exact ⟨v, M1, M1, mj_C_to (0 + 4) e1 (by omega), mq_72 f (fun k z => by unfold mv_Sc at z; omega), mj_C_to (0 + 4) e2 (by omega), mo, cs, n, tp, on, od, kp, ck, B.fr f sd_Sc_B, T.fr f sd_Sc_Tp, O.fr f sd_Sc_Or, K.fr f sd_Sc_Kp, LW.fr f sd_Sc_Lw, mq_74 f sd_Sc_74 e74⟩
theorem o_rises {sl : Nat} {M : mj_M} {x1 x2 : Int32} (I : mv_Inv M) : ∃ v M1 M2, mj_C sl 1999 112 [.ref 0, .int x1, .int x2] M = some (v, M1) ∧ M1 72 = M 72 ∧ mj_C sl 1999 208 [.ref 45, .int x1, .int x2] M1 = some (v, M2) ∧ mv_Inv M2 := by
  obtain ⟨mo, cs, n, tp, on, od, kp, ck, B, T, O, K, LW, e74⟩ := id I
  obtain ⟨v, M1, M2, e1, h72, e2, f, B2⟩ := p_rises (sl := sl) (d := 0) (M := M) (x := x1) (z := x2) B LW
  exact ⟨v, M1, M2, mj_C_to (0 + 7) e1 (by omega), h72, mj_C_to (0 + 7) e2 (by omega), mo, cs, n, tp, on, od, kp, ck, B2, T.fr f sd_Qri_Tp, O.fr f sd_Qri_Or, K.fr f sd_Qri_Kp, LW.fr f sd_Qri_Lw, mq_74 f sd_Qri_74 e74⟩
theorem o_commands {sl : Nat} {M : mj_M} (I : mv_Inv M) : ∃ v M1 M2, mj_C sl 1999 113 [.ref 0] M = some (v, M1) ∧ M1 72 = M 72 ∧ mj_C sl 1999 209 [.ref 45] M1 = some (v, M2) ∧ mv_Inv M2 := by
  obtain ⟨mo, cs, n, tp, on, od, kp, ck, B, T, O, K, LW, e74⟩ := id I
  obtain ⟨v, M1, e1, f, e2⟩ := p_commands (sl := sl) (d := 0) (M := M)  B
  exact ⟨v, M1, M1, mj_C_to (0 + 6) e1 (by omega), mq_72 f (fun k z => by unfold mv_Sc at z; omega), mj_C_to (0 + 6) e2 (by omega), mo, cs, n, tp, on, od, kp, ck, B.fr f sd_Sc_B, T.fr f sd_Sc_Tp, O.fr f sd_Sc_Or, K.fr f sd_Sc_Kp, LW.fr f sd_Sc_Lw, mq_74 f sd_Sc_74 e74⟩
theorem o_clear {sl : Nat} {M : mj_M} {x1 x2 : Int32} (I : mv_Inv M) : ∃ v M1 M2, mj_C sl 1999 114 [.ref 0, .int x1, .int x2] M = some (v, M1) ∧ M1 72 = M 72 ∧ mj_C sl 1999 210 [.ref 45, .int x1, .int x2] M1 = some (v, M2) ∧ mv_Inv M2 := by
  obtain ⟨mo, cs, n, tp, on, od, kp, ck, B, T, O, K, LW, e74⟩ := id I
  obtain ⟨v, e1, e2⟩ := p_clear (sl := sl) (d := 0) (M := M) (x := x1) (y := x2) B.1 B.2.1 B.2.2.1 B.2.2.2.1 B.2.2.2.2.1 B.2.2.2.2.2
  exact ⟨v, M, M, mj_C_to (0 + 3) e1 (by omega), rfl, mj_C_to (0 + 3) e2 (by omega), I⟩
theorem o_shape {sl : Nat} {M : mj_M} {x1 x2 : Int32} (I : mv_Inv M) : ∃ v M1 M2, mj_C sl 1999 115 [.ref 0, .int x1, .int x2] M = some (v, M1) ∧ M1 72 = M 72 ∧ mj_C sl 1999 220 [.ref 45, .int x1, .int x2] M1 = some (v, M2) ∧ mv_Inv M2 := by
  obtain ⟨mo, cs, n, tp, on, od, kp, ck, B, T, O, K, LW, e74⟩ := id I
  obtain ⟨v, e1, e2⟩ := p_shape (sl := sl) (d := 0) (M := M) (x := x1) (y := x2) 
  exact ⟨v, M, M, mj_C_to (0 + 5) e1 (by omega), rfl, mj_C_to (0 + 5) e2 (by omega), I⟩
theorem o_like {sl : Nat} {M : mj_M} {x1 x2 : Int32} (I : mv_Inv M) : ∃ v M1 M2, mj_C sl 1999 116 [.ref 0, .int x1, .int x2] M = some (v, M1) ∧ M1 72 = M 72 ∧ mj_C sl 1999 221 [.ref 45, .int x1, .int x2] M1 = some (v, M2) ∧ mv_Inv M2 := by
  obtain ⟨mo, cs, n, tp, on, od, kp, ck, B, T, O, K, LW, e74⟩ := id I
  obtain ⟨v, e1, e2⟩ := p_like (sl := sl) (d := 0) (M := M) (x := x1) (y := x2) 
  exact ⟨v, M, M, mj_C_to (0 + 2) e1 (by omega), rfl, mj_C_to (0 + 2) e2 (by omega), I⟩
theorem o_toldApart {sl : Nat} {M : mj_M} {x1 x2 : Int32} (I : mv_Inv M) : ∃ v M1 M2, mj_C sl 1999 117 [.ref 0, .int x1, .int x2] M = some (v, M1) ∧ M1 72 = M 72 ∧ mj_C sl 1999 223 [.ref 45, .int x1, .int x2] M1 = some (v, M2) ∧ mv_Inv M2 := by
  obtain ⟨mo, cs, n, tp, on, od, kp, ck, B, T, O, K, LW, e74⟩ := id I
  obtain ⟨v, e1, e2⟩ := p_toldApart (sl := sl) (d := 0) (M := M) (x := x1) (y := x2) B
  exact ⟨v, M, M, mj_C_to (0 + 3) e1 (by omega), rfl, mj_C_to (0 + 3) e2 (by omega), I⟩
theorem o_seed {sl : Nat} {M : mj_M} {x1 : Int32} (I : mv_Inv M) : ∃ v M1 M2, mj_C sl 1999 118 [.ref 0, .int x1] M = some (v, M1) ∧ M1 72 = M 72 ∧ mj_C sl 1999 224 [.ref 45, .int x1] M1 = some (v, M2) ∧ mv_Inv M2 := by
  obtain ⟨mo, cs, n, tp, on, od, kp, ck, B, T, O, K, LW, e74⟩ := id I
  obtain ⟨v, M1, M2, e1, h72, e2, f, cs2, B2⟩ := p_seed (sl := sl) (d := 0) (M := M) (x := x1) B
  exact ⟨v, M1, M2, mj_C_to (0 + 1) e1 (by omega), h72, mj_C_to (0 + 1) e2 (by omega), mo, cs2, n, tp, on, od, kp, ck, B2, T.fr f sd_Qs_Tp, O.fr f sd_Qs_Or, K.fr f sd_Qs_Kp, LW.fr f sd_Qs_Lw, mq_74 f sd_Qs_74 e74⟩
theorem o_keep {sl : Nat} {M : mj_M} (I : mv_Inv M) : ∃ v M1 M2, mj_C sl 1999 119 [.ref 0] M = some (v, M1) ∧ M1 72 = M 72 ∧ mj_C sl 1999 225 [.ref 45] M1 = some (v, M2) ∧ mv_Inv M2 := by
  obtain ⟨mo, cs, n, tp, on, od, kp, ck, B, T, O, K, LW, e74⟩ := id I
  obtain ⟨v, M1, M2, e1, h72, e2, f, K2⟩ := p_keep (sl := sl) (d := 0) (M := M)  B
  exact ⟨v, M1, M2, mj_C_to (0 + 2) e1 (by omega), h72, mj_C_to (0 + 2) e2 (by omega), mo, cs, n, tp, on, od, true, cs, B.fr f sd_Qp_B, T.fr f sd_Qp_Tp, O.fr f sd_Qp_Or, K2, LW.fr f sd_Qp_Lw, mq_74 f sd_Qp_74 e74⟩
theorem o_undo {sl : Nat} {M : mj_M} (I : mv_Inv M) : ∃ v M1 M2, mj_C sl 1999 120 [.ref 0] M = some (v, M1) ∧ M1 72 = M 72 ∧ mj_C sl 1999 226 [.ref 45] M1 = some (v, M2) ∧ mv_Inv M2 := by
  obtain ⟨mo, cs, n, tp, on, od, kp, ck, B, T, O, K, LW, e74⟩ := id I
  obtain ⟨v, M1, M2, e1, h72, e2, f, cs2, B2⟩ := p_undo (sl := sl) (d := 0) (M := M)  B K
  exact ⟨v, M1, M2, mj_C_to (0 + 2) e1 (by omega), h72, mj_C_to (0 + 2) e2 (by omega), mo, cs2, n, tp, on, od, kp, ck, B2, T.fr f sd_Qs_Tp, O.fr f sd_Qs_Or, K.fr f sd_Qs_Kp, LW.fr f sd_Qs_Lw, mq_74 f sd_Qs_74 e74⟩
theorem o_check {sl : Nat} {M : mj_M} {x1 : Int32} (I : mv_Inv M) : ∃ v M1 M2, mj_C sl 1999 121 [.ref 0, .int x1] M = some (v, M1) ∧ M1 72 = M 72 ∧ mj_C sl 1999 227 [.ref 45, .int x1] M1 = some (v, M2) ∧ mv_Inv M2 := by
  obtain ⟨mo, cs, n, tp, on, od, kp, ck, B, T, O, K, LW, e74⟩ := id I
  obtain ⟨v, M1, M2, e1, h72, e2, f, n2, T2⟩ := p_check (sl := sl) (d := 0) (M := M) (x := x1) B T
  exact ⟨v, M1, M2, mj_C_to (0 + 3) e1 (by omega), h72, mj_C_to (0 + 3) e2 (by omega), mo, cs, n2, tp, on, od, kp, ck, B.fr f sd_Qn_B, T2, O.fr f sd_Qn_Or, K.fr f sd_Qn_Kp, LW.fr f sd_Qn_Lw, mq_74 f sd_Qn_74 e74⟩
theorem o_count {sl : Nat} {M : mj_M} {x1 : Int32} (I : mv_Inv M) : ∃ v M1 M2, mj_C sl 1999 122 [.ref 0, .int x1] M = some (v, M1) ∧ M1 72 = M 72 ∧ mj_C sl 1999 228 [.ref 45, .int x1] M1 = some (v, M2) ∧ mv_Inv M2 := by
  obtain ⟨mo, cs, n, tp, on, od, kp, ck, B, T, O, K, LW, e74⟩ := id I
  have hl : M (mj_lw (M 0 9)) 7 = M 45 14 := by
    obtain ⟨-, nr, kd, ca, cb, -, LC, LR⟩ := id LW
    rw [LC.1, LR.1]
  obtain ⟨v, e1, e2⟩ := p_count (sl := sl) (d := 0) (M := M) (x := x1) B T O hl
  exact ⟨v, M, M, mj_C_to (0 + 3) e1 (by omega), rfl, mj_C_to (0 + 3) e2 (by omega), I⟩
def mv_one (r : Option (Int32 × mj_M)) : Prop := ∃ M', r = some (1, M')
theorem mv_one.ite {c : Prop} [Decidable c] {a b : Option (Int32 × mj_M)} (h : c → mv_one a) (h2 : ¬ c → mv_one b) : mv_one (if c then a else b) := by
  by_cases z : c
  · rw [if_pos z]; exact h z
  · rw [if_neg z]; exact h2 z
theorem mv_one.pos {c : Prop} [Decidable c] {a b : Option (Int32 × mj_M)} (z : c) (h : mv_one a) : mv_one (if c then a else b) := by
  rw [if_pos z]; exact h
theorem mv_one.bd {o : Option (Int32 × mj_M)} {f : Int32 × mj_M → Option (Int32 × mj_M)} {q : Int32 × mj_M} (e : o = some q) (h : mv_one (f q)) : mv_one (o.bind f) := by
  rw [e]; exact h
theorem mv_go0 {sl ic ir : Nat} {M : mj_M} {y3 : Int32}  (ok : ∃ v M1 M2, mj_C sl 1999 ic [.ref 0] M = some (v, M1) ∧ M1 72 = M 72 ∧ mj_C sl 1999 ir [.ref 45] M1 = some (v, M2) ∧ mv_Inv M2) (K : ∀ M2, mv_Inv M2 → mv_one (mj_E sl (1999 + 1) 232 18 [.ref 72, .ref 0, .ref 45, .int (y3 + 6)] [] M2)) : mv_one ((mj_C sl 1999 ic [.ref 0] M).bind (fun q1 => (mj_C sl 1999 ir [.ref 45] q1.2).bind (fun q2 => if q1.1 = q2.1 then (mj_E sl (1999 + 1) 232 18 [.ref 72, .ref 0, .ref 45, .int (y3 + 6)] [] q2.2) else (some ((0 : Int32), q2.2))))) := by
  obtain ⟨v, M1, M2, e1, h1, e2, I2⟩ := ok
  have _ := h1
  refine mv_one.bd e1 ?_
  refine mv_one.bd e2 ?_
  exact mv_one.pos rfl (K M2 I2)
theorem mv_go1 {sl ic ir : Nat} {M : mj_M} {y3 : Int32} (i1 : mj_inB (y3 + 1) sl = true) (ok : ∃ v M1 M2, mj_C sl 1999 ic [.ref 0, .int (M 72 (y3 + 1 : Int32).toNatClampNeg)] M = some (v, M1) ∧ M1 72 = M 72 ∧ mj_C sl 1999 ir [.ref 45, .int (M 72 (y3 + 1 : Int32).toNatClampNeg)] M1 = some (v, M2) ∧ mv_Inv M2) (K : ∀ M2, mv_Inv M2 → mv_one (mj_E sl (1999 + 1) 232 18 [.ref 72, .ref 0, .ref 45, .int (y3 + 6)] [] M2)) : mv_one (if mj_inB (y3 + 1) sl = true then ((mj_C sl 1999 ic [.ref 0, .int (M 72 (y3 + 1 : Int32).toNatClampNeg)] M).bind (fun q1 => if mj_inB (y3 + 1) sl = true then ((mj_C sl 1999 ir [.ref 45, .int (q1.2 72 (y3 + 1 : Int32).toNatClampNeg)] q1.2).bind (fun q2 => if q1.1 = q2.1 then (mj_E sl (1999 + 1) 232 18 [.ref 72, .ref 0, .ref 45, .int (y3 + 6)] [] q2.2) else (some ((0 : Int32), q2.2)))) else none)) else none) := by
  obtain ⟨v, M1, M2, e1, h1, e2, I2⟩ := ok
  rw [← h1] at e2
  refine mv_one.pos i1 ?_
  refine mv_one.bd e1 ?_
  refine mv_one.pos i1 ?_
  refine mv_one.bd e2 ?_
  exact mv_one.pos rfl (K M2 I2)
theorem mv_go2 {sl ic ir : Nat} {M : mj_M} {y3 : Int32} (i1 : mj_inB (y3 + 1) sl = true) (i2 : mj_inB (y3 + 2) sl = true) (ok : ∃ v M1 M2, mj_C sl 1999 ic [.ref 0, .int (M 72 (y3 + 1 : Int32).toNatClampNeg), .int (M 72 (y3 + 2 : Int32).toNatClampNeg)] M = some (v, M1) ∧ M1 72 = M 72 ∧ mj_C sl 1999 ir [.ref 45, .int (M 72 (y3 + 1 : Int32).toNatClampNeg), .int (M 72 (y3 + 2 : Int32).toNatClampNeg)] M1 = some (v, M2) ∧ mv_Inv M2) (K : ∀ M2, mv_Inv M2 → mv_one (mj_E sl (1999 + 1) 232 18 [.ref 72, .ref 0, .ref 45, .int (y3 + 6)] [] M2)) : mv_one (if mj_inB (y3 + 1) sl = true then (if mj_inB (y3 + 2) sl = true then ((mj_C sl 1999 ic [.ref 0, .int (M 72 (y3 + 1 : Int32).toNatClampNeg), .int (M 72 (y3 + 2 : Int32).toNatClampNeg)] M).bind (fun q1 => if mj_inB (y3 + 1) sl = true then (if mj_inB (y3 + 2) sl = true then ((mj_C sl 1999 ir [.ref 45, .int (q1.2 72 (y3 + 1 : Int32).toNatClampNeg), .int (q1.2 72 (y3 + 2 : Int32).toNatClampNeg)] q1.2).bind (fun q2 => if q1.1 = q2.1 then (mj_E sl (1999 + 1) 232 18 [.ref 72, .ref 0, .ref 45, .int (y3 + 6)] [] q2.2) else (some ((0 : Int32), q2.2)))) else none) else none)) else none) else none) := by
  obtain ⟨v, M1, M2, e1, h1, e2, I2⟩ := ok
  rw [← h1] at e2
  refine mv_one.pos i1 ?_
  refine mv_one.pos i2 ?_
  refine mv_one.bd e1 ?_
  refine mv_one.pos i1 ?_
  refine mv_one.pos i2 ?_
  refine mv_one.bd e2 ?_
  exact mv_one.pos rfl (K M2 I2)
theorem mv_go3 {sl ic ir : Nat} {M : mj_M} {y3 : Int32} (i1 : mj_inB (y3 + 1) sl = true) (i2 : mj_inB (y3 + 2) sl = true) (i3 : mj_inB (y3 + 3) sl = true) (ok : ∃ v M1 M2, mj_C sl 1999 ic [.ref 0, .int (M 72 (y3 + 1 : Int32).toNatClampNeg), .int (M 72 (y3 + 2 : Int32).toNatClampNeg), .int (M 72 (y3 + 3 : Int32).toNatClampNeg)] M = some (v, M1) ∧ M1 72 = M 72 ∧ mj_C sl 1999 ir [.ref 45, .int (M 72 (y3 + 1 : Int32).toNatClampNeg), .int (M 72 (y3 + 2 : Int32).toNatClampNeg), .int (M 72 (y3 + 3 : Int32).toNatClampNeg)] M1 = some (v, M2) ∧ mv_Inv M2) (K : ∀ M2, mv_Inv M2 → mv_one (mj_E sl (1999 + 1) 232 18 [.ref 72, .ref 0, .ref 45, .int (y3 + 6)] [] M2)) : mv_one (if mj_inB (y3 + 1) sl = true then (if mj_inB (y3 + 2) sl = true then (if mj_inB (y3 + 3) sl = true then ((mj_C sl 1999 ic [.ref 0, .int (M 72 (y3 + 1 : Int32).toNatClampNeg), .int (M 72 (y3 + 2 : Int32).toNatClampNeg), .int (M 72 (y3 + 3 : Int32).toNatClampNeg)] M).bind (fun q1 => if mj_inB (y3 + 1) sl = true then (if mj_inB (y3 + 2) sl = true then (if mj_inB (y3 + 3) sl = true then ((mj_C sl 1999 ir [.ref 45, .int (q1.2 72 (y3 + 1 : Int32).toNatClampNeg), .int (q1.2 72 (y3 + 2 : Int32).toNatClampNeg), .int (q1.2 72 (y3 + 3 : Int32).toNatClampNeg)] q1.2).bind (fun q2 => if q1.1 = q2.1 then (mj_E sl (1999 + 1) 232 18 [.ref 72, .ref 0, .ref 45, .int (y3 + 6)] [] q2.2) else (some ((0 : Int32), q2.2)))) else none) else none) else none)) else none) else none) else none) := by
  obtain ⟨v, M1, M2, e1, h1, e2, I2⟩ := ok
  rw [← h1] at e2
  refine mv_one.pos i1 ?_
  refine mv_one.pos i2 ?_
  refine mv_one.pos i3 ?_
  refine mv_one.bd e1 ?_
  refine mv_one.pos i1 ?_
  refine mv_one.pos i2 ?_
  refine mv_one.pos i3 ?_
  refine mv_one.bd e2 ?_
  exact mv_one.pos rfl (K M2 I2)
theorem mv_go5 {sl ic ir : Nat} {M : mj_M} {y3 : Int32} (i1 : mj_inB (y3 + 1) sl = true) (i2 : mj_inB (y3 + 2) sl = true) (i3 : mj_inB (y3 + 3) sl = true) (i4 : mj_inB (y3 + 4) sl = true) (i5 : mj_inB (y3 + 5) sl = true) (ok : ∃ v M1 M2, mj_C sl 1999 ic [.ref 0, .int (M 72 (y3 + 1 : Int32).toNatClampNeg), .int (M 72 (y3 + 2 : Int32).toNatClampNeg), .int (M 72 (y3 + 3 : Int32).toNatClampNeg), .int (M 72 (y3 + 4 : Int32).toNatClampNeg), .int (M 72 (y3 + 5 : Int32).toNatClampNeg)] M = some (v, M1) ∧ M1 72 = M 72 ∧ mj_C sl 1999 ir [.ref 45, .int (M 72 (y3 + 1 : Int32).toNatClampNeg), .int (M 72 (y3 + 2 : Int32).toNatClampNeg), .int (M 72 (y3 + 3 : Int32).toNatClampNeg), .int (M 72 (y3 + 4 : Int32).toNatClampNeg), .int (M 72 (y3 + 5 : Int32).toNatClampNeg)] M1 = some (v, M2) ∧ mv_Inv M2) (K : ∀ M2, mv_Inv M2 → mv_one (mj_E sl (1999 + 1) 232 18 [.ref 72, .ref 0, .ref 45, .int (y3 + 6)] [] M2)) : mv_one (if mj_inB (y3 + 1) sl = true then (if mj_inB (y3 + 2) sl = true then (if mj_inB (y3 + 3) sl = true then (if mj_inB (y3 + 4) sl = true then (if mj_inB (y3 + 5) sl = true then ((mj_C sl 1999 ic [.ref 0, .int (M 72 (y3 + 1 : Int32).toNatClampNeg), .int (M 72 (y3 + 2 : Int32).toNatClampNeg), .int (M 72 (y3 + 3 : Int32).toNatClampNeg), .int (M 72 (y3 + 4 : Int32).toNatClampNeg), .int (M 72 (y3 + 5 : Int32).toNatClampNeg)] M).bind (fun q1 => if mj_inB (y3 + 1) sl = true then (if mj_inB (y3 + 2) sl = true then (if mj_inB (y3 + 3) sl = true then (if mj_inB (y3 + 4) sl = true then (if mj_inB (y3 + 5) sl = true then ((mj_C sl 1999 ir [.ref 45, .int (q1.2 72 (y3 + 1 : Int32).toNatClampNeg), .int (q1.2 72 (y3 + 2 : Int32).toNatClampNeg), .int (q1.2 72 (y3 + 3 : Int32).toNatClampNeg), .int (q1.2 72 (y3 + 4 : Int32).toNatClampNeg), .int (q1.2 72 (y3 + 5 : Int32).toNatClampNeg)] q1.2).bind (fun q2 => if q1.1 = q2.1 then (mj_E sl (1999 + 1) 232 18 [.ref 72, .ref 0, .ref 45, .int (y3 + 6)] [] q2.2) else (some ((0 : Int32), q2.2)))) else none) else none) else none) else none) else none)) else none) else none) else none) else none) else none) := by
  obtain ⟨v, M1, M2, e1, h1, e2, I2⟩ := ok
  rw [← h1] at e2
  refine mv_one.pos i1 ?_
  refine mv_one.pos i2 ?_
  refine mv_one.pos i3 ?_
  refine mv_one.pos i4 ?_
  refine mv_one.pos i5 ?_
  refine mv_one.bd e1 ?_
  refine mv_one.pos i1 ?_
  refine mv_one.pos i2 ?_
  refine mv_one.pos i3 ?_
  refine mv_one.pos i4 ?_
  refine mv_one.pos i5 ?_
  refine mv_one.bd e2 ?_
  exact mv_one.pos rfl (K M2 I2)
theorem mv_iter {sl y : Nat} {M : mj_M} (hsl : sl ≤ 3072) (hy : y + 6 ≤ sl) (I : mv_Inv M) (K : ∀ M2, mv_Inv M2 → mv_one (mj_E sl (1999 + 1) 232 18 [.ref 72, .ref 0, .ref 45, .int (nI y + 6)] [] M2)) : mv_one (mj_E sl (1999 + 1) 232 18 [.ref 72, .ref 0, .ref 45, .int (nI y)] [] M) := by
  have hin : ∀ j, j < sl → mj_inB (nI j) sl = true := fun j h => mq_inT h (by omega)
  have i0 : mj_inB (nI y) sl = true := hin y (by omega)
  have i1 : mj_inB (nI y + 1) sl = true := by rw [show nI y + 1 = nI (y + 1) from nI_add y 1]; exact hin _ (by omega)
  have i2 : mj_inB (nI y + 2) sl = true := by rw [show nI y + 2 = nI (y + 2) from nI_add y 2]; exact hin _ (by omega)
  have i3 : mj_inB (nI y + 3) sl = true := by rw [show nI y + 3 = nI (y + 3) from nI_add y 3]; exact hin _ (by omega)
  have i4 : mj_inB (nI y + 4) sl = true := by rw [show nI y + 4 = nI (y + 4) from nI_add y 4]; exact hin _ (by omega)
  have i5 : mj_inB (nI y + 5) sl = true := by rw [show nI y + 5 = nI (y + 5) from nI_add y 5]; exact hin _ (by omega)
  have hle : nI y ≤ nI sl - 6 := by
    rw [show nI sl - 6 = nI (sl - 6) from pk_sub (b := 6) (show 6 ≤ sl by omega)]
    exact (mq_le (by omega) (by omega)).mpr (by omega)
  rw [b_L_law_18]
  refine mv_one.pos hle ?_
  refine mv_one.pos i0 ?_
  refine mv_one.ite (fun _ => mv_go2 i1 i2 (o_model I) K) (fun _ => ?_)
  refine mv_one.ite (fun _ => mv_go3 i1 i2 i3 (o_courtier I) K) (fun _ => ?_)
  refine mv_one.ite (fun _ => mv_go3 i1 i2 i3 (o_form I) K) (fun _ => ?_)
  refine mv_one.ite (fun _ => mv_go5 i1 i2 i3 i4 i5 (o_feed I) K) (fun _ => ?_)
  refine mv_one.ite (fun _ => mv_go1 i1 (o_law I) K) (fun _ => ?_)
  refine mv_one.ite (fun _ => mv_go1 i1 (o_order I) K) (fun _ => ?_)
  refine mv_one.ite (fun _ => mv_go1 i1 (o_blots I) K) (fun _ => ?_)
  refine mv_one.ite (fun _ => mv_go1 i1 (o_moons I) K) (fun _ => ?_)
  refine mv_one.ite (fun _ => mv_go2 i1 i2 (o_tried I) K) (fun _ => ?_)
  refine mv_one.ite (fun _ => mv_go2 i1 i2 (o_courtierIs I) K) (fun _ => ?_)
  refine mv_one.ite (fun _ => mv_go2 i1 i2 (o_formOf I) K) (fun _ => ?_)
  refine mv_one.ite (fun _ => mv_go1 i1 (o_modelOf I) K) (fun _ => ?_)
  refine mv_one.ite (fun _ => mv_go1 i1 (o_read I) K) (fun _ => ?_)
  refine mv_one.ite (fun _ => mv_go2 i1 i2 (o_apart I) K) (fun _ => ?_)
  refine mv_one.ite (fun _ => mv_go2 i1 i2 (o_written I) K) (fun _ => ?_)
  refine mv_one.ite (fun _ => mv_go2 i1 i2 (o_copied I) K) (fun _ => ?_)
  refine mv_one.ite (fun _ => mv_go3 i1 i2 i3 (o_another I) K) (fun _ => ?_)
  refine mv_one.ite (fun _ => mv_go2 i1 i2 (o_whose I) K) (fun _ => ?_)
  refine mv_one.ite (fun _ => mv_go2 i1 i2 (o_forge I) K) (fun _ => ?_)
  refine mv_one.ite (fun _ => mv_go2 i1 i2 (o_alike I) K) (fun _ => ?_)
  refine mv_one.ite (fun _ => mv_go2 i1 i2 (o_rises I) K) (fun _ => ?_)
  refine mv_one.ite (fun _ => mv_go0  (o_commands I) K) (fun _ => ?_)
  refine mv_one.ite (fun _ => mv_go2 i1 i2 (o_clear I) K) (fun _ => ?_)
  refine mv_one.ite (fun _ => mv_go2 i1 i2 (o_shape I) K) (fun _ => ?_)
  refine mv_one.ite (fun _ => mv_go2 i1 i2 (o_like I) K) (fun _ => ?_)
  refine mv_one.ite (fun _ => mv_go2 i1 i2 (o_toldApart I) K) (fun _ => ?_)
  refine mv_one.ite (fun _ => mv_go1 i1 (o_seed I) K) (fun _ => ?_)
  refine mv_one.ite (fun _ => mv_go0  (o_keep I) K) (fun _ => ?_)
  refine mv_one.ite (fun _ => mv_go0  (o_undo I) K) (fun _ => ?_)
  refine mv_one.ite (fun _ => mv_go1 i1 (o_check I) K) (fun _ => ?_)
  refine mv_one.ite (fun _ => mv_go1 i1 (o_count I) K) (fun _ => ?_)
  exact K M I
theorem mv_sl6 : ∀ s, s < 6 → nI s - 6 < 0 := by decide
theorem mv_loop {sl : Nat} (hsl : sl ≤ 3072) : ∀ (m y : Nat) (M : mj_M), sl < y + m + 6 → y ≤ 3078 → mv_Inv M → mv_one (mj_E sl (1999 + 1) 232 18 [.ref 72, .ref 0, .ref 45, .int (nI y)] [] M) := by
  have fin : ∀ (y : Nat) (M : mj_M), sl < y + 6 → y ≤ 3078 → mv_one (mj_E sl (1999 + 1) 232 18 [.ref 72, .ref 0, .ref 45, .int (nI y)] [] M) := by
    intro y M h hy
    have hn : ¬ nI y ≤ nI sl - 6 := by
      by_cases h6 : sl < 6
      · intro z
        exact nI_pos (show y < 2147483648 by omega) (Int32.lt_of_le_of_lt z (mv_sl6 sl h6))
      · rw [show nI sl - 6 = nI (sl - 6) from pk_sub (b := 6) (show 6 ≤ sl by omega)]
        intro z
        have := (mq_le (by omega) (by omega)).mp z
        omega
    rw [b_L_law_18]
    exact mv_one.ite (fun z => absurd z hn) (fun _ => ⟨M, rfl⟩)
  intro m
  induction m with
  | zero => exact fun y M h hy I => fin y M (by omega) hy
  | succ m ih =>
    intro y M h hy I
    by_cases h6 : y + 6 ≤ sl
    · refine mv_iter hsl h6 I (fun M2 I2 => ?_)
      rw [show nI y + 6 = nI (y + 6) from nI_add y 6]
      exact ih (y + 6) M2 (by omega) (by omega) I2
    · exact fin y M (by omega) hy
theorem mv_init (xs : Nat → Int32) : mv_Inv (mj_M0 xs) := by
  have z0 : nI 0 = 0 := rfl
  have b0 : ∀ n, mv_bits (fun _ => false) n = 0 := fun n => by
    induction n with
    | zero => rfl
    | succ n ih => simp [mv_bits, ih]
  have r3 : mj_M0 xs 3 = upd (fun _ => 0) 8 1 := rfl
  have r6 : mj_M0 xs 6 = mj_fl (fun _ => 0) (-1) 80 := rfl
  have r46 : mj_M0 xs 46 = mj_fr (upd (fun _ => 0) 111 1) (-1) 30 110 := rfl
  have r49 : mj_M0 xs 49 = mj_fr (fun _ => 0) (-1) 0 8 := rfl
  refine ⟨fun _ => none, (fun _ => false, fun _ => 0, fun _ => 0, fun _ _ => none, 0, 1), 0, fun _ => 0, 0, fun _ => 0, false, (fun _ => false, fun _ => 0, fun _ => 0, fun _ _ => none, 0, 1), ⟨?_, ⟨?_, fun k g _ h => by cases h⟩, (fun k g h => by cases h), ⟨?_, (fun c _ h => by cases h), ?_, ?_, ?_⟩, ⟨?_, (fun c _ h => by cases h), ?_, ?_, ?_⟩, ⟨(fun c h => by cases h), (fun c k g h => by cases h), by decide, by decide⟩⟩, ⟨rfl, rfl, by omega, fun j _ => ⟨show 0 < 256 by omega, rfl, show (0 : Int32) &&& 255 = 0 by decide⟩⟩, ⟨rfl, rfl, by omega, fun j h => by omega⟩, ⟨rfl, rfl, fun h => by cases h⟩, ⟨Or.inr ⟨rfl, rfl⟩, 0, fun _ => 0, fun _ => [], fun _ => [], ⟨by omega, fun j h => by omega⟩, ⟨rfl, 0, by omega, rfl, fun j h => by omega⟩, ⟨rfl, fun j h => by omega⟩⟩, rfl⟩
  · intro k hk
    rw [r49]
    exact if_pos ⟨Nat.zero_le k, hk⟩
  · show (0 : Int32) = nI (mv_bits (fun _ => false) 8)
    rw [b0]
    rfl
  · intro c hc
    rw [r46]
    show mj_fr (upd (fun _ => 0) 111 1) (-1) 30 110 c = 0
    unfold mj_fr
    rw [if_neg (by omega)]
    exact if_neg (by omega)
  · intro c k hc hk
    rw [r46]
    exact if_pos ⟨by omega, by omega⟩
  · rw [r46]; rfl
  · rw [r46]; rfl
  · show mj_M0 xs 3 6 = nI (mv_bits (fun _ => false) 10)
    rw [b0, r3]
    rfl
  · intro c k hc hk
    show mj_M0 xs 6 (8 * c + k) = -1
    rw [r6]
    exact if_pos (by omega)
  · rw [r3]; rfl
  · rw [r3]; rfl
theorem mj_rk232 : mj_rk 232 = 1 := by decide
theorem mj_pure_all : mj_pure := by
  intro sl xs hsl
  obtain ⟨M', h⟩ := mv_loop hsl (sl + 1) 0 (mj_M0 xs) (by omega) (by omega) (mv_init xs)
  unfold mj_E at h
  cases hF : mj_F sl (1999 + 1) 232 18 [.ref 72, .ref 0, .ref 45, .int (nI 0)] [] (mj_M0 xs) with
  | none => rw [hF] at h; cases h
  | some q =>
    have e := mj_F_int mj_rk232 hF
    rw [hF] at h
    have h2 : (mj_cd q.1, q.2) = ((1 : Int32), M') := Option.some.inj h
    have h3 : mj_cd q.1 = 1 := congrArg Prod.fst h2
    rw [h3] at e
    refine ⟨q.2, ?_⟩
    show mj_F sl (1999 + 1) 232 18 [.ref 72, .ref 0, .ref 45, .int (nI 0)] [] (mj_M0 xs) = _
    rw [hF, ← e]
