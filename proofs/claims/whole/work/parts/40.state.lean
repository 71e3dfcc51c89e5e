theorem mq_cp_ne {M : mj_M} {a b s t n c j : Nat} (h : c ≠ b) : mj_cp M a b s t n c j = M c j := by
  unfold mj_cp
  rw [mj_row_ne h]
theorem mq_cp_in {M : mj_M} {a b n j : Nat} (h : j < n) : mj_cp M a b 0 0 n b j = M a j := by
  unfold mj_cp
  rw [mj_row_eq, pk_cpy_in (by omega) (by omega)]
  congr 1
  omega
theorem mv_fr.cp {Q : Nat → Nat → Prop} {M M1 : mj_M} {a b s t n : Nat} (h : mv_fr Q M M1) (hb : ∀ k, Q b k) : mv_fr Q M (mj_cp M1 a b s t n) := fun q j hq => by
  by_cases e : q = b
  · rw [e] at hq; exact absurd (hb j) hq
  · rw [mq_cp_ne e]; exact h q j hq
def mv_Qk (b : Nat) (a k : Nat) : Prop := (a = b ∧ 6 ≤ k ∧ k ≤ 8) ∨ (b + 1 ≤ a ∧ a ≤ b + 3)
theorem mv_courtD {b c : Nat} (hb : mj_ocl b = 0) (hc : mj_ocl c = 0) (h : b ≠ c) : b + 6 ≤ c ∨ c + 6 ≤ b := by
  rcases mj_courtE hb with rfl | rfl | rfl <;> rcases mj_courtE hc with rfl | rfl | rfl <;> omega
section MV11
variable {sl d : Nat} {M : mj_M} {mo : Nat → Option Nat} {cs : mv_CS}
theorem c_copyFrom {t c : Nat} (ht : mj_ocl t = 0) (hc : mj_ocl c = 0) (hne : t ≠ c) : ∃ M1, mj_C sl (d + 1) i_X1_copyFrom [.ref t, .ref c] M = some (0, M1) ∧ mv_fr (mv_Qk t) M M1 ∧ ∀ cs, mv_cC M c cs → mv_cC M1 t cs := by
  have hd := mv_courtD ht hc hne
  have z0 : (0 : Int32).toNatClampNeg = 0 := by decide
  have z10 : (10 : Int32).toNatClampNeg = 10 := by decide
  have z80 : (80 : Int32).toNatClampNeg = 80 := by decide
  rw [b_X1_copyFrom ht hc, if_pos (by decide), if_pos (by decide), if_pos (by decide), z0, z10, z80]
  refine ⟨_, rfl, ?_, ?_⟩
  · refine mv_fr.st (mv_fr.st (mv_fr.st (mv_fr.cp (mv_fr.cp (mv_fr.cp mv_fr.rf ?_) ?_) ?_) ?_) ?_) ?_
    · intro k; exact Or.inr ⟨by omega, by omega⟩
    · intro k; exact Or.inr ⟨by omega, by omega⟩
    · intro k; exact Or.inr ⟨by omega, by omega⟩
    · exact Or.inl ⟨rfl, by omega, by omega⟩
    · exact Or.inl ⟨rfl, by omega, by omega⟩
    · exact Or.inl ⟨rfl, by omega, by omega⟩
  · intro cs h
    obtain ⟨h1, h2, h3, h4, h5⟩ := h
    refine ⟨?_, fun k hk tk => ⟨?_, ?_⟩, fun k j hk hj => ?_, ?_, ?_⟩
    · simp (disch := omega) only [mq_st_eq, mq_st_ne, mq_cp_ne, mq_cp_in]
      exact h1
    · simp (disch := omega) only [mq_st_eq, mq_st_ne, mq_cp_ne, mq_cp_in]
      exact (h2 k hk tk).1
    · simp (disch := omega) only [mq_st_eq, mq_st_ne, mq_cp_ne, mq_cp_in]
      exact (h2 k hk tk).2
    · simp (disch := omega) only [mq_st_eq, mq_st_ne, mq_cp_ne, mq_cp_in]
      exact h3 k j hk hj
    · simp (disch := omega) only [mq_st_eq, mq_st_ne, mq_cp_ne, mq_cp_in]
      exact h4
    · simp (disch := omega) only [mq_st_eq, mq_st_ne, mq_cp_ne, mq_cp_in]
      exact h5
theorem r_copies {a b : Nat} (ha : mj_ial a = 112) (ha2 : ¬ a = 72) (hb : mj_ial b = 112) (hb2 : ¬ b = 72) (hne : a ≠ b) : ∃ M1, mj_C sl d i_X9_copies [.ref a, .ref b] M = some (0, M1) ∧ mv_fr (fun q _ => q = b) M M1 ∧ ∀ cs, mv_rC M a cs → mv_rC M1 b cs := by
  rw [b_X9_copies ha ha2 hb hb2]
  have L : ∀ k, k ≤ 112 → ∀ M', mv_fr (fun q _ => q = b) M M' → (∀ j, j < k → M' b j = M a j) → ∃ M1, mj_E sl d i_X9_copies 2 [.ref a, .ref b, .int (nI k)] [] M' = some (0, M1) ∧ mv_fr (fun q _ => q = b) M M1 ∧ ∀ j, j < 112 → M1 b j = M a j := by
    refine mq_up ?_ ?_
    · intro M' f h
      exact ⟨M', by rw [b_X9_copies_2 ha ha2 hb hb2, if_neg (by decide)], f, h⟩
    · intro k hk ih M' f h
      rw [b_X9_copies_2 ha ha2 hb hb2]
      simp (disch := omega) only [s_ltL, hk, if_true, s_in, s_cl, s_addL]
      refine ih _ (f.st rfl) (fun j hj => ?_)
      by_cases e : j = k
      · rw [e, mq_st_eq]
        exact f a k hne
      · rw [mq_st_ne (Or.inr e)]
        exact h j (by omega)
  obtain ⟨M1, e, f, h⟩ := L 0 (by omega) M mv_fr.rf (fun j hj => by omega)
  refine ⟨M1, e, f, fun cs hc => ?_⟩
  obtain ⟨h1, h2, h3, h4, h5⟩ := hc
  refine ⟨fun c hc => ?_, fun c hc tc => ⟨?_, ?_⟩, fun c k hc hk => ?_, ?_, ?_⟩
  · rw [h c (by omega)]; exact h1 c hc
  · rw [h _ (by omega)]; exact (h2 c hc tc).1
  · rw [h _ (by omega)]; exact (h2 c hc tc).2
  · rw [h _ (by omega)]; exact h3 c k hc hk
  · rw [h _ (by omega)]; exact h4
  · rw [h _ (by omega)]; exact h5
def mv_Kp (M : mj_M) (mo : Nat → Option Nat) (kp : Bool) (ck : mv_CS) : Prop := M 0 10 = mv_bi kp ∧ M 45 45 = mv_bi kp ∧ (kp = true → mv_rC M 48 ck ∧ mv_cC M 9 ck ∧ mv_wC mo ck)
theorem mv_Kp.fr {Q : Nat → Nat → Prop} {M1 : mj_M} {kp : Bool} {ck : mv_CS} (h : mv_Kp M mo kp ck) (f : mv_fr Q M M1) (hq : ∀ a k, Q a k → ¬ (a = 0 ∧ k = 10) ∧ ¬ (a = 45 ∧ k = 45) ∧ a ≠ 48 ∧ ¬ (a = 9 ∧ 6 ≤ k ∧ k ≤ 8) ∧ ¬ (10 ≤ a ∧ a ≤ 12)) : mv_Kp M1 mo kp ck := by
  obtain ⟨h1, h2, h3⟩ := h
  refine ⟨by rw [f 0 10 (fun z => (hq _ _ z).1 ⟨rfl, rfl⟩)]; exact h1, by rw [f 45 45 (fun z => (hq _ _ z).2.1 ⟨rfl, rfl⟩)]; exact h2, fun e => ?_⟩
  obtain ⟨a1, a2, a3⟩ := h3 e
  exact ⟨a1.fr f (fun k z => (hq _ _ z).2.2.1 rfl), a2.fr f (fun k a b z => (hq _ _ z).2.2.2.1 ⟨rfl, a, b⟩) (fun j k a b z => (hq _ _ z).2.2.2.2 ⟨by omega, by omega⟩), a3⟩
def mv_Qs (a k : Nat) : Prop := a = 46 ∨ mv_Qk 3 a k
theorem p_seed {x : Int32} (B : mv_B M mo cs) : ∃ v M1 M2, mj_C sl (d + 1) i_X8_seed [.ref 0, .int x] M = some (v, M1) ∧ M1 72 = M 72 ∧ mj_C sl (d + 1) i_X9_seed [.ref 45, .int x] M1 = some (v, M2) ∧ mv_fr mv_Qs M M2 ∧ ∃ cs', mv_B M2 mo cs' := by
  rw [b_X8_seed]
  by_cases x0 : x < 0
  · refine ⟨0, M, M, by simp only [x0, if_true], rfl, ?_, mv_fr.rf, cs, B⟩
    rw [b_X9_seed]
    simp only [r_in, x0, if_true, Option.bind_some]
  by_cases x1 : x ≤ 65535
  · obtain ⟨g, hg, rfl⟩ := nI_of2 (n := 65535) (by decide) x0 x1
    refine ⟨1, mj_st M 3 8 (nI g), mj_st (mj_st M 3 8 (nI g)) 46 111 (nI g), by simp only [x0, x1, if_true, if_false], rfl, ?_, ?_, (mv_to cs, mv_ag cs, mv_in cs, mv_ow cs, mv_mn cs, g), ?_⟩
    · rw [b_X9_seed]
      simp only [r_in, x0, x1, if_true, if_false, Option.bind_some, s_10]
    · exact (mv_fr.st mv_fr.rf (Or.inr (Or.inl ⟨rfl, by omega, by omega⟩))).st (Or.inl rfl)
    · obtain ⟨hm, hcm, hw, hr, hc, hwc⟩ := B
      refine ⟨fun k hk => hm k hk, ⟨hcm.1, fun k q hk hq => hcm.2 k q hk hq⟩, hw, ⟨fun c hc => ?_, fun c hc tc => ⟨?_, ?_⟩, fun c k hc hk => ?_, ?_, ?_⟩, ⟨?_, fun c hk tc => ⟨?_, ?_⟩, fun c k hk hj => ?_, ?_, ?_⟩, hwc.1, hwc.2.1, hwc.2.2.1, hg⟩
      · rw [mq_st_ne (by omega)]; exact hr.1 c hc
      · rw [mq_st_ne (by omega)]; exact (hr.2.1 c hc tc).1
      · rw [mq_st_ne (by omega)]; exact (hr.2.1 c hc tc).2
      · rw [mq_st_ne (by omega)]; exact hr.2.2.1 c k hc hk
      · rw [mq_st_ne (by omega)]; exact hr.2.2.2.1
      · rw [mq_st_eq]
      · exact hc.1
      · exact (hc.2.1 c hk tc).1
      · exact (hc.2.1 c hk tc).2
      · exact hc.2.2.1 c k hk hj
      · exact hc.2.2.2.1
      · rw [mq_st_ne (by omega), mq_st_eq]
  · refine ⟨0, M, M, by simp only [x0, x1, if_false], rfl, ?_, mv_fr.rf, cs, B⟩
    rw [b_X9_seed]
    simp only [r_in, x0, x1, if_true, if_false, Option.bind_some]
end MV11
