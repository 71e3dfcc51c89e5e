def mv_rw (p : Nat) : Nat := p ||| mv_tL p ||| mv_tR p
def mv_dl (co : Bool) (p : Nat) : Nat := if co then mv_rw p ||| mv_tT (mv_rw p) ||| mv_tB (mv_rw p) else mv_rw p ||| mv_tT p ||| mv_tB p
theorem mv_rw_lin : mv_lin mv_rw := (mv_lin.rf.o mv_tL_lin).o mv_tR_lin
theorem mv_dl_lin (co : Bool) : mv_lin (mv_dl co) := by
  cases co with
  | true => exact (mv_rw_lin.o (mv_tT_lin.co mv_rw_lin)).o (mv_tB_lin.co mv_rw_lin)
  | false => exact (mv_rw_lin.o mv_tT_lin).o mv_tB_lin
def mv_aj (co : Bool) (a b : Nat) : Bool := (mv_dl co (2 ^ a)).testBit b
theorem mv_rw_lt {p : Nat} (h : p < 2 ^ 25) : mv_rw p < 2 ^ 25 := Nat.or_lt_two_pow (Nat.or_lt_two_pow h (mv_tL_lt h)) (mv_tR_lt h)
theorem mv_dl_lt {co : Bool} {p : Nat} (h : p < 2 ^ 25) : mv_dl co p < 2 ^ 25 := by
  cases co with
  | true => exact Nat.or_lt_two_pow (Nat.or_lt_two_pow (mv_rw_lt h) (mv_tT_lt (mv_rw_lt h))) (mv_tB_lt (mv_rw_lt h))
  | false => exact Nat.or_lt_two_pow (Nat.or_lt_two_pow (mv_rw_lt h) (mv_tT_lt h)) (mv_tB_lt h)
theorem mv_dl_tb {co : Bool} {p b : Nat} (h : p < 2 ^ 25) : (mv_dl co p).testBit b = true ↔ ∃ a, a < 25 ∧ p.testBit a = true ∧ mv_aj co a b = true := by
  rw [(mv_dl_lin co).orf2 h, mv_orf_tb]
  rfl
theorem mv_aj_rf : ∀ co a, a < 25 → mv_aj co a a = true := by decide +kernel
theorem mv_aj_sy : ∀ co a, a < 25 → ∀ b, b < 25 → mv_aj co a b = mv_aj co b a := by decide +kernel
def mv_E (co : Bool) (L a b : Nat) : Bool := mv_aj co a b && L.testBit b
theorem mv_low {L c : Nat} (hL : L < 2 ^ 31) (hc : L.testBit c = true) (hlo : ∀ j, j < c → L.testBit j = false) : nI L &&& (-nI L) = nI (2 ^ c) := by
  have hc31 : c < 31 := mv_lt_bit hL hc
  obtain ⟨q, hq⟩ : ∃ q, L = 2 ^ (c + 1) * q + 2 ^ c := by
    refine ⟨L / 2 ^ (c + 1), ?_⟩
    have hm : L % 2 ^ (c + 1) = 2 ^ c := by
      apply Nat.eq_of_testBit_eq
      intro i
      rw [Nat.testBit_mod_two_pow, Nat.testBit_two_pow]
      by_cases z : i = c
      · rw [z, hc]; simp
      · by_cases z2 : i < c
        · rw [hlo i z2]; simp; omega
        · have : ¬ i < c + 1 := by omega
          simp [this]; omega
    have := Nat.div_add_mod L (2 ^ (c + 1))
    rw [hm] at this
    exact this.symm
  have pc : 2 ^ (c + 1) = 2 ^ c * 2 := Nat.pow_succ ..
  have pp : 2 ^ (c + 1) * 2 ^ (31 - c) = 2 ^ 32 := by rw [← Nat.pow_add]; congr 1; omega
  have p0 : 0 < 2 ^ c := Nat.pow_pos (by decide)
  have hq2 : q < 2 ^ (31 - c) := by
    apply Nat.lt_of_mul_lt_mul_left (a := 2 ^ (c + 1))
    rw [pp]
    omega
  have hneg : -nI L = nI (2 ^ 32 - L) := by
    apply Int32.toBitVec_inj.mp
    apply BitVec.eq_of_toNat_eq
    rw [Int32.toBitVec_neg, BitVec.toNat_neg, pk_tn (by omega), pk_tn (by omega)]
    exact Nat.mod_eq_of_lt (by omega)
  have e2 : 2 ^ 32 - L = 2 ^ (c + 1) * (2 ^ (31 - c) - (q + 1)) + 2 ^ c := by
    rw [Nat.mul_sub, pp, hq, Nat.mul_add, Nat.mul_one]
    have : 2 ^ (c + 1) * q + 2 ^ (c + 1) ≤ 2 ^ 32 := by
      rw [← pp, ← Nat.mul_succ]
      exact Nat.mul_le_mul_left _ hq2
    omega
  rw [hneg, mq_and, e2]
  congr 1
  rw [hq, mq_and_split (by omega) (by omega), Nat.and_self]
  have : q &&& (2 ^ (31 - c) - (q + 1)) = 0 := by
    apply Nat.eq_of_testBit_eq
    intro i
    rw [Nat.testBit_and, Nat.testBit_two_pow_sub_succ hq2, Nat.zero_testBit]
    cases q.testBit i <;> simp
  rw [this]
  omega
theorem mv_clE {co : Bool} {L c S : Nat} (h : mv_cl (mv_E co L) 25 c S) (hc : L.testBit c = true) (hc25 : c < 25) : mv_sub S L := by
  refine h.2.2.2 L hc (fun a b ha hb h1 h2 => ?_)
  unfold mv_E at h2
  rw [Bool.and_eq_true] at h2
  exact h2.2
section MV26
variable {sl d : Nat} {M : mj_M}
theorem c_lowestPart {L c : Nat} {co : Bool} {y : Int32} (hy : y = mv_bi co) (hL : L < 2 ^ 25) (hc : L.testBit c = true) (hlo : ∀ j, j < c → L.testBit j = false) : ∃ S, mv_cl (mv_E co L) 25 c S ∧ mj_C sl (d + 1) i_X2_lowestPart [.int (nI L), .int y] M = some (nI S, M) := by
  have hc25 : c < 25 := mv_lt_bit hL hc
  rw [b_X2_lowestPart, mv_low (by omega) hc hlo]
  have step : ∀ (p : Nat) (k : Nat) (w4 w5 w6 : Value), p < 2 ^ 25 → ∃ v4 v5, mj_E sl (d + 1) i_X2_lowestPart 7 [.int (nI L), .int y, .int (nI p), .int (nI k), w4, w5, w6] [] M = if nI k < 25 then (if mv_dl co p &&& L = p then some (nI p, M) else mj_E sl (d + 1) i_X2_lowestPart 7 [.int (nI L), .int y, .int (nI (mv_dl co p &&& L)), .int (nI (k + 1)), v4, v5, .int (nI (mv_dl co p &&& L))] [] M) else some (nI p, M) := by
    intro p k w4 w5 w6 hp
    have hl := mv_dl_lt (co := co) hp
    have hal : mv_dl co p &&& L < 2 ^ 25 := Nat.and_lt_two_pow _ hL
    cases co with
    | true =>
      refine ⟨.int (nI (mv_rw p)), .int (nI (mv_rw p)), ?_⟩
      rw [b_X2_lowestPart_7, hy]
      simp only [c_toLeft hp, c_toRight hp, Option.bind_some, mq_or, s_bi0, Bool.true_eq_false, if_false]
      rw [show p ||| mv_tL p ||| mv_tR p = mv_rw p from rfl]
      simp only [c_toTop (mv_rw_lt hp), c_toBottom (mv_rw_lt hp), Option.bind_some, mq_or, mq_and]
      rw [show mv_rw p ||| mv_tT (mv_rw p) ||| mv_tB (mv_rw p) = mv_dl true p from rfl]
      simp (disch := omega) only [s_eq, s_addL]
    | false =>
      refine ⟨.int (nI (mv_rw p)), .int (nI p), ?_⟩
      rw [b_X2_lowestPart_7, hy]
      simp only [c_toLeft hp, c_toRight hp, Option.bind_some, mq_or, s_bi0, if_true]
      rw [show p ||| mv_tL p ||| mv_tR p = mv_rw p from rfl]
      simp only [c_toTop hp, c_toBottom hp, Option.bind_some, mq_or, mq_and]
      rw [show mv_rw p ||| mv_tT p ||| mv_tB p = mv_dl false p from rfl]
      simp (disch := omega) only [s_eq, s_addL]
  have grow : ∀ p, p < 2 ^ 25 → mv_sub p L → mv_sub p (mv_dl co p &&& L) ∧ (∀ T, mv_cls (mv_E co L) 25 T → mv_sub p T → mv_sub (mv_dl co p &&& L) T) ∧ (mv_dl co p &&& L = p → mv_cls (mv_E co L) 25 p) := by
    intro p hp hs
    refine ⟨fun i hi => ?_, fun T hT h i hi => ?_, fun e a b ha hb h1 h2 => ?_⟩
    · rw [Nat.testBit_and, Bool.and_eq_true]
      have hi25 := mv_lt_bit hp hi
      exact ⟨(mv_dl_tb hp).mpr ⟨i, hi25, hi, mv_aj_rf co i hi25⟩, hs i hi⟩
    · rw [Nat.testBit_and, Bool.and_eq_true] at hi
      obtain ⟨a, a1, a2, a3⟩ := (mv_dl_tb hp).mp hi.1
      refine hT a i a1 (mv_lt_bit hL hi.2) (h a a2) ?_
      unfold mv_E
      rw [a3, hi.2]
      rfl
    · unfold mv_E at h2
      rw [Bool.and_eq_true] at h2
      have : (mv_dl co p &&& L).testBit b = true := by
        rw [Nat.testBit_and, Bool.and_eq_true]
        exact ⟨(mv_dl_tb hp).mpr ⟨a, ha, h1, h2.1⟩, h2.2⟩
      rw [e] at this
      exact this
  have R : ∀ k, k ≤ 25 → ∀ (p : Nat) (w4 w5 w6 : Value), p < 2 ^ 25 → mv_sub p L → p.testBit c = true → (∀ T, T.testBit c = true → mv_cls (mv_E co L) 25 T → mv_sub p T) → (mv_cls (mv_E co L) 25 p ∨ k + 1 ≤ mq_pc p 25) → ∃ S, mv_cl (mv_E co L) 25 c S ∧ mj_E sl (d + 1) i_X2_lowestPart 7 [.int (nI L), .int y, .int (nI p), .int (nI k), w4, w5, w6] [] M = some (nI S, M) := by
    refine mq_up ?_ ?_
    · intro p w4 w5 w6 hp hs h1 h2 h3
      obtain ⟨v4, v5, e⟩ := step p 25 w4 w5 w6 hp
      refine ⟨p, ⟨hp, h1, h3.resolve_right (fun z => ?_), h2⟩, ?_⟩
      · have := mq_pc_le p 25
        omega
      · rw [e, if_neg (by decide)]
    · intro k hk ih p w4 w5 w6 hp hs h1 h2 h3
      obtain ⟨v4, v5, e⟩ := step p k w4 w5 w6 hp
      obtain ⟨g1, g2, g3⟩ := grow p hp hs
      have hal : mv_dl co p &&& L < 2 ^ 25 := Nat.and_lt_two_pow _ hL
      rw [e]
      simp (disch := omega) only [s_ltL, hk, if_true]
      by_cases q : mv_dl co p &&& L = p
      · rw [if_pos q]
        exact ⟨p, ⟨hp, h1, g3 q, h2⟩, rfl⟩
      · rw [if_neg q]
        refine ih _ _ _ _ hal (fun i hi => ?_) (g1 c h1) (fun T t1 t2 => g2 T t2 (h2 T t1 t2)) ?_
        · rw [Nat.testBit_and, Bool.and_eq_true] at hi
          exact hi.2
        · by_cases hcl : mv_cls (mv_E co L) 25 p
          · exact absurd (mv_sub.as (g2 p hcl mv_sub.rf) g1) q
          · have := mv_sub_lt g1 hp hal (fun z => q z.symm)
            have := h3.resolve_left hcl
            exact Or.inr (by omega)
  refine R 0 (by omega) (2 ^ c) _ _ _ (Nat.pow_lt_pow_right (by decide) hc25) (fun i hi => ?_) (mv_pow_bit.mpr rfl) (fun T t1 _ i hi => ?_) (Or.inr (mv_pc_pow hc25))
  · rw [mv_pow_bit] at hi
    rw [← hi]
    exact hc
  · rw [mv_pow_bit] at hi
    rw [← hi]
    exact t1
end MV26
