theorem mv_bt_x (g d j : Nat) : mq_bt (g ^^^ 2 ^ d) j = if j = d then 1 - mq_bt g j else mq_bt g j := by
  rw [mq_bt_tb, mq_bt_tb, Nat.testBit_xor]
  by_cases q : j = d
  · subst q
    rw [show Nat.testBit (2 ^ j) j = true from mv_pow_bit.mpr rfl]
    cases g.testBit j <;> simp
  · rw [show Nat.testBit (2 ^ d) j = false from by
      cases h : Nat.testBit (2 ^ d) j with
      | false => rfl
      | true => exact absurd (mv_pow_bit.mp h).symm q]
    rw [if_neg q]
    cases g.testBit j <;> simp
theorem mv_pc_lo {g d : Nat} : ∀ n, n ≤ d → mq_pc (g ^^^ 2 ^ d) n = mq_pc g n
  | 0, _ => rfl
  | n + 1, h => by
    rw [mq_pc, mq_pc, mv_pc_lo n (by omega), mv_bt_x, if_neg (by omega)]
theorem mv_pc_fl {g d : Nat} (hg : g.testBit d = true) : ∀ n, d < n → mq_pc (g ^^^ 2 ^ d) n + 1 = mq_pc g n
  | 0, h => by omega
  | n + 1, h => by
    rw [mq_pc, mq_pc, mv_bt_x]
    by_cases q : n = d
    · subst q
      rw [mv_pc_lo n (Nat.le_refl _), if_pos rfl, mq_bt_tb, if_pos hg]
    · have := mv_pc_fl hg n (by omega)
      rw [if_neg q]
      omega
abbrev mv_ux (cs : mv_CS) (x : Nat) : mv_CS := (mv_to cs, mv_ag cs, mv_in cs, mv_ow cs, mv_mn cs, x)
abbrev mv_ui (cs : mv_CS) (c v : Nat) : mv_CS := (mv_to cs, mv_ag cs, fun j => if j = c then v else mv_in cs j, mv_ow cs, mv_mn cs, mv_x cs)
theorem mv_rC.ux {M : mj_M} {r x : Nat} {cs : mv_CS} (h : mv_rC M r cs) : mv_rC (mj_st M r 111 (nI x)) r (mv_ux cs x) := by
  refine ⟨fun a ha => ?_, fun a ha ta => ⟨?_, ?_⟩, fun a b ha hb => ?_, ?_, ?_⟩
  · rw [mq_st_ne (by omega)]; exact h.1 a ha
  · rw [mq_st_ne (by omega)]; exact (h.2.1 a ha ta).1
  · rw [mq_st_ne (by omega)]; exact (h.2.1 a ha ta).2
  · rw [mq_st_ne (by omega)]; exact h.2.2.1 a b ha hb
  · rw [mq_st_ne (by omega)]; exact h.2.2.2.1
  · rw [mq_st_eq]
theorem mv_cC.ux {M : mj_M} {b x : Nat} {cs : mv_CS} (h : mv_cC M b cs) : mv_cC (mj_st M b 8 (nI x)) b (mv_ux cs x) := by
  refine ⟨?_, fun a ha ta => ⟨?_, ?_⟩, fun a c ha hc => ?_, ?_, ?_⟩
  · rw [mq_st_ne (by omega)]; exact h.1
  · rw [mq_st_ne (by omega)]; exact (h.2.1 a ha ta).1
  · rw [mq_st_ne (by omega)]; exact (h.2.1 a ha ta).2
  · rw [mq_st_ne (by omega)]; exact h.2.2.1 a c ha hc
  · rw [mq_st_ne (by omega)]; exact h.2.2.2.1
  · rw [mq_st_eq]
theorem mv_wC.ux {mo : Nat → Option Nat} {x : Nat} {cs : mv_CS} (h : mv_wC mo cs) (hx : x ≤ 65535) : mv_wC mo (mv_ux cs x) := ⟨h.1, h.2.1, h.2.2.1, hx⟩
theorem mv_rC.ui {M : mj_M} {r c v : Nat} {cs : mv_CS} (h : mv_rC M r cs) (hc : c < 10) : mv_rC (mj_st M r (20 + c) (nI v)) r (mv_ui cs c v) := by
  refine ⟨fun a ha => ?_, fun a ha ta => ⟨?_, ?_⟩, fun a b ha hb => ?_, ?_, ?_⟩
  · rw [mq_st_ne (by omega)]; exact h.1 a ha
  · rw [mq_st_ne (by omega)]; exact (h.2.1 a ha ta).1
  · show _ = nI (if a = c then v else mv_in cs a)
    by_cases q : a = c
    · rw [if_pos q, q, mq_st_eq]
    · rw [if_neg q, mq_st_ne (by omega)]; exact (h.2.1 a ha ta).2
  · rw [mq_st_ne (by omega)]; exact h.2.2.1 a b ha hb
  · rw [mq_st_ne (by omega)]; exact h.2.2.2.1
  · rw [mq_st_ne (by omega)]; exact h.2.2.2.2
theorem mv_cC.ui {M : mj_M} {b c v : Nat} {cs : mv_CS} (h : mv_cC M b cs) : mv_cC (mj_st M (b + 2) c (nI v)) b (mv_ui cs c v) := by
  refine ⟨?_, fun a ha ta => ⟨?_, ?_⟩, fun a c ha hc => ?_, ?_, ?_⟩
  · rw [mq_st_ne (by omega)]; exact h.1
  · rw [mq_st_ne (by omega)]; exact (h.2.1 a ha ta).1
  · show _ = nI (if a = c then v else mv_in cs a)
    by_cases q : a = c
    · rw [if_pos q, q, mq_st_eq]
    · rw [if_neg q, mq_st_ne (by omega)]; exact (h.2.1 a ha ta).2
  · rw [mq_st_ne (by omega)]; exact h.2.2.1 a c ha hc
  · rw [mq_st_ne (by omega)]; exact h.2.2.2.1
  · rw [mq_st_ne (by omega)]; exact h.2.2.2.2
theorem mv_wC.ui {mo : Nat → Option Nat} {c v : Nat} {cs : mv_CS} (h : mv_wC mo cs) (hv : v ≤ 9999) : mv_wC mo (mv_ui cs c v) := ⟨fun a ta => ⟨(h.1 a ta).1, by
  show (if a = c then v else mv_in cs a) ≤ 9999
  split
  · exact hv
  · exact (h.1 a ta).2⟩, h.2.1, h.2.2⟩
theorem mv_fm_uf (mo : Nat → Option Nat) (cs : mv_CS) (c k g a b : Nat) : mv_fm mo (mv_uf cs c k g) a b = if a = c ∧ b = k then g else mv_fm mo cs a b := by
  unfold mv_fm
  show (match (if a = c ∧ b = k then some g else mv_ow cs a b) with
    | some g => g
    | none => (mo b).getD 0) = _
  split <;> (split <;> simp_all)
theorem mv_fS_uo {mo : Nat → Option Nat} {cs : mv_CS} {c k g a : Nat} : ∀ n, (a ≠ c ∨ n ≤ k) → mv_fS mo (mv_uf cs c k g) a n = mv_fS mo cs a n
  | 0, _ => rfl
  | n + 1, h => by
    rw [mv_fS, mv_fS, mv_fS_uo n (by omega), mv_fm_uf, if_neg (by omega)]
theorem mv_fS_uk {mo : Nat → Option Nat} {cs : mv_CS} {c k g m : Nat} (hm : mo k = some m) : ∀ n, k < n → mv_fS mo (mv_uf cs c k g) c n + mq_pc (mv_fm mo cs c k ^^^ m) 25 = mv_fS mo cs c n + mq_pc (g ^^^ m) 25
  | 0, h => by omega
  | n + 1, h => by
    rw [mv_fS, mv_fS, mv_fm_uf]
    by_cases q : n = k
    · subst q
      rw [mv_fS_uo n (Or.inr (Nat.le_refl _)), if_pos ⟨rfl, rfl⟩, hm]
      dsimp only
      omega
    · have := mv_fS_uk (g := g) (cs := cs) (c := c) hm n (by omega)
      rw [if_neg (by omega)]
      omega
theorem mv_fl_uo {mo : Nat → Option Nat} {cs : mv_CS} {c k g a : Nat} (h : a ≠ c) : mv_fl mo (mv_uf cs c k g) a = mv_fl mo cs a := mv_fS_uo 8 (Or.inl h)
theorem mv_fl_me {mo : Nat → Option Nat} {cs : mv_CS} {c k m d : Nat} (hm : mo k = some m) (hk : k < 8) (hd : d < 25) (hb : (mv_fm mo cs c k ^^^ m).testBit d = true) : mv_fl mo (mv_uf cs c k (mv_fm mo cs c k ^^^ 2 ^ d)) c + 1 = mv_fl mo cs c := by
  have h1 := mv_fS_uk (g := mv_fm mo cs c k ^^^ 2 ^ d) (cs := cs) (c := c) hm 8 hk
  have h2 := mv_pc_fl hb 25 hd
  rw [show mv_fm mo cs c k ^^^ m ^^^ 2 ^ d = mv_fm mo cs c k ^^^ 2 ^ d ^^^ m from by rw [Nat.xor_assoc, Nat.xor_comm m, ← Nat.xor_assoc]] at h2
  unfold mv_fl
  omega
def mv_dr (x : Nat) : Nat := (25173 * x + 13849) % 65536
theorem mv_dr_le (x : Nat) : mv_dr x ≤ 65535 := by unfold mv_dr; omega
theorem c_draw {sl d b x : Nat} {M : mj_M} (hb : mj_ocl b = 0) (h : M b 8 = nI x) (hx : x ≤ 65535) : mj_C sl d i_X1_draw [.ref b] M = some (nI (mv_dr x % 10), mj_st M b 8 (nI (mv_dr x))) := by
  have e : (25173 : Int32) * nI x + 13849 &&& 65535 = nI (mv_dr x) := by
    rw [s_Lmul, s_addL, pk_andN (by omega) 16 (by decide)]
    rfl
  have := mv_dr_le x
  rw [b_X1_draw hb, h, e, mq_st_eq, s_rmL (by omega) (by decide) (by decide)]
theorem r_draws {sl d x : Nat} {M : mj_M} (h : M 46 111 = nI x) (hx : x ≤ 65535) : mj_C sl d i_X9_draws [.ref 45] M = some (nI (mv_dr x % 10), mj_st M 46 111 (nI (mv_dr x))) := by
  have e : mj_rm ((25173 : Int32) * nI x + 13849) 65536 = nI (mv_dr x) := by
    rw [s_Lmul, s_addL, s_rmL (by omega) (by decide) (by decide)]
    rfl
  have := mv_dr_le x
  rw [b_X9_draws, h, e, mq_st_eq, s_rmL (by omega) (by decide) (by decide)]
