abbrev mv_CS : Type := (Nat → Bool) × (Nat → Nat) × (Nat → Nat) × (Nat → Nat → Option Nat) × Nat × Nat
abbrev mv_to (cs : mv_CS) : Nat → Bool := cs.1
abbrev mv_ag (cs : mv_CS) : Nat → Nat := cs.2.1
abbrev mv_in (cs : mv_CS) : Nat → Nat := cs.2.2.1
abbrev mv_ow (cs : mv_CS) : Nat → Nat → Option Nat := cs.2.2.2.1
abbrev mv_mn (cs : mv_CS) : Nat := cs.2.2.2.2.1
abbrev mv_x (cs : mv_CS) : Nat := cs.2.2.2.2.2
def mv_oi (o : Option Nat) : Int32 := match o with
  | none => -1
  | some g => nI g
def mv_bits (f : Nat → Bool) : Nat → Nat
  | 0 => 0
  | n + 1 => mv_bits f n + (if f n then 2 ^ n else 0)
theorem mv_bits_lt (f : Nat → Bool) : ∀ n, mv_bits f n < 2 ^ n
  | 0 => Nat.one_pos
  | n + 1 => by
    have h := mv_bits_lt f n
    rw [mv_bits, Nat.pow_succ]
    split <;> omega
theorem mv_bits_bt (f : Nat → Bool) {n j : Nat} (hj : j < n) : mq_bt (mv_bits f n) j = if f j then 1 else 0 := by
  induction n with
  | zero => omega
  | succ n ih =>
    have hl := mv_bits_lt f n
    rw [mq_bt_tb, mv_bits]
    by_cases hjn : j = n
    · subst hjn
      split
      · next hf =>
        rw [Nat.add_comm, show 2 ^ j + mv_bits f j = 2 ^ j * 1 + mv_bits f j from by omega, Nat.testBit_two_pow_mul_add _ hl, if_neg (show ¬ j < j by omega), Nat.sub_self]
        simp [hf]
      · next hf =>
        rw [Nat.add_zero, Nat.testBit_lt_two_pow hl]
        simp [hf]
    · have hjn2 : j < n := by omega
      rw [← ih hjn2, mq_bt_tb]
      split
      · rw [Nat.add_comm, show 2 ^ n + mv_bits f n = 2 ^ n * 1 + mv_bits f n from by omega, Nat.testBit_two_pow_mul_add _ hl, if_pos hjn2]
      · rw [Nat.add_zero]
def mv_rM (M : mj_M) (mo : Nat → Option Nat) : Prop := ∀ k, k < 8 → M 49 k = mv_oi (mo k)
def mv_cM (M : mj_M) (mo : Nat → Option Nat) : Prop := M 1 1 = nI (mv_bits (fun k => (mo k).isSome) 8) ∧ ∀ k g, k < 8 → mo k = some g → M 2 k = nI g
def mv_wM (mo : Nat → Option Nat) : Prop := ∀ k g, mo k = some g → g < 2 ^ 25
def mv_rC (M : mj_M) (r : Nat) (cs : mv_CS) : Prop := (∀ c, c < 10 → M r c = if mv_to cs c then 1 else 0) ∧ (∀ c, c < 10 → mv_to cs c = true → M r (10 + c) = nI (mv_ag cs c) ∧ M r (20 + c) = nI (mv_in cs c)) ∧ (∀ c k, c < 10 → k < 8 → M r (30 + 8 * c + k) = mv_oi (mv_ow cs c k)) ∧ M r 110 = nI (mv_mn cs) ∧ M r 111 = nI (mv_x cs)
def mv_cC (M : mj_M) (b : Nat) (cs : mv_CS) : Prop := M b 6 = nI (mv_bits (mv_to cs) 10) ∧ (∀ c, c < 10 → mv_to cs c = true → M (b + 1) c = nI (mv_ag cs c) ∧ M (b + 2) c = nI (mv_in cs c)) ∧ (∀ c k, c < 10 → k < 8 → M (b + 3) (8 * c + k) = mv_oi (mv_ow cs c k)) ∧ M b 7 = nI (mv_mn cs) ∧ M b 8 = nI (mv_x cs)
def mv_wC (mo : Nat → Option Nat) (cs : mv_CS) : Prop := (∀ c, mv_to cs c = true → mv_ag cs c ≤ 99 ∧ mv_in cs c ≤ 9999) ∧ (∀ c k g, mv_ow cs c k = some g → g < 2 ^ 25 ∧ (mo k).isSome = true) ∧ mv_mn cs ≤ 9999 ∧ mv_x cs ≤ 65535
def mv_fm (mo : Nat → Option Nat) (cs : mv_CS) (c k : Nat) : Nat := match mv_ow cs c k with
  | some g => g
  | none => (mo k).getD 0
theorem mv_fm_lt {mo : Nat → Option Nat} {cs : mv_CS} (hm : mv_wM mo) (hc : mv_wC mo cs) (c k : Nat) : mv_fm mo cs c k < 2 ^ 25 := by
  unfold mv_fm
  cases ho : mv_ow cs c k with
  | some g => exact (hc.2.1 c k g ho).1
  | none =>
    cases hk : mo k with
    | none => decide
    | some g => exact hm k g hk
theorem mq_1 : (1 : Int32) = nI 1 := rfl
theorem mq_out {x : Int32} {n : Nat} (hn : n < 2 ^ 31) : x < 0 ∨ nI n ≤ x ∨ ∃ j, j < n ∧ x = nI j := pk_ix x hn
section MV1
variable {sl d : Nat} {M : mj_M} {mo : Nat → Option Nat} {cs : mv_CS}
theorem r_in {x a b : Int32} : mj_C sl d i_X9_in [.int x, .int a, .int b] M = some (if x < a then 0 else if x ≤ b then 1 else 0, M) := by
  rw [b_X9_in]
  split
  · rfl
  · split <;> rfl
theorem r_isGrid {x : Int32} : mj_C sl (d + 1) i_X9_isGrid [.int x] M = some (if x < 0 then 0 else if x ≤ 33554431 then 1 else 0, M) := by
  rw [b_X9_isGrid, r_in]
  simp only [Option.bind_some]
  rw [if_pos]
  split
  · decide
  · split <;> decide
theorem c_fits {x : Int32} : mj_C sl d i_X2_fits [.int x] M = some (if x < 0 then 0 else if x ≤ 33554431 then 1 else 0, M) := by
  rw [b_X2_fits]
  split
  · rfl
  · split <;> rfl
theorem r_isLetter {k : Nat} (hm : mv_rM M mo) (hw : mv_wM mo) (hk : k < 8) : mj_C sl (d + 1) i_X9_isLetter [.ref 45, .int (nI k)] M = some (if (mo k).isSome then 1 else 0, M) := by
  rw [b_X9_isLetter, r_in]
  simp only [Option.bind_some]
  rw [if_neg (nI_pos (by omega)), if_pos (show nI k ≤ 7 from (nI_le (by omega) (by decide) : nI k ≤ nI 7)), if_neg (by decide), if_pos (mq_inT hk (by decide)), nI_clamp (by omega), hm k hk]
  cases h : mo k with
  | none => rfl
  | some g =>
    have := hw k g h
    rw [if_neg (show ¬ mv_oi (some g) = -1 from mq_neg1 (by omega))]
    rfl
theorem r_isLetter_no {x : Int32} (h : x < 0 ∨ nI 8 ≤ x) : mj_C sl (d + 1) i_X9_isLetter [.ref 45, .int x] M = some (0, M) := by
  rw [b_X9_isLetter, r_in]
  simp only [Option.bind_some]
  rw [if_pos]
  split
  · rfl
  · next h1 =>
    rcases h with h | h
    · exact absurd h h1
    · rw [if_neg]
      intro h2
      have h3 : nI 8 ≤ nI 7 := Int32.le_trans h h2
      exact absurd h3 (by decide)
theorem c_hasM {k : Nat} (hm : mv_cM M mo) (hk : k < 8) : mj_C sl d i_X5_has [.ref 1, .int (nI k)] M = some (if (mo k).isSome then 1 else 0, M) := by
  have hl := mv_bits_lt (fun k => (mo k).isSome) 8
  rw [b_X5_has, if_neg (nI_pos (by omega)), if_pos (show nI k < 8 from (nI_lt hk (by decide) : nI k < nI 8)), hm.1, mq_bit (by omega) (by omega), mv_bits_bt _ hk]
  cases h : (mo k).isSome <;> rfl
theorem c_hasM_no {x : Int32} (h : x < 0 ∨ nI 8 ≤ x) : mj_C sl d i_X5_has [.ref 1, .int x] M = some (0, M) := by
  rw [b_X5_has]
  split
  · rfl
  · next h1 =>
    rcases h with h | h
    · exact absurd h h1
    · rw [if_neg (show ¬ x < 8 from Int32.not_lt.mpr h)]
theorem r_isTold {c : Nat} (hc : mv_rC M 46 cs) (hk : c < 10) : mj_C sl (d + 1) i_X9_isTold [.ref 45, .int (nI c)] M = some (if mv_to cs c then 1 else 0, M) := by
  rw [b_X9_isTold, r_in]
  simp only [Option.bind_some]
  rw [if_neg (nI_pos (by omega)), if_pos (show nI c ≤ 9 from (nI_le (by omega) (by decide) : nI c ≤ nI 9)), if_neg (by decide), show (0 : Int32) + nI c = nI c from Int32.zero_add _, if_pos (mq_inT (by omega) (by decide)), nI_clamp (by omega), hc.1 c hk]
  cases mv_to cs c <;> rfl
theorem r_isTold_no {x : Int32} (h : x < 0 ∨ nI 10 ≤ x) : mj_C sl (d + 1) i_X9_isTold [.ref 45, .int x] M = some (0, M) := by
  rw [b_X9_isTold, r_in]
  simp only [Option.bind_some]
  rw [if_pos]
  split
  · rfl
  · next h1 =>
    rcases h with h | h
    · exact absurd h h1
    · rw [if_neg]
      intro h2
      have h3 : nI 10 ≤ nI 9 := Int32.le_trans h h2
      exact absurd h3 (by decide)
theorem c_hasC {b c : Nat} (hb : mj_ocl b = 0) (hc : mv_cC M b cs) (hk : c < 10) : mj_C sl d i_X1_has [.ref b, .int (nI c)] M = some (if mv_to cs c then 1 else 0, M) := by
  have hl := mv_bits_lt (mv_to cs) 10
  rw [b_X1_has hb, if_neg (nI_pos (by omega)), if_pos (show nI c < 10 from (nI_lt hk (by decide) : nI c < nI 10)), hc.1, mq_bit (by omega) (by omega), mv_bits_bt _ hk]
  cases h : mv_to cs c <;> rfl
theorem c_hasC_no {b : Nat} {x : Int32} (hb : mj_ocl b = 0) (h : x < 0 ∨ nI 10 ≤ x) : mj_C sl d i_X1_has [.ref b, .int x] M = some (0, M) := by
  rw [b_X1_has hb]
  split
  · rfl
  · next h1 =>
    rcases h with h | h
    · exact absurd h h1
    · rw [if_neg (show ¬ x < 10 from Int32.not_lt.mpr h)]
theorem r_own {c k : Nat} : mj_C sl d i_X9_own [.int (nI c), .int (nI k)] M = some (nI (30 + 8 * c + k), M) := by
  rw [b_X9_own, show (30 : Int32) = nI 30 from rfl, show (8 : Int32) = nI 8 from rfl, pk_mul, nI_add, nI_add]
theorem r_formNow {c k : Nat} (hm : mv_rM M mo) (hw : mv_wM mo) (hc : mv_rC M 46 cs) (hwc : mv_wC mo cs) (hc10 : c < 10) (hk : k < 8) (hk2 : (mo k).isSome = true) : mj_C sl (d + 1) i_X9_formNow [.ref 45, .int (nI c), .int (nI k)] M = some (nI (mv_fm mo cs c k), M) := by
  rw [b_X9_formNow, r_own]
  simp only [Option.bind_some]
  rw [if_pos (mq_inT (by omega) (by decide)), nI_clamp (by omega), hc.2.2.1 c k hc10 hk]
  unfold mv_fm
  cases ho : mv_ow cs c k with
  | none =>
    obtain ⟨g, hg⟩ := Option.isSome_iff_exists.mp hk2
    rw [if_pos (show mv_oi none = -1 from rfl), if_pos (mq_inT hk (by decide)), nI_clamp (by omega), hm k hk, hg]
    rfl
  | some g =>
    have := (hwc.2.1 c k g ho).1
    rw [if_neg (show ¬ mv_oi (some g) = -1 from mq_neg1 (by omega)), r_own]
    simp only [Option.bind_some]
    rw [if_pos (mq_inT (by omega) (by decide)), nI_clamp (by omega), hc.2.2.1 c k hc10 hk, ho]
    rfl
theorem c_formAt {b c k : Nat} (hb : mj_ocl b = 0) (hm : mv_cM M mo) (hc : mv_cC M b cs) (hwc : mv_wC mo cs) (hc10 : c < 10) (hk : k < 8) (hk2 : (mo k).isSome = true) : mj_C sl d i_X1_formAt [.ref b, .int (nI c), .int (nI k)] M = some (nI (mv_fm mo cs c k), M) := by
  rw [b_X1_formAt hb, show (8 : Int32) = nI 8 from rfl, pk_mul, nI_add, show c * 8 + k = 8 * c + k from by omega, if_pos (mq_inT (by omega) (by decide)), nI_clamp (by omega), hc.2.2.1 c k hc10 hk]
  unfold mv_fm
  cases ho : mv_ow cs c k with
  | none =>
    obtain ⟨g, hg⟩ := Option.isSome_iff_exists.mp hk2
    rw [if_pos (show mv_oi none = -1 from rfl), if_pos (mq_inT hk (by decide)), nI_clamp (by omega), hm.2 k g hk hg, hg]
    rfl
  | some g =>
    have := (hwc.2.1 c k g ho).1
    rw [if_neg (show ¬ mv_oi (some g) = -1 from mq_neg1 (by omega))]
    rfl
end MV1
