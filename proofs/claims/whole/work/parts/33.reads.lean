theorem mq_10 : ¬ (1 : Int32) = 0 := by decide
def mv_rdS (mo : Nat → Option Nat) (g : Nat) : Nat → Int32 × Nat
  | 0 => (-2, 1000000)
  | k + 1 => match mo k with
    | none => mv_rdS mo g k
    | some m => if (mv_rdS mo g k).2 < mq_pc (g ^^^ m) 25 then mv_rdS mo g k else (if mq_pc (g ^^^ m) 25 = (mv_rdS mo g k).2 then -2 else nI k, mq_pc (g ^^^ m) 25)
def mv_rd (mo : Nat → Option Nat) (g : Nat) : Int32 := (mv_rdS mo g 8).1
theorem mv_rdS_le (mo : Nat → Option Nat) (g : Nat) : ∀ k, (mv_rdS mo g k).2 = 1000000 ∨ (mv_rdS mo g k).2 ≤ 25
  | 0 => Or.inl rfl
  | k + 1 => by
    have ih := mv_rdS_le mo g k
    rw [mv_rdS]
    cases mo k with
    | none => exact ih
    | some m =>
      dsimp only
      split
      · exact ih
      · exact Or.inr (mq_pc_le _ 25)
theorem mv_rd_cases (mo : Nat → Option Nat) (g : Nat) : ∀ k, k ≤ 8 → (mv_rdS mo g k).1 = -2 ∨ ∃ j, j < k ∧ (mv_rdS mo g k).1 = nI j ∧ (mo j).isSome = true
  | 0, _ => Or.inl rfl
  | k + 1, hk => by
    have ih := mv_rd_cases mo g k (by omega)
    rw [mv_rdS]
    cases h : mo k with
    | none =>
      rcases ih with ih | ⟨j, h1, h2, h3⟩
      · exact Or.inl ih
      · exact Or.inr ⟨j, by omega, h2, h3⟩
    | some m =>
      dsimp only
      split
      · rcases ih with ih | ⟨j, h1, h2, h3⟩
        · exact Or.inl ih
        · exact Or.inr ⟨j, by omega, h2, h3⟩
      · split
        · exact Or.inl rfl
        · exact Or.inr ⟨k, by omega, rfl, by rw [h]; rfl⟩
section MV2
variable {sl d : Nat} {M : mj_M} {mo : Nat → Option Nat} {cs : mv_CS}
theorem r_readsAs {g : Nat} (hm : mv_rM M mo) (hw : mv_wM mo) (hg : g < 2 ^ 25) : mj_C sl (d + 2) i_X9_readsAs [.ref 45, .int (nI g)] M = some (mv_rd mo g, M) := by
  rw [b_X9_readsAs]
  have h : ∀ k, k ≤ 8 → ∀ w, mj_E sl (d + 1 + 1) i_X9_readsAs 9 [.ref 45, .int (nI g), .int (mv_rdS mo g k).1, .int (nI (mv_rdS mo g k).2), .int (nI k), w] [] M = some (mv_rd mo g, M) := mq_up (fun w => by rw [b_X9_readsAs_9, if_neg (by decide)]; rfl) (fun k hk ih w => by
    have hle := mv_rdS_le mo g k
    rw [b_X9_readsAs_9, if_pos (show nI k < 8 from (nI_lt hk (by decide) : nI k < nI 8)), r_isLetter hm hw hk]
    simp only [Option.bind_some]
    rw [mv_rdS] at ih
    cases hmk : mo k with
    | none =>
      rw [hmk] at ih
      rw [if_pos (by rfl), nI_1]
      exact ih w
    | some m =>
      rw [hmk] at ih
      dsimp only at ih
      have hm25 := hw k m hmk
      have hp := mq_pc_le (g ^^^ m) 25
      rw [if_neg (show ¬ (if (some m).isSome = true then (1 : Int32) else 0) = 0 from mq_10), if_pos (mq_inT hk (by decide)), nI_clamp (by omega), hm k hk, hmk]
      show (mj_C sl (d + 1) i_X9_bits [.int (nI g ^^^ nI m)] M).bind _ = _
      rw [mq_xor, r_bits (Nat.lt_of_lt_of_le (Nat.xor_lt_two_pow hg hm25) (by decide))]
      simp only [Option.bind_some]
      rw [nI_1]
      by_cases h1 : (mv_rdS mo g k).2 < mq_pc (g ^^^ m) 25
      · rw [if_pos h1] at ih
        rw [if_neg (fun z => absurd ((mq_le (by omega) (by omega)).mp z) (by omega))]
        exact ih _
      · rw [if_neg h1] at ih
        rw [if_pos ((mq_le (by omega) (by omega)).mpr (by omega))]
        by_cases h2 : mq_pc (g ^^^ m) 25 = (mv_rdS mo g k).2
        · rw [if_pos h2] at ih
          rw [if_pos ((mq_eq (by omega) (by omega)).mpr h2)]
          exact ih _
        · rw [if_neg h2] at ih
          rw [if_neg (fun z => h2 ((mq_eq (by omega) (by omega)).mp z))]
          exact ih _)
  exact h 0 (Nat.zero_le _) _
def mv_ls (l : Nat) : Nat := if l = 1000000 then 2147483647 else l
theorem c_nearest {g : Nat} (hm : mv_cM M mo) (hw : mv_wM mo) (hg : g < 2 ^ 25) : mj_C sl (d + 1) i_X5_nearest [.ref 1, .int (nI g)] M = some (mv_rd mo g, M) := by
  have hl := mv_bits_lt (fun k => (mo k).isSome) 8
  rw [b_X5_nearest]
  have h : ∀ k, k ≤ 8 → ∀ w, mj_E sl (d + 1) i_X5_nearest 9 [.ref 1, .int (nI g), .int (mv_rdS mo g k).1, .int (nI (mv_ls (mv_rdS mo g k).2)), .int (nI k), w] [] M = some (mv_rd mo g, M) := mq_up (fun w => by rw [b_X5_nearest_9, if_neg (by decide)]; rfl) (fun k hk ih w => by
    have hle := mv_rdS_le mo g k
    rw [b_X5_nearest_9, if_pos (show nI k < 8 from (nI_lt hk (by decide) : nI k < nI 8)), hm.1, mq_bit (by omega) (by omega), mv_bits_bt _ hk]
    rw [mv_rdS] at ih
    cases hmk : mo k with
    | none =>
      rw [hmk] at ih
      rw [if_neg (by decide), nI_1]
      exact ih w
    | some m =>
      rw [hmk] at ih
      dsimp only at ih
      have hm25 := hw k m hmk
      have hx : g ^^^ m < 2 ^ 25 := Nat.xor_lt_two_pow hg hm25
      have hp := mq_pc_le (g ^^^ m) 25
      rw [if_pos (by rfl), if_pos (mq_inT hk (by decide)), nI_clamp (by omega), hm.2 k m hk hmk, mq_xor, c_bitCount (Nat.lt_of_lt_of_le hx (by decide)), mq_pc25 hx]
      simp only [Option.bind_some]
      rw [nI_1]
      unfold mv_ls at ih ⊢
      by_cases h1 : (mv_rdS mo g k).2 < mq_pc (g ^^^ m) 25
      · rw [if_pos h1] at ih
        have h3 : ¬ (mv_rdS mo g k).2 = 1000000 := by omega
        rw [if_neg h3] at ih ⊢
        rw [if_neg (fun z => absurd ((mq_lt (by omega) (by omega)).mp z) (by omega)), if_neg (fun z => absurd ((mq_eq (by omega) (by omega)).mp z) (by omega))]
        exact ih _
      · rw [if_neg h1] at ih
        by_cases h2 : mq_pc (g ^^^ m) 25 = (mv_rdS mo g k).2
        · rw [if_pos h2] at ih
          have h3 : ¬ (mv_rdS mo g k).2 = 1000000 := by omega
          have h4 : ¬ mq_pc (g ^^^ m) 25 = 1000000 := by omega
          rw [if_neg h4] at ih
          rw [if_neg h3, if_neg (fun z => absurd ((mq_lt (by omega) (by omega)).mp z) (by omega)), if_pos ((mq_eq (by omega) (by omega)).mpr h2), ← h2]
          exact ih _
        · rw [if_neg h2] at ih
          have h4 : ¬ mq_pc (g ^^^ m) 25 = 1000000 := by omega
          rw [if_neg h4] at ih
          rw [if_pos]
          · exact ih _
          · split
            · exact (mq_lt (by omega) (by omega)).mpr (by omega)
            · exact (mq_lt (by omega) (by omega)).mpr (by omega))
  exact h 0 (Nat.zero_le _) _
end MV2
def mv_fS (mo : Nat → Option Nat) (cs : mv_CS) (c : Nat) : Nat → Nat
  | 0 => 0
  | k + 1 => mv_fS mo cs c k + (match mo k with
    | none => 0
    | some m => mq_pc (mv_fm mo cs c k ^^^ m) 25)
def mv_fl (mo : Nat → Option Nat) (cs : mv_CS) (c : Nat) : Nat := mv_fS mo cs c 8
theorem mv_fS_le (mo : Nat → Option Nat) (cs : mv_CS) (c : Nat) : ∀ k, mv_fS mo cs c k ≤ 25 * k
  | 0 => Nat.le_refl 0
  | k + 1 => by
    have ih := mv_fS_le mo cs c k
    rw [mv_fS]
    cases mo k with
    | none => dsimp only; omega
    | some m =>
      have := mq_pc_le (mv_fm mo cs c k ^^^ m) 25
      dsimp only
      omega
section MV3
variable {sl d : Nat} {M : mj_M} {mo : Nat → Option Nat} {cs : mv_CS}
theorem r_faultsOf {c : Nat} (hm : mv_rM M mo) (hw : mv_wM mo) (hc : mv_rC M 46 cs) (hwc : mv_wC mo cs) (hc10 : c < 10) : mj_C sl (d + 2) i_X9_faultsOf [.ref 45, .int (nI c)] M = some (nI (mv_fl mo cs c), M) := by
  rw [b_X9_faultsOf]
  have h : ∀ k, k ≤ 8 → mj_E sl (d + 1 + 1) i_X9_faultsOf 4 [.ref 45, .int (nI c), .int (nI (mv_fS mo cs c k)), .int (nI k)] [] M = some (nI (mv_fl mo cs c), M) := mq_up (by rw [b_X9_faultsOf_4, if_neg (by decide)]; rfl) (fun k hk ih => by
    rw [b_X9_faultsOf_4, if_pos (show nI k < 8 from (nI_lt hk (by decide) : nI k < nI 8)), r_isLetter hm hw hk]
    simp only [Option.bind_some]
    rw [mv_fS] at ih
    cases hmk : mo k with
    | none =>
      rw [hmk] at ih
      rw [if_pos (by rfl), nI_1]
      exact ih
    | some m =>
      rw [hmk] at ih
      dsimp only at ih
      rw [if_neg (show ¬ (if (some m).isSome = true then (1 : Int32) else 0) = 0 from mq_10), r_formNow hm hw hc hwc hc10 hk (by rw [hmk]; rfl)]
      simp only [Option.bind_some]
      rw [if_pos (mq_inT hk (by decide)), nI_clamp (by omega), hm k hk, hmk]
      show (mj_C sl (d + 1) i_X9_bits [.int (nI (mv_fm mo cs c k) ^^^ nI m)] M).bind _ = _
      rw [mq_xor, r_bits (Nat.lt_of_lt_of_le (Nat.xor_lt_two_pow (mv_fm_lt hw hwc c k) (hw k m hmk)) (by decide))]
      simp only [Option.bind_some]
      rw [nI_add, nI_1]
      exact ih)
  exact h 0 (Nat.zero_le _)
theorem mq_pc_self (g : Nat) : mq_pc (g ^^^ g) 25 = 0 := by
  rw [Nat.xor_self]
  decide
theorem c_faultsOf {b c : Nat} (hb : mj_ocl b = 0) (hm : mv_cM M mo) (hw : mv_wM mo) (hc : mv_cC M b cs) (hwc : mv_wC mo cs) (hc10 : c < 10) : mj_C sl (d + 1) i_X1_faultsOf [.ref b, .int (nI c)] M = some (nI (mv_fl mo cs c), M) := by
  rw [b_X1_faultsOf hb]
  have h : ∀ k, k ≤ 8 → ∀ w, mj_E sl (d + 1) i_X1_faultsOf 4 [.ref b, .int (nI c), .int (nI (mv_fS mo cs c k)), .int (nI k), w] [] M = some (nI (mv_fl mo cs c), M) := mq_up (fun w => by rw [b_X1_faultsOf_4 hb, if_neg (by decide)]; rfl) (fun k hk ih w => by
    rw [b_X1_faultsOf_4 hb, if_pos (show nI k < 8 from (nI_lt hk (by decide) : nI k < nI 8)), show (8 : Int32) = nI 8 from rfl, pk_mul, nI_add, show c * 8 + k = 8 * c + k from by omega, if_pos (mq_inT (by omega) (by decide)), nI_clamp (by omega), hc.2.2.1 c k hc10 hk]
    rw [mv_fS] at ih
    cases ho : mv_ow cs c k with
    | none =>
      rw [if_pos (show mv_oi none = -1 from rfl), nI_1]
      have e : (match mo k with
        | none => 0
        | some m => mq_pc (mv_fm mo cs c k ^^^ m) 25) = 0 := by
        cases hmk : mo k with
        | none => rfl
        | some m =>
          show mq_pc (mv_fm mo cs c k ^^^ m) 25 = 0
          have : mv_fm mo cs c k = m := by
            unfold mv_fm
            rw [ho, hmk]
            rfl
          rw [this, mq_pc_self]
      rw [e, Nat.add_zero] at ih
      exact ih _
    | some g =>
      obtain ⟨hg, hs⟩ := hwc.2.1 c k g ho
      obtain ⟨m, hmk⟩ := Option.isSome_iff_exists.mp hs
      have hm25 := hw k m hmk
      have hx : g ^^^ m < 2 ^ 25 := Nat.xor_lt_two_pow hg hm25
      have hfm : mv_fm mo cs c k = g := by
        unfold mv_fm
        rw [ho]
      rw [hmk] at ih
      dsimp only at ih
      rw [hfm] at ih
      rw [if_neg (show ¬ mv_oi (some g) = -1 from mq_neg1 (by omega)), if_pos (mq_inT hk (by decide)), nI_clamp (show k < 2 ^ 31 by omega), hm.2 k m hk hmk]
      show (mj_C sl d i_J6_bitCount_0f7a4 [.int (nI g ^^^ nI m)] M).bind _ = _
      rw [mq_xor, c_bitCount (Nat.lt_of_lt_of_le hx (by decide)), mq_pc25 hx]
      simp only [Option.bind_some]
      rw [nI_add, nI_1]
      exact ih _)
  exact h 0 (Nat.zero_le _) _
end MV3
