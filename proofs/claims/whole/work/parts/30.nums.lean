theorem mq_up {P : Nat → Prop} {N : Nat} (h0 : P N) (hs : ∀ k, k < N → P (k + 1) → P k) : ∀ k, k ≤ N → P k := by
  intro k hk
  obtain ⟨j, hj⟩ : ∃ j, k + j = N := ⟨N - k, by omega⟩
  induction j generalizing k with
  | zero => rw [show k = N from by omega]; exact h0
  | succ j ih => exact hs k (by omega) (ih (k + 1) (by omega) (by omega))
theorem mq_sh31 : ∀ j, j < 32 → ((nI j &&& 31).toBitVec.smod 32).toNat = j := by decide +kernel
theorem mq_shr {g j : Nat} (hg : g < 2 ^ 31) (hj : j < 32) : nI g >>> (nI j &&& 31) = nI (g / 2 ^ j) := pk_shrN hg _ j (mq_sh31 j hj)
theorem mq_shl {g j : Nat} (hj : j < 32) (h : g * 2 ^ j < 2 ^ 32) : nI g <<< (nI j &&& 31) = nI (g * 2 ^ j) := pk_shlN _ j (mq_sh31 j hj) h
theorem mq_and1 {a : Nat} (h : a < 2 ^ 32) : nI a &&& 1 = nI (a % 2) := pk_andN h 1 (by decide)
theorem mq_inT {j n : Nat} (h : j < n) (hn : n ≤ 2 ^ 31) : mj_inB (nI j) n = true := by
  unfold mj_inB
  rw [nI_clamp (by omega)]
  have h1 : ¬ nI j < 0 := nI_pos (by omega)
  simp [h1]
  omega
theorem mq_lt {a b : Nat} (ha : a < 2 ^ 31) (hb : b < 2 ^ 31) : nI a < nI b ↔ a < b := nI_ltI ha hb
theorem mq_le {a b : Nat} (ha : a < 2 ^ 31) (hb : b < 2 ^ 31) : nI a ≤ nI b ↔ a ≤ b := nI_leI ha hb
theorem mq_eq {a b : Nat} (ha : a < 2 ^ 31) (hb : b < 2 ^ 31) : nI a = nI b ↔ a = b := nI_eq ha hb
theorem mq_neg1 {a : Nat} (ha : a < 2 ^ 31) : ¬ nI a = (-1) := fun h => by
  have h1 : ¬ nI a < 0 := nI_pos ha
  rw [h] at h1
  exact h1 (by decide)
theorem mq_st_eq {M : mj_M} {a k : Nat} {x : Int32} : mj_st M a k x a k = x := by
  unfold mj_st
  rw [mj_row_eq]
  unfold upd
  rw [if_pos rfl]
theorem mq_st_ne {M : mj_M} {a k b j : Nat} {x : Int32} (h : b ≠ a ∨ j ≠ k) : mj_st M a k x b j = M b j := by
  unfold mj_st
  by_cases hb : b = a
  · subst hb
    rw [mj_row_eq]
    unfold upd
    rw [if_neg (by omega)]
  · rw [mj_row_ne hb]
theorem mq_st_row {M : mj_M} {a k b : Nat} {x : Int32} (h : b ≠ a) : mj_st M a k x b = M b := mj_row_ne h
def mq_bt (g j : Nat) : Nat := g / 2 ^ j % 2
def mq_pc (g : Nat) : Nat → Nat
  | 0 => 0
  | n + 1 => mq_pc g n + mq_bt g n
theorem mq_bt_lt (g j : Nat) : mq_bt g j < 2 := Nat.mod_lt _ (by decide)
theorem mq_pc_le (g : Nat) : ∀ n, mq_pc g n ≤ n
  | 0 => Nat.le_refl 0
  | n + 1 => by
    have h1 := mq_pc_le g n
    have h2 := mq_bt_lt g n
    rw [mq_pc]
    omega
theorem mq_bit {g j : Nat} (hg : g < 2 ^ 31) (hj : j < 32) : (nI g >>> (nI j &&& 31)) &&& 1 = nI (mq_bt g j) := by
  rw [mq_shr hg hj, mq_and1 (Nat.lt_of_le_of_lt (Nat.div_le_self _ _) (by omega))]
  rfl
theorem mq_bt_0 {g n j : Nat} (h : g < 2 ^ n) (hj : n ≤ j) : mq_bt g j = 0 := by
  unfold mq_bt
  rw [Nat.div_eq_of_lt (Nat.lt_of_lt_of_le h (Nat.pow_le_pow_right (by decide) hj))]
theorem mq_pc_top {g n : Nat} (h : g < 2 ^ n) : ∀ k, mq_pc g (n + k) = mq_pc g n
  | 0 => rfl
  | k + 1 => by
    rw [show n + (k + 1) = (n + k) + 1 from rfl, mq_pc, mq_pc_top h k, mq_bt_0 h (by omega)]
    rfl
theorem mq_bt_tb (g j : Nat) : mq_bt g j = if g.testBit j then 1 else 0 := by
  unfold mq_bt
  rw [Nat.testBit_eq_decide_div_mod_eq]
  have := Nat.mod_lt (g / 2 ^ j) (show 2 > 0 by decide)
  by_cases h : g / 2 ^ j % 2 = 1
  · simp [h]
  · have h2 : g / 2 ^ j % 2 = 0 := by omega
    simp [h2]
theorem mq_xor (a b : Nat) : nI a ^^^ nI b = nI (a ^^^ b) := by
  unfold nI
  apply Int32.toBitVec_inj.mp
  simp [Int32.toBitVec_xor]
theorem mq_and (a b : Nat) : nI a &&& nI b = nI (a &&& b) := by
  unfold nI
  apply Int32.toBitVec_inj.mp
  simp [Int32.toBitVec_and]
theorem mq_or (a b : Nat) : nI a ||| nI b = nI (a ||| b) := by
  unfold nI
  apply Int32.toBitVec_inj.mp
  simp [Int32.toBitVec_or]
theorem mq_and_split {k a b c e : Nat} (hb : b < 2 ^ k) (he : e < 2 ^ k) : (2 ^ k * a + b) &&& (2 ^ k * c + e) = 2 ^ k * (a &&& c) + (b &&& e) := by
  apply Nat.eq_of_testBit_eq
  intro i
  have hbe : b &&& e < 2 ^ k := Nat.and_lt_two_pow _ he
  rw [Nat.testBit_and, Nat.testBit_two_pow_mul_add _ hb, Nat.testBit_two_pow_mul_add _ he, Nat.testBit_two_pow_mul_add _ hbe]
  split
  · rw [Nat.testBit_and]
  · rw [Nat.testBit_and]
theorem mq_us {g j : Nat} (hg : g < 2 ^ 32) (hj : j < 32) : mj_us (nI g) (nI j) = nI (g / 2 ^ j) := by
  have h : ∀ j, j < 32 → (((nI j).toUInt32 &&& Int32.toUInt32 31).toBitVec % 32).toNat = j := by decide +kernel
  exact pk_ushrN hg _ j (h j hj)
