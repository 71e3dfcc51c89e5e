def mq_s1 (m g : Nat) : Nat := g - ((g / 2) &&& m)
def mq_s2 (m a : Nat) : Nat := (a &&& m) + ((a / 4) &&& m)
def mq_s3 (m b : Nat) : Nat := (b + b / 16) &&& m
theorem mq_low {k x c e : Nat} (hc : c < 2 ^ k) (he : e < 2 ^ k) : (2 ^ k * x + c) &&& e = c &&& e := by
  have h := mq_and_split (k := k) (a := x) (b := c) (c := 0) (e := e) hc he
  rw [Nat.mul_zero, Nat.zero_add, Nat.and_zero, Nat.mul_zero, Nat.zero_add] at h
  exact h
theorem mq_s1_step (m h b : Nat) (hb : b < 256) : mq_s1 (256 * m + 85) (256 * h + b) = 256 * mq_s1 m h + mq_s1 85 b := by
  unfold mq_s1
  have e1 : (256 * h + b) / 2 = 2 ^ 8 * (h / 2) + (128 * (h % 2) + b / 2) := by omega
  have e2 : ((256 * h + b) / 2) &&& (256 * m + 85) = 256 * ((h / 2) &&& m) + ((b / 2) &&& 85) := by
    rw [e1]
    have := mq_and_split (k := 8) (a := h / 2) (b := 128 * (h % 2) + b / 2) (c := m) (e := 85) (by omega) (by decide)
    rw [show (256 : Nat) = 2 ^ 8 from rfl, this]
    congr 1
    exact mq_low (k := 7) (by omega) (by decide)
  have h1 : (h / 2) &&& m ≤ h := Nat.le_trans Nat.and_le_left (Nat.div_le_self _ _)
  have h2 : (b / 2) &&& 85 ≤ b := Nat.le_trans Nat.and_le_left (Nat.div_le_self _ _)
  rw [e2]
  omega
theorem mq_s2_step (m a c : Nat) (hc : c < 256) : mq_s2 (256 * m + 51) (256 * a + c) = 256 * mq_s2 m a + mq_s2 51 c := by
  unfold mq_s2
  have e1 : (256 * a + c) / 4 = 2 ^ 8 * (a / 4) + (64 * (a % 4) + c / 4) := by omega
  have e2 : ((256 * a + c) / 4) &&& (256 * m + 51) = 256 * ((a / 4) &&& m) + ((c / 4) &&& 51) := by
    rw [e1]
    have := mq_and_split (k := 8) (a := a / 4) (b := 64 * (a % 4) + c / 4) (c := m) (e := 51) (by omega) (by decide)
    rw [show (256 : Nat) = 2 ^ 8 from rfl, this]
    congr 1
    exact mq_low (k := 6) (by omega) (by decide)
  have e3 : (256 * a + c) &&& (256 * m + 51) = 256 * (a &&& m) + (c &&& 51) := mq_and_split (k := 8) (by omega) (by decide)
  rw [e2, e3]
  omega
theorem mq_s3_step (m b c : Nat) (hb : b % 16 ≤ 4) (hc : c ≤ 68) : mq_s3 (256 * m + 15) (256 * b + c) = 256 * mq_s3 m b + mq_s3 15 c := by
  unfold mq_s3
  have e1 : 256 * b + c + (256 * b + c) / 16 = 2 ^ 8 * (b + b / 16) + (16 * (b % 16) + (c + c / 16)) := by omega
  rw [e1]
  have := mq_and_split (k := 8) (a := b + b / 16) (b := 16 * (b % 16) + (c + c / 16)) (c := m) (e := 15) (by omega) (by decide)
  rw [show (256 : Nat) = 2 ^ 8 from rfl, this]
  congr 1
  have h1 : ∀ x : Nat, x &&& 15 = x % 16 := fun x => Nat.and_two_pow_sub_one_eq_mod x 4
  rw [h1, h1]
  omega
theorem mq_byte : ∀ b, b < 256 → mq_s1 85 b < 256 ∧ mq_s2 51 (mq_s1 85 b) ≤ 68 ∧ mq_s2 51 (mq_s1 85 b) % 16 ≤ 4 ∧ mq_s3 15 (mq_s2 51 (mq_s1 85 b)) = mq_pc b 8 := by decide +kernel
def mq_sw (m5 m3 mf g : Nat) : Nat := mq_s3 mf (mq_s2 m3 (mq_s1 m5 g))
theorem mq_sw_step (m5 m3 mf h b : Nat) (hb : b < 256) (hh : mq_s2 m3 (mq_s1 m5 h) % 16 ≤ 4) : mq_sw (256 * m5 + 85) (256 * m3 + 51) (256 * mf + 15) (256 * h + b) = 256 * mq_sw m5 m3 mf h + mq_pc b 8 ∧ mq_s2 (256 * m3 + 51) (mq_s1 (256 * m5 + 85) (256 * h + b)) % 16 ≤ 4 := by
  obtain ⟨h1, h2, h3, h4⟩ := mq_byte b hb
  unfold mq_sw
  rw [mq_s1_step _ _ _ hb, mq_s2_step _ _ _ h1, mq_s3_step _ _ _ hh h2, h4]
  exact ⟨rfl, by omega⟩
theorem mq_bt_lo {h b j : Nat} (hb : b < 256) (hj : j < 8) : mq_bt (256 * h + b) j = mq_bt b j := by
  rw [mq_bt_tb, mq_bt_tb, show (256 : Nat) = 2 ^ 8 from rfl, Nat.testBit_two_pow_mul_add _ hb, if_pos hj]
theorem mq_bt_hi {h b j : Nat} (hb : b < 256) : mq_bt (256 * h + b) (8 + j) = mq_bt h j := by
  rw [mq_bt_tb, mq_bt_tb, show (256 : Nat) = 2 ^ 8 from rfl, Nat.testBit_two_pow_mul_add _ hb, if_neg (show ¬ 8 + j < 8 by omega), show 8 + j - 8 = j from by omega]
theorem mq_pc_lo {h b : Nat} (hb : b < 256) : ∀ n, n ≤ 8 → mq_pc (256 * h + b) n = mq_pc b n
  | 0, _ => rfl
  | n + 1, hn => by rw [mq_pc, mq_pc, mq_pc_lo hb n (by omega), mq_bt_lo hb (by omega)]
theorem mq_pc_hi {h b : Nat} (hb : b < 256) : ∀ n, mq_pc (256 * h + b) (8 + n) = mq_pc b 8 + mq_pc h n
  | 0 => mq_pc_lo hb 8 (Nat.le_refl 8)
  | n + 1 => by
    show mq_pc (256 * h + b) (8 + n) + mq_bt (256 * h + b) (8 + n) = mq_pc b 8 + (mq_pc h n + mq_bt h n)
    rw [mq_pc_hi hb n, mq_bt_hi hb]
    omega
theorem mq_sw4 {g : Nat} (hg : g < 2 ^ 32) : ∃ p0 p1 p2 p3, p0 ≤ 8 ∧ p1 ≤ 8 ∧ p2 ≤ 8 ∧ p3 ≤ 8 ∧ mq_sw 1431655765 858993459 252645135 g = p0 + 256 * p1 + 65536 * p2 + 16777216 * p3 ∧ mq_pc g 32 = p0 + p1 + p2 + p3 := by
  obtain ⟨b0, b1, b2, b3, h0, h1, h2, h3, e⟩ : ∃ b0 b1 b2 b3, b0 < 256 ∧ b1 < 256 ∧ b2 < 256 ∧ b3 < 256 ∧ g = 256 * (256 * (256 * (256 * 0 + b3) + b2) + b1) + b0 := ⟨g % 256, g / 256 % 256, g / 65536 % 256, g / 16777216, by omega, by omega, by omega, by omega, by omega⟩
  have z : mq_s2 0 (mq_s1 0 0) % 16 ≤ 4 := by decide
  obtain ⟨a3, c3⟩ := mq_sw_step 0 0 0 0 b3 h3 z
  obtain ⟨a2, c2⟩ := mq_sw_step _ _ _ _ b2 h2 c3
  obtain ⟨a1, c1⟩ := mq_sw_step _ _ _ _ b1 h1 c2
  obtain ⟨a0, c0⟩ := mq_sw_step _ _ _ _ b0 h0 c1
  refine ⟨mq_pc b0 8, mq_pc b1 8, mq_pc b2 8, mq_pc b3 8, mq_pc_le _ 8, mq_pc_le _ 8, mq_pc_le _ 8, mq_pc_le _ 8, ?_, ?_⟩
  · rw [e, show (1431655765 : Nat) = 256 * (256 * (256 * (256 * 0 + 85) + 85) + 85) + 85 from rfl, show (858993459 : Nat) = 256 * (256 * (256 * (256 * 0 + 51) + 51) + 51) + 51 from rfl, show (252645135 : Nat) = 256 * (256 * (256 * (256 * 0 + 15) + 15) + 15) + 15 from rfl, a0, a1, a2, a3]
    have : mq_sw 0 0 0 0 = 0 := by decide
    omega
  · rw [e, show (32 : Nat) = 8 + 24 from rfl, mq_pc_hi h0, show (24 : Nat) = 8 + 16 from rfl, mq_pc_hi h1, show (16 : Nat) = 8 + 8 from rfl, mq_pc_hi h2, mq_pc_lo h3 8 (Nat.le_refl 8)]
    omega
theorem c_bitCount {sl d g : Nat} {M : mj_M} (hg : g < 2 ^ 32) : mj_C sl d i_J6_bitCount_0f7a4 [.int (nI g)] M = some (nI (mq_pc g 32), M) := by
  rw [b_J6_bitCount_0f7a4]
  obtain ⟨p0, p1, p2, p3, h0, h1, h2, h3, e1, e2⟩ := mq_sw4 hg
  have l5 : ((g / 2) &&& 1431655765) ≤ g := Nat.le_trans Nat.and_le_left (Nat.div_le_self _ _)
  have s1 : nI g - ((mj_us (nI g) 1) &&& 1431655765) = nI (mq_s1 1431655765 g) := by
    rw [show (1 : Int32) = nI 1 from rfl, mq_us hg (by decide), show (1431655765 : Int32) = nI 1431655765 from rfl, mq_and, pk_sub l5]
    rfl
  have b1 : mq_s1 1431655765 g < 2 ^ 32 := Nat.lt_of_le_of_lt (Nat.sub_le _ _) hg
  have s2 : ((nI (mq_s1 1431655765 g)) &&& 858993459) + ((mj_us (nI (mq_s1 1431655765 g)) 2) &&& 858993459) = nI (mq_s2 858993459 (mq_s1 1431655765 g)) := by
    rw [show (2 : Int32) = nI 2 from rfl, mq_us b1 (by decide), show (858993459 : Int32) = nI 858993459 from rfl, mq_and, mq_and, nI_add]
    rfl
  have b2 : mq_s2 858993459 (mq_s1 1431655765 g) < 2 ^ 32 := by
    unfold mq_s2
    have q1 : mq_s1 1431655765 g &&& 858993459 ≤ 858993459 := Nat.and_le_right
    have q2 : mq_s1 1431655765 g / 4 &&& 858993459 ≤ 858993459 := Nat.and_le_right
    omega
  have s3 : (nI (mq_s2 858993459 (mq_s1 1431655765 g)) + mj_us (nI (mq_s2 858993459 (mq_s1 1431655765 g))) 4) &&& 252645135 = nI (mq_sw 1431655765 858993459 252645135 g) := by
    rw [show (4 : Int32) = nI 4 from rfl, mq_us b2 (by decide), show (252645135 : Int32) = nI 252645135 from rfl, nI_add, mq_and]
    rfl
  rw [s1, s2, s3, e1]
  have b3 : p0 + 256 * p1 + 65536 * p2 + 16777216 * p3 < 2 ^ 32 := by omega
  rw [show (8 : Int32) = nI 8 from rfl, show (16 : Int32) = nI 16 from rfl, show (63 : Int32) = nI 63 from rfl, mq_us b3 (by decide), nI_add, mq_us (by omega) (by decide), nI_add, mq_and]
  have h63 : ∀ x : Nat, x &&& 63 = x % 64 := fun x => Nat.and_two_pow_sub_one_eq_mod x 6
  have k1 : (p0 + 256 * p1 + 65536 * p2 + 16777216 * p3) / 2 ^ 8 = p1 + 256 * p2 + 65536 * p3 := by omega
  have k2 : (p0 + 256 * p1 + 65536 * p2 + 16777216 * p3 + (p1 + 256 * p2 + 65536 * p3)) / 2 ^ 16 = p2 + p3 + 256 * p3 := by omega
  rw [h63, e2, k1, k2]
  congr 3
  omega
theorem c_gap {sl d g h : Nat} {M : mj_M} (hg : g < 2 ^ 32) (hh : h < 2 ^ 32) : mj_C sl (d + 1) i_X2_gap [.int (nI g), .int (nI h)] M = some (nI (mq_pc (g ^^^ h) 32), M) := by
  rw [b_X2_gap, mq_xor, c_bitCount (Nat.xor_lt_two_pow hg hh)]
  rfl
theorem r_bits {sl d g : Nat} {M : mj_M} (hg : g < 2 ^ 31) : mj_C sl d i_X9_bits [.int (nI g)] M = some (nI (mq_pc g 25), M) := by
  rw [b_X9_bits]
  have h : ∀ k, k ≤ 25 → mj_E sl d i_X9_bits 4 [.int (nI g), .int (nI (mq_pc g k)), .int (nI k)] [] M = some (nI (mq_pc g 25), M) := mq_up (by rw [b_X9_bits_4, if_neg (by decide)]) (fun k hk ih => by
    rw [b_X9_bits_4, if_pos (show nI k < 25 from (nI_lt hk (by decide) : nI k < nI 25)), mq_bit hg (by omega), nI_add, nI_1]
    exact ih)
  exact h 0 (Nat.zero_le _)
theorem mq_pc25 {g : Nat} (hg : g < 2 ^ 25) : mq_pc g 32 = mq_pc g 25 := mq_pc_top hg 7
