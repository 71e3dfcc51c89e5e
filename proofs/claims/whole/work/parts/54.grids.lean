def mv_orf (F : Nat → Nat) (g : Nat) : Nat → Nat
  | 0 => 0
  | n + 1 => mv_orf F g n ||| (if g.testBit n = true then F n else 0)
theorem mv_orf_tb {F : Nat → Nat} {g i : Nat} : ∀ n, (mv_orf F g n).testBit i = true ↔ ∃ j, j < n ∧ g.testBit j = true ∧ (F j).testBit i = true
  | 0 => by
    rw [mv_orf, Nat.zero_testBit]
    constructor
    · intro h; cases h
    · rintro ⟨j, h, -⟩; omega
  | n + 1 => by
    rw [mv_orf, Nat.testBit_or, Bool.or_eq_true, mv_orf_tb n]
    constructor
    · rintro (⟨j, h1, h2, h3⟩ | h)
      · exact ⟨j, by omega, h2, h3⟩
      · by_cases q : g.testBit n = true
        · rw [if_pos q] at h
          exact ⟨n, by omega, q, h⟩
        · rw [if_neg q, Nat.zero_testBit] at h
          cases h
    · rintro ⟨j, h1, h2, h3⟩
      by_cases q : j = n
      · rw [q] at h2 h3
        rw [if_pos h2]
        exact Or.inr h3
      · exact Or.inl ⟨j, by omega, h2, h3⟩
theorem mv_orf_cg {F F2 : Nat → Nat} {g : Nat} : ∀ n, (∀ j, j < n → F j = F2 j) → mv_orf F g n = mv_orf F2 g n
  | 0, _ => rfl
  | n + 1, h => by rw [mv_orf, mv_orf, mv_orf_cg n (fun j hj => h j (by omega)), h n (by omega)]
theorem mv_orf_lt {F : Nat → Nat} {g N : Nat} : ∀ n, (∀ j, j < n → F j < 2 ^ N) → mv_orf F g n < 2 ^ N
  | 0, _ => Nat.pow_pos (by decide)
  | n + 1, h => by
    rw [mv_orf]
    refine Nat.or_lt_two_pow (mv_orf_lt n (fun j hj => h j (by omega))) ?_
    split
    · exact h n (by omega)
    · exact Nat.pow_pos (by decide)
def mv_lin (f : Nat → Nat) : Prop := f 0 = 0 ∧ ∀ a b, f (a ||| b) = f a ||| f b
theorem mv_lin.orf {f : Nat → Nat} (h : mv_lin f) (g : Nat) : ∀ n, f (g % 2 ^ n) = mv_orf (fun j => f (2 ^ j)) g n
  | 0 => by rw [Nat.pow_zero, Nat.mod_one]; exact h.1
  | n + 1 => by
    have e : g % 2 ^ (n + 1) = g % 2 ^ n ||| (if g.testBit n = true then 2 ^ n else 0) := by
      apply Nat.eq_of_testBit_eq
      intro i
      rw [Nat.testBit_or, Nat.testBit_mod_two_pow, Nat.testBit_mod_two_pow]
      by_cases q : i = n
      · rw [q]
        cases hb : g.testBit n with
        | true => simp [Nat.testBit_two_pow]
        | false => simp
      · have q2 : decide (i < n + 1) = decide (i < n) := by
          by_cases z : i < n
          · simp [z]; omega
          · simp [z]; omega
        rw [q2]
        cases hb : g.testBit n with
        | true => simp [Nat.testBit_two_pow, show ¬ n = i from fun z => q z.symm]
        | false => simp
    rw [e, h.2, mv_orf, mv_lin.orf h g n]
    congr 1
    split
    · rfl
    · exact h.1
theorem mv_lin.orf2 {f : Nat → Nat} (h : mv_lin f) {g n : Nat} (hg : g < 2 ^ n) : f g = mv_orf (fun j => f (2 ^ j)) g n := by
  have := h.orf g n
  rw [Nat.mod_eq_of_lt hg] at this
  exact this
theorem mv_lin.rf : mv_lin (fun g => g) := ⟨rfl, fun _ _ => rfl⟩
theorem mv_lin.an {f : Nat → Nat} (h : mv_lin f) (m : Nat) : mv_lin (fun g => f g &&& m) := ⟨by dsimp only; rw [h.1, Nat.zero_and], fun a b => by dsimp only; rw [h.2, Nat.and_or_distrib_right]⟩
theorem mv_lin.o {f f2 : Nat → Nat} (h : mv_lin f) (h2 : mv_lin f2) : mv_lin (fun g => f g ||| f2 g) := ⟨by dsimp only; rw [h.1, h2.1]; rfl, fun a b => by
  dsimp only
  rw [h.2, h2.2]
  apply Nat.eq_of_testBit_eq
  intro i
  simp only [Nat.testBit_or]
  cases (f a).testBit i <;> cases (f b).testBit i <;> cases (f2 a).testBit i <;> cases (f2 b).testBit i <;> rfl⟩
theorem mv_lin.dv {f : Nat → Nat} (h : mv_lin f) (k : Nat) : mv_lin (fun g => f g / 2 ^ k) := ⟨by dsimp only; rw [h.1, Nat.zero_div], fun a b => by
  dsimp only
  rw [h.2]
  apply Nat.eq_of_testBit_eq
  intro i
  simp only [Nat.testBit_or, Nat.testBit_div_two_pow]⟩
theorem mv_lin.ml {f : Nat → Nat} (h : mv_lin f) (k : Nat) : mv_lin (fun g => f g * 2 ^ k) := ⟨by dsimp only; rw [h.1, Nat.zero_mul], fun a b => by
  dsimp only
  rw [h.2]
  apply Nat.eq_of_testBit_eq
  intro i
  simp only [Nat.testBit_or, Nat.testBit_mul_two_pow]
  cases (f a).testBit (i - k) <;> cases (f b).testBit (i - k) <;> cases decide (k ≤ i) <;> rfl⟩
theorem mv_lin.co {f f2 : Nat → Nat} (h : mv_lin f) (h2 : mv_lin f2) : mv_lin (fun g => f (f2 g)) := ⟨by dsimp only; rw [h2.1, h.1], fun a b => by dsimp only; rw [h2.2, h.2]⟩
def mv_tL (g : Nat) : Nat := (g &&& 4293884894) / 2 ^ 1
def mv_tR (g : Nat) : Nat := (g &&& 4277648879) * 2 ^ 1
def mv_tT (g : Nat) : Nat := g / 2 ^ 5
def mv_tB (g : Nat) : Nat := (g * 2 ^ 5) &&& 33554431
def mv_mi (g : Nat) : Nat := (g &&& 1082401) * 2 ^ 4 ||| (g &&& 2164802) * 2 ^ 2 ||| (g &&& 4329604) ||| (g &&& 8659208) / 2 ^ 2 ||| (g &&& 17318416) / 2 ^ 4
theorem mv_tL_lin : mv_lin mv_tL := (mv_lin.rf.an _).dv 1
theorem mv_tR_lin : mv_lin mv_tR := (mv_lin.rf.an _).ml 1
theorem mv_tT_lin : mv_lin mv_tT := mv_lin.rf.dv 5
theorem mv_tB_lin : mv_lin mv_tB := (mv_lin.rf.ml 5).an _
theorem mv_mi_lin : mv_lin mv_mi := (((((mv_lin.rf.an _).ml 4).o ((mv_lin.rf.an _).ml 2)).o (mv_lin.rf.an _)).o ((mv_lin.rf.an _).dv 2)).o ((mv_lin.rf.an _).dv 4)
theorem mv_linL {f : Nat → Nat} (h : mv_lin f) (hd : ∀ j, j < 25 → f (2 ^ j) < 2 ^ 25) {g : Nat} (hg : g < 2 ^ 25) : f g < 2 ^ 25 := by
  rw [h.orf2 hg]
  exact mv_orf_lt 25 hd
theorem mv_tL_lt {g : Nat} (hg : g < 2 ^ 25) : mv_tL g < 2 ^ 25 := mv_linL mv_tL_lin (by decide +kernel) hg
theorem mv_tR_lt {g : Nat} (hg : g < 2 ^ 25) : mv_tR g < 2 ^ 25 := mv_linL mv_tR_lin (by decide +kernel) hg
theorem mv_tT_lt {g : Nat} (hg : g < 2 ^ 25) : mv_tT g < 2 ^ 25 := mv_linL mv_tT_lin (by decide +kernel) hg
theorem mv_tB_lt {g : Nat} (hg : g < 2 ^ 25) : mv_tB g < 2 ^ 25 := mv_linL mv_tB_lin (by decide +kernel) hg
theorem mv_mi_lt {g : Nat} (hg : g < 2 ^ 25) : mv_mi g < 2 ^ 25 := mv_linL mv_mi_lin (by decide +kernel) hg
def mv_mF (j : Nat) : Nat := 2 ^ (5 * (j / 5) + (4 - j % 5))
def mv_tF (j : Nat) : Nat := 2 ^ (5 * (j % 5) + (4 - j / 5))
theorem mv_mi_orf {g : Nat} (hg : g < 2 ^ 25) : mv_mi g = mv_orf mv_mF g 25 := by
  rw [mv_mi_lin.orf2 hg]
  exact mv_orf_cg 25 (by decide +kernel)
theorem s_rmL {a n : Nat} (ha : a < 2147483648) (h0 : 0 < (OfNat.ofNat n : Nat)) (hn : (OfNat.ofNat n : Nat) < 2147483648) : mj_rm (nI a) (no_index (OfNat.ofNat n : Int32)) = nI (a % OfNat.ofNat n) := pk_rem ha h0 hn
theorem s_dvL {a n : Nat} (ha : a < 2147483648) (h0 : 0 < (OfNat.ofNat n : Nat)) (hn : (OfNat.ofNat n : Nat) < 2147483648) : nI a / (no_index (OfNat.ofNat n : Int32)) = nI (a / OfNat.ofNat n) := pk_div ha h0 hn
theorem s_Lsub {a n : Nat} (h : a ≤ OfNat.ofNat n) : (no_index (OfNat.ofNat n : Int32)) - nI a = nI (OfNat.ofNat n - a) := pk_sub h
section MV25
variable {sl d : Nat} {M : mj_M}
theorem c_toLeft {g : Nat} (hg : g < 2 ^ 25) : mj_C sl d i_X2_toLeft [.int (nI g)] M = some (nI (mv_tL g), M) := by
  have : g &&& 4293884894 ≤ g := Nat.and_le_left
  rw [b_X2_toLeft, show (-1082402 : Int32) = nI 4293884894 from by decide, mq_and, show (1 : Int32) = nI 1 from rfl, mq_us (by omega) (by decide)]
  rfl
theorem c_toRight {g : Nat} (hg : g < 2 ^ 25) : mj_C sl d i_X2_toRight [.int (nI g)] M = some (nI (mv_tR g), M) := by
  have : g &&& 4277648879 ≤ g := Nat.and_le_left
  rw [b_X2_toRight, show (-17318417 : Int32) = nI 4277648879 from by decide, mq_and, show (1 : Int32) = nI 1 from rfl, mq_shl (by decide) (by omega)]
  rfl
theorem c_toTop {g : Nat} (hg : g < 2 ^ 25) : mj_C sl d i_X2_toTop [.int (nI g)] M = some (nI (mv_tT g), M) := by
  rw [b_X2_toTop, show (5 : Int32) = nI 5 from rfl, mq_us (by omega) (by decide)]
  rfl
theorem c_toBottom {g : Nat} (hg : g < 2 ^ 25) : mj_C sl d i_X2_toBottom [.int (nI g)] M = some (nI (mv_tB g), M) := by
  rw [b_X2_toBottom, show (5 : Int32) = nI 5 from rfl, mq_shl (by decide) (by omega), show (33554431 : Int32) = nI 33554431 from rfl, mq_and]
  rfl
theorem c_mirrored {g : Nat} (hg : g < 2 ^ 25) : mj_C sl d i_X2_mirrored [.int (nI g)] M = some (nI (mv_mi g), M) := by
  have h1 : g &&& 1082401 ≤ g := Nat.and_le_left
  have h2 : g &&& 2164802 ≤ g := Nat.and_le_left
  have h3 : g &&& 8659208 ≤ g := Nat.and_le_left
  have h4 : g &&& 17318416 ≤ g := Nat.and_le_left
  rw [b_X2_mirrored, show (1082401 : Int32) = nI 1082401 from rfl, show (2164802 : Int32) = nI 2164802 from rfl, show (4329604 : Int32) = nI 4329604 from rfl, show (8659208 : Int32) = nI 8659208 from rfl, show (17318416 : Int32) = nI 17318416 from rfl, show (4 : Int32) = nI 4 from rfl, show (2 : Int32) = nI 2 from rfl]
  rw [mq_and, mq_and, mq_and, mq_and, mq_and, mq_shl (by decide) (by omega), mq_shl (by decide) (by omega), mq_us (by omega) (by decide), mq_us (by omega) (by decide), mq_or, mq_or, mq_or, mq_or]
  rfl
theorem r_has {g k : Nat} (hg : g < 2 ^ 31) (hk : k < 32) : mj_C sl d i_X9_has [.int (nI g), .int (nI k)] M = some (if g.testBit k = true then 1 else 0, M) := by
  rw [b_X9_has, mq_bit hg hk, mq_bt_tb]
  cases g.testBit k <;> rfl
theorem mv_orStep {F : Nat → Nat} {g k : Nat} (h : g.testBit k = true) : mv_orf F g (k + 1) = mv_orf F g k ||| F k := by rw [mv_orf, if_pos h]
theorem mv_orSkip {F : Nat → Nat} {g k : Nat} (h : ¬ g.testBit k = true) : mv_orf F g (k + 1) = mv_orf F g k := by rw [mv_orf, if_neg h, Nat.or_zero]
theorem r_mirroredOf {g : Nat} (hg : g < 2 ^ 25) : mj_C sl (d + 1) i_X9_mirroredOf [.int (nI g)] M = some (nI (mv_mi g), M) := by
  rw [mv_mi_orf hg]
  have L : ∀ k, k ≤ 25 → mj_E sl (d + 1) i_X9_mirroredOf 4 [.int (nI g), .int (nI (mv_orf mv_mF g k)), .int (nI k)] [] M = some (nI (mv_orf mv_mF g 25), M) := mq_up (by rw [b_X9_mirroredOf_4, if_neg (by decide)]) (fun k hk ih => by
    rw [b_X9_mirroredOf_4]
    simp (disch := omega) only [s_ltL, hk, if_true, r_has, Option.bind_some, s_b0, s_addL]
    by_cases q : g.testBit k = true
    · rw [mv_orStep q] at ih
      simp (disch := omega) only [q, not_true, if_false, s_rmL, s_dvL, s_Lsub, b_X9_dot, s_Lmul, nI_add, Option.bind_some, mq_one, mq_or]
      exact ih
    · rw [mv_orSkip q] at ih
      simp only [q, not_false_eq_true, if_true]
      exact ih)
  rw [b_X9_mirroredOf]
  exact L 0 (by omega)
theorem r_turnedOf {g : Nat} (hg : g < 2 ^ 25) : mj_C sl (d + 1) i_X9_turnedOf [.int (nI g)] M = some (nI (mv_orf mv_tF g 25), M) := by
  have L : ∀ k, k ≤ 25 → mj_E sl (d + 1) i_X9_turnedOf 4 [.int (nI g), .int (nI (mv_orf mv_tF g k)), .int (nI k)] [] M = some (nI (mv_orf mv_tF g 25), M) := mq_up (by rw [b_X9_turnedOf_4, if_neg (by decide)]) (fun k hk ih => by
    rw [b_X9_turnedOf_4]
    simp (disch := omega) only [s_ltL, hk, if_true, r_has, Option.bind_some, s_b0, s_addL]
    by_cases q : g.testBit k = true
    · rw [mv_orStep q] at ih
      simp (disch := omega) only [q, not_true, if_false, s_rmL, s_dvL, s_Lsub, b_X9_dot, s_Lmul, nI_add, Option.bind_some, mq_one, mq_or]
      exact ih
    · rw [mv_orSkip q] at ih
      simp only [q, not_false_eq_true, if_true]
      exact ih)
  rw [b_X9_turnedOf]
  exact L 0 (by omega)
theorem c_turned {g : Nat} (hg : g < 2 ^ 25) : mj_C sl d i_X2_turned [.int (nI g)] M = some (nI (mv_orf mv_tF g 25), M) := by
  have L : ∀ y, y ≤ 5 → ∀ w3 w4, mj_E sl d i_X2_turned 4 [.int (nI g), .int (nI (mv_orf mv_tF g (5 * y))), .int (nI y), w3, w4] [] M = some (nI (mv_orf mv_tF g 25), M) := by
    refine mq_up ?_ ?_
    · intro w3 w4
      rw [b_X2_turned_4, if_neg (by decide)]
    · intro y hy ih w3 w4
      have L2 : ∀ x, x ≤ 5 → ∀ w4, mj_E sl d i_X2_turned 11 [.int (nI g), .int (nI (mv_orf mv_tF g (5 * y + x))), .int (nI y), .int (nI x), w4] [] M = some (nI (mv_orf mv_tF g 25), M) := by
        refine mq_up ?_ ?_
        · intro w4
          rw [b_X2_turned_11, if_neg (by decide), nI_1]
          exact ih _ _
        · intro x hx ih2 w4
          rw [b_X2_turned_11]
          simp (disch := omega) only [s_ltL, hx, if_true, s_Lmul, nI_add, mq_bit, s_addL, s_subL]
          have e1 : nI (5 * x + 5 - 1) - nI y = nI (5 * x + (4 - y)) := by
            rw [pk_sub (by omega)]
            congr 1
            omega
          have hb := mq_bt_lt g (5 * y + x)
          have hp : 2 ^ (5 * x + (4 - y)) ≤ 2 ^ 24 := Nat.pow_le_pow_right (by decide) (by omega)
          have e2 : mq_bt g (5 * y + x) * 2 ^ (5 * x + (4 - y)) < 2 ^ 32 := by
            have : mq_bt g (5 * y + x) = 0 ∨ mq_bt g (5 * y + x) = 1 := by omega
            rcases this with q | q
            · rw [q]; omega
            · rw [q]; omega
          have e3 : mv_orf mv_tF g (5 * y + x) ||| mq_bt g (5 * y + x) * 2 ^ (5 * x + (4 - y)) = mv_orf mv_tF g (5 * y + (x + 1)) := by
            have ef : mv_tF (5 * y + x) = 2 ^ (5 * x + (4 - y)) := by
              unfold mv_tF
              rw [show (5 * y + x) % 5 = x from by omega, show (5 * y + x) / 5 = y from by omega]
            rw [show 5 * y + (x + 1) = (5 * y + x) + 1 from by omega, mv_orf, ef, mq_bt_tb]
            cases g.testBit (5 * y + x) <;> simp
          rw [e1, mq_shl (by omega) e2, mq_or, e3]
          exact ih2 _
      rw [b_X2_turned_4]
      simp (disch := omega) only [s_ltL, hy, if_true]
      exact L2 0 (by omega) _
  rw [b_X2_turned]
  exact L 0 (by omega) _ _
theorem mv_tF_lt {g : Nat} : mv_orf mv_tF g 25 < 2 ^ 25 := mv_orf_lt 25 (by decide +kernel)
theorem p_like {x y : Int32} : ∃ v, mj_C sl (d + 2) i_X8_like [.ref 0, .int x, .int y] M = some (v, M) ∧ mj_C sl (d + 2) i_X9_like [.ref 45, .int x, .int y] M = some (v, M) := by
  rw [b_X8_like, b_X9_like, c_fits, r_isGrid]
  simp only [Option.bind_some]
  rcases mv_gr_cases x with ⟨-, e⟩ | ⟨g, hg, rfl, e⟩
  · rw [e]
    exact ⟨-1, rfl, rfl⟩
  · rw [e, if_neg mq_10, if_neg mq_10, c_fits, r_isGrid]
    simp only [Option.bind_some]
    rcases mv_gr_cases y with ⟨-, e2⟩ | ⟨g2, hg2, rfl, e2⟩
    · rw [e2]
      exact ⟨-1, rfl, rfl⟩
    · rw [e2, if_neg mq_10, if_neg mq_10]
      have L : ∀ k, k ≤ 8 → ∀ s, s < 2 ^ 25 → ∃ v, mj_E sl (d + 1) i_X2_likeness 4 [.int (nI g), .int (nI g2), .int (nI s), .int (nI k)] [] M = some (v, M) ∧ mj_E sl (d + 1 + 1) i_X9_like 21 [.ref 45, .int (nI g), .int (nI g2), .int (nI s), .int (nI k)] [] M = some (v, M) := by
        refine mq_up ?_ ?_
        · intro s hs
          rw [b_X2_likeness_4, b_X9_like_21, if_neg (by decide), if_neg (by decide)]
          exact ⟨_, rfl, rfl⟩
        · intro k hk ih s hs
          rw [b_X2_likeness_4, b_X9_like_21]
          simp (disch := omega) only [s_ltL, hk, if_true, s_eqL, s_eq, s_addL, c_mirrored hg, r_mirroredOf hg, Option.bind_some, c_turned hs, r_turnedOf hs, c_turned (mv_mi_lt hg), r_turnedOf (mv_mi_lt hg)]
          have hmi := mv_mi_lt hg
          by_cases k4 : k = 4
          · rw [if_pos k4, if_pos k4]
            simp (disch := omega) only [s_eq]
            by_cases q : mv_mi g = g2
            · rw [if_pos q, if_pos q]
              exact ⟨_, rfl, rfl⟩
            · rw [if_neg q, if_neg q]
              exact ih _ mv_tF_lt
          · rw [if_neg k4, if_neg k4]
            by_cases q : s = g2
            · rw [if_pos q, if_pos q]
              exact ⟨_, rfl, rfl⟩
            · rw [if_neg q, if_neg q]
              exact ih _ mv_tF_lt
      obtain ⟨v, a1, a2⟩ := L 0 (by omega) g hg
      refine ⟨v, ?_, a2⟩
      have a1' : mj_E sl (d + 1) 28 4 [.int (nI g), .int (nI g2), .int (nI g), .int 0] [] M = some (v, M) := a1
      rw [b_X2_likeness, a1']
      rfl
end MV25
