section MV24
variable {sl d : Nat} {M : mj_M} {mo : Nat → Option Nat} {cs : mv_CS}
def mv_bh (mo : Nat → Option Nat) (g k n l : Nat) : Prop := l ≤ 26 ∧ (∀ j m, j < n → j ≠ k → mo j = some m → l ≤ mq_pc (g ^^^ m) 25) ∧ (l = 26 ∨ ∃ j m, j < 8 ∧ j ≠ k ∧ mo j = some m ∧ l = mq_pc (g ^^^ m) 25)
theorem c_behind {g k mk : Nat} (hcm : mv_cM M mo) (hw : mv_wM mo) (hg : g < 2 ^ 25) (hk : k < 8) (hmk : mo k = some mk) : ∃ l, mv_bh mo g k 8 l ∧ mj_C sl (d + 2) i_X5_behind [.ref 1, .int (nI g), .int (nI k)] M = some (nI (mq_pc (g ^^^ mk) 25) - nI l, M) := by
  have gp : ∀ m, m < 2 ^ 25 → mj_C sl (d + 1) i_X2_gap [.int (nI g), .int (nI m)] M = some (nI (mq_pc (g ^^^ m) 25), M) := fun m hm => by
    rw [c_gap (by omega) (by omega), mq_pc25 (Nat.xor_lt_two_pow hg hm)]
  have L : ∀ n, n ≤ 8 → ∀ l, mv_bh mo g k n l → ∃ l', mv_bh mo g k 8 l' ∧ mj_E sl (d + 1 + 1) i_X5_behind 6 [.ref 1, .int (nI g), .int (nI k), .int (nI l), .int (nI n)] [] M = some (nI (mq_pc (g ^^^ mk) 25) - nI l', M) := by
    refine mq_up ?_ ?_
    · intro l hl
      refine ⟨l, hl, ?_⟩
      rw [b_X5_behind_6, if_neg (by decide)]
      simp (disch := omega) only [s_in, if_true, s_cl, hcm.2 k mk hk hmk, gp mk (hw k mk hmk), Option.bind_some]
    · intro n hn ih l hl
      obtain ⟨h1, h2, h3⟩ := id hl
      rw [b_X5_behind_6]
      simp (disch := omega) only [s_ltL, hn, if_true, s_eq, s_addL, c_hasM hcm hn, Option.bind_some, s_b0]
      by_cases c1 : n = k
      · rw [if_pos c1]
        refine ih l ⟨h1, fun j m hj => ?_, h3⟩
        by_cases q : j = n
        · intro z; exact absurd (q.trans c1) z
        · exact h2 j m (by omega)
      · rw [if_neg c1]
        cases hmn : mo n with
        | none =>
          rw [if_pos (by simp)]
          refine ih l ⟨h1, fun j m hj h4 h5 => ?_, h3⟩
          by_cases q : j = n
          · rw [q, hmn] at h5; cases h5
          · exact h2 j m (by omega) h4 h5
        | some mn =>
          have hp := mq_pc_le (g ^^^ mn) 25
          rw [if_neg (by simp)]
          simp (disch := omega) only [s_in, if_true, s_cl, hcm.2 n mn hn hmn, gp mn (hw n mn hmn), Option.bind_some]
          have em : mj_mn (nI l) (nI (mq_pc (g ^^^ mn) 25)) = nI (if mq_pc (g ^^^ mn) 25 < l then mq_pc (g ^^^ mn) 25 else l) := by
            unfold mj_mn
            simp (disch := omega) only [s_lt]
            split <;> rfl
          rw [em]
          refine ih _ ⟨by split <;> omega, fun j m hj h4 h5 => ?_, ?_⟩
          · by_cases q : j = n
            · rw [q, hmn] at h5
              injection h5 with h5
              rw [← h5]
              split <;> omega
            · have := h2 j m (by omega) h4 h5
              split <;> omega
          · split
            · exact Or.inr ⟨n, mn, by omega, c1, hmn, rfl⟩
            · exact h3
  rw [b_X5_behind]
  exact L 0 (by omega) 26 ⟨Nat.le_refl _, fun j m hj => by omega, Or.inl rfl⟩
theorem mv_far_no {g k mk l : Nat} (hk : k < 8) (hmk : mo k = some mk) (hl : mv_bh mo g k 8 l) (h : l ≤ mq_pc (g ^^^ mk) 25) {t : Nat} (ht : mq_pc t 25 ≤ (mq_pc (g ^^^ mk) 25 - l) / 2) : ¬ mv_rd mo (g ^^^ t) = nI k := by
  intro hr
  rw [mv_rd_iff hk] at hr
  obtain ⟨m, h1, h2⟩ := hr
  rw [hmk] at h1
  injection h1 with h1
  obtain ⟨l1, l2, l3⟩ := hl
  have hp := mq_pc_le (g ^^^ mk) 25
  rcases l3 with l3 | ⟨j, mj, j1, j2, j3, j4⟩
  · omega
  · have a1 := h2 j j1 j2 mj j3
    rw [← h1] at a1
    have x1 : mq_pc (g ^^^ mk) 25 ≤ mq_pc (g ^^^ t ^^^ mk) 25 + mq_pc t 25 := by
      have := mv_pc_xor (g ^^^ t ^^^ mk) t 25
      rw [show g ^^^ t ^^^ mk ^^^ t = g ^^^ mk from by
        rw [Nat.xor_assoc g t mk, Nat.xor_comm t mk, ← Nat.xor_assoc, Nat.xor_assoc, Nat.xor_self, Nat.xor_zero]] at this
      exact this
    have x2 : mq_pc (g ^^^ t ^^^ mj) 25 ≤ mq_pc (g ^^^ mj) 25 + mq_pc t 25 := by
      have := mv_pc_xor (g ^^^ mj) t 25
      rw [show g ^^^ mj ^^^ t = g ^^^ t ^^^ mj from by rw [Nat.xor_assoc, Nat.xor_comm mj t, ← Nat.xor_assoc]] at this
      exact this
    omega
theorem c_fewestDots {g k mk : Nat} (hcm : mv_cM M mo) (hw : mv_wM mo) (hg : g < 2 ^ 25) (hk : k < 8) (hmk : mo k = some mk) : ∃ m s, mv_bst (fun t => mv_rd mo (g ^^^ t) = nI k) (fun t => t < 2 ^ 25 ∧ mq_pc t 25 ≤ 3) m s ∧ mj_C sl (d + 3) i_X8_fewestDots [.ref 0, .int (nI g), .int (nI k)] M = some (if m = 4 then -2 else nI s, M) := by
  obtain ⟨l, hl, e⟩ := c_behind (sl := sl) (d := d) hcm hw hg hk hmk
  have hp := mq_pc_le (g ^^^ mk) 25
  have hl26 := hl.1
  rw [b_X8_fewestDots, e]
  simp only [Option.bind_some]
  by_cases c1 : mq_pc (g ^^^ mk) 25 < l
  · refine ⟨0, 0, Or.inr ⟨by omega, by decide, ?_, by decide, fun t _ _ => by omega⟩, ?_⟩
    · refine (mv_rd_iff hk).mpr ?_
      refine ⟨mk, hmk, fun j hj hjk m' h5 => ?_⟩
      rw [Nat.xor_zero]
      have := hl.2.1 j m' hj hjk h5
      omega
    · rw [if_pos (pk_sneg (by omega) c1), if_neg (by decide)]
      rfl
  · rw [pk_sub (by omega), if_neg (nI_pos (by omega)), show (2 : Int32) = nI 2 from rfl, pk_div (by omega) (by decide) (by decide), nI_1]
    have L : ∀ n m, m + n = 14 → 1 ≤ m → (∀ t, t < 2 ^ 25 → mq_pc t 25 < m → ¬ mv_rd mo (g ^^^ t) = nI k) → ∀ w3 w5 : Value, ∃ m' s, mv_bst (fun t => mv_rd mo (g ^^^ t) = nI k) (fun t => t < 2 ^ 25 ∧ mq_pc t 25 ≤ 3) m' s ∧ mj_E sl (d + 2 + 1) i_X8_fewestDots 23 [.ref 0, .int (nI g), .int (nI k), w3, .int (nI m), w5] [] M = some (if m' = 4 then -2 else nI s, M) := by
      intro n
      induction n with
      | zero =>
        intro m hm h1 hno w3 w5
        refine ⟨4, 0, Or.inl ⟨rfl, fun t ht => hno t ht.1 (by omega)⟩, ?_⟩
        rw [b_X8_fewestDots_23]
        simp (disch := omega) only [s_leL, show ¬ m ≤ 3 from by omega, if_false, if_true]
      | succ n ih =>
        intro m hm h1 hno w3 w5
        rw [b_X8_fewestDots_23]
        by_cases h3 : m ≤ 3
        · obtain ⟨r, er, sr⟩ := c_leastDots (sl := sl) (d := d) (M := M) hcm hw hg hk h1 h3
          simp (disch := omega) only [s_leL, h3, if_true, er, Option.bind_some, s_addL]
          rcases sr with ⟨r1, r2⟩ | ⟨s, r1, ⟨r2, r3⟩, r4, r5⟩
          · rw [if_pos r1]
            refine ih (m + 1) (by omega) (by omega) (fun t t25 ht => ?_) w3 _
            by_cases q : mq_pc t 25 < m
            · exact hno t t25 q
            · exact r2 t ⟨t25, by omega⟩
          · have : ¬ r = -2 := by rw [r1, s_m2 (by omega)]; exact id
            rw [if_neg this]
            refine ⟨m, s, Or.inr ⟨h3, r2, r4, r3, fun t ht hwt => ?_⟩, ?_⟩
            · by_cases q : mq_pc t 25 < m
              · exact absurd hwt (hno t ht.1 q)
              · by_cases q2 : mq_pc t 25 = m
                · exact Or.inr ⟨q2.symm, r5 t ⟨ht.1, q2⟩ hwt⟩
                · exact Or.inl (by omega)
            · rw [if_neg (by omega), r1]
        · refine ⟨4, 0, Or.inl ⟨rfl, fun t ht => hno t ht.1 (by omega)⟩, ?_⟩
          simp (disch := omega) only [s_leL, h3, if_false, if_true]
    exact L (14 - ((mq_pc (g ^^^ mk) 25 - l) / 2 + 1)) _ (by omega) (by omega) (fun t _ ht => mv_far_no hk hmk hl (by omega) (by omega)) _ _
theorem p_another {x y z : Int32} (B : mv_B M mo cs) : ∃ v M2, mj_C sl (d + 4) i_X8_another [.ref 0, .int x, .int y, .int z] M = some (v, M) ∧ mj_C sl (d + 4) i_X9_another [.ref 45, .int x, .int y, .int z] M = some (v, M2) ∧ mv_fr mv_Sc M M2 := by
  obtain ⟨hm, hcm, hw, hr, hc, hwc⟩ := B
  rcases mv_gr_cases x with ⟨-, e⟩ | ⟨g, hg, rfl, e⟩
  · refine ⟨-1, M, ?_, ?_, mv_fr.rf⟩
    · rw [b_X8_another, c_fits, e]; rfl
    · rw [b_X9_another, r_isGrid, e]; rfl
  rcases mv_letE y hm hcm hw with ⟨h1, h2⟩ | ⟨k, hk, rfl, hk2, h1, h2⟩
  · refine ⟨-1, M, ?_, ?_, mv_fr.rf⟩
    · rw [b_X8_another, c_fits, e]
      simp only [Option.bind_some, s_10, if_false, h1, if_true]
    · rw [b_X9_another, r_isGrid, e]
      simp only [Option.bind_some, s_10, if_false, h2, if_true]
  by_cases z0 : z < 0
  · refine ⟨-1, M, ?_, ?_, mv_fr.rf⟩
    · rw [b_X8_another, c_fits, e]
      simp only [Option.bind_some, s_10, if_false, h1, if_true, z0]
    · rw [b_X9_another, r_isGrid, e]
      simp only [Option.bind_some, s_10, if_false, h2, if_true, r_in, z0]
  by_cases z1 : z ≤ 1
  · obtain ⟨mk, hmk⟩ := Option.isSome_iff_exists.mp hk2
    obtain ⟨M2, V, m, s, e2, f2, b2, v2⟩ := r_another (sl := sl) (d := d) hm hw hg hk hk2 ⟨z0, z1⟩
    obtain ⟨m1, s1, b1, e1⟩ := c_fewestDots (sl := sl) (d := d) (M := M) hcm hw hg hk hmk
    obtain ⟨u1, u2⟩ := b1.un b2 (fun t a b => ⟨a, b⟩) v2
    refine ⟨_, M2, ?_, e2, f2.wk (fun a k q => by unfold mv_Q4 at q; unfold mv_Sc; omega)⟩
    rw [b_X8_another, c_fits, e]
    simp only [Option.bind_some, s_10, if_false, h1, if_true, z0, z1, e1]
    by_cases q : m = 4
    · have q1 : m1 = 4 := by omega
      rw [if_pos q, if_pos q1, if_pos rfl]
    · have hb := b1.le
      have q1 : ¬ m1 = 4 := by omega
      have es := u2 (by omega)
      rw [if_neg q, if_neg q1, es]
      rcases b2 with ⟨c1, -⟩ | ⟨c1, c2, c3, c4, -⟩
      · exact absurd c1 q
      · have n2 : ¬ nI s = -2 := by rw [s_m2 (by omega)]; exact id
        rw [if_neg n2]
        by_cases q2 : z = 0
        · rw [q2, if_neg (by decide), if_pos rfl, c_bitCount (by omega), mq_pc25 c2, c4]
          rfl
        · have z2 : z = 1 := by
            obtain ⟨j, hj, rfl⟩ := nI_of2 (n := 1) (by decide) z0 z1
            have : j = 0 ∨ j = 1 := by omega
            rcases this with rfl | rfl
            · exact absurd rfl q2
            · rfl
          rw [if_pos z2, if_neg q2]
  · refine ⟨-1, M, ?_, ?_, mv_fr.rf⟩
    · rw [b_X8_another, c_fits, e]
      simp only [Option.bind_some, s_10, if_false, h1, if_true, z0, z1]
    · rw [b_X9_another, r_isGrid, e]
      simp only [Option.bind_some, s_10, if_false, h2, if_true, r_in, z0, z1]
end MV24
