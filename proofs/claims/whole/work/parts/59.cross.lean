def mv_bl (g e i : Nat) : Prop := (i ≤ e % 5 ∧ g.testBit (e - i) = true) ∧ (e % 5 + i ≤ 4 ∧ g.testBit (e + i) = true) ∧ (i ≤ e / 5 ∧ g.testBit (e - 5 * i) = true) ∧ (e / 5 + i ≤ 4 ∧ g.testBit (e + 5 * i) = true)
def mv_A (g e n : Nat) : Prop := ∀ i, 1 ≤ i → i ≤ n → mv_bl g e i
def mv_X (g : Nat) (v : Int32) : Prop := (v = -2 ∧ ∀ e, e < 25 → ¬ g.testBit e = true) ∨ ∃ m, v = nI m ∧ (∃ e, e < 25 ∧ g.testBit e = true ∧ mv_A g e m) ∧ ∀ e, e < 25 → g.testBit e = true → ¬ mv_A g e (m + 1)
theorem mv_A.dn {g e n m : Nat} (h : mv_A g e n) (hm : m ≤ n) : mv_A g e m := fun i h1 h2 => h i h1 (by omega)
theorem mv_X.un {g : Nat} {v v2 : Int32} (h : mv_X g v) (h2 : mv_X g v2) : v = v2 := by
  rcases h with ⟨a1, a2⟩ | ⟨m, a1, ⟨e, e1, e2, e3⟩, a3⟩ <;> rcases h2 with ⟨b1, b2⟩ | ⟨m2, b1, ⟨f, f1, f2, f3⟩, b3⟩
  · rw [a1, b1]
  · exact absurd f2 (a2 f f1)
  · exact absurd e2 (b2 e e1)
  · have p : m ≤ m2 := by
      by_cases q : m ≤ m2
      · exact q
      · exact absurd (e3.dn (by omega)) (b3 e e1 e2)
    have p2 : m2 ≤ m := by
      by_cases q : m2 ≤ m
      · exact q
      · exact absurd (f3.dn (by omega)) (a3 f f1 f2)
    rw [a1, b1, show m = m2 from by omega]
section MV30
variable {sl d : Nat} {M : mj_M}
theorem c_cross {g : Nat} (hg : g < 2 ^ 25) : ∃ v, mj_C sl (d + 1) i_X2_cross [.int (nI g)] M = some (v, M) ∧ mv_X g v := by
  have R : ∀ n, n ≤ 5 → ∀ (C L R T B : Nat) (sz : Int32), C < 2 ^ 25 → L < 2 ^ 25 → R < 2 ^ 25 → T < 2 ^ 25 → B < 2 ^ 25 → (∀ e, e < 25 → (C.testBit e = true ↔ g.testBit e = true ∧ mv_A g e n)) → (∀ e, e < 25 → (L.testBit e = true ↔ e % 5 + n ≤ 4 ∧ g.testBit (e + n) = true)) → (∀ e, e < 25 → (R.testBit e = true ↔ n ≤ e % 5 ∧ g.testBit (e - n) = true)) → (∀ e, e < 25 → (T.testBit e = true ↔ e / 5 + n ≤ 4 ∧ g.testBit (e + 5 * n) = true)) → (∀ e, e < 25 → (B.testBit e = true ↔ n ≤ e / 5 ∧ g.testBit (e - 5 * n) = true)) → (n = 0 ∧ sz = -2 ∨ 1 ≤ n ∧ sz = nI (n - 1) ∧ ∃ e, e < 25 ∧ g.testBit e = true ∧ mv_A g e (n - 1)) → ∃ v, mj_E sl (d + 1) i_X2_cross 19 [.int (nI g), .int (nI C), .int (nI L), .int (nI R), .int (nI T), .int (nI B), .int sz, .int (nI n)] [] M = some (v, M) ∧ mv_X g v := by
    have fin : ∀ n (C : Nat) (sz : Int32), (∀ e, e < 25 → (C.testBit e = true ↔ g.testBit e = true ∧ mv_A g e n)) → (n = 0 ∧ sz = -2 ∨ 1 ≤ n ∧ sz = nI (n - 1) ∧ ∃ e, e < 25 ∧ g.testBit e = true ∧ mv_A g e (n - 1)) → (∀ e, e < 25 → ¬ C.testBit e = true) → mv_X g sz := by
      intro n C sz hC hsz hz
      rcases hsz with ⟨h1, h2⟩ | ⟨h1, h2, h3⟩
      · refine Or.inl ⟨h2, fun e he hge => hz e he ((hC e he).mpr ⟨hge, fun i i1 i2 => ?_⟩)⟩
        omega
      · refine Or.inr ⟨n - 1, h2, h3, fun e he hge hA => hz e he ((hC e he).mpr ⟨hge, ?_⟩)⟩
        rw [show n - 1 + 1 = n from by omega] at hA
        exact hA
    refine mq_up ?_ ?_
    · intro C L R T B sz hC hL hR hT hB iC iL iR iT iB isz
      refine ⟨sz, ?_, fin 5 C sz iC isz (fun e he hCe => ?_)⟩
      · rw [b_X2_cross_19, if_neg (by decide)]
      · have := ((iC e he).mp hCe).2 5 (by omega) (by omega)
        unfold mv_bl at this
        omega
    · intro n hn ih C L R T B sz hC hL hR hT hB iC iL iR iT iB isz
      rw [b_X2_cross_19]
      simp (disch := omega) only [s_ltL, hn, if_true, s_eqL]
      by_cases c0 : C = 0
      · rw [if_pos c0]
        refine ⟨sz, rfl, fin n C sz iC isz (fun e he hCe => ?_)⟩
        rw [c0, Nat.zero_testBit] at hCe
        cases hCe
      · rw [if_neg c0]
        simp only [c_toLeft hL, c_toRight hR, c_toTop hT, c_toBottom hB, Option.bind_some, mq_and, s_addL]
        have jL : ∀ e, e < 25 → ((mv_tL L).testBit e = true ↔ e % 5 + (n + 1) ≤ 4 ∧ g.testBit (e + (n + 1)) = true) := fun e he => by
          rw [mv_tL_tb hL he]
          constructor
          · rintro ⟨h1, h2⟩
            have := (iL (e + 1) (by omega)).mp h2
            rw [show e + (n + 1) = e + 1 + n from by omega]
            exact ⟨by omega, this.2⟩
          · rintro ⟨h1, h2⟩
            refine ⟨by omega, (iL (e + 1) (by omega)).mpr ⟨by omega, ?_⟩⟩
            rw [show e + 1 + n = e + (n + 1) from by omega]
            exact h2
        have jR : ∀ e, e < 25 → ((mv_tR R).testBit e = true ↔ n + 1 ≤ e % 5 ∧ g.testBit (e - (n + 1)) = true) := fun e he => by
          rw [mv_tR_tb hR he]
          constructor
          · rintro ⟨h1, h2⟩
            have := (iR (e - 1) (by omega)).mp h2
            rw [show e - (n + 1) = e - 1 - n from by omega]
            exact ⟨by omega, this.2⟩
          · rintro ⟨h1, h2⟩
            refine ⟨by omega, (iR (e - 1) (by omega)).mpr ⟨by omega, ?_⟩⟩
            rw [show e - 1 - n = e - (n + 1) from by omega]
            exact h2
        have jT : ∀ e, e < 25 → ((mv_tT T).testBit e = true ↔ e / 5 + (n + 1) ≤ 4 ∧ g.testBit (e + 5 * (n + 1)) = true) := fun e he => by
          rw [mv_tT_tb hT he]
          constructor
          · rintro ⟨h1, h2⟩
            have := (iT (e + 5) (by omega)).mp h2
            rw [show e + 5 * (n + 1) = e + 5 + 5 * n from by omega]
            exact ⟨by omega, this.2⟩
          · rintro ⟨h1, h2⟩
            refine ⟨by omega, (iT (e + 5) (by omega)).mpr ⟨by omega, ?_⟩⟩
            rw [show e + 5 + 5 * n = e + 5 * (n + 1) from by omega]
            exact h2
        have jB : ∀ e, e < 25 → ((mv_tB B).testBit e = true ↔ n + 1 ≤ e / 5 ∧ g.testBit (e - 5 * (n + 1)) = true) := fun e he => by
          rw [mv_tB_tb he]
          constructor
          · rintro ⟨h1, h2⟩
            have := (iB (e - 5) (by omega)).mp h2
            rw [show e - 5 * (n + 1) = e - 5 - 5 * n from by omega]
            exact ⟨by omega, this.2⟩
          · rintro ⟨h1, h2⟩
            refine ⟨by omega, (iB (e - 5) (by omega)).mpr ⟨by omega, ?_⟩⟩
            rw [show e - 5 - 5 * n = e - 5 * (n + 1) from by omega]
            exact h2
        refine ih _ _ _ _ _ _ (Nat.lt_of_le_of_lt Nat.and_le_left hC) (mv_tL_lt hL) (mv_tR_lt hR) (mv_tT_lt hT) (mv_tB_lt hB) (fun e he => ?_) jL jR jT jB (Or.inr ⟨by omega, rfl, ?_⟩)
        · rw [Nat.testBit_and, Nat.testBit_and, Nat.testBit_and, Nat.testBit_and, Bool.and_eq_true, Bool.and_eq_true, Bool.and_eq_true, Bool.and_eq_true, iC e he, jL e he, jR e he, jT e he, jB e he]
          constructor
          · rintro ⟨⟨h1, h2⟩, ⟨⟨h3, h4⟩, h5⟩, h6⟩
            refine ⟨h1, fun i i1 i2 => ?_⟩
            by_cases q : i = n + 1
            · rw [q]
              exact ⟨h4, h3, h6, h5⟩
            · exact h2 i i1 (by omega)
          · rintro ⟨h1, h2⟩
            obtain ⟨k1, k2, k3, k4⟩ := h2 (n + 1) (by omega) (by omega)
            exact ⟨⟨h1, h2.dn (by omega)⟩, ⟨⟨k2, k1⟩, k4⟩, k3⟩
        · have : ∃ e, e < 25 ∧ C.testBit e = true := by
            by_cases q : ∃ e, e < 25 ∧ C.testBit e = true
            · exact q
            · refine absurd (mv_zero hC (fun j hj => ?_)) c0
              cases hb : C.testBit j with
              | false => rfl
              | true => exact absurd ⟨j, hj, hb⟩ q
          obtain ⟨e, e1, e2⟩ := this
          have := (iC e e1).mp e2
          exact ⟨e, e1, this.1, this.2⟩
  rw [b_X2_cross]
  refine R 0 (by omega) g g g g g (-2) hg hg hg hg hg (fun e he => ?_) (fun e he => ?_) (fun e he => ?_) (fun e he => ?_) (fun e he => ?_) (Or.inl ⟨rfl, rfl⟩)
  · exact ⟨fun h => ⟨h, fun i i1 i2 => by omega⟩, fun h => h.1⟩
  · exact ⟨fun h => ⟨by omega, h⟩, fun h => h.2⟩
  · exact ⟨fun h => ⟨by omega, h⟩, fun h => h.2⟩
  · exact ⟨fun h => ⟨by omega, h⟩, fun h => h.2⟩
  · exact ⟨fun h => ⟨by omega, h⟩, fun h => h.2⟩
def mv_Y (g k : Nat) (v : Int32) : Prop := (v = -2 ∧ ∀ e, e < k → ¬ g.testBit e = true) ∨ ∃ m, m ≤ 4 ∧ v = nI m ∧ (∃ e, e < k ∧ g.testBit e = true ∧ mv_A g e m) ∧ ∀ e, e < k → g.testBit e = true → ¬ mv_A g e (m + 1)
theorem r_crossOf {g : Nat} (hg : g < 2 ^ 25) : ∃ v, mj_C sl (d + 3) i_X9_crossOf [.int (nI g)] M = some (v, M) ∧ mv_X g v := by
  have W : ∀ e, e < 25 → ∀ n, n ≤ 5 → mv_A g e n → ∀ mst : Int32, ∃ N, N ≤ 4 ∧ mv_A g e N ∧ ¬ mv_A g e (N + 1) ∧ mj_E sl (d + 2 + 1) i_X9_crossOf 34 [.int (nI g), .int mst, .int (nI e), .int (nI (e % 5)), .int (nI (e / 5)), .int (nI n)] [] M = mj_E sl (d + 2 + 1) i_X9_crossOf 5 [.int (nI g), .int (if mst ≤ nI N then nI N else mst), .int (nI (e + 1)), .int (nI (e % 5)), .int (nI (e / 5)), .int (nI N)] [] M := by
    intro e he
    refine mq_up ?_ ?_
    · intro hA
      have := hA 5 (by omega) (by omega)
      unfold mv_bl at this
      omega
    · intro n hn ih hA mst
      have fin : ¬ mv_bl g e (n + 1) → ¬ mv_A g e (n + 1) := fun h h2 => h (h2 (n + 1) (by omega) (by omega))
      have em : mj_C sl (d + 2) 126 [.int mst, .int (nI n)] M = some (if mst ≤ nI n then nI n else mst, M) := by
        rw [b_X9_max]
        split <;> rfl
      rw [b_X9_crossOf_34]
      simp only [r_isBlack hg, mv_sb1 (e % 5) (by omega) n (by omega), mv_ad1 (e % 5) (by omega) n (by omega), mv_sb1 (e / 5) (by omega) n (by omega), mv_ad1 (e / 5) (by omega) n (by omega), Option.bind_some, em, s_addL]
      have k1 := mv_bkL (g := g) (a := e % 5) (b := e / 5) (c := n + 1) (by omega) (by omega) (by omega)
      have k2 := mv_bkR (g := g) (a := e % 5) (b := e / 5) (c := n + 1) (by omega) (by omega) (by omega)
      have k3 := mv_bkU (g := g) (a := e % 5) (b := e / 5) (c := n + 1) (by omega) (by omega) (by omega)
      have k4 := mv_bkD (g := g) (a := e % 5) (b := e / 5) (c := n + 1) (by omega) (by omega) (by omega)
      have x1 : n + 1 ≤ e % 5 → 5 * (e / 5) + (e % 5 - (n + 1)) = e - (n + 1) := fun h => by omega
      have x2 : 5 * (e / 5) + (e % 5 + (n + 1)) = e + (n + 1) := by omega
      have x3 : n + 1 ≤ e / 5 → 5 * (e / 5 - (n + 1)) + e % 5 = e - 5 * (n + 1) := fun h => by omega
      have x4 : 5 * (e / 5 + (n + 1)) + e % 5 = e + 5 * (n + 1) := by omega
      by_cases c1 : mv_bk g (nI (e % 5) - nI (n + 1)) (nI (e / 5)) = true
      · by_cases c2 : mv_bk g (nI (e % 5) + nI (n + 1)) (nI (e / 5)) = true
        · by_cases c3 : mv_bk g (nI (e % 5)) (nI (e / 5) - nI (n + 1)) = true
          · by_cases c4 : mv_bk g (nI (e % 5)) (nI (e / 5) + nI (n + 1)) = true
            · simp only [c1, c2, c3, c4, if_true, s_10, if_false]
              refine ih (fun i i1 i2 => ?_) mst
              by_cases q : i = n + 1
              · rw [q]
                have q1 := k1.mp c1
                have q2 := k2.mp c2
                have q3 := k3.mp c3
                have q4 := k4.mp c4
                rw [x1 q1.1] at q1
                rw [x2] at q2
                rw [x3 q3.1] at q3
                rw [x4] at q4
                exact ⟨q1, q2, q3, q4⟩
              · exact hA i i1 (by omega)
            · refine ⟨n, by omega, hA, fin (fun z => c4 (k4.mpr ?_)), ?_⟩
              · rw [x4]; exact z.2.2.2
              · simp only [c1, c2, c3, c4, if_true, s_10, if_false, Bool.false_eq_true]
          · refine ⟨n, by omega, hA, fin (fun z => c3 (k3.mpr ?_)), ?_⟩
            · rw [x3 z.2.2.1.1]; exact z.2.2.1
            · simp only [c1, c2, c3, if_true, s_10, if_false, Bool.false_eq_true]
        · refine ⟨n, by omega, hA, fin (fun z => c2 (k2.mpr ?_)), ?_⟩
          · rw [x2]; exact z.2.1
          · simp only [c1, c2, if_true, s_10, if_false, Bool.false_eq_true]
      · refine ⟨n, by omega, hA, fin (fun z => c1 (k1.mpr ?_)), ?_⟩
        · rw [x1 z.1.1]; exact z.1
        · simp only [c1, if_true, if_false, Bool.false_eq_true]
  have R : ∀ k, k ≤ 25 → ∀ (mst : Int32) (w3 w4 w5 : Value), mv_Y g k mst → ∃ v, mj_E sl (d + 2 + 1) i_X9_crossOf 5 [.int (nI g), .int mst, .int (nI k), w3, w4, w5] [] M = some (v, M) ∧ mv_X g v := by
    refine mq_up ?_ ?_
    · intro mst w3 w4 w5 h
      refine ⟨mst, ?_, ?_⟩
      · rw [b_X9_crossOf_5, if_neg (by decide)]
      · rcases h with h | ⟨m, h0, h⟩
        · exact Or.inl h
        · exact Or.inr ⟨m, h⟩
    · intro k hk ih mst w3 w4 w5 h
      rw [b_X9_crossOf_5]
      simp (disch := omega) only [s_ltL, hk, if_true, r_has, Option.bind_some, s_b0, s_addL, s_rmL, s_dvL]
      by_cases c1 : g.testBit k = true
      · simp only [c1, not_true, if_false]
        obtain ⟨N, n1, n2, n3, e⟩ := W k hk 0 (by omega) (fun i i1 i2 => by omega) mst
        have e' : mj_E sl (d + 2 + 1) 217 34 [.int (nI g), .int mst, .int (nI k), .int (nI (k % 5)), .int (nI (k / 5)), .int 0] [] M = _ := e
        rw [e']
        refine ih _ _ _ _ ?_
        rcases h with ⟨h1, h2⟩ | ⟨m, h0, h1, ⟨e0, e1, e2, e3⟩, h3⟩
        · refine Or.inr ⟨N, n1, ?_, ⟨k, by omega, c1, n2⟩, fun j hj hjg => ?_⟩
          · rw [if_pos]
            rw [h1]
            exact Int32.le_of_lt (Int32.lt_of_lt_of_le (show (-2 : Int32) < 0 from by decide) (Int32.not_lt.mp (nI_pos (by omega))))
          · by_cases q : j = k
            · rw [q]; exact n3
            · exact absurd hjg (h2 j (by omega))
        · rw [h1]
          simp (disch := omega) only [s_le]
          by_cases q : m ≤ N
          · rw [if_pos q]
            refine Or.inr ⟨N, n1, rfl, ⟨k, by omega, c1, n2⟩, fun j hj hjg hA => ?_⟩
            by_cases q2 : j = k
            · rw [q2] at hA; exact n3 hA
            · exact h3 j (by omega) hjg (hA.dn (by omega))
          · rw [if_neg q]
            refine Or.inr ⟨m, h0, rfl, ⟨e0, by omega, e2, e3⟩, fun j hj hjg hA => ?_⟩
            by_cases q2 : j = k
            · rw [q2] at hA; exact n3 (hA.dn (by omega))
            · exact h3 j (by omega) hjg hA
      · rw [if_pos c1]
        refine ih _ _ _ _ ?_
        have skip : ∀ j, j < k + 1 → g.testBit j = true → j < k := fun j hj hjg => by
          by_cases q : j = k
          · rw [q] at hjg; exact absurd hjg c1
          · omega
        rcases h with ⟨h1, h2⟩ | ⟨m, h0, h1, ⟨e0, e1, e2, e3⟩, h3⟩
        · exact Or.inl ⟨h1, fun j hj hjg => h2 j (skip j hj hjg) hjg⟩
        · exact Or.inr ⟨m, h0, h1, ⟨e0, by omega, e2, e3⟩, fun j hj hjg => h3 j (skip j hj hjg) hjg⟩
  rw [b_X9_crossOf]
  exact R 0 (by omega) (-2) _ _ _ (Or.inl ⟨rfl, fun e he => by omega⟩)
theorem p_shape {x y : Int32} : ∃ v, mj_C sl (d + 5) i_X8_shape [.ref 0, .int x, .int y] M = some (v, M) ∧ mj_C sl (d + 5) i_X9_shape [.ref 45, .int x, .int y] M = some (v, M) := by
  rw [b_X8_shape, b_X9_shape, c_fits, r_isGrid]
  simp only [Option.bind_some]
  rcases mv_gr_cases x with ⟨-, e⟩ | ⟨g, hg, rfl, e⟩
  · rw [e]
    exact ⟨-1, rfl, rfl⟩
  · rw [e, if_neg mq_10, if_neg mq_10]
    obtain ⟨v0, a0, b0⟩ := p_loops (sl := sl) (d := d + 1) (M := M) hg
    obtain ⟨v1, a1, b1⟩ := p_strokes (sl := sl) (d := d + 1) (M := M) hg
    obtain ⟨v2, a2, x2⟩ := c_cross (sl := sl) (d := d + 3) (M := M) hg
    obtain ⟨v3, b2, x3⟩ := r_crossOf (sl := sl) (d := d + 1) (M := M) hg
    obtain ⟨v4, a4, b4⟩ := p_pen (sl := sl) (d := d) (M := M) hg
    rw [← x2.un x3] at b2
    rw [a0, b0, a1, b1, a2, b2, a4, b4, c_bitCount (by omega), mq_pc25 hg, r_bits (by omega), c_mirrored hg, r_mirroredOf hg, c_turned hg, r_turnedOf hg]
    simp only [Option.bind_some]
    suffices h : ∃ v, _ = some (v, M) from by
      obtain ⟨v, h⟩ := h
      exact ⟨v, h, h⟩
    split
    · exact ⟨_, rfl⟩
    split
    · exact ⟨_, rfl⟩
    split
    · exact ⟨_, rfl⟩
    split
    · exact ⟨_, rfl⟩
    split
    · exact ⟨_, rfl⟩
    split
    · exact ⟨_, rfl⟩
    split <;> exact ⟨_, rfl⟩
end MV30
