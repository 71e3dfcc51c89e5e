theorem mv_rd_S (mo : Nat → Option Nat) (g : Nat) : ∀ n, n ≤ 8 → (∀ j m, j < n → mo j = some m → (mv_rdS mo g n).2 ≤ mq_pc (g ^^^ m) 25) ∧ (((mv_rdS mo g n).2 = 1000000 ∧ ∀ j, j < n → mo j = none) ∨ ∃ j m, j < n ∧ mo j = some m ∧ (mv_rdS mo g n).2 = mq_pc (g ^^^ m) 25) ∧ ∀ k, k < 8 → ((mv_rdS mo g n).1 = nI k ↔ k < n ∧ ∃ m, mo k = some m ∧ (mv_rdS mo g n).2 = mq_pc (g ^^^ m) 25 ∧ ∀ j, j < n → j ≠ k → ∀ m', mo j = some m' → mq_pc (g ^^^ m) 25 < mq_pc (g ^^^ m') 25)
  | 0, _ => ⟨fun j m h => by omega, Or.inl ⟨rfl, fun j h => by omega⟩, fun k hk => ⟨fun h => absurd (show nI k = -2 from h.symm) (by rw [s_m2 (by omega)]; exact id), fun h => by omega⟩⟩
  | n + 1, hn => by
    obtain ⟨i1, i2, i3⟩ := mv_rd_S mo g n (by omega)
    rw [mv_rdS]
    cases hmn : mo n with
    | none =>
      dsimp only
      have ne : ∀ j m, j < n + 1 → mo j = some m → j < n := fun j m h h2 => by
        by_cases q : j = n
        · rw [q, hmn] at h2; cases h2
        · omega
      refine ⟨fun j m h h2 => i1 j m (ne j m h h2) h2, ?_, fun k hk => ?_⟩
      · rcases i2 with ⟨a, b⟩ | ⟨j, m, a, b, c⟩
        · refine Or.inl ⟨a, fun j hj => ?_⟩
          by_cases q : j = n
          · rw [q]; exact hmn
          · exact b j (by omega)
        · exact Or.inr ⟨j, m, by omega, b, c⟩
      · rw [i3 k hk]
        constructor
        · rintro ⟨a, m, b, c, e⟩
          exact ⟨by omega, m, b, c, fun j hj h2 m' h3 => e j (ne j m' hj h3) h2 m' h3⟩
        · rintro ⟨a, m, b, c, e⟩
          exact ⟨ne k m a b, m, b, c, fun j hj h2 m' h3 => e j (by omega) h2 m' h3⟩
    | some mn =>
      dsimp only
      have hp := mq_pc_le (g ^^^ mn) 25
      by_cases c1 : (mv_rdS mo g n).2 < mq_pc (g ^^^ mn) 25
      · rw [if_pos c1]
        refine ⟨fun j m h h2 => ?_, ?_, fun k hk => ?_⟩
        · by_cases q : j = n
          · rw [q, hmn] at h2
            injection h2 with h2
            rw [← h2]
            omega
          · exact i1 j m (by omega) h2
        · rcases i2 with ⟨a, b⟩ | ⟨j, m, a, b, c⟩
          · omega
          · exact Or.inr ⟨j, m, by omega, b, c⟩
        · rw [i3 k hk]
          constructor
          · rintro ⟨a, m, b, c, e⟩
            refine ⟨by omega, m, b, c, fun j hj h2 m' h3 => ?_⟩
            by_cases q : j = n
            · rw [q, hmn] at h3
              injection h3 with h3
              rw [← h3]
              omega
            · exact e j (by omega) h2 m' h3
          · rintro ⟨a, m, b, c, e⟩
            refine ⟨?_, m, b, c, fun j hj h2 m' h3 => e j (by omega) h2 m' h3⟩
            by_cases q : k = n
            · rw [q, hmn] at b
              injection b with b
              rw [← b] at c
              omega
            · omega
      · rw [if_neg c1]
        dsimp only
        refine ⟨fun j m h h2 => ?_, Or.inr ⟨n, mn, by omega, hmn, rfl⟩, fun k hk => ?_⟩
        · by_cases q : j = n
          · rw [q, hmn] at h2
            injection h2 with h2
            rw [← h2]
            omega
          · have := i1 j m (by omega) h2
            omega
        · by_cases c2 : mq_pc (g ^^^ mn) 25 = (mv_rdS mo g n).2
          · rw [if_pos c2]
            constructor
            · intro h
              exact absurd h.symm (by rw [s_m2 (by omega)]; exact id)
            · rintro ⟨a, m, b, c, e⟩
              exfalso
              rcases i2 with ⟨a2, b2⟩ | ⟨j, m2, a2, b2, e2⟩
              · omega
              · by_cases q : k = n
                · have := e j (by omega) (by omega) m2 b2
                  omega
                · have := e n (by omega) (fun z => q z.symm) mn hmn
                  omega
          · rw [if_neg c2]
            constructor
            · intro h
              have hkn : n = k := (mq_eq (by omega) (by omega)).mp h
              subst hkn
              refine ⟨by omega, mn, hmn, rfl, fun j hj h2 m' h3 => ?_⟩
              have := i1 j m' (by omega) h3
              omega
            · rintro ⟨a, m, b, c, e⟩
              by_cases q : k = n
              · rw [q]
              · have := i1 k m (by omega) b
                omega
theorem mv_rd_iff {mo : Nat → Option Nat} {g k : Nat} (hk : k < 8) : mv_rd mo g = nI k ↔ ∃ m, mo k = some m ∧ ∀ j, j < 8 → j ≠ k → ∀ m', mo j = some m' → mq_pc (g ^^^ m) 25 < mq_pc (g ^^^ m') 25 := by
  obtain ⟨i1, i2, i3⟩ := mv_rd_S mo g 8 (Nat.le_refl _)
  unfold mv_rd
  rw [i3 k hk]
  constructor
  · rintro ⟨-, m, b, -, e⟩
    exact ⟨m, b, e⟩
  · rintro ⟨m, b, e⟩
    refine ⟨hk, m, b, ?_, e⟩
    rcases i2 with ⟨a2, b2⟩ | ⟨j, m2, a2, b2, e2⟩
    · rw [b2 k hk] at b
      cases b
    · by_cases q : j = k
      · rw [q, b] at b2
        injection b2 with b2
        rw [b2, e2]
      · have h1 := e j a2 q m2 b2
        have h2 := i1 k m hk b
        omega
def mv_cd (m a b c : Nat) : Nat := 2 ^ a ||| (if 1 < m then 2 ^ b else 0) ||| (if 2 < m then 2 ^ c else 0)
def mv_md (m a : Nat) : Nat := if 1 < m then a else 1
def mv_lo (m b : Nat) : Nat := if 2 < m then b else 1
def mv_sch (W C : Nat → Prop) (r : Int32) : Prop := (r = -2 ∧ ∀ t, C t → ¬ W t) ∨ ∃ s, r = nI s ∧ C s ∧ W s ∧ ∀ t, C t → W t → s ≤ t
theorem mv_sch.cg {W C C2 : Nat → Prop} {r : Int32} (h : mv_sch W C r) (e : ∀ t, C t ↔ C2 t) : mv_sch W C2 r := by
  rcases h with ⟨a, b⟩ | ⟨s, a, b, c, f⟩
  · exact Or.inl ⟨a, fun t ht => b t ((e t).mpr ht)⟩
  · exact Or.inr ⟨s, a, (e s).mp b, c, fun t ht => f t ((e t).mpr ht)⟩
theorem mv_sch.ad {W C C2 : Nat → Prop} {r : Int32} {t0 : Nat} (h : mv_sch W C r) (hw : ¬ W t0) (e : ∀ t, C2 t ↔ t = t0 ∨ C t) : mv_sch W C2 r := by
  have k : ∀ t, C2 t → W t → C t := fun t h1 h2 => by
    rcases (e t).mp h1 with q | q
    · rw [q] at h2; exact absurd h2 hw
    · exact q
  rcases h with ⟨a, b⟩ | ⟨s, a, b, c, f⟩
  · exact Or.inl ⟨a, fun t ht hwt => b t (k t ht hwt) hwt⟩
  · exact Or.inr ⟨s, a, (e s).mpr (Or.inr b), c, fun t ht hwt => f t (k t ht hwt) hwt⟩
def mv_lx (m a b c t : Nat) : Prop := ∃ a' b' c', a' < 25 ∧ b' < mv_md m a' ∧ c' < mv_lo m b' ∧ t = mv_cd m a' b' c' ∧ (a < a' ∨ (a = a' ∧ (b < b' ∨ (b = b' ∧ c ≤ c'))))
theorem mv_cdE {m a b c : Nat} (hb : b < mv_md m a) (hc : c < mv_lo m b) : mv_cd m a b c = 2 ^ a + (if 1 < m then 2 ^ b else 0) + (if 2 < m then 2 ^ c else 0) := by
  unfold mv_cd
  unfold mv_md at hb
  unfold mv_lo at hc
  by_cases m1 : 1 < m
  · rw [if_pos m1] at hb ⊢
    by_cases m2 : 2 < m
    · rw [if_pos m2] at hc ⊢
      rw [mv_t3 hb hc]
      omega
    · rw [if_neg m2, Nat.or_zero, mv_t2 hb]
      omega
  · rw [if_neg m1, if_neg (show ¬ 2 < m by omega), Nat.or_zero, Nat.or_zero]
    omega
theorem mv_cdL {m a b c : Nat} (hb : b < mv_md m a) (hc : c < mv_lo m b) : 2 ^ a ≤ mv_cd m a b c ∧ mv_cd m a b c < 2 ^ a * 2 ∧ (1 < m → 2 ^ a + 2 ^ b ≤ mv_cd m a b c ∧ mv_cd m a b c < 2 ^ a + 2 ^ b * 2) := by
  rw [mv_cdE hb hc]
  unfold mv_md at hb
  unfold mv_lo at hc
  have pa := Nat.pow_pos (n := a) (show 0 < 2 by decide)
  have pb := Nat.pow_pos (n := b) (show 0 < 2 by decide)
  by_cases m1 : 1 < m
  · rw [if_pos m1] at hb ⊢
    have p1 := mv_pw hb
    by_cases m2 : 2 < m
    · rw [if_pos m2] at hc ⊢
      have p2 := mv_pw hc
      have pc := Nat.pow_pos (n := c) (show 0 < 2 by decide)
      exact ⟨by omega, by omega, fun _ => ⟨by omega, by omega⟩⟩
    · rw [if_neg m2]
      exact ⟨by omega, by omega, fun _ => ⟨by omega, by omega⟩⟩
  · rw [if_neg m1, if_neg (show ¬ 2 < m by omega)]
    exact ⟨by omega, by omega, fun z => absurd z m1⟩
theorem mv_lx_le {m a b c t : Nat} (hb : b < mv_md m a) (hc : c < mv_lo m b) (h : mv_lx m a b c t) : mv_cd m a b c ≤ t := by
  obtain ⟨a', b', c', h1, h2, h3, rfl, h5⟩ := h
  obtain ⟨k1, k2, k3⟩ := mv_cdL hb hc
  obtain ⟨j1, j2, j3⟩ := mv_cdL h2 h3
  rcases h5 with h5 | ⟨rfl, h5⟩
  · have := mv_pw h5
    omega
  · rcases h5 with h5 | ⟨rfl, h5⟩
    · by_cases m1 : 1 < m
      · have p1 := k3 m1
        have p2 := j3 m1
        have := mv_pw h5
        omega
      · unfold mv_md at hb h2
        rw [if_neg m1] at hb h2
        omega
    · rw [mv_cdE hb hc, mv_cdE h2 h3]
      by_cases m2 : 2 < m
      · rw [if_pos m2, if_pos m2]
        have := Nat.pow_le_pow_right (show 0 < 2 by decide) h5
        omega
      · rw [if_neg m2, if_neg m2]
        omega
theorem mv_cdP {m a b c : Nat} (hm : 1 ≤ m) (hm3 : m ≤ 3) (ha : a < 25) (hb : b < mv_md m a) (hc : c < mv_lo m b) : mv_cd m a b c < 2 ^ 25 ∧ mq_pc (mv_cd m a b c) 25 = m := by
  rw [mv_cdE hb hc]
  unfold mv_md at hb
  unfold mv_lo at hc
  by_cases m1 : 1 < m
  · rw [if_pos m1] at hb ⊢
    by_cases m2 : 2 < m
    · rw [if_pos m2] at hc ⊢
      obtain ⟨p1, p2⟩ := mv_t3p hb hc ha
      rw [show 2 ^ a + 2 ^ b + 2 ^ c = 2 ^ c + 2 ^ b + 2 ^ a from by omega]
      exact ⟨p1, by omega⟩
    · obtain ⟨p1, p2⟩ := mv_t2p hb ha
      rw [if_neg m2, show 2 ^ a + 2 ^ b + 0 = 2 ^ b + 2 ^ a from by omega]
      exact ⟨p1, by omega⟩
  · obtain ⟨p1, p2⟩ := mv_t1p ha
    rw [if_neg m1, if_neg (show ¬ 2 < m by omega), Nat.add_zero]
    exact ⟨p1, p2.trans (by omega)⟩
theorem mv_cdA {m t : Nat} (hm : 1 ≤ m) (hm3 : m ≤ 3) (ht : t < 2 ^ 25) (h : mq_pc t 25 = m) : mv_lx m 0 0 0 t := by
  obtain ⟨a, r, a1, a2, a3, a4⟩ := mv_pcS (m := m - 1) (Nat.le_refl _) ht (by omega)
  by_cases m1 : 1 < m
  · obtain ⟨b, r2, b1, b2, b3, b4⟩ := mv_pcS (m := m - 2) (show a ≤ 25 by omega) a2 (by omega)
    have hb : b < mv_md m a := by unfold mv_md; rw [if_pos m1]; exact b1
    by_cases m2 : 2 < m
    · obtain ⟨c, r3, c1, c2, c3, c4⟩ := mv_pcS (m := m - 3) (show b ≤ 25 by omega) b2 (by omega)
      have hc : c < mv_lo m b := by unfold mv_lo; rw [if_pos m2]; exact c1
      have : r3 = 0 := mv_pc0 (show c ≤ 25 by omega) c2 (by omega)
      refine ⟨a, b, c, a1, hb, hc, ?_, by omega⟩
      rw [mv_cdE hb hc, if_pos m1, if_pos m2, a3, b3, c3]
      omega
    · have hc : 0 < mv_lo m b := by unfold mv_lo; rw [if_neg m2]; omega
      have : r2 = 0 := mv_pc0 (show b ≤ 25 by omega) b2 (by omega)
      refine ⟨a, b, 0, a1, hb, hc, ?_, by omega⟩
      rw [mv_cdE hb hc, if_pos m1, if_neg m2, a3, b3]
      omega
  · have hb : 0 < mv_md m a := by unfold mv_md; rw [if_neg m1]; omega
    have hc : 0 < mv_lo m 0 := by unfold mv_lo; rw [if_neg (by omega)]; omega
    have : r = 0 := mv_pc0 (show a ≤ 25 by omega) a2 (by omega)
    refine ⟨a, 0, 0, a1, hb, hc, ?_, by omega⟩
    rw [mv_cdE hb hc, if_neg m1, if_neg (by omega), a3]
    omega
section MV23
variable {sl d : Nat} {M : mj_M} {mo : Nat → Option Nat} {cs : mv_CS}
theorem c_ld51 {g k m a b c lw : Nat} {y5 : Int32} {w9 : Value} (hcm : mv_cM M mo) (hw : mv_wM mo) (hg : g < 2 ^ 25) (hk : k < 8) (hm : 1 ≤ m) (hm3 : m ≤ 3) (ha : a < 25) (hb : b < mv_md m a) (hlw : lw = mv_lo m b) (hc : c ≤ lw) : mj_E sl (d + 1 + 1) i_X8_leastDots 51 [.ref 0, .int (nI g), .int (nI k), .int (nI m), .int (nI a), .int y5, .int (nI b), .int (nI lw), .int (nI c), w9] [] M = if c < lw then (if mv_rd mo (g ^^^ mv_cd m a b c) = nI k then some (nI (mv_cd m a b c), M) else mj_E sl (d + 1 + 1) i_X8_leastDots 51 [.ref 0, .int (nI g), .int (nI k), .int (nI m), .int (nI a), .int y5, .int (nI b), .int (nI lw), .int (nI (c + 1)), .int (nI (mv_cd m a b c))] [] M) else mj_E sl (d + 1 + 1) i_X8_leastDots 28 [.ref 0, .int (nI g), .int (nI k), .int (nI m), .int (nI a), .int y5, .int (nI (b + 1)), .int (nI lw), .int (nI c), w9] [] M := by
  have hb25 : b < 25 := by unfold mv_md at hb; split at hb <;> omega
  have hl25 : lw < 26 := by rw [hlw]; unfold mv_lo; split <;> omega
  rw [b_X8_leastDots_51]
  by_cases q : c < lw
  · have hx : g ^^^ mv_cd m a b c < 2 ^ 25 := Nat.xor_lt_two_pow hg (mv_cdP hm hm3 ha hb (by omega)).1
    simp (disch := omega) only [s_lt, q, if_true, s_leL, mq_one, mq_or, s_addL]
    have : m = 1 ∨ m = 2 ∨ m = 3 := by omega
    rcases this with rfl | rfl | rfl
    · have e : mv_cd 1 a b c = 2 ^ a := by unfold mv_cd; rw [if_neg (by decide), if_neg (by decide), Nat.or_zero, Nat.or_zero]
      rw [e] at hx ⊢
      simp only [show (1 : Nat) ≤ 1 from Nat.le_refl _, show (1 : Nat) ≤ 2 from by decide, if_true, Int32.or_zero, mq_xor, c_nearest hcm hw hx, Option.bind_some]
    · have e : mv_cd 2 a b c = 2 ^ a ||| 2 ^ b := by unfold mv_cd; rw [if_pos (by decide), if_neg (by decide), Nat.or_zero]
      rw [e] at hx ⊢
      simp only [show ¬ (2 : Nat) ≤ 1 from by decide, show (2 : Nat) ≤ 2 from by decide, if_true, if_false, Int32.or_zero, mq_xor, c_nearest hcm hw hx, Option.bind_some]
    · have e : mv_cd 3 a b c = 2 ^ a ||| 2 ^ b ||| 2 ^ c := by unfold mv_cd; rw [if_pos (by decide), if_pos (by decide)]
      rw [e] at hx ⊢
      simp only [show ¬ (3 : Nat) ≤ 1 from by decide, show ¬ (3 : Nat) ≤ 2 from by decide, if_true, if_false, mq_xor, c_nearest hcm hw hx, Option.bind_some]
  · simp (disch := omega) only [s_lt, q, if_false, s_addL]
theorem c_leastDots {g k m : Nat} (hcm : mv_cM M mo) (hw : mv_wM mo) (hg : g < 2 ^ 25) (hk : k < 8) (hm : 1 ≤ m) (hm3 : m ≤ 3) : ∃ r, mj_C sl (d + 1 + 1) i_X8_leastDots [.ref 0, .int (nI g), .int (nI k), .int (nI m)] M = some (r, M) ∧ mv_sch (fun t => mv_rd mo (g ^^^ t) = nI k) (fun t => t < 2 ^ 25 ∧ mq_pc t 25 = m) r := by
  have A : ∀ a, a ≤ 25 → ∀ w5 w6 w7 w8 w9 : Value, ∃ r, mj_E sl (d + 1 + 1) i_X8_leastDots 5 [.ref 0, .int (nI g), .int (nI k), .int (nI m), .int (nI a), w5, w6, w7, w8, w9] [] M = some (r, M) ∧ mv_sch (fun t => mv_rd mo (g ^^^ t) = nI k) (mv_lx m a 0 0) r := by
    refine mq_up ?_ ?_
    · intro w5 w6 w7 w8 w9
      refine ⟨-2, ?_, Or.inl ⟨rfl, fun t ht => ?_⟩⟩
      · rw [b_X8_leastDots_5, if_neg (by decide)]
      · obtain ⟨a', b', c', h1, h2, h3, h4, h5⟩ := ht
        omega
    · intro a ha ihA w5 w6 w7 w8 w9
      have hmd : mv_md m a ≤ 25 := by unfold mv_md; split <;> omega
      have e5 : mj_E sl (d + 1 + 1) i_X8_leastDots 5 [.ref 0, .int (nI g), .int (nI k), .int (nI m), .int (nI a), w5, w6, w7, w8, w9] [] M = mj_E sl (d + 1 + 1) i_X8_leastDots 28 [.ref 0, .int (nI g), .int (nI k), .int (nI m), .int (nI a), .int (nI (mv_md m a)), .int (nI 0), w7, w8, w9] [] M := by
        rw [b_X8_leastDots_5]
        simp (disch := omega) only [s_ltL, ha, if_true, s_leL]
        unfold mv_md
        by_cases q : m ≤ 1
        · rw [if_pos q, if_neg (by omega)]
          rfl
        · rw [if_neg q, if_pos (by omega)]
          rfl
      have B : ∀ b, b ≤ mv_md m a → ∀ w7 w8 w9 : Value, ∃ r, mj_E sl (d + 1 + 1) i_X8_leastDots 28 [.ref 0, .int (nI g), .int (nI k), .int (nI m), .int (nI a), .int (nI (mv_md m a)), .int (nI b), w7, w8, w9] [] M = some (r, M) ∧ mv_sch (fun t => mv_rd mo (g ^^^ t) = nI k) (mv_lx m a b 0) r := by
        refine mq_up ?_ ?_
        · intro w7 w8 w9
          obtain ⟨r, e, s⟩ := ihA (.int (nI (mv_md m a))) (.int (nI (mv_md m a))) w7 w8 w9
          refine ⟨r, ?_, s.cg (fun t => ?_)⟩
          · rw [b_X8_leastDots_28, if_neg (Int32.lt_irrefl), nI_1]
            exact e
          · constructor
            · rintro ⟨a', b', c', h1, h2, h3, h4, h5⟩
              exact ⟨a', b', c', h1, h2, h3, h4, by omega⟩
            · rintro ⟨a', b', c', h1, h2, h3, h4, h5⟩
              refine ⟨a', b', c', h1, h2, h3, h4, ?_⟩
              rcases h5 with h5 | ⟨rfl, h5⟩
              · omega
              · omega
        · intro b hb ihB w7 w8 w9
          have hlo : mv_lo m b ≤ 25 := by unfold mv_lo; split <;> omega
          have e28 : mj_E sl (d + 1 + 1) i_X8_leastDots 28 [.ref 0, .int (nI g), .int (nI k), .int (nI m), .int (nI a), .int (nI (mv_md m a)), .int (nI b), w7, w8, w9] [] M = mj_E sl (d + 1 + 1) i_X8_leastDots 51 [.ref 0, .int (nI g), .int (nI k), .int (nI m), .int (nI a), .int (nI (mv_md m a)), .int (nI b), .int (nI (mv_lo m b)), .int (nI 0), w9] [] M := by
            rw [b_X8_leastDots_28]
            simp (disch := omega) only [s_lt, hb, if_true, s_leL]
            unfold mv_lo
            by_cases q : m ≤ 2
            · rw [if_pos q, if_neg (by omega)]
              rfl
            · rw [if_neg q, if_pos (by omega)]
              rfl
          have C : ∀ c, c ≤ mv_lo m b → ∀ w9 : Value, ∃ r, mj_E sl (d + 1 + 1) i_X8_leastDots 51 [.ref 0, .int (nI g), .int (nI k), .int (nI m), .int (nI a), .int (nI (mv_md m a)), .int (nI b), .int (nI (mv_lo m b)), .int (nI c), w9] [] M = some (r, M) ∧ mv_sch (fun t => mv_rd mo (g ^^^ t) = nI k) (mv_lx m a b c) r := by
            refine mq_up ?_ ?_
            · intro w9
              obtain ⟨r, e, s⟩ := ihB (.int (nI (mv_lo m b))) (.int (nI (mv_lo m b))) w9
              refine ⟨r, ?_, s.cg (fun t => ?_)⟩
              · rw [c_ld51 hcm hw hg hk hm hm3 ha hb rfl (Nat.le_refl _), if_neg (Nat.lt_irrefl _)]
                exact e
              · constructor
                · rintro ⟨a', b', c', h1, h2, h3, h4, h5⟩
                  exact ⟨a', b', c', h1, h2, h3, h4, by omega⟩
                · rintro ⟨a', b', c', h1, h2, h3, h4, h5⟩
                  refine ⟨a', b', c', h1, h2, h3, h4, ?_⟩
                  rcases h5 with h5 | ⟨rfl, h5⟩
                  · omega
                  · rcases h5 with h5 | ⟨rfl, h5⟩
                    · omega
                    · omega
            · intro c hc ihC w9
              rw [c_ld51 hcm hw hg hk hm hm3 ha hb rfl (by omega), if_pos hc]
              have hle := fun t (h : mv_lx m a b c t) => mv_lx_le hb hc h
              have self : mv_lx m a b c (mv_cd m a b c) := ⟨a, b, c, ha, hb, hc, rfl, by omega⟩
              by_cases q : mv_rd mo (g ^^^ mv_cd m a b c) = nI k
              · rw [if_pos q]
                exact ⟨_, rfl, Or.inr ⟨_, rfl, self, q, fun t ht _ => hle t ht⟩⟩
              · rw [if_neg q]
                obtain ⟨r, e, s⟩ := ihC (.int (nI (mv_cd m a b c)))
                refine ⟨r, e, s.ad q (fun t => ?_)⟩
                constructor
                · rintro ⟨a', b', c', h1, h2, h3, h4, h5⟩
                  by_cases z : a' = a ∧ b' = b ∧ c' = c
                  · obtain ⟨rfl, rfl, rfl⟩ := z
                    exact Or.inl h4
                  · exact Or.inr ⟨a', b', c', h1, h2, h3, h4, by omega⟩
                · rintro (rfl | ⟨a', b', c', h1, h2, h3, h4, h5⟩)
                  · exact self
                  · exact ⟨a', b', c', h1, h2, h3, h4, by omega⟩
          rw [e28]
          exact C 0 (by omega) w9
      rw [e5]
      exact B 0 (by omega) w7 w8 w9
  have hm1 : nI m - 1 = nI (m - 1) := pk_sub hm
  obtain ⟨r, e, s⟩ := A (m - 1) (by omega) .null .null .null .null .null
  refine ⟨r, ?_, s.cg (fun t => ?_)⟩
  · rw [b_X8_leastDots, hm1]
    exact e
  · constructor
    · rintro ⟨a', b', c', h1, h2, h3, rfl, h5⟩
      exact mv_cdP hm hm3 h1 h2 h3
    · rintro ⟨h1, h2⟩
      obtain ⟨a', b', c', k1, k2, k3, k4, k5⟩ := mv_cdA hm hm3 h1 h2
      refine ⟨a', b', c', k1, k2, k3, k4, ?_⟩
      unfold mv_md at k2
      unfold mv_lo at k3
      split at k2 <;> split at k3 <;> omega
end MV23
