def lp_sR (x : lp_RU) : Prop := x.1 < 256 ∧ (¬ x.1 = 120 → ∀ F, ∃ v, mv_ev F x.2.1 0 [] = some v) ∧ (∀ F, mv_ev F x.2.2 0 [] = some 0 ∨ mv_ev F x.2.2 0 [] = some 1)
theorem lp_ok_lw {n : Nat} {tp : Nat → Nat} (hn : n ≤ 240) (h8 : ∀ j, j < 260 → tp j < 256) : ∀ F i rs, i ≤ n → rs.length + F = 17 → (∀ x, x ∈ rs → lp_sR x) → (match lp_lw n (lp_sn n tp) F i rs with
    | .inl (q, p) => (q = 1 ∨ q = 2 ∨ q = 4 ∨ q = 5) ∧ p ≤ n
    | .inr rs' => 1 ≤ rs'.length ∧ rs'.length ≤ 16 ∧ ∀ x, x ∈ rs' → lp_sR x) := by
  intro F
  induction F with
  | zero => intro i rs hi _ _; exact ⟨by omega, hi⟩
  | succ F ih =>
    intro i rs hi hF hs
    have h := lp_ok_R (n := n) (i := i) (r := rs.length) (tp := tp) hi h8 hn
    unfold lp_lw
    cases hr : lp_R (lp_sn n tp) rs.length i with
    | inl x => rw [hr] at h; exact h
    | inr y =>
      obtain ⟨j, kd, ca, cb⟩ := y
      rw [hr] at h
      obtain ⟨k1, k2, k3, k4, k5, k6, k7⟩ := h
      have hl : rs.length < 16 := by
        by_cases z : rs.length < 16
        · exact z
        · unfold lp_R at hr
          rw [if_neg z] at hr
          split at hr <;> cases hr
      have hs' : ∀ x, x ∈ rs ++ [(kd, ca, cb)] → lp_sR x := fun x hx => by
        rcases List.mem_append.mp hx with hx | hx
        · exact hs x hx
        · rw [List.mem_singleton] at hx
          rw [hx]
          exact ⟨k5, k6, k7⟩
      dsimp only
      by_cases q : j < n
      · rw [if_pos q]
        by_cases q2 : lp_sn n tp j = 59
        · rw [if_pos q2]
          exact ih (j + 1) _ (by omega) (by rw [List.length_append]; show rs.length + 1 + F = 17; omega) hs'
        · rw [if_neg q2]
          exact ⟨by omega, k2⟩
      · rw [if_neg q]
        exact ⟨by rw [List.length_append]; show 1 ≤ rs.length + 1; omega, by rw [List.length_append]; show rs.length + 1 ≤ 16; omega, hs'⟩
def lc_L (M : mj_M) (D L : Nat) (rs : List lp_RU) : Prop := ∀ j x, rs[j]? = some x → M (D + 4) j = nI x.1 ∧ ∃ La Lb, M (D + 5) j = nI La ∧ M (D + 6) j = nI Lb ∧ mv_cc (M (D + 1)) La x.2.1 ∧ M (D + 1) (La + mv_szs x.2.1) = 0 ∧ La + mv_szs x.2.1 < L ∧ mv_cc (M (D + 1)) Lb x.2.2 ∧ M (D + 1) (Lb + mv_szs x.2.2) = 0 ∧ Lb + mv_szs x.2.2 < L
section LC6
variable {sl d D n : Nat} {tp : Nat → Nat}
theorem c_lawF {M : mj_M} {i L : Nat} {w y : Int32} {w1 : Value} (h : lc_S M D n i L w) (hn : n ≤ 240) (T : mv_Tb M tp) (hw : ¬ w = 0) : (some ((0 : Int32), M)).bind (fun q2 => mj_E sl (d + 49) i_X4_readLaw 24 [.ref 28, w1, .int y] [] q2.2) = some (w, M) := by
  have er : mj_C sl (d + 48) 53 [.ref 28] M = some (0, M) := by
    rw [b_X4_readRule, c_sign h hn T]
    simp only [Option.bind_some]
    rw [h.2.2.2.1, if_neg hw, c_failN h hw]
    rfl
  simp only [Option.bind_some]
  rw [b_X4_readLaw_24, er]
  simp only [Option.bind_some]
  rw [h.2.2.2.1, if_neg hw]
  split <;> rfl
theorem c_laws {w1 : Value} (hD : D = 29 ∨ D = 38) (hn : n ≤ 240) : ∀ F i L (rs : List lp_RU) M, rs.length + F = 17 → rs.length ≤ 16 → lc_S M D n i L 0 → L ≤ 2 * i → mv_Tb M tp → M 74 = mj_bt → M D 7 = nI rs.length → lc_L M D L rs → ∃ M' v, mj_E sl (d + 49) i_X4_readLaw 24 [.ref 28, w1, .int (nI rs.length)] [] M = some (v, M') ∧ mv_fr (lc_QR D 0 0) M M' ∧ (match lp_lw n (lp_sn n tp) F i rs with
    | .inl (q, p) => v = mv_fx (nI q) (nI p)
    | .inr rs' => v = nI rs'.length ∧ ∃ L', L' ≤ 480 ∧ M' D 6 = nI L' ∧ M' D 7 = nI rs'.length ∧ lc_L M' D L' rs') := by
  intro F
  induction F with
  | zero =>
    intro i L rs M hF h16
    omega
  | succ F ih =>
    intro i L rs M hF h16 S hL T h74 h7 LL
    have hi := S.2.2.2.2.2.1
    obtain ⟨M1, a1, a2⟩ := c_rule (sl := sl) (d := d) (tp := tp) hD hn S hL T h74 h7 (by omega)
    have a1' : mj_C sl (d + 48) 53 [.ref 28] M = some (0, M1) := a1
    have ok := lp_ok_R (n := n) (i := i) (r := rs.length) (tp := tp) hi (fun j hj => (T j hj).1) hn
    rw [b_X4_readLaw_24, if_pos (by rw [s_leL (by omega) (by decide)]; omega), a1']
    simp only [Option.bind_some]
    unfold lp_lw
    cases hr : lp_R (lp_sn n tp) rs.length i with
    | inl x =>
      obtain ⟨qf, pf⟩ := x
      rw [hr] at a2 ok
      obtain ⟨⟨i', L', S1⟩, f1⟩ := a2
      have ok' : (qf = 1 ∨ qf = 2 ∨ qf = 4 ∨ qf = 5) ∧ pf ≤ n := ok
      rw [S1.2.2.2.1, if_neg (mv_fxn4 ok'.1 (by omega)).1]
      exact ⟨M1, _, rfl, f1, rfl⟩
    | inr y =>
      obtain ⟨j, kd, ca, cb⟩ := y
      rw [hr] at a2 ok
      obtain ⟨S1, c7, c4, c5, c6, cc1, e1, cc2, e2, f1⟩ := a2
      obtain ⟨k1, k2, k3, k4, k5, k6, k7⟩ := ok
      have T1 : mv_Tb M1 tp := T.fr f1 (fun a k z => by unfold lc_QR at z; omega)
      have h74' : M1 74 = mj_bt := by rw [← h74]; exact funext (fun k => f1 74 k (by unfold lc_QR; omega))
      have LL1 : lc_L M1 D (L + mv_szs ca + 1 + mv_szs cb + 1) (rs ++ [(kd, ca, cb)]) := by
        intro y x hx
        by_cases z : y < rs.length
        · rw [List.getElem?_append_left z] at hx
          obtain ⟨b1, La, Lb, b2, b3, b4, b5, b6, b7, b8, b9⟩ := LL y x hx
          refine ⟨?_, La, Lb, ?_, ?_, ?_, ?_, by omega, ?_, ?_, by omega⟩
          · rw [f1 _ _ (by unfold lc_QR; omega)]; exact b1
          · rw [f1 _ _ (by unfold lc_QR; omega)]; exact b2
          · rw [f1 _ _ (by unfold lc_QR; omega)]; exact b3
          · exact mv_cc_cg _ _ (fun u u1 u2 => f1 _ _ (by unfold lc_QR; omega)) b4
          · rw [f1 _ _ (by unfold lc_QR; omega)]; exact b5
          · exact mv_cc_cg _ _ (fun u u1 u2 => f1 _ _ (by unfold lc_QR; omega)) b7
          · rw [f1 _ _ (by unfold lc_QR; omega)]; exact b8
        · rw [List.getElem?_append_right (by omega)] at hx
          have z2 : y = rs.length := by
            by_cases w : y - rs.length = 0
            · omega
            · rw [List.getElem?_eq_none (by show 1 ≤ y - rs.length; omega)] at hx
              cases hx
          subst z2
          rw [Nat.sub_self] at hx
          have hx' : some (kd, ca, cb) = some x := hx
          injection hx' with hx'
          rw [← hx']
          exact ⟨c4, L, L + mv_szs ca + 1, c5, c6, cc1, e1, by show L + mv_szs ca < _; omega, cc2, e2, by show L + mv_szs ca + 1 + mv_szs cb < _; omega⟩
      have hl : (rs ++ [(kd, ca, cb)]).length = rs.length + 1 := by rw [List.length_append]; rfl
      have hl16 : rs.length < 16 := by
        by_cases z : rs.length < 16
        · exact z
        · unfold lp_R at hr
          rw [if_neg z] at hr
          split at hr <;> cases hr
      rw [S1.2.2.2.1, if_pos rfl, S1.2.2.1, S1.2.1]
      dsimp only
      by_cases q : j < n
      · rw [if_pos q, if_pos (by rw [s_lt (by omega) (by omega)]; exact q)]
        have e4 := c_pass (sl := sl) (d := d + 46) (s := 59) S1 hn T1 (by omega)
        have e4' : mj_C sl (d + 48) 51 [.ref 28, .int 59] M1 = if lp_sn n tp j = 59 then some (0, mj_st M1 28 3 (nI (j + 1))) else some (0, mj_st M1 28 4 (mv_fx (nI 1) (nI j))) := e4
        rw [e4']
        by_cases q2 : lp_sn n tp j = 59
        · rw [if_pos q2, if_pos q2]
          simp only [Option.bind_some, s_addL]
          have f2 : mv_fr (fun a k => a = 28 ∧ k = 3) M1 (mj_st M1 28 3 (nI (j + 1))) := mv_fr.rf.st ⟨rfl, rfl⟩
          have g : ∀ a k, ¬ (a = 28 ∧ k = 3) → (mj_st M1 28 3 (nI (j + 1))) a k = M1 a k := fun a k z => f2 a k z
          have LL2 : lc_L (mj_st M1 28 3 (nI (j + 1))) D (L + mv_szs ca + 1 + mv_szs cb + 1) (rs ++ [(kd, ca, cb)]) := by
            have r1 : ∀ x, x = D + 1 ∨ x = D + 4 ∨ x = D + 5 ∨ x = D + 6 → (mj_st M1 28 3 (nI (j + 1))) x = M1 x := fun x hx => mq_st_row (by omega)
            intro y x hx
            rw [r1 (D + 1) (by omega), r1 (D + 4) (by omega), r1 (D + 5) (by omega), r1 (D + 6) (by omega)]
            exact LL1 y x hx
          obtain ⟨M', v, b1, b2, b3⟩ := ih (j + 1) _ (rs ++ [(kd, ca, cb)]) _ (by rw [hl]; omega) (by rw [hl]; omega) (lc_at hD S1 (by omega)) (by omega) (T1.fr f2 (fun a k z => by omega)) (by rw [← h74']; exact funext (fun k => g 74 k (by omega))) (by rw [g _ _ (by omega), hl]; exact c7) LL2
          rw [hl] at b1
          exact ⟨M', v, b1, ((f1.wk (fun a k z => z.wk (by omega) (by omega))).tr (f2.wk (fun a k z => by unfold lc_QR; omega))).tr b2, b3⟩
        · rw [if_neg q2, if_neg q2]
          have hne : ¬ mv_fx (nI 1) (nI j) = 0 := mv_fxne (Or.inl rfl) (by omega)
          obtain ⟨⟨i', L', g1⟩, g2⟩ := lc_failR (q := 1) hD S1
          obtain ⟨w, hw⟩ : ∃ w, w = mv_fx (nI 1) (nI j) := ⟨_, rfl⟩
          rw [← hw] at g1 g2 hne
          obtain ⟨M2, hM2⟩ : ∃ M2, M2 = mj_st M1 28 4 w := ⟨_, rfl⟩
          rw [← hM2] at g1 g2
          rw [← hw, ← hM2]
          exact ⟨M2, w, c_lawF g1 hn (lc_Tb hD T1 g2) hne, (f1.wk (fun a k z => z.wk (by omega) (by omega))).tr (g2.wk (fun a k z => z.qr 0)), hw⟩
      · rw [if_neg q, if_neg (by rw [s_lt (by omega) (by omega)]; exact q), S1.1, mv_lwD hD, c7]
        exact ⟨M1, _, rfl, f1.wk (fun a k z => z.wk (by omega) (by omega)), by rw [hl], _, S1.2.2.2.2.2.2, S1.2.2.2.2.1, by rw [hl]; exact c7, LL1⟩
end LC6
