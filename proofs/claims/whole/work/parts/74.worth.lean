abbrev mv_CD : Type := Nat → List (Nat × Nat)
def mv_LC (M : mj_M) (R nr : Nat) (kd : Nat → Nat) (ca cb : mv_CD) : Prop := M R 7 = nI nr ∧ ∃ len, len ≤ 480 ∧ M R 6 = nI len ∧ ∀ j, j < nr → M (R + 4) j = nI (kd j) ∧ ∃ La Lb, M (R + 5) j = nI La ∧ M (R + 6) j = nI Lb ∧ mv_cc (M (R + 1)) La (ca j) ∧ M (R + 1) (La + mv_szs (ca j)) = 0 ∧ La + mv_szs (ca j) < len ∧ mv_cc (M (R + 1)) Lb (cb j) ∧ M (R + 1) (Lb + mv_szs (cb j)) = 0 ∧ Lb + mv_szs (cb j) < len
def mv_LR (M : mj_M) (nr : Nat) (kd : Nat → Nat) (ca cb : mv_CD) : Prop := M 45 14 = nI nr ∧ ∀ j, j < nr → M 58 j = nI (kd j) ∧ ∃ C, M 59 j = nI C ∧ M 60 j = nI (C + (ca j).length) ∧ M 61 j = nI (C + (ca j).length + (cb j).length) ∧ mv_rc (M 57) C (ca j) ∧ mv_rc (M 57) (C + (ca j).length) (cb j) ∧ C + (ca j).length + (cb j).length ≤ 260
def mv_LS (nr : Nat) (kd : Nat → Nat) (ca cb : mv_CD) : Prop := nr ≤ 16 ∧ ∀ j, j < nr → kd j < 256 ∧ (¬ kd j = 120 → ∀ F, ∃ v, mv_ev F (ca j) 0 [] = some v) ∧ ∀ F, mv_ev F (cb j) 0 [] = some 0 ∨ mv_ev F (cb j) 0 [] = some 1
theorem mv_LC.fr {Q : Nat → Nat → Prop} {M M1 : mj_M} {R nr : Nat} {kd : Nat → Nat} {ca cb : mv_CD} (h : mv_LC M R nr kd ca cb) (f : mv_fr Q M M1) (hq : ∀ a k, Q a k → ¬ (a = R ∧ (k = 6 ∨ k = 7)) ∧ ¬ a = R + 1 ∧ ¬ a = R + 4 ∧ ¬ a = R + 5 ∧ ¬ a = R + 6) : mv_LC M1 R nr kd ca cb := by
  have e1 : M1 (R + 1) = M (R + 1) := funext (fun k => f _ k (fun z => (hq _ _ z).2.1 rfl))
  have e4 : M1 (R + 4) = M (R + 4) := funext (fun k => f _ k (fun z => (hq _ _ z).2.2.1 rfl))
  have e5 : M1 (R + 5) = M (R + 5) := funext (fun k => f _ k (fun z => (hq _ _ z).2.2.2.1 rfl))
  have e6 : M1 (R + 6) = M (R + 6) := funext (fun k => f _ k (fun z => (hq _ _ z).2.2.2.2 rfl))
  unfold mv_LC
  rw [e1, e4, e5, e6, f R 7 (fun z => (hq _ _ z).1 ⟨rfl, Or.inr rfl⟩), f R 6 (fun z => (hq _ _ z).1 ⟨rfl, Or.inl rfl⟩)]
  exact h
theorem mv_LR.fr {Q : Nat → Nat → Prop} {M M1 : mj_M} {nr : Nat} {kd : Nat → Nat} {ca cb : mv_CD} (h : mv_LR M nr kd ca cb) (f : mv_fr Q M M1) (hq : ∀ a k, Q a k → ¬ (a = 45 ∧ k = 14) ∧ ¬ (57 ≤ a ∧ a ≤ 61)) : mv_LR M1 nr kd ca cb := by
  have e : ∀ a, 57 ≤ a → a ≤ 61 → M1 a = M a := fun a h1 h2 => funext (fun k => f _ k (fun z => (hq _ _ z).2 ⟨h1, h2⟩))
  unfold mv_LR
  rw [e 57 (by omega) (by omega), e 58 (by omega) (by omega), e 59 (by omega) (by omega), e 60 (by omega) (by omega), e 61 (by omega) (by omega), f 45 14 (fun z => (hq _ _ z).1 ⟨rfl, rfl⟩)]
  exact h
def mv_kl (b v : Int32) : Int32 := if v < 0 then 0 else if v ≤ b then v else b
theorem mv_klE {b v : Int32} (hb : 0 < b) : mj_mx 0 (mj_mn b v) = mv_kl b v := by
  unfold mj_mx mj_mn mv_kl
  by_cases h1 : v < 0
  · have h2 : v < b := Int32.lt_trans h1 hb
    rw [if_pos h1, if_pos h2, if_neg (fun z => Int32.lt_irrefl (Int32.lt_trans h1 z))]
  · rw [if_neg h1]
    have h1' : 0 ≤ v := Int32.not_lt.mp h1
    by_cases h2 : v < b
    · rw [if_pos h2, if_pos (Int32.le_of_lt h2)]
      by_cases h3 : 0 < v
      · rw [if_pos h3]
      · rw [if_neg h3]
        exact Int32.le_antisymm h1' (Int32.not_lt.mp h3)
    · rw [if_neg h2, if_pos hb]
      by_cases h3 : v ≤ b
      · rw [if_pos h3]
        exact Int32.le_antisymm (Int32.not_lt.mp h2) h3
      · rw [if_neg h3]
theorem mv_kl_b {n : Nat} (hn : n < 2147483648) (v : Int32) : ∃ w, w ≤ n ∧ mv_kl (nI n) v = nI w := by
  unfold mv_kl
  by_cases h1 : v < 0
  · rw [if_pos h1]; exact ⟨0, by omega, rfl⟩
  · rw [if_neg h1]
    by_cases h2 : v ≤ nI n
    · rw [if_pos h2]
      obtain ⟨g, hg, e⟩ := nI_of2 (n := n) (nI_toInt hn) h1 h2
      exact ⟨g, hg, e⟩
    · rw [if_neg h2]; exact ⟨n, Nat.le_refl _, rfl⟩
def mv_wth (F : Nat → Int32) (kd : Nat → Nat) (ca cb : mv_CD) (kind : Nat) (b : Int32) : Nat → Nat → Int32
  | 0, _ => 0
  | f + 1, j => if kd j = kind ∧ mv_ev F (cb j) 0 [] = some 1 then mv_kl b ((mv_ev F (ca j) 0 []).getD 0) else mv_wth F kd ca cb kind b f (j + 1)
theorem mv_wth_b {n : Nat} (hn : n < 2147483648) {F : Nat → Int32} {kd : Nat → Nat} {ca cb : mv_CD} {kind : Nat} : ∀ f j, ∃ w, w ≤ n ∧ mv_wth F kd ca cb kind (nI n) f j = nI w
  | 0, j => ⟨0, by omega, rfl⟩
  | f + 1, j => by
    unfold mv_wth
    split
    · exact mv_kl_b hn _
    · exact mv_wth_b hn f (j + 1)
def mv_fb (F : Nat → Int32) (kd : Nat → Nat) (cb : mv_CD) : Nat → Nat → Bool
  | 0, _ => false
  | f + 1, j => if kd j = 120 ∧ mv_ev F (cb j) 0 [] = some 1 then true else mv_fb F kd cb f (j + 1)
section MV43
variable {sl d : Nat} {M : mj_M} {nr : Nat} {kd : Nat → Nat} {ca cb : mv_CD} {F : Nat → Int32}
theorem c_worth {R kind n : Nat} (hR : mj_ocl R = 1) (C : mv_LC M R nr kd ca cb) (S : mv_LS nr kd ca cb) (hF : ∀ v, v < 9 → M (R + 3) v = F v) (hk : kind < 256) (hk2 : ¬ kind = 120) (hn : 0 < nI n) : ∃ M', mj_C sl (d + 2) i_X3_worth [.ref R, .int (nI kind), .int (nI n)] M = some (mv_wth F kd ca cb kind (nI n) nr 0, M') ∧ mv_fr (fun a _ => a = R + 2) M M' := by
  rw [b_X3_worth hR]
  obtain ⟨S1, S2⟩ := S
  have L : ∀ f j, j + f = nr → ∀ M', mv_fr (fun a _ => a = R + 2) M M' → ∃ M'', mj_E sl (d + 1 + 1) i_X3_worth 2 [.ref R, .int (nI kind), .int (nI n), .int (nI j)] [] M' = some (mv_wth F kd ca cb kind (nI n) f j, M'') ∧ mv_fr (fun a _ => a = R + 2) M M'' := by
    intro f
    induction f with
    | zero =>
      intro j hj M' g
      have C' := C.fr g (fun a k z => by omega)
      rw [b_X3_worth_2 hR, C'.1, if_neg (by rw [s_lt (by omega) (by omega)]; omega)]
      exact ⟨M', rfl, g⟩
    | succ f ih =>
      intro j hj M' g
      have C' := C.fr g (fun a k z => by omega)
      obtain ⟨c1, len, c2, c3, c4⟩ := id C'
      obtain ⟨k1, La, Lb, k2, k3, k4, k5, k6, k7, k8, k9⟩ := c4 j (by omega)
      obtain ⟨s1, s2, s3⟩ := S2 j (by omega)
      rw [b_X3_worth_2 hR, c1]
      simp (disch := omega) only [s_lt, show j < nr by omega, if_true, s_in, s_cl, k1, s_eq, k3, s_addL]
      unfold mv_wth
      by_cases q : kd j = kind
      · simp only [q, if_true, true_and]
        have hF' : ∀ v, v < 9 → M' (R + 3) v = F v := fun v hv => by rw [g _ _ (by omega)]; exact hF v hv
        rcases s3 F with e | e
        · obtain ⟨M1, r1, g1⟩ := c_run (sl := sl) (d := d) hR c2 c3 hF' k7 k8 k9 e
          rw [r1, e, if_neg (by simp)]
          simp only [Option.bind_some, if_true]
          exact ih (j + 1) (by omega) M1 (g.tr g1)
        · obtain ⟨M1, r1, g1⟩ := c_run (sl := sl) (d := d) hR c2 c3 hF' k7 k8 k9 e
          obtain ⟨v, e2⟩ := s2 (by omega) F
          have C1 := C'.fr g1 (fun a k z => by omega)
          have hF1 : ∀ v, v < 9 → M1 (R + 3) v = F v := fun v hv => by rw [g1 _ _ (by omega)]; exact hF' v hv
          have m5 : M1 (R + 5) j = nI La := by rw [g1 _ _ (by omega)]; exact k2
          have m6 : M1 R 6 = nI len := by rw [g1 _ _ (by omega)]; exact c3
          have mm : M1 (R + 1) = M' (R + 1) := funext (fun k => g1 _ k (by omega))
          obtain ⟨M2, r2, g2⟩ := c_run (sl := sl) (d := d) (L := La) hR c2 m6 hF1 (by rw [mm]; exact k4) (by rw [mm]; exact k5) k6 e2
          rw [r1, e, if_pos rfl, e2]
          simp only [Option.bind_some, s_10, if_false, m5]
          rw [r2]
          simp only [Option.bind_some, Option.getD_some, mv_klE hn]
          exact ⟨M2, rfl, (g.tr g1).tr g2⟩
      · simp only [q, if_false, false_and]
        exact ih (j + 1) (by omega) M' g
  exact L nr 0 (by omega) M mv_fr.rf
theorem c_forbids {R : Nat} (hR : mj_ocl R = 1) (C : mv_LC M R nr kd ca cb) (S : mv_LS nr kd ca cb) (hF : ∀ v, v < 9 → M (R + 3) v = F v) : ∃ M', mj_C sl (d + 2) i_X3_forbids [.ref R] M = some (if mv_fb F kd cb nr 0 = true then 1 else 0, M') ∧ mv_fr (fun a _ => a = R + 2) M M' := by
  rw [b_X3_forbids hR]
  obtain ⟨S1, S2⟩ := S
  have L : ∀ f j, j + f = nr → ∀ M', mv_fr (fun a _ => a = R + 2) M M' → ∃ M'', mj_E sl (d + 1 + 1) i_X3_forbids 2 [.ref R, .int (nI j)] [] M' = some (if mv_fb F kd cb f j = true then 1 else 0, M'') ∧ mv_fr (fun a _ => a = R + 2) M M'' := by
    intro f
    induction f with
    | zero =>
      intro j hj M' g
      have C' := C.fr g (fun a k z => by omega)
      rw [b_X3_forbids_2 hR, C'.1, if_neg (by rw [s_lt (by omega) (by omega)]; omega)]
      exact ⟨M', rfl, g⟩
    | succ f ih =>
      intro j hj M' g
      have C' := C.fr g (fun a k z => by omega)
      obtain ⟨c1, len, c2, c3, c4⟩ := id C'
      obtain ⟨k1, La, Lb, k2, k3, k4, k5, k6, k7, k8, k9⟩ := c4 j (by omega)
      obtain ⟨s1, s2, s3⟩ := S2 j (by omega)
      rw [b_X3_forbids_2 hR, c1]
      simp (disch := omega) only [s_lt, show j < nr by omega, if_true, s_in, s_cl, k1, s_eqL, k3, s_addL]
      unfold mv_fb
      by_cases q : kd j = 120
      · simp only [q, if_true, true_and]
        have hF' : ∀ v, v < 9 → M' (R + 3) v = F v := fun v hv => by rw [g _ _ (by omega)]; exact hF v hv
        rcases s3 F with e | e
        · obtain ⟨M1, r1, g1⟩ := c_run (sl := sl) (d := d) hR c2 c3 hF' k7 k8 k9 e
          rw [r1, e, if_neg (show ¬ some (0 : Int32) = some 1 by simp)]
          simp only [Option.bind_some, if_true]
          exact ih (j + 1) (by omega) M1 (g.tr g1)
        · obtain ⟨M1, r1, g1⟩ := c_run (sl := sl) (d := d) hR c2 c3 hF' k7 k8 k9 e
          rw [r1, e, if_pos (show some (1 : Int32) = some 1 from rfl)]
          simp only [Option.bind_some, s_10, if_false, if_true]
          exact ⟨M1, rfl, g.tr g1⟩
      · simp only [q, if_false, false_and]
        exact ih (j + 1) (by omega) M' g
  exact L nr 0 (by omega) M mv_fr.rf
theorem r_byLaw {kind n : Nat} (C : mv_LR M nr kd ca cb) (S : mv_LS nr kd ca cb) (hF : ∀ v, v < 9 → M 63 v = F v) (hk : kind < 256) (hk2 : ¬ kind = 120) : ∃ M', mj_C sl (d + 2) i_X9_byLaw [.ref 45, .int (nI kind), .int (nI n)] M = some (mv_wth F kd ca cb kind (nI n) nr 0, M') ∧ mv_fr (fun a _ => a = 62) M M' := by
  rw [b_X9_byLaw]
  obtain ⟨S1, S2⟩ := S
  have L : ∀ f j, j + f = nr → ∀ M', mv_fr (fun a _ => a = 62) M M' → ∃ M'', mj_E sl (d + 1 + 1) i_X9_byLaw 2 [.ref 45, .int (nI kind), .int (nI n), .int (nI j), .null] [] M' = some (mv_wth F kd ca cb kind (nI n) f j, M'') ∧ mv_fr (fun a _ => a = 62) M M'' := by
    intro f
    induction f with
    | zero =>
      intro j hj M' g
      have C' := C.fr g (fun a k z => by omega)
      rw [b_X9_byLaw_2, C'.1, if_neg (by rw [s_lt (by omega) (by omega)]; omega)]
      exact ⟨M', rfl, g⟩
    | succ f ih =>
      intro j hj M' g
      have C' := C.fr g (fun a k z => by omega)
      obtain ⟨c1, c4⟩ := id C'
      obtain ⟨k1, Cc, k2, k3, k4, k5, k6, k7⟩ := c4 j (by omega)
      obtain ⟨s1, s2, s3⟩ := S2 j (by omega)
      rw [b_X9_byLaw_2, c1]
      simp (disch := omega) only [s_lt, show j < nr by omega, if_true, s_in, s_cl, k1, s_eq, k3, k4, s_addL]
      unfold mv_wth
      by_cases q : kd j = kind
      · simp only [q, if_true, true_and]
        have hF' : ∀ v, v < 9 → M' 63 v = F v := fun v hv => by rw [g _ _ (by omega)]; exact hF v hv
        rcases s3 F with e | e
        · obtain ⟨M1, r1, g1⟩ := r_comes (sl := sl) (d := d) k7 hF' k6 e
          rw [r1, e, if_neg (show ¬ some (0 : Int32) = some 1 by simp)]
          simp only [Option.bind_some, s_01, if_false]
          exact ih (j + 1) (by omega) M1 (g.tr g1)
        · obtain ⟨M1, r1, g1⟩ := r_comes (sl := sl) (d := d) k7 hF' k6 e
          obtain ⟨v, e2⟩ := s2 (by omega) F
          have hF1 : ∀ v, v < 9 → M1 63 v = F v := fun v hv => by rw [g1 _ _ (by omega)]; exact hF' v hv
          have m5 : M1 59 j = nI Cc := by rw [g1 _ _ (by omega)]; exact k2
          have m6 : M1 60 j = nI (Cc + (ca j).length) := by rw [g1 _ _ (by omega)]; exact k3
          have mm : M1 57 = M' 57 := funext (fun k => g1 _ k (by omega))
          obtain ⟨M2, r2, g2⟩ := r_comes (sl := sl) (d := d) (M := M1) (C := Cc) (c := ca j) (by omega) hF1 (by rw [mm]; exact k5) e2
          rw [r1, e, if_pos (show some (1 : Int32) = some 1 from rfl), e2]
          simp only [Option.bind_some, if_true, m5, m6]
          rw [r2]
          simp only [Option.bind_some, Option.getD_some]
          refine ⟨M2, ?_, (g.tr g1).tr g2⟩
          unfold mv_kl
          by_cases h1 : v < 0
          · simp only [h1, if_true]
          · by_cases h2 : v ≤ nI n
            · simp only [h1, h2, if_true, if_false]
            · simp only [h1, h2, if_false]
      · simp only [q, if_false, false_and]
        exact ih (j + 1) (by omega) M' g
  exact L nr 0 (by omega) M mv_fr.rf
theorem r_holdsAny (C : mv_LR M nr kd ca cb) (S : mv_LS nr kd ca cb) (hF : ∀ v, v < 9 → M 63 v = F v) : ∃ M', mj_C sl (d + 2) i_X9_holdsAny [.ref 45, .int 120] M = some (if mv_fb F kd cb nr 0 = true then 1 else 0, M') ∧ mv_fr (fun a _ => a = 62) M M' := by
  rw [b_X9_holdsAny]
  obtain ⟨S1, S2⟩ := S
  have L : ∀ f j, j + f = nr → ∀ M', mv_fr (fun a _ => a = 62) M M' → ∃ M'', mj_E sl (d + 1 + 1) i_X9_holdsAny 2 [.ref 45, .int 120, .int (nI j)] [] M' = some (if mv_fb F kd cb f j = true then 1 else 0, M'') ∧ mv_fr (fun a _ => a = 62) M M'' := by
    intro f
    induction f with
    | zero =>
      intro j hj M' g
      have C' := C.fr g (fun a k z => by omega)
      rw [b_X9_holdsAny_2, C'.1, if_neg (by rw [s_lt (by omega) (by omega)]; omega)]
      exact ⟨M', rfl, g⟩
    | succ f ih =>
      intro j hj M' g
      have C' := C.fr g (fun a k z => by omega)
      obtain ⟨c1, c4⟩ := id C'
      obtain ⟨k1, Cc, k2, k3, k4, k5, k6, k7⟩ := c4 j (by omega)
      obtain ⟨s1, s2, s3⟩ := S2 j (by omega)
      rw [b_X9_holdsAny_2, c1]
      simp (disch := omega) only [s_lt, show j < nr by omega, if_true, s_in, s_cl, k1, s_eqL, k3, k4, s_addL]
      unfold mv_fb
      by_cases q : kd j = 120
      · simp only [q, if_true, true_and]
        have hF' : ∀ v, v < 9 → M' 63 v = F v := fun v hv => by rw [g _ _ (by omega)]; exact hF v hv
        rcases s3 F with e | e
        · obtain ⟨M1, r1, g1⟩ := r_comes (sl := sl) (d := d) k7 hF' k6 e
          rw [r1, e, if_neg (show ¬ some (0 : Int32) = some 1 by simp)]
          simp only [Option.bind_some, s_01, if_false]
          exact ih (j + 1) (by omega) M1 (g.tr g1)
        · obtain ⟨M1, r1, g1⟩ := r_comes (sl := sl) (d := d) k7 hF' k6 e
          rw [r1, e, if_pos (show some (1 : Int32) = some 1 from rfl)]
          simp only [Option.bind_some, if_true]
          exact ⟨M1, rfl, g.tr g1⟩
      · simp only [q, if_false, false_and]
        exact ih (j + 1) (by omega) M' g
  exact L nr 0 (by omega) M mv_fr.rf
end MV43
