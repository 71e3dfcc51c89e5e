theorem mv_u1 {op v : Nat} (h : op ≤ 14) (hv : v < 1048576) : nI (1048576 * op + v) / 1048576 = nI op := by
  rw [show (1048576 : Int32) = nI 1048576 from rfl, pk_div (by omega) (by decide) (by decide)]
  congr 1
  omega
theorem mv_u2 {op v : Nat} (h : op ≤ 14) (hv : v < 1048576) : mj_rm (nI (1048576 * op + v)) 1048576 = nI v := by
  rw [s_rmL (by omega) (by decide) (by decide)]
  congr 1
  omega
section MV42
variable {sl d : Nat} {M : mj_M} {w1 w6 w7 : Value}
theorem r_kNum {top C to v : Nat} (hC : C < to) (ht : to ≤ 260) (htop : top < 32) (hv : v < 100000) (hc : M 57 C = nI (1048576 * 0 + v)) : ∃ w w', mj_E sl (d + 1) i_X9_comesTo 16 [.ref 45, w1, .int (nI to), .int (nI top), .int 0, .int (nI C), w6, w7] [] M = mj_E sl (d + 1) i_X9_comesTo 16 [.ref 45, w1, .int (nI to), .int (nI (top + 1)), .int 0, .int (nI (C + 1)), w, w'] [] (mj_st M 62 top (nI v)) := by
  have u1 := mv_u1 (op := 0) (v := v) (by omega) (by omega)
  have u2 := mv_u2 (op := 0) (v := v) (by omega) (by omega)
  rw [← hc] at u1 u2
  rw [b_X9_comesTo_16]
  rw [if_pos (show nI C < nI to from (mq_lt (by omega) (by omega)).mpr hC), if_pos (mq_inT (show C < 260 by omega) (by decide)), if_pos (mq_inT (show C < 260 by omega) (by decide)), nI_clamp (show C < 2147483648 by omega), u1, u2]
  rw [if_pos (show nI 0 = 0 from rfl), b_X9_comesTo_63, if_pos (show nI 0 = 0 from rfl)]
  simp (disch := omega) only [s_in, s_cl, if_true, s_addL]
  exact ⟨_, _, rfl⟩
theorem r_kNam {top C to v : Nat} (hC : C < to) (ht : to ≤ 260) (htop : top < 32) (hv : v < 9) (hc : M 57 C = nI (1048576 * 1 + v)) : ∃ w w', mj_E sl (d + 1) i_X9_comesTo 16 [.ref 45, w1, .int (nI to), .int (nI top), .int 0, .int (nI C), w6, w7] [] M = mj_E sl (d + 1) i_X9_comesTo 16 [.ref 45, w1, .int (nI to), .int (nI (top + 1)), .int 0, .int (nI (C + 1)), w, w'] [] (mj_st M 62 top (M 63 v)) := by
  have u1 := mv_u1 (op := 1) (v := v) (by omega) (by omega)
  have u2 := mv_u2 (op := 1) (v := v) (by omega) (by omega)
  rw [← hc] at u1 u2
  rw [b_X9_comesTo_16]
  rw [if_pos (show nI C < nI to from (mq_lt (by omega) (by omega)).mpr hC), if_pos (mq_inT (show C < 260 by omega) (by decide)), if_pos (mq_inT (show C < 260 by omega) (by decide)), nI_clamp (show C < 2147483648 by omega), u1, u2]
  rw [if_neg (show ¬ nI 1 = 0 by decide), if_pos (show nI 1 = 1 from rfl), b_X9_comesTo_63, if_neg (show ¬ nI 1 = 0 by decide)]
  simp (disch := omega) only [s_in, s_cl, if_true, s_addL]
  exact ⟨_, _, rfl⟩
theorem r_kNot {C to v : Nat} (hC : C < to) (ht : to ≤ 260) (hv : v < 100000) (hc : M 57 C = nI (1048576 * 10 + v)) : ∃ w w', mj_E sl (d + 1) i_X9_comesTo 16 [.ref 45, w1, .int (nI to), .int (nI 1), .int 0, .int (nI C), w6, w7] [] M = mj_E sl (d + 1) i_X9_comesTo 16 [.ref 45, w1, .int (nI to), .int (nI 1), .int 0, .int (nI (C + 1)), w, w'] [] (mj_st M 62 0 (1 - M 62 0)) := by
  have u1 := mv_u1 (op := 10) (v := v) (by omega) (by omega)
  have u2 := mv_u2 (op := 10) (v := v) (by omega) (by omega)
  have e0 : nI 1 - 1 = nI 0 := rfl
  rw [← hc] at u1 u2
  rw [b_X9_comesTo_16, e0]
  rw [if_pos (show nI C < nI to from (mq_lt (by omega) (by omega)).mpr hC), if_pos (mq_inT (show C < 260 by omega) (by decide)), if_pos (mq_inT (show C < 260 by omega) (by decide)), nI_clamp (show C < 2147483648 by omega), u1, u2]
  rw [if_neg (show ¬ nI 10 = 0 by decide), if_neg (show ¬ nI 10 = 1 by decide), if_pos (show nI 10 = 10 from rfl)]
  simp (disch := omega) only [s_addL]
  exact ⟨_, _, rfl⟩
theorem r_kLeap {C to op v : Nat} {b : Int32} (hC : C < to) (ht : to ≤ 260) (ho : op = 11 ∨ op = 12) (hv : v < 100000) (hc : M 57 C = nI (1048576 * op + v)) (hb : M 62 0 = b) : ∃ w w', mj_E sl (d + 1) i_X9_comesTo 16 [.ref 45, w1, .int (nI to), .int (nI 1), .int 0, .int (nI C), w6, w7] [] M = if (op = 11 ∧ b = 0) ∨ (op = 12 ∧ b = 1) then mj_E sl (d + 1) i_X9_comesTo 16 [.ref 45, w1, .int (nI to), .int (nI 1), .int 0, .int (nI v), w, w'] [] M else mj_E sl (d + 1) i_X9_comesTo 16 [.ref 45, w1, .int (nI to), .int (nI 0), .int 0, .int (nI (C + 1)), w, w'] [] M := by
  have u1 := mv_u1 (op := op) (v := v) (by omega) (by omega)
  have u2 := mv_u2 (op := op) (v := v) (by omega) (by omega)
  have e0 : nI 1 - 1 = nI 0 := rfl
  have e1 : (0 : Int32) + nI v = nI v := Int32.zero_add _
  rw [← hc] at u1 u2
  rw [b_X9_comesTo_16]
  rw [if_pos (show nI C < nI to from (mq_lt (by omega) (by omega)).mpr hC), if_pos (mq_inT (show C < 260 by omega) (by decide)), if_pos (mq_inT (show C < 260 by omega) (by decide)), nI_clamp (show C < 2147483648 by omega), u1, u2]
  rcases ho with rfl | rfl
  · rw [if_neg (show ¬ nI 11 = 0 by decide), if_neg (show ¬ nI 11 = 1 by decide), if_neg (show ¬ nI 11 = 10 by decide), if_pos (show nI 11 = 11 from rfl), b_X9_comesTo_135, e0, e1, if_neg (show ¬ nI 11 = 12 by decide)]
    simp (disch := omega) only [s_in, s_cl, if_true, s_addL, hb]
    by_cases q : b = 0
    · simp only [q, if_true, true_and, true_or, and_self]
      exact ⟨_, _, rfl⟩
    · simp only [q, if_false, and_false, false_or, show ¬ (11 : Nat) = 12 by omega, false_and]
      exact ⟨_, _, rfl⟩
  · rw [if_neg (show ¬ nI 12 = 0 by decide), if_neg (show ¬ nI 12 = 1 by decide), if_neg (show ¬ nI 12 = 10 by decide), if_neg (show ¬ nI 12 = 11 by decide), if_pos (show nI 12 = 12 from rfl), b_X9_comesTo_135, e0, e1, if_pos (show nI 12 = 12 from rfl)]
    simp (disch := omega) only [s_in, s_cl, if_true, s_addL, hb]
    by_cases q : b = 1
    · simp only [q, if_true, true_and, or_true, and_self]
      exact ⟨_, _, rfl⟩
    · simp only [q, if_false, and_false, or_false, show ¬ (12 : Nat) = 11 by omega, false_and]
      exact ⟨_, _, rfl⟩
theorem r_kBin {top C to op v : Nat} {x y : Int32} (hC : C < to) (ht : to ≤ 260) (htop : top + 2 ≤ 32) (h2 : 2 ≤ op) (h9 : op ≤ 9) (hv : v < 100000) (hc : M 57 C = nI (1048576 * op + v)) (hx : M 62 top = x) (hy : M 62 (top + 1) = y) : ∃ w w', mj_E sl (d + 1) i_X9_comesTo 16 [.ref 45, w1, .int (nI to), .int (nI (top + 2)), .int 0, .int (nI C), w6, w7] [] M = if (op = 5 ∨ op = 6) ∧ y = 0 then some (0, M) else mj_E sl (d + 1) i_X9_comesTo 16 [.ref 45, w1, .int (nI to), .int (nI (top + 1)), .int 0, .int (nI (C + 1)), w, w'] [] (mj_st M 62 top (mv_op op x y)) := by
  have u1 := mv_u1 (op := op) (v := v) (by omega) (by omega)
  have u2 := mv_u2 (op := op) (v := v) (by omega) (by omega)
  have e1 : nI (top + 2) - 1 = nI (top + 1) := (show nI (top + 2) - nI 1 = nI (top + 1) from pk_sub (by omega))
  have e2 : nI (top + 1) - 1 = nI top := (show nI (top + 1) - nI 1 = nI top from pk_sub (by omega))
  rw [← hc] at u1 u2
  rw [b_X9_comesTo_16, e1, e2]
  rw [if_pos (show nI C < nI to from (mq_lt (by omega) (by omega)).mpr hC), if_pos (mq_inT (show C < 260 by omega) (by decide)), if_pos (mq_inT (show C < 260 by omega) (by decide)), nI_clamp (show C < 2147483648 by omega), u1, u2]
  simp (disch := omega) only [if_true, s_in, s_cl, s_eqL, show ¬ op = 0 by omega, show ¬ op = 1 by omega, show ¬ op = 10 by omega, show ¬ op = 11 by omega, show ¬ op = 12 by omega, if_false, hx, hy, s_addL]
  have e192 : (op = 5 ∨ op = 6) → ∃ w, mj_E sl (d + 1) i_X9_comesTo 192 [.ref 45, w1, .int (nI to), .int (nI (top + 1)), .int 0, .int (nI (C + 1)), .int (nI op), .int (nI v)] [] M = if (op = 5 ∨ op = 6) ∧ y = 0 then some (0, M) else mj_E sl (d + 1) i_X9_comesTo 16 [.ref 45, w1, .int (nI to), .int (nI (top + 1)), .int 0, .int (nI (C + 1)), .int (nI op), w] [] (mj_st M 62 top (mv_op op x y)) := fun ho => by
    rw [b_X9_comesTo_192, e2]
    simp (disch := omega) only [s_in, s_cl, if_true, hy, hx]
    by_cases q : y = 0
    · refine ⟨.null, ?_⟩
      rw [if_pos (show (op = 5 ∨ op = 6) ∧ y = 0 from ⟨ho, q⟩), if_pos q]
    · refine ⟨.int (nI v), ?_⟩
      rw [if_neg (show ¬ ((op = 5 ∨ op = 6) ∧ y = 0) from fun z => q z.2), if_neg q, r_reckon h2 h9 (fun z => q z.2)]
      rfl
  by_cases o5 : op = 5
  · obtain ⟨w', e⟩ := e192 (Or.inl o5)
    refine ⟨.int (nI op), w', ?_⟩
    rw [if_pos o5]
    exact e
  · by_cases o6 : op = 6
    · obtain ⟨w', e⟩ := e192 (Or.inr o6)
      refine ⟨.int (nI op), w', ?_⟩
      rw [if_neg o5, if_pos o6]
      exact e
    · have hd : ¬ ((op = 5 ∨ op = 6) ∧ y = 0) := fun z => by rcases z.1 with z | z <;> contradiction
      refine ⟨.int (nI op), .int (nI v), ?_⟩
      rw [if_neg o5, if_neg o6, if_neg hd, r_reckon h2 h9 hd]
      rfl
theorem r_comes0 {F : Nat → Int32} {to : Nat} (ht : to ≤ 260) (hF : ∀ v, v < 9 → M 63 v = F v) : ∀ (m : Nat) (c : List (Nat × Nat)) (C : Nat) (stk : List Int32) (M' : mj_M) (w6 w7 : Value) (r : Int32), c.length ≤ m → mv_rc (M 57) C c → C + c.length = to → mv_fr (fun a _ => a = 62) M M' → mv_sk (M' 62) stk → stk.length ≤ 32 → mv_ev F c 0 stk = some r → ∃ M'', mj_E sl (d + 1) i_X9_comesTo 16 [.ref 45, w1, .int (nI to), .int (nI stk.length), .int 0, .int (nI C), w6, w7] [] M' = some (r, M'') ∧ mv_fr (fun a _ => a = 62) M M'' := by
  intro m
  induction m with
  | zero =>
    intro c C stk M' w6 w7 r hm cc ce f sk h32 ev
    have hc : c = [] := List.eq_nil_of_length_eq_zero (by omega)
    subst hc
    have hk := mv_ev_nil ev
    subst hk
    refine ⟨M', ?_, f⟩
    have sk0 : M' 62 0 = r := sk.1
    have ce' : C = to := ce
    rw [b_X9_comesTo_16, ce', if_neg Int32.lt_irrefl, sk0]
  | succ m ih =>
    intro c C stk M' w6 w7 r hm cc ce f sk h32 ev
    cases c with
    | nil => exact ih [] C stk M' w6 w7 r (Nat.zero_le _) cc ce f sk h32 ev
    | cons x xs =>
      have gc : ∀ j, M' 57 j = M 57 j := fun j => f _ _ (by omega)
      have gk : ∀ j, M' 63 j = M 63 j := fun j => f _ _ (by omega)
      obtain ⟨⟨e, q1, q2, q3, q4⟩, h2⟩ := cc
      have hxl0 : (x :: xs).length = xs.length + 1 := rfl
      have hxl : xs.length ≤ m := by omega
      rw [hxl0] at ce
      have ev' : mv_es F x (mv_ev F xs) stk = some r := ev
      by_cases a0 : x.1 = 0
      · rw [a0, if_neg (by omega)] at e
        obtain ⟨k1, k2⟩ := mv_es_num a0 ev'
        obtain ⟨w, w', e3⟩ := r_kNum (M := M') (sl := sl) (d := d) (w1 := w1) (w6 := w6) (w7 := w7) (show C < to by omega) ht k1 q2 (by rw [gc]; exact e)
        rw [e3]
        exact ih xs (C + 1) (nI x.2 :: stk) _ w w' r hxl h2 (by omega) (f.st rfl) (mv_sk_push sk) k1 k2
      by_cases a1 : x.1 = 1
      · rw [a1, if_neg (by omega)] at e
        obtain ⟨k1, k2⟩ := mv_es_nam a1 ev'
        obtain ⟨w, w', e3⟩ := r_kNam (M := M') (sl := sl) (d := d) (w1 := w1) (w6 := w6) (w7 := w7) (show C < to by omega) ht k1 (q3 a1) (by rw [gc]; exact e)
        rw [e3, gk, hF _ (q3 a1)]
        exact ih xs (C + 1) (F x.2 :: stk) _ w w' r hxl h2 (by omega) (f.st rfl) (mv_sk_push sk) k1 k2
      by_cases a10 : x.1 = 10
      · rw [a10, if_neg (by omega)] at e
        obtain ⟨v, v', hk, k2, hv⟩ : ∃ v v' : Int32, stk = [v] ∧ mv_ev F xs 0 [v'] = some r ∧ 1 - v = v' := by
          rcases mv_es_not a10 ev' with ⟨k1, k2⟩ | ⟨k1, k2⟩
          · exact ⟨0, 1, k1, k2, by decide⟩
          · exact ⟨1, 0, k1, k2, by decide⟩
        subst hk
        have sk0 : M' 62 0 = v := sk.1
        obtain ⟨w, w', e3⟩ := r_kNot (M := M') (sl := sl) (d := d) (w1 := w1) (w6 := w6) (w7 := w7) (show C < to by omega) ht q2 (by rw [gc]; exact e)
        rw [sk0, hv] at e3
        have e4 := ih xs (C + 1) [v'] (mj_st M' 62 0 v') w w' r hxl h2 (by omega) (f.st rfl) ⟨mq_st_eq, trivial⟩ h32 k2
        show ∃ M'', mj_E sl (d + 1) i_X9_comesTo 16 [.ref 45, w1, .int (nI to), .int (nI 1), .int 0, .int (nI C), w6, w7] [] M' = some (r, M'') ∧ mv_fr (fun a _ => a = 62) M M''
        rw [e3]
        exact e4
      by_cases aj : x.1 = 11 ∨ x.1 = 12
      · rw [if_pos aj] at e
        have b := q4 aj
        obtain ⟨v, hk, hv⟩ : ∃ v : Int32, stk = [v] ∧ ((((x.1 = 11 ∧ v = 0) ∨ (x.1 = 12 ∧ v = 1)) ∧ mv_ev F xs x.2 [v] = some r) ∨ (¬ ((x.1 = 11 ∧ v = 0) ∨ (x.1 = 12 ∧ v = 1)) ∧ mv_ev F xs 0 [] = some r)) := by
          rcases aj with a | a
          · rcases mv_es_and a ev' with ⟨k1, k2⟩ | ⟨k1, k2⟩
            · exact ⟨0, k1, Or.inl ⟨Or.inl ⟨a, rfl⟩, k2⟩⟩
            · refine ⟨1, k1, Or.inr ⟨fun z => ?_, k2⟩⟩
              rcases z with z | z
              · exact absurd z.2 (by decide)
              · omega
          · rcases mv_es_or a ev' with ⟨k1, k2⟩ | ⟨k1, k2⟩
            · exact ⟨1, k1, Or.inl ⟨Or.inr ⟨a, rfl⟩, k2⟩⟩
            · refine ⟨0, k1, Or.inr ⟨fun z => ?_, k2⟩⟩
              rcases z with z | z
              · omega
              · exact absurd z.2 (by decide)
        subst hk
        have sk0 : M' 62 0 = v := sk.1
        obtain ⟨w, w', e3⟩ := r_kLeap (M := M') (sl := sl) (d := d) (w1 := w1) (w6 := w6) (w7 := w7) (show C < to by omega) ht aj (show C + 1 + x.2 < 100000 by omega) (by rw [gc]; exact e) sk0
        show ∃ M'', mj_E sl (d + 1) i_X9_comesTo 16 [.ref 45, w1, .int (nI to), .int (nI 1), .int 0, .int (nI C), w6, w7] [] M' = some (r, M'') ∧ mv_fr (fun a _ => a = 62) M M''
        rw [e3]
        rcases hv with ⟨hv, k2⟩ | ⟨hv, k2⟩
        · rw [if_pos hv]
          rw [mv_ev_dr F xs x.2 [v] b] at k2
          have hdl : (xs.drop x.2).length = xs.length - x.2 := List.length_drop
          exact ih (xs.drop x.2) (C + 1 + x.2) [v] M' w w' r (by omega) (mv_rc_dr xs (C + 1) x.2 b h2) (by omega) f sk h32 k2
        · rw [if_neg hv]
          exact ih xs (C + 1) [] M' w w' r hxl h2 (by omega) f trivial (Nat.zero_le _) k2
      · rw [if_neg aj] at e
        obtain ⟨y, z, t, hk, k2⟩ := mv_es_bin (by omega) (by omega) ev'
        subst hk
        have h32' : t.length + 2 ≤ 32 := h32
        obtain ⟨s1, s2, s3⟩ := sk
        obtain ⟨w, w', e3⟩ := r_kBin (M := M') (sl := sl) (d := d) (w1 := w1) (w6 := w6) (w7 := w7) (top := t.length) (show C < to by omega) ht h32' (show 2 ≤ x.1 by omega) (show x.1 ≤ 9 by omega) q2 (by rw [gc]; exact e) s2 s1
        show ∃ M'', mj_E sl (d + 1) i_X9_comesTo 16 [.ref 45, w1, .int (nI to), .int (nI (t.length + 2)), .int 0, .int (nI C), w6, w7] [] M' = some (r, M'') ∧ mv_fr (fun a _ => a = 62) M M''
        rw [e3]
        rcases k2 with ⟨k2, k3⟩ | ⟨k2, k3⟩
        · rw [if_pos k2, k3]
          exact ⟨M', rfl, f⟩
        · rw [if_neg k2]
          exact ih xs (C + 1) (mv_op x.1 z y :: t) _ w w' r hxl h2 (by omega) (f.st rfl) (mv_sk_push s3) (by show t.length + 1 ≤ 32; omega) k3
theorem r_comes {F : Nat → Int32} {C : Nat} {c : List (Nat × Nat)} {r : Int32} (ht : C + c.length ≤ 260) (hF : ∀ v, v < 9 → M 63 v = F v) (cc : mv_rc (M 57) C c) (ev : mv_ev F c 0 [] = some r) : ∃ M'', mj_C sl (d + 1) i_X9_comesTo [.ref 45, .int (nI C), .int (nI (C + c.length))] M = some (r, M'') ∧ mv_fr (fun a _ => a = 62) M M'' := by
  rw [b_X9_comesTo]
  have h0 : 1 ≤ c.length := by
    cases c with
    | nil => exact absurd ev (by simp [mv_ev])
    | cons x xs => simp only [List.length_cons]; omega
  have e0 : (260 : Int32) * (nI C / 260) = 0 := by
    rw [show (260 : Int32) = nI 260 from rfl, pk_div (by omega) (by decide) (by decide), Nat.div_eq_of_lt (by omega)]
    rfl
  rw [e0]
  exact r_comes0 ht hF c.length c C [] M .null .null r (Nat.le_refl _) cc rfl mv_fr.rf trivial (Nat.zero_le _) ev
end MV42
