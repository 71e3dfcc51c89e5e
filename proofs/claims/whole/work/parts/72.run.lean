theorem mv_es_num {F : Nat → Int32} {x : Nat × Nat} {K : Nat → List Int32 → Option Int32} {stk : List Int32} {r : Int32} (h : x.1 = 0) (e : mv_es F x K stk = some r) : stk.length < 32 ∧ K 0 (nI x.2 :: stk) = some r := by
  unfold mv_es at e
  rw [if_pos h] at e
  by_cases q : stk.length < 32
  · rw [if_pos q] at e; exact ⟨q, e⟩
  · rw [if_neg q] at e; exact absurd e (by simp)
theorem mv_es_nam {F : Nat → Int32} {x : Nat × Nat} {K : Nat → List Int32 → Option Int32} {stk : List Int32} {r : Int32} (h : x.1 = 1) (e : mv_es F x K stk = some r) : stk.length < 32 ∧ K 0 (F x.2 :: stk) = some r := by
  unfold mv_es at e
  rw [if_neg (by omega), if_pos h] at e
  by_cases q : stk.length < 32
  · rw [if_pos q] at e; exact ⟨q, e⟩
  · rw [if_neg q] at e; exact absurd e (by simp)
theorem mv_es_not {F : Nat → Int32} {x : Nat × Nat} {K : Nat → List Int32 → Option Int32} {stk : List Int32} {r : Int32} (h : x.1 = 10) (e : mv_es F x K stk = some r) : (stk = [0] ∧ K 0 [1] = some r) ∨ (stk = [1] ∧ K 0 [0] = some r) := by
  unfold mv_es at e
  rw [if_neg (by omega), if_neg (by omega), if_pos h] at e
  match stk, e with
  | [], e => exact absurd e (by simp)
  | [b], e =>
    by_cases q : b = 0
    · subst q; exact Or.inl ⟨rfl, e⟩
    · have e' : (if b = 0 then K 0 [1] else if b = 1 then K 0 [0] else none) = some r := e
      rw [if_neg q] at e'
      by_cases q1 : b = 1
      · rw [if_pos q1] at e'; subst q1; exact Or.inr ⟨rfl, e'⟩
      · rw [if_neg q1] at e'; exact absurd e' (by simp)
  | _ :: _ :: _, e => exact absurd e (by simp)
theorem mv_es_and {F : Nat → Int32} {x : Nat × Nat} {K : Nat → List Int32 → Option Int32} {stk : List Int32} {r : Int32} (h : x.1 = 11) (e : mv_es F x K stk = some r) : (stk = [0] ∧ K x.2 [0] = some r) ∨ (stk = [1] ∧ K 0 [] = some r) := by
  unfold mv_es at e
  rw [if_neg (by omega), if_neg (by omega), if_neg (by omega), if_pos h] at e
  match stk, e with
  | [], e => exact absurd e (by simp)
  | [b], e =>
    by_cases q : b = 0
    · subst q; exact Or.inl ⟨rfl, e⟩
    · have e' : (if b = 0 then K x.2 [0] else if b = 1 then K 0 [] else none) = some r := e
      rw [if_neg q] at e'
      by_cases q1 : b = 1
      · rw [if_pos q1] at e'; subst q1; exact Or.inr ⟨rfl, e'⟩
      · rw [if_neg q1] at e'; exact absurd e' (by simp)
  | _ :: _ :: _, e => exact absurd e (by simp)
theorem mv_es_or {F : Nat → Int32} {x : Nat × Nat} {K : Nat → List Int32 → Option Int32} {stk : List Int32} {r : Int32} (h : x.1 = 12) (e : mv_es F x K stk = some r) : (stk = [1] ∧ K x.2 [1] = some r) ∨ (stk = [0] ∧ K 0 [] = some r) := by
  unfold mv_es at e
  rw [if_neg (by omega), if_neg (by omega), if_neg (by omega), if_neg (by omega), if_pos h] at e
  match stk, e with
  | [], e => exact absurd e (by simp)
  | [b], e =>
    by_cases q : b = 1
    · subst q; exact Or.inl ⟨rfl, e⟩
    · have e' : (if b = 1 then K x.2 [1] else if b = 0 then K 0 [] else none) = some r := e
      rw [if_neg q] at e'
      by_cases q1 : b = 0
      · rw [if_pos q1] at e'; subst q1; exact Or.inr ⟨rfl, e'⟩
      · rw [if_neg q1] at e'; exact absurd e' (by simp)
  | _ :: _ :: _, e => exact absurd e (by simp)
theorem mv_es_bin {F : Nat → Int32} {x : Nat × Nat} {K : Nat → List Int32 → Option Int32} {stk : List Int32} {r : Int32} (h : 2 ≤ x.1) (h9 : x.1 ≤ 9) (e : mv_es F x K stk = some r) : ∃ y z t, stk = y :: z :: t ∧ ((((x.1 = 5 ∨ x.1 = 6) ∧ y = 0) ∧ r = 0) ∨ (¬ ((x.1 = 5 ∨ x.1 = 6) ∧ y = 0) ∧ K 0 (mv_op x.1 z y :: t) = some r)) := by
  unfold mv_es at e
  rw [if_neg (by omega), if_neg (by omega), if_neg (by omega), if_neg (by omega), if_neg (by omega), if_pos h9] at e
  match stk, e with
  | [], e => exact absurd e (by simp)
  | [_], e => exact absurd e (by simp)
  | y :: z :: t, e =>
    refine ⟨y, z, t, rfl, ?_⟩
    have e' : (if (x.1 = 5 ∨ x.1 = 6) ∧ y = 0 then some 0 else K 0 (mv_op x.1 z y :: t)) = some r := e
    by_cases q : (x.1 = 5 ∨ x.1 = 6) ∧ y = 0
    · rw [if_pos q] at e'
      injection e' with e'
      exact Or.inl ⟨q, e'.symm⟩
    · rw [if_neg q] at e'
      exact Or.inr ⟨q, e'⟩
theorem mv_ev_nil {F : Nat → Int32} {stk : List Int32} {r : Int32} (e : mv_ev F [] 0 stk = some r) : stk = [r] := by
  match stk, e with
  | [], e => exact absurd e (by simp [mv_ev])
  | [v], e =>
    have e' : some v = some r := e
    injection e' with e'
    rw [e']
  | _ :: _ :: _, e => exact absurd e (by simp [mv_ev])
theorem mv_sgn_b {op : Nat} (h2 : 2 ≤ op) (h : op ≤ 12) : 33 ≤ mv_sgn op ∧ mv_sgn op ≤ 124 := by
  have : op = 2 ∨ op = 3 ∨ op = 4 ∨ op = 5 ∨ op = 6 ∨ op = 7 ∨ op = 8 ∨ op = 9 ∨ op = 10 ∨ op = 11 ∨ op = 12 := by omega
  rcases this with rfl | rfl | rfl | rfl | rfl | rfl | rfl | rfl | rfl | rfl | rfl <;> decide
section MV41
variable {sl d t0 : Nat} {M : mj_M} {w1 w5 w6 : Value}
theorem c_rNum {top L s len v : Nat} (ht : mj_ocl t0 = 1) (hl : M t0 6 = nI len) (hL : L < len) (h480 : len ≤ 480) (hs : s ≤ L) (htop : top < 32) (hc : M (t0 + 1) L = nI (265 + v)) (hv : v ≤ 99999) : ∃ w, mj_E sl (d + 1) i_X3_run 7 [.ref t0, w1, .int (nI top), .int (nI L), .int (nI s), w5, w6] [] M = mj_E sl (d + 1) i_X3_run 7 [.ref t0, w1, .int (nI (top + 1)), .int (nI (L + 1)), .int (nI (s + 1)), w, w6] [] (mj_st M (t0 + 2) top (nI v)) := by
  rw [b_X3_run_7 ht]
  simp (disch := omega) only [s_cl, hc, hl, s_ltL, s_lt0, Nat.not_lt_zero, s_lt, show s < 480 by omega, hL, s_in, show ¬ 265 + v < 256 by omega, show ¬ 265 + v < 265 by omega, htop, if_true, if_false, s_addL, s_subL, show 265 + v - 265 = v by omega]
  exact ⟨_, rfl⟩
theorem c_rNam {top L s len v : Nat} (ht : mj_ocl t0 = 1) (hl : M t0 6 = nI len) (hL : L < len) (h480 : len ≤ 480) (hs : s ≤ L) (htop : top < 32) (hc : M (t0 + 1) L = nI (256 + v)) (hv : v < 9) : ∃ w, mj_E sl (d + 1) i_X3_run 7 [.ref t0, w1, .int (nI top), .int (nI L), .int (nI s), w5, w6] [] M = mj_E sl (d + 1) i_X3_run 7 [.ref t0, w1, .int (nI (top + 1)), .int (nI (L + 1)), .int (nI (s + 1)), w, w6] [] (mj_st M (t0 + 2) top (M (t0 + 3) v)) := by
  rw [b_X3_run_7 ht]
  simp (disch := omega) only [s_cl, hc, hl, s_ltL, s_lt0, Nat.not_lt_zero, s_lt, show s < 480 by omega, hL, s_in, show ¬ 256 + v < 256 by omega, show 256 + v < 265 by omega, htop, if_true, if_false, s_addL, s_subL, show 256 + v - 256 = v by omega]
  exact ⟨_, rfl⟩
theorem c_rNot {L s len : Nat} (ht : mj_ocl t0 = 1) (hl : M t0 6 = nI len) (hL : L + 1 < len) (h480 : len ≤ 480) (hs : s ≤ L) (hc : M (t0 + 1) L = nI 33) : ∃ w, mj_E sl (d + 1) i_X3_run 7 [.ref t0, w1, .int (nI 1), .int (nI L), .int (nI s), w5, w6] [] M = mj_E sl (d + 1) i_X3_run 7 [.ref t0, w1, .int (nI 1), .int (nI (L + 1)), .int (nI (s + 1)), w, w6] [] (mj_st M (t0 + 2) 0 (M (t0 + 2) 0 ^^^ 1)) := by
  have e0 : nI 1 - 1 = nI 0 := rfl
  rw [b_X3_run_7 ht, e0]
  simp (disch := omega) only [s_cl, hc, hl, s_ltL, s_lt0, Nat.not_lt_zero, s_lt, s_eqL, show s < 480 by omega, show L < len by omega, hL, s_in, show 33 < 256 by omega, show ¬ 33 = 0 by omega, show ¬ 1 < 1 by omega, if_true, if_false, s_addL]
  exact ⟨_, rfl⟩
theorem c_rLeap {L s len op to : Nat} {b : Int32} (ht : mj_ocl t0 = 1) (hl : M t0 6 = nI len) (hL : L + 1 < len) (h480 : len ≤ 480) (hs : s ≤ L) (ho : op = 11 ∨ op = 12) (hc : M (t0 + 1) L = nI (mv_sgn op)) (hc2 : M (t0 + 1) (L + 1) = nI to) (hb : M (t0 + 2) 0 = b) : ∃ w w', mj_E sl (d + 1) i_X3_run 7 [.ref t0, w1, .int (nI 1), .int (nI L), .int (nI s), w5, w6] [] M = if (op = 11 ∧ b = 0) ∨ (op = 12 ∧ ¬ b = 0) then mj_E sl (d + 1) i_X3_run 7 [.ref t0, w1, .int (nI 1), .int (nI to), .int (nI (s + 1)), w, w'] [] M else mj_E sl (d + 1) i_X3_run 7 [.ref t0, w1, .int (nI 0), .int (nI (L + 2)), .int (nI (s + 1)), w, w'] [] M := by
  have e0 : nI 1 - 1 = nI 0 := rfl
  have e1 : nI 1 - 0 = nI 1 := rfl
  rw [b_X3_run_7 ht, b_X3_run_151 ht, e0, e1]
  rcases ho with rfl | rfl
  · have hc' : M (t0 + 1) L = nI 38 := hc
    simp (disch := omega) only [s_cl, hc', hl, s_ltL, s_lt0, Nat.not_lt_zero, s_lt, s_eqL, show s < 480 by omega, show L < len by omega, hL, s_in, show 38 < 256 by omega, show ¬ 38 = 0 by omega, show ¬ 1 < 1 by omega, show ¬ 38 = 33 by omega, show ¬ 38 = 124 by omega, if_true, if_false, s_addL, hc2, hb]
    by_cases q : b = 0
    · simp only [q, if_true, if_false, true_and, true_or, and_self]
      exact ⟨_, _, rfl⟩
    · simp only [q, if_true, if_false, and_false, false_or, or_false, show ¬ (11 : Nat) = 12 by omega, false_and]
      exact ⟨_, _, rfl⟩
  · have hc' : M (t0 + 1) L = nI 124 := hc
    simp (disch := omega) only [s_cl, hc', hl, s_ltL, s_lt0, Nat.not_lt_zero, s_lt, s_eqL, show s < 480 by omega, show L < len by omega, hL, s_in, show 124 < 256 by omega, show ¬ 124 = 0 by omega, show ¬ 1 < 1 by omega, show ¬ 124 = 33 by omega, show ¬ 124 = 38 by omega, if_true, if_false, s_addL, hc2, hb]
    by_cases q : b = 0
    · simp only [q, if_true, if_false, and_false, false_or, or_false, not_true, show ¬ (12 : Nat) = 11 by omega, false_and]
      exact ⟨_, _, rfl⟩
    · simp only [q, if_true, if_false, not_false_iff, true_and, or_true, and_self]
      exact ⟨_, _, rfl⟩
theorem c_rBin {top L s len op : Nat} {x y : Int32} (ht : mj_ocl t0 = 1) (hl : M t0 6 = nI len) (hL : L + 1 < len) (h480 : len ≤ 480) (hs : s ≤ L) (htop : top + 2 ≤ 32) (h2 : 2 ≤ op) (h9 : op ≤ 9) (hc : M (t0 + 1) L = nI (mv_sgn op)) (hx : M (t0 + 2) top = x) (hy : M (t0 + 2) (top + 1) = y) : ∃ w w', mj_E sl (d + 1) i_X3_run 7 [.ref t0, w1, .int (nI (top + 2)), .int (nI L), .int (nI s), w5, w6] [] M = if (op = 5 ∨ op = 6) ∧ y = 0 then some (0, M) else mj_E sl (d + 1) i_X3_run 7 [.ref t0, w1, .int (nI (top + 1)), .int (nI (L + 1)), .int (nI (s + 1)), w, w'] [] (mj_st M (t0 + 2) top (mv_op op x y)) := by
  have hb := mv_sgn_b h2 (show op ≤ 12 by omega)
  have n33 : ¬ mv_sgn op = 33 ∧ ¬ mv_sgn op = 38 ∧ ¬ mv_sgn op = 124 ∧ (mv_sgn op = 47 ↔ op = 5) ∧ (mv_sgn op = 37 ↔ op = 6) := by
    have : op = 2 ∨ op = 3 ∨ op = 4 ∨ op = 5 ∨ op = 6 ∨ op = 7 ∨ op = 8 ∨ op = 9 := by omega
    rcases this with rfl | rfl | rfl | rfl | rfl | rfl | rfl | rfl <;> decide
  obtain ⟨n1, n2, n3, n4, n5⟩ := n33
  have em : nI (top + 2) + (-1) = nI (top + 1) := by
    rw [show nI (top + 2) = nI (top + 1) + nI 1 from (nI_add (top + 1) 1).symm, Int32.add_assoc, show nI 1 + (-1) = 0 from rfl, Int32.add_zero]
  have e253 : ¬ ((op = 5 ∨ op = 6) ∧ y = 0) → ∃ w', mj_E sl (d + 1) i_X3_run 253 [.ref t0, w1, .int (nI (top + 1)), .int (nI (L + 1)), .int (nI s), .int (nI (mv_sgn op)), w6] [] M = mj_E sl (d + 1) i_X3_run 7 [.ref t0, w1, .int (nI (top + 1)), .int (nI (L + 1)), .int (nI (s + 1)), .int (nI (mv_sgn op)), w'] [] (mj_st M (t0 + 2) top (mv_op op x y)) := fun hd => by
    rw [b_X3_run_253 ht]
    simp (disch := omega) only [s_ltL, show ¬ top + 1 < 1 by omega, if_false, s_subL, show top + 1 - 1 = top by omega, s_in, s_cl, if_true, hx, hy]
    rw [c_reckon h2 h9 hd]
    simp (disch := omega) only [Option.bind_some, s_addL]
    exact ⟨_, rfl⟩
  rw [b_X3_run_7 ht]
  simp (disch := omega) only [s_cl, hc, hl, s_ltL, s_lt0, Nat.not_lt_zero, s_lt, s_eqL, show s < 480 by omega, show L < len by omega, hL, s_in, show mv_sgn op < 256 by omega, show ¬ mv_sgn op = 0 by omega, show ¬ top + 2 < 1 by omega, n1, n2, n3, n4, n5, if_true, if_false, s_addL, em]
  have e240 : (op = 5 ∨ op = 6) → ∃ w', mj_E sl (d + 1) i_X3_run 240 [.ref t0, w1, .int (nI (top + 1)), .int (nI (L + 1)), .int (nI s), .int (nI (mv_sgn op)), w6] [] M = if (op = 5 ∨ op = 6) ∧ y = 0 then some (0, M) else mj_E sl (d + 1) i_X3_run 7 [.ref t0, w1, .int (nI (top + 1)), .int (nI (L + 1)), .int (nI (s + 1)), .int (nI (mv_sgn op)), w'] [] (mj_st M (t0 + 2) top (mv_op op x y)) := fun ho => by
    rw [b_X3_run_240 ht]
    simp (disch := omega) only [s_in, s_cl, if_true, hy, s_ltL, show ¬ top + 1 < 1 by omega, if_false]
    by_cases q : y = 0
    · refine ⟨.null, ?_⟩
      rw [if_pos (show (op = 5 ∨ op = 6) ∧ y = 0 from ⟨ho, q⟩), if_pos q]
    · obtain ⟨w', e⟩ := e253 (fun z => q z.2)
      refine ⟨w', ?_⟩
      rw [if_neg (show ¬ ((op = 5 ∨ op = 6) ∧ y = 0) from fun z => q z.2), if_neg q]
      exact e
  by_cases o5 : op = 5
  · obtain ⟨w', e⟩ := e240 (Or.inl o5)
    refine ⟨.int (nI (mv_sgn op)), w', ?_⟩
    rw [if_pos o5]
    exact e
  · by_cases o6 : op = 6
    · obtain ⟨w', e⟩ := e240 (Or.inr o6)
      refine ⟨.int (nI (mv_sgn op)), w', ?_⟩
      rw [if_neg o5, if_pos o6]
      exact e
    · have hd : ¬ ((op = 5 ∨ op = 6) ∧ y = 0) := fun z => by rcases z.1 with z | z <;> contradiction
      obtain ⟨w', e⟩ := e253 hd
      refine ⟨.int (nI (mv_sgn op)), w', ?_⟩
      rw [if_neg o5, if_neg o6, if_neg hd]
      exact e
theorem c_rEnd {L s len : Nat} (ht : mj_ocl t0 = 1) (hl : M t0 6 = nI len) (hL : L < len) (h480 : len ≤ 480) (hs : s ≤ L) (hc : M (t0 + 1) L = 0) : mj_E sl (d + 1) i_X3_run 7 [.ref t0, w1, .int (nI 1), .int (nI L), .int (nI s), w5, w6] [] M = some (M (t0 + 2) 0, M) := by
  have hc' : M (t0 + 1) L = nI 0 := hc
  rw [b_X3_run_7 ht]
  simp (disch := omega) only [s_cl, hc', hl, s_ltL, s_lt0, Nat.not_lt_zero, s_lt, s_eqL, show s < 480 by omega, hL, s_in, show 0 < 256 by omega, if_true, if_false]
  rw [if_neg (show ¬ nI 1 ≤ 0 by decide)]
theorem c_runs {F : Nat → Int32} {len : Nat} (ht : mj_ocl t0 = 1) (h480 : len ≤ 480) (hl : M t0 6 = nI len) (hF : ∀ v, v < 9 → M (t0 + 3) v = F v) : ∀ (m : Nat) (c : List (Nat × Nat)) (L s : Nat) (stk : List Int32) (M' : mj_M) (w5 w6 : Value) (r : Int32), c.length ≤ m → mv_cc (M (t0 + 1)) L c → M (t0 + 1) (L + mv_szs c) = 0 → L + mv_szs c < len → s ≤ L → mv_fr (fun a _ => a = t0 + 2) M M' → mv_sk (M' (t0 + 2)) stk → stk.length ≤ 32 → mv_ev F c 0 stk = some r → ∃ M'', mj_E sl (d + 1) i_X3_run 7 [.ref t0, w1, .int (nI stk.length), .int (nI L), .int (nI s), w5, w6] [] M' = some (r, M'') ∧ mv_fr (fun a _ => a = t0 + 2) M M'' := by
  intro m
  induction m with
  | zero =>
    intro c L s stk M' w5 w6 r hm cc ce cl hs f sk h32 ev
    have hc : c = [] := List.eq_nil_of_length_eq_zero (by omega)
    subst hc
    have g1 : M' (t0 + 1) L = 0 := by rw [f _ _ (by omega)]; exact ce
    have g2 : M' t0 6 = nI len := by rw [f _ _ (by omega)]; exact hl
    have hk := mv_ev_nil ev
    subst hk
    refine ⟨M', ?_, f⟩
    have sk0 : M' (t0 + 2) 0 = r := sk.1
    show mj_E sl (d + 1) i_X3_run 7 [.ref t0, w1, .int (nI 1), .int (nI L), .int (nI s), w5, w6] [] M' = some (r, M')
    rw [c_rEnd ht g2 (show L < len from cl) h480 hs g1, sk0]
  | succ m ih =>
    intro c L s stk M' w5 w6 r hm cc ce cl hs f sk h32 ev
    cases c with
    | nil => exact ih [] L s stk M' w5 w6 r (Nat.zero_le _) cc ce cl hs f sk h32 ev
    | cons x xs =>
      have g2 : M' t0 6 = nI len := by rw [f _ _ (by omega)]; exact hl
      have gc : ∀ j, M' (t0 + 1) j = M (t0 + 1) j := fun j => f _ _ (by omega)
      have gk : ∀ j, M' (t0 + 3) j = M (t0 + 3) j := fun j => f _ _ (by omega)
      obtain ⟨h1, h2⟩ := cc
      have hsz : mv_szs (x :: xs) = mv_sz x + mv_szs xs := rfl
      have hxl : xs.length ≤ m := by have : (x :: xs).length = xs.length + 1 := rfl; omega
      rw [hsz] at ce cl
      have ev' : mv_es F x (mv_ev F xs) stk = some r := ev
      rcases h1 with ⟨a, b, e⟩ | ⟨a, b, e⟩ | ⟨a, b, e⟩ | ⟨a, b, e, e2⟩
      · have z1 : mv_sz x = 1 := if_neg (by omega)
        rw [z1] at h2 ce cl
        obtain ⟨k1, k2⟩ := mv_es_num a ev'
        obtain ⟨w, e3⟩ := c_rNum (sl := sl) (d := d) (w1 := w1) (w5 := w5) (w6 := w6) (s := s) ht g2 (show L < len by omega) h480 hs k1 (by rw [gc]; exact e) b
        rw [e3]
        exact ih xs (L + 1) (s + 1) (nI x.2 :: stk) _ w w6 r hxl h2 (by rw [show L + 1 + mv_szs xs = L + (1 + mv_szs xs) from by omega]; exact ce) (by omega) (by omega) (f.st rfl) (mv_sk_push sk) k1 k2
      · have z1 : mv_sz x = 1 := if_neg (by omega)
        rw [z1] at h2 ce cl
        obtain ⟨k1, k2⟩ := mv_es_nam a ev'
        obtain ⟨w, e3⟩ := c_rNam (sl := sl) (d := d) (w1 := w1) (w5 := w5) (w6 := w6) (s := s) ht g2 (show L < len by omega) h480 hs k1 (by rw [gc]; exact e) b
        rw [e3, gk, hF _ b]
        exact ih xs (L + 1) (s + 1) (F x.2 :: stk) _ w w6 r hxl h2 (by rw [show L + 1 + mv_szs xs = L + (1 + mv_szs xs) from by omega]; exact ce) (by omega) (by omega) (f.st rfl) (mv_sk_push sk) k1 k2
      · have z1 : mv_sz x = 1 := if_neg (by omega)
        rw [z1] at h2 ce cl
        by_cases a10 : x.1 = 10
        · rw [a10] at e
          obtain ⟨v, v', hk, k2, hv⟩ : ∃ v v' : Int32, stk = [v] ∧ mv_ev F xs 0 [v'] = some r ∧ v ^^^ 1 = v' := by
            rcases mv_es_not a10 ev' with ⟨k1, k2⟩ | ⟨k1, k2⟩
            · exact ⟨0, 1, k1, k2, by decide⟩
            · exact ⟨1, 0, k1, k2, by decide⟩
          subst hk
          have sk0 : M' (t0 + 2) 0 = v := sk.1
          obtain ⟨w, e3⟩ := c_rNot (sl := sl) (d := d) (w1 := w1) (w5 := w5) (w6 := w6) (s := s) ht g2 (show L + 1 < len by omega) h480 hs (by rw [gc]; exact e)
          rw [sk0, hv] at e3
          have e4 := ih xs (L + 1) (s + 1) [v'] (mj_st M' (t0 + 2) 0 v') w w6 r hxl h2 (by rw [show L + 1 + mv_szs xs = L + (1 + mv_szs xs) from by omega]; exact ce) (by omega) (by omega) (f.st rfl) ⟨mq_st_eq, trivial⟩ h32 k2
          show ∃ M'', mj_E sl (d + 1) i_X3_run 7 [.ref t0, w1, .int (nI 1), .int (nI L), .int (nI s), w5, w6] [] M' = some (r, M'') ∧ mv_fr (fun a _ => a = t0 + 2) M M''
          rw [e3]
          exact e4
        · obtain ⟨y, z, t, hk, k2⟩ := mv_es_bin a (by omega) ev'
          subst hk
          have h32' : t.length + 2 ≤ 32 := h32
          obtain ⟨s1, s2, s3⟩ := sk
          obtain ⟨w, w', e3⟩ := c_rBin (sl := sl) (d := d) (w1 := w1) (w5 := w5) (w6 := w6) (s := s) (top := t.length) ht g2 (show L + 1 < len by omega) h480 hs h32' a (show x.1 ≤ 9 by omega) (by rw [gc]; exact e) s2 s1
          show ∃ M'', mj_E sl (d + 1) i_X3_run 7 [.ref t0, w1, .int (nI (t.length + 2)), .int (nI L), .int (nI s), w5, w6] [] M' = some (r, M'') ∧ mv_fr (fun a _ => a = t0 + 2) M M''
          rw [e3]
          rcases k2 with ⟨k2, k3⟩ | ⟨k2, k3⟩
          · rw [if_pos k2, k3]
            exact ⟨M', rfl, f⟩
          · rw [if_neg k2]
            exact ih xs (L + 1) (s + 1) (mv_op x.1 z y :: t) _ w w' r hxl h2 (by rw [show L + 1 + mv_szs xs = L + (1 + mv_szs xs) from by omega]; exact ce) (by omega) (by omega) (f.st rfl) (mv_sk_push s3) (by show t.length + 1 ≤ 32; omega) k3
      · have z1 : mv_sz x = 2 := if_pos a
        rw [z1] at h2 ce cl
        have htd := mv_szs_td xs x.2
        obtain ⟨v, hk, hv⟩ : ∃ v : Int32, stk = [v] ∧ ((((x.1 = 11 ∧ v = 0) ∨ (x.1 = 12 ∧ ¬ v = 0)) ∧ mv_ev F xs x.2 [v] = some r) ∨ (¬ ((x.1 = 11 ∧ v = 0) ∨ (x.1 = 12 ∧ ¬ v = 0)) ∧ mv_ev F xs 0 [] = some r)) := by
          rcases a with a | a
          · rcases mv_es_and a ev' with ⟨k1, k2⟩ | ⟨k1, k2⟩
            · exact ⟨0, k1, Or.inl ⟨Or.inl ⟨a, rfl⟩, k2⟩⟩
            · refine ⟨1, k1, Or.inr ⟨fun z => ?_, k2⟩⟩
              rcases z with z | z
              · exact absurd z.2 (by decide)
              · omega
          · rcases mv_es_or a ev' with ⟨k1, k2⟩ | ⟨k1, k2⟩
            · exact ⟨1, k1, Or.inl ⟨Or.inr ⟨a, by decide⟩, k2⟩⟩
            · refine ⟨0, k1, Or.inr ⟨fun z => ?_, k2⟩⟩
              rcases z with z | z
              · omega
              · exact z.2 rfl
        subst hk
        have sk0 : M' (t0 + 2) 0 = v := sk.1
        obtain ⟨w, w', e3⟩ := c_rLeap (sl := sl) (d := d) (w1 := w1) (w5 := w5) (w6 := w6) (s := s) ht g2 (show L + 1 < len by omega) h480 hs a (by rw [gc]; exact e) (by rw [gc]; exact e2) sk0
        show ∃ M'', mj_E sl (d + 1) i_X3_run 7 [.ref t0, w1, .int (nI 1), .int (nI L), .int (nI s), w5, w6] [] M' = some (r, M'') ∧ mv_fr (fun a _ => a = t0 + 2) M M''
        rw [e3]
        rcases hv with ⟨hv, k2⟩ | ⟨hv, k2⟩
        · rw [if_pos hv]
          rw [mv_ev_dr F xs x.2 [v] b] at k2
          have hdl : (xs.drop x.2).length ≤ m := by rw [List.length_drop]; omega
          exact ih (xs.drop x.2) (L + 2 + mv_szs (xs.take x.2)) (s + 1) [v] M' w w' r hdl (mv_cc_dr xs (L + 2) x.2 b h2) (by rw [show L + 2 + mv_szs (xs.take x.2) + mv_szs (xs.drop x.2) = L + (2 + mv_szs xs) from by omega]; exact ce) (by omega) (by omega) f sk h32 k2
        · rw [if_neg hv]
          exact ih xs (L + 2) (s + 1) [] M' w w' r hxl h2 (by rw [show L + 2 + mv_szs xs = L + (2 + mv_szs xs) from by omega]; exact ce) (by omega) (by omega) f trivial (Nat.zero_le _) k2
theorem c_run {F : Nat → Int32} {len L : Nat} {c : List (Nat × Nat)} {r : Int32} (ht : mj_ocl t0 = 1) (h480 : len ≤ 480) (hl : M t0 6 = nI len) (hF : ∀ v, v < 9 → M (t0 + 3) v = F v) (cc : mv_cc (M (t0 + 1)) L c) (ce : M (t0 + 1) (L + mv_szs c) = 0) (cl : L + mv_szs c < len) (ev : mv_ev F c 0 [] = some r) : ∃ M'', mj_C sl (d + 1) i_X3_run [.ref t0, .int (nI L)] M = some (r, M'') ∧ mv_fr (fun a _ => a = t0 + 2) M M'' := by
  rw [b_X3_run ht]
  exact c_runs ht h480 hl hF c.length c L 0 [] M .null .null r (Nat.le_refl _) cc ce cl (Nat.zero_le _) mv_fr.rf trivial (Nat.zero_le _) ev
end MV41
