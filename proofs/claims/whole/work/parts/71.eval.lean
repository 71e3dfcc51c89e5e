def mv_op (op : Nat) (x y : Int32) : Int32 := if op = 2 then x + y else if op = 3 then x - y else if op = 4 then x * y else if op = 5 then x / y else if op = 6 then mj_rm x y else if op = 7 then (if x < y then 1 else 0) else if op = 8 then (if x ≤ y then 0 else 1) else (if x = y then 1 else 0)
def mv_sgn (op : Nat) : Nat := if op = 2 then 43 else if op = 3 then 45 else if op = 4 then 42 else if op = 5 then 47 else if op = 6 then 37 else if op = 7 then 60 else if op = 8 then 62 else if op = 9 then 61 else if op = 10 then 33 else if op = 11 then 38 else 124
def mv_es (F : Nat → Int32) (x : Nat × Nat) (K : Nat → List Int32 → Option Int32) (stk : List Int32) : Option Int32 :=
  if x.1 = 0 then (if stk.length < 32 then K 0 (nI x.2 :: stk) else none)
  else if x.1 = 1 then (if stk.length < 32 then K 0 (F x.2 :: stk) else none)
  else if x.1 = 10 then (match stk with
    | [b] => if b = 0 then K 0 [1] else if b = 1 then K 0 [0] else none
    | _ => none)
  else if x.1 = 11 then (match stk with
    | [b] => if b = 0 then K x.2 [0] else if b = 1 then K 0 [] else none
    | _ => none)
  else if x.1 = 12 then (match stk with
    | [b] => if b = 1 then K x.2 [1] else if b = 0 then K 0 [] else none
    | _ => none)
  else if x.1 ≤ 9 then (match stk with
    | y :: z :: t => if (x.1 = 5 ∨ x.1 = 6) ∧ y = 0 then some 0 else K 0 (mv_op x.1 z y :: t)
    | _ => none)
  else none
def mv_ev (F : Nat → Int32) : List (Nat × Nat) → Nat → List Int32 → Option Int32
  | [], 0, [v] => some v
  | [], _, _ => none
  | _ :: xs, s + 1, stk => mv_ev F xs s stk
  | x :: xs, 0, stk => mv_es F x (mv_ev F xs) stk
theorem mv_ev_sk (F : Nat → Int32) : ∀ (c : List (Nat × Nat)) (r : List (Nat × Nat)) (stk : List Int32), mv_ev F (c ++ r) c.length stk = mv_ev F r 0 stk
  | [], r, stk => rfl
  | x :: xs, r, stk => mv_ev_sk F xs r stk
theorem mv_ev_dr (F : Nat → Int32) : ∀ (c : List (Nat × Nat)) (s : Nat) (stk : List Int32), s ≤ c.length → mv_ev F c s stk = mv_ev F (c.drop s) 0 stk
  | c, 0, stk, _ => rfl
  | [], s + 1, stk, h => absurd h (by simp)
  | x :: xs, s + 1, stk, h => mv_ev_dr F xs s stk (by simpa using h)
def mv_sz (x : Nat × Nat) : Nat := if x.1 = 11 ∨ x.1 = 12 then 2 else 1
def mv_szs : List (Nat × Nat) → Nat
  | [] => 0
  | x :: xs => mv_sz x + mv_szs xs
theorem mv_szs_ap : ∀ a b : List (Nat × Nat), mv_szs (a ++ b) = mv_szs a + mv_szs b
  | [], b => (Nat.zero_add _).symm
  | x :: xs, b => by
    show mv_sz x + mv_szs (xs ++ b) = mv_sz x + mv_szs xs + mv_szs b
    rw [mv_szs_ap xs b]; omega
def mv_cc (cd : Nat → Int32) : Nat → List (Nat × Nat) → Prop
  | _, [] => True
  | L, x :: xs => ((x.1 = 0 ∧ x.2 ≤ 99999 ∧ cd L = nI (265 + x.2)) ∨ (x.1 = 1 ∧ x.2 < 9 ∧ cd L = nI (256 + x.2)) ∨ (2 ≤ x.1 ∧ x.1 ≤ 10 ∧ cd L = nI (mv_sgn x.1)) ∨ ((x.1 = 11 ∨ x.1 = 12) ∧ x.2 ≤ xs.length ∧ cd L = nI (mv_sgn x.1) ∧ cd (L + 1) = nI (L + 2 + mv_szs (xs.take x.2)))) ∧ mv_cc cd (L + mv_sz x) xs
def mv_rc (rd : Nat → Int32) : Nat → List (Nat × Nat) → Prop
  | _, [] => True
  | C, x :: xs => (rd C = nI (1048576 * x.1 + (if x.1 = 11 ∨ x.1 = 12 then C + 1 + x.2 else x.2)) ∧ x.1 ≤ 12 ∧ x.2 < 100000 ∧ (x.1 = 1 → x.2 < 9) ∧ (x.1 = 11 ∨ x.1 = 12 → x.2 ≤ xs.length)) ∧ mv_rc rd (C + 1) xs
theorem mv_cc_cg {cd cd2 : Nat → Int32} : ∀ (c : List (Nat × Nat)) (L : Nat), (∀ j, L ≤ j → j < L + mv_szs c → cd2 j = cd j) → mv_cc cd L c → mv_cc cd2 L c
  | [], _, _, _ => trivial
  | x :: xs, L, h, ⟨h1, h2⟩ => by
    have hs : mv_szs (x :: xs) = mv_sz x + mv_szs xs := rfl
    have hz : 1 ≤ mv_sz x := by unfold mv_sz; split <;> omega
    refine ⟨?_, mv_cc_cg xs _ (fun j a b => h j (by omega) (by omega)) h2⟩
    rcases h1 with ⟨a, b, e⟩ | ⟨a, b, e⟩ | ⟨a, b, e⟩ | ⟨a, b, e, f⟩
    · exact Or.inl ⟨a, b, by rw [h L (by omega) (by omega)]; exact e⟩
    · exact Or.inr (Or.inl ⟨a, b, by rw [h L (by omega) (by omega)]; exact e⟩)
    · exact Or.inr (Or.inr (Or.inl ⟨a, b, by rw [h L (by omega) (by omega)]; exact e⟩))
    · have hz2 : mv_sz x = 2 := if_pos a
      exact Or.inr (Or.inr (Or.inr ⟨a, b, by rw [h L (by omega) (by omega)]; exact e, by rw [h (L + 1) (by omega) (by omega)]; exact f⟩))
theorem mv_rc_cg {cd cd2 : Nat → Int32} : ∀ (c : List (Nat × Nat)) (L : Nat), (∀ j, L ≤ j → j < L + c.length → cd2 j = cd j) → mv_rc cd L c → mv_rc cd2 L c
  | [], _, _, _ => trivial
  | x :: xs, L, h, ⟨h1, h2⟩ => by
    have hs : (x :: xs).length = xs.length + 1 := rfl
    exact ⟨⟨by rw [h L (by omega) (by omega)]; exact h1.1, h1.2⟩, mv_rc_cg xs _ (fun j a b => h j (by omega) (by omega)) h2⟩
theorem mv_cc_ap {cd : Nat → Int32} {b : List (Nat × Nat)} : ∀ (a : List (Nat × Nat)) (L : Nat), mv_cc cd L a → mv_cc cd (L + mv_szs a) b → mv_cc cd L (a ++ b)
  | [], L, _, h => h
  | x :: xs, L, ⟨h1, h2⟩, h => by
    refine ⟨?_, mv_cc_ap xs _ h2 (by rw [show L + mv_sz x + mv_szs xs = L + mv_szs (x :: xs) from Nat.add_assoc _ _ _]; exact h)⟩
    rcases h1 with q | q | q | ⟨q1, q2, q3, q4⟩
    · exact Or.inl q
    · exact Or.inr (Or.inl q)
    · exact Or.inr (Or.inr (Or.inl q))
    · refine Or.inr (Or.inr (Or.inr ⟨q1, by show x.2 ≤ (xs ++ b).length; rw [List.length_append]; omega, q3, ?_⟩))
      show cd (L + 1) = nI (L + 2 + mv_szs ((xs ++ b).take x.2))
      rw [List.take_append_of_le_length q2]; exact q4
theorem mv_rc_ap {rd : Nat → Int32} {b : List (Nat × Nat)} : ∀ (a : List (Nat × Nat)) (L : Nat), mv_rc rd L a → mv_rc rd (L + a.length) b → mv_rc rd L (a ++ b)
  | [], L, _, h => h
  | x :: xs, L, ⟨h1, h2⟩, h => by
    refine ⟨⟨h1.1, h1.2.1, h1.2.2.1, h1.2.2.2.1, fun z => by show x.2 ≤ (xs ++ b).length; rw [List.length_append]; have := h1.2.2.2.2 z; omega⟩, mv_rc_ap xs _ h2 ?_⟩
    rw [show L + 1 + xs.length = L + (x :: xs).length from by simp only [List.length_cons]; omega]
    exact h
theorem mv_cc_dr {cd : Nat → Int32} : ∀ (c : List (Nat × Nat)) (L s : Nat), s ≤ c.length → mv_cc cd L c → mv_cc cd (L + mv_szs (c.take s)) (c.drop s)
  | c, L, 0, _, h => h
  | [], L, s + 1, h, _ => absurd h (by simp)
  | x :: xs, L, s + 1, h, ⟨_, h2⟩ => by
    have := mv_cc_dr xs (L + mv_sz x) s (by simpa using h) h2
    rw [Nat.add_assoc] at this
    exact this
theorem mv_rc_dr {cd : Nat → Int32} : ∀ (c : List (Nat × Nat)) (L s : Nat), s ≤ c.length → mv_rc cd L c → mv_rc cd (L + s) (c.drop s)
  | c, L, 0, _, h => h
  | [], L, s + 1, h, _ => absurd h (by simp)
  | x :: xs, L, s + 1, h, ⟨_, h2⟩ => by
    have := mv_rc_dr xs (L + 1) s (by simpa using h) h2
    rw [show L + (s + 1) = L + 1 + s from by omega]
    exact this
theorem mv_szs_td (c : List (Nat × Nat)) (s : Nat) : mv_szs (c.take s) + mv_szs (c.drop s) = mv_szs c := by
  rw [← mv_szs_ap, List.take_append_drop]
theorem mv_szs_le : ∀ c : List (Nat × Nat), c.length ≤ mv_szs c
  | [] => Nat.le_refl _
  | x :: xs => by
    have := mv_szs_le xs
    have hz : 1 ≤ mv_sz x := by unfold mv_sz; split <;> omega
    show xs.length + 1 ≤ mv_sz x + mv_szs xs
    omega
def mv_sk (st : Nat → Int32) : List Int32 → Prop
  | [] => True
  | x :: t => st t.length = x ∧ mv_sk st t
theorem mv_sk_cg {st st2 : Nat → Int32} : ∀ t : List Int32, (∀ j, j < t.length → st2 j = st j) → mv_sk st t → mv_sk st2 t
  | [], _, _ => trivial
  | x :: t, h, ⟨h1, h2⟩ => ⟨by rw [h _ (Nat.lt_succ_self _)]; exact h1, mv_sk_cg t (fun j hj => h j (Nat.lt_succ_of_lt hj)) h2⟩
theorem mv_sk_push {M : mj_M} {a : Nat} {x : Int32} {t : List Int32} (h : mv_sk (M a) t) : mv_sk (mj_st M a t.length x a) (x :: t) := ⟨mq_st_eq, mv_sk_cg t (fun j hj => mq_st_ne (Or.inr (by omega))) h⟩
theorem c_reckon {sl d op : Nat} {x y : Int32} {M : mj_M} (h2 : 2 ≤ op) (h9 : op ≤ 9) (hd : ¬ ((op = 5 ∨ op = 6) ∧ y = 0)) : mj_C sl d i_X3_reckon [.int (nI (mv_sgn op)), .int x, .int y] M = some (mv_op op x y, M) := by
  rw [b_X3_reckon]
  have : op = 2 ∨ op = 3 ∨ op = 4 ∨ op = 5 ∨ op = 6 ∨ op = 7 ∨ op = 8 ∨ op = 9 := by omega
  rcases this with rfl | rfl | rfl | rfl | rfl | rfl | rfl | rfl
  · rfl
  · rfl
  · rfl
  · have hy : ¬ y = 0 := fun z => hd ⟨Or.inl rfl, z⟩
    simp only [hy, if_false]; rfl
  · have hy : ¬ y = 0 := fun z => hd ⟨Or.inr rfl, z⟩
    simp only [hy, if_false]; rfl
  · unfold mv_op
    by_cases q : x < y
    · simp only [q, if_true]; rfl
    · simp only [q, if_false]; rfl
  · unfold mv_op
    by_cases q : x ≤ y
    · simp only [q, if_true]; rfl
    · simp only [q, if_false]; rfl
  · unfold mv_op
    by_cases q : x = y
    · simp only [q, if_true]; rfl
    · simp only [q, if_false]; rfl
theorem r_reckon {sl d op : Nat} {x y : Int32} {M : mj_M} (h2 : 2 ≤ op) (h9 : op ≤ 9) (hd : ¬ ((op = 5 ∨ op = 6) ∧ y = 0)) : mj_C sl d i_X9_reckon [.int (nI op), .int x, .int y] M = some (mv_op op x y, M) := by
  rw [b_X9_reckon]
  have : op = 2 ∨ op = 3 ∨ op = 4 ∨ op = 5 ∨ op = 6 ∨ op = 7 ∨ op = 8 ∨ op = 9 := by omega
  rcases this with rfl | rfl | rfl | rfl | rfl | rfl | rfl | rfl
  · rfl
  · rfl
  · rfl
  · have hy : ¬ y = 0 := fun z => hd ⟨Or.inl rfl, z⟩
    simp only [hy, if_false]; rfl
  · have hy : ¬ y = 0 := fun z => hd ⟨Or.inr rfl, z⟩
    simp only [hy, if_false]; rfl
  · unfold mv_op
    by_cases q : x < y
    · simp only [q, if_true]; rfl
    · simp only [q, if_false]; rfl
  · unfold mv_op
    by_cases q : x ≤ y
    · simp only [q, if_true]; rfl
    · simp only [q, if_false]; rfl
  · unfold mv_op
    by_cases q : x = y
    · simp only [q, if_true]; rfl
    · simp only [q, if_false]; rfl
