abbrev lp_PR : Type := (Nat × Nat) ⊕ (Nat × List (Nat × Nat))
def lp_sn (n : Nat) (tp : Nat → Nat) (i : Nat) : Nat := if i < n then tp i else 999
def lp_chn (isop : Nat → Bool) (em : Nat → List (Nat × Nat) → List (Nat × Nat)) (f : Nat → lp_PR) (sn : Nat → Nat) : Nat → Nat → List (Nat × Nat) → lp_PR
  | 0, i, c => .inr (i, c)
  | F + 1, i, c => if isop (sn i) = true then (match f (i + 1) with
    | .inl x => .inl x
    | .inr (j, c2) => lp_chn isop em f sn F j (c ++ em (sn i) c2)) else .inr (i, c)
def lp_seq (isop : Nat → Bool) (em : Nat → List (Nat × Nat) → List (Nat × Nat)) (f : Nat → lp_PR) (sn : Nat → Nat) (i : Nat) : lp_PR := match f i with
  | .inl x => .inl x
  | .inr (j, c) => lp_chn isop em f sn 240 j c
def lp_dg (s : Nat) : Bool := decide (48 ≤ s) && decide (s ≤ 57)
def lp_nm (sn : Nat → Nat) : Nat → Nat → Nat → lp_PR
  | 0, i, v => if lp_dg (sn i) = true then .inl (2, i) else .inr (i, [(0, v)])
  | m + 1, i, v => if lp_dg (sn i) = true then lp_nm sn m (i + 1) (10 * v + sn i - 48) else .inr (i, [(0, v)])
def lp_nam (s : Nat) : Nat := if s = 99 then 0 else if s = 97 then 1 else if s = 108 then 2 else if s = 103 then 3 else if s = 115 then 4 else if s = 107 then 5 else if s = 102 then 6 else if s = 100 then 7 else if s = 109 then 8 else 9
def lp_atom (sn : Nat → Nat) (i : Nat) : lp_PR := if lp_dg (sn i) = true then lp_nm sn 5 i 0 else if lp_nam (sn i) < 9 then .inr (i + 1, [(1, lp_nam (sn i))]) else .inl (1, i)
def lp_om (s : Nat) : Bool := decide (s = 42) || decide (s = 47) || decide (s = 37)
def lp_oa (s : Nat) : Bool := decide (s = 43) || decide (s = 45)
def lp_on (s : Nat) : Nat := if s = 43 then 2 else if s = 45 then 3 else if s = 42 then 4 else if s = 47 then 5 else if s = 37 then 6 else if s = 60 then 7 else if s = 62 then 8 else 9
def lp_eb (s : Nat) (c : List (Nat × Nat)) : List (Nat × Nat) := c ++ [(lp_on s, 0)]
def lp_ej (op : Nat) (_ : Nat) (c : List (Nat × Nat)) : List (Nat × Nat) := (op, c.length) :: c
def lp_P (sn : Nat → Nat) (f : Nat → lp_PR) : Nat → lp_PR := lp_seq lp_om lp_eb f sn
def lp_S (sn : Nat → Nat) (f : Nat → lp_PR) : Nat → lp_PR := lp_seq lp_oa lp_eb (lp_P sn f) sn
def lp_end (sn : Nat → Nat) (s : Nat) (r : lp_PR) : lp_PR := match r with
  | .inl x => .inl x
  | .inr (j, c) => if sn j = s then .inr (j + 1, c) else .inl (1, j)
def lp_F (sn : Nat → Nat) : Nat → Nat → lp_PR
  | 0, i => if sn i = 91 then .inl (5, i) else lp_atom sn i
  | k + 1, i => if sn i = 91 then lp_end sn 93 (lp_S sn (lp_F sn k) (i + 1)) else lp_atom sn i
def lp_ap (r : lp_PR) (f : Nat → List (Nat × Nat) → lp_PR) : lp_PR := match r with
  | .inl x => .inl x
  | .inr (j, c) => f j c
def lp_cmp (sn : Nat → Nat) (k : Nat) (i : Nat) : lp_PR := lp_ap (lp_S sn (lp_F sn k) i) (fun j c1 => if sn j = 60 ∨ sn j = 62 ∨ sn j = 61 then lp_ap (lp_S sn (lp_F sn k) (j + 1)) (fun j2 c2 => .inr (j2, c1 ++ (c2 ++ [(lp_on (sn j), 0)]))) else .inl (1, j))
def lp_o1 (k s : Nat) : Bool := decide (s = k)
def lp_Q (sn : Nat → Nat) (t : Nat → lp_PR) : Nat → lp_PR := lp_seq (lp_o1 38) (lp_ej 11) t sn
def lp_C (sn : Nat → Nat) (t : Nat → lp_PR) : Nat → lp_PR := lp_seq (lp_o1 124) (lp_ej 12) (lp_Q sn t) sn
def lp_T (sn : Nat → Nat) : Nat → Nat → lp_PR
  | 0, i => if sn i = 33 ∨ sn i = 40 then .inl (5, i) else lp_cmp sn 0 i
  | k + 1, i => if sn i = 33 then lp_ap (lp_T sn k (i + 1)) (fun j c => .inr (j, c ++ [(10, 0)])) else if sn i = 40 then lp_end sn 41 (lp_C sn (lp_T sn k) (i + 1)) else lp_cmp sn (k + 1) i
def lp_ok (n i : Nat) (P : List (Nat × Nat) → Prop) (r : lp_PR) : Prop := match r with
  | .inl (q, p) => (q = 1 ∨ q = 2 ∨ q = 5) ∧ p ≤ n
  | .inr (j, c) => i < j ∧ j ≤ n ∧ mv_szs c ≤ 2 * (j - i) ∧ c.length ≤ j - i ∧ P c
theorem lp_sn_lt {n i : Nat} {tp : Nat → Nat} (h : lp_sn n tp i < 999) : i < n := by
  unfold lp_sn at h
  split at h
  · assumption
  · omega
theorem lp_ok_chn {n : Nat} {tp : Nat → Nat} {isop : Nat → Bool} {em : Nat → List (Nat × Nat) → List (Nat × Nat)} {f : Nat → lp_PR} {Pf P : List (Nat × Nat) → Prop} (h1 : ∀ s, isop s = true → s < 999) (h2 : ∀ s c, mv_szs (em s c) ≤ mv_szs c + 2 ∧ (em s c).length ≤ c.length + 1) (h3 : ∀ s c c2, isop s = true → P c → Pf c2 → P (c ++ em s c2)) (hf : ∀ i, i ≤ n → lp_ok n i Pf (f i)) : ∀ F i0 i c, i0 < i → i ≤ n → mv_szs c ≤ 2 * (i - i0) → c.length ≤ i - i0 → P c → lp_ok n i0 P (lp_chn isop em f (lp_sn n tp) F i c) := by
  intro F
  induction F with
  | zero => intro i0 i c a b e g p; exact ⟨a, b, e, g, p⟩
  | succ F ih =>
    intro i0 i c a b e g p
    unfold lp_chn
    by_cases q : isop (lp_sn n tp i) = true
    · rw [if_pos q]
      have hi := lp_sn_lt (h1 _ q)
      have hh := hf (i + 1) (by omega)
      cases hr : f (i + 1) with
      | inl x => rw [hr] at hh; exact hh
      | inr y =>
        obtain ⟨j, c2⟩ := y
        rw [hr] at hh
        obtain ⟨k1, k2, k3, k4, k5⟩ := hh
        obtain ⟨m1, m2⟩ := h2 (lp_sn n tp i) c2
        exact ih i0 j _ (by omega) k2 (by rw [mv_szs_ap]; omega) (by rw [List.length_append]; omega) (h3 _ c c2 q p k5)
    · rw [if_neg q]
      exact ⟨a, b, e, g, p⟩
theorem lp_ok_seq {n : Nat} {tp : Nat → Nat} {isop : Nat → Bool} {em : Nat → List (Nat × Nat) → List (Nat × Nat)} {f : Nat → lp_PR} {Pf P : List (Nat × Nat) → Prop} (h1 : ∀ s, isop s = true → s < 999) (h2 : ∀ s c, mv_szs (em s c) ≤ mv_szs c + 2 ∧ (em s c).length ≤ c.length + 1) (h3 : ∀ s c c2, isop s = true → P c → Pf c2 → P (c ++ em s c2)) (h0 : ∀ c, Pf c → P c) (hf : ∀ i, i ≤ n → lp_ok n i Pf (f i)) (i : Nat) (hi : i ≤ n) : lp_ok n i P (lp_seq isop em f (lp_sn n tp) i) := by
  have hh := hf i hi
  unfold lp_seq
  cases hr : f i with
  | inl x => rw [hr] at hh; exact hh
  | inr y =>
    obtain ⟨j, c2⟩ := y
    rw [hr] at hh
    obtain ⟨k1, k2, k3, k4, k5⟩ := hh
    exact lp_ok_chn h1 h2 h3 hf 240 i j c2 k1 k2 k3 k4 (h0 _ k5)
def lp_sE (m : Nat) (c : List (Nat × Nat)) : Prop := ∀ F rest stk, stk.length + m ≤ 32 → (∃ v, mv_ev F (c ++ rest) 0 stk = mv_ev F rest 0 (v :: stk)) ∨ mv_ev F (c ++ rest) 0 stk = some 0
def lp_sC (c : List (Nat × Nat)) : Prop := ∀ F rest, (∃ v, (v = 0 ∨ v = 1) ∧ mv_ev F (c ++ rest) 0 [] = mv_ev F rest 0 [v]) ∨ mv_ev F (c ++ rest) 0 [] = some 0
theorem lp_ev_bin {F : Nat → Int32} {op : Nat} {rest : List (Nat × Nat)} {x y : Int32} {stk : List Int32} (h2 : 2 ≤ op) (h9 : op ≤ 9) : mv_ev F ((op, 0) :: rest) 0 (y :: x :: stk) = if (op = 5 ∨ op = 6) ∧ y = 0 then some 0 else mv_ev F rest 0 (mv_op op x y :: stk) := by
  show mv_es F (op, 0) (mv_ev F rest) (y :: x :: stk) = _
  unfold mv_es
  dsimp only
  rw [if_neg (by omega), if_neg (by omega), if_neg (by omega), if_neg (by omega), if_neg (by omega), if_pos h9]
theorem lp_sE_bin {m op : Nat} {c c2 : List (Nat × Nat)} (h2 : 2 ≤ op) (h9 : op ≤ 9) (h : lp_sE (m + 1) c) (hh : lp_sE m c2) : lp_sE (m + 1) (c ++ (c2 ++ [(op, 0)])) := by
  intro F rest stk hs
  rw [List.append_assoc, List.append_assoc]
  rcases h F (c2 ++ ([(op, 0)] ++ rest)) stk hs with ⟨v, e⟩ | e
  · rw [e]
    rcases hh F ([(op, 0)] ++ rest) (v :: stk) (by show stk.length + 1 + m ≤ 32; omega) with ⟨v2, e2⟩ | e2
    · rw [e2]
      show (∃ v_1, mv_ev F ((op, 0) :: rest) 0 (v2 :: v :: stk) = _) ∨ mv_ev F ((op, 0) :: rest) 0 (v2 :: v :: stk) = _
      rw [lp_ev_bin h2 h9]
      by_cases q : (op = 5 ∨ op = 6) ∧ v2 = 0
      · rw [if_pos q]; exact Or.inr rfl
      · rw [if_neg q]; exact Or.inl ⟨_, rfl⟩
    · exact Or.inr e2
  · exact Or.inr e
theorem lp_sE_le {m k : Nat} {c : List (Nat × Nat)} (hk : m ≤ k) (h : lp_sE m c) : lp_sE k c := fun F rest stk hs => h F rest stk (by omega)
theorem lp_on_b {s : Nat} (h : lp_om s = true ∨ lp_oa s = true) : 2 ≤ lp_on s ∧ lp_on s ≤ 6 ∧ (lp_oa s = true → lp_on s ≤ 3) ∧ (lp_om s = true → 4 ≤ lp_on s) ∧ s < 999 ∧ mv_sgn (lp_on s) = s := by
  have : s = 42 ∨ s = 47 ∨ s = 37 ∨ s = 43 ∨ s = 45 := by
    unfold lp_om lp_oa at h
    simp only [Bool.or_eq_true, decide_eq_true_eq] at h
    omega
  rcases this with rfl | rfl | rfl | rfl | rfl <;> decide
theorem lp_eb_b (s : Nat) (c : List (Nat × Nat)) : mv_szs (lp_eb s c) ≤ mv_szs c + 2 ∧ (lp_eb s c).length ≤ c.length + 1 := by
  unfold lp_eb
  rw [mv_szs_ap, List.length_append]
  have : mv_szs [(lp_on s, 0)] ≤ 2 := by
    show mv_sz (lp_on s, 0) + 0 ≤ 2
    unfold mv_sz
    split <;> omega
  exact ⟨by omega, Nat.le_refl _⟩
theorem lp_ej_b (op s : Nat) (c : List (Nat × Nat)) : mv_szs (lp_ej op s c) ≤ mv_szs c + 2 ∧ (lp_ej op s c).length ≤ c.length + 1 := by
  have : mv_sz (op, c.length) ≤ 2 := by
    unfold mv_sz
    split <;> omega
  exact ⟨by show mv_sz (op, c.length) + mv_szs c ≤ _; omega, Nat.le_refl _⟩
section LP1
variable {n : Nat} {tp : Nat → Nat}
theorem lp_ok_nm : ∀ m i0 i v, i0 ≤ i → i ≤ n → (m < 5 → i0 < i) → v < 10 ^ (5 - m) → m ≤ 5 → (i0 = i → lp_dg (lp_sn n tp i) = true) → lp_ok n i0 (fun c => lp_sE 1 c ∧ ∃ w, w ≤ 99999 ∧ c = [(0, w)]) (lp_nm (lp_sn n tp) m i v) := by
  intro m
  have sem : ∀ v, lp_sE 1 [(0, v)] := fun v F rest stk hs => Or.inl ⟨nI v, by
    show mv_es F (0, v) (mv_ev F rest) stk = _
    unfold mv_es
    dsimp only
    rw [if_pos rfl, if_pos (by omega)]⟩
  induction m with
  | zero =>
    intro i0 i v a b e g _ z
    unfold lp_nm
    by_cases q : lp_dg (lp_sn n tp i) = true
    · rw [if_pos q]; exact ⟨by omega, b⟩
    · rw [if_neg q]
      have := e (by omega)
      exact ⟨this, b, by show 1 ≤ _; omega, by show 1 ≤ _; omega, sem v, v, by omega, rfl⟩
  | succ m ih =>
    intro i0 i v a b e g h5 z
    unfold lp_nm
    by_cases q : lp_dg (lp_sn n tp i) = true
    · rw [if_pos q]
      unfold lp_dg at q
      simp only [Bool.and_eq_true, decide_eq_true_eq] at q
      have hi : i < n := lp_sn_lt (tp := tp) (by omega)
      refine ih i0 (i + 1) _ (by omega) (by omega) (fun _ => by omega) ?_ (by omega) (fun w => by omega)
      have e1 : 10 ^ (5 - m) = 10 * 10 ^ (5 - (m + 1)) := by
        rw [show 5 - m = (5 - (m + 1)) + 1 from by omega, Nat.pow_succ, Nat.mul_comm]
      omega
    · rw [if_neg q]
      have hlt : i0 < i := by
        by_cases w : i0 = i
        · exact absurd (z w) q
        · omega
      have hp : 10 ^ (5 - (m + 1)) ≤ 10 ^ 5 := Nat.pow_le_pow_right (by decide) (by omega)
      exact ⟨hlt, b, by show 1 ≤ _; omega, by show 1 ≤ _; omega, sem v, v, by omega, rfl⟩
theorem lp_ok_atom (i : Nat) (hi : i ≤ n) : lp_ok n i (lp_sE 1) (lp_atom (lp_sn n tp) i) := by
  unfold lp_atom
  by_cases q : lp_dg (lp_sn n tp i) = true
  · rw [if_pos q]
    have h := lp_ok_nm (n := n) (tp := tp) 5 i i 0 (Nat.le_refl _) hi (fun w => by omega) (by decide) (Nat.le_refl _) (fun _ => q)
    cases hr : lp_nm (lp_sn n tp) 5 i 0 with
    | inl x => rw [hr] at h; exact h
    | inr y =>
      obtain ⟨j, c⟩ := y
      rw [hr] at h
      obtain ⟨k1, k2, k3, k4, k5⟩ := h
      exact ⟨k1, k2, k3, k4, k5.1⟩
  · rw [if_neg q]
    by_cases q2 : lp_nam (lp_sn n tp i) < 9
    · rw [if_pos q2]
      have hlt : i < n := by
        refine lp_sn_lt (tp := tp) ?_
        by_cases w : lp_sn n tp i < 999
        · exact w
        · unfold lp_nam at q2
          rw [if_neg (by omega), if_neg (by omega), if_neg (by omega), if_neg (by omega), if_neg (by omega), if_neg (by omega), if_neg (by omega), if_neg (by omega), if_neg (by omega)] at q2
          omega
      refine ⟨by omega, by omega, by show 1 ≤ _; omega, by show 1 ≤ _; omega, fun F rest stk hs => Or.inl ⟨F (lp_nam (lp_sn n tp i)), ?_⟩⟩
      show mv_es F (1, lp_nam (lp_sn n tp i)) (mv_ev F rest) stk = _
      unfold mv_es
      dsimp only
      rw [if_neg (by omega), if_pos rfl, if_pos (by omega)]
    · rw [if_neg q2]
      exact ⟨Or.inl rfl, hi⟩
theorem lp_ok_S {f : Nat → lp_PR} {m : Nat} (hf : ∀ i, i ≤ n → lp_ok n i (lp_sE m) (f i)) (i : Nat) (hi : i ≤ n) : lp_ok n i (lp_sE (m + 2)) (lp_S (lp_sn n tp) f i) := by
  refine lp_ok_seq (Pf := lp_sE (m + 1)) (fun s h => (lp_on_b (Or.inr h)).2.2.2.2.1) lp_eb_b (fun s c c2 h p q => ?_) (fun c p => lp_sE_le (by omega) p) (fun i hi => ?_) i hi
  · have hb := lp_on_b (Or.inr h)
    exact lp_sE_bin hb.1 (by omega) p q
  · refine lp_ok_seq (Pf := lp_sE m) (fun s h => (lp_on_b (Or.inl h)).2.2.2.2.1) lp_eb_b (fun s c c2 h p q => ?_) (fun c p => lp_sE_le (by omega) p) hf i hi
    have hb := lp_on_b (Or.inl h)
    exact lp_sE_bin hb.1 (by omega) p q
theorem lp_ok_end {P : List (Nat × Nat) → Prop} {r : lp_PR} {s i : Nat} (hs : s < 999) (h : lp_ok n (i + 1) P r) : lp_ok n i P (lp_end (lp_sn n tp) s r) := by
  unfold lp_end
  cases r with
  | inl x => exact h
  | inr y =>
    obtain ⟨j, c⟩ := y
    obtain ⟨k1, k2, k3, k4, k5⟩ := h
    dsimp only
    by_cases q : lp_sn n tp j = s
    · rw [if_pos q]
      have : j < n := lp_sn_lt (tp := tp) (by omega)
      exact ⟨by omega, by omega, by omega, by omega, k5⟩
    · rw [if_neg q]
      exact ⟨Or.inl rfl, k2⟩
theorem lp_ok_F : ∀ k i, i ≤ n → lp_ok n i (lp_sE (2 * k + 1)) (lp_F (lp_sn n tp) k i) := by
  have wk : ∀ {i m k r}, m ≤ k → lp_ok n i (lp_sE m) r → lp_ok n i (lp_sE k) r := by
    intro i m k r hk h
    cases r with
    | inl x => exact h
    | inr y =>
      obtain ⟨j, c⟩ := y
      obtain ⟨k1, k2, k3, k4, k5⟩ := h
      exact ⟨k1, k2, k3, k4, lp_sE_le hk k5⟩
  intro k
  induction k with
  | zero =>
    intro i hi
    unfold lp_F
    by_cases q : lp_sn n tp i = 91
    · rw [if_pos q]; exact ⟨by omega, hi⟩
    · rw [if_neg q]; exact lp_ok_atom i hi
  | succ k ih =>
    intro i hi
    unfold lp_F
    by_cases q : lp_sn n tp i = 91
    · rw [if_pos q]
      have : i < n := lp_sn_lt (tp := tp) (by omega)
      exact lp_ok_end (by omega) (lp_ok_S ih (i + 1) (by omega))
    · rw [if_neg q]; exact wk (by omega) (lp_ok_atom i hi)
theorem lp_sC_cmp {m op : Nat} {c1 c2 : List (Nat × Nat)} (hm : m + 1 ≤ 32) (h7 : 7 ≤ op) (h9 : op ≤ 9) (h1 : lp_sE m c1) (h2 : lp_sE m c2) : lp_sC (c1 ++ (c2 ++ [(op, 0)])) := by
  intro F rest
  rw [List.append_assoc, List.append_assoc]
  rcases h1 F (c2 ++ ([(op, 0)] ++ rest)) [] (by show 0 + m ≤ 32; omega) with ⟨v, e⟩ | e
  · rw [e]
    rcases h2 F ([(op, 0)] ++ rest) [v] (by show 1 + m ≤ 32; omega) with ⟨v2, e2⟩ | e2
    · rw [e2]
      show (∃ v_1, (v_1 = 0 ∨ v_1 = 1) ∧ mv_ev F ((op, 0) :: rest) 0 [v2, v] = _) ∨ mv_ev F ((op, 0) :: rest) 0 [v2, v] = _
      rw [lp_ev_bin (by omega) h9, if_neg (by omega)]
      refine Or.inl ⟨_, ?_, rfl⟩
      unfold mv_op
      rw [if_neg (by omega), if_neg (by omega), if_neg (by omega), if_neg (by omega), if_neg (by omega)]
      split
      · split
        · exact Or.inr rfl
        · exact Or.inl rfl
      · split
        · split
          · exact Or.inl rfl
          · exact Or.inr rfl
        · split
          · exact Or.inr rfl
          · exact Or.inl rfl
    · exact Or.inr e2
  · exact Or.inr e
theorem lp_sC_not {c : List (Nat × Nat)} (h : lp_sC c) : lp_sC (c ++ [(10, 0)]) := by
  intro F rest
  rw [List.append_assoc]
  rcases h F ([(10, 0)] ++ rest) with ⟨v, hv, e⟩ | e
  · rw [e]
    show (∃ v_1, (v_1 = 0 ∨ v_1 = 1) ∧ mv_es F (10, 0) (mv_ev F rest) [v] = _) ∨ mv_es F (10, 0) (mv_ev F rest) [v] = _
    rcases hv with rfl | rfl
    · exact Or.inl ⟨1, Or.inr rfl, rfl⟩
    · exact Or.inl ⟨0, Or.inl rfl, rfl⟩
  · exact Or.inr e
theorem lp_sC_jmp {c c2 : List (Nat × Nat)} {op s : Nat} (ho : op = 11 ∨ op = 12) (h : lp_sC c) (h2 : lp_sC c2) : lp_sC (c ++ lp_ej op s c2) := by
  intro F rest
  rw [List.append_assoc]
  rcases h F (lp_ej op s c2 ++ rest) with ⟨v, hv, e⟩ | e
  · rw [e]
    show (∃ v_1, (v_1 = 0 ∨ v_1 = 1) ∧ mv_es F (op, c2.length) (mv_ev F (c2 ++ rest)) [v] = _) ∨ mv_es F (op, c2.length) (mv_ev F (c2 ++ rest)) [v] = _
    have sk : ∀ v, mv_ev F (c2 ++ rest) c2.length [v] = mv_ev F rest 0 [v] := fun v => mv_ev_sk F c2 rest [v]
    rcases ho with rfl | rfl <;> rcases hv with rfl | rfl
    · exact Or.inl ⟨0, Or.inl rfl, sk 0⟩
    · exact h2 F rest
    · exact h2 F rest
    · exact Or.inl ⟨1, Or.inr rfl, sk 1⟩
  · exact Or.inr e
theorem lp_ok_C {t : Nat → lp_PR} (ht : ∀ i, i ≤ n → lp_ok n i lp_sC (t i)) (i : Nat) (hi : i ≤ n) : lp_ok n i lp_sC (lp_C (lp_sn n tp) t i) := by
  have o1 : ∀ k s, k < 999 → lp_o1 k s = true → s < 999 := fun k s hk h => by
    unfold lp_o1 at h
    have := of_decide_eq_true h
    omega
  refine lp_ok_seq (Pf := lp_sC) (fun s h => o1 _ s (by omega) h) (lp_ej_b 12) (fun s c c2 h p q => lp_sC_jmp (Or.inr rfl) p q) (fun c p => p) (fun i hi => ?_) i hi
  exact lp_ok_seq (Pf := lp_sC) (fun s h => o1 _ s (by omega) h) (lp_ej_b 11) (fun s c c2 h p q => lp_sC_jmp (Or.inl rfl) p q) (fun c p => p) ht i hi
theorem lp_ok_cmp {k : Nat} (hk : k ≤ 6) (i : Nat) (hi : i ≤ n) : lp_ok n i lp_sC (lp_cmp (lp_sn n tp) k i) := by
  have hS := lp_ok_S (n := n) (tp := tp) (lp_ok_F (n := n) (tp := tp) k)
  have h1 := hS i hi
  unfold lp_cmp lp_ap
  cases hr : lp_S (lp_sn n tp) (lp_F (lp_sn n tp) k) i with
  | inl x => rw [hr] at h1; exact h1
  | inr y =>
    obtain ⟨j, c1⟩ := y
    rw [hr] at h1
    obtain ⟨a1, a2, a3, a4, a5⟩ := h1
    dsimp only
    by_cases q : lp_sn n tp j = 60 ∨ lp_sn n tp j = 62 ∨ lp_sn n tp j = 61
    · rw [if_pos q]
      have hj : j < n := lp_sn_lt (tp := tp) (by omega)
      have h2 := hS (j + 1) (by omega)
      cases hr2 : lp_S (lp_sn n tp) (lp_F (lp_sn n tp) k) (j + 1) with
      | inl x => rw [hr2] at h2; exact h2
      | inr y =>
        obtain ⟨j2, c2⟩ := y
        rw [hr2] at h2
        obtain ⟨b1, b2, b3, b4, b5⟩ := h2
        have ho : 7 ≤ lp_on (lp_sn n tp j) ∧ lp_on (lp_sn n tp j) ≤ 9 := by
          rcases q with q | q | q <;> rw [q] <;> decide
        have hz : mv_szs [(lp_on (lp_sn n tp j), 0)] = 1 := by
          show mv_sz (lp_on (lp_sn n tp j), 0) + 0 = 1
          unfold mv_sz
          dsimp only
          rw [if_neg (by omega)]
        exact ⟨by omega, b2, by rw [mv_szs_ap, mv_szs_ap, hz]; omega, by rw [List.length_append, List.length_append]; show c1.length + (c2.length + 1) ≤ _; omega, lp_sC_cmp (by omega) ho.1 ho.2 a5 b5⟩
    · rw [if_neg q]
      exact ⟨Or.inl rfl, a2⟩
theorem lp_ok_T : ∀ k, k ≤ 6 → ∀ i, i ≤ n → lp_ok n i lp_sC (lp_T (lp_sn n tp) k i) := by
  intro k
  induction k with
  | zero =>
    intro _ i hi
    unfold lp_T
    by_cases q : lp_sn n tp i = 33 ∨ lp_sn n tp i = 40
    · rw [if_pos q]; exact ⟨by omega, hi⟩
    · rw [if_neg q]; exact lp_ok_cmp (by omega) i hi
  | succ k ih =>
    intro hk i hi
    unfold lp_T
    by_cases q : lp_sn n tp i = 33
    · rw [if_pos q]
      have hlt : i < n := lp_sn_lt (tp := tp) (by omega)
      have h := ih (by omega) (i + 1) (by omega)
      unfold lp_ap
      cases hr : lp_T (lp_sn n tp) k (i + 1) with
      | inl x => rw [hr] at h; exact h
      | inr y =>
        obtain ⟨j, c⟩ := y
        rw [hr] at h
        obtain ⟨a1, a2, a3, a4, a5⟩ := h
        exact ⟨by omega, a2, by rw [mv_szs_ap]; show mv_szs c + 1 ≤ _; omega, by rw [List.length_append]; show c.length + 1 ≤ _; omega, lp_sC_not a5⟩
    · rw [if_neg q]
      by_cases q2 : lp_sn n tp i = 40
      · rw [if_pos q2]
        have hlt : i < n := lp_sn_lt (tp := tp) (by omega)
        exact lp_ok_end (by omega) (lp_ok_C (ih (by omega)) (i + 1) (by omega))
      · rw [if_neg q2]; exact lp_ok_cmp hk i hi
end LP1
