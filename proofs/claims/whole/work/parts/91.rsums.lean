noncomputable def lr_KF (sl e bs : Nat) (w2 : Value) (M : mj_M) : Option (Int32 × mj_M) := (mj_C sl e 158 [.ref 45] M).bind (fun q => if q.1 = 0 then some ((0 : Int32), q.2) else mj_E sl (e + 1) 160 14 [.ref 45, .int (nI bs), w2] [] q.2)
noncomputable abbrev lr_E (sl e bs : Nat) (w2 : Value) (M : mj_M) : Option (Int32 × mj_M) := mj_E sl (e + 1) 160 14 [.ref 45, .int (nI bs), w2] [] M
def lr_bad (x : Option (Int32 × mj_M)) (q p : Nat) (M0 : mj_M) : Prop := ∃ M', x = some (0, M') ∧ M' 45 8 = mv_fx (nI q) (nI p) ∧ mv_fr (lr_Q 0) M0 M'
def lr_TF (sl e n : Nat) (tp : Nat → Nat) (o : Nat) (f : Nat → lp_PR) : Prop := ∀ i C W M bs w2, lr_S M n i o W C → C ≤ i → W.length ≤ i → bs ≤ W.length → mv_Tb M tp → (match f i with
  | .inl (q, p) => lr_bad (lr_KF sl e bs w2 M) q p M
  | .inr (j, c) => ∃ M' w2', lr_KF sl e bs w2 M = lr_E sl e bs w2' M' ∧ lr_S M' n j o W (C + c.length) ∧ mv_rc (M' 51) C c ∧ mv_fr (lr_Q C) M M')
def lr_qm (q : List (Nat × Nat)) : Prop := q = [] ∨ ∃ op, 4 ≤ op ∧ op ≤ 6 ∧ q = [(op, 0)]
def lr_qa (q : List (Nat × Nat)) : Prop := q = [] ∨ ∃ op, 2 ≤ op ∧ op ≤ 3 ∧ q = [(op, 0)]
def lr_qs (q : List (Nat × Nat)) : Prop := ∃ a b, lr_qm a ∧ lr_qa b ∧ q = a ++ b
def lr_TQ (Sh : List (Nat × Nat) → Prop) (Hd : Nat → Prop) (sl e n : Nat) (tp : Nat → Nat) (o : Nat) (f : Nat → lp_PR) : Prop := ∀ i C W M bs w2, lr_S M n i o W C → Hd (lr_hd W) → C ≤ i → W.length ≤ i → bs ≤ W.length → mv_Tb M tp → (match f i with
  | .inl (q, p) => lr_bad (lr_KF sl e bs w2 M) q p M
  | .inr (j, c) => ∃ M' w2' c0 q, c = c0 ++ q ∧ Sh q ∧ lr_KF sl e bs w2 M = lr_E sl e bs w2' M' ∧ lr_S M' n j o (q ++ W) (C + c0.length) ∧ mv_rc (M' 51) C c0 ∧ mv_fr (lr_Q C) M M')
def lr_h4 (h : Nat) : Prop := ¬ (4 ≤ h ∧ h ≤ 6)
def lr_h2 (h : Nat) : Prop := ¬ (2 ≤ h ∧ h ≤ 6)
theorem lr_qm_b {q : List (Nat × Nat)} (h : lr_qm q) : q.length ≤ 1 ∧ ∀ w, w ∈ q → w.2 = 0 ∧ 4 ≤ w.1 ∧ w.1 ≤ 6 := by
  rcases h with rfl | ⟨op, h1, h2, rfl⟩
  · exact ⟨by decide, fun w hw => absurd hw List.not_mem_nil⟩
  · refine ⟨by show 1 ≤ 1; omega, fun w hw => ?_⟩
    rw [List.mem_singleton] at hw
    rw [hw]
    exact ⟨rfl, h1, h2⟩
theorem lr_qs_b {q : List (Nat × Nat)} (h : lr_qs q) : q.length ≤ 2 ∧ ∀ w, w ∈ q → w.2 = 0 ∧ 2 ≤ w.1 ∧ w.1 ≤ 6 := by
  obtain ⟨a, b, ha, hb, rfl⟩ := h
  obtain ⟨h1, h2⟩ := lr_qm_b ha
  have hb' : b.length ≤ 1 ∧ ∀ w, w ∈ b → w.2 = 0 ∧ 2 ≤ w.1 ∧ w.1 ≤ 3 := by
    rcases hb with rfl | ⟨op, h1, h2, rfl⟩
    · exact ⟨by decide, fun w hw => absurd hw List.not_mem_nil⟩
    · refine ⟨by show 1 ≤ 1; omega, fun w hw => ?_⟩
      rw [List.mem_singleton] at hw
      rw [hw]
      exact ⟨rfl, h1, h2⟩
  refine ⟨by rw [List.length_append]; omega, fun w hw => ?_⟩
  rcases List.mem_append.mp hw with hw | hw
  · have := h2 w hw
    omega
  · have := hb'.2 w hw
    omega
theorem lp_st_chn {n : Nat} {tp : Nat → Nat} {isop : Nat → Bool} {em : Nat → List (Nat × Nat) → List (Nat × Nat)} {f : Nat → lp_PR} {Pf : List (Nat × Nat) → Prop} {Z : Nat → Prop} (hn : n ≤ 240) (h1 : ∀ s, isop s = true → s < 999) (hf : ∀ i, i ≤ n → lp_ok n i Pf (f i)) (hz : ∀ i j c, i ≤ n → f i = .inr (j, c) → Z j) : ∀ F i c j c', i ≤ n → 240 ≤ i + F → Z i → lp_chn isop em f (lp_sn n tp) F i c = .inr (j, c') → isop (lp_sn n tp j) = false ∧ Z j := by
  intro F
  induction F with
  | zero =>
    intro i c j c' hi hF z e
    cases e
    refine ⟨?_, z⟩
    cases hq : isop (lp_sn n tp i) with
    | false => rfl
    | true => have := lp_sn_lt (h1 _ hq); omega
  | succ F ih =>
    intro i c j c' hi hF z e
    unfold lp_chn at e
    by_cases q : isop (lp_sn n tp i) = true
    · rw [if_pos q] at e
      have hlt := lp_sn_lt (h1 _ q)
      have ok := hf (i + 1) (by omega)
      cases hr : f (i + 1) with
      | inl x => rw [hr] at e; cases e
      | inr y =>
        obtain ⟨j2, c2⟩ := y
        rw [hr] at e ok
        obtain ⟨k1, k2, k3, k4, k5⟩ := ok
        exact ih j2 _ j c' k2 (by omega) (hz (i + 1) j2 c2 (by omega) hr) e
    · rw [if_neg q] at e
      cases e
      exact ⟨by simpa using q, z⟩
theorem lp_st_seq {n : Nat} {tp : Nat → Nat} {isop : Nat → Bool} {em : Nat → List (Nat × Nat) → List (Nat × Nat)} {f : Nat → lp_PR} {Pf : List (Nat × Nat) → Prop} {Z : Nat → Prop} (hn : n ≤ 240) (h1 : ∀ s, isop s = true → s < 999) (hf : ∀ i, i ≤ n → lp_ok n i Pf (f i)) (hz : ∀ i j c, i ≤ n → f i = .inr (j, c) → Z j) (i j : Nat) (c : List (Nat × Nat)) (hi : i ≤ n) (e : lp_seq isop em f (lp_sn n tp) i = .inr (j, c)) : isop (lp_sn n tp j) = false ∧ Z j := by
  unfold lp_seq at e
  have ok := hf i hi
  cases hr : f i with
  | inl x => rw [hr] at e; cases e
  | inr y =>
    obtain ⟨j2, c2⟩ := y
    rw [hr] at e ok
    obtain ⟨k1, k2, k3, k4, k5⟩ := ok
    exact lp_st_chn hn h1 hf hz 240 j2 c2 j c k2 (by omega) (hz i j2 c2 hi hr) e
theorem lp_st_S {n k : Nat} {tp : Nat → Nat} (hn : n ≤ 240) (i j : Nat) (c : List (Nat × Nat)) (hi : i ≤ n) (e : lp_S (lp_sn n tp) (lp_F (lp_sn n tp) k) i = .inr (j, c)) : lp_oa (lp_sn n tp j) = false ∧ lp_om (lp_sn n tp j) = false := by
  refine lp_st_seq (Z := fun j => lp_om (lp_sn n tp j) = false) (Pf := lp_sE (2 * k + 1 + 1)) hn (fun s h => (lp_on_b (Or.inr h)).2.2.2.2.1) (fun i hi => ?_) (fun i j c hi e => ?_) i j c hi e
  · exact lp_ok_seq (Pf := lp_sE (2 * k + 1)) (fun s h => (lp_on_b (Or.inl h)).2.2.2.2.1) lp_eb_b (fun s c c2 h p q => lp_sE_bin (lp_on_b (Or.inl h)).1 (by have := (lp_on_b (Or.inl h)).2.1; omega) p q) (fun c p => lp_sE_le (by omega) p) (lp_ok_F k) i hi
  · exact (lp_st_seq (Z := fun _ => True) (Pf := lp_sE (2 * k + 1)) hn (fun s h => (lp_on_b (Or.inl h)).2.2.2.2.1) (lp_ok_F k) (fun _ _ _ _ _ => trivial) i j c hi e).1
def lr_fo (x : Int32) : Int32 := if x = 97 then 1 else if x = 98 then (-1) else if x = 99 then 0 else if x = 100 then 7 else if x = 101 then (-1) else if x = 102 then 6 else if x = 103 then 3 else if x = 104 then (-1) else if x = 105 then (-1) else if x = 106 then (-1) else if x = 107 then 5 else if x = 108 then 2 else if x = 109 then 8 else if x = 110 then (-1) else if x = 111 then (-1) else if x = 112 then (-1) else if x = 113 then (-1) else if x = 114 then (-1) else if x = 115 then 4 else (-1)
theorem lr_foK : ∀ c, c < 256 → lr_fo (nI c) = if lp_nam c < 9 then nI (lp_nam c) else -1 := by decide +kernel
theorem lr_foE {sl d : Nat} {M : mj_M} {x : Int32} : mj_C sl d i_X9_factOf [.int x] M = some (lr_fo x, M) := by
  rw [b_X9_factOf]
  unfold lr_fo
  by_cases h97 : x = 97
  · rw [if_pos h97, if_pos h97]
  rw [if_neg h97, if_neg h97]
  by_cases h98 : x = 98
  · rw [if_pos h98, if_pos h98]
  rw [if_neg h98, if_neg h98]
  by_cases h99 : x = 99
  · rw [if_pos h99, if_pos h99]
  rw [if_neg h99, if_neg h99]
  by_cases h100 : x = 100
  · rw [if_pos h100, if_pos h100]
  rw [if_neg h100, if_neg h100]
  by_cases h101 : x = 101
  · rw [if_pos h101, if_pos h101]
  rw [if_neg h101, if_neg h101]
  by_cases h102 : x = 102
  · rw [if_pos h102, if_pos h102]
  rw [if_neg h102, if_neg h102]
  by_cases h103 : x = 103
  · rw [if_pos h103, if_pos h103]
  rw [if_neg h103, if_neg h103]
  by_cases h104 : x = 104
  · rw [if_pos h104, if_pos h104]
  rw [if_neg h104, if_neg h104]
  by_cases h105 : x = 105
  · rw [if_pos h105, if_pos h105]
  rw [if_neg h105, if_neg h105]
  by_cases h106 : x = 106
  · rw [if_pos h106, if_pos h106]
  rw [if_neg h106, if_neg h106]
  by_cases h107 : x = 107
  · rw [if_pos h107, if_pos h107]
  rw [if_neg h107, if_neg h107]
  by_cases h108 : x = 108
  · rw [if_pos h108, if_pos h108]
  rw [if_neg h108, if_neg h108]
  by_cases h109 : x = 109
  · rw [if_pos h109, if_pos h109]
  rw [if_neg h109, if_neg h109]
  by_cases h110 : x = 110
  · rw [if_pos h110, if_pos h110]
  rw [if_neg h110, if_neg h110]
  by_cases h111 : x = 111
  · rw [if_pos h111, if_pos h111]
  rw [if_neg h111, if_neg h111]
  by_cases h112 : x = 112
  · rw [if_pos h112, if_pos h112]
  rw [if_neg h112, if_neg h112]
  by_cases h113 : x = 113
  · rw [if_pos h113, if_pos h113]
  rw [if_neg h113, if_neg h113]
  by_cases h114 : x = 114
  · rw [if_pos h114, if_pos h114]
  rw [if_neg h114, if_neg h114]
  by_cases h115 : x = 115
  · rw [if_pos h115, if_pos h115]
  rw [if_neg h115, if_neg h115]
section LR2
variable {sl d e n o : Nat} {tp : Nat → Nat}
theorem rr_sumSign {M : mj_M} {i : Nat} (h8 : tp i < 256) : mj_C sl d i_X9_sumSign [.int (mv_hr n tp i)] M = some (if lp_om (lp_sn n tp i) = true ∨ lp_oa (lp_sn n tp i) = true then nI (lp_on (lp_sn n tp i)) else -1, M) := by
  have e43 : (mv_hr n tp i = 43) = (lp_sn n tp i = 43) := lp_hrL (by decide) h8
  have e45 : (mv_hr n tp i = 45) = (lp_sn n tp i = 45) := lp_hrL (by decide) h8
  have e42 : (mv_hr n tp i = 42) = (lp_sn n tp i = 42) := lp_hrL (by decide) h8
  have e47 : (mv_hr n tp i = 47) = (lp_sn n tp i = 47) := lp_hrL (by decide) h8
  have e37 : (mv_hr n tp i = 37) = (lp_sn n tp i = 37) := lp_hrL (by decide) h8
  rw [b_X9_sumSign]
  by_cases q1 : lp_sn n tp i = 43
  · rw [if_pos (by rw [e43]; exact q1), q1]; rfl
  rw [if_neg (by rw [e43]; exact q1)]
  by_cases q2 : lp_sn n tp i = 45
  · rw [if_pos (by rw [e45]; exact q2), q2]; rfl
  rw [if_neg (by rw [e45]; exact q2)]
  by_cases q3 : lp_sn n tp i = 42
  · rw [if_pos (by rw [e42]; exact q3), q3]; rfl
  rw [if_neg (by rw [e42]; exact q3)]
  by_cases q4 : lp_sn n tp i = 47
  · rw [if_pos (by rw [e47]; exact q4), q4]; rfl
  rw [if_neg (by rw [e47]; exact q4)]
  by_cases q5 : lp_sn n tp i = 37
  · rw [if_pos (by rw [e37]; exact q5), q5]; rfl
  rw [if_neg (by rw [e37]; exact q5), if_neg (by unfold lp_om lp_oa; simp [q1, q2, q3, q4, q5])]
theorem rr_number {W : List (Nat × Nat)} {C from0 : Nat} {M0 : mj_M} (hn : n ≤ 240) : ∀ m i v M, m ≤ 5 → i + m = from0 + 5 → lr_S M n i o W C → mv_Tb M tp → M 45 9 = nI v → v < 10 ^ (5 - m) → mv_fr (lr_Q C) M0 M → (match lp_nm (lp_sn n tp) m i v with
    | .inl (q, p) => lr_bad (mj_E sl (d + 3) i_X9_readsNumber 10 [.ref 45, .int (nI from0)] [] M) q p M0
    | .inr (j, c) => ∃ M' v', c = [(0, v')] ∧ v' ≤ 99999 ∧ mj_E sl (d + 3) i_X9_readsNumber 10 [.ref 45, .int (nI from0)] [] M = some (1, M') ∧ lr_S M' n j o W C ∧ M' 45 9 = nI v' ∧ mv_fr (lr_Q C) M0 M') := by
  intro m
  induction m with
  | zero =>
    intro i v M _ hm S T h9 hv f
    have hi := S.2.2.2.2.2.2
    have eD := rr_isDg (sl := sl) (d := d + 1) S hn T
    unfold lp_nm
    by_cases q : lp_dg (lp_sn n tp i) = true
    · rw [if_pos q]
      rw [if_pos q] at eD
      have wA : mj_C sl (d + 2) 149 [.ref 45, .int 2, .int (nI i)] M = some (0, mj_st M 45 8 (mv_fx (nI 2) (nI i))) := b_X9_wrongAt
      refine ⟨mj_st M 45 8 (mv_fx (nI 2) (nI i)), ?_, mq_st_eq, (f.wk (fun a k z => z.wk (by omega))).st (by unfold lr_Q; omega)⟩
      rw [b_X9_readsNumber_10, eD]
      simp only [Option.bind_some, s_10, if_false]
      rw [S.1, s_addL, if_pos (show nI i = nI (from0 + 5) by rw [show i = from0 + 5 from by omega]), wA]
      exact mv_wr
    · rw [if_neg q]
      rw [if_neg q] at eD
      refine ⟨M, v, rfl, by omega, ?_, S, h9, f⟩
      rw [b_X9_readsNumber_10, eD]
      rfl
  | succ m ih =>
    intro i v M h5 hm S T h9 hv f
    have hi := S.2.2.2.2.2.2
    have eD := rr_isDg (sl := sl) (d := d + 1) S hn T
    unfold lp_nm
    by_cases q : lp_dg (lp_sn n tp i) = true
    · rw [if_pos q]
      rw [if_pos q] at eD
      have q' : 48 ≤ lp_sn n tp i ∧ lp_sn n tp i ≤ 57 := by
        unfold lp_dg at q
        simp only [Bool.and_eq_true, decide_eq_true_eq] at q
        exact q
      have hlt : i < n := lp_sn_lt (tp := tp) (by omega)
      have e1 : 10 ^ (5 - m) = 10 * 10 ^ (5 - (m + 1)) := by
        rw [show 5 - m = (5 - (m + 1)) + 1 from by omega, Nat.pow_succ, Nat.mul_comm]
      have ev : (10 : Int32) * nI v + mv_hr n tp i - 48 = nI (10 * v + lp_sn n tp i - 48) := by
        rw [lp_hrS (by omega), s_Lmul, nI_add, s_subL (by omega)]
      have eE : mj_E sl (d + 3) i_X9_readsNumber 10 [.ref 45, .int (nI from0)] [] M = mj_E sl (d + 3) i_X9_readsNumber 10 [.ref 45, .int (nI from0)] [] (mj_st (mj_st M 45 9 (nI (10 * v + lp_sn n tp i - 48))) 45 6 (nI (i + 1))) := by
        rw [b_X9_readsNumber_10, eD]
        simp only [Option.bind_some, s_10, if_false]
        rw [S.1, s_addL, if_neg (by rw [s_eq (by omega) (by omega)]; omega), rr_here S hn T]
        simp only [Option.bind_some]
        rw [h9, ev, mq_st_ne (by omega), S.1, s_addL]
      have S1 : lr_S (mj_st M 45 9 (nI (10 * v + lp_sn n tp i - 48))) n i o W C := by
        obtain ⟨s1, s2, s3, s4, s5, s6, s7⟩ := S
        exact ⟨by rw [mq_st_ne (by omega)]; exact s1, by rw [mq_st_ne (by omega)]; exact s2, by rw [mq_st_ne (by omega)]; exact s3, by rw [mq_st_ne (by omega)]; exact s4, by rw [mq_st_ne (by omega)]; exact s5, lr_k_cg W (fun j hj => mq_st_ne (by omega)) s6, s7⟩
      have f1 : mv_fr (lr_Q C) M (mj_st (mj_st M 45 9 (nI (10 * v + lp_sn n tp i - 48))) 45 6 (nI (i + 1))) := (mv_fr.rf.st (by unfold lr_Q; omega)).st (by unfold lr_Q; omega)
      rw [eE]
      exact ih (i + 1) _ _ (by omega) (by omega) (lr_at S1 (by omega)) (lr_Tb T f1) (by rw [mq_st_ne (by omega), mq_st_eq]) (by omega) (f.tr f1)
    · rw [if_neg q]
      rw [if_neg q] at eD
      have hp : 10 ^ (5 - (m + 1)) ≤ 10 ^ 5 := Nat.pow_le_pow_right (by decide) (by omega)
      refine ⟨M, v, rfl, by omega, ?_, S, h9, f⟩
      rw [b_X9_readsNumber_10, eD]
      rfl
theorem rr_factOf {M : mj_M} {i : Nat} (h8 : tp i < 256) : mj_C sl d i_X9_factOf [.int (mv_hr n tp i)] M = some (if lp_nam (lp_sn n tp i) < 9 then nI (lp_nam (lp_sn n tp i)) else -1, M) := by
  have hs : lp_sn n tp i < 256 ∨ lp_sn n tp i = 999 := by
    unfold lp_sn
    split
    · exact Or.inl h8
    · exact Or.inr rfl
  rcases hs with hs | hs
  · rw [lp_hrS (by omega), lr_foE, lr_foK _ hs]
  · have hi : ¬ i < n := by
      unfold lp_sn at hs
      intro z
      rw [if_pos z] at hs
      omega
    rw [show mv_hr n tp i = -1 from if_neg hi, hs, b_X9_factOf]
    rfl
end LR2
