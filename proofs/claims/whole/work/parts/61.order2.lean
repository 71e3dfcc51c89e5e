def mv_oc (M : mj_M) (made : Nat) (dr : Nat → Nat) (opn : Nat) (op om : Nat → Nat) : Prop := M 23 5 = nI made ∧ M 23 6 = nI opn ∧ (∀ j, j < made → M 25 j = nI (dr j)) ∧ ∀ i, i < opn → M 26 i = nI (op i) ∧ M 27 i = nI (om i)
def mv_od (M : mj_M) (made : Nat) (dr : Nat → Nat) (opn : Nat) (op om : Nat → Nat) (n i : Nat) : Prop := M 45 33 = nI made ∧ M 45 34 = nI opn ∧ (∀ j, j < made → M 65 j = nI (dr j)) ∧ (∀ i, i < opn → M 66 i = nI (op i) ∧ M 67 i = nI (om i)) ∧ M 45 6 = nI i ∧ M 45 7 = nI n
def mv_wo (made : Nat) (dr : Nat → Nat) (opn : Nat) (om : Nat → Nat) : Prop := made ≤ 60 ∧ opn ≤ 2 ∧ (∀ j, j < made → dr j < 8) ∧ ∀ i, i < opn → om i ≤ made
def mv_QC (a k : Nat) : Prop := (24 ≤ a ∧ a ≤ 27) ∨ (a = 23 ∧ 4 ≤ k ∧ k ≤ 6)
def mv_QR (a k : Nat) : Prop := (a = 45 ∧ (k = 5 ∨ k = 6 ∨ k = 8 ∨ (32 ≤ k ∧ k ≤ 34))) ∨ (64 ≤ a ∧ a ≤ 67)
def mv_QC1 (a k : Nat) : Prop := (25 ≤ a ∧ a ≤ 27) ∨ (a = 23 ∧ 5 ≤ k ∧ k ≤ 6)
def mv_QR1 (a k : Nat) : Prop := (a = 45 ∧ (k = 6 ∨ k = 8 ∨ k = 33 ∨ k = 34)) ∨ (65 ≤ a ∧ a ≤ 67)
def mv_po (Mc Mc' Mr Mr' : mj_M) : Prop := mv_fr mv_QC Mc Mc' ∧ mv_fr mv_QR Mr Mr' ∧ Mr' 45 5 = 0 ∧ ((Mc' 23 4 = Mc 23 4 ∧ (∀ j, Mc' 24 j = Mc 24 j) ∧ Mr' 45 32 = Mr 45 32 ∧ ∀ j, Mr' 64 j = Mr 64 j) ∨ ∃ (on : Nat) (od : Nat → Nat), on ≤ 60 ∧ Mc' 23 4 = nI on ∧ Mr' 45 32 = nI on ∧ ∀ j, j < on → od j < 8 ∧ Mc' 24 j = nI (od j) ∧ Mr' 64 j = nI (od j))
theorem mv_po.pre {Mc Mc1 Mc' Mr Mr1 Mr' : mj_M} (h : mv_po Mc1 Mc' Mr1 Mr') (f : mv_fr mv_QC1 Mc Mc1) (g : mv_fr mv_QR1 Mr Mr1) : mv_po Mc Mc' Mr Mr' := by
  obtain ⟨h1, h2, h3, h4⟩ := h
  refine ⟨(f.wk (fun a k z => by unfold mv_QC1 at z; unfold mv_QC; omega)).tr h1, (g.wk (fun a k z => by unfold mv_QR1 at z; unfold mv_QR; omega)).tr h2, h3, ?_⟩
  rcases h4 with ⟨a, b, c, e⟩ | h4
  · refine Or.inl ⟨a.trans (f 23 4 (by unfold mv_QC1; omega)), fun j => (b j).trans (f 24 j (by unfold mv_QC1; omega)), c.trans (g 45 32 (by unfold mv_QR1; omega)), fun j => (e j).trans (g 64 j (by unfold mv_QR1; omega))⟩
  · exact Or.inr h4
section MV32
variable {sl d e : Nat}
theorem mv_ofault {Mc Mr Mr1 : mj_M} {v : Int32} {w1 w3 : Value} (g : mv_fr mv_QR1 Mr Mr1) (h8 : Mr1 45 8 = v) : ∃ Mr', mj_E sl (e + 2 + 1) i_X9_order 40 [.ref 45, w1, .int 0, w3] [] Mr1 = some (v, Mr') ∧ mv_po Mc Mc Mr Mr' := by
  refine ⟨mj_st Mr1 45 5 0, ?_, mv_fr.rf, ?_, mq_st_eq, Or.inl ⟨rfl, fun _ => rfl, ?_, fun j => ?_⟩⟩
  · rw [b_X9_order_40, if_pos rfl, if_pos rfl, mq_st_ne (by omega), h8]
  · exact (g.wk (fun a k z => by unfold mv_QR1 at z; unfold mv_QR; omega)).st (Or.inl ⟨rfl, Or.inl rfl⟩)
  · rw [mq_st_ne (by omega)]; exact g 45 32 (by unfold mv_QR1; omega)
  · rw [mq_st_ne (by omega)]; exact g 64 j (by unfold mv_QR1; omega)
theorem mv_ofin {Mc Mr : mj_M} {made n i : Nat} {dr op om : Nat → Nat} {w1 w3 u3 u4 u5 u6 u7 : Value} (C : mv_oc Mc made dr 0 op om) (R : mv_od Mr made dr 0 op om n i) (W : mv_wo made dr 0 om) (hin : ¬ i < n) (hi : i ≤ 260) (hn : n ≤ 260) : ∃ v Mc' Mr', mj_E sl (d + 2 + 1) i_X6_readOrder 125 [.ref 23, .ref 21, .int (nI n), u3, u4, u5, u6, u7] [] Mc = some (v, Mc') ∧ mj_E sl (e + 2 + 1) i_X9_order 40 [.ref 45, w1, .int 1, w3] [] Mr = some (v, Mr') ∧ mv_po Mc Mc' Mr Mr' := by
  obtain ⟨c1, c2, c3, -⟩ := C
  obtain ⟨r1, r2, r3, -, r5, r6⟩ := R
  obtain ⟨q1, -, q3, -⟩ := W
  have z0 : (0 : Int32).toNatClampNeg = 0 := by decide
  have L : ∀ k, k ≤ made → ∀ M', mv_fr (fun a _ => a = 64) (mj_st (mj_st Mr 45 5 0) 45 32 (nI made)) M' → (∀ j, j < k → M' 64 j = nI (dr j)) → ∃ M'', mj_E sl (e + 2 + 1) i_X9_order 94 [.ref 45, w1, .int 1, .int (nI k)] [] M' = some (nI made, M'') ∧ mv_fr (fun a _ => a = 64) (mj_st (mj_st Mr 45 5 0) 45 32 (nI made)) M'' ∧ ∀ j, j < made → M'' 64 j = nI (dr j) := by
    refine mq_up ?_ ?_
    · intro M' f h
      refine ⟨M', ?_, f, h⟩
      rw [b_X9_order_94, f 45 33 (by omega), mq_st_ne (by omega), mq_st_ne (by omega), r1, if_neg Int32.lt_irrefl]
    · intro k hk ih M' f h
      rw [b_X9_order_94, f 45 33 (by omega), mq_st_ne (by omega), mq_st_ne (by omega), r1]
      simp (disch := omega) only [s_lt, hk, if_true, s_in, s_cl, s_addL]
      refine ih _ (mv_fr.st f rfl) (fun j hj => ?_)
      by_cases z : j = k
      · rw [z, mq_st_eq, f 65 k (by omega), mq_st_ne (by omega), mq_st_ne (by omega)]
        exact r3 k hk
      · rw [mq_st_ne (Or.inr z)]
        exact h j (by omega)
  obtain ⟨M2, e2, f2, v2⟩ := L 0 (by omega) _ mv_fr.rf (fun j hj => by omega)
  have fc : mv_fr mv_QC Mc (mj_st (mj_cp Mc 25 24 0 0 made) 23 4 (nI made)) := (mv_fr.cp mv_fr.rf (fun k => Or.inl ⟨by omega, by omega⟩)).st (Or.inr ⟨rfl, by omega, by omega⟩)
  refine ⟨nI made, mj_st (mj_cp Mc 25 24 0 0 made) 23 4 (nI made), M2, ?_, ?_, fc, ?_, ?_, Or.inr ⟨made, dr, q1, mq_st_eq, ?_, fun j hj => ⟨q3 j hj, ?_, v2 j hj⟩⟩⟩
  · rw [b_X6_readOrder_125, c2, if_pos (by decide), c1, nI_clamp (by omega), z0, if_pos ⟨by decide, by decide, nI_pos (by omega), by omega, by omega⟩, mq_cp_ne (by omega), c1, mq_st_ne (by omega), mq_cp_ne (by omega), c1]
  · rw [b_X9_order_40, if_neg mq_10, r5, r6, r2]
    simp (disch := omega) only [s_lt, hin, if_false]
    rw [if_pos (by decide), if_neg mq_10, mq_st_ne (by omega), r1]
    exact e2
  · exact ((mv_fr.rf.st (Or.inl ⟨rfl, Or.inl rfl⟩)).st (Or.inl ⟨rfl, Or.inr (Or.inr (Or.inr ⟨by omega, by omega⟩))⟩)).tr (f2.wk (fun a k z => by unfold mv_QR; omega))
  · rw [f2 45 5 (by omega), mq_st_ne (by omega), mq_st_eq]
  · rw [f2 45 32 (by omega), mq_st_eq]
  · rw [mq_st_ne (by omega), mq_cp_in hj]
    exact c3 j hj
def mv_oA (sl d e n : Nat) (tp : Nat → Nat) (w1 w3 : Value) (i : Nat) : Prop := ∀ (t made opn : Nat) (dr op om : Nat → Nat) (Mc Mr : mj_M) (w5 w6 w7 : Value), t ≤ i → mv_oc Mc made dr opn op om → mv_od Mr made dr opn op om n i → mv_wo made dr opn om → (∀ j, j < opn → op j < 261) → mv_Tb Mc tp → mv_Tb Mr tp → (opn = 0 ∨ made ≤ om (opn - 1) ∨ ¬ (i < n ∧ tp i = 41)) → (i < n ∨ 0 < opn) → ∃ v Mc' Mr', mj_E sl (d + 2 + 1) i_X6_readOrder 15 [.ref 23, .ref 21, .int (nI n), .int (nI i), .int (nI t), w5, w6, w7] [] Mc = some (v, Mc') ∧ (mj_E sl (e + 1 + 1) i_X9_readsItem 0 [.ref 45, .null, .null, .null] [] Mr).bind (fun q => mj_E sl (e + 2 + 1) i_X9_order 40 [.ref 45, w1, .int q.1, w3] [] q.2) = some (v, Mr') ∧ mv_po Mc Mc' Mr Mr'
def mv_oB (sl d e n : Nat) (tp : Nat → Nat) (w1 w3 : Value) (i : Nat) : Prop := ∀ (t made opn : Nat) (dr op om : Nat → Nat) (Mc Mr : mj_M) (w5 w6 w7 u1 u2 u3 : Value), t ≤ i → mv_oc Mc made dr opn op om → mv_od Mr made dr opn op om n i → mv_wo made dr opn om → (∀ j, j < opn → op j < 261) → mv_Tb Mc tp → mv_Tb Mr tp → (∀ j, j < opn → om j < made) → ∃ v Mc' Mr', mj_E sl (d + 2 + 1) i_X6_readOrder 15 [.ref 23, .ref 21, .int (nI n), .int (nI i), .int (nI t), w5, w6, w7] [] Mc = some (v, Mc') ∧ (mj_E sl (e + 1 + 1) i_X9_readsItem 180 [.ref 45, u1, u2, u3] [] Mr).bind (fun q => mj_E sl (e + 2 + 1) i_X9_order 40 [.ref 45, w1, .int q.1, w3] [] q.2) = some (v, Mr') ∧ mv_po Mc Mc' Mr Mr'
theorem mv_Tb.qc {M M1 : mj_M} {tp : Nat → Nat} (T : mv_Tb M tp) (f : mv_fr mv_QC1 M M1) : mv_Tb M1 tp := T.fr f (fun a k z => by unfold mv_QC1 at z; omega)
theorem mv_Tb.qr {M M1 : mj_M} {tp : Nat → Nat} (T : mv_Tb M tp) (f : mv_fr mv_QR1 M M1) : mv_Tb M1 tp := T.fr f (fun a k z => by unfold mv_QR1 at z; omega)
theorem mv_out7 {c : Nat} (hc : c < 256) : (if nI c - 65 < 0 then (0 : Int32) else if nI c - 65 ≤ 7 then 1 else 0) = if 65 ≤ c ∧ c ≤ 72 then 1 else 0 := by
  have h : ∀ c, c < 256 → (if nI c - 65 < 0 then (0 : Int32) else if nI c - 65 ≤ 7 then 1 else 0) = if 65 ≤ c ∧ c ≤ 72 then 1 else 0 := by decide +kernel
  exact h c hc
theorem c_roOpen {Mc : mj_M} {n i t : Nat} {tp : Nat → Nat} {w5 w6 w7 : Value} (hn : n ≤ 60) (hi : i < n) (ht : t ≤ i) (Tc : mv_Tb Mc tp) (k : tp i = 40) : mj_E sl (d + 2 + 1) i_X6_readOrder 15 [.ref 23, .ref 21, .int (nI n), .int (nI i), .int (nI t), w5, w6, w7] [] Mc = (mj_C sl (d + 2) i_X6_openRound [.ref 23, .int (nI i)] Mc).bind (fun q => if q.1 = 0 then mj_E sl (d + 2 + 1) i_X6_readOrder 15 [.ref 23, .ref 21, .int (nI n), .int (nI (i + 1)), .int (nI (t + 1)), .int (nI (tp i)), .int 1, .int q.1] [] q.2 else some (q.1, q.2)) := by
  have h40 : nI (tp i) = 40 := by rw [k]; rfl
  rw [b_X6_readOrder_15, if_pos ((mq_lt (by omega) (by omega)).mpr (by omega)), if_pos ((mq_lt (by omega) (by omega)).mpr hi), c_byteB Tc (by omega)]
  simp only [Option.bind_some]
  rw [if_pos h40, if_pos h40, nI_1, nI_1]
def mv_adv (n : Nat) (tp : Nat → Nat) (i : Nat) : Nat := if 1 < mv_tm n tp (i + 1) then 2 else 1
theorem c_roShut {Mc : mj_M} {n i t : Nat} {tp : Nat → Nat} {w5 w6 w7 : Value} (hn : n ≤ 60) (hi : i < n) (ht : t ≤ i) (Tc : mv_Tb Mc tp) (k : tp i = 41) : mj_E sl (d + 2 + 1) i_X6_readOrder 15 [.ref 23, .ref 21, .int (nI n), .int (nI i), .int (nI t), w5, w6, w7] [] Mc = (mj_C sl (d + 2) i_X6_shutRound [.ref 23, .int (nI i), .int (nI (mv_tm n tp (i + 1)))] Mc).bind (fun q => if q.1 = 0 then mj_E sl (d + 2 + 1) i_X6_readOrder 15 [.ref 23, .ref 21, .int (nI n), .int (nI (i + mv_adv n tp i)), .int (nI (t + 1)), .int (nI (tp i)), .int (nI (mv_tm n tp (i + 1))), .int q.1] [] q.2 else some (q.1, q.2)) := by
  have h40 : ¬ nI (tp i) = 40 := by rw [k]; decide
  have h41 : nI (tp i) = 41 := by rw [k]; rfl
  have hb := mv_tm_b n tp (i + 1)
  rw [b_X6_readOrder_15, if_pos ((mq_lt (by omega) (by omega)).mpr (by omega)), if_pos ((mq_lt (by omega) (by omega)).mpr hi), c_byteB Tc (by omega)]
  simp only [Option.bind_some]
  rw [if_neg h40, nI_1, c_timesAt (by omega) (by omega) Tc]
  simp only [Option.bind_some]
  rw [if_neg h40, if_pos h41]
  simp (disch := omega) only [s_leL, s_addL]
  unfold mv_adv
  by_cases q : mv_tm n tp (i + 1) ≤ 1
  · simp only [q, if_true, show ¬ 1 < mv_tm n tp (i + 1) from by omega, if_false]
  · simp only [q, if_true, show 1 < mv_tm n tp (i + 1) from by omega, if_false]
theorem c_roPut {Mc : mj_M} {n i t : Nat} {tp : Nat → Nat} {w5 w6 w7 : Value} (hn : n ≤ 60) (hi : i < n) (ht : t ≤ i) (Tc : mv_Tb Mc tp) (k0 : ¬ tp i = 40) (k : ¬ tp i = 41) : mj_E sl (d + 2 + 1) i_X6_readOrder 15 [.ref 23, .ref 21, .int (nI n), .int (nI i), .int (nI t), w5, w6, w7] [] Mc = (mj_C sl (d + 2) i_X6_putLetter [.ref 23, .int (nI (tp i)), .int (nI i), .int (nI (mv_tm n tp (i + 1)))] Mc).bind (fun q => if q.1 = 0 then mj_E sl (d + 2 + 1) i_X6_readOrder 15 [.ref 23, .ref 21, .int (nI n), .int (nI (i + mv_adv n tp i)), .int (nI (t + 1)), .int (nI (tp i)), .int (nI (mv_tm n tp (i + 1))), .int q.1] [] q.2 else some (q.1, q.2)) := by
  have h8 := (Tc i (by omega)).1
  have h40 : ¬ nI (tp i) = 40 := fun z => k0 ((mq_eq (b := 40) (by omega) (by decide)).mp z)
  have h41 : ¬ nI (tp i) = 41 := fun z => k ((mq_eq (b := 41) (by omega) (by decide)).mp z)
  have hb := mv_tm_b n tp (i + 1)
  rw [b_X6_readOrder_15, if_pos ((mq_lt (by omega) (by omega)).mpr (by omega)), if_pos ((mq_lt (by omega) (by omega)).mpr hi), c_byteB Tc (by omega)]
  simp only [Option.bind_some]
  rw [if_neg h40, nI_1, c_timesAt (by omega) (by omega) Tc]
  simp only [Option.bind_some]
  rw [if_neg h40, if_neg h41]
  simp (disch := omega) only [s_leL, s_addL]
  unfold mv_adv
  by_cases q : mv_tm n tp (i + 1) ≤ 1
  · simp only [q, if_true, show ¬ 1 < mv_tm n tp (i + 1) from by omega, if_false]
  · simp only [q, if_true, show 1 < mv_tm n tp (i + 1) from by omega, if_false]
theorem c_roEnd {Mc : mj_M} {n i t : Nat} {w5 w6 w7 : Value} (hn : n ≤ 60) (hi : i = n) : mj_E sl (d + 2 + 1) i_X6_readOrder 15 [.ref 23, .ref 21, .int (nI n), .int (nI i), .int (nI t), w5, w6, w7] [] Mc = mj_E sl (d + 2 + 1) i_X6_readOrder 125 [.ref 23, .ref 21, .int (nI n), .int (nI i), .int (nI t), w5, w6, w7] [] Mc := by
  rw [b_X6_readOrder_15, hi, if_neg (show ¬ nI n < nI n from Int32.lt_irrefl), ite_self]
theorem mv_fnz : ∀ i, i < 261 → ¬ (-1000 * 1 - nI i = (0 : Int32)) ∧ ¬ (-1000 * 4 - nI i = (0 : Int32)) ∧ ¬ (-1000 * 5 - nI i = (0 : Int32)) ∧ ¬ (-1000 * 6 - nI i = (0 : Int32)) ∧ ¬ (-1000 * 7 - nI i = (0 : Int32)) := by decide +kernel
theorem r_riOpen {Mr : mj_M} {n i opn made : Nat} {tp : Nat → Nat} (hn : n ≤ 60) (hi : i < n) (Tr : mv_Tb Mr tp) (r5 : Mr 45 6 = nI i) (r6 : Mr 45 7 = nI n) (r1 : Mr 45 33 = nI made) (r2 : Mr 45 34 = nI opn) (ho : opn ≤ 2) (k : tp i = 40) : mj_E sl (e + 1 + 1) i_X9_readsItem 0 [.ref 45, .null, .null, .null] [] Mr = if opn = 2 then some (0, mj_st Mr 45 8 (-1000 * 5 - nI i)) else mj_E sl (e + 1 + 1) i_X9_readsItem 0 [.ref 45, .null, .null, .null] [] (mj_st (mj_st (mj_st (mj_st Mr 66 opn (nI i)) 67 opn (nI made)) 45 34 (nI (opn + 1))) 45 6 (nI (i + 1))) := by
  have h40 : mv_hr n tp i = 40 := by unfold mv_hr; rw [if_pos hi, k]; rfl
  rw [b_X9_readsItem_0, r_here r5 r6 (by omega) (by omega) Tr]
  simp only [Option.bind_some]
  rw [if_pos h40, r2, r5]
  simp (disch := omega) only [s_eqL]
  by_cases q : opn = 2
  · rw [if_pos q, if_pos q, r_wrongAt]
    simp only [Option.bind_some, s_00, if_true]
  · rw [if_neg q, if_neg q]
    simp (disch := omega) only [s_in, if_true, s_cl, mq_st_ne, r2, r1, r5, s_addL]
theorem r_riBad {Mr : mj_M} {n i : Nat} {tp : Nat → Nat} (hn : n ≤ 60) (hi : i ≤ n) (Tr : mv_Tb Mr tp) (r5 : Mr 45 6 = nI i) (r6 : Mr 45 7 = nI n) (k : i < n → ¬ tp i = 40 ∧ ¬ (65 ≤ tp i ∧ tp i ≤ 72)) : mj_E sl (e + 1 + 1) i_X9_readsItem 0 [.ref 45, .null, .null, .null] [] Mr = some (0, mj_st Mr 45 8 (-1000 * 1 - nI i)) := by
  have h40 : ¬ mv_hr n tp i = 40 ∧ (if mv_hr n tp i - 65 < 0 then (0 : Int32) else if mv_hr n tp i - 65 ≤ 7 then 1 else 0) = 0 := by
    unfold mv_hr
    by_cases q : i < n
    · have h8 := (Tr i (by omega)).1
      obtain ⟨k1, k2⟩ := k q
      rw [if_pos q, mv_out7 h8, if_neg k2]
      exact ⟨fun z => k1 ((mq_eq (b := 40) (by omega) (by decide)).mp z), rfl⟩
    · rw [if_neg q]
      decide
  rw [b_X9_readsItem_0, r_here r5 r6 (by omega) (by omega) Tr]
  simp only [Option.bind_some]
  rw [if_neg h40.1, r_here r5 r6 (by omega) (by omega) Tr]
  simp only [Option.bind_some, r_in]
  rw [h40.2, if_pos rfl, r_wrongAt, r5]
  simp only [Option.bind_some, s_00, if_true]
theorem r_riPut {Mr : mj_M} {n i made : Nat} {tp : Nat → Nat} (hn : n ≤ 60) (hi : i < n) (Tr : mv_Tb Mr tp) (r5 : Mr 45 6 = nI i) (r6 : Mr 45 7 = nI n) (r1 : Mr 45 33 = nI made) (hm : made ≤ 60) (k : 65 ≤ tp i ∧ tp i ≤ 72) : ∃ M1, mv_fr (fun a k => a = 45 ∧ k = 6) Mr M1 ∧ M1 45 6 = nI (i + mv_adv n tp i) ∧ mj_E sl (e + 1 + 1) i_X9_readsItem 0 [.ref 45, .null, .null, .null] [] Mr = if made + mv_tm n tp (i + 1) ≤ 60 then (mj_C sl (e + 1) i_X9_repeats [.ref 45, .int (nI made), .int (nI (mv_tm n tp (i + 1))), .int (nI i)] (mj_st (mj_st M1 65 made (nI (tp i - 65))) 45 33 (nI (made + 1)))).bind (fun q => if q.1 = 0 then some (0, q.2) else mj_E sl (e + 1 + 1) i_X9_readsItem 180 [.ref 45, .int (nI i), .int (nI (tp i - 65)), .int (nI (mv_tm n tp (i + 1)))] [] q.2) else some (0, mj_st M1 45 8 (-1000 * 6 - nI i)) := by
  have h8 := (Tr i (by omega)).1
  have hb := mv_tm_b n tp (i + 1)
  have hh : mv_hr n tp i = nI (tp i) := if_pos hi
  have h40 : ¬ nI (tp i) = 40 := fun z => absurd ((mq_eq (b := 40) (by omega) (by decide)).mp z) (by omega)
  have f1 : mv_fr (fun a k => a = 45 ∧ k = 6) Mr (mj_st Mr 45 6 (nI (i + 1))) := mv_fr.rf.st ⟨rfl, rfl⟩
  obtain ⟨M1, e1, f2, g1⟩ := r_readsTimes (sl := sl) (d := e) (M := mj_st Mr 45 6 (nI (i + 1))) (i := i + 1) (n := n) (tp := tp) mq_st_eq (by rw [mq_st_ne (by omega)]; exact r6) (by omega) (by omega) (Tr.fr f1 (fun a k z => by omega))
  have h33 : M1 45 33 = nI made := by rw [f2 45 33 (by omega), mq_st_ne (by omega)]; exact r1
  refine ⟨M1, f1.tr f2, ?_, ?_⟩
  · rw [g1]
    unfold mv_adv
    congr 1
    split <;> omega
  · rw [b_X9_readsItem_0, r_here r5 r6 (by omega) (by omega) Tr, hh]
    simp only [Option.bind_some]
    rw [if_neg h40, r_here r5 r6 (by omega) (by omega) Tr, hh]
    simp only [Option.bind_some, r_in]
    rw [mv_out7 h8, if_pos k, if_neg mq_10, r5, s_addL, s_subL (by omega)]
    have e1' : mj_C sl (e + 1) 173 [.ref 45] (mj_st Mr 45 6 (nI (i + 1))) = some (nI (mv_tm n tp (i + 1)), M1) := e1
    rw [e1']
    simp only [Option.bind_some]
    rw [h33, nI_add]
    simp (disch := omega) only [s_leL]
    by_cases q : made + mv_tm n tp (i + 1) ≤ 60
    · rw [if_pos q, if_pos q]
      simp (disch := omega) only [s_in, if_true, s_cl, mq_st_ne, mq_st_eq, h33, s_addL, s_subL]
      rw [show made + 1 - 1 = made from by omega]
    · rw [if_neg q, if_neg q, r_wrongAt]
      simp only [Option.bind_some, s_00, if_true]
end MV32
