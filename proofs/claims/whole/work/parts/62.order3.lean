section MV33
variable {sl d e : Nat}
def mv_ups (f : Nat → Nat) (i x : Nat) : Nat → Nat := fun j => if j = i then x else f j
theorem mv_ups_s {f : Nat → Nat} {i x : Nat} : mv_ups f i x i = x := if_pos rfl
theorem mv_ups_n {f : Nat → Nat} {i x j : Nat} (h : j ≠ i) : mv_ups f i x j = f j := if_neg h
theorem c_open {Mc : mj_M} {made opn i : Nat} {dr op om : Nat → Nat} (C : mv_oc Mc made dr opn op om) (h : opn < 2) : ∃ M1, mj_C sl (d + 2) i_X6_openRound [.ref 23, .int (nI i)] Mc = some (0, M1) ∧ mv_fr mv_QC1 Mc M1 ∧ mv_oc M1 made dr (opn + 1) (mv_ups op opn i) (mv_ups om opn made) := by
  obtain ⟨c1, c2, c3, c4⟩ := C
  refine ⟨mj_st (mj_st (mj_st Mc 26 opn (nI i)) 27 opn (nI made)) 23 6 (nI (opn + 1)), ?_, ((mv_fr.rf.st (Or.inl ⟨by omega, by omega⟩)).st (Or.inl ⟨by omega, by omega⟩)).st (Or.inr ⟨rfl, by omega, by omega⟩), ?_, mq_st_eq, fun j hj => ?_, fun j hj => ⟨?_, ?_⟩⟩
  · rw [b_X6_openRound, c2]
    simp (disch := omega) only [s_ltL, h, if_true, s_in, s_cl, mq_st_ne, c2, c1, s_addL]
  · rw [mq_st_ne (by omega), mq_st_ne (by omega), mq_st_ne (by omega)]; exact c1
  · rw [mq_st_ne (by omega), mq_st_ne (by omega), mq_st_ne (by omega)]; exact c3 j hj
  · rw [mq_st_ne (by omega), mq_st_ne (by omega)]
    by_cases q : j = opn
    · rw [q, mq_st_eq, mv_ups_s]
    · rw [mq_st_ne (Or.inr q), mv_ups_n q]; exact (c4 j (by omega)).1
  · rw [mq_st_ne (by omega)]
    by_cases q : j = opn
    · rw [q, mq_st_eq, mv_ups_s]
    · rw [mq_st_ne (Or.inr q), mv_ups_n q, mq_st_ne (by omega)]; exact (c4 j (by omega)).2
theorem r_open {Mr : mj_M} {made opn n i : Nat} {tp dr op om : Nat → Nat} (hn : n ≤ 60) (hi : i < n) (Tr : mv_Tb Mr tp) (R : mv_od Mr made dr opn op om n i) (k : tp i = 40) (h : opn < 2) : ∃ M1, mj_E sl (e + 1 + 1) i_X9_readsItem 0 [.ref 45, .null, .null, .null] [] Mr = mj_E sl (e + 1 + 1) i_X9_readsItem 0 [.ref 45, .null, .null, .null] [] M1 ∧ mv_fr mv_QR1 Mr M1 ∧ mv_od M1 made dr (opn + 1) (mv_ups op opn i) (mv_ups om opn made) n (i + 1) := by
  obtain ⟨r1, r2, r3, r4, r5, r6⟩ := R
  have er := r_riOpen (sl := sl) (e := e) hn hi Tr r5 r6 r1 r2 (by omega) k
  rw [if_neg (by omega)] at er
  refine ⟨_, er, (((mv_fr.rf.st (Or.inr ⟨by omega, by omega⟩)).st (Or.inr ⟨by omega, by omega⟩)).st (Or.inl ⟨rfl, by omega⟩)).st (Or.inl ⟨rfl, by omega⟩), ?_, ?_, fun j hj => ?_, fun j hj => ⟨?_, ?_⟩, mq_st_eq, ?_⟩
  · rw [mq_st_ne (by omega), mq_st_ne (by omega), mq_st_ne (by omega), mq_st_ne (by omega)]; exact r1
  · rw [mq_st_ne (by omega), mq_st_eq]
  · rw [mq_st_ne (by omega), mq_st_ne (by omega), mq_st_ne (by omega), mq_st_ne (by omega)]; exact r3 j hj
  · rw [mq_st_ne (by omega), mq_st_ne (by omega), mq_st_ne (by omega)]
    by_cases q : j = opn
    · rw [q, mq_st_eq, mv_ups_s]
    · rw [mq_st_ne (Or.inr q), mv_ups_n q]; exact (r4 j (by omega)).1
  · rw [mq_st_ne (by omega), mq_st_ne (by omega)]
    by_cases q : j = opn
    · rw [q, mq_st_eq, mv_ups_s]
    · rw [mq_st_ne (Or.inr q), mv_ups_n q, mq_st_ne (by omega)]; exact (r4 j (by omega)).2
  · rw [mq_st_ne (by omega), mq_st_ne (by omega), mq_st_ne (by omega), mq_st_ne (by omega)]; exact r6
theorem c_put {Mc : mj_M} {made opn i c t : Nat} {dr op om : Nat → Nat} (C : mv_oc Mc made dr opn op om) (hc : 65 ≤ c ∧ c ≤ 72) (hm : made ≤ 60) (h1 : 1 ≤ t) (h9 : t ≤ 9) : (60 < made + t ∧ ∃ M1, mj_C sl (d + 2) i_X6_putLetter [.ref 23, .int (nI c), .int (nI i), .int (nI t)] Mc = some (-1000 * 6 - nI i, M1) ∧ mv_fr mv_QC1 Mc M1) ∨ (made + t ≤ 60 ∧ ∃ M1, mj_C sl (d + 2) i_X6_putLetter [.ref 23, .int (nI c), .int (nI i), .int (nI t)] Mc = some (0, M1) ∧ mv_fr mv_QC1 Mc M1 ∧ mv_oc M1 (made + t) (mv_rep (mv_ups dr made (c - 65)) made 1) opn op om) := by
  obtain ⟨c1, c2, c3, c4⟩ := C
  rw [b_X6_putLetter, c1]
  simp (disch := omega) only [s_ltL, show ¬ c < 65 from by omega, if_false, s_leL, hc.2, if_true, s_subL]
  by_cases hf : made < 60
  · simp (disch := omega) only [hf, if_true, s_in, s_cl, mq_st_ne, mq_st_eq, c1, s_addL, s_subL]
    rw [show made + 1 - 1 = made from by omega]
    have fc1 : mv_fr mv_QC1 Mc (mj_st (mj_st Mc 25 made (nI (c - 65))) 23 5 (nI (made + 1))) := (mv_fr.rf.st (Or.inl ⟨by omega, by omega⟩)).st (Or.inr ⟨rfl, by omega, by omega⟩)
    have hcr := c_repeat (sl := sl) (d := d) (x := nI i) (M := mj_st (mj_st Mc 25 made (nI (c - 65))) 23 5 (nI (made + 1))) (since := made) (made := made + 1) (times := t) (dr := mv_ups dr made (c - 65)) mq_st_eq (fun j hj => by
      rw [mq_st_ne (by omega)]
      by_cases q : j = made
      · rw [q, mq_st_eq, mv_ups_s]
      · rw [mq_st_ne (Or.inr q), mv_ups_n q]; exact c3 j (by omega)) (by omega) (by omega) h1 h9
    rw [show made + 1 - made = 1 from by omega, Nat.one_mul] at hcr
    rcases hcr with ⟨h, e1⟩ | ⟨h, M1, e1, f1, g1, g2⟩
    · refine Or.inl ⟨h, _, ?_, fc1⟩
      have e1' : mj_C sl (d + 1) 71 [.ref 23, .int (nI i), .int (nI made), .int (nI t)] (mj_st (mj_st Mc 25 made (nI (c - 65))) 23 5 (nI (made + 1))) = _ := e1
      rw [e1']
      rfl
    · refine Or.inr ⟨h, M1, ?_, fc1.tr (f1.wk (fun a k z => by unfold mv_QC1; omega)), g1, ?_, g2, fun j hj => ⟨?_, ?_⟩⟩
      · have e1' : mj_C sl (d + 1) 71 [.ref 23, .int (nI i), .int (nI made), .int (nI t)] (mj_st (mj_st Mc 25 made (nI (c - 65))) 23 5 (nI (made + 1))) = _ := e1
        rw [e1']
        rfl
      · rw [f1 23 6 (by omega), mq_st_ne (by omega), mq_st_ne (by omega)]; exact c2
      · rw [f1 26 j (by omega), mq_st_ne (by omega), mq_st_ne (by omega)]; exact (c4 j hj).1
      · rw [f1 27 j (by omega), mq_st_ne (by omega), mq_st_ne (by omega)]; exact (c4 j hj).2
  · refine Or.inl ⟨by omega, Mc, ?_, mv_fr.rf⟩
    simp only [hf, if_false, b_X8_fault, Option.bind_some]
theorem r_put {Mr : mj_M} {made opn n i : Nat} {tp dr op om : Nat → Nat} (hn : n ≤ 60) (hi : i < n) (Tr : mv_Tb Mr tp) (R : mv_od Mr made dr opn op om n i) (hm : made ≤ 60) (k : 65 ≤ tp i ∧ tp i ≤ 72) : (60 < made + mv_tm n tp (i + 1) ∧ ∃ M1, mj_E sl (e + 1 + 1) i_X9_readsItem 0 [.ref 45, .null, .null, .null] [] Mr = some (0, mj_st M1 45 8 (-1000 * 6 - nI i)) ∧ mv_fr mv_QR1 Mr M1) ∨ (made + mv_tm n tp (i + 1) ≤ 60 ∧ ∃ M1 u1 u2 u3, mj_E sl (e + 1 + 1) i_X9_readsItem 0 [.ref 45, .null, .null, .null] [] Mr = mj_E sl (e + 1 + 1) i_X9_readsItem 180 [.ref 45, u1, u2, u3] [] M1 ∧ mv_fr mv_QR1 Mr M1 ∧ mv_od M1 (made + mv_tm n tp (i + 1)) (mv_rep (mv_ups dr made (tp i - 65)) made 1) opn op om n (i + mv_adv n tp i)) := by
  obtain ⟨r1, r2, r3, r4, r5, r6⟩ := R
  have hb := mv_tm_b n tp (i + 1)
  obtain ⟨M1, f1, g1, er⟩ := r_riPut (sl := sl) (e := e) hn hi Tr r5 r6 r1 hm k
  have f1' : mv_fr mv_QR1 Mr M1 := f1.wk (fun a k z => Or.inl ⟨z.1, Or.inl z.2⟩)
  by_cases hl : made + mv_tm n tp (i + 1) ≤ 60
  · rw [if_pos hl] at er
    have fr1 : mv_fr mv_QR1 Mr (mj_st (mj_st M1 65 made (nI (tp i - 65))) 45 33 (nI (made + 1))) := (f1'.st (Or.inr ⟨by omega, by omega⟩)).st (Or.inl ⟨rfl, by omega⟩)
    have hrr := r_repeats (sl := sl) (d := e) (x := nI i) (M := mj_st (mj_st M1 65 made (nI (tp i - 65))) 45 33 (nI (made + 1))) (since := made) (made := made + 1) (times := mv_tm n tp (i + 1)) (dr := mv_ups dr made (tp i - 65)) mq_st_eq (fun j hj => by
      rw [mq_st_ne (by omega)]
      by_cases q : j = made
      · rw [q, mq_st_eq, mv_ups_s]
      · rw [mq_st_ne (Or.inr q), mv_ups_n q, f1 65 j (by omega)]; exact r3 j (by omega)) (by omega) (by omega) hb.1 hb.2.1
    rw [show made + 1 - made = 1 from by omega, Nat.one_mul] at hrr
    rcases hrr with ⟨h, -⟩ | ⟨h, M2, e2, f2, g2, g3⟩
    · omega
    · rw [e2] at er
      simp only [Option.bind_some, s_10, if_false] at er
      refine Or.inr ⟨hl, M2, _, _, _, er, fr1.tr (f2.wk (fun a k z => by unfold mv_QR1; omega)), g2, ?_, g3, fun j hj => ⟨?_, ?_⟩, ?_, ?_⟩
      · rw [f2 45 34 (by omega), mq_st_ne (by omega), mq_st_ne (by omega), f1 45 34 (by omega)]; exact r2
      · rw [f2 66 j (by omega), mq_st_ne (by omega), mq_st_ne (by omega), f1 66 j (by omega)]; exact (r4 j hj).1
      · rw [f2 67 j (by omega), mq_st_ne (by omega), mq_st_ne (by omega), f1 67 j (by omega)]; exact (r4 j hj).2
      · rw [f2 45 6 (by omega), mq_st_ne (by omega), mq_st_ne (by omega)]; exact g1
      · rw [f2 45 7 (by omega), mq_st_ne (by omega), mq_st_ne (by omega), f1 45 7 (by omega)]; exact r6
  · rw [if_neg hl] at er
    exact Or.inl ⟨by omega, M1, er, f1'⟩
theorem c_shut {Mc : mj_M} {made opn i t : Nat} {dr op om : Nat → Nat} (C : mv_oc Mc made dr opn op om) (hm : made ≤ 60) (ho : 1 ≤ opn) (ho2 : opn ≤ 2) (hlt : om (opn - 1) < made) (h1 : 1 ≤ t) (h9 : t ≤ 9) : (60 < om (opn - 1) + (made - om (opn - 1)) * t ∧ ∃ M1, mj_C sl (d + 2) i_X6_shutRound [.ref 23, .int (nI i), .int (nI t)] Mc = some (-1000 * 6 - nI (op (opn - 1)), M1) ∧ mv_fr mv_QC1 Mc M1) ∨ (om (opn - 1) + (made - om (opn - 1)) * t ≤ 60 ∧ ∃ M1, mj_C sl (d + 2) i_X6_shutRound [.ref 23, .int (nI i), .int (nI t)] Mc = some (0, M1) ∧ mv_fr mv_QC1 Mc M1 ∧ mv_oc M1 (om (opn - 1) + (made - om (opn - 1)) * t) (mv_rep dr (om (opn - 1)) (made - om (opn - 1))) (opn - 1) op om) := by
  obtain ⟨c1, c2, c3, c4⟩ := C
  obtain ⟨k1, k2⟩ := c4 (opn - 1) (by omega)
  rw [b_X6_shutRound, c2]
  simp (disch := omega) only [s_ltL, show ¬ opn < 1 from by omega, if_false, s_subL, s_in, if_true, s_cl, c1, k2, s_le, show ¬ made ≤ om (opn - 1) from by omega, mq_st_eq, mq_st_ne, k1]
  have f0 : mv_fr mv_QC1 Mc (mj_st Mc 23 6 (nI (opn - 1))) := mv_fr.rf.st (Or.inr ⟨rfl, by omega, by omega⟩)
  have hcr := c_repeat (sl := sl) (d := d) (x := nI (op (opn - 1))) (M := mj_st Mc 23 6 (nI (opn - 1))) (since := om (opn - 1)) (made := made) (times := t) (dr := dr) (by rw [mq_st_ne (by omega)]; exact c1) (fun j hj => by rw [mq_st_ne (by omega)]; exact c3 j hj) hlt hm h1 h9
  rcases hcr with ⟨h, e1⟩ | ⟨h, M1, e1, f1, g1, g2⟩
  · refine Or.inl ⟨h, _, ?_, f0⟩
    have e1' : mj_C sl (d + 1) 71 [.ref 23, .int (nI (op (opn - 1))), .int (nI (om (opn - 1))), .int (nI t)] (mj_st Mc 23 6 (nI (opn - 1))) = _ := e1
    rw [e1']
    rfl
  · refine Or.inr ⟨h, M1, ?_, f0.tr (f1.wk (fun a k z => by unfold mv_QC1; omega)), g1, ?_, g2, fun j hj => ⟨?_, ?_⟩⟩
    · have e1' : mj_C sl (d + 1) 71 [.ref 23, .int (nI (op (opn - 1))), .int (nI (om (opn - 1))), .int (nI t)] (mj_st Mc 23 6 (nI (opn - 1))) = _ := e1
      rw [e1']
      rfl
    · rw [f1 23 6 (by omega), mq_st_eq]
    · rw [f1 26 j (by omega), mq_st_ne (by omega)]; exact (c4 j (by omega)).1
    · rw [f1 27 j (by omega), mq_st_ne (by omega)]; exact (c4 j (by omega)).2
theorem r_shut {Mr : mj_M} {made opn n i : Nat} {tp dr op om : Nat → Nat} {u1 u2 u3 : Value} (hn : n ≤ 60) (hi : i < n) (Tr : mv_Tb Mr tp) (R : mv_od Mr made dr opn op om n i) (hm : made ≤ 60) (ho : 1 ≤ opn) (ho2 : opn ≤ 2) (hlt : om (opn - 1) < made) (k : tp i = 41) : (60 < om (opn - 1) + (made - om (opn - 1)) * mv_tm n tp (i + 1) ∧ ∃ M1, mj_E sl (e + 1 + 1) i_X9_readsItem 180 [.ref 45, u1, u2, u3] [] Mr = some (0, mj_st M1 45 8 (-1000 * 6 - nI (op (opn - 1)))) ∧ mv_fr mv_QR1 Mr M1) ∨ (om (opn - 1) + (made - om (opn - 1)) * mv_tm n tp (i + 1) ≤ 60 ∧ ∃ M1, mj_E sl (e + 1 + 1) i_X9_readsItem 180 [.ref 45, u1, u2, u3] [] Mr = mj_E sl (e + 1 + 1) i_X9_readsItem 180 [.ref 45, u1, u2, u3] [] M1 ∧ mv_fr mv_QR1 Mr M1 ∧ mv_od M1 (om (opn - 1) + (made - om (opn - 1)) * mv_tm n tp (i + 1)) (mv_rep dr (om (opn - 1)) (made - om (opn - 1))) (opn - 1) op om n (i + mv_adv n tp i)) := by
  obtain ⟨r1, r2, r3, r4, r5, r6⟩ := R
  obtain ⟨k1, k2⟩ := r4 (opn - 1) (by omega)
  have hb := mv_tm_b n tp (i + 1)
  have h41 : mv_hr n tp i = 41 := by unfold mv_hr; rw [if_pos hi, k]; rfl
  have f1 : mv_fr (fun a k => a = 45 ∧ (k = 6 ∨ k = 34)) Mr (mj_st (mj_st Mr 45 6 (nI (i + 1))) 45 34 (nI (opn - 1))) := (mv_fr.rf.st ⟨rfl, Or.inl rfl⟩).st ⟨rfl, Or.inr rfl⟩
  obtain ⟨M1, e1, f2, g1⟩ := r_readsTimes (sl := sl) (d := e) (M := mj_st (mj_st Mr 45 6 (nI (i + 1))) 45 34 (nI (opn - 1))) (i := i + 1) (n := n) (tp := tp) (by rw [mq_st_ne (by omega), mq_st_eq]) (by rw [mq_st_ne (by omega), mq_st_ne (by omega)]; exact r6) (by omega) (by omega) (Tr.fr f1 (fun a k z => by omega))
  have F1 : mv_fr mv_QR1 Mr M1 := (f1.wk (fun a k z => by unfold mv_QR1; omega)).tr (f2.wk (fun a k z => by unfold mv_QR1; omega))
  have m34 : M1 45 34 = nI (opn - 1) := by rw [f2 45 34 (by omega), mq_st_eq]
  have m66 : M1 66 (opn - 1) = nI (op (opn - 1)) := by rw [f2 66 _ (by omega), mq_st_ne (by omega), mq_st_ne (by omega)]; exact k1
  have e1' : mj_C sl (e + 1) 173 [.ref 45] (mj_st (mj_st Mr 45 6 (nI (i + 1))) 45 34 (nI (opn - 1))) = some (nI (mv_tm n tp (i + 1)), M1) := e1
  have E : mj_E sl (e + 1 + 1) i_X9_readsItem 180 [.ref 45, u1, u2, u3] [] Mr = (mj_C sl (e + 1) i_X9_repeats [.ref 45, .int (nI (om (opn - 1))), .int (nI (mv_tm n tp (i + 1))), .int (nI (op (opn - 1)))] M1).bind (fun q => if q.1 = 0 then some (0, q.2) else mj_E sl (e + 1 + 1) i_X9_readsItem 180 [.ref 45, u1, u2, u3] [] q.2) := by
    rw [b_X9_readsItem_180, r_here r5 r6 (by omega) (by omega) Tr]
    simp only [Option.bind_some]
    rw [if_pos h41, r2, if_neg (show ¬ nI opn ≤ 0 from nI_nle (by omega) (by omega)), r5]
    simp (disch := omega) only [mq_st_ne, r2, s_addL, s_subL, mq_st_eq, s_in, if_true, s_cl, k2]
    rw [e1']
    simp only [Option.bind_some]
    rw [m34]
    simp (disch := omega) only [s_in, if_true, s_cl, m66]
  have hrr := r_repeats (sl := sl) (d := e) (x := nI (op (opn - 1))) (M := M1) (since := om (opn - 1)) (made := made) (times := mv_tm n tp (i + 1)) (dr := dr) (by rw [f2 45 33 (by omega), mq_st_ne (by omega), mq_st_ne (by omega)]; exact r1) (fun j hj => by rw [f2 65 j (by omega), mq_st_ne (by omega), mq_st_ne (by omega)]; exact r3 j hj) hlt hm hb.1 hb.2.1
  rw [E]
  rcases hrr with ⟨h, e2⟩ | ⟨h, M2, e2, f3, g2, g3⟩
  · refine Or.inl ⟨h, M1, ?_, F1⟩
    rw [e2]
    rfl
  · refine Or.inr ⟨h, M2, ?_, F1.tr (f3.wk (fun a k z => by unfold mv_QR1; omega)), g2, ?_, g3, fun j hj => ⟨?_, ?_⟩, ?_, ?_⟩
    · rw [e2]
      simp only [Option.bind_some, s_10, if_false]
    · rw [f3 45 34 (by omega)]; exact m34
    · rw [f3 66 j (by omega), f2 66 j (by omega), mq_st_ne (by omega), mq_st_ne (by omega)]; exact (r4 j (by omega)).1
    · rw [f3 67 j (by omega), f2 67 j (by omega), mq_st_ne (by omega), mq_st_ne (by omega)]; exact (r4 j (by omega)).2
    · rw [f3 45 6 (by omega), g1]
      unfold mv_adv
      congr 1
      split <;> omega
    · rw [f3 45 7 (by omega), f2 45 7 (by omega), mq_st_ne (by omega), mq_st_ne (by omega)]; exact r6
end MV33
