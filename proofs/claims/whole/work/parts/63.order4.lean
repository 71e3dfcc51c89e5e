section MV34
variable {sl d e : Nat}
theorem mv_bnz {x : Int32} {M : mj_M} {f : Int32 × mj_M → Option (Int32 × mj_M)} (hx : ¬ x = 0) : (some (x, M)).bind (fun q => if q.1 = 0 then f q else some (q.1, q.2)) = some (x, M) := if_neg hx
theorem c_openF {Mc : mj_M} {x : Int32} (h : Mc 23 6 = nI 2) : mj_C sl (d + 2) i_X6_openRound [.ref 23, .int x] Mc = some (-1000 * 5 - x, Mc) := by
  rw [b_X6_openRound, h, if_neg (show ¬ nI 2 < 2 by decide), b_X8_fault]
  rfl
theorem c_shutF {Mc : mj_M} {x y : Int32} {made opn : Nat} {dr op om : Nat → Nat} (C : mv_oc Mc made dr opn op om) (hm : made ≤ 60) (ho : opn ≤ 2) (h : opn = 0 ∨ made = om (opn - 1)) : mj_C sl (d + 2) i_X6_shutRound [.ref 23, .int x, .int y] Mc = some (-1000 * 1 - x, Mc) := by
  have ef : mj_C sl (d + 1) 123 [.int 1, .int x] Mc = some (-1000 * 1 - x, Mc) := b_X8_fault
  rw [b_X6_shutRound, C.2.1, ef]
  by_cases o0 : opn = 0
  · rw [o0, if_pos (by decide)]
    rfl
  · have h1 : made = om (opn - 1) := by
      rcases h with h | h
      · exact absurd h o0
      · exact h
    have k := (C.2.2.2 (opn - 1) (by omega)).2
    rw [← h1] at k
    have e1 : nI opn - 1 = nI (opn - 1) := (show nI opn - nI 1 = nI (opn - 1) from pk_sub (show 1 ≤ opn by omega))
    rw [if_neg (show ¬ nI opn < 1 from fun z => absurd ((mq_lt (b := 1) (by omega) (by decide)).mp z) (by omega)), e1, if_pos (mq_inT (by omega) (by decide)), nI_clamp (by omega), C.1, k, if_pos (Int32.le_refl _)]
    rfl
theorem c_putF {Mc : mj_M} {c : Nat} {x y : Int32} (hc : c < 256) (h : ¬ (65 ≤ c ∧ c ≤ 72)) : mj_C sl (d + 2) i_X6_putLetter [.ref 23, .int (nI c), .int x, .int y] Mc = some (-1000 * 1 - x, Mc) := by
  have ef : mj_C sl (d + 1) 123 [.int 1, .int x] Mc = some (-1000 * 1 - x, Mc) := b_X8_fault
  rw [b_X6_putLetter, ef]
  by_cases a : c < 65
  · rw [if_pos (show nI c < 65 from (mq_lt (b := 65) (by omega) (by decide)).mpr a)]
    rfl
  · rw [if_neg (show ¬ nI c < 65 from fun z => a ((mq_lt (b := 65) (by omega) (by decide)).mp z)), if_neg (show ¬ nI c ≤ 72 from fun z => absurd ((mq_le (b := 72) (by omega) (by decide)).mp z) (by omega))]
    rfl
theorem o_bad {n i t : Nat} {w1 w3 w5 w6 w7 : Value} {Mc Mc1 Mr M1 : mj_M} {x : Int32} {o : Option (Int32 × mj_M)} (fc : mv_fr mv_QC1 Mc Mc1) (f : mv_fr mv_QR1 Mr M1) (h1 : o = some (0, mj_st M1 45 8 x)) (h2 : mj_E sl (d + 2 + 1) i_X6_readOrder 15 [.ref 23, .ref 21, .int (nI n), .int (nI i), .int (nI t), w5, w6, w7] [] Mc = some (x, Mc1)) : ∃ v Mc' Mr', mj_E sl (d + 2 + 1) i_X6_readOrder 15 [.ref 23, .ref 21, .int (nI n), .int (nI i), .int (nI t), w5, w6, w7] [] Mc = some (v, Mc') ∧ o.bind (fun q => mj_E sl (e + 2 + 1) i_X9_order 40 [.ref 45, w1, .int q.1, w3] [] q.2) = some (v, Mr') ∧ mv_po Mc Mc' Mr Mr' := by
  obtain ⟨Mr', e1, e2⟩ := mv_ofault (sl := sl) (e := e) (Mc := Mc1) (w1 := w1) (w3 := w3) (v := x) (f.st (a := 45) (k := 8) (x := x) (Or.inl ⟨rfl, Or.inr (Or.inl rfl)⟩)) mq_st_eq
  refine ⟨x, Mc1, Mr', h2, ?_, e2.pre fc mv_fr.rf⟩
  rw [h1]
  simp only [Option.bind_some]
  exact e1
theorem mv_adv_b {n i : Nat} (tp : Nat → Nat) (hi : i < n) : i < i + mv_adv n tp i ∧ i + mv_adv n tp i ≤ n := by
  have hb := mv_tm_b n tp (i + 1)
  unfold mv_adv
  split
  · have := hb.2.2 (by assumption)
    omega
  · omega
theorem o_A {n : Nat} {tp : Nat → Nat} {w1 w3 : Value} (hn : n ≤ 60) {i : Nat} (hin : i ≤ n) (ihA : i < n → mv_oA sl d e n tp w1 w3 (i + 1)) (ihB : ∀ i', i < i' → i' ≤ n → mv_oB sl d e n tp w1 w3 i') : mv_oA sl d e n tp w1 w3 i := by
  intro t made opn dr op om Mc Mr w5 w6 w7 ht C R W Ho Tc Tr ph ph2
  obtain ⟨q1, q2, q3, q4⟩ := id W
  obtain ⟨z1, z4, z5, z6, z7⟩ := mv_fnz i (by omega)
  by_cases hi : i < n
  · have h8 := (Tc i (by omega)).1
    by_cases k40 : tp i = 40
    · have ec := c_roOpen (sl := sl) (d := d) (w5 := w5) (w6 := w6) (w7 := w7) hn hi ht Tc k40
      by_cases o2 : opn = 2
      · have er := r_riOpen (sl := sl) (e := e) hn hi Tr R.2.2.2.2.1 R.2.2.2.2.2 R.1 R.2.1 q2 k40
        rw [if_pos o2] at er
        refine o_bad mv_fr.rf mv_fr.rf er ?_
        rw [ec, c_openF (by rw [C.2.1, o2])]
        exact mv_bnz z5
      · obtain ⟨Mc1, e1, fc, C1⟩ := c_open (sl := sl) (d := d) (i := i) C (by omega)
        obtain ⟨Mr1, e2, fr', R1⟩ := r_open (sl := sl) (e := e) hn hi Tr R k40 (by omega)
        obtain ⟨v, Mc', Mr', a1, a2, a3⟩ := ihA hi (t + 1) made (opn + 1) dr _ _ Mc1 Mr1 (.int (nI (tp i))) (.int 1) (.int 0) (by omega) C1 R1 ⟨q1, by omega, q3, fun j hj => by
          by_cases q : j = opn
          · rw [q, mv_ups_s]; exact Nat.le_refl _
          · rw [mv_ups_n q]; exact q4 j (by omega)⟩ (fun j hj => by
          by_cases q : j = opn
          · rw [q, mv_ups_s]; omega
          · rw [mv_ups_n q]; exact Ho j (by omega)) (Tc.qc fc) (Tr.qr fr') (Or.inr (Or.inl (by
          rw [show opn + 1 - 1 = opn from by omega, mv_ups_s]
          exact Nat.le_refl _))) (Or.inr (by omega))
        refine ⟨v, Mc', Mr', ?_, ?_, a3.pre fc fr'⟩
        · rw [ec, e1]
          simp only [Option.bind_some, if_true]
          exact a1
        · rw [e2]
          exact a2
    · by_cases k41 : tp i = 41
      · refine o_bad mv_fr.rf mv_fr.rf (r_riBad (sl := sl) (e := e) hn hin Tr R.2.2.2.2.1 R.2.2.2.2.2 (fun _ => ⟨k40, by omega⟩)) ?_
        rw [c_roShut hn hi ht Tc k41, c_shutF C q1 q2 ?_]
        · exact mv_bnz z1
        · by_cases o0 : opn = 0
          · exact Or.inl o0
          · have h2 := q4 (opn - 1) (by omega)
            rcases ph with ph | ph | ph
            · exact Or.inl ph
            · exact Or.inr (by omega)
            · exact absurd ⟨hi, k41⟩ ph
      · have ec := c_roPut (sl := sl) (d := d) (w5 := w5) (w6 := w6) (w7 := w7) hn hi ht Tc k40 k41
        by_cases kl : 65 ≤ tp i ∧ tp i ≤ 72
        · have hb := mv_tm_b n tp (i + 1)
          rcases c_put (sl := sl) (d := d) (i := i) C kl q1 hb.1 hb.2.1 with ⟨hl, Mc1, e1, fc⟩ | ⟨hl, Mc1, e1, fc, C1⟩
          · rcases r_put (sl := sl) (e := e) hn hi Tr R q1 kl with ⟨-, Mr1, e2, fr'⟩ | ⟨h, -⟩
            · refine o_bad fc fr' e2 ?_
              rw [ec, e1]
              exact mv_bnz z6
            · omega
          · rcases r_put (sl := sl) (e := e) hn hi Tr R q1 kl with ⟨h, -⟩ | ⟨-, Mr1, u1, u2, u3, e2, fr', R1⟩
            · omega
            · obtain ⟨b1, b2⟩ := mv_adv_b tp hi
              obtain ⟨v, Mc', Mr', a1, a2, a3⟩ := ihB (i + mv_adv n tp i) b1 b2 (t + 1) (made + mv_tm n tp (i + 1)) opn _ op om Mc1 Mr1 (.int (nI (tp i))) (.int (nI (mv_tm n tp (i + 1)))) (.int 0) u1 u2 u3 (by omega) C1 R1 ⟨hl, q2, fun j hj => mv_rep_in (by omega) (fun x => x < 8) (fun i2 hi2 => by
                by_cases q : i2 = made
                · rw [q, mv_ups_s]; omega
                · rw [mv_ups_n q]; exact q3 i2 (by omega)), fun j hj => by have := q4 j hj; omega⟩ Ho (Tc.qc fc) (Tr.qr fr') (fun j hj => by have := q4 j hj; omega)
              refine ⟨v, Mc', Mr', ?_, ?_, a3.pre fc fr'⟩
              · rw [ec, e1]
                simp only [Option.bind_some, if_true]
                exact a1
              · rw [e2]
                exact a2
        · refine o_bad mv_fr.rf mv_fr.rf (r_riBad (sl := sl) (e := e) hn hin Tr R.2.2.2.2.1 R.2.2.2.2.2 (fun _ => ⟨k40, kl⟩)) ?_
          rw [ec, c_putF h8 kl]
          exact mv_bnz z1
  · refine o_bad mv_fr.rf mv_fr.rf (r_riBad (sl := sl) (e := e) hn hin Tr R.2.2.2.2.1 R.2.2.2.2.2 (fun z => absurd z hi)) ?_
    have ho : ¬ nI opn ≤ 0 := nI_nle (by omega) (by omega)
    have hni : n = i := by omega
    have ef : mj_C sl (d + 2) 123 [.int 1, .int (nI n)] Mc = some (-1000 * 1 - nI n, Mc) := b_X8_fault
    rw [c_roEnd hn (by omega), b_X6_readOrder_125, C.2.1, if_neg ho, ef, hni]
    rfl
theorem o_B {n : Nat} {tp : Nat → Nat} {w1 w3 : Value} (hn : n ≤ 60) {i : Nat} (hin : i ≤ n) (hA : mv_oA sl d e n tp w1 w3 i) (ihB : ∀ i', i < i' → i' ≤ n → mv_oB sl d e n tp w1 w3 i') : mv_oB sl d e n tp w1 w3 i := by
  intro t made opn dr op om Mc Mr w5 w6 w7 u1 u2 u3 ht C R W Ho Tc Tr ph
  obtain ⟨q1, q2, q3, q4⟩ := id W
  by_cases k : i < n ∧ tp i = 41 ∧ 1 ≤ opn
  · obtain ⟨hi, k41, ho⟩ := k
    have hb := mv_tm_b n tp (i + 1)
    have hlt := ph (opn - 1) (by omega)
    have ec := c_roShut (sl := sl) (d := d) (w5 := w5) (w6 := w6) (w7 := w7) hn hi ht Tc k41
    have hs := mv_spt hlt q1 hb.1 hb.2.1
    rcases c_shut (sl := sl) (d := d) (i := i) C q1 ho q2 hlt hb.1 hb.2.1 with ⟨hl, Mc1, e1, fc⟩ | ⟨hl, Mc1, e1, fc, C1⟩
    · rcases r_shut (sl := sl) (e := e) (u1 := u1) (u2 := u2) (u3 := u3) hn hi Tr R q1 ho q2 hlt k41 with ⟨-, Mr1, e2, fr'⟩ | ⟨h, -⟩
      · refine o_bad fc fr' e2 ?_
        rw [ec, e1]
        exact mv_bnz (mv_fnz _ (Ho _ (by omega))).2.2.2.1
      · omega
    · rcases r_shut (sl := sl) (e := e) (u1 := u1) (u2 := u2) (u3 := u3) hn hi Tr R q1 ho q2 hlt k41 with ⟨h, -⟩ | ⟨-, Mr1, e2, fr', R1⟩
      · omega
      · obtain ⟨b1, b2⟩ := mv_adv_b tp hi
        obtain ⟨v, Mc', Mr', a1, a2, a3⟩ := ihB (i + mv_adv n tp i) b1 b2 (t + 1) _ (opn - 1) _ op om Mc1 Mr1 (.int (nI (tp i))) (.int (nI (mv_tm n tp (i + 1)))) (.int 0) u1 u2 u3 (by omega) C1 R1 ⟨hl, by omega, fun j hj => mv_rep_in (by omega) (fun x => x < 8) (fun i2 hi2 => q3 i2 (by omega)), fun j hj => by have := ph j (by omega); omega⟩ (fun j hj => Ho j (by omega)) (Tc.qc fc) (Tr.qr fr') (fun j hj => by have := ph j (by omega); omega)
        refine ⟨v, Mc', Mr', ?_, ?_, a3.pre fc fr'⟩
        · rw [ec, e1]
          simp only [Option.bind_some, if_true]
          exact a1
        · rw [e2]
          exact a2
  · have e180 : mj_E sl (e + 1 + 1) i_X9_readsItem 180 [.ref 45, u1, u2, u3] [] Mr = some (1, Mr) := by
      rw [b_X9_readsItem_180, r_here R.2.2.2.2.1 R.2.2.2.2.2 hin (by omega) Tr]
      simp only [Option.bind_some]
      by_cases z : mv_hr n tp i = 41
      · have z2 : i < n ∧ tp i = 41 := by
          unfold mv_hr at z
          by_cases hi : i < n
          · rw [if_pos hi] at z
            have h8 := (Tr i (by omega)).1
            exact ⟨hi, (mq_eq (b := 41) (by omega) (by decide)).mp z⟩
          · rw [if_neg hi] at z
            exact absurd z (by decide)
        have o0 : opn = 0 := by
          by_cases q : 1 ≤ opn
          · exact absurd ⟨z2.1, z2.2, q⟩ k
          · omega
        rw [if_pos z, R.2.1, o0, if_pos (by decide)]
      · rw [if_neg z]
    rw [e180]
    simp only [Option.bind_some]
    by_cases fin : i < n ∨ 0 < opn
    · obtain ⟨v, Mc', Mr', a1, a2, a3⟩ := hA t made opn dr op om Mc Mr w5 w6 w7 ht C R W Ho Tc Tr (by
        by_cases o0 : opn = 0
        · exact Or.inl o0
        · exact Or.inr (Or.inr (fun z => k ⟨z.1, z.2, by omega⟩))) fin
      refine ⟨v, Mc', Mr', a1, ?_, a3⟩
      rw [b_X9_order_40, if_neg mq_10, R.2.2.2.2.1, R.2.2.2.2.2]
      simp (disch := omega) only [s_lt]
      by_cases hi : i < n
      · rw [if_pos hi]
        exact a2
      · rw [if_neg hi, R.2.1, if_neg (show ¬ nI opn ≤ 0 from nI_nle (by omega) (by omega))]
        exact a2
    · have o0 : opn = 0 := by omega
      subst o0
      obtain ⟨v, Mc', Mr', a1, a2, a3⟩ := mv_ofin (sl := sl) (d := d) (e := e) (w1 := w1) (w3 := w3) (u3 := .int (nI i)) (u4 := .int (nI t)) (u5 := w5) (u6 := w6) (u7 := w7) C R W (by omega) (by omega) (by omega)
      refine ⟨v, Mc', Mr', ?_, a2, a3⟩
      rw [c_roEnd hn (by omega)]
      exact a1
end MV34
