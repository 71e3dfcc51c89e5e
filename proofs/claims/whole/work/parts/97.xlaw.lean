theorem f_handOver {sl d b : Nat} {M : mj_M} (hb : b = 29 ∨ b = 38) : mj_F sl d 46 0 [.ref 28, .ref b, .null] [] M = some (some (.ref (mj_lw (M 28 1))), mj_st M 28 1 (if b = 29 then 0 else 1)) := by
  refine (mj_Fs dx_46_0 (by simp only [mj_stp, mj_lda]; rfl)).trans ?_
  refine (mj_Fs dx_46_1 (pc' := 4) (L' := [.ref 28, .ref b, .null]) (st' := [.ref (mj_lw (M 28 1))]) (M' := M) ?_).trans ?_
  · simp only [mj_stp, mj_gf, ow_46, fx_2_12, if_pos oc_28, mj_fv]
    rfl
  refine (mj_Fs dx_46_4 (pc' := 5) (L' := [.ref 28, .ref b, .ref (mj_lw (M 28 1))]) (st' := []) (M' := M) ?_).trans ?_
  · simp only [mj_stp, mj_sta]
    rfl
  refine (mj_Fs dx_46_5 (pc' := 6) (L' := [.ref 28, .ref b, .ref (mj_lw (M 28 1))]) (st' := [.ref 28]) (M' := M) ?_).trans ?_
  · simp only [mj_stp, mj_lda]
    rfl
  refine (mj_Fs dx_46_6 (pc' := 7) (L' := [.ref 28, .ref b, .ref (mj_lw (M 28 1))]) (st' := [.ref b, .ref 28]) (M' := M) ?_).trans ?_
  · simp only [mj_stp, mj_lda]
    rfl
  refine (mj_Fs dx_46_7 (pc' := 10) (L' := [.ref 28, .ref b, .ref (mj_lw (M 28 1))]) (st' := []) (M' := mj_st M 28 1 (if b = 29 then 0 else 1)) ?_).trans ?_
  · show mj_pf (mj_own 46) 12 7 _ (.ref b :: .ref 28 :: []) M = _
    unfold mj_pf
    rw [ow_46, fx_2_12]
    show (if mj_ocl 28 = 2 ∧ 2 = 2 ∧ (b = 29 ∨ b = 38) then _ else _) = _
    rw [if_pos ⟨oc_28, rfl, hb⟩]
    rfl
  refine (mj_Fs dx_46_10 (pc' := 11) (L' := [.ref 28, .ref b, .ref (mj_lw (M 28 1))]) (st' := [.ref (mj_lw (M 28 1))]) (M' := mj_st M 28 1 (if b = 29 then 0 else 1)) ?_).trans ?_
  · simp only [mj_stp, mj_lda]
    rfl
  refine mj_Fr dx_46_11 ?_
  obtain ⟨me, hm, -, -, -, h3, -⟩ := mj_rt_spec rt_46 (by omega)
  simp only [mj_stp, mj_rta, hm]
  rw [if_pos (h3 rfl)]
theorem x_law47 {sl d b : Nat} {M : mj_M} {L : List Value} (hb : b = 29 ∨ b = 38) : mj_E sl (d + 1) 82 47 L [.ref b, .ref 28, .ref 0] M = mj_E sl (d + 1) 82 50 L [.ref (mj_lw (M 28 1)), .ref 0] (mj_st M 28 1 (if b = 29 then 0 else 1)) := by
  unfold mj_E
  have hs : mj_stp sl (d + 1) 82 (.invokevirtual 111) 47 L [.ref b, .ref 28, .ref 0] M = some (.inr (.inr (46, [.ref 28, .ref b], [.ref 0]))) := by
    obtain ⟨h1, ⟨me, h2, h3, h4⟩, h5⟩ := mj_cs_spec cx_6_111
    rw [mj_k0 ow_82 h1]
    unfold mj_vcl
    rw [h2]
    dsimp only
    rw [h3]
    show (if mj_ocl 28 = me.2.2.2.2.2.2.1 ∧ ([.ref 0] : List Value).length ≤ 8 then _ else _) = _
    rw [if_pos ⟨by rw [h4]; exact oc_28, by decide⟩]
    rfl
  rw [mj_Fc dx_82_47 hs]
  have e : mj_F sl d 46 0 (mj_ent 46 [.ref 28, .ref b]) [] M = some (some (.ref (mj_lw (M 28 1))), mj_st M 28 1 (if b = 29 then 0 else 1)) := f_handOver hb
  rw [e]
  rfl
theorem b_X8_law {sl d : Nat} {M : mj_M} {x1 : Int32} : mj_C sl (d + 1) 82 [.ref 0, .int x1] M = (mj_C sl d 75 [.ref 21, .int x1, .int 1, .int 240] M).bind (fun q1 => if q1.1 = 0 then (some (((-1) : Int32), q1.2)) else ((mj_C sl d 47 [.ref 28, .int x1] q1.2).bind (fun q2 => if q2.1 ≤ 0 then some ((q2.1 : Int32), mj_st q2.2 21 1 0) else some ((q2.1 : Int32), mj_st (mj_st (mj_st q2.2 21 1 0) 28 1 (if mj_lw ((mj_st q2.2 21 1 0) 0 9) = 29 then 0 else 1)) 0 9 (if mj_lw ((mj_st q2.2 21 1 0) 28 1) = 29 then 0 else 1))))) := by
  show mj_E sl (d + 1) 82 0 [.ref 0, .int x1, .null] [] M = _
  refine (sx_aload_n dx_82_0 rfl).trans ?_
  refine (sx_gfr dx_82_1 ow_82 fx_6_34 oc_0 rb_0_4).trans ?_
  refine (sx_iload_n dx_82_4 rfl).trans ?_
  refine (sx_iconst (v := 1) dx_82_5 rfl).trans ?_
  refine (sx_sipush (v := 240) dx_82_6 rfl).trans ?_
  refine (sx_v3i dx_82_9 ow_82 cx_6_104 oc_21 (Nat.le_of_ble_eq_true rfl)).trans ?_
  refine mj_bnd (fun q1 => ?_)
  refine (sx_if_ne (tgt := 17) dx_82_12 (by decide)).trans ?_
  refine mj_ite ?_ ?_
  · refine (sx_iconst (v := (-1)) dx_82_15 rfl).trans ?_
    exact sx_reti dx_82_16 rt_82
  · refine (sx_aload_n dx_82_17 rfl).trans ?_
    refine (sx_gfr dx_82_18 ow_82 fx_6_50 oc_0 rb_0_6).trans ?_
    refine (sx_iload_n dx_82_21 rfl).trans ?_
    refine (sx_v1i dx_82_22 ow_82 cx_6_107 oc_28 (Nat.le_of_ble_eq_true rfl)).trans ?_
    refine mj_bnd (fun q2 => ?_)
    refine (sx_istore_n dx_82_25 (Nat.le_of_ble_eq_true rfl) rfl).trans ?_
    refine (sx_aload_n dx_82_26 rfl).trans ?_
    refine (sx_gfr dx_82_27 ow_82 fx_6_34 oc_0 rb_0_4).trans ?_
    refine (sx_iconst (v := 0) dx_82_30 rfl).trans ?_
    refine (sx_pfi dx_82_31 ow_82 fx_6_100 oc_21).trans ?_
    refine (sx_iload_n dx_82_34 rfl).trans ?_
    refine (sx_if_le (tgt := 53) dx_82_35 (by decide)).trans ?_
    refine mj_ite ?_ ?_
    · refine (sx_iload_n dx_82_53 rfl).trans ?_
      exact sx_reti dx_82_54 rt_82
    · refine (sx_aload_n dx_82_38 rfl).trans ?_
      refine (sx_aload_n dx_82_39 rfl).trans ?_
      refine (sx_gfr dx_82_40 ow_82 fx_6_50 oc_0 rb_0_6).trans ?_
      refine (sx_aload_n dx_82_43 rfl).trans ?_
      refine (sx_gfl dx_82_44 ow_82 fx_6_64 oc_0).trans ?_
      refine (x_law47 mv_lwR).trans ?_
      refine (sx_pfl dx_82_50 ow_82 fx_6_64 oc_0 mv_lwR).trans ?_
      refine (sx_iload_n dx_82_53 rfl).trans ?_
      exact sx_reti dx_82_54 rt_82
