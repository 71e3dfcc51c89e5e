theorem dx_4_0 : mj_at 4 0 = some (.aload_n 1) := by decide +kernel
theorem dx_4_1 : mj_at 4 1 = some (.getfield 9) := by decide +kernel
theorem dx_4_4 : mj_at 4 4 = some (.iconst 0) := by decide +kernel
theorem dx_4_5 : mj_at 4 5 = some (.aload_n 0) := by decide +kernel
theorem dx_4_6 : mj_at 4 6 = some (.getfield 9) := by decide +kernel
theorem dx_4_9 : mj_at 4 9 = some (.iconst 0) := by decide +kernel
theorem dx_4_10 : mj_at 4 10 = some (.bipush 10) := by decide +kernel
theorem dx_4_12 : mj_at 4 12 = some (.invokestatic 41) := by decide +kernel
theorem dx_4_15 : mj_at 4 15 = some (.aload_n 1) := by decide +kernel
theorem dx_4_16 : mj_at 4 16 = some (.getfield 15) := by decide +kernel
theorem dx_4_19 : mj_at 4 19 = some (.iconst 0) := by decide +kernel
theorem dx_4_20 : mj_at 4 20 = some (.aload_n 0) := by decide +kernel
theorem dx_4_21 : mj_at 4 21 = some (.getfield 15) := by decide +kernel
theorem dx_4_24 : mj_at 4 24 = some (.iconst 0) := by decide +kernel
theorem dx_4_25 : mj_at 4 25 = some (.bipush 10) := by decide +kernel
theorem dx_4_27 : mj_at 4 27 = some (.invokestatic 41) := by decide +kernel
theorem dx_4_30 : mj_at 4 30 = some (.aload_n 1) := by decide +kernel
theorem dx_4_31 : mj_at 4 31 = some (.getfield 18) := by decide +kernel
theorem dx_4_34 : mj_at 4 34 = some (.iconst 0) := by decide +kernel
theorem dx_4_35 : mj_at 4 35 = some (.aload_n 0) := by decide +kernel
theorem dx_4_36 : mj_at 4 36 = some (.getfield 18) := by decide +kernel
theorem dx_4_39 : mj_at 4 39 = some (.iconst 0) := by decide +kernel
theorem dx_4_40 : mj_at 4 40 = some (.bipush 80) := by decide +kernel
theorem dx_4_42 : mj_at 4 42 = some (.invokestatic 41) := by decide +kernel
theorem dx_4_45 : mj_at 4 45 = some (.aload_n 0) := by decide +kernel
theorem dx_4_46 : mj_at 4 46 = some (.aload_n 1) := by decide +kernel
theorem dx_4_47 : mj_at 4 47 = some (.getfield 47) := by decide +kernel
theorem dx_4_50 : mj_at 4 50 = some (.putfield 47) := by decide +kernel
theorem dx_4_53 : mj_at 4 53 = some (.aload_n 0) := by decide +kernel
theorem dx_4_54 : mj_at 4 54 = some (.aload_n 1) := by decide +kernel
theorem dx_4_55 : mj_at 4 55 = some (.getfield 50) := by decide +kernel
theorem dx_4_58 : mj_at 4 58 = some (.putfield 50) := by decide +kernel
theorem dx_4_61 : mj_at 4 61 = some (.aload_n 0) := by decide +kernel
theorem dx_4_62 : mj_at 4 62 = some (.aload_n 1) := by decide +kernel
theorem dx_4_63 : mj_at 4 63 = some (.getfield 27) := by decide +kernel
theorem dx_4_66 : mj_at 4 66 = some (.putfield 27) := by decide +kernel
theorem dx_4_69 : mj_at 4 69 = some (.return_) := by decide +kernel
set_option maxRecDepth 10000 in
theorem b_X1_copyFrom {sl d : Nat} {M : mj_M} {t0 : Nat} {c1 : Nat} (ht0 : mj_ocl t0 = 0) (hc1 : mj_ocl c1 = 0) : mj_C sl (d + 1) 4 [.ref t0, .ref c1] M = if ¬ (0 : Int32) < 0 ∧ ¬ (0 : Int32) < 0 ∧ ¬ (10 : Int32) < 0 ∧ (0 : Int32).toNatClampNeg + (10 : Int32).toNatClampNeg ≤ 10 ∧ (0 : Int32).toNatClampNeg + (10 : Int32).toNatClampNeg ≤ 10 then (if ¬ (0 : Int32) < 0 ∧ ¬ (0 : Int32) < 0 ∧ ¬ (10 : Int32) < 0 ∧ (0 : Int32).toNatClampNeg + (10 : Int32).toNatClampNeg ≤ 10 ∧ (0 : Int32).toNatClampNeg + (10 : Int32).toNatClampNeg ≤ 10 then (if ¬ (0 : Int32) < 0 ∧ ¬ (0 : Int32) < 0 ∧ ¬ (80 : Int32) < 0 ∧ (0 : Int32).toNatClampNeg + (80 : Int32).toNatClampNeg ≤ 80 ∧ (0 : Int32).toNatClampNeg + (80 : Int32).toNatClampNeg ≤ 80 then (some ((0 : Int32), mj_st (mj_st (mj_st (mj_cp (mj_cp (mj_cp M (c1 + 1) (t0 + 1) (0 : Int32).toNatClampNeg (0 : Int32).toNatClampNeg (10 : Int32).toNatClampNeg) (c1 + 2) (t0 + 2) (0 : Int32).toNatClampNeg (0 : Int32).toNatClampNeg (10 : Int32).toNatClampNeg) (c1 + 3) (t0 + 3) (0 : Int32).toNatClampNeg (0 : Int32).toNatClampNeg (80 : Int32).toNatClampNeg) t0 6 ((mj_cp (mj_cp (mj_cp M (c1 + 1) (t0 + 1) (0 : Int32).toNatClampNeg (0 : Int32).toNatClampNeg (10 : Int32).toNatClampNeg) (c1 + 2) (t0 + 2) (0 : Int32).toNatClampNeg (0 : Int32).toNatClampNeg (10 : Int32).toNatClampNeg) (c1 + 3) (t0 + 3) (0 : Int32).toNatClampNeg (0 : Int32).toNatClampNeg (80 : Int32).toNatClampNeg) c1 6)) t0 7 ((mj_st (mj_cp (mj_cp (mj_cp M (c1 + 1) (t0 + 1) (0 : Int32).toNatClampNeg (0 : Int32).toNatClampNeg (10 : Int32).toNatClampNeg) (c1 + 2) (t0 + 2) (0 : Int32).toNatClampNeg (0 : Int32).toNatClampNeg (10 : Int32).toNatClampNeg) (c1 + 3) (t0 + 3) (0 : Int32).toNatClampNeg (0 : Int32).toNatClampNeg (80 : Int32).toNatClampNeg) t0 6 ((mj_cp (mj_cp (mj_cp M (c1 + 1) (t0 + 1) (0 : Int32).toNatClampNeg (0 : Int32).toNatClampNeg (10 : Int32).toNatClampNeg) (c1 + 2) (t0 + 2) (0 : Int32).toNatClampNeg (0 : Int32).toNatClampNeg (10 : Int32).toNatClampNeg) (c1 + 3) (t0 + 3) (0 : Int32).toNatClampNeg (0 : Int32).toNatClampNeg (80 : Int32).toNatClampNeg) c1 6)) c1 7)) t0 8 ((mj_st (mj_st (mj_cp (mj_cp (mj_cp M (c1 + 1) (t0 + 1) (0 : Int32).toNatClampNeg (0 : Int32).toNatClampNeg (10 : Int32).toNatClampNeg) (c1 + 2) (t0 + 2) (0 : Int32).toNatClampNeg (0 : Int32).toNatClampNeg (10 : Int32).toNatClampNeg) (c1 + 3) (t0 + 3) (0 : Int32).toNatClampNeg (0 : Int32).toNatClampNeg (80 : Int32).toNatClampNeg) t0 6 ((mj_cp (mj_cp (mj_cp M (c1 + 1) (t0 + 1) (0 : Int32).toNatClampNeg (0 : Int32).toNatClampNeg (10 : Int32).toNatClampNeg) (c1 + 2) (t0 + 2) (0 : Int32).toNatClampNeg (0 : Int32).toNatClampNeg (10 : Int32).toNatClampNeg) (c1 + 3) (t0 + 3) (0 : Int32).toNatClampNeg (0 : Int32).toNatClampNeg (80 : Int32).toNatClampNeg) c1 6)) t0 7 ((mj_st (mj_cp (mj_cp (mj_cp M (c1 + 1) (t0 + 1) (0 : Int32).toNatClampNeg (0 : Int32).toNatClampNeg (10 : Int32).toNatClampNeg) (c1 + 2) (t0 + 2) (0 : Int32).toNatClampNeg (0 : Int32).toNatClampNeg (10 : Int32).toNatClampNeg) (c1 + 3) (t0 + 3) (0 : Int32).toNatClampNeg (0 : Int32).toNatClampNeg (80 : Int32).toNatClampNeg) t0 6 ((mj_cp (mj_cp (mj_cp M (c1 + 1) (t0 + 1) (0 : Int32).toNatClampNeg (0 : Int32).toNatClampNeg (10 : Int32).toNatClampNeg) (c1 + 2) (t0 + 2) (0 : Int32).toNatClampNeg (0 : Int32).toNatClampNeg (10 : Int32).toNatClampNeg) (c1 + 3) (t0 + 3) (0 : Int32).toNatClampNeg (0 : Int32).toNatClampNeg (80 : Int32).toNatClampNeg) c1 6)) c1 7)) c1 8))) else none) else none) else none := by
  show mj_E sl (d + 1) 4 0 [.ref t0, .ref c1] [] M = _
  refine (sx_aload_n dx_4_0 rfl).trans ?_
  refine (sx_gfr dx_4_1 ow_4 fx_0_9 hc1 (rbC_1 hc1)).trans ?_
  refine (sx_iconst (v := 0) dx_4_4 rfl).trans ?_
  refine (sx_aload_n dx_4_5 rfl).trans ?_
  refine (sx_gfr dx_4_6 ow_4 fx_0_9 ht0 (rbC_1 ht0)).trans ?_
  refine (sx_iconst (v := 0) dx_4_9 rfl).trans ?_
  refine (sx_bipush (v := 10) dx_4_10 rfl).trans ?_
  refine (sx_acp dx_4_12 ow_4 cx3_0_41 (iaC_1 hc1) (iaC_1 ht0) (by decide) (by decide) (Nat.le_of_ble_eq_true rfl)).trans ?_
  refine mj_ite ?_ rfl
  refine (sx_aload_n dx_4_15 rfl).trans ?_
  refine (sx_gfr dx_4_16 ow_4 fx_0_15 hc1 (rbC_2 hc1)).trans ?_
  refine (sx_iconst (v := 0) dx_4_19 rfl).trans ?_
  refine (sx_aload_n dx_4_20 rfl).trans ?_
  refine (sx_gfr dx_4_21 ow_4 fx_0_15 ht0 (rbC_2 ht0)).trans ?_
  refine (sx_iconst (v := 0) dx_4_24 rfl).trans ?_
  refine (sx_bipush (v := 10) dx_4_25 rfl).trans ?_
  refine (sx_acp dx_4_27 ow_4 cx3_0_41 (iaC_2 hc1) (iaC_2 ht0) (by decide) (by decide) (Nat.le_of_ble_eq_true rfl)).trans ?_
  refine mj_ite ?_ rfl
  refine (sx_aload_n dx_4_30 rfl).trans ?_
  refine (sx_gfr dx_4_31 ow_4 fx_0_18 hc1 (rbC_3 hc1)).trans ?_
  refine (sx_iconst (v := 0) dx_4_34 rfl).trans ?_
  refine (sx_aload_n dx_4_35 rfl).trans ?_
  refine (sx_gfr dx_4_36 ow_4 fx_0_18 ht0 (rbC_3 ht0)).trans ?_
  refine (sx_iconst (v := 0) dx_4_39 rfl).trans ?_
  refine (sx_bipush (v := 80) dx_4_40 rfl).trans ?_
  refine (sx_acp dx_4_42 ow_4 cx3_0_41 (iaC_3 hc1) (iaC_3 ht0) (by decide) (by decide) (Nat.le_of_ble_eq_true rfl)).trans ?_
  refine mj_ite ?_ rfl
  refine (sx_aload_n dx_4_45 rfl).trans ?_
  refine (sx_aload_n dx_4_46 rfl).trans ?_
  refine (sx_gfi dx_4_47 ow_4 fx_0_47 (by decide) hc1).trans ?_
  refine (sx_pfi dx_4_50 ow_4 fx_0_47 ht0).trans ?_
  refine (sx_aload_n dx_4_53 rfl).trans ?_
  refine (sx_aload_n dx_4_54 rfl).trans ?_
  refine (sx_gfi dx_4_55 ow_4 fx_0_50 (by decide) hc1).trans ?_
  refine (sx_pfi dx_4_58 ow_4 fx_0_50 ht0).trans ?_
  refine (sx_aload_n dx_4_61 rfl).trans ?_
  refine (sx_aload_n dx_4_62 rfl).trans ?_
  refine (sx_gfi dx_4_63 ow_4 fx_0_27 (by decide) hc1).trans ?_
  refine (sx_pfi dx_4_66 ow_4 fx_0_27 ht0).trans ?_
  exact sx_retv dx_4_69 rt_4
theorem dx_5_0 : mj_at 5 0 = some (.iload_n 1) := by decide +kernel
theorem dx_5_1 : mj_at 5 1 = some (.ifCond .lt 25) := by decide +kernel
theorem dx_5_4 : mj_at 5 4 = some (.iload_n 1) := by decide +kernel
theorem dx_5_5 : mj_at 5 5 = some (.bipush 10) := by decide +kernel
theorem dx_5_7 : mj_at 5 7 = some (.if_icmp .ge 19) := by decide +kernel
theorem dx_5_10 : mj_at 5 10 = some (.aload_n 0) := by decide +kernel
theorem dx_5_11 : mj_at 5 11 = some (.getfield 47) := by decide +kernel
theorem dx_5_14 : mj_at 5 14 = some (.iload_n 1) := by decide +kernel
theorem dx_5_15 : mj_at 5 15 = some (.ishr) := by decide +kernel
theorem dx_5_16 : mj_at 5 16 = some (.iconst 1) := by decide +kernel
theorem dx_5_17 : mj_at 5 17 = some (.iand) := by decide +kernel
theorem dx_5_18 : mj_at 5 18 = some (.iconst 1) := by decide +kernel
theorem dx_5_19 : mj_at 5 19 = some (.if_icmp .ne 7) := by decide +kernel
theorem dx_5_22 : mj_at 5 22 = some (.iconst 1) := by decide +kernel
theorem dx_5_23 : mj_at 5 23 = some (.goto 4) := by decide +kernel
theorem dx_5_26 : mj_at 5 26 = some (.iconst 0) := by decide +kernel
theorem dx_5_27 : mj_at 5 27 = some (.ireturn) := by decide +kernel
set_option maxRecDepth 10000 in
theorem b_X1_has {sl d : Nat} {M : mj_M} {t0 : Nat} {x1 : Int32} (ht0 : mj_ocl t0 = 0) : mj_C sl d 5 [.ref t0, .int x1] M = if x1 < 0 then (some ((0 : Int32), M)) else (if x1 < 10 then (if ((M t0 6) >>> (x1 &&& 31)) &&& 1 = 1 then (some ((1 : Int32), M)) else (some ((0 : Int32), M))) else (some ((0 : Int32), M))) := by
  show mj_E sl d 5 0 [.ref t0, .int x1] [] M = _
  refine (sx_iload_n dx_5_0 rfl).trans ?_
  refine (sx_if_lt (tgt := 26) dx_5_1 (by decide)).trans ?_
  refine mj_ite ?_ ?_
  · refine (sx_iconst (v := 0) dx_5_26 rfl).trans ?_
    exact sx_retz dx_5_27 rt_5 (by decide)
  · refine (sx_iload_n dx_5_4 rfl).trans ?_
    refine (sx_bipush (v := 10) dx_5_5 rfl).trans ?_
    refine (sx_icmp_ge (tgt := 26) dx_5_7 (by decide)).trans ?_
    refine mj_ite ?_ ?_
    · refine (sx_aload_n dx_5_10 rfl).trans ?_
      refine (sx_gfi dx_5_11 ow_5 fx_0_47 (by decide) ht0).trans ?_
      refine (sx_iload_n dx_5_14 rfl).trans ?_
      refine (sx_ishr dx_5_15).trans ?_
      refine (sx_iconst (v := 1) dx_5_16 rfl).trans ?_
      refine (sx_iand dx_5_17).trans ?_
      refine (sx_iconst (v := 1) dx_5_18 rfl).trans ?_
      refine (sx_icmp_ne (tgt := 26) dx_5_19 (by decide)).trans ?_
      refine mj_ite ?_ ?_
      · refine (sx_iconst (v := 1) dx_5_22 rfl).trans ?_
        refine (sx_goto (tgt := 27) dx_5_23 (by decide)).trans ?_
        exact sx_retz dx_5_27 rt_5 (by decide)
      · refine (sx_iconst (v := 0) dx_5_26 rfl).trans ?_
        exact sx_retz dx_5_27 rt_5 (by decide)
    · refine (sx_iconst (v := 0) dx_5_26 rfl).trans ?_
      exact sx_retz dx_5_27 rt_5 (by decide)
theorem dx_6_0 : mj_at 6 0 = some (.aload_n 0) := by decide +kernel
theorem dx_6_1 : mj_at 6 1 = some (.dup) := by decide +kernel
theorem dx_6_2 : mj_at 6 2 = some (.getfield 47) := by decide +kernel
theorem dx_6_5 : mj_at 6 5 = some (.iconst 1) := by decide +kernel
theorem dx_6_6 : mj_at 6 6 = some (.iload_n 1) := by decide +kernel
theorem dx_6_7 : mj_at 6 7 = some (.ishl) := by decide +kernel
theorem dx_6_8 : mj_at 6 8 = some (.ior) := by decide +kernel
theorem dx_6_9 : mj_at 6 9 = some (.putfield 47) := by decide +kernel
theorem dx_6_12 : mj_at 6 12 = some (.aload_n 0) := by decide +kernel
theorem dx_6_13 : mj_at 6 13 = some (.getfield 9) := by decide +kernel
theorem dx_6_16 : mj_at 6 16 = some (.iload_n 1) := by decide +kernel
theorem dx_6_17 : mj_at 6 17 = some (.iload_n 2) := by decide +kernel
theorem dx_6_18 : mj_at 6 18 = some (.iastore) := by decide +kernel
theorem dx_6_19 : mj_at 6 19 = some (.aload_n 0) := by decide +kernel
theorem dx_6_20 : mj_at 6 20 = some (.getfield 15) := by decide +kernel
theorem dx_6_23 : mj_at 6 23 = some (.iload_n 1) := by decide +kernel
theorem dx_6_24 : mj_at 6 24 = some (.iload_n 3) := by decide +kernel
theorem dx_6_25 : mj_at 6 25 = some (.iastore) := by decide +kernel
theorem dx_6_26 : mj_at 6 26 = some (.aload_n 0) := by decide +kernel
theorem dx_6_27 : mj_at 6 27 = some (.getfield 18) := by decide +kernel
theorem dx_6_30 : mj_at 6 30 = some (.iload_n 1) := by decide +kernel
theorem dx_6_31 : mj_at 6 31 = some (.bipush 8) := by decide +kernel
theorem dx_6_33 : mj_at 6 33 = some (.imul) := by decide +kernel
theorem dx_6_34 : mj_at 6 34 = some (.iload_n 1) := by decide +kernel
theorem dx_6_35 : mj_at 6 35 = some (.iconst 1) := by decide +kernel
theorem dx_6_36 : mj_at 6 36 = some (.iadd) := by decide +kernel
theorem dx_6_37 : mj_at 6 37 = some (.bipush 8) := by decide +kernel
theorem dx_6_39 : mj_at 6 39 = some (.imul) := by decide +kernel
theorem dx_6_40 : mj_at 6 40 = some (.iconst (-1)) := by decide +kernel
theorem dx_6_41 : mj_at 6 41 = some (.invokestatic 53) := by decide +kernel
theorem dx_6_44 : mj_at 6 44 = some (.return_) := by decide +kernel
set_option maxRecDepth 10000 in
theorem b_X1_tell {sl d : Nat} {M : mj_M} {t0 : Nat} {x1 : Int32} {x2 : Int32} {x3 : Int32} (ht0 : mj_ocl t0 = 0) : mj_C sl (d + 1) 6 [.ref t0, .int x1, .int x2, .int x3] M = if mj_inB x1 10 = true then (if mj_inB x1 10 = true then ((mj_C sl d 231 [.ref (t0 + 3), .int (x1 * 8), .int ((x1 + 1) * 8), .int (-1)] (mj_st (mj_st (mj_st M t0 6 ((M t0 6) ||| ((1 : Int32) <<< (x1 &&& 31)))) (t0 + 1) (x1 : Int32).toNatClampNeg x2) (t0 + 2) (x1 : Int32).toNatClampNeg x3)).bind (fun q1 => some ((0 : Int32), q1.2))) else none) else none := by
  show mj_E sl (d + 1) 6 0 [.ref t0, .int x1, .int x2, .int x3] [] M = _
  refine (sx_aload_n dx_6_0 rfl).trans ?_
  refine (sx_dupa dx_6_1).trans ?_
  refine (sx_gfi dx_6_2 ow_6 fx_0_47 (by decide) ht0).trans ?_
  refine (sx_iconst (v := 1) dx_6_5 rfl).trans ?_
  refine (sx_iload_n dx_6_6 rfl).trans ?_
  refine (sx_ishl dx_6_7).trans ?_
  refine (sx_ior dx_6_8).trans ?_
  refine (sx_pfi dx_6_9 ow_6 fx_0_47 ht0).trans ?_
  refine (sx_aload_n dx_6_12 rfl).trans ?_
  refine (sx_gfr dx_6_13 ow_6 fx_0_9 ht0 (rbC_1 ht0)).trans ?_
  refine (sx_iload_n dx_6_16 rfl).trans ?_
  refine (sx_iload_n dx_6_17 rfl).trans ?_
  refine (sx_ist dx_6_18 (iaC_1 ht0)).trans ?_
  refine mj_ite ?_ rfl
  refine (sx_aload_n dx_6_19 rfl).trans ?_
  refine (sx_gfr dx_6_20 ow_6 fx_0_15 ht0 (rbC_2 ht0)).trans ?_
  refine (sx_iload_n dx_6_23 rfl).trans ?_
  refine (sx_iload_n dx_6_24 rfl).trans ?_
  refine (sx_ist dx_6_25 (iaC_2 ht0)).trans ?_
  refine mj_ite ?_ rfl
  refine (sx_aload_n dx_6_26 rfl).trans ?_
  refine (sx_gfr dx_6_27 ow_6 fx_0_18 ht0 (rbC_3 ht0)).trans ?_
  refine (sx_iload_n dx_6_30 rfl).trans ?_
  refine (sx_bipush (v := 8) dx_6_31 rfl).trans ?_
  refine (sx_imul dx_6_33).trans ?_
  refine (sx_iload_n dx_6_34 rfl).trans ?_
  refine (sx_iconst (v := 1) dx_6_35 rfl).trans ?_
  refine (sx_iadd dx_6_36).trans ?_
  refine (sx_bipush (v := 8) dx_6_37 rfl).trans ?_
  refine (sx_imul dx_6_39).trans ?_
  refine (sx_iconst (v := (-1)) dx_6_40 rfl).trans ?_
  refine (sx_s4v dx_6_41 ow_6 cx_0_53 (Nat.le_of_ble_eq_true rfl)).trans ?_
  refine mj_bnd (fun q1 => ?_)
  exact sx_retv dx_6_44 rt_6
theorem dx_7_0 : mj_at 7 0 = some (.aload_n 0) := by decide +kernel
theorem dx_7_1 : mj_at 7 1 = some (.getfield 18) := by decide +kernel
theorem dx_7_4 : mj_at 7 4 = some (.iload_n 1) := by decide +kernel
theorem dx_7_5 : mj_at 7 5 = some (.bipush 8) := by decide +kernel
theorem dx_7_7 : mj_at 7 7 = some (.imul) := by decide +kernel
theorem dx_7_8 : mj_at 7 8 = some (.iload_n 2) := by decide +kernel
theorem dx_7_9 : mj_at 7 9 = some (.iadd) := by decide +kernel
theorem dx_7_10 : mj_at 7 10 = some (.iload_n 3) := by decide +kernel
theorem dx_7_11 : mj_at 7 11 = some (.iastore) := by decide +kernel
theorem dx_7_12 : mj_at 7 12 = some (.return_) := by decide +kernel
set_option maxRecDepth 10000 in
theorem b_X1_setForm {sl d : Nat} {M : mj_M} {t0 : Nat} {x1 : Int32} {x2 : Int32} {x3 : Int32} (ht0 : mj_ocl t0 = 0) : mj_C sl d 7 [.ref t0, .int x1, .int x2, .int x3] M = if mj_inB ((x1 * 8) + x2) 80 = true then (some ((0 : Int32), mj_st M (t0 + 3) ((x1 * 8) + x2 : Int32).toNatClampNeg x3)) else none := by
  show mj_E sl d 7 0 [.ref t0, .int x1, .int x2, .int x3] [] M = _
  refine (sx_aload_n dx_7_0 rfl).trans ?_
  refine (sx_gfr dx_7_1 ow_7 fx_0_18 ht0 (rbC_3 ht0)).trans ?_
  refine (sx_iload_n dx_7_4 rfl).trans ?_
  refine (sx_bipush (v := 8) dx_7_5 rfl).trans ?_
  refine (sx_imul dx_7_7).trans ?_
  refine (sx_iload_n dx_7_8 rfl).trans ?_
  refine (sx_iadd dx_7_9).trans ?_
  refine (sx_iload_n dx_7_10 rfl).trans ?_
  refine (sx_ist dx_7_11 (iaC_3 ht0)).trans ?_
  refine mj_ite ?_ rfl
  exact sx_retv dx_7_12 rt_7
theorem dx_8_0 : mj_at 8 0 = some (.aload_n 0) := by decide +kernel
theorem dx_8_1 : mj_at 8 1 = some (.getfield 18) := by decide +kernel
theorem dx_8_4 : mj_at 8 4 = some (.iload_n 1) := by decide +kernel
theorem dx_8_5 : mj_at 8 5 = some (.bipush 8) := by decide +kernel
theorem dx_8_7 : mj_at 8 7 = some (.imul) := by decide +kernel
theorem dx_8_8 : mj_at 8 8 = some (.iload_n 2) := by decide +kernel
theorem dx_8_9 : mj_at 8 9 = some (.iadd) := by decide +kernel
theorem dx_8_10 : mj_at 8 10 = some (.iaload) := by decide +kernel
theorem dx_8_11 : mj_at 8 11 = some (.istore_n 3) := by decide +kernel
theorem dx_8_12 : mj_at 8 12 = some (.iload_n 3) := by decide +kernel
theorem dx_8_13 : mj_at 8 13 = some (.iconst (-1)) := by decide +kernel
theorem dx_8_14 : mj_at 8 14 = some (.if_icmp .ne 15) := by decide +kernel
theorem dx_8_17 : mj_at 8 17 = some (.aload_n 0) := by decide +kernel
theorem dx_8_18 : mj_at 8 18 = some (.getfield 31) := by decide +kernel
theorem dx_8_21 : mj_at 8 21 = some (.getfield 56) := by decide +kernel
theorem dx_8_24 : mj_at 8 24 = some (.iload_n 2) := by decide +kernel
theorem dx_8_25 : mj_at 8 25 = some (.iaload) := by decide +kernel
theorem dx_8_26 : mj_at 8 26 = some (.goto 4) := by decide +kernel
theorem dx_8_29 : mj_at 8 29 = some (.iload_n 3) := by decide +kernel
theorem dx_8_30 : mj_at 8 30 = some (.ireturn) := by decide +kernel
set_option maxRecDepth 10000 in
theorem b_X1_formAt {sl d : Nat} {M : mj_M} {t0 : Nat} {x1 : Int32} {x2 : Int32} (ht0 : mj_ocl t0 = 0) : mj_C sl d 8 [.ref t0, .int x1, .int x2] M = if mj_inB ((x1 * 8) + x2) 80 = true then (if M (t0 + 3) ((x1 * 8) + x2 : Int32).toNatClampNeg = (-1) then (if mj_inB x2 8 = true then (some ((M 2 (x2 : Int32).toNatClampNeg : Int32), M)) else none) else (some ((M (t0 + 3) ((x1 * 8) + x2 : Int32).toNatClampNeg : Int32), M))) else none := by
  show mj_E sl d 8 0 [.ref t0, .int x1, .int x2, .null] [] M = _
  refine (sx_aload_n dx_8_0 rfl).trans ?_
  refine (sx_gfr dx_8_1 ow_8 fx_0_18 ht0 (rbC_3 ht0)).trans ?_
  refine (sx_iload_n dx_8_4 rfl).trans ?_
  refine (sx_bipush (v := 8) dx_8_5 rfl).trans ?_
  refine (sx_imul dx_8_7).trans ?_
  refine (sx_iload_n dx_8_8 rfl).trans ?_
  refine (sx_iadd dx_8_9).trans ?_
  refine (sx_ild dx_8_10 (naC_3 ht0) (iaC_3 ht0)).trans ?_
  refine mj_ite ?_ rfl
  refine (sx_istore_n dx_8_11 (Nat.le_of_ble_eq_true rfl) rfl).trans ?_
  refine (sx_iload_n dx_8_12 rfl).trans ?_
  refine (sx_iconst (v := (-1)) dx_8_13 rfl).trans ?_
  refine (sx_icmp_ne (tgt := 29) dx_8_14 (by decide)).trans ?_
  refine mj_ite ?_ ?_
  · refine (sx_aload_n dx_8_17 rfl).trans ?_
    refine (sx_gfr dx_8_18 ow_8 fx_0_31 ht0 (rbC_0 ht0)).trans ?_
    refine (sx_gfr dx_8_21 ow_8 fx_0_56 oc_1 rb_1_0).trans ?_
    refine (sx_iload_n dx_8_24 rfl).trans ?_
    refine (sx_ild dx_8_25 (by decide) ia_2).trans ?_
    refine mj_ite ?_ rfl
    refine (sx_goto (tgt := 30) dx_8_26 (by decide)).trans ?_
    exact sx_reti dx_8_30 rt_8
  · refine (sx_iload_n dx_8_29 rfl).trans ?_
    exact sx_reti dx_8_30 rt_8
theorem dx_9_0 : mj_at 9 0 = some (.iconst 0) := by decide +kernel
theorem dx_9_1 : mj_at 9 1 = some (.istore_n 2) := by decide +kernel
theorem dx_9_2 : mj_at 9 2 = some (.iconst 0) := by decide +kernel
theorem dx_9_3 : mj_at 9 3 = some (.istore_n 3) := by decide +kernel
theorem dx_9_4 : mj_at 9 4 = some (.iload_n 3) := by decide +kernel
theorem dx_9_5 : mj_at 9 5 = some (.bipush 8) := by decide +kernel
theorem dx_9_7 : mj_at 9 7 = some (.if_icmp .ge 46) := by decide +kernel
theorem dx_9_10 : mj_at 9 10 = some (.aload_n 0) := by decide +kernel
theorem dx_9_11 : mj_at 9 11 = some (.getfield 18) := by decide +kernel
theorem dx_9_14 : mj_at 9 14 = some (.iload_n 1) := by decide +kernel
theorem dx_9_15 : mj_at 9 15 = some (.bipush 8) := by decide +kernel
theorem dx_9_17 : mj_at 9 17 = some (.imul) := by decide +kernel
theorem dx_9_18 : mj_at 9 18 = some (.iload_n 3) := by decide +kernel
theorem dx_9_19 : mj_at 9 19 = some (.iadd) := by decide +kernel
theorem dx_9_20 : mj_at 9 20 = some (.iaload) := by decide +kernel
theorem dx_9_21 : mj_at 9 21 = some (.istore 4) := by decide +kernel
theorem dx_9_23 : mj_at 9 23 = some (.iload 4) := by decide +kernel
theorem dx_9_25 : mj_at 9 25 = some (.iconst (-1)) := by decide +kernel
theorem dx_9_26 : mj_at 9 26 = some (.if_icmp .eq 21) := by decide +kernel
theorem dx_9_29 : mj_at 9 29 = some (.iload_n 2) := by decide +kernel
theorem dx_9_30 : mj_at 9 30 = some (.iload 4) := by decide +kernel
theorem dx_9_32 : mj_at 9 32 = some (.aload_n 0) := by decide +kernel
theorem dx_9_33 : mj_at 9 33 = some (.getfield 31) := by decide +kernel
theorem dx_9_36 : mj_at 9 36 = some (.getfield 56) := by decide +kernel
theorem dx_9_39 : mj_at 9 39 = some (.iload_n 3) := by decide +kernel
theorem dx_9_40 : mj_at 9 40 = some (.iaload) := by decide +kernel
theorem dx_9_41 : mj_at 9 41 = some (.ixor) := by decide +kernel
theorem dx_9_42 : mj_at 9 42 = some (.invokestatic 61) := by decide +kernel
theorem dx_9_45 : mj_at 9 45 = some (.iadd) := by decide +kernel
theorem dx_9_46 : mj_at 9 46 = some (.istore_n 2) := by decide +kernel
theorem dx_9_47 : mj_at 9 47 = some (.iinc 3 1) := by decide +kernel
theorem dx_9_50 : mj_at 9 50 = some (.goto (-46)) := by decide +kernel
theorem dx_9_53 : mj_at 9 53 = some (.iload_n 2) := by decide +kernel
theorem dx_9_54 : mj_at 9 54 = some (.ireturn) := by decide +kernel
set_option maxRecDepth 10000 in
theorem b_X1_faultsOf {sl d : Nat} {M : mj_M} {t0 : Nat} {x1 : Int32} (ht0 : mj_ocl t0 = 0) : mj_C sl (d + 1) 9 [.ref t0, .int x1] M = mj_E sl (d + 1) 9 4 [.ref t0, .int x1, .int 0, .int 0, .null] [] M := by
  show mj_E sl (d + 1) 9 0 [.ref t0, .int x1, .null, .null, .null] [] M = _
  refine (sx_iconst (v := 0) dx_9_0 rfl).trans ?_
  refine (sx_istore_n dx_9_1 (Nat.le_of_ble_eq_true rfl) rfl).trans ?_
  refine (sx_iconst (v := 0) dx_9_2 rfl).trans ?_
  refine (sx_istore_n dx_9_3 (Nat.le_of_ble_eq_true rfl) rfl).trans ?_
  rfl
set_option maxRecDepth 10000 in
theorem b_X1_faultsOf_4 {sl d : Nat} {M : mj_M} {t0 : Nat} {y1 : Int32} {y2 : Int32} {y3 : Int32} {w4 : Value} (ht0 : mj_ocl t0 = 0) : mj_E sl (d + 1) 9 4 [.ref t0, .int y1, .int y2, .int y3, w4] [] M = if y3 < 8 then (if mj_inB ((y1 * 8) + y3) 80 = true then (if M (t0 + 3) ((y1 * 8) + y3 : Int32).toNatClampNeg = (-1) then (mj_E sl (d + 1) 9 4 [.ref t0, .int y1, .int y2, .int (y3 + 1), .int (M (t0 + 3) ((y1 * 8) + y3 : Int32).toNatClampNeg)] [] M) else (if mj_inB y3 8 = true then ((mj_C sl d 229 [.int ((M (t0 + 3) ((y1 * 8) + y3 : Int32).toNatClampNeg) ^^^ (M 2 (y3 : Int32).toNatClampNeg))] M).bind (fun q1 => mj_E sl (d + 1) 9 4 [.ref t0, .int y1, .int (y2 + q1.1), .int (y3 + 1), .int (M (t0 + 3) ((y1 * 8) + y3 : Int32).toNatClampNeg)] [] q1.2)) else none)) else none) else (some ((y2 : Int32), M)) := by
  refine (sx_iload_n dx_9_4 rfl).trans ?_
  refine (sx_bipush (v := 8) dx_9_5 rfl).trans ?_
  refine (sx_icmp_ge (tgt := 53) dx_9_7 (by decide)).trans ?_
  refine mj_ite ?_ ?_
  · refine (sx_aload_n dx_9_10 rfl).trans ?_
    refine (sx_gfr dx_9_11 ow_9 fx_0_18 ht0 (rbC_3 ht0)).trans ?_
    refine (sx_iload_n dx_9_14 rfl).trans ?_
    refine (sx_bipush (v := 8) dx_9_15 rfl).trans ?_
    refine (sx_imul dx_9_17).trans ?_
    refine (sx_iload_n dx_9_18 rfl).trans ?_
    refine (sx_iadd dx_9_19).trans ?_
    refine (sx_ild dx_9_20 (naC_3 ht0) (iaC_3 ht0)).trans ?_
    refine mj_ite ?_ rfl
    refine (sx_istore dx_9_21 (Nat.le_of_ble_eq_true rfl) rfl).trans ?_
    refine (sx_iload dx_9_23 rfl).trans ?_
    refine (sx_iconst (v := (-1)) dx_9_25 rfl).trans ?_
    refine (sx_icmp_eq (tgt := 47) dx_9_26 (by decide)).trans ?_
    refine mj_ite ?_ ?_
    · refine (sx_iinc (v := 1) dx_9_47 rfl rfl rfl).trans ?_
      refine (sx_goto (tgt := 4) dx_9_50 (by decide)).trans ?_
      rfl
    · refine (sx_iload_n dx_9_29 rfl).trans ?_
      refine (sx_iload dx_9_30 rfl).trans ?_
      refine (sx_aload_n dx_9_32 rfl).trans ?_
      refine (sx_gfr dx_9_33 ow_9 fx_0_31 ht0 (rbC_0 ht0)).trans ?_
      refine (sx_gfr dx_9_36 ow_9 fx_0_56 oc_1 rb_1_0).trans ?_
      refine (sx_iload_n dx_9_39 rfl).trans ?_
      refine (sx_ild dx_9_40 (by decide) ia_2).trans ?_
      refine mj_ite ?_ rfl
      refine (sx_ixor dx_9_41).trans ?_
      refine (sx_s1i dx_9_42 ow_9 cx_0_61 (Nat.le_of_ble_eq_true rfl)).trans ?_
      refine mj_bnd (fun q1 => ?_)
      refine (sx_iadd dx_9_45).trans ?_
      refine (sx_istore_n dx_9_46 (Nat.le_of_ble_eq_true rfl) rfl).trans ?_
      refine (sx_iinc (v := 1) dx_9_47 rfl rfl rfl).trans ?_
      refine (sx_goto (tgt := 4) dx_9_50 (by decide)).trans ?_
      rfl
  · refine (sx_iload_n dx_9_53 rfl).trans ?_
    exact sx_reti dx_9_54 rt_9
theorem dx_10_0 : mj_at 10 0 = some (.iconst 0) := by decide +kernel
theorem dx_10_1 : mj_at 10 1 = some (.istore_n 3) := by decide +kernel
theorem dx_10_2 : mj_at 10 2 = some (.iconst 0) := by decide +kernel
theorem dx_10_3 : mj_at 10 3 = some (.istore 4) := by decide +kernel
theorem dx_10_5 : mj_at 10 5 = some (.iload 4) := by decide +kernel
theorem dx_10_7 : mj_at 10 7 = some (.bipush 8) := by decide +kernel
theorem dx_10_9 : mj_at 10 9 = some (.if_icmp .ge 41) := by decide +kernel
theorem dx_10_12 : mj_at 10 12 = some (.aload_n 0) := by decide +kernel
theorem dx_10_13 : mj_at 10 13 = some (.getfield 31) := by decide +kernel
theorem dx_10_16 : mj_at 10 16 = some (.iload 4) := by decide +kernel
theorem dx_10_18 : mj_at 10 18 = some (.invokevirtual 67) := by decide +kernel
theorem dx_10_21 : mj_at 10 21 = some (.ifCond .eq 23) := by decide +kernel
theorem dx_10_24 : mj_at 10 24 = some (.iload_n 3) := by decide +kernel
theorem dx_10_25 : mj_at 10 25 = some (.aload_n 0) := by decide +kernel
theorem dx_10_26 : mj_at 10 26 = some (.iload_n 1) := by decide +kernel
theorem dx_10_27 : mj_at 10 27 = some (.iload 4) := by decide +kernel
theorem dx_10_29 : mj_at 10 29 = some (.invokevirtual 71) := by decide +kernel
theorem dx_10_32 : mj_at 10 32 = some (.aload_n 0) := by decide +kernel
theorem dx_10_33 : mj_at 10 33 = some (.iload_n 2) := by decide +kernel
theorem dx_10_34 : mj_at 10 34 = some (.iload 4) := by decide +kernel
theorem dx_10_36 : mj_at 10 36 = some (.invokevirtual 71) := by decide +kernel
theorem dx_10_39 : mj_at 10 39 = some (.invokestatic 75) := by decide +kernel
theorem dx_10_42 : mj_at 10 42 = some (.iadd) := by decide +kernel
theorem dx_10_43 : mj_at 10 43 = some (.istore_n 3) := by decide +kernel
theorem dx_10_44 : mj_at 10 44 = some (.iinc 4 1) := by decide +kernel
theorem dx_10_47 : mj_at 10 47 = some (.goto (-42)) := by decide +kernel
theorem dx_10_50 : mj_at 10 50 = some (.iload_n 3) := by decide +kernel
theorem dx_10_51 : mj_at 10 51 = some (.ireturn) := by decide +kernel
set_option maxRecDepth 10000 in
theorem b_X1_handsApart {sl d : Nat} {M : mj_M} {t0 : Nat} {x1 : Int32} {x2 : Int32} (ht0 : mj_ocl t0 = 0) : mj_C sl (d + 1) 10 [.ref t0, .int x1, .int x2] M = mj_E sl (d + 1) 10 5 [.ref t0, .int x1, .int x2, .int 0, .int 0] [] M := by
  show mj_E sl (d + 1) 10 0 [.ref t0, .int x1, .int x2, .null, .null] [] M = _
  refine (sx_iconst (v := 0) dx_10_0 rfl).trans ?_
  refine (sx_istore_n dx_10_1 (Nat.le_of_ble_eq_true rfl) rfl).trans ?_
  refine (sx_iconst (v := 0) dx_10_2 rfl).trans ?_
  refine (sx_istore dx_10_3 (Nat.le_of_ble_eq_true rfl) rfl).trans ?_
  rfl
set_option maxRecDepth 10000 in
theorem b_X1_handsApart_5 {sl d : Nat} {M : mj_M} {t0 : Nat} {y1 : Int32} {y2 : Int32} {y3 : Int32} {y4 : Int32} (ht0 : mj_ocl t0 = 0) : mj_E sl (d + 1) 10 5 [.ref t0, .int y1, .int y2, .int y3, .int y4] [] M = if y4 < 8 then ((mj_C sl d 62 [.ref 1, .int y4] M).bind (fun q1 => if q1.1 = 0 then (mj_E sl (d + 1) 10 5 [.ref t0, .int y1, .int y2, .int y3, .int (y4 + 1)] [] q1.2) else ((mj_C sl d 8 [.ref t0, .int y1, .int y4] q1.2).bind (fun q2 => (mj_C sl d 8 [.ref t0, .int y2, .int y4] q2.2).bind (fun q3 => (mj_C sl d 21 [.int q2.1, .int q3.1] q3.2).bind (fun q4 => mj_E sl (d + 1) 10 5 [.ref t0, .int y1, .int y2, .int (y3 + q4.1), .int (y4 + 1)] [] q4.2)))))) else (some ((y3 : Int32), M)) := by
  refine (sx_iload dx_10_5 rfl).trans ?_
  refine (sx_bipush (v := 8) dx_10_7 rfl).trans ?_
  refine (sx_icmp_ge (tgt := 50) dx_10_9 (by decide)).trans ?_
  refine mj_ite ?_ ?_
  · refine (sx_aload_n dx_10_12 rfl).trans ?_
    refine (sx_gfr dx_10_13 ow_10 fx_0_31 ht0 (rbC_0 ht0)).trans ?_
    refine (sx_iload dx_10_16 rfl).trans ?_
    refine (sx_v1i dx_10_18 ow_10 cx_0_67 oc_1 (Nat.le_of_ble_eq_true rfl)).trans ?_
    refine mj_bnd (fun q1 => ?_)
    refine (sx_if_eq (tgt := 44) dx_10_21 (by decide)).trans ?_
    refine mj_ite ?_ ?_
    · refine (sx_iinc (v := 1) dx_10_44 rfl rfl rfl).trans ?_
      refine (sx_goto (tgt := 5) dx_10_47 (by decide)).trans ?_
      rfl
    · refine (sx_iload_n dx_10_24 rfl).trans ?_
      refine (sx_aload_n dx_10_25 rfl).trans ?_
      refine (sx_iload_n dx_10_26 rfl).trans ?_
      refine (sx_iload dx_10_27 rfl).trans ?_
      refine (sx_v2i dx_10_29 ow_10 cx_0_71 ht0 (Nat.le_of_ble_eq_true rfl)).trans ?_
      refine mj_bnd (fun q2 => ?_)
      refine (sx_aload_n dx_10_32 rfl).trans ?_
      refine (sx_iload_n dx_10_33 rfl).trans ?_
      refine (sx_iload dx_10_34 rfl).trans ?_
      refine (sx_v2i dx_10_36 ow_10 cx_0_71 ht0 (Nat.le_of_ble_eq_true rfl)).trans ?_
      refine mj_bnd (fun q3 => ?_)
      refine (sx_s2i dx_10_39 ow_10 cx_0_75 (Nat.le_of_ble_eq_true rfl)).trans ?_
      refine mj_bnd (fun q4 => ?_)
      refine (sx_iadd dx_10_42).trans ?_
      refine (sx_istore_n dx_10_43 (Nat.le_of_ble_eq_true rfl) rfl).trans ?_
      refine (sx_iinc (v := 1) dx_10_44 rfl rfl rfl).trans ?_
      refine (sx_goto (tgt := 5) dx_10_47 (by decide)).trans ?_
      rfl
  · refine (sx_iload_n dx_10_50 rfl).trans ?_
    exact sx_reti dx_10_51 rt_10
theorem dx_11_0 : mj_at 11 0 = some (.iconst 0) := by decide +kernel
theorem dx_11_1 : mj_at 11 1 = some (.istore_n 1) := by decide +kernel
theorem dx_11_2 : mj_at 11 2 = some (.iload_n 1) := by decide +kernel
theorem dx_11_3 : mj_at 11 3 = some (.bipush 10) := by decide +kernel
theorem dx_11_5 : mj_at 11 5 = some (.if_icmp .ge 20) := by decide +kernel
theorem dx_11_8 : mj_at 11 8 = some (.aload_n 0) := by decide +kernel
theorem dx_11_9 : mj_at 11 9 = some (.getfield 21) := by decide +kernel
theorem dx_11_12 : mj_at 11 12 = some (.iload_n 1) := by decide +kernel
theorem dx_11_13 : mj_at 11 13 = some (.aload_n 0) := by decide +kernel
theorem dx_11_14 : mj_at 11 14 = some (.iload_n 1) := by decide +kernel
theorem dx_11_15 : mj_at 11 15 = some (.invokevirtual 80) := by decide +kernel
theorem dx_11_18 : mj_at 11 18 = some (.iastore) := by decide +kernel
theorem dx_11_19 : mj_at 11 19 = some (.iinc 1 1) := by decide +kernel
theorem dx_11_22 : mj_at 11 22 = some (.goto (-20)) := by decide +kernel
theorem dx_11_25 : mj_at 11 25 = some (.iconst 0) := by decide +kernel
theorem dx_11_26 : mj_at 11 26 = some (.istore_n 1) := by decide +kernel
theorem dx_11_27 : mj_at 11 27 = some (.iload_n 1) := by decide +kernel
theorem dx_11_28 : mj_at 11 28 = some (.bipush 10) := by decide +kernel
theorem dx_11_30 : mj_at 11 30 = some (.if_icmp .ge 57) := by decide +kernel
theorem dx_11_33 : mj_at 11 33 = some (.aload_n 0) := by decide +kernel
theorem dx_11_34 : mj_at 11 34 = some (.getfield 24) := by decide +kernel
theorem dx_11_37 : mj_at 11 37 = some (.iload_n 1) := by decide +kernel
theorem dx_11_38 : mj_at 11 38 = some (.iconst 0) := by decide +kernel
theorem dx_11_39 : mj_at 11 39 = some (.iastore) := by decide +kernel
theorem dx_11_40 : mj_at 11 40 = some (.iconst 0) := by decide +kernel
theorem dx_11_41 : mj_at 11 41 = some (.istore_n 2) := by decide +kernel
theorem dx_11_42 : mj_at 11 42 = some (.iload_n 2) := by decide +kernel
theorem dx_11_43 : mj_at 11 43 = some (.bipush 10) := by decide +kernel
theorem dx_11_45 : mj_at 11 45 = some (.if_icmp .ge 36) := by decide +kernel
theorem dx_11_48 : mj_at 11 48 = some (.aload_n 0) := by decide +kernel
theorem dx_11_49 : mj_at 11 49 = some (.iload_n 2) := by decide +kernel
theorem dx_11_50 : mj_at 11 50 = some (.invokevirtual 83) := by decide +kernel
theorem dx_11_53 : mj_at 11 53 = some (.ifCond .eq 22) := by decide +kernel
theorem dx_11_56 : mj_at 11 56 = some (.aload_n 0) := by decide +kernel
theorem dx_11_57 : mj_at 11 57 = some (.iload_n 2) := by decide +kernel
theorem dx_11_58 : mj_at 11 58 = some (.iload_n 1) := by decide +kernel
theorem dx_11_59 : mj_at 11 59 = some (.invokevirtual 84) := by decide +kernel
theorem dx_11_62 : mj_at 11 62 = some (.ifCond .eq 13) := by decide +kernel
theorem dx_11_65 : mj_at 11 65 = some (.aload_n 0) := by decide +kernel
theorem dx_11_66 : mj_at 11 66 = some (.getfield 24) := by decide +kernel
theorem dx_11_69 : mj_at 11 69 = some (.iload_n 1) := by decide +kernel
theorem dx_11_70 : mj_at 11 70 = some (.dup2) := by decide +kernel
theorem dx_11_71 : mj_at 11 71 = some (.iaload) := by decide +kernel
theorem dx_11_72 : mj_at 11 72 = some (.iconst 1) := by decide +kernel
theorem dx_11_73 : mj_at 11 73 = some (.iadd) := by decide +kernel
theorem dx_11_74 : mj_at 11 74 = some (.iastore) := by decide +kernel
theorem dx_11_75 : mj_at 11 75 = some (.iinc 2 1) := by decide +kernel
theorem dx_11_78 : mj_at 11 78 = some (.goto (-36)) := by decide +kernel
theorem dx_11_81 : mj_at 11 81 = some (.iinc 1 1) := by decide +kernel
theorem dx_11_84 : mj_at 11 84 = some (.goto (-57)) := by decide +kernel
theorem dx_11_87 : mj_at 11 87 = some (.return_) := by decide +kernel
set_option maxRecDepth 10000 in
theorem b_X1_rankAll {sl d : Nat} {M : mj_M} {t0 : Nat} (ht0 : mj_ocl t0 = 0) : mj_C sl (d + 1) 11 [.ref t0] M = mj_E sl (d + 1) 11 2 [.ref t0, .int 0, .null] [] M := by
  show mj_E sl (d + 1) 11 0 [.ref t0, .null, .null] [] M = _
  refine (sx_iconst (v := 0) dx_11_0 rfl).trans ?_
  refine (sx_istore_n dx_11_1 (Nat.le_of_ble_eq_true rfl) rfl).trans ?_
  rfl
set_option maxRecDepth 10000 in
theorem b_X1_rankAll_2 {sl d : Nat} {M : mj_M} {t0 : Nat} {y1 : Int32} {w2 : Value} (ht0 : mj_ocl t0 = 0) : mj_E sl (d + 1) 11 2 [.ref t0, .int y1, w2] [] M = if y1 < 10 then ((mj_C sl d 9 [.ref t0, .int y1] M).bind (fun q1 => if mj_inB y1 10 = true then (mj_E sl (d + 1) 11 2 [.ref t0, .int (y1 + 1), w2] [] (mj_st q1.2 (t0 + 4) (y1 : Int32).toNatClampNeg q1.1)) else none)) else (mj_E sl (d + 1) 11 27 [.ref t0, .int 0, w2] [] M) := by
  refine (sx_iload_n dx_11_2 rfl).trans ?_
  refine (sx_bipush (v := 10) dx_11_3 rfl).trans ?_
  refine (sx_icmp_ge (tgt := 25) dx_11_5 (by decide)).trans ?_
  refine mj_ite ?_ ?_
  · refine (sx_aload_n dx_11_8 rfl).trans ?_
    refine (sx_gfr dx_11_9 ow_11 fx_0_21 ht0 (rbC_4 ht0)).trans ?_
    refine (sx_iload_n dx_11_12 rfl).trans ?_
    refine (sx_aload_n dx_11_13 rfl).trans ?_
    refine (sx_iload_n dx_11_14 rfl).trans ?_
    refine (sx_v1i dx_11_15 ow_11 cx_0_80 ht0 (Nat.le_of_ble_eq_true rfl)).trans ?_
    refine mj_bnd (fun q1 => ?_)
    refine (sx_ist dx_11_18 (iaC_4 ht0)).trans ?_
    refine mj_ite ?_ rfl
    refine (sx_iinc (v := 1) dx_11_19 rfl rfl rfl).trans ?_
    refine (sx_goto (tgt := 2) dx_11_22 (by decide)).trans ?_
    rfl
  · refine (sx_iconst (v := 0) dx_11_25 rfl).trans ?_
    refine (sx_istore_n dx_11_26 (Nat.le_of_ble_eq_true rfl) rfl).trans ?_
    rfl
set_option maxRecDepth 10000 in
theorem b_X1_rankAll_27 {sl d : Nat} {M : mj_M} {t0 : Nat} {y1 : Int32} {w2 : Value} (ht0 : mj_ocl t0 = 0) : mj_E sl (d + 1) 11 27 [.ref t0, .int y1, w2] [] M = if y1 < 10 then (if mj_inB y1 10 = true then (mj_E sl (d + 1) 11 42 [.ref t0, .int y1, .int 0] [] (mj_st M (t0 + 5) (y1 : Int32).toNatClampNeg 0)) else none) else (some ((0 : Int32), M)) := by
  refine (sx_iload_n dx_11_27 rfl).trans ?_
  refine (sx_bipush (v := 10) dx_11_28 rfl).trans ?_
  refine (sx_icmp_ge (tgt := 87) dx_11_30 (by decide)).trans ?_
  refine mj_ite ?_ ?_
  · refine (sx_aload_n dx_11_33 rfl).trans ?_
    refine (sx_gfr dx_11_34 ow_11 fx_0_24 ht0 (rbC_5 ht0)).trans ?_
    refine (sx_iload_n dx_11_37 rfl).trans ?_
    refine (sx_iconst (v := 0) dx_11_38 rfl).trans ?_
    refine (sx_ist dx_11_39 (iaC_5 ht0)).trans ?_
    refine mj_ite ?_ rfl
    refine (sx_iconst (v := 0) dx_11_40 rfl).trans ?_
    refine (sx_istore_n dx_11_41 (Nat.le_of_ble_eq_true rfl) rfl).trans ?_
    rfl
  · exact sx_retv dx_11_87 rt_11
set_option maxRecDepth 10000 in
theorem b_X1_rankAll_42 {sl d : Nat} {M : mj_M} {t0 : Nat} {y1 : Int32} {y2 : Int32} (ht0 : mj_ocl t0 = 0) : mj_E sl (d + 1) 11 42 [.ref t0, .int y1, .int y2] [] M = if y2 < 10 then ((mj_C sl d 5 [.ref t0, .int y2] M).bind (fun q1 => if q1.1 = 0 then (mj_E sl (d + 1) 11 42 [.ref t0, .int y1, .int (y2 + 1)] [] q1.2) else ((mj_C sl d 12 [.ref t0, .int y2, .int y1] q1.2).bind (fun q2 => if q2.1 = 0 then (mj_E sl (d + 1) 11 42 [.ref t0, .int y1, .int (y2 + 1)] [] q2.2) else (if mj_inB y1 10 = true then (if mj_inB y1 10 = true then (mj_E sl (d + 1) 11 42 [.ref t0, .int y1, .int (y2 + 1)] [] (mj_st q2.2 (t0 + 5) (y1 : Int32).toNatClampNeg ((q2.2 (t0 + 5) (y1 : Int32).toNatClampNeg) + 1))) else none) else none))))) else (mj_E sl (d + 1) 11 27 [.ref t0, .int (y1 + 1), .int y2] [] M) := by
  refine (sx_iload_n dx_11_42 rfl).trans ?_
  refine (sx_bipush (v := 10) dx_11_43 rfl).trans ?_
  refine (sx_icmp_ge (tgt := 81) dx_11_45 (by decide)).trans ?_
  refine mj_ite ?_ ?_
  · refine (sx_aload_n dx_11_48 rfl).trans ?_
    refine (sx_iload_n dx_11_49 rfl).trans ?_
    refine (sx_v1i dx_11_50 ow_11 cx_0_83 ht0 (Nat.le_of_ble_eq_true rfl)).trans ?_
    refine mj_bnd (fun q1 => ?_)
    refine (sx_if_eq (tgt := 75) dx_11_53 (by decide)).trans ?_
    refine mj_ite ?_ ?_
    · refine (sx_iinc (v := 1) dx_11_75 rfl rfl rfl).trans ?_
      refine (sx_goto (tgt := 42) dx_11_78 (by decide)).trans ?_
      rfl
    · refine (sx_aload_n dx_11_56 rfl).trans ?_
      refine (sx_iload_n dx_11_57 rfl).trans ?_
      refine (sx_iload_n dx_11_58 rfl).trans ?_
      refine (sx_v2i dx_11_59 ow_11 cx_0_84 ht0 (Nat.le_of_ble_eq_true rfl)).trans ?_
      refine mj_bnd (fun q2 => ?_)
      refine (sx_if_eq (tgt := 75) dx_11_62 (by decide)).trans ?_
      refine mj_ite ?_ ?_
      · refine (sx_iinc (v := 1) dx_11_75 rfl rfl rfl).trans ?_
        refine (sx_goto (tgt := 42) dx_11_78 (by decide)).trans ?_
        rfl
      · refine (sx_aload_n dx_11_65 rfl).trans ?_
        refine (sx_gfr dx_11_66 ow_11 fx_0_24 ht0 (rbC_5 ht0)).trans ?_
        refine (sx_iload_n dx_11_69 rfl).trans ?_
        refine (sx_dup2 dx_11_70).trans ?_
        refine (sx_ild dx_11_71 (naC_5 ht0) (iaC_5 ht0)).trans ?_
        refine mj_ite ?_ rfl
        refine (sx_iconst (v := 1) dx_11_72 rfl).trans ?_
        refine (sx_iadd dx_11_73).trans ?_
        refine (sx_ist dx_11_74 (iaC_5 ht0)).trans ?_
        refine mj_ite ?_ rfl
        refine (sx_iinc (v := 1) dx_11_75 rfl rfl rfl).trans ?_
        refine (sx_goto (tgt := 42) dx_11_78 (by decide)).trans ?_
        rfl
  · refine (sx_iinc (v := 1) dx_11_81 rfl rfl rfl).trans ?_
    refine (sx_goto (tgt := 27) dx_11_84 (by decide)).trans ?_
    rfl
theorem dx_12_0 : mj_at 12 0 = some (.aload_n 0) := by decide +kernel
theorem dx_12_1 : mj_at 12 1 = some (.getfield 21) := by decide +kernel
theorem dx_12_4 : mj_at 12 4 = some (.iload_n 1) := by decide +kernel
theorem dx_12_5 : mj_at 12 5 = some (.iaload) := by decide +kernel
theorem dx_12_6 : mj_at 12 6 = some (.aload_n 0) := by decide +kernel
theorem dx_12_7 : mj_at 12 7 = some (.getfield 21) := by decide +kernel
theorem dx_12_10 : mj_at 12 10 = some (.iload_n 2) := by decide +kernel
theorem dx_12_11 : mj_at 12 11 = some (.iaload) := by decide +kernel
theorem dx_12_12 : mj_at 12 12 = some (.if_icmp .eq 24) := by decide +kernel
theorem dx_12_15 : mj_at 12 15 = some (.aload_n 0) := by decide +kernel
theorem dx_12_16 : mj_at 12 16 = some (.getfield 21) := by decide +kernel
theorem dx_12_19 : mj_at 12 19 = some (.iload_n 1) := by decide +kernel
theorem dx_12_20 : mj_at 12 20 = some (.iaload) := by decide +kernel
theorem dx_12_21 : mj_at 12 21 = some (.aload_n 0) := by decide +kernel
theorem dx_12_22 : mj_at 12 22 = some (.getfield 21) := by decide +kernel
theorem dx_12_25 : mj_at 12 25 = some (.iload_n 2) := by decide +kernel
theorem dx_12_26 : mj_at 12 26 = some (.iaload) := by decide +kernel
theorem dx_12_27 : mj_at 12 27 = some (.if_icmp .ge 7) := by decide +kernel
theorem dx_12_30 : mj_at 12 30 = some (.iconst 1) := by decide +kernel
theorem dx_12_31 : mj_at 12 31 = some (.goto 4) := by decide +kernel
theorem dx_12_34 : mj_at 12 34 = some (.iconst 0) := by decide +kernel
theorem dx_12_35 : mj_at 12 35 = some (.ireturn) := by decide +kernel
theorem dx_12_36 : mj_at 12 36 = some (.aload_n 0) := by decide +kernel
theorem dx_12_37 : mj_at 12 37 = some (.getfield 9) := by decide +kernel
theorem dx_12_40 : mj_at 12 40 = some (.iload_n 1) := by decide +kernel
theorem dx_12_41 : mj_at 12 41 = some (.iaload) := by decide +kernel
theorem dx_12_42 : mj_at 12 42 = some (.aload_n 0) := by decide +kernel
theorem dx_12_43 : mj_at 12 43 = some (.getfield 9) := by decide +kernel
theorem dx_12_46 : mj_at 12 46 = some (.iload_n 2) := by decide +kernel
theorem dx_12_47 : mj_at 12 47 = some (.iaload) := by decide +kernel
theorem dx_12_48 : mj_at 12 48 = some (.if_icmp .ne 16) := by decide +kernel
theorem dx_12_51 : mj_at 12 51 = some (.iload_n 1) := by decide +kernel
theorem dx_12_52 : mj_at 12 52 = some (.iload_n 2) := by decide +kernel
theorem dx_12_53 : mj_at 12 53 = some (.if_icmp .ge 7) := by decide +kernel
theorem dx_12_56 : mj_at 12 56 = some (.iconst 1) := by decide +kernel
theorem dx_12_57 : mj_at 12 57 = some (.goto 27) := by decide +kernel
theorem dx_12_60 : mj_at 12 60 = some (.iconst 0) := by decide +kernel
theorem dx_12_61 : mj_at 12 61 = some (.goto 23) := by decide +kernel
theorem dx_12_64 : mj_at 12 64 = some (.aload_n 0) := by decide +kernel
theorem dx_12_65 : mj_at 12 65 = some (.getfield 9) := by decide +kernel
theorem dx_12_68 : mj_at 12 68 = some (.iload_n 1) := by decide +kernel
theorem dx_12_69 : mj_at 12 69 = some (.iaload) := by decide +kernel
theorem dx_12_70 : mj_at 12 70 = some (.aload_n 0) := by decide +kernel
theorem dx_12_71 : mj_at 12 71 = some (.getfield 9) := by decide +kernel
theorem dx_12_74 : mj_at 12 74 = some (.iload_n 2) := by decide +kernel
theorem dx_12_75 : mj_at 12 75 = some (.iaload) := by decide +kernel
theorem dx_12_76 : mj_at 12 76 = some (.if_icmp .le 7) := by decide +kernel
theorem dx_12_79 : mj_at 12 79 = some (.iconst 1) := by decide +kernel
theorem dx_12_80 : mj_at 12 80 = some (.goto 4) := by decide +kernel
theorem dx_12_83 : mj_at 12 83 = some (.iconst 0) := by decide +kernel
theorem dx_12_84 : mj_at 12 84 = some (.ireturn) := by decide +kernel
set_option maxRecDepth 10000 in
theorem b_X1_isAhead {sl d : Nat} {M : mj_M} {t0 : Nat} {x1 : Int32} {x2 : Int32} (ht0 : mj_ocl t0 = 0) : mj_C sl d 12 [.ref t0, .int x1, .int x2] M = if mj_inB x1 10 = true then (if mj_inB x2 10 = true then (if M (t0 + 4) (x1 : Int32).toNatClampNeg = (M (t0 + 4) (x2 : Int32).toNatClampNeg) then (if mj_inB x1 10 = true then (if mj_inB x2 10 = true then (if M (t0 + 1) (x1 : Int32).toNatClampNeg = (M (t0 + 1) (x2 : Int32).toNatClampNeg) then (if x1 < x2 then (some ((1 : Int32), M)) else (some ((0 : Int32), M))) else (if mj_inB x1 10 = true then (if mj_inB x2 10 = true then (if M (t0 + 1) (x1 : Int32).toNatClampNeg ≤ (M (t0 + 1) (x2 : Int32).toNatClampNeg) then (some ((0 : Int32), M)) else (some ((1 : Int32), M))) else none) else none)) else none) else none) else (if mj_inB x1 10 = true then (if mj_inB x2 10 = true then (if M (t0 + 4) (x1 : Int32).toNatClampNeg < (M (t0 + 4) (x2 : Int32).toNatClampNeg) then (some ((1 : Int32), M)) else (some ((0 : Int32), M))) else none) else none)) else none) else none := by
  show mj_E sl d 12 0 [.ref t0, .int x1, .int x2] [] M = _
  refine (sx_aload_n dx_12_0 rfl).trans ?_
  refine (sx_gfr dx_12_1 ow_12 fx_0_21 ht0 (rbC_4 ht0)).trans ?_
  refine (sx_iload_n dx_12_4 rfl).trans ?_
  refine (sx_ild dx_12_5 (naC_4 ht0) (iaC_4 ht0)).trans ?_
  refine mj_ite ?_ rfl
  refine (sx_aload_n dx_12_6 rfl).trans ?_
  refine (sx_gfr dx_12_7 ow_12 fx_0_21 ht0 (rbC_4 ht0)).trans ?_
  refine (sx_iload_n dx_12_10 rfl).trans ?_
  refine (sx_ild dx_12_11 (naC_4 ht0) (iaC_4 ht0)).trans ?_
  refine mj_ite ?_ rfl
  refine (sx_icmp_eq (tgt := 36) dx_12_12 (by decide)).trans ?_
  refine mj_ite ?_ ?_
  · refine (sx_aload_n dx_12_36 rfl).trans ?_
    refine (sx_gfr dx_12_37 ow_12 fx_0_9 ht0 (rbC_1 ht0)).trans ?_
    refine (sx_iload_n dx_12_40 rfl).trans ?_
    refine (sx_ild dx_12_41 (naC_1 ht0) (iaC_1 ht0)).trans ?_
    refine mj_ite ?_ rfl
    refine (sx_aload_n dx_12_42 rfl).trans ?_
    refine (sx_gfr dx_12_43 ow_12 fx_0_9 ht0 (rbC_1 ht0)).trans ?_
    refine (sx_iload_n dx_12_46 rfl).trans ?_
    refine (sx_ild dx_12_47 (naC_1 ht0) (iaC_1 ht0)).trans ?_
    refine mj_ite ?_ rfl
    refine (sx_icmp_ne (tgt := 64) dx_12_48 (by decide)).trans ?_
    refine mj_ite ?_ ?_
    · refine (sx_iload_n dx_12_51 rfl).trans ?_
      refine (sx_iload_n dx_12_52 rfl).trans ?_
      refine (sx_icmp_ge (tgt := 60) dx_12_53 (by decide)).trans ?_
      refine mj_ite ?_ ?_
      · refine (sx_iconst (v := 1) dx_12_56 rfl).trans ?_
        refine (sx_goto (tgt := 84) dx_12_57 (by decide)).trans ?_
        exact sx_retz dx_12_84 rt_12 (by decide)
      · refine (sx_iconst (v := 0) dx_12_60 rfl).trans ?_
        refine (sx_goto (tgt := 84) dx_12_61 (by decide)).trans ?_
        exact sx_retz dx_12_84 rt_12 (by decide)
    · refine (sx_aload_n dx_12_64 rfl).trans ?_
      refine (sx_gfr dx_12_65 ow_12 fx_0_9 ht0 (rbC_1 ht0)).trans ?_
      refine (sx_iload_n dx_12_68 rfl).trans ?_
      refine (sx_ild dx_12_69 (naC_1 ht0) (iaC_1 ht0)).trans ?_
      refine mj_ite ?_ rfl
      refine (sx_aload_n dx_12_70 rfl).trans ?_
      refine (sx_gfr dx_12_71 ow_12 fx_0_9 ht0 (rbC_1 ht0)).trans ?_
      refine (sx_iload_n dx_12_74 rfl).trans ?_
      refine (sx_ild dx_12_75 (naC_1 ht0) (iaC_1 ht0)).trans ?_
      refine mj_ite ?_ rfl
      refine (sx_icmp_le (tgt := 83) dx_12_76 (by decide)).trans ?_
      refine mj_ite ?_ ?_
      · refine (sx_iconst (v := 0) dx_12_83 rfl).trans ?_
        exact sx_retz dx_12_84 rt_12 (by decide)
      · refine (sx_iconst (v := 1) dx_12_79 rfl).trans ?_
        refine (sx_goto (tgt := 84) dx_12_80 (by decide)).trans ?_
        exact sx_retz dx_12_84 rt_12 (by decide)
  · refine (sx_aload_n dx_12_15 rfl).trans ?_
    refine (sx_gfr dx_12_16 ow_12 fx_0_21 ht0 (rbC_4 ht0)).trans ?_
    refine (sx_iload_n dx_12_19 rfl).trans ?_
    refine (sx_ild dx_12_20 (naC_4 ht0) (iaC_4 ht0)).trans ?_
    refine mj_ite ?_ rfl
    refine (sx_aload_n dx_12_21 rfl).trans ?_
    refine (sx_gfr dx_12_22 ow_12 fx_0_21 ht0 (rbC_4 ht0)).trans ?_
    refine (sx_iload_n dx_12_25 rfl).trans ?_
    refine (sx_ild dx_12_26 (naC_4 ht0) (iaC_4 ht0)).trans ?_
    refine mj_ite ?_ rfl
    refine (sx_icmp_ge (tgt := 34) dx_12_27 (by decide)).trans ?_
    refine mj_ite ?_ ?_
    · refine (sx_iconst (v := 1) dx_12_30 rfl).trans ?_
      refine (sx_goto (tgt := 35) dx_12_31 (by decide)).trans ?_
      exact sx_retz dx_12_35 rt_12 (by decide)
    · refine (sx_iconst (v := 0) dx_12_34 rfl).trans ?_
      exact sx_retz dx_12_35 rt_12 (by decide)
theorem dx_13_0 : mj_at 13 0 = some (.aload_n 0) := by decide +kernel
theorem dx_13_1 : mj_at 13 1 = some (.invokevirtual 88) := by decide +kernel
theorem dx_13_4 : mj_at 13 4 = some (.iconst 0) := by decide +kernel
theorem dx_13_5 : mj_at 13 5 = some (.istore_n 1) := by decide +kernel
theorem dx_13_6 : mj_at 13 6 = some (.iload_n 1) := by decide +kernel
theorem dx_13_7 : mj_at 13 7 = some (.bipush 10) := by decide +kernel
theorem dx_13_9 : mj_at 13 9 = some (.if_icmp .ge 28) := by decide +kernel
theorem dx_13_12 : mj_at 13 12 = some (.aload_n 0) := by decide +kernel
theorem dx_13_13 : mj_at 13 13 = some (.iload_n 1) := by decide +kernel
theorem dx_13_14 : mj_at 13 14 = some (.invokevirtual 83) := by decide +kernel
theorem dx_13_17 : mj_at 13 17 = some (.ifCond .eq 14) := by decide +kernel
theorem dx_13_20 : mj_at 13 20 = some (.aload_n 0) := by decide +kernel
theorem dx_13_21 : mj_at 13 21 = some (.getfield 24) := by decide +kernel
theorem dx_13_24 : mj_at 13 24 = some (.iload_n 1) := by decide +kernel
theorem dx_13_25 : mj_at 13 25 = some (.iaload) := by decide +kernel
theorem dx_13_26 : mj_at 13 26 = some (.ifCond .ne 5) := by decide +kernel
theorem dx_13_29 : mj_at 13 29 = some (.iload_n 1) := by decide +kernel
theorem dx_13_30 : mj_at 13 30 = some (.ireturn) := by decide +kernel
theorem dx_13_31 : mj_at 13 31 = some (.iinc 1 1) := by decide +kernel
theorem dx_13_34 : mj_at 13 34 = some (.goto (-28)) := by decide +kernel
theorem dx_13_37 : mj_at 13 37 = some (.bipush (-2)) := by decide +kernel
theorem dx_13_39 : mj_at 13 39 = some (.ireturn) := by decide +kernel
set_option maxRecDepth 10000 in
theorem b_X1_firstInRank {sl d : Nat} {M : mj_M} {t0 : Nat} (ht0 : mj_ocl t0 = 0) : mj_C sl (d + 1) 13 [.ref t0] M = (mj_C sl d 11 [.ref t0] M).bind (fun q1 => mj_E sl (d + 1) 13 6 [.ref t0, .int 0] [] q1.2) := by
  show mj_E sl (d + 1) 13 0 [.ref t0, .null] [] M = _
  refine (sx_aload_n dx_13_0 rfl).trans ?_
  refine (sx_v0v dx_13_1 ow_13 cx_0_88 ht0 (Nat.le_of_ble_eq_true rfl)).trans ?_
  refine mj_bnd (fun q1 => ?_)
  refine (sx_iconst (v := 0) dx_13_4 rfl).trans ?_
  refine (sx_istore_n dx_13_5 (Nat.le_of_ble_eq_true rfl) rfl).trans ?_
  rfl
set_option maxRecDepth 10000 in
theorem b_X1_firstInRank_6 {sl d : Nat} {M : mj_M} {t0 : Nat} {y1 : Int32} (ht0 : mj_ocl t0 = 0) : mj_E sl (d + 1) 13 6 [.ref t0, .int y1] [] M = if y1 < 10 then ((mj_C sl d 5 [.ref t0, .int y1] M).bind (fun q1 => if q1.1 = 0 then (mj_E sl (d + 1) 13 6 [.ref t0, .int (y1 + 1)] [] q1.2) else (if mj_inB y1 10 = true then (if q1.2 (t0 + 5) (y1 : Int32).toNatClampNeg = 0 then (some ((y1 : Int32), q1.2)) else (mj_E sl (d + 1) 13 6 [.ref t0, .int (y1 + 1)] [] q1.2)) else none))) else (some (((-2) : Int32), M)) := by
  refine (sx_iload_n dx_13_6 rfl).trans ?_
  refine (sx_bipush (v := 10) dx_13_7 rfl).trans ?_
  refine (sx_icmp_ge (tgt := 37) dx_13_9 (by decide)).trans ?_
  refine mj_ite ?_ ?_
  · refine (sx_aload_n dx_13_12 rfl).trans ?_
    refine (sx_iload_n dx_13_13 rfl).trans ?_
    refine (sx_v1i dx_13_14 ow_13 cx_0_83 ht0 (Nat.le_of_ble_eq_true rfl)).trans ?_
    refine mj_bnd (fun q1 => ?_)
    refine (sx_if_eq (tgt := 31) dx_13_17 (by decide)).trans ?_
    refine mj_ite ?_ ?_
    · refine (sx_iinc (v := 1) dx_13_31 rfl rfl rfl).trans ?_
      refine (sx_goto (tgt := 6) dx_13_34 (by decide)).trans ?_
      rfl
    · refine (sx_aload_n dx_13_20 rfl).trans ?_
      refine (sx_gfr dx_13_21 ow_13 fx_0_24 ht0 (rbC_5 ht0)).trans ?_
      refine (sx_iload_n dx_13_24 rfl).trans ?_
      refine (sx_ild dx_13_25 (naC_5 ht0) (iaC_5 ht0)).trans ?_
      refine mj_ite ?_ rfl
      refine (sx_if_ne (tgt := 31) dx_13_26 (by decide)).trans ?_
      refine mj_ite ?_ ?_
      · refine (sx_iload_n dx_13_29 rfl).trans ?_
        exact sx_reti dx_13_30 rt_13
      · refine (sx_iinc (v := 1) dx_13_31 rfl rfl rfl).trans ?_
        refine (sx_goto (tgt := 6) dx_13_34 (by decide)).trans ?_
        rfl
  · refine (sx_bipush (v := (-2)) dx_13_37 rfl).trans ?_
    exact sx_reti dx_13_39 rt_13
theorem dx_14_0 : mj_at 14 0 = some (.aload_n 0) := by decide +kernel
theorem dx_14_1 : mj_at 14 1 = some (.iconst 0) := by decide +kernel
theorem dx_14_2 : mj_at 14 2 = some (.putfield 91) := by decide +kernel
theorem dx_14_5 : mj_at 14 5 = some (.aload_n 0) := by decide +kernel
theorem dx_14_6 : mj_at 14 6 = some (.iconst 0) := by decide +kernel
theorem dx_14_7 : mj_at 14 7 = some (.putfield 94) := by decide +kernel
theorem dx_14_10 : mj_at 14 10 = some (.aload_n 0) := by decide +kernel
theorem dx_14_11 : mj_at 14 11 = some (.iconst 0) := by decide +kernel
theorem dx_14_12 : mj_at 14 12 = some (.putfield 97) := by decide +kernel
theorem dx_14_15 : mj_at 14 15 = some (.iconst 0) := by decide +kernel
theorem dx_14_16 : mj_at 14 16 = some (.istore_n 3) := by decide +kernel
theorem dx_14_17 : mj_at 14 17 = some (.iload_n 3) := by decide +kernel
theorem dx_14_18 : mj_at 14 18 = some (.iload_n 1) := by decide +kernel
theorem dx_14_19 : mj_at 14 19 = some (.if_icmp .ge 24) := by decide +kernel
theorem dx_14_22 : mj_at 14 22 = some (.aload_n 0) := by decide +kernel
theorem dx_14_23 : mj_at 14 23 = some (.getfield 50) := by decide +kernel
theorem dx_14_26 : mj_at 14 26 = some (.sipush 9999) := by decide +kernel
theorem dx_14_29 : mj_at 14 29 = some (.if_icmp .ge 14) := by decide +kernel
theorem dx_14_32 : mj_at 14 32 = some (.aload_n 0) := by decide +kernel
theorem dx_14_33 : mj_at 14 33 = some (.aload_n 2) := by decide +kernel
theorem dx_14_34 : mj_at 14 34 = some (.invokevirtual 100) := by decide +kernel
theorem dx_14_37 : mj_at 14 37 = some (.iinc 3 1) := by decide +kernel
theorem dx_14_40 : mj_at 14 40 = some (.goto (-23)) := by decide +kernel
theorem dx_14_43 : mj_at 14 43 = some (.return_) := by decide +kernel
set_option maxRecDepth 10000 in
theorem b_X1_passMoons {sl d : Nat} {M : mj_M} {t0 : Nat} {x1 : Int32} {c2 : Nat} (ht0 : mj_ocl t0 = 0) (hc2 : mj_ocl c2 = 1) : mj_C sl (d + 1) 14 [.ref t0, .int x1, .ref c2] M = mj_E sl (d + 1) 14 17 [.ref t0, .int x1, .ref c2, .int 0] [] (mj_st (mj_st (mj_st M t0 9 0) t0 10 0) t0 11 0) := by
  show mj_E sl (d + 1) 14 0 [.ref t0, .int x1, .ref c2, .null] [] M = _
  refine (sx_aload_n dx_14_0 rfl).trans ?_
  refine (sx_iconst (v := 0) dx_14_1 rfl).trans ?_
  refine (sx_pfi dx_14_2 ow_14 fx_0_91 ht0).trans ?_
  refine (sx_aload_n dx_14_5 rfl).trans ?_
  refine (sx_iconst (v := 0) dx_14_6 rfl).trans ?_
  refine (sx_pfi dx_14_7 ow_14 fx_0_94 ht0).trans ?_
  refine (sx_aload_n dx_14_10 rfl).trans ?_
  refine (sx_iconst (v := 0) dx_14_11 rfl).trans ?_
  refine (sx_pfi dx_14_12 ow_14 fx_0_97 ht0).trans ?_
  refine (sx_iconst (v := 0) dx_14_15 rfl).trans ?_
  refine (sx_istore_n dx_14_16 (Nat.le_of_ble_eq_true rfl) rfl).trans ?_
  rfl
set_option maxRecDepth 10000 in
theorem b_X1_passMoons_17 {sl d : Nat} {M : mj_M} {t0 : Nat} {c2 : Nat} {y1 : Int32} {y3 : Int32} (ht0 : mj_ocl t0 = 0) (hc2 : mj_ocl c2 = 1) : mj_E sl (d + 1) 14 17 [.ref t0, .int y1, .ref c2, .int y3] [] M = if y3 < y1 then (if M t0 7 < 9999 then ((mj_C sl d 15 [.ref t0, .ref c2] M).bind (fun q1 => mj_E sl (d + 1) 14 17 [.ref t0, .int y1, .ref c2, .int (y3 + 1)] [] q1.2)) else (some ((0 : Int32), M))) else (some ((0 : Int32), M)) := by
  refine (sx_iload_n dx_14_17 rfl).trans ?_
  refine (sx_iload_n dx_14_18 rfl).trans ?_
  refine (sx_icmp_ge (tgt := 43) dx_14_19 (by decide)).trans ?_
  refine mj_ite ?_ ?_
  · refine (sx_aload_n dx_14_22 rfl).trans ?_
    refine (sx_gfi dx_14_23 ow_14 fx_0_50 (by decide) ht0).trans ?_
    refine (sx_sipush (v := 9999) dx_14_26 rfl).trans ?_
    refine (sx_icmp_ge (tgt := 43) dx_14_29 (by decide)).trans ?_
    refine mj_ite ?_ ?_
    · refine (sx_aload_n dx_14_32 rfl).trans ?_
      refine (sx_aload_n dx_14_33 rfl).trans ?_
      refine (sx_v1v dx_14_34 ow_14 cx_0_100 ht0 (Nat.le_of_ble_eq_true rfl)).trans ?_
      refine mj_bnd (fun q1 => ?_)
      refine (sx_iinc (v := 1) dx_14_37 rfl rfl rfl).trans ?_
      refine (sx_goto (tgt := 17) dx_14_40 (by decide)).trans ?_
      rfl
    · exact sx_retv dx_14_43 rt_14
  · exact sx_retv dx_14_43 rt_14
theorem dx_15_0 : mj_at 15 0 = some (.aload_n 0) := by decide +kernel
theorem dx_15_1 : mj_at 15 1 = some (.invokevirtual 88) := by decide +kernel
theorem dx_15_4 : mj_at 15 4 = some (.iconst 0) := by decide +kernel
theorem dx_15_5 : mj_at 15 5 = some (.istore_n 2) := by decide +kernel
theorem dx_15_6 : mj_at 15 6 = some (.iload_n 2) := by decide +kernel
theorem dx_15_7 : mj_at 15 7 = some (.bipush 10) := by decide +kernel
theorem dx_15_9 : mj_at 15 9 = some (.if_icmp .ge 23) := by decide +kernel
theorem dx_15_12 : mj_at 15 12 = some (.aload_n 0) := by decide +kernel
theorem dx_15_13 : mj_at 15 13 = some (.iload_n 2) := by decide +kernel
theorem dx_15_14 : mj_at 15 14 = some (.invokevirtual 83) := by decide +kernel
theorem dx_15_17 : mj_at 15 17 = some (.ifCond .eq 9) := by decide +kernel
theorem dx_15_20 : mj_at 15 20 = some (.aload_n 0) := by decide +kernel
theorem dx_15_21 : mj_at 15 21 = some (.iload_n 2) := by decide +kernel
theorem dx_15_22 : mj_at 15 22 = some (.aload_n 1) := by decide +kernel
theorem dx_15_23 : mj_at 15 23 = some (.invokevirtual 104) := by decide +kernel
theorem dx_15_26 : mj_at 15 26 = some (.iinc 2 1) := by decide +kernel
theorem dx_15_29 : mj_at 15 29 = some (.goto (-23)) := by decide +kernel
theorem dx_15_32 : mj_at 15 32 = some (.aload_n 0) := by decide +kernel
theorem dx_15_33 : mj_at 15 33 = some (.dup) := by decide +kernel
theorem dx_15_34 : mj_at 15 34 = some (.getfield 50) := by decide +kernel
theorem dx_15_37 : mj_at 15 37 = some (.iconst 1) := by decide +kernel
theorem dx_15_38 : mj_at 15 38 = some (.iadd) := by decide +kernel
theorem dx_15_39 : mj_at 15 39 = some (.putfield 50) := by decide +kernel
theorem dx_15_42 : mj_at 15 42 = some (.iconst 0) := by decide +kernel
theorem dx_15_43 : mj_at 15 43 = some (.istore_n 2) := by decide +kernel
theorem dx_15_44 : mj_at 15 44 = some (.iload_n 2) := by decide +kernel
theorem dx_15_45 : mj_at 15 45 = some (.bipush 10) := by decide +kernel
theorem dx_15_47 : mj_at 15 47 = some (.if_icmp .ge 38) := by decide +kernel
theorem dx_15_50 : mj_at 15 50 = some (.aload_n 0) := by decide +kernel
theorem dx_15_51 : mj_at 15 51 = some (.getfield 50) := by decide +kernel
theorem dx_15_54 : mj_at 15 54 = some (.bipush 12) := by decide +kernel
theorem dx_15_56 : mj_at 15 56 = some (.irem) := by decide +kernel
theorem dx_15_57 : mj_at 15 57 = some (.ifCond .ne 28) := by decide +kernel
theorem dx_15_60 : mj_at 15 60 = some (.aload_n 0) := by decide +kernel
theorem dx_15_61 : mj_at 15 61 = some (.getfield 9) := by decide +kernel
theorem dx_15_64 : mj_at 15 64 = some (.iload_n 2) := by decide +kernel
theorem dx_15_65 : mj_at 15 65 = some (.bipush 99) := by decide +kernel
theorem dx_15_67 : mj_at 15 67 = some (.aload_n 0) := by decide +kernel
theorem dx_15_68 : mj_at 15 68 = some (.getfield 9) := by decide +kernel
theorem dx_15_71 : mj_at 15 71 = some (.iload_n 2) := by decide +kernel
theorem dx_15_72 : mj_at 15 72 = some (.iaload) := by decide +kernel
theorem dx_15_73 : mj_at 15 73 = some (.iconst 1) := by decide +kernel
theorem dx_15_74 : mj_at 15 74 = some (.iadd) := by decide +kernel
theorem dx_15_75 : mj_at 15 75 = some (.invokestatic 108) := by decide +kernel
theorem dx_15_78 : mj_at 15 78 = some (.iastore) := by decide +kernel
theorem dx_15_79 : mj_at 15 79 = some (.iinc 2 1) := by decide +kernel
theorem dx_15_82 : mj_at 15 82 = some (.goto (-38)) := by decide +kernel
theorem dx_15_85 : mj_at 15 85 = some (.return_) := by decide +kernel
set_option maxRecDepth 10000 in
theorem b_X1_passMoon {sl d : Nat} {M : mj_M} {t0 : Nat} {c1 : Nat} (ht0 : mj_ocl t0 = 0) (hc1 : mj_ocl c1 = 1) : mj_C sl (d + 1) 15 [.ref t0, .ref c1] M = (mj_C sl d 11 [.ref t0] M).bind (fun q1 => mj_E sl (d + 1) 15 6 [.ref t0, .ref c1, .int 0] [] q1.2) := by
  show mj_E sl (d + 1) 15 0 [.ref t0, .ref c1, .null] [] M = _
  refine (sx_aload_n dx_15_0 rfl).trans ?_
  refine (sx_v0v dx_15_1 ow_15 cx_0_88 ht0 (Nat.le_of_ble_eq_true rfl)).trans ?_
  refine mj_bnd (fun q1 => ?_)
  refine (sx_iconst (v := 0) dx_15_4 rfl).trans ?_
  refine (sx_istore_n dx_15_5 (Nat.le_of_ble_eq_true rfl) rfl).trans ?_
  rfl
set_option maxRecDepth 10000 in
theorem b_X1_passMoon_6 {sl d : Nat} {M : mj_M} {t0 : Nat} {c1 : Nat} {y2 : Int32} (ht0 : mj_ocl t0 = 0) (hc1 : mj_ocl c1 = 1) : mj_E sl (d + 1) 15 6 [.ref t0, .ref c1, .int y2] [] M = if y2 < 10 then ((mj_C sl d 5 [.ref t0, .int y2] M).bind (fun q1 => if q1.1 = 0 then (mj_E sl (d + 1) 15 6 [.ref t0, .ref c1, .int (y2 + 1)] [] q1.2) else ((mj_C sl d 16 [.ref t0, .int y2, .ref c1] q1.2).bind (fun q2 => mj_E sl (d + 1) 15 6 [.ref t0, .ref c1, .int (y2 + 1)] [] q2.2)))) else (mj_E sl (d + 1) 15 44 [.ref t0, .ref c1, .int 0] [] (mj_st M t0 7 ((M t0 7) + 1))) := by
  refine (sx_iload_n dx_15_6 rfl).trans ?_
  refine (sx_bipush (v := 10) dx_15_7 rfl).trans ?_
  refine (sx_icmp_ge (tgt := 32) dx_15_9 (by decide)).trans ?_
  refine mj_ite ?_ ?_
  · refine (sx_aload_n dx_15_12 rfl).trans ?_
    refine (sx_iload_n dx_15_13 rfl).trans ?_
    refine (sx_v1i dx_15_14 ow_15 cx_0_83 ht0 (Nat.le_of_ble_eq_true rfl)).trans ?_
    refine mj_bnd (fun q1 => ?_)
    refine (sx_if_eq (tgt := 26) dx_15_17 (by decide)).trans ?_
    refine mj_ite ?_ ?_
    · refine (sx_iinc (v := 1) dx_15_26 rfl rfl rfl).trans ?_
      refine (sx_goto (tgt := 6) dx_15_29 (by decide)).trans ?_
      rfl
    · refine (sx_aload_n dx_15_20 rfl).trans ?_
      refine (sx_iload_n dx_15_21 rfl).trans ?_
      refine (sx_aload_n dx_15_22 rfl).trans ?_
      refine (sx_v2v dx_15_23 ow_15 cx_0_104 ht0 (Nat.le_of_ble_eq_true rfl)).trans ?_
      refine mj_bnd (fun q2 => ?_)
      refine (sx_iinc (v := 1) dx_15_26 rfl rfl rfl).trans ?_
      refine (sx_goto (tgt := 6) dx_15_29 (by decide)).trans ?_
      rfl
  · refine (sx_aload_n dx_15_32 rfl).trans ?_
    refine (sx_dupa dx_15_33).trans ?_
    refine (sx_gfi dx_15_34 ow_15 fx_0_50 (by decide) ht0).trans ?_
    refine (sx_iconst (v := 1) dx_15_37 rfl).trans ?_
    refine (sx_iadd dx_15_38).trans ?_
    refine (sx_pfi dx_15_39 ow_15 fx_0_50 ht0).trans ?_
    refine (sx_iconst (v := 0) dx_15_42 rfl).trans ?_
    refine (sx_istore_n dx_15_43 (Nat.le_of_ble_eq_true rfl) rfl).trans ?_
    rfl
set_option maxRecDepth 10000 in
theorem b_X1_passMoon_44 {sl d : Nat} {M : mj_M} {t0 : Nat} {c1 : Nat} {y2 : Int32} (ht0 : mj_ocl t0 = 0) (hc1 : mj_ocl c1 = 1) : mj_E sl (d + 1) 15 44 [.ref t0, .ref c1, .int y2] [] M = if y2 < 10 then (if mj_rm (M t0 7) 12 = 0 then (if mj_inB y2 10 = true then (if mj_inB y2 10 = true then (mj_E sl (d + 1) 15 44 [.ref t0, .ref c1, .int (y2 + 1)] [] (mj_st M (t0 + 1) (y2 : Int32).toNatClampNeg (mj_mn 99 ((M (t0 + 1) (y2 : Int32).toNatClampNeg) + 1)))) else none) else none) else (some ((0 : Int32), M))) else (some ((0 : Int32), M)) := by
  refine (sx_iload_n dx_15_44 rfl).trans ?_
  refine (sx_bipush (v := 10) dx_15_45 rfl).trans ?_
  refine (sx_icmp_ge (tgt := 85) dx_15_47 (by decide)).trans ?_
  refine mj_ite ?_ ?_
  · refine (sx_aload_n dx_15_50 rfl).trans ?_
    refine (sx_gfi dx_15_51 ow_15 fx_0_50 (by decide) ht0).trans ?_
    refine (sx_bipush (v := 12) dx_15_54 rfl).trans ?_
    refine (sx_irem dx_15_56 (by decide)).trans ?_
    refine (sx_if_ne (tgt := 85) dx_15_57 (by decide)).trans ?_
    refine mj_ite ?_ ?_
    · refine (sx_aload_n dx_15_60 rfl).trans ?_
      refine (sx_gfr dx_15_61 ow_15 fx_0_9 ht0 (rbC_1 ht0)).trans ?_
      refine (sx_iload_n dx_15_64 rfl).trans ?_
      refine (sx_bipush (v := 99) dx_15_65 rfl).trans ?_
      refine (sx_aload_n dx_15_67 rfl).trans ?_
      refine (sx_gfr dx_15_68 ow_15 fx_0_9 ht0 (rbC_1 ht0)).trans ?_
      refine (sx_iload_n dx_15_71 rfl).trans ?_
      refine (sx_ild dx_15_72 (naC_1 ht0) (iaC_1 ht0)).trans ?_
      refine mj_ite ?_ rfl
      refine (sx_iconst (v := 1) dx_15_73 rfl).trans ?_
      refine (sx_iadd dx_15_74).trans ?_
      refine (sx_min dx_15_75 ow_15 cx6_0_108 (Nat.le_of_ble_eq_true rfl)).trans ?_
      refine (sx_ist dx_15_78 (iaC_1 ht0)).trans ?_
      refine mj_ite ?_ rfl
      refine (sx_iinc (v := 1) dx_15_79 rfl rfl rfl).trans ?_
      refine (sx_goto (tgt := 44) dx_15_82 (by decide)).trans ?_
      rfl
    · exact sx_retv dx_15_85 rt_15
  · exact sx_retv dx_15_85 rt_15
theorem dx_16_0 : mj_at 16 0 = some (.aload_n 2) := by decide +kernel
theorem dx_16_1 : mj_at 16 1 = some (.iload_n 1) := by decide +kernel
theorem dx_16_2 : mj_at 16 2 = some (.aload_n 0) := by decide +kernel
theorem dx_16_3 : mj_at 16 3 = some (.getfield 9) := by decide +kernel
theorem dx_16_6 : mj_at 16 6 = some (.iload_n 1) := by decide +kernel
theorem dx_16_7 : mj_at 16 7 = some (.iaload) := by decide +kernel
theorem dx_16_8 : mj_at 16 8 = some (.aload_n 0) := by decide +kernel
theorem dx_16_9 : mj_at 16 9 = some (.getfield 24) := by decide +kernel
theorem dx_16_12 : mj_at 16 12 = some (.iload_n 1) := by decide +kernel
theorem dx_16_13 : mj_at 16 13 = some (.iaload) := by decide +kernel
theorem dx_16_14 : mj_at 16 14 = some (.aload_n 0) := by decide +kernel
theorem dx_16_15 : mj_at 16 15 = some (.getfield 50) := by decide +kernel
theorem dx_16_18 : mj_at 16 18 = some (.bipush 12) := by decide +kernel
theorem dx_16_20 : mj_at 16 20 = some (.irem) := by decide +kernel
theorem dx_16_21 : mj_at 16 21 = some (.invokevirtual 113) := by decide +kernel
theorem dx_16_24 : mj_at 16 24 = some (.aload_n 2) := by decide +kernel
theorem dx_16_25 : mj_at 16 25 = some (.aload_n 0) := by decide +kernel
theorem dx_16_26 : mj_at 16 26 = some (.getfield 15) := by decide +kernel
theorem dx_16_29 : mj_at 16 29 = some (.iload_n 1) := by decide +kernel
theorem dx_16_30 : mj_at 16 30 = some (.iaload) := by decide +kernel
theorem dx_16_31 : mj_at 16 31 = some (.aload_n 0) := by decide +kernel
theorem dx_16_32 : mj_at 16 32 = some (.getfield 21) := by decide +kernel
theorem dx_16_35 : mj_at 16 35 = some (.iload_n 1) := by decide +kernel
theorem dx_16_36 : mj_at 16 36 = some (.iaload) := by decide +kernel
theorem dx_16_37 : mj_at 16 37 = some (.invokevirtual 119) := by decide +kernel
theorem dx_16_40 : mj_at 16 40 = some (.aload_n 2) := by decide +kernel
theorem dx_16_41 : mj_at 16 41 = some (.iconst 0) := by decide +kernel
theorem dx_16_42 : mj_at 16 42 = some (.iconst 0) := by decide +kernel
theorem dx_16_43 : mj_at 16 43 = some (.iconst 0) := by decide +kernel
theorem dx_16_44 : mj_at 16 44 = some (.invokevirtual 123) := by decide +kernel
theorem dx_16_47 : mj_at 16 47 = some (.aload_n 0) := by decide +kernel
theorem dx_16_48 : mj_at 16 48 = some (.getfield 15) := by decide +kernel
theorem dx_16_51 : mj_at 16 51 = some (.iload_n 1) := by decide +kernel
theorem dx_16_52 : mj_at 16 52 = some (.sipush 9999) := by decide +kernel
theorem dx_16_55 : mj_at 16 55 = some (.aload_n 0) := by decide +kernel
theorem dx_16_56 : mj_at 16 56 = some (.getfield 15) := by decide +kernel
theorem dx_16_59 : mj_at 16 59 = some (.iload_n 1) := by decide +kernel
theorem dx_16_60 : mj_at 16 60 = some (.iaload) := by decide +kernel
theorem dx_16_61 : mj_at 16 61 = some (.aload_n 2) := by decide +kernel
theorem dx_16_62 : mj_at 16 62 = some (.bipush 105) := by decide +kernel
theorem dx_16_64 : mj_at 16 64 = some (.bipush 99) := by decide +kernel
theorem dx_16_66 : mj_at 16 66 = some (.invokevirtual 127) := by decide +kernel
theorem dx_16_69 : mj_at 16 69 = some (.iadd) := by decide +kernel
theorem dx_16_70 : mj_at 16 70 = some (.invokestatic 108) := by decide +kernel
theorem dx_16_73 : mj_at 16 73 = some (.iastore) := by decide +kernel
theorem dx_16_74 : mj_at 16 74 = some (.iconst 0) := by decide +kernel
theorem dx_16_75 : mj_at 16 75 = some (.istore_n 3) := by decide +kernel
theorem dx_16_76 : mj_at 16 76 = some (.iload_n 3) := by decide +kernel
theorem dx_16_77 : mj_at 16 77 = some (.bipush 8) := by decide +kernel
theorem dx_16_79 : mj_at 16 79 = some (.if_icmp .ge 27) := by decide +kernel
theorem dx_16_82 : mj_at 16 82 = some (.aload_n 0) := by decide +kernel
theorem dx_16_83 : mj_at 16 83 = some (.getfield 31) := by decide +kernel
theorem dx_16_86 : mj_at 16 86 = some (.iload_n 3) := by decide +kernel
theorem dx_16_87 : mj_at 16 87 = some (.invokevirtual 67) := by decide +kernel
theorem dx_16_90 : mj_at 16 90 = some (.ifCond .eq 10) := by decide +kernel
theorem dx_16_93 : mj_at 16 93 = some (.aload_n 0) := by decide +kernel
theorem dx_16_94 : mj_at 16 94 = some (.iload_n 1) := by decide +kernel
theorem dx_16_95 : mj_at 16 95 = some (.iload_n 3) := by decide +kernel
theorem dx_16_96 : mj_at 16 96 = some (.aload_n 2) := by decide +kernel
theorem dx_16_97 : mj_at 16 97 = some (.invokevirtual 130) := by decide +kernel
theorem dx_16_100 : mj_at 16 100 = some (.iinc 3 1) := by decide +kernel
theorem dx_16_103 : mj_at 16 103 = some (.goto (-27)) := by decide +kernel
theorem dx_16_106 : mj_at 16 106 = some (.return_) := by decide +kernel
set_option maxRecDepth 10000 in
theorem b_X1_takeTurn {sl d : Nat} {M : mj_M} {t0 : Nat} {x1 : Int32} {c2 : Nat} (ht0 : mj_ocl t0 = 0) (hc2 : mj_ocl c2 = 1) : mj_C sl (d + 1) 16 [.ref t0, .int x1, .ref c2] M = if mj_inB x1 10 = true then (if mj_inB x1 10 = true then ((mj_C sl d 34 [.ref c2, .int x1, .int (M (t0 + 1) (x1 : Int32).toNatClampNeg), .int (M (t0 + 5) (x1 : Int32).toNatClampNeg), .int (mj_rm (M t0 7) 12)] M).bind (fun q1 => if mj_inB x1 10 = true then (if mj_inB x1 10 = true then ((mj_C sl d 35 [.ref c2, .int (q1.2 (t0 + 2) (x1 : Int32).toNatClampNeg), .int (q1.2 (t0 + 4) (x1 : Int32).toNatClampNeg)] q1.2).bind (fun q2 => (mj_C sl d 36 [.ref c2, .int 0, .int 0, .int 0] q2.2).bind (fun q3 => if mj_inB x1 10 = true then ((mj_C sl d 37 [.ref c2, .int 105, .int 99] q3.2).bind (fun q4 => if mj_inB x1 10 = true then (mj_E sl (d + 1) 16 76 [.ref t0, .int x1, .ref c2, .int 0] [] (mj_st q4.2 (t0 + 2) (x1 : Int32).toNatClampNeg (mj_mn 9999 ((q3.2 (t0 + 2) (x1 : Int32).toNatClampNeg) + q4.1)))) else none)) else none))) else none) else none)) else none) else none := by
  show mj_E sl (d + 1) 16 0 [.ref t0, .int x1, .ref c2, .null] [] M = _
  refine (sx_aload_n dx_16_0 rfl).trans ?_
  refine (sx_iload_n dx_16_1 rfl).trans ?_
  refine (sx_aload_n dx_16_2 rfl).trans ?_
  refine (sx_gfr dx_16_3 ow_16 fx_0_9 ht0 (rbC_1 ht0)).trans ?_
  refine (sx_iload_n dx_16_6 rfl).trans ?_
  refine (sx_ild dx_16_7 (naC_1 ht0) (iaC_1 ht0)).trans ?_
  refine mj_ite ?_ rfl
  refine (sx_aload_n dx_16_8 rfl).trans ?_
  refine (sx_gfr dx_16_9 ow_16 fx_0_24 ht0 (rbC_5 ht0)).trans ?_
  refine (sx_iload_n dx_16_12 rfl).trans ?_
  refine (sx_ild dx_16_13 (naC_5 ht0) (iaC_5 ht0)).trans ?_
  refine mj_ite ?_ rfl
  refine (sx_aload_n dx_16_14 rfl).trans ?_
  refine (sx_gfi dx_16_15 ow_16 fx_0_50 (by decide) ht0).trans ?_
  refine (sx_bipush (v := 12) dx_16_18 rfl).trans ?_
  refine (sx_irem dx_16_20 (by decide)).trans ?_
  refine (sx_v4v dx_16_21 ow_16 cx_0_113 hc2 (Nat.le_of_ble_eq_true rfl)).trans ?_
  refine mj_bnd (fun q1 => ?_)
  refine (sx_aload_n dx_16_24 rfl).trans ?_
  refine (sx_aload_n dx_16_25 rfl).trans ?_
  refine (sx_gfr dx_16_26 ow_16 fx_0_15 ht0 (rbC_2 ht0)).trans ?_
  refine (sx_iload_n dx_16_29 rfl).trans ?_
  refine (sx_ild dx_16_30 (naC_2 ht0) (iaC_2 ht0)).trans ?_
  refine mj_ite ?_ rfl
  refine (sx_aload_n dx_16_31 rfl).trans ?_
  refine (sx_gfr dx_16_32 ow_16 fx_0_21 ht0 (rbC_4 ht0)).trans ?_
  refine (sx_iload_n dx_16_35 rfl).trans ?_
  refine (sx_ild dx_16_36 (naC_4 ht0) (iaC_4 ht0)).trans ?_
  refine mj_ite ?_ rfl
  refine (sx_v2v dx_16_37 ow_16 cx_0_119 hc2 (Nat.le_of_ble_eq_true rfl)).trans ?_
  refine mj_bnd (fun q2 => ?_)
  refine (sx_aload_n dx_16_40 rfl).trans ?_
  refine (sx_iconst (v := 0) dx_16_41 rfl).trans ?_
  refine (sx_iconst (v := 0) dx_16_42 rfl).trans ?_
  refine (sx_iconst (v := 0) dx_16_43 rfl).trans ?_
  refine (sx_v3v dx_16_44 ow_16 cx_0_123 hc2 (Nat.le_of_ble_eq_true rfl)).trans ?_
  refine mj_bnd (fun q3 => ?_)
  refine (sx_aload_n dx_16_47 rfl).trans ?_
  refine (sx_gfr dx_16_48 ow_16 fx_0_15 ht0 (rbC_2 ht0)).trans ?_
  refine (sx_iload_n dx_16_51 rfl).trans ?_
  refine (sx_sipush (v := 9999) dx_16_52 rfl).trans ?_
  refine (sx_aload_n dx_16_55 rfl).trans ?_
  refine (sx_gfr dx_16_56 ow_16 fx_0_15 ht0 (rbC_2 ht0)).trans ?_
  refine (sx_iload_n dx_16_59 rfl).trans ?_
  refine (sx_ild dx_16_60 (naC_2 ht0) (iaC_2 ht0)).trans ?_
  refine mj_ite ?_ rfl
  refine (sx_aload_n dx_16_61 rfl).trans ?_
  refine (sx_bipush (v := 105) dx_16_62 rfl).trans ?_
  refine (sx_bipush (v := 99) dx_16_64 rfl).trans ?_
  refine (sx_v2i dx_16_66 ow_16 cx_0_127 hc2 (Nat.le_of_ble_eq_true rfl)).trans ?_
  refine mj_bnd (fun q4 => ?_)
  refine (sx_iadd dx_16_69).trans ?_
  refine (sx_min dx_16_70 ow_16 cx6_0_108 (Nat.le_of_ble_eq_true rfl)).trans ?_
  refine (sx_ist dx_16_73 (iaC_2 ht0)).trans ?_
  refine mj_ite ?_ rfl
  refine (sx_iconst (v := 0) dx_16_74 rfl).trans ?_
  refine (sx_istore_n dx_16_75 (Nat.le_of_ble_eq_true rfl) rfl).trans ?_
  rfl
set_option maxRecDepth 10000 in
theorem b_X1_takeTurn_76 {sl d : Nat} {M : mj_M} {t0 : Nat} {c2 : Nat} {y1 : Int32} {y3 : Int32} (ht0 : mj_ocl t0 = 0) (hc2 : mj_ocl c2 = 1) : mj_E sl (d + 1) 16 76 [.ref t0, .int y1, .ref c2, .int y3] [] M = if y3 < 8 then ((mj_C sl d 62 [.ref 1, .int y3] M).bind (fun q1 => if q1.1 = 0 then (mj_E sl (d + 1) 16 76 [.ref t0, .int y1, .ref c2, .int (y3 + 1)] [] q1.2) else ((mj_C sl d 17 [.ref t0, .int y1, .int y3, .ref c2] q1.2).bind (fun q2 => mj_E sl (d + 1) 16 76 [.ref t0, .int y1, .ref c2, .int (y3 + 1)] [] q2.2)))) else (some ((0 : Int32), M)) := by
  refine (sx_iload_n dx_16_76 rfl).trans ?_
  refine (sx_bipush (v := 8) dx_16_77 rfl).trans ?_
  refine (sx_icmp_ge (tgt := 106) dx_16_79 (by decide)).trans ?_
  refine mj_ite ?_ ?_
  · refine (sx_aload_n dx_16_82 rfl).trans ?_
    refine (sx_gfr dx_16_83 ow_16 fx_0_31 ht0 (rbC_0 ht0)).trans ?_
    refine (sx_iload_n dx_16_86 rfl).trans ?_
    refine (sx_v1i dx_16_87 ow_16 cx_0_67 oc_1 (Nat.le_of_ble_eq_true rfl)).trans ?_
    refine mj_bnd (fun q1 => ?_)
    refine (sx_if_eq (tgt := 100) dx_16_90 (by decide)).trans ?_
    refine mj_ite ?_ ?_
    · refine (sx_iinc (v := 1) dx_16_100 rfl rfl rfl).trans ?_
      refine (sx_goto (tgt := 76) dx_16_103 (by decide)).trans ?_
      rfl
    · refine (sx_aload_n dx_16_93 rfl).trans ?_
      refine (sx_iload_n dx_16_94 rfl).trans ?_
      refine (sx_iload_n dx_16_95 rfl).trans ?_
      refine (sx_aload_n dx_16_96 rfl).trans ?_
      refine (sx_v3v dx_16_97 ow_16 cx_0_130 ht0 (Nat.le_of_ble_eq_true rfl)).trans ?_
      refine mj_bnd (fun q2 => ?_)
      refine (sx_iinc (v := 1) dx_16_100 rfl rfl rfl).trans ?_
      refine (sx_goto (tgt := 76) dx_16_103 (by decide)).trans ?_
      rfl
  · exact sx_retv dx_16_106 rt_16
theorem dx_17_0 : mj_at 17 0 = some (.aload_n 0) := by decide +kernel
theorem dx_17_1 : mj_at 17 1 = some (.iload_n 1) := by decide +kernel
theorem dx_17_2 : mj_at 17 2 = some (.iload_n 2) := by decide +kernel
theorem dx_17_3 : mj_at 17 3 = some (.invokevirtual 71) := by decide +kernel
theorem dx_17_6 : mj_at 17 6 = some (.istore 4) := by decide +kernel
theorem dx_17_8 : mj_at 17 8 = some (.iload 4) := by decide +kernel
theorem dx_17_10 : mj_at 17 10 = some (.invokestatic 61) := by decide +kernel
theorem dx_17_13 : mj_at 17 13 = some (.istore 5) := by decide +kernel
theorem dx_17_15 : mj_at 17 15 = some (.aload_n 3) := by decide +kernel
theorem dx_17_16 : mj_at 17 16 = some (.aload_n 0) := by decide +kernel
theorem dx_17_17 : mj_at 17 17 = some (.getfield 15) := by decide +kernel
theorem dx_17_20 : mj_at 17 20 = some (.iload_n 1) := by decide +kernel
theorem dx_17_21 : mj_at 17 21 = some (.iaload) := by decide +kernel
theorem dx_17_22 : mj_at 17 22 = some (.aload_n 0) := by decide +kernel
theorem dx_17_23 : mj_at 17 23 = some (.getfield 21) := by decide +kernel
theorem dx_17_26 : mj_at 17 26 = some (.iload_n 1) := by decide +kernel
theorem dx_17_27 : mj_at 17 27 = some (.iaload) := by decide +kernel
theorem dx_17_28 : mj_at 17 28 = some (.invokevirtual 119) := by decide +kernel
theorem dx_17_31 : mj_at 17 31 = some (.aload_n 3) := by decide +kernel
theorem dx_17_32 : mj_at 17 32 = some (.iload_n 2) := by decide +kernel
theorem dx_17_33 : mj_at 17 33 = some (.iload 4) := by decide +kernel
theorem dx_17_35 : mj_at 17 35 = some (.aload_n 0) := by decide +kernel
theorem dx_17_36 : mj_at 17 36 = some (.getfield 31) := by decide +kernel
theorem dx_17_39 : mj_at 17 39 = some (.getfield 56) := by decide +kernel
theorem dx_17_42 : mj_at 17 42 = some (.iload_n 2) := by decide +kernel
theorem dx_17_43 : mj_at 17 43 = some (.iaload) := by decide +kernel
theorem dx_17_44 : mj_at 17 44 = some (.ixor) := by decide +kernel
theorem dx_17_45 : mj_at 17 45 = some (.invokestatic 61) := by decide +kernel
theorem dx_17_48 : mj_at 17 48 = some (.iload 5) := by decide +kernel
theorem dx_17_50 : mj_at 17 50 = some (.invokevirtual 123) := by decide +kernel
theorem dx_17_53 : mj_at 17 53 = some (.aload_n 0) := by decide +kernel
theorem dx_17_54 : mj_at 17 54 = some (.getfield 15) := by decide +kernel
theorem dx_17_57 : mj_at 17 57 = some (.iload_n 1) := by decide +kernel
theorem dx_17_58 : mj_at 17 58 = some (.iaload) := by decide +kernel
theorem dx_17_59 : mj_at 17 59 = some (.iload 5) := by decide +kernel
theorem dx_17_61 : mj_at 17 61 = some (.if_icmp .lt 10) := by decide +kernel
theorem dx_17_64 : mj_at 17 64 = some (.aload_n 3) := by decide +kernel
theorem dx_17_65 : mj_at 17 65 = some (.invokevirtual 134) := by decide +kernel
theorem dx_17_68 : mj_at 17 68 = some (.ifCond .eq 4) := by decide +kernel
theorem dx_17_71 : mj_at 17 71 = some (.return_) := by decide +kernel
theorem dx_17_72 : mj_at 17 72 = some (.aload_n 3) := by decide +kernel
theorem dx_17_73 : mj_at 17 73 = some (.bipush 112) := by decide +kernel
theorem dx_17_75 : mj_at 17 75 = some (.bipush 10) := by decide +kernel
theorem dx_17_77 : mj_at 17 77 = some (.invokevirtual 127) := by decide +kernel
theorem dx_17_80 : mj_at 17 80 = some (.istore 6) := by decide +kernel
theorem dx_17_82 : mj_at 17 82 = some (.aload_n 3) := by decide +kernel
theorem dx_17_83 : mj_at 17 83 = some (.bipush 119) := by decide +kernel
theorem dx_17_85 : mj_at 17 85 = some (.bipush 10) := by decide +kernel
theorem dx_17_87 : mj_at 17 87 = some (.invokevirtual 127) := by decide +kernel
theorem dx_17_90 : mj_at 17 90 = some (.istore 7) := by decide +kernel
theorem dx_17_92 : mj_at 17 92 = some (.aload_n 0) := by decide +kernel
theorem dx_17_93 : mj_at 17 93 = some (.getfield 15) := by decide +kernel
theorem dx_17_96 : mj_at 17 96 = some (.iload_n 1) := by decide +kernel
theorem dx_17_97 : mj_at 17 97 = some (.dup2) := by decide +kernel
theorem dx_17_98 : mj_at 17 98 = some (.iaload) := by decide +kernel
theorem dx_17_99 : mj_at 17 99 = some (.iload 5) := by decide +kernel
theorem dx_17_101 : mj_at 17 101 = some (.isub) := by decide +kernel
theorem dx_17_102 : mj_at 17 102 = some (.iastore) := by decide +kernel
theorem dx_17_103 : mj_at 17 103 = some (.aload_n 0) := by decide +kernel
theorem dx_17_104 : mj_at 17 104 = some (.dup) := by decide +kernel
theorem dx_17_105 : mj_at 17 105 = some (.getfield 97) := by decide +kernel
theorem dx_17_108 : mj_at 17 108 = some (.iload 5) := by decide +kernel
theorem dx_17_110 : mj_at 17 110 = some (.iadd) := by decide +kernel
theorem dx_17_111 : mj_at 17 111 = some (.putfield 97) := by decide +kernel
theorem dx_17_114 : mj_at 17 114 = some (.aload_n 0) := by decide +kernel
theorem dx_17_115 : mj_at 17 115 = some (.invokevirtual 138) := by decide +kernel
theorem dx_17_118 : mj_at 17 118 = some (.iload 6) := by decide +kernel
theorem dx_17_120 : mj_at 17 120 = some (.if_icmp .ge 9) := by decide +kernel
theorem dx_17_123 : mj_at 17 123 = some (.aload_n 0) := by decide +kernel
theorem dx_17_124 : mj_at 17 124 = some (.iload_n 1) := by decide +kernel
theorem dx_17_125 : mj_at 17 125 = some (.iload_n 2) := by decide +kernel
theorem dx_17_126 : mj_at 17 126 = some (.invokevirtual 142) := by decide +kernel
theorem dx_17_129 : mj_at 17 129 = some (.aload_n 0) := by decide +kernel
theorem dx_17_130 : mj_at 17 130 = some (.invokevirtual 138) := by decide +kernel
theorem dx_17_133 : mj_at 17 133 = some (.iload 7) := by decide +kernel
theorem dx_17_135 : mj_at 17 135 = some (.if_icmp .ge 62) := by decide +kernel
theorem dx_17_138 : mj_at 17 138 = some (.aload_n 0) := by decide +kernel
theorem dx_17_139 : mj_at 17 139 = some (.invokevirtual 138) := by decide +kernel
theorem dx_17_142 : mj_at 17 142 = some (.istore 8) := by decide +kernel
theorem dx_17_144 : mj_at 17 144 = some (.bipush 10) := by decide +kernel
theorem dx_17_146 : mj_at 17 146 = some (.iload 8) := by decide +kernel
theorem dx_17_148 : mj_at 17 148 = some (.imul) := by decide +kernel
theorem dx_17_149 : mj_at 17 149 = some (.aload_n 0) := by decide +kernel
theorem dx_17_150 : mj_at 17 150 = some (.invokevirtual 138) := by decide +kernel
theorem dx_17_153 : mj_at 17 153 = some (.iadd) := by decide +kernel
theorem dx_17_154 : mj_at 17 154 = some (.bipush 25) := by decide +kernel
theorem dx_17_156 : mj_at 17 156 = some (.irem) := by decide +kernel
theorem dx_17_157 : mj_at 17 157 = some (.istore 9) := by decide +kernel
theorem dx_17_159 : mj_at 17 159 = some (.aload_n 0) := by decide +kernel
theorem dx_17_160 : mj_at 17 160 = some (.iload_n 1) := by decide +kernel
theorem dx_17_161 : mj_at 17 161 = some (.iload_n 2) := by decide +kernel
theorem dx_17_162 : mj_at 17 162 = some (.aload_n 0) := by decide +kernel
theorem dx_17_163 : mj_at 17 163 = some (.iload_n 1) := by decide +kernel
theorem dx_17_164 : mj_at 17 164 = some (.iload_n 2) := by decide +kernel
theorem dx_17_165 : mj_at 17 165 = some (.invokevirtual 71) := by decide +kernel
theorem dx_17_168 : mj_at 17 168 = some (.iconst 1) := by decide +kernel
theorem dx_17_169 : mj_at 17 169 = some (.iload 9) := by decide +kernel
theorem dx_17_171 : mj_at 17 171 = some (.ishl) := by decide +kernel
theorem dx_17_172 : mj_at 17 172 = some (.ixor) := by decide +kernel
theorem dx_17_173 : mj_at 17 173 = some (.invokevirtual 145) := by decide +kernel
theorem dx_17_176 : mj_at 17 176 = some (.aload_n 0) := by decide +kernel
theorem dx_17_177 : mj_at 17 177 = some (.getfield 21) := by decide +kernel
theorem dx_17_180 : mj_at 17 180 = some (.iload_n 1) := by decide +kernel
theorem dx_17_181 : mj_at 17 181 = some (.aload_n 0) := by decide +kernel
theorem dx_17_182 : mj_at 17 182 = some (.iload_n 1) := by decide +kernel
theorem dx_17_183 : mj_at 17 183 = some (.invokevirtual 80) := by decide +kernel
theorem dx_17_186 : mj_at 17 186 = some (.iastore) := by decide +kernel
theorem dx_17_187 : mj_at 17 187 = some (.aload_n 0) := by decide +kernel
theorem dx_17_188 : mj_at 17 188 = some (.dup) := by decide +kernel
theorem dx_17_189 : mj_at 17 189 = some (.getfield 94) := by decide +kernel
theorem dx_17_192 : mj_at 17 192 = some (.iconst 1) := by decide +kernel
theorem dx_17_193 : mj_at 17 193 = some (.iadd) := by decide +kernel
theorem dx_17_194 : mj_at 17 194 = some (.putfield 94) := by decide +kernel
theorem dx_17_197 : mj_at 17 197 = some (.return_) := by decide +kernel
set_option maxRecDepth 10000 in
theorem b_X1_practise {sl d : Nat} {M : mj_M} {t0 : Nat} {x1 : Int32} {x2 : Int32} {c3 : Nat} (ht0 : mj_ocl t0 = 0) (hc3 : mj_ocl c3 = 1) : mj_C sl (d + 1) 17 [.ref t0, .int x1, .int x2, .ref c3] M = (mj_C sl d 8 [.ref t0, .int x1, .int x2] M).bind (fun q1 => (mj_C sl d 229 [.int q1.1] q1.2).bind (fun q2 => if mj_inB x1 10 = true then (if mj_inB x1 10 = true then ((mj_C sl d 35 [.ref c3, .int (q2.2 (t0 + 2) (x1 : Int32).toNatClampNeg), .int (q2.2 (t0 + 4) (x1 : Int32).toNatClampNeg)] q2.2).bind (fun q3 => if mj_inB x2 8 = true then ((mj_C sl d 229 [.int (q1.1 ^^^ (q3.2 2 (x2 : Int32).toNatClampNeg))] q3.2).bind (fun q4 => (mj_C sl d 36 [.ref c3, .int x2, .int q4.1, .int q2.1] q4.2).bind (fun q5 => if mj_inB x1 10 = true then (if q5.2 (t0 + 2) (x1 : Int32).toNatClampNeg < q2.1 then (some ((0 : Int32), q5.2)) else ((mj_C sl d 38 [.ref c3] q5.2).bind (fun q6 => if q6.1 = 0 then ((mj_C sl d 37 [.ref c3, .int 112, .int 10] q6.2).bind (fun q7 => (mj_C sl d 37 [.ref c3, .int 119, .int 10] q7.2).bind (fun q8 => if mj_inB x1 10 = true then (if mj_inB x1 10 = true then ((mj_C sl d 19 [.ref t0] (mj_st (mj_st q8.2 (t0 + 2) (x1 : Int32).toNatClampNeg ((q8.2 (t0 + 2) (x1 : Int32).toNatClampNeg) - q2.1)) t0 11 (((mj_st q8.2 (t0 + 2) (x1 : Int32).toNatClampNeg ((q8.2 (t0 + 2) (x1 : Int32).toNatClampNeg) - q2.1)) t0 11) + q2.1))).bind (fun q9 => if q9.1 < q7.1 then ((mj_C sl d 18 [.ref t0, .int x1, .int x2] q9.2).bind (fun q10 => mj_E sl (d + 1) 17 129 [.ref t0, .int x1, .int x2, .ref c3, .int q1.1, .int q2.1, .int q7.1, .int q8.1, .null, .null] [] q10.2)) else (mj_E sl (d + 1) 17 129 [.ref t0, .int x1, .int x2, .ref c3, .int q1.1, .int q2.1, .int q7.1, .int q8.1, .null, .null] [] q9.2))) else none) else none))) else (some ((0 : Int32), q6.2))))) else none))) else none)) else none) else none)) := by
  show mj_E sl (d + 1) 17 0 [.ref t0, .int x1, .int x2, .ref c3, .null, .null, .null, .null, .null, .null] [] M = _
  refine (sx_aload_n dx_17_0 rfl).trans ?_
  refine (sx_iload_n dx_17_1 rfl).trans ?_
  refine (sx_iload_n dx_17_2 rfl).trans ?_
  refine (sx_v2i dx_17_3 ow_17 cx_0_71 ht0 (Nat.le_of_ble_eq_true rfl)).trans ?_
  refine mj_bnd (fun q1 => ?_)
  refine (sx_istore dx_17_6 (Nat.le_of_ble_eq_true rfl) rfl).trans ?_
  refine (sx_iload dx_17_8 rfl).trans ?_
  refine (sx_s1i dx_17_10 ow_17 cx_0_61 (Nat.le_of_ble_eq_true rfl)).trans ?_
  refine mj_bnd (fun q2 => ?_)
  refine (sx_istore dx_17_13 (Nat.le_of_ble_eq_true rfl) rfl).trans ?_
  refine (sx_aload_n dx_17_15 rfl).trans ?_
  refine (sx_aload_n dx_17_16 rfl).trans ?_
  refine (sx_gfr dx_17_17 ow_17 fx_0_15 ht0 (rbC_2 ht0)).trans ?_
  refine (sx_iload_n dx_17_20 rfl).trans ?_
  refine (sx_ild dx_17_21 (naC_2 ht0) (iaC_2 ht0)).trans ?_
  refine mj_ite ?_ rfl
  refine (sx_aload_n dx_17_22 rfl).trans ?_
  refine (sx_gfr dx_17_23 ow_17 fx_0_21 ht0 (rbC_4 ht0)).trans ?_
  refine (sx_iload_n dx_17_26 rfl).trans ?_
  refine (sx_ild dx_17_27 (naC_4 ht0) (iaC_4 ht0)).trans ?_
  refine mj_ite ?_ rfl
  refine (sx_v2v dx_17_28 ow_17 cx_0_119 hc3 (Nat.le_of_ble_eq_true rfl)).trans ?_
  refine mj_bnd (fun q3 => ?_)
  refine (sx_aload_n dx_17_31 rfl).trans ?_
  refine (sx_iload_n dx_17_32 rfl).trans ?_
  refine (sx_iload dx_17_33 rfl).trans ?_
  refine (sx_aload_n dx_17_35 rfl).trans ?_
  refine (sx_gfr dx_17_36 ow_17 fx_0_31 ht0 (rbC_0 ht0)).trans ?_
  refine (sx_gfr dx_17_39 ow_17 fx_0_56 oc_1 rb_1_0).trans ?_
  refine (sx_iload_n dx_17_42 rfl).trans ?_
  refine (sx_ild dx_17_43 (by decide) ia_2).trans ?_
  refine mj_ite ?_ rfl
  refine (sx_ixor dx_17_44).trans ?_
  refine (sx_s1i dx_17_45 ow_17 cx_0_61 (Nat.le_of_ble_eq_true rfl)).trans ?_
  refine mj_bnd (fun q4 => ?_)
  refine (sx_iload dx_17_48 rfl).trans ?_
  refine (sx_v3v dx_17_50 ow_17 cx_0_123 hc3 (Nat.le_of_ble_eq_true rfl)).trans ?_
  refine mj_bnd (fun q5 => ?_)
  refine (sx_aload_n dx_17_53 rfl).trans ?_
  refine (sx_gfr dx_17_54 ow_17 fx_0_15 ht0 (rbC_2 ht0)).trans ?_
  refine (sx_iload_n dx_17_57 rfl).trans ?_
  refine (sx_ild dx_17_58 (naC_2 ht0) (iaC_2 ht0)).trans ?_
  refine mj_ite ?_ rfl
  refine (sx_iload dx_17_59 rfl).trans ?_
  refine (sx_icmp_lt (tgt := 71) dx_17_61 (by decide)).trans ?_
  refine mj_ite ?_ ?_
  · exact sx_retv dx_17_71 rt_17
  · refine (sx_aload_n dx_17_64 rfl).trans ?_
    refine (sx_v0i dx_17_65 ow_17 cx_0_134 hc3 (Nat.le_of_ble_eq_true rfl)).trans ?_
    refine mj_bnd (fun q6 => ?_)
    refine (sx_if_eq (tgt := 72) dx_17_68 (by decide)).trans ?_
    refine mj_ite ?_ ?_
    · refine (sx_aload_n dx_17_72 rfl).trans ?_
      refine (sx_bipush (v := 112) dx_17_73 rfl).trans ?_
      refine (sx_bipush (v := 10) dx_17_75 rfl).trans ?_
      refine (sx_v2i dx_17_77 ow_17 cx_0_127 hc3 (Nat.le_of_ble_eq_true rfl)).trans ?_
      refine mj_bnd (fun q7 => ?_)
      refine (sx_istore dx_17_80 (Nat.le_of_ble_eq_true rfl) rfl).trans ?_
      refine (sx_aload_n dx_17_82 rfl).trans ?_
      refine (sx_bipush (v := 119) dx_17_83 rfl).trans ?_
      refine (sx_bipush (v := 10) dx_17_85 rfl).trans ?_
      refine (sx_v2i dx_17_87 ow_17 cx_0_127 hc3 (Nat.le_of_ble_eq_true rfl)).trans ?_
      refine mj_bnd (fun q8 => ?_)
      refine (sx_istore dx_17_90 (Nat.le_of_ble_eq_true rfl) rfl).trans ?_
      refine (sx_aload_n dx_17_92 rfl).trans ?_
      refine (sx_gfr dx_17_93 ow_17 fx_0_15 ht0 (rbC_2 ht0)).trans ?_
      refine (sx_iload_n dx_17_96 rfl).trans ?_
      refine (sx_dup2 dx_17_97).trans ?_
      refine (sx_ild dx_17_98 (naC_2 ht0) (iaC_2 ht0)).trans ?_
      refine mj_ite ?_ rfl
      refine (sx_iload dx_17_99 rfl).trans ?_
      refine (sx_isub dx_17_101).trans ?_
      refine (sx_ist dx_17_102 (iaC_2 ht0)).trans ?_
      refine mj_ite ?_ rfl
      refine (sx_aload_n dx_17_103 rfl).trans ?_
      refine (sx_dupa dx_17_104).trans ?_
      refine (sx_gfi dx_17_105 ow_17 fx_0_97 (by decide) ht0).trans ?_
      refine (sx_iload dx_17_108 rfl).trans ?_
      refine (sx_iadd dx_17_110).trans ?_
      refine (sx_pfi dx_17_111 ow_17 fx_0_97 ht0).trans ?_
      refine (sx_aload_n dx_17_114 rfl).trans ?_
      refine (sx_v0i dx_17_115 ow_17 cx_0_138 ht0 (Nat.le_of_ble_eq_true rfl)).trans ?_
      refine mj_bnd (fun q9 => ?_)
      refine (sx_iload dx_17_118 rfl).trans ?_
      refine (sx_icmp_ge (tgt := 129) dx_17_120 (by decide)).trans ?_
      refine mj_ite ?_ ?_
      · refine (sx_aload_n dx_17_123 rfl).trans ?_
        refine (sx_iload_n dx_17_124 rfl).trans ?_
        refine (sx_iload_n dx_17_125 rfl).trans ?_
        refine (sx_v2v dx_17_126 ow_17 cx_0_142 ht0 (Nat.le_of_ble_eq_true rfl)).trans ?_
        refine mj_bnd (fun q10 => ?_)
        rfl
      · rfl
    · exact sx_retv dx_17_71 rt_17
set_option maxRecDepth 10000 in
theorem b_X1_practise_129 {sl d : Nat} {M : mj_M} {t0 : Nat} {c3 : Nat} {y1 : Int32} {y2 : Int32} {w4 : Value} {w5 : Value} {w6 : Value} {y7 : Int32} {w8 : Value} {w9 : Value} (ht0 : mj_ocl t0 = 0) (hc3 : mj_ocl c3 = 1) : mj_E sl (d + 1) 17 129 [.ref t0, .int y1, .int y2, .ref c3, w4, w5, w6, .int y7, w8, w9] [] M = (mj_C sl d 19 [.ref t0] M).bind (fun q1 => if q1.1 < y7 then ((mj_C sl d 19 [.ref t0] q1.2).bind (fun q2 => (mj_C sl d 19 [.ref t0] q2.2).bind (fun q3 => (mj_C sl d 8 [.ref t0, .int y1, .int y2] q3.2).bind (fun q4 => (mj_C sl d 7 [.ref t0, .int y1, .int y2, .int (q4.1 ^^^ ((1 : Int32) <<< ((mj_rm (((10 : Int32) * q2.1) + q3.1) 25) &&& 31)))] q4.2).bind (fun q5 => (mj_C sl d 9 [.ref t0, .int y1] q5.2).bind (fun q6 => if mj_inB y1 10 = true then (some ((0 : Int32), mj_st (mj_st q6.2 (t0 + 4) (y1 : Int32).toNatClampNeg q6.1) t0 10 (((mj_st q6.2 (t0 + 4) (y1 : Int32).toNatClampNeg q6.1) t0 10) + 1))) else none)))))) else (some ((0 : Int32), q1.2))) := by
  refine (sx_aload_n dx_17_129 rfl).trans ?_
  refine (sx_v0i dx_17_130 ow_17 cx_0_138 ht0 (Nat.le_of_ble_eq_true rfl)).trans ?_
  refine mj_bnd (fun q1 => ?_)
  refine (sx_iload dx_17_133 rfl).trans ?_
  refine (sx_icmp_ge (tgt := 197) dx_17_135 (by decide)).trans ?_
  refine mj_ite ?_ ?_
  · refine (sx_aload_n dx_17_138 rfl).trans ?_
    refine (sx_v0i dx_17_139 ow_17 cx_0_138 ht0 (Nat.le_of_ble_eq_true rfl)).trans ?_
    refine mj_bnd (fun q2 => ?_)
    refine (sx_istore dx_17_142 (Nat.le_of_ble_eq_true rfl) rfl).trans ?_
    refine (sx_bipush (v := 10) dx_17_144 rfl).trans ?_
    refine (sx_iload dx_17_146 rfl).trans ?_
    refine (sx_imul dx_17_148).trans ?_
    refine (sx_aload_n dx_17_149 rfl).trans ?_
    refine (sx_v0i dx_17_150 ow_17 cx_0_138 ht0 (Nat.le_of_ble_eq_true rfl)).trans ?_
    refine mj_bnd (fun q3 => ?_)
    refine (sx_iadd dx_17_153).trans ?_
    refine (sx_bipush (v := 25) dx_17_154 rfl).trans ?_
    refine (sx_irem dx_17_156 (by decide)).trans ?_
    refine (sx_istore dx_17_157 (Nat.le_of_ble_eq_true rfl) rfl).trans ?_
    refine (sx_aload_n dx_17_159 rfl).trans ?_
    refine (sx_iload_n dx_17_160 rfl).trans ?_
    refine (sx_iload_n dx_17_161 rfl).trans ?_
    refine (sx_aload_n dx_17_162 rfl).trans ?_
    refine (sx_iload_n dx_17_163 rfl).trans ?_
    refine (sx_iload_n dx_17_164 rfl).trans ?_
    refine (sx_v2i dx_17_165 ow_17 cx_0_71 ht0 (Nat.le_of_ble_eq_true rfl)).trans ?_
    refine mj_bnd (fun q4 => ?_)
    refine (sx_iconst (v := 1) dx_17_168 rfl).trans ?_
    refine (sx_iload dx_17_169 rfl).trans ?_
    refine (sx_ishl dx_17_171).trans ?_
    refine (sx_ixor dx_17_172).trans ?_
    refine (sx_v3v dx_17_173 ow_17 cx_0_145 ht0 (Nat.le_of_ble_eq_true rfl)).trans ?_
    refine mj_bnd (fun q5 => ?_)
    refine (sx_aload_n dx_17_176 rfl).trans ?_
    refine (sx_gfr dx_17_177 ow_17 fx_0_21 ht0 (rbC_4 ht0)).trans ?_
    refine (sx_iload_n dx_17_180 rfl).trans ?_
    refine (sx_aload_n dx_17_181 rfl).trans ?_
    refine (sx_iload_n dx_17_182 rfl).trans ?_
    refine (sx_v1i dx_17_183 ow_17 cx_0_80 ht0 (Nat.le_of_ble_eq_true rfl)).trans ?_
    refine mj_bnd (fun q6 => ?_)
    refine (sx_ist dx_17_186 (iaC_4 ht0)).trans ?_
    refine mj_ite ?_ rfl
    refine (sx_aload_n dx_17_187 rfl).trans ?_
    refine (sx_dupa dx_17_188).trans ?_
    refine (sx_gfi dx_17_189 ow_17 fx_0_94 (by decide) ht0).trans ?_
    refine (sx_iconst (v := 1) dx_17_192 rfl).trans ?_
    refine (sx_iadd dx_17_193).trans ?_
    refine (sx_pfi dx_17_194 ow_17 fx_0_94 ht0).trans ?_
    exact sx_retv dx_17_197 rt_17
  · exact sx_retv dx_17_197 rt_17
theorem dx_18_0 : mj_at 18 0 = some (.aload_n 0) := by decide +kernel
theorem dx_18_1 : mj_at 18 1 = some (.iload_n 1) := by decide +kernel
theorem dx_18_2 : mj_at 18 2 = some (.iload_n 2) := by decide +kernel
theorem dx_18_3 : mj_at 18 3 = some (.invokevirtual 71) := by decide +kernel
theorem dx_18_6 : mj_at 18 6 = some (.istore_n 3) := by decide +kernel
theorem dx_18_7 : mj_at 18 7 = some (.iload_n 3) := by decide +kernel
theorem dx_18_8 : mj_at 18 8 = some (.aload_n 0) := by decide +kernel
theorem dx_18_9 : mj_at 18 9 = some (.getfield 31) := by decide +kernel
theorem dx_18_12 : mj_at 18 12 = some (.getfield 56) := by decide +kernel
theorem dx_18_15 : mj_at 18 15 = some (.iload_n 2) := by decide +kernel
theorem dx_18_16 : mj_at 18 16 = some (.iaload) := by decide +kernel
theorem dx_18_17 : mj_at 18 17 = some (.ixor) := by decide +kernel
theorem dx_18_18 : mj_at 18 18 = some (.istore 4) := by decide +kernel
theorem dx_18_20 : mj_at 18 20 = some (.iload 4) := by decide +kernel
theorem dx_18_22 : mj_at 18 22 = some (.ifCond .eq 37) := by decide +kernel
theorem dx_18_25 : mj_at 18 25 = some (.aload_n 0) := by decide +kernel
theorem dx_18_26 : mj_at 18 26 = some (.iload_n 1) := by decide +kernel
theorem dx_18_27 : mj_at 18 27 = some (.iload_n 2) := by decide +kernel
theorem dx_18_28 : mj_at 18 28 = some (.iload_n 3) := by decide +kernel
theorem dx_18_29 : mj_at 18 29 = some (.iload 4) := by decide +kernel
theorem dx_18_31 : mj_at 18 31 = some (.iload 4) := by decide +kernel
theorem dx_18_33 : mj_at 18 33 = some (.ineg) := by decide +kernel
theorem dx_18_34 : mj_at 18 34 = some (.iand) := by decide +kernel
theorem dx_18_35 : mj_at 18 35 = some (.ixor) := by decide +kernel
theorem dx_18_36 : mj_at 18 36 = some (.invokevirtual 145) := by decide +kernel
theorem dx_18_39 : mj_at 18 39 = some (.aload_n 0) := by decide +kernel
theorem dx_18_40 : mj_at 18 40 = some (.getfield 21) := by decide +kernel
theorem dx_18_43 : mj_at 18 43 = some (.iload_n 1) := by decide +kernel
theorem dx_18_44 : mj_at 18 44 = some (.dup2) := by decide +kernel
theorem dx_18_45 : mj_at 18 45 = some (.iaload) := by decide +kernel
theorem dx_18_46 : mj_at 18 46 = some (.iconst 1) := by decide +kernel
theorem dx_18_47 : mj_at 18 47 = some (.isub) := by decide +kernel
theorem dx_18_48 : mj_at 18 48 = some (.iastore) := by decide +kernel
theorem dx_18_49 : mj_at 18 49 = some (.aload_n 0) := by decide +kernel
theorem dx_18_50 : mj_at 18 50 = some (.dup) := by decide +kernel
theorem dx_18_51 : mj_at 18 51 = some (.getfield 91) := by decide +kernel
theorem dx_18_54 : mj_at 18 54 = some (.iconst 1) := by decide +kernel
theorem dx_18_55 : mj_at 18 55 = some (.iadd) := by decide +kernel
theorem dx_18_56 : mj_at 18 56 = some (.putfield 91) := by decide +kernel
theorem dx_18_59 : mj_at 18 59 = some (.return_) := by decide +kernel
set_option maxRecDepth 10000 in
theorem b_X1_mend {sl d : Nat} {M : mj_M} {t0 : Nat} {x1 : Int32} {x2 : Int32} (ht0 : mj_ocl t0 = 0) : mj_C sl (d + 1) 18 [.ref t0, .int x1, .int x2] M = (mj_C sl d 8 [.ref t0, .int x1, .int x2] M).bind (fun q1 => if mj_inB x2 8 = true then (if q1.1 ^^^ (q1.2 2 (x2 : Int32).toNatClampNeg) = 0 then (some ((0 : Int32), q1.2)) else ((mj_C sl d 7 [.ref t0, .int x1, .int x2, .int (q1.1 ^^^ ((q1.1 ^^^ (q1.2 2 (x2 : Int32).toNatClampNeg)) &&& (-(q1.1 ^^^ (q1.2 2 (x2 : Int32).toNatClampNeg)))))] q1.2).bind (fun q2 => if mj_inB x1 10 = true then (if mj_inB x1 10 = true then (some ((0 : Int32), mj_st (mj_st q2.2 (t0 + 4) (x1 : Int32).toNatClampNeg ((q2.2 (t0 + 4) (x1 : Int32).toNatClampNeg) - 1)) t0 9 (((mj_st q2.2 (t0 + 4) (x1 : Int32).toNatClampNeg ((q2.2 (t0 + 4) (x1 : Int32).toNatClampNeg) - 1)) t0 9) + 1))) else none) else none))) else none) := by
  show mj_E sl (d + 1) 18 0 [.ref t0, .int x1, .int x2, .null, .null] [] M = _
  refine (sx_aload_n dx_18_0 rfl).trans ?_
  refine (sx_iload_n dx_18_1 rfl).trans ?_
  refine (sx_iload_n dx_18_2 rfl).trans ?_
  refine (sx_v2i dx_18_3 ow_18 cx_0_71 ht0 (Nat.le_of_ble_eq_true rfl)).trans ?_
  refine mj_bnd (fun q1 => ?_)
  refine (sx_istore_n dx_18_6 (Nat.le_of_ble_eq_true rfl) rfl).trans ?_
  refine (sx_iload_n dx_18_7 rfl).trans ?_
  refine (sx_aload_n dx_18_8 rfl).trans ?_
  refine (sx_gfr dx_18_9 ow_18 fx_0_31 ht0 (rbC_0 ht0)).trans ?_
  refine (sx_gfr dx_18_12 ow_18 fx_0_56 oc_1 rb_1_0).trans ?_
  refine (sx_iload_n dx_18_15 rfl).trans ?_
  refine (sx_ild dx_18_16 (by decide) ia_2).trans ?_
  refine mj_ite ?_ rfl
  refine (sx_ixor dx_18_17).trans ?_
  refine (sx_istore dx_18_18 (Nat.le_of_ble_eq_true rfl) rfl).trans ?_
  refine (sx_iload dx_18_20 rfl).trans ?_
  refine (sx_if_eq (tgt := 59) dx_18_22 (by decide)).trans ?_
  refine mj_ite ?_ ?_
  · exact sx_retv dx_18_59 rt_18
  · refine (sx_aload_n dx_18_25 rfl).trans ?_
    refine (sx_iload_n dx_18_26 rfl).trans ?_
    refine (sx_iload_n dx_18_27 rfl).trans ?_
    refine (sx_iload_n dx_18_28 rfl).trans ?_
    refine (sx_iload dx_18_29 rfl).trans ?_
    refine (sx_iload dx_18_31 rfl).trans ?_
    refine (sx_ineg dx_18_33).trans ?_
    refine (sx_iand dx_18_34).trans ?_
    refine (sx_ixor dx_18_35).trans ?_
    refine (sx_v3v dx_18_36 ow_18 cx_0_145 ht0 (Nat.le_of_ble_eq_true rfl)).trans ?_
    refine mj_bnd (fun q2 => ?_)
    refine (sx_aload_n dx_18_39 rfl).trans ?_
    refine (sx_gfr dx_18_40 ow_18 fx_0_21 ht0 (rbC_4 ht0)).trans ?_
    refine (sx_iload_n dx_18_43 rfl).trans ?_
    refine (sx_dup2 dx_18_44).trans ?_
    refine (sx_ild dx_18_45 (naC_4 ht0) (iaC_4 ht0)).trans ?_
    refine mj_ite ?_ rfl
    refine (sx_iconst (v := 1) dx_18_46 rfl).trans ?_
    refine (sx_isub dx_18_47).trans ?_
    refine (sx_ist dx_18_48 (iaC_4 ht0)).trans ?_
    refine mj_ite ?_ rfl
    refine (sx_aload_n dx_18_49 rfl).trans ?_
    refine (sx_dupa dx_18_50).trans ?_
    refine (sx_gfi dx_18_51 ow_18 fx_0_91 (by decide) ht0).trans ?_
    refine (sx_iconst (v := 1) dx_18_54 rfl).trans ?_
    refine (sx_iadd dx_18_55).trans ?_
    refine (sx_pfi dx_18_56 ow_18 fx_0_91 ht0).trans ?_
    exact sx_retv dx_18_59 rt_18
theorem dx_19_0 : mj_at 19 0 = some (.aload_n 0) := by decide +kernel
theorem dx_19_1 : mj_at 19 1 = some (.sipush 25173) := by decide +kernel
theorem dx_19_4 : mj_at 19 4 = some (.aload_n 0) := by decide +kernel
theorem dx_19_5 : mj_at 19 5 = some (.getfield 27) := by decide +kernel
theorem dx_19_8 : mj_at 19 8 = some (.imul) := by decide +kernel
theorem dx_19_9 : mj_at 19 9 = some (.sipush 13849) := by decide +kernel
theorem dx_19_12 : mj_at 19 12 = some (.iadd) := by decide +kernel
theorem dx_19_13 : mj_at 19 13 = some (.ldc 148) := by decide +kernel
theorem dx_19_15 : mj_at 19 15 = some (.iand) := by decide +kernel
theorem dx_19_16 : mj_at 19 16 = some (.putfield 27) := by decide +kernel
theorem dx_19_19 : mj_at 19 19 = some (.aload_n 0) := by decide +kernel
theorem dx_19_20 : mj_at 19 20 = some (.getfield 27) := by decide +kernel
theorem dx_19_23 : mj_at 19 23 = some (.bipush 10) := by decide +kernel
theorem dx_19_25 : mj_at 19 25 = some (.irem) := by decide +kernel
theorem dx_19_26 : mj_at 19 26 = some (.ireturn) := by decide +kernel
set_option maxRecDepth 10000 in
theorem b_X1_draw {sl d : Nat} {M : mj_M} {t0 : Nat} (ht0 : mj_ocl t0 = 0) : mj_C sl d 19 [.ref t0] M = some ((mj_rm ((mj_st M t0 8 ((((25173 : Int32) * (M t0 8)) + 13849) &&& 65535)) t0 8) 10 : Int32), mj_st M t0 8 ((((25173 : Int32) * (M t0 8)) + 13849) &&& 65535)) := by
  show mj_E sl d 19 0 [.ref t0] [] M = _
  refine (sx_aload_n dx_19_0 rfl).trans ?_
  refine (sx_sipush (v := 25173) dx_19_1 rfl).trans ?_
  refine (sx_aload_n dx_19_4 rfl).trans ?_
  refine (sx_gfi dx_19_5 ow_19 fx_0_27 (by decide) ht0).trans ?_
  refine (sx_imul dx_19_8).trans ?_
  refine (sx_sipush (v := 13849) dx_19_9 rfl).trans ?_
  refine (sx_iadd dx_19_12).trans ?_
  refine (sx_ldc (v := 65535) dx_19_13 ow_19 kx_0_148).trans ?_
  refine (sx_iand dx_19_15).trans ?_
  refine (sx_pfi dx_19_16 ow_19 fx_0_27 ht0).trans ?_
  refine (sx_aload_n dx_19_19 rfl).trans ?_
  refine (sx_gfi dx_19_20 ow_19 fx_0_27 (by decide) ht0).trans ?_
  refine (sx_bipush (v := 10) dx_19_23 rfl).trans ?_
  refine (sx_irem dx_19_25 (by decide)).trans ?_
  exact sx_reti dx_19_26 rt_19
