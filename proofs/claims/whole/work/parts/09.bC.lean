theorem dx_34_0 : mj_at 34 0 = some (.aload_n 0) := by decide +kernel
theorem dx_34_1 : mj_at 34 1 = some (.getfield 18) := by decide +kernel
theorem dx_34_4 : mj_at 34 4 = some (.iconst 0) := by decide +kernel
theorem dx_34_5 : mj_at 34 5 = some (.iload_n 1) := by decide +kernel
theorem dx_34_6 : mj_at 34 6 = some (.iastore) := by decide +kernel
theorem dx_34_7 : mj_at 34 7 = some (.aload_n 0) := by decide +kernel
theorem dx_34_8 : mj_at 34 8 = some (.getfield 18) := by decide +kernel
theorem dx_34_11 : mj_at 34 11 = some (.iconst 1) := by decide +kernel
theorem dx_34_12 : mj_at 34 12 = some (.iload_n 2) := by decide +kernel
theorem dx_34_13 : mj_at 34 13 = some (.iastore) := by decide +kernel
theorem dx_34_14 : mj_at 34 14 = some (.aload_n 0) := by decide +kernel
theorem dx_34_15 : mj_at 34 15 = some (.getfield 18) := by decide +kernel
theorem dx_34_18 : mj_at 34 18 = some (.iconst 3) := by decide +kernel
theorem dx_34_19 : mj_at 34 19 = some (.iload_n 3) := by decide +kernel
theorem dx_34_20 : mj_at 34 20 = some (.iastore) := by decide +kernel
theorem dx_34_21 : mj_at 34 21 = some (.aload_n 0) := by decide +kernel
theorem dx_34_22 : mj_at 34 22 = some (.getfield 18) := by decide +kernel
theorem dx_34_25 : mj_at 34 25 = some (.bipush 8) := by decide +kernel
theorem dx_34_27 : mj_at 34 27 = some (.iload 4) := by decide +kernel
theorem dx_34_29 : mj_at 34 29 = some (.iastore) := by decide +kernel
theorem dx_34_30 : mj_at 34 30 = some (.return_) := by decide +kernel
set_option maxRecDepth 10000 in
theorem b_X3_meet {sl d : Nat} {M : mj_M} {t0 : Nat} {x1 : Int32} {x2 : Int32} {x3 : Int32} {x4 : Int32} (ht0 : mj_ocl t0 = 1) : mj_C sl d 34 [.ref t0, .int x1, .int x2, .int x3, .int x4] M = some ((0 : Int32), mj_st (mj_st (mj_st (mj_st M (t0 + 3) 0 x1) (t0 + 3) 1 x2) (t0 + 3) 3 x3) (t0 + 3) 8 x4) := by
  show mj_E sl d 34 0 [.ref t0, .int x1, .int x2, .int x3, .int x4] [] M = _
  refine (sx_aload_n dx_34_0 rfl).trans ?_
  refine (sx_gfr dx_34_1 ow_34 fx_1_18 ht0 (rbL_2 ht0)).trans ?_
  refine (sx_iconst (v := 0) dx_34_4 rfl).trans ?_
  refine (sx_iload_n dx_34_5 rfl).trans ?_
  refine (sx_istk (k := 0) dx_34_6 (iaL_2 ht0) (by decide) (by decide)).trans ?_
  refine (sx_aload_n dx_34_7 rfl).trans ?_
  refine (sx_gfr dx_34_8 ow_34 fx_1_18 ht0 (rbL_2 ht0)).trans ?_
  refine (sx_iconst (v := 1) dx_34_11 rfl).trans ?_
  refine (sx_iload_n dx_34_12 rfl).trans ?_
  refine (sx_istk (k := 1) dx_34_13 (iaL_2 ht0) (by decide) (by decide)).trans ?_
  refine (sx_aload_n dx_34_14 rfl).trans ?_
  refine (sx_gfr dx_34_15 ow_34 fx_1_18 ht0 (rbL_2 ht0)).trans ?_
  refine (sx_iconst (v := 3) dx_34_18 rfl).trans ?_
  refine (sx_iload_n dx_34_19 rfl).trans ?_
  refine (sx_istk (k := 3) dx_34_20 (iaL_2 ht0) (by decide) (by decide)).trans ?_
  refine (sx_aload_n dx_34_21 rfl).trans ?_
  refine (sx_gfr dx_34_22 ow_34 fx_1_18 ht0 (rbL_2 ht0)).trans ?_
  refine (sx_bipush (v := 8) dx_34_25 rfl).trans ?_
  refine (sx_iload dx_34_27 rfl).trans ?_
  refine (sx_istk (k := 8) dx_34_29 (iaL_2 ht0) (by decide) (by decide)).trans ?_
  exact sx_retv dx_34_30 rt_34
theorem dx_35_0 : mj_at 35 0 = some (.aload_n 0) := by decide +kernel
theorem dx_35_1 : mj_at 35 1 = some (.getfield 18) := by decide +kernel
theorem dx_35_4 : mj_at 35 4 = some (.iconst 2) := by decide +kernel
theorem dx_35_5 : mj_at 35 5 = some (.iload_n 1) := by decide +kernel
theorem dx_35_6 : mj_at 35 6 = some (.iastore) := by decide +kernel
theorem dx_35_7 : mj_at 35 7 = some (.aload_n 0) := by decide +kernel
theorem dx_35_8 : mj_at 35 8 = some (.getfield 18) := by decide +kernel
theorem dx_35_11 : mj_at 35 11 = some (.iconst 4) := by decide +kernel
theorem dx_35_12 : mj_at 35 12 = some (.iload_n 2) := by decide +kernel
theorem dx_35_13 : mj_at 35 13 = some (.iastore) := by decide +kernel
theorem dx_35_14 : mj_at 35 14 = some (.return_) := by decide +kernel
set_option maxRecDepth 10000 in
theorem b_X3_see {sl d : Nat} {M : mj_M} {t0 : Nat} {x1 : Int32} {x2 : Int32} (ht0 : mj_ocl t0 = 1) : mj_C sl d 35 [.ref t0, .int x1, .int x2] M = some ((0 : Int32), mj_st (mj_st M (t0 + 3) 2 x1) (t0 + 3) 4 x2) := by
  show mj_E sl d 35 0 [.ref t0, .int x1, .int x2] [] M = _
  refine (sx_aload_n dx_35_0 rfl).trans ?_
  refine (sx_gfr dx_35_1 ow_35 fx_1_18 ht0 (rbL_2 ht0)).trans ?_
  refine (sx_iconst (v := 2) dx_35_4 rfl).trans ?_
  refine (sx_iload_n dx_35_5 rfl).trans ?_
  refine (sx_istk (k := 2) dx_35_6 (iaL_2 ht0) (by decide) (by decide)).trans ?_
  refine (sx_aload_n dx_35_7 rfl).trans ?_
  refine (sx_gfr dx_35_8 ow_35 fx_1_18 ht0 (rbL_2 ht0)).trans ?_
  refine (sx_iconst (v := 4) dx_35_11 rfl).trans ?_
  refine (sx_iload_n dx_35_12 rfl).trans ?_
  refine (sx_istk (k := 4) dx_35_13 (iaL_2 ht0) (by decide) (by decide)).trans ?_
  exact sx_retv dx_35_14 rt_35
theorem dx_36_0 : mj_at 36 0 = some (.aload_n 0) := by decide +kernel
theorem dx_36_1 : mj_at 36 1 = some (.getfield 18) := by decide +kernel
theorem dx_36_4 : mj_at 36 4 = some (.iconst 5) := by decide +kernel
theorem dx_36_5 : mj_at 36 5 = some (.iload_n 1) := by decide +kernel
theorem dx_36_6 : mj_at 36 6 = some (.iastore) := by decide +kernel
theorem dx_36_7 : mj_at 36 7 = some (.aload_n 0) := by decide +kernel
theorem dx_36_8 : mj_at 36 8 = some (.getfield 18) := by decide +kernel
theorem dx_36_11 : mj_at 36 11 = some (.bipush 6) := by decide +kernel
theorem dx_36_13 : mj_at 36 13 = some (.iload_n 2) := by decide +kernel
theorem dx_36_14 : mj_at 36 14 = some (.iastore) := by decide +kernel
theorem dx_36_15 : mj_at 36 15 = some (.aload_n 0) := by decide +kernel
theorem dx_36_16 : mj_at 36 16 = some (.getfield 18) := by decide +kernel
theorem dx_36_19 : mj_at 36 19 = some (.bipush 7) := by decide +kernel
theorem dx_36_21 : mj_at 36 21 = some (.iload_n 3) := by decide +kernel
theorem dx_36_22 : mj_at 36 22 = some (.iastore) := by decide +kernel
theorem dx_36_23 : mj_at 36 23 = some (.return_) := by decide +kernel
set_option maxRecDepth 10000 in
theorem b_X3_lookAt {sl d : Nat} {M : mj_M} {t0 : Nat} {x1 : Int32} {x2 : Int32} {x3 : Int32} (ht0 : mj_ocl t0 = 1) : mj_C sl d 36 [.ref t0, .int x1, .int x2, .int x3] M = some ((0 : Int32), mj_st (mj_st (mj_st M (t0 + 3) 5 x1) (t0 + 3) 6 x2) (t0 + 3) 7 x3) := by
  show mj_E sl d 36 0 [.ref t0, .int x1, .int x2, .int x3] [] M = _
  refine (sx_aload_n dx_36_0 rfl).trans ?_
  refine (sx_gfr dx_36_1 ow_36 fx_1_18 ht0 (rbL_2 ht0)).trans ?_
  refine (sx_iconst (v := 5) dx_36_4 rfl).trans ?_
  refine (sx_iload_n dx_36_5 rfl).trans ?_
  refine (sx_istk (k := 5) dx_36_6 (iaL_2 ht0) (by decide) (by decide)).trans ?_
  refine (sx_aload_n dx_36_7 rfl).trans ?_
  refine (sx_gfr dx_36_8 ow_36 fx_1_18 ht0 (rbL_2 ht0)).trans ?_
  refine (sx_bipush (v := 6) dx_36_11 rfl).trans ?_
  refine (sx_iload_n dx_36_13 rfl).trans ?_
  refine (sx_istk (k := 6) dx_36_14 (iaL_2 ht0) (by decide) (by decide)).trans ?_
  refine (sx_aload_n dx_36_15 rfl).trans ?_
  refine (sx_gfr dx_36_16 ow_36 fx_1_18 ht0 (rbL_2 ht0)).trans ?_
  refine (sx_bipush (v := 7) dx_36_19 rfl).trans ?_
  refine (sx_iload_n dx_36_21 rfl).trans ?_
  refine (sx_istk (k := 7) dx_36_22 (iaL_2 ht0) (by decide) (by decide)).trans ?_
  exact sx_retv dx_36_23 rt_36
theorem dx_37_0 : mj_at 37 0 = some (.iconst 0) := by decide +kernel
theorem dx_37_1 : mj_at 37 1 = some (.istore_n 3) := by decide +kernel
theorem dx_37_2 : mj_at 37 2 = some (.iload_n 3) := by decide +kernel
theorem dx_37_3 : mj_at 37 3 = some (.aload_n 0) := by decide +kernel
theorem dx_37_4 : mj_at 37 4 = some (.getfield 30) := by decide +kernel
theorem dx_37_7 : mj_at 37 7 = some (.if_icmp .ge 51) := by decide +kernel
theorem dx_37_10 : mj_at 37 10 = some (.aload_n 0) := by decide +kernel
theorem dx_37_11 : mj_at 37 11 = some (.getfield 21) := by decide +kernel
theorem dx_37_14 : mj_at 37 14 = some (.iload_n 3) := by decide +kernel
theorem dx_37_15 : mj_at 37 15 = some (.iaload) := by decide +kernel
theorem dx_37_16 : mj_at 37 16 = some (.iload_n 1) := by decide +kernel
theorem dx_37_17 : mj_at 37 17 = some (.if_icmp .ne 35) := by decide +kernel
theorem dx_37_20 : mj_at 37 20 = some (.aload_n 0) := by decide +kernel
theorem dx_37_21 : mj_at 37 21 = some (.aload_n 0) := by decide +kernel
theorem dx_37_22 : mj_at 37 22 = some (.getfield 27) := by decide +kernel
theorem dx_37_25 : mj_at 37 25 = some (.iload_n 3) := by decide +kernel
theorem dx_37_26 : mj_at 37 26 = some (.iaload) := by decide +kernel
theorem dx_37_27 : mj_at 37 27 = some (.invokevirtual 34) := by decide +kernel
theorem dx_37_30 : mj_at 37 30 = some (.ifCond .eq 22) := by decide +kernel
theorem dx_37_33 : mj_at 37 33 = some (.iconst 0) := by decide +kernel
theorem dx_37_34 : mj_at 37 34 = some (.iload_n 2) := by decide +kernel
theorem dx_37_35 : mj_at 37 35 = some (.aload_n 0) := by decide +kernel
theorem dx_37_36 : mj_at 37 36 = some (.aload_n 0) := by decide +kernel
theorem dx_37_37 : mj_at 37 37 = some (.getfield 24) := by decide +kernel
theorem dx_37_40 : mj_at 37 40 = some (.iload_n 3) := by decide +kernel
theorem dx_37_41 : mj_at 37 41 = some (.iaload) := by decide +kernel
theorem dx_37_42 : mj_at 37 42 = some (.invokevirtual 34) := by decide +kernel
theorem dx_37_45 : mj_at 37 45 = some (.invokestatic 38) := by decide +kernel
theorem dx_37_48 : mj_at 37 48 = some (.invokestatic 44) := by decide +kernel
theorem dx_37_51 : mj_at 37 51 = some (.ireturn) := by decide +kernel
theorem dx_37_52 : mj_at 37 52 = some (.iinc 3 1) := by decide +kernel
theorem dx_37_55 : mj_at 37 55 = some (.goto (-53)) := by decide +kernel
theorem dx_37_58 : mj_at 37 58 = some (.iconst 0) := by decide +kernel
theorem dx_37_59 : mj_at 37 59 = some (.ireturn) := by decide +kernel
set_option maxRecDepth 10000 in
theorem b_X3_worth {sl d : Nat} {M : mj_M} {t0 : Nat} {x1 : Int32} {x2 : Int32} (ht0 : mj_ocl t0 = 1) : mj_C sl (d + 1) 37 [.ref t0, .int x1, .int x2] M = mj_E sl (d + 1) 37 2 [.ref t0, .int x1, .int x2, .int 0] [] M := by
  show mj_E sl (d + 1) 37 0 [.ref t0, .int x1, .int x2, .null] [] M = _
  refine (sx_iconst (v := 0) dx_37_0 rfl).trans ?_
  refine (sx_istore_n dx_37_1 (Nat.le_of_ble_eq_true rfl) rfl).trans ?_
  rfl
set_option maxRecDepth 10000 in
theorem b_X3_worth_2 {sl d : Nat} {M : mj_M} {t0 : Nat} {y1 : Int32} {y2 : Int32} {y3 : Int32} (ht0 : mj_ocl t0 = 1) : mj_E sl (d + 1) 37 2 [.ref t0, .int y1, .int y2, .int y3] [] M = if y3 < (M t0 7) then (if mj_inB y3 16 = true then (if M (t0 + 4) (y3 : Int32).toNatClampNeg = y1 then (if mj_inB y3 16 = true then ((mj_C sl d 39 [.ref t0, .int (M (t0 + 6) (y3 : Int32).toNatClampNeg)] M).bind (fun q1 => if q1.1 = 0 then (mj_E sl (d + 1) 37 2 [.ref t0, .int y1, .int y2, .int (y3 + 1)] [] q1.2) else (if mj_inB y3 16 = true then ((mj_C sl d 39 [.ref t0, .int (q1.2 (t0 + 5) (y3 : Int32).toNatClampNeg)] q1.2).bind (fun q2 => some ((mj_mx 0 (mj_mn y2 q2.1) : Int32), q2.2))) else none))) else none) else (mj_E sl (d + 1) 37 2 [.ref t0, .int y1, .int y2, .int (y3 + 1)] [] M)) else none) else (some ((0 : Int32), M)) := by
  refine (sx_iload_n dx_37_2 rfl).trans ?_
  refine (sx_aload_n dx_37_3 rfl).trans ?_
  refine (sx_gfi dx_37_4 ow_37 fx_1_30 (by decide) ht0).trans ?_
  refine (sx_icmp_ge (tgt := 58) dx_37_7 (by decide)).trans ?_
  refine mj_ite ?_ ?_
  · refine (sx_aload_n dx_37_10 rfl).trans ?_
    refine (sx_gfr dx_37_11 ow_37 fx_1_21 ht0 (rbL_3 ht0)).trans ?_
    refine (sx_iload_n dx_37_14 rfl).trans ?_
    refine (sx_ild dx_37_15 (naL_3 ht0) (iaL_3 ht0)).trans ?_
    refine mj_ite ?_ rfl
    refine (sx_iload_n dx_37_16 rfl).trans ?_
    refine (sx_icmp_ne (tgt := 52) dx_37_17 (by decide)).trans ?_
    refine mj_ite ?_ ?_
    · refine (sx_aload_n dx_37_20 rfl).trans ?_
      refine (sx_aload_n dx_37_21 rfl).trans ?_
      refine (sx_gfr dx_37_22 ow_37 fx_1_27 ht0 (rbL_5 ht0)).trans ?_
      refine (sx_iload_n dx_37_25 rfl).trans ?_
      refine (sx_ild dx_37_26 (naL_5 ht0) (iaL_5 ht0)).trans ?_
      refine mj_ite ?_ rfl
      refine (sx_v1i dx_37_27 ow_37 cx_1_34 ht0 (Nat.le_of_ble_eq_true rfl)).trans ?_
      refine mj_bnd (fun q1 => ?_)
      refine (sx_if_eq (tgt := 52) dx_37_30 (by decide)).trans ?_
      refine mj_ite ?_ ?_
      · refine (sx_iinc (v := 1) dx_37_52 rfl rfl rfl).trans ?_
        refine (sx_goto (tgt := 2) dx_37_55 (by decide)).trans ?_
        rfl
      · refine (sx_iconst (v := 0) dx_37_33 rfl).trans ?_
        refine (sx_iload_n dx_37_34 rfl).trans ?_
        refine (sx_aload_n dx_37_35 rfl).trans ?_
        refine (sx_aload_n dx_37_36 rfl).trans ?_
        refine (sx_gfr dx_37_37 ow_37 fx_1_24 ht0 (rbL_4 ht0)).trans ?_
        refine (sx_iload_n dx_37_40 rfl).trans ?_
        refine (sx_ild dx_37_41 (naL_4 ht0) (iaL_4 ht0)).trans ?_
        refine mj_ite ?_ rfl
        refine (sx_v1i dx_37_42 ow_37 cx_1_34 ht0 (Nat.le_of_ble_eq_true rfl)).trans ?_
        refine mj_bnd (fun q2 => ?_)
        refine (sx_min dx_37_45 ow_37 cx6_1_38 (Nat.le_of_ble_eq_true rfl)).trans ?_
        refine (sx_max dx_37_48 ow_37 cx5_1_44 (Nat.le_of_ble_eq_true rfl)).trans ?_
        exact sx_reti dx_37_51 rt_37
    · refine (sx_iinc (v := 1) dx_37_52 rfl rfl rfl).trans ?_
      refine (sx_goto (tgt := 2) dx_37_55 (by decide)).trans ?_
      rfl
  · refine (sx_iconst (v := 0) dx_37_58 rfl).trans ?_
    exact sx_reti dx_37_59 rt_37
theorem dx_38_0 : mj_at 38 0 = some (.iconst 0) := by decide +kernel
theorem dx_38_1 : mj_at 38 1 = some (.istore_n 1) := by decide +kernel
theorem dx_38_2 : mj_at 38 2 = some (.iload_n 1) := by decide +kernel
theorem dx_38_3 : mj_at 38 3 = some (.aload_n 0) := by decide +kernel
theorem dx_38_4 : mj_at 38 4 = some (.getfield 30) := by decide +kernel
theorem dx_38_7 : mj_at 38 7 = some (.if_icmp .ge 35) := by decide +kernel
theorem dx_38_10 : mj_at 38 10 = some (.aload_n 0) := by decide +kernel
theorem dx_38_11 : mj_at 38 11 = some (.getfield 21) := by decide +kernel
theorem dx_38_14 : mj_at 38 14 = some (.iload_n 1) := by decide +kernel
theorem dx_38_15 : mj_at 38 15 = some (.iaload) := by decide +kernel
theorem dx_38_16 : mj_at 38 16 = some (.bipush 120) := by decide +kernel
theorem dx_38_18 : mj_at 38 18 = some (.if_icmp .ne 18) := by decide +kernel
theorem dx_38_21 : mj_at 38 21 = some (.aload_n 0) := by decide +kernel
theorem dx_38_22 : mj_at 38 22 = some (.aload_n 0) := by decide +kernel
theorem dx_38_23 : mj_at 38 23 = some (.getfield 27) := by decide +kernel
theorem dx_38_26 : mj_at 38 26 = some (.iload_n 1) := by decide +kernel
theorem dx_38_27 : mj_at 38 27 = some (.iaload) := by decide +kernel
theorem dx_38_28 : mj_at 38 28 = some (.invokevirtual 34) := by decide +kernel
theorem dx_38_31 : mj_at 38 31 = some (.ifCond .eq 5) := by decide +kernel
theorem dx_38_34 : mj_at 38 34 = some (.iconst 1) := by decide +kernel
theorem dx_38_35 : mj_at 38 35 = some (.ireturn) := by decide +kernel
theorem dx_38_36 : mj_at 38 36 = some (.iinc 1 1) := by decide +kernel
theorem dx_38_39 : mj_at 38 39 = some (.goto (-37)) := by decide +kernel
theorem dx_38_42 : mj_at 38 42 = some (.iconst 0) := by decide +kernel
theorem dx_38_43 : mj_at 38 43 = some (.ireturn) := by decide +kernel
set_option maxRecDepth 10000 in
theorem b_X3_forbids {sl d : Nat} {M : mj_M} {t0 : Nat} (ht0 : mj_ocl t0 = 1) : mj_C sl (d + 1) 38 [.ref t0] M = mj_E sl (d + 1) 38 2 [.ref t0, .int 0] [] M := by
  show mj_E sl (d + 1) 38 0 [.ref t0, .null] [] M = _
  refine (sx_iconst (v := 0) dx_38_0 rfl).trans ?_
  refine (sx_istore_n dx_38_1 (Nat.le_of_ble_eq_true rfl) rfl).trans ?_
  rfl
set_option maxRecDepth 10000 in
theorem b_X3_forbids_2 {sl d : Nat} {M : mj_M} {t0 : Nat} {y1 : Int32} (ht0 : mj_ocl t0 = 1) : mj_E sl (d + 1) 38 2 [.ref t0, .int y1] [] M = if y1 < (M t0 7) then (if mj_inB y1 16 = true then (if M (t0 + 4) (y1 : Int32).toNatClampNeg = 120 then (if mj_inB y1 16 = true then ((mj_C sl d 39 [.ref t0, .int (M (t0 + 6) (y1 : Int32).toNatClampNeg)] M).bind (fun q1 => if q1.1 = 0 then (mj_E sl (d + 1) 38 2 [.ref t0, .int (y1 + 1)] [] q1.2) else (some ((1 : Int32), q1.2)))) else none) else (mj_E sl (d + 1) 38 2 [.ref t0, .int (y1 + 1)] [] M)) else none) else (some ((0 : Int32), M)) := by
  refine (sx_iload_n dx_38_2 rfl).trans ?_
  refine (sx_aload_n dx_38_3 rfl).trans ?_
  refine (sx_gfi dx_38_4 ow_38 fx_1_30 (by decide) ht0).trans ?_
  refine (sx_icmp_ge (tgt := 42) dx_38_7 (by decide)).trans ?_
  refine mj_ite ?_ ?_
  · refine (sx_aload_n dx_38_10 rfl).trans ?_
    refine (sx_gfr dx_38_11 ow_38 fx_1_21 ht0 (rbL_3 ht0)).trans ?_
    refine (sx_iload_n dx_38_14 rfl).trans ?_
    refine (sx_ild dx_38_15 (naL_3 ht0) (iaL_3 ht0)).trans ?_
    refine mj_ite ?_ rfl
    refine (sx_bipush (v := 120) dx_38_16 rfl).trans ?_
    refine (sx_icmp_ne (tgt := 36) dx_38_18 (by decide)).trans ?_
    refine mj_ite ?_ ?_
    · refine (sx_aload_n dx_38_21 rfl).trans ?_
      refine (sx_aload_n dx_38_22 rfl).trans ?_
      refine (sx_gfr dx_38_23 ow_38 fx_1_27 ht0 (rbL_5 ht0)).trans ?_
      refine (sx_iload_n dx_38_26 rfl).trans ?_
      refine (sx_ild dx_38_27 (naL_5 ht0) (iaL_5 ht0)).trans ?_
      refine mj_ite ?_ rfl
      refine (sx_v1i dx_38_28 ow_38 cx_1_34 ht0 (Nat.le_of_ble_eq_true rfl)).trans ?_
      refine mj_bnd (fun q1 => ?_)
      refine (sx_if_eq (tgt := 36) dx_38_31 (by decide)).trans ?_
      refine mj_ite ?_ ?_
      · refine (sx_iinc (v := 1) dx_38_36 rfl rfl rfl).trans ?_
        refine (sx_goto (tgt := 2) dx_38_39 (by decide)).trans ?_
        rfl
      · refine (sx_iconst (v := 1) dx_38_34 rfl).trans ?_
        exact sx_retz dx_38_35 rt_38 (by decide)
    · refine (sx_iinc (v := 1) dx_38_36 rfl rfl rfl).trans ?_
      refine (sx_goto (tgt := 2) dx_38_39 (by decide)).trans ?_
      rfl
  · refine (sx_iconst (v := 0) dx_38_42 rfl).trans ?_
    exact sx_retz dx_38_43 rt_38 (by decide)
theorem dx_39_0 : mj_at 39 0 = some (.iconst 0) := by decide +kernel
theorem dx_39_1 : mj_at 39 1 = some (.istore_n 2) := by decide +kernel
theorem dx_39_2 : mj_at 39 2 = some (.iload_n 1) := by decide +kernel
theorem dx_39_3 : mj_at 39 3 = some (.istore_n 3) := by decide +kernel
theorem dx_39_4 : mj_at 39 4 = some (.iconst 0) := by decide +kernel
theorem dx_39_5 : mj_at 39 5 = some (.istore 4) := by decide +kernel
theorem dx_39_7 : mj_at 39 7 = some (.iload 4) := by decide +kernel
theorem dx_39_9 : mj_at 39 9 = some (.sipush 480) := by decide +kernel
theorem dx_39_12 : mj_at 39 12 = some (.if_icmp .ge 289) := by decide +kernel
theorem dx_39_15 : mj_at 39 15 = some (.iload_n 3) := by decide +kernel
theorem dx_39_16 : mj_at 39 16 = some (.ifCond .lt 285) := by decide +kernel
theorem dx_39_19 : mj_at 39 19 = some (.iload_n 3) := by decide +kernel
theorem dx_39_20 : mj_at 39 20 = some (.aload_n 0) := by decide +kernel
theorem dx_39_21 : mj_at 39 21 = some (.getfield 47) := by decide +kernel
theorem dx_39_24 : mj_at 39 24 = some (.if_icmp .ge 277) := by decide +kernel
theorem dx_39_27 : mj_at 39 27 = some (.aload_n 0) := by decide +kernel
theorem dx_39_28 : mj_at 39 28 = some (.getfield 11) := by decide +kernel
theorem dx_39_31 : mj_at 39 31 = some (.iload_n 3) := by decide +kernel
theorem dx_39_32 : mj_at 39 32 = some (.iaload) := by decide +kernel
theorem dx_39_33 : mj_at 39 33 = some (.istore 5) := by decide +kernel
theorem dx_39_35 : mj_at 39 35 = some (.iinc 3 1) := by decide +kernel
theorem dx_39_38 : mj_at 39 38 = some (.iload 5) := by decide +kernel
theorem dx_39_40 : mj_at 39 40 = some (.sipush 256) := by decide +kernel
theorem dx_39_43 : mj_at 39 43 = some (.if_icmp .lt 51) := by decide +kernel
theorem dx_39_46 : mj_at 39 46 = some (.iload_n 2) := by decide +kernel
theorem dx_39_47 : mj_at 39 47 = some (.bipush 32) := by decide +kernel
theorem dx_39_49 : mj_at 39 49 = some (.if_icmp .lt 5) := by decide +kernel
theorem dx_39_52 : mj_at 39 52 = some (.iconst 0) := by decide +kernel
theorem dx_39_53 : mj_at 39 53 = some (.ireturn) := by decide +kernel
theorem dx_39_54 : mj_at 39 54 = some (.aload_n 0) := by decide +kernel
theorem dx_39_55 : mj_at 39 55 = some (.getfield 15) := by decide +kernel
theorem dx_39_58 : mj_at 39 58 = some (.iload_n 2) := by decide +kernel
theorem dx_39_59 : mj_at 39 59 = some (.iload 5) := by decide +kernel
theorem dx_39_61 : mj_at 39 61 = some (.sipush 265) := by decide +kernel
theorem dx_39_64 : mj_at 39 64 = some (.if_icmp .ge 17) := by decide +kernel
theorem dx_39_67 : mj_at 39 67 = some (.aload_n 0) := by decide +kernel
theorem dx_39_68 : mj_at 39 68 = some (.getfield 18) := by decide +kernel
theorem dx_39_71 : mj_at 39 71 = some (.iload 5) := by decide +kernel
theorem dx_39_73 : mj_at 39 73 = some (.sipush 256) := by decide +kernel
theorem dx_39_76 : mj_at 39 76 = some (.isub) := by decide +kernel
theorem dx_39_77 : mj_at 39 77 = some (.iaload) := by decide +kernel
theorem dx_39_78 : mj_at 39 78 = some (.goto 9) := by decide +kernel
theorem dx_39_81 : mj_at 39 81 = some (.iload 5) := by decide +kernel
theorem dx_39_83 : mj_at 39 83 = some (.sipush 265) := by decide +kernel
theorem dx_39_86 : mj_at 39 86 = some (.isub) := by decide +kernel
theorem dx_39_87 : mj_at 39 87 = some (.iastore) := by decide +kernel
theorem dx_39_88 : mj_at 39 88 = some (.iinc 2 1) := by decide +kernel
theorem dx_39_91 : mj_at 39 91 = some (.goto 204) := by decide +kernel
theorem dx_39_94 : mj_at 39 94 = some (.iload 5) := by decide +kernel
theorem dx_39_96 : mj_at 39 96 = some (.ifCond .eq 205) := by decide +kernel
theorem dx_39_99 : mj_at 39 99 = some (.iload_n 2) := by decide +kernel
theorem dx_39_100 : mj_at 39 100 = some (.iconst 1) := by decide +kernel
theorem dx_39_101 : mj_at 39 101 = some (.if_icmp .lt 200) := by decide +kernel
theorem dx_39_104 : mj_at 39 104 = some (.iload_n 3) := by decide +kernel
theorem dx_39_105 : mj_at 39 105 = some (.aload_n 0) := by decide +kernel
theorem dx_39_106 : mj_at 39 106 = some (.getfield 47) := by decide +kernel
theorem dx_39_109 : mj_at 39 109 = some (.if_icmp .lt 6) := by decide +kernel
theorem dx_39_112 : mj_at 39 112 = some (.goto 189) := by decide +kernel
theorem dx_39_115 : mj_at 39 115 = some (.iload 5) := by decide +kernel
theorem dx_39_117 : mj_at 39 117 = some (.bipush 33) := by decide +kernel
theorem dx_39_119 : mj_at 39 119 = some (.if_icmp .ne 18) := by decide +kernel
theorem dx_39_122 : mj_at 39 122 = some (.aload_n 0) := by decide +kernel
theorem dx_39_123 : mj_at 39 123 = some (.getfield 15) := by decide +kernel
theorem dx_39_126 : mj_at 39 126 = some (.iload_n 2) := by decide +kernel
theorem dx_39_127 : mj_at 39 127 = some (.iconst 1) := by decide +kernel
theorem dx_39_128 : mj_at 39 128 = some (.isub) := by decide +kernel
theorem dx_39_129 : mj_at 39 129 = some (.dup2) := by decide +kernel
theorem dx_39_130 : mj_at 39 130 = some (.iaload) := by decide +kernel
theorem dx_39_131 : mj_at 39 131 = some (.iconst 1) := by decide +kernel
theorem dx_39_132 : mj_at 39 132 = some (.ixor) := by decide +kernel
theorem dx_39_133 : mj_at 39 133 = some (.iastore) := by decide +kernel
theorem dx_39_134 : mj_at 39 134 = some (.goto 161) := by decide +kernel
theorem dx_39_137 : mj_at 39 137 = some (.iload 5) := by decide +kernel
theorem dx_39_139 : mj_at 39 139 = some (.bipush 38) := by decide +kernel
theorem dx_39_141 : mj_at 39 141 = some (.if_icmp .eq 10) := by decide +kernel
theorem dx_39_144 : mj_at 39 144 = some (.iload 5) := by decide +kernel
theorem dx_39_146 : mj_at 39 146 = some (.bipush 124) := by decide +kernel
theorem dx_39_148 : mj_at 39 148 = some (.if_icmp .ne 75) := by decide +kernel
theorem dx_39_151 : mj_at 39 151 = some (.aload_n 0) := by decide +kernel
theorem dx_39_152 : mj_at 39 152 = some (.getfield 15) := by decide +kernel
theorem dx_39_155 : mj_at 39 155 = some (.iload_n 2) := by decide +kernel
theorem dx_39_156 : mj_at 39 156 = some (.iconst 1) := by decide +kernel
theorem dx_39_157 : mj_at 39 157 = some (.isub) := by decide +kernel
theorem dx_39_158 : mj_at 39 158 = some (.iaload) := by decide +kernel
theorem dx_39_159 : mj_at 39 159 = some (.ifCond .eq 7) := by decide +kernel
theorem dx_39_162 : mj_at 39 162 = some (.iconst 1) := by decide +kernel
theorem dx_39_163 : mj_at 39 163 = some (.goto 4) := by decide +kernel
theorem dx_39_166 : mj_at 39 166 = some (.iconst 0) := by decide +kernel
theorem dx_39_167 : mj_at 39 167 = some (.iload 5) := by decide +kernel
theorem dx_39_169 : mj_at 39 169 = some (.bipush 124) := by decide +kernel
theorem dx_39_171 : mj_at 39 171 = some (.if_icmp .ne 7) := by decide +kernel
theorem dx_39_174 : mj_at 39 174 = some (.iconst 1) := by decide +kernel
theorem dx_39_175 : mj_at 39 175 = some (.goto 4) := by decide +kernel
theorem dx_39_178 : mj_at 39 178 = some (.iconst 0) := by decide +kernel
theorem dx_39_179 : mj_at 39 179 = some (.if_icmp .ne 7) := by decide +kernel
theorem dx_39_182 : mj_at 39 182 = some (.iconst 1) := by decide +kernel
theorem dx_39_183 : mj_at 39 183 = some (.goto 4) := by decide +kernel
theorem dx_39_186 : mj_at 39 186 = some (.iconst 0) := by decide +kernel
theorem dx_39_187 : mj_at 39 187 = some (.istore 6) := by decide +kernel
theorem dx_39_189 : mj_at 39 189 = some (.iload_n 2) := by decide +kernel
theorem dx_39_190 : mj_at 39 190 = some (.iload 6) := by decide +kernel
theorem dx_39_192 : mj_at 39 192 = some (.ifCond .eq 7) := by decide +kernel
theorem dx_39_195 : mj_at 39 195 = some (.iconst 0) := by decide +kernel
theorem dx_39_196 : mj_at 39 196 = some (.goto 4) := by decide +kernel
theorem dx_39_199 : mj_at 39 199 = some (.iconst 1) := by decide +kernel
theorem dx_39_200 : mj_at 39 200 = some (.isub) := by decide +kernel
theorem dx_39_201 : mj_at 39 201 = some (.istore_n 2) := by decide +kernel
theorem dx_39_202 : mj_at 39 202 = some (.iload 6) := by decide +kernel
theorem dx_39_204 : mj_at 39 204 = some (.ifCond .eq 12) := by decide +kernel
theorem dx_39_207 : mj_at 39 207 = some (.aload_n 0) := by decide +kernel
theorem dx_39_208 : mj_at 39 208 = some (.getfield 11) := by decide +kernel
theorem dx_39_211 : mj_at 39 211 = some (.iload_n 3) := by decide +kernel
theorem dx_39_212 : mj_at 39 212 = some (.iaload) := by decide +kernel
theorem dx_39_213 : mj_at 39 213 = some (.goto 6) := by decide +kernel
theorem dx_39_216 : mj_at 39 216 = some (.iload_n 3) := by decide +kernel
theorem dx_39_217 : mj_at 39 217 = some (.iconst 1) := by decide +kernel
theorem dx_39_218 : mj_at 39 218 = some (.iadd) := by decide +kernel
theorem dx_39_219 : mj_at 39 219 = some (.istore_n 3) := by decide +kernel
theorem dx_39_220 : mj_at 39 220 = some (.goto 75) := by decide +kernel
theorem dx_39_223 : mj_at 39 223 = some (.iinc 2 (-1)) := by decide +kernel
theorem dx_39_226 : mj_at 39 226 = some (.iload 5) := by decide +kernel
theorem dx_39_228 : mj_at 39 228 = some (.bipush 47) := by decide +kernel
theorem dx_39_230 : mj_at 39 230 = some (.if_icmp .eq 10) := by decide +kernel
theorem dx_39_233 : mj_at 39 233 = some (.iload 5) := by decide +kernel
theorem dx_39_235 : mj_at 39 235 = some (.bipush 37) := by decide +kernel
theorem dx_39_237 : mj_at 39 237 = some (.if_icmp .ne 16) := by decide +kernel
theorem dx_39_240 : mj_at 39 240 = some (.aload_n 0) := by decide +kernel
theorem dx_39_241 : mj_at 39 241 = some (.getfield 15) := by decide +kernel
theorem dx_39_244 : mj_at 39 244 = some (.iload_n 2) := by decide +kernel
theorem dx_39_245 : mj_at 39 245 = some (.iaload) := by decide +kernel
theorem dx_39_246 : mj_at 39 246 = some (.ifCond .ne 7) := by decide +kernel
theorem dx_39_249 : mj_at 39 249 = some (.iconst 1) := by decide +kernel
theorem dx_39_250 : mj_at 39 250 = some (.goto 4) := by decide +kernel
theorem dx_39_253 : mj_at 39 253 = some (.iconst 0) := by decide +kernel
theorem dx_39_254 : mj_at 39 254 = some (.istore 6) := by decide +kernel
theorem dx_39_256 : mj_at 39 256 = some (.iload_n 2) := by decide +kernel
theorem dx_39_257 : mj_at 39 257 = some (.iconst 1) := by decide +kernel
theorem dx_39_258 : mj_at 39 258 = some (.if_icmp .lt 8) := by decide +kernel
theorem dx_39_261 : mj_at 39 261 = some (.iload 6) := by decide +kernel
theorem dx_39_263 : mj_at 39 263 = some (.ifCond .eq 5) := by decide +kernel
theorem dx_39_266 : mj_at 39 266 = some (.iconst 0) := by decide +kernel
theorem dx_39_267 : mj_at 39 267 = some (.ireturn) := by decide +kernel
theorem dx_39_268 : mj_at 39 268 = some (.aload_n 0) := by decide +kernel
theorem dx_39_269 : mj_at 39 269 = some (.getfield 15) := by decide +kernel
theorem dx_39_272 : mj_at 39 272 = some (.iload_n 2) := by decide +kernel
theorem dx_39_273 : mj_at 39 273 = some (.iconst 1) := by decide +kernel
theorem dx_39_274 : mj_at 39 274 = some (.isub) := by decide +kernel
theorem dx_39_275 : mj_at 39 275 = some (.iload 5) := by decide +kernel
theorem dx_39_277 : mj_at 39 277 = some (.aload_n 0) := by decide +kernel
theorem dx_39_278 : mj_at 39 278 = some (.getfield 15) := by decide +kernel
theorem dx_39_281 : mj_at 39 281 = some (.iload_n 2) := by decide +kernel
theorem dx_39_282 : mj_at 39 282 = some (.iconst 1) := by decide +kernel
theorem dx_39_283 : mj_at 39 283 = some (.isub) := by decide +kernel
theorem dx_39_284 : mj_at 39 284 = some (.iaload) := by decide +kernel
theorem dx_39_285 : mj_at 39 285 = some (.aload_n 0) := by decide +kernel
theorem dx_39_286 : mj_at 39 286 = some (.getfield 15) := by decide +kernel
theorem dx_39_289 : mj_at 39 289 = some (.iload_n 2) := by decide +kernel
theorem dx_39_290 : mj_at 39 290 = some (.iaload) := by decide +kernel
theorem dx_39_291 : mj_at 39 291 = some (.invokestatic 50) := by decide +kernel
theorem dx_39_294 : mj_at 39 294 = some (.iastore) := by decide +kernel
theorem dx_39_295 : mj_at 39 295 = some (.iinc 4 1) := by decide +kernel
theorem dx_39_298 : mj_at 39 298 = some (.goto (-291)) := by decide +kernel
theorem dx_39_301 : mj_at 39 301 = some (.iload_n 2) := by decide +kernel
theorem dx_39_302 : mj_at 39 302 = some (.ifCond .le 12) := by decide +kernel
theorem dx_39_305 : mj_at 39 305 = some (.aload_n 0) := by decide +kernel
theorem dx_39_306 : mj_at 39 306 = some (.getfield 15) := by decide +kernel
theorem dx_39_309 : mj_at 39 309 = some (.iconst 0) := by decide +kernel
theorem dx_39_310 : mj_at 39 310 = some (.iaload) := by decide +kernel
theorem dx_39_311 : mj_at 39 311 = some (.goto 4) := by decide +kernel
theorem dx_39_314 : mj_at 39 314 = some (.iconst 0) := by decide +kernel
theorem dx_39_315 : mj_at 39 315 = some (.ireturn) := by decide +kernel
set_option maxRecDepth 10000 in
theorem b_X3_run {sl d : Nat} {M : mj_M} {t0 : Nat} {x1 : Int32} (ht0 : mj_ocl t0 = 1) : mj_C sl (d + 1) 39 [.ref t0, .int x1] M = mj_E sl (d + 1) 39 7 [.ref t0, .int x1, .int 0, .int x1, .int 0, .null, .null] [] M := by
  show mj_E sl (d + 1) 39 0 [.ref t0, .int x1, .null, .null, .null, .null, .null] [] M = _
  refine (sx_iconst (v := 0) dx_39_0 rfl).trans ?_
  refine (sx_istore_n dx_39_1 (Nat.le_of_ble_eq_true rfl) rfl).trans ?_
  refine (sx_iload_n dx_39_2 rfl).trans ?_
  refine (sx_istore_n dx_39_3 (Nat.le_of_ble_eq_true rfl) rfl).trans ?_
  refine (sx_iconst (v := 0) dx_39_4 rfl).trans ?_
  refine (sx_istore dx_39_5 (Nat.le_of_ble_eq_true rfl) rfl).trans ?_
  rfl
set_option maxRecDepth 10000 in
theorem b_X3_run_7 {sl d : Nat} {M : mj_M} {t0 : Nat} {w1 : Value} {y2 : Int32} {y3 : Int32} {y4 : Int32} {w5 : Value} {w6 : Value} (ht0 : mj_ocl t0 = 1) : mj_E sl (d + 1) 39 7 [.ref t0, w1, .int y2, .int y3, .int y4, w5, w6] [] M = if y4 < 480 then (if y3 < 0 then (if y2 ≤ 0 then (some ((0 : Int32), M)) else (some ((M (t0 + 2) 0 : Int32), M))) else (if y3 < (M t0 6) then (if mj_inB y3 480 = true then (if M (t0 + 1) (y3 : Int32).toNatClampNeg < 256 then (if M (t0 + 1) (y3 : Int32).toNatClampNeg = 0 then (if y2 ≤ 0 then (some ((0 : Int32), M)) else (some ((M (t0 + 2) 0 : Int32), M))) else (if y2 < 1 then (if y2 ≤ 0 then (some ((0 : Int32), M)) else (some ((M (t0 + 2) 0 : Int32), M))) else (if y3 + 1 < (M t0 6) then (if M (t0 + 1) (y3 : Int32).toNatClampNeg = 33 then (if mj_inB (y2 - 1) 32 = true then (if mj_inB (y2 - 1) 32 = true then (mj_E sl (d + 1) 39 7 [.ref t0, w1, .int y2, .int (y3 + 1), .int (y4 + 1), .int (M (t0 + 1) (y3 : Int32).toNatClampNeg), w6] [] (mj_st M (t0 + 2) (y2 - 1 : Int32).toNatClampNeg ((M (t0 + 2) (y2 - 1 : Int32).toNatClampNeg) ^^^ 1))) else none) else none) else (if M (t0 + 1) (y3 : Int32).toNatClampNeg = 38 then (mj_E sl (d + 1) 39 151 [.ref t0, w1, .int y2, .int (y3 + 1), .int y4, .int (M (t0 + 1) (y3 : Int32).toNatClampNeg), w6] [] M) else (if M (t0 + 1) (y3 : Int32).toNatClampNeg = 124 then (mj_E sl (d + 1) 39 151 [.ref t0, w1, .int y2, .int (y3 + 1), .int y4, .int (M (t0 + 1) (y3 : Int32).toNatClampNeg), w6] [] M) else (if M (t0 + 1) (y3 : Int32).toNatClampNeg = 47 then (mj_E sl (d + 1) 39 240 [.ref t0, w1, .int (y2 + (-1)), .int (y3 + 1), .int y4, .int (M (t0 + 1) (y3 : Int32).toNatClampNeg), w6] [] M) else (if M (t0 + 1) (y3 : Int32).toNatClampNeg = 37 then (mj_E sl (d + 1) 39 240 [.ref t0, w1, .int (y2 + (-1)), .int (y3 + 1), .int y4, .int (M (t0 + 1) (y3 : Int32).toNatClampNeg), w6] [] M) else (mj_E sl (d + 1) 39 253 [.ref t0, w1, .int (y2 + (-1)), .int (y3 + 1), .int y4, .int (M (t0 + 1) (y3 : Int32).toNatClampNeg), w6] [] M)))))) else (if y2 ≤ 0 then (some ((0 : Int32), M)) else (some ((M (t0 + 2) 0 : Int32), M)))))) else (if y2 < 32 then (if M (t0 + 1) (y3 : Int32).toNatClampNeg < 265 then (if mj_inB ((M (t0 + 1) (y3 : Int32).toNatClampNeg) - 256) 9 = true then (if mj_inB y2 32 = true then (mj_E sl (d + 1) 39 7 [.ref t0, w1, .int (y2 + 1), .int (y3 + 1), .int (y4 + 1), .int (M (t0 + 1) (y3 : Int32).toNatClampNeg), w6] [] (mj_st M (t0 + 2) (y2 : Int32).toNatClampNeg (M (t0 + 3) ((M (t0 + 1) (y3 : Int32).toNatClampNeg) - 256 : Int32).toNatClampNeg))) else none) else none) else (if mj_inB y2 32 = true then (mj_E sl (d + 1) 39 7 [.ref t0, w1, .int (y2 + 1), .int (y3 + 1), .int (y4 + 1), .int (M (t0 + 1) (y3 : Int32).toNatClampNeg), w6] [] (mj_st M (t0 + 2) (y2 : Int32).toNatClampNeg ((M (t0 + 1) (y3 : Int32).toNatClampNeg) - 265))) else none)) else (some ((0 : Int32), M)))) else none) else (if y2 ≤ 0 then (some ((0 : Int32), M)) else (some ((M (t0 + 2) 0 : Int32), M))))) else (if y2 ≤ 0 then (some ((0 : Int32), M)) else (some ((M (t0 + 2) 0 : Int32), M))) := by
  refine (sx_iload dx_39_7 rfl).trans ?_
  refine (sx_sipush (v := 480) dx_39_9 rfl).trans ?_
  refine (sx_icmp_ge (tgt := 301) dx_39_12 (by decide)).trans ?_
  refine mj_ite ?_ ?_
  · refine (sx_iload_n dx_39_15 rfl).trans ?_
    refine (sx_if_lt (tgt := 301) dx_39_16 (by decide)).trans ?_
    refine mj_ite ?_ ?_
    · refine (sx_iload_n dx_39_301 rfl).trans ?_
      refine (sx_if_le (tgt := 314) dx_39_302 (by decide)).trans ?_
      refine mj_ite ?_ ?_
      · refine (sx_iconst (v := 0) dx_39_314 rfl).trans ?_
        exact sx_reti dx_39_315 rt_39
      · refine (sx_aload_n dx_39_305 rfl).trans ?_
        refine (sx_gfr dx_39_306 ow_39 fx_1_15 ht0 (rbL_1 ht0)).trans ?_
        refine (sx_iconst (v := 0) dx_39_309 rfl).trans ?_
        refine (sx_ildk (k := 0) dx_39_310 (naL_1 ht0) (iaL_1 ht0) (by decide) (by decide)).trans ?_
        refine (sx_goto (tgt := 315) dx_39_311 (by decide)).trans ?_
        exact sx_reti dx_39_315 rt_39
    · refine (sx_iload_n dx_39_19 rfl).trans ?_
      refine (sx_aload_n dx_39_20 rfl).trans ?_
      refine (sx_gfi dx_39_21 ow_39 fx_1_47 (by decide) ht0).trans ?_
      refine (sx_icmp_ge (tgt := 301) dx_39_24 (by decide)).trans ?_
      refine mj_ite ?_ ?_
      · refine (sx_aload_n dx_39_27 rfl).trans ?_
        refine (sx_gfr dx_39_28 ow_39 fx_1_11 ht0 (rbL_0 ht0)).trans ?_
        refine (sx_iload_n dx_39_31 rfl).trans ?_
        refine (sx_ild dx_39_32 (naL_0 ht0) (iaL_0 ht0)).trans ?_
        refine mj_ite ?_ rfl
        refine (sx_istore dx_39_33 (Nat.le_of_ble_eq_true rfl) rfl).trans ?_
        refine (sx_iinc (v := 1) dx_39_35 rfl rfl rfl).trans ?_
        refine (sx_iload dx_39_38 rfl).trans ?_
        refine (sx_sipush (v := 256) dx_39_40 rfl).trans ?_
        refine (sx_icmp_lt (tgt := 94) dx_39_43 (by decide)).trans ?_
        refine mj_ite ?_ ?_
        · refine (sx_iload dx_39_94 rfl).trans ?_
          refine (sx_if_eq (tgt := 301) dx_39_96 (by decide)).trans ?_
          refine mj_ite ?_ ?_
          · refine (sx_iload_n dx_39_301 rfl).trans ?_
            refine (sx_if_le (tgt := 314) dx_39_302 (by decide)).trans ?_
            refine mj_ite ?_ ?_
            · refine (sx_iconst (v := 0) dx_39_314 rfl).trans ?_
              exact sx_reti dx_39_315 rt_39
            · refine (sx_aload_n dx_39_305 rfl).trans ?_
              refine (sx_gfr dx_39_306 ow_39 fx_1_15 ht0 (rbL_1 ht0)).trans ?_
              refine (sx_iconst (v := 0) dx_39_309 rfl).trans ?_
              refine (sx_ildk (k := 0) dx_39_310 (naL_1 ht0) (iaL_1 ht0) (by decide) (by decide)).trans ?_
              refine (sx_goto (tgt := 315) dx_39_311 (by decide)).trans ?_
              exact sx_reti dx_39_315 rt_39
          · refine (sx_iload_n dx_39_99 rfl).trans ?_
            refine (sx_iconst (v := 1) dx_39_100 rfl).trans ?_
            refine (sx_icmp_lt (tgt := 301) dx_39_101 (by decide)).trans ?_
            refine mj_ite ?_ ?_
            · refine (sx_iload_n dx_39_301 rfl).trans ?_
              refine (sx_if_le (tgt := 314) dx_39_302 (by decide)).trans ?_
              refine mj_ite ?_ ?_
              · refine (sx_iconst (v := 0) dx_39_314 rfl).trans ?_
                exact sx_reti dx_39_315 rt_39
              · refine (sx_aload_n dx_39_305 rfl).trans ?_
                refine (sx_gfr dx_39_306 ow_39 fx_1_15 ht0 (rbL_1 ht0)).trans ?_
                refine (sx_iconst (v := 0) dx_39_309 rfl).trans ?_
                refine (sx_ildk (k := 0) dx_39_310 (naL_1 ht0) (iaL_1 ht0) (by decide) (by decide)).trans ?_
                refine (sx_goto (tgt := 315) dx_39_311 (by decide)).trans ?_
                exact sx_reti dx_39_315 rt_39
            · refine (sx_iload_n dx_39_104 rfl).trans ?_
              refine (sx_aload_n dx_39_105 rfl).trans ?_
              refine (sx_gfi dx_39_106 ow_39 fx_1_47 (by decide) ht0).trans ?_
              refine (sx_icmp_lt (tgt := 115) dx_39_109 (by decide)).trans ?_
              refine mj_ite ?_ ?_
              · refine (sx_iload dx_39_115 rfl).trans ?_
                refine (sx_bipush (v := 33) dx_39_117 rfl).trans ?_
                refine (sx_icmp_ne (tgt := 137) dx_39_119 (by decide)).trans ?_
                refine mj_ite ?_ ?_
                · refine (sx_aload_n dx_39_122 rfl).trans ?_
                  refine (sx_gfr dx_39_123 ow_39 fx_1_15 ht0 (rbL_1 ht0)).trans ?_
                  refine (sx_iload_n dx_39_126 rfl).trans ?_
                  refine (sx_iconst (v := 1) dx_39_127 rfl).trans ?_
                  refine (sx_isub dx_39_128).trans ?_
                  refine (sx_dup2 dx_39_129).trans ?_
                  refine (sx_ild dx_39_130 (naL_1 ht0) (iaL_1 ht0)).trans ?_
                  refine mj_ite ?_ rfl
                  refine (sx_iconst (v := 1) dx_39_131 rfl).trans ?_
                  refine (sx_ixor dx_39_132).trans ?_
                  refine (sx_ist dx_39_133 (iaL_1 ht0)).trans ?_
                  refine mj_ite ?_ rfl
                  refine (sx_goto (tgt := 295) dx_39_134 (by decide)).trans ?_
                  refine (sx_iinc (v := 1) dx_39_295 rfl rfl rfl).trans ?_
                  refine (sx_goto (tgt := 7) dx_39_298 (by decide)).trans ?_
                  rfl
                · refine (sx_iload dx_39_137 rfl).trans ?_
                  refine (sx_bipush (v := 38) dx_39_139 rfl).trans ?_
                  refine (sx_icmp_eq (tgt := 151) dx_39_141 (by decide)).trans ?_
                  refine mj_ite ?_ ?_
                  · rfl
                  · refine (sx_iload dx_39_144 rfl).trans ?_
                    refine (sx_bipush (v := 124) dx_39_146 rfl).trans ?_
                    refine (sx_icmp_ne (tgt := 223) dx_39_148 (by decide)).trans ?_
                    refine mj_ite ?_ ?_
                    · rfl
                    · refine (sx_iinc (v := (-1)) dx_39_223 rfl rfl rfl).trans ?_
                      refine (sx_iload dx_39_226 rfl).trans ?_
                      refine (sx_bipush (v := 47) dx_39_228 rfl).trans ?_
                      refine (sx_icmp_eq (tgt := 240) dx_39_230 (by decide)).trans ?_
                      refine mj_ite ?_ ?_
                      · rfl
                      · refine (sx_iload dx_39_233 rfl).trans ?_
                        refine (sx_bipush (v := 37) dx_39_235 rfl).trans ?_
                        refine (sx_icmp_ne (tgt := 253) dx_39_237 (by decide)).trans ?_
                        refine mj_ite ?_ ?_
                        · rfl
                        · rfl
              · refine (sx_goto (tgt := 301) dx_39_112 (by decide)).trans ?_
                refine (sx_iload_n dx_39_301 rfl).trans ?_
                refine (sx_if_le (tgt := 314) dx_39_302 (by decide)).trans ?_
                refine mj_ite ?_ ?_
                · refine (sx_iconst (v := 0) dx_39_314 rfl).trans ?_
                  exact sx_reti dx_39_315 rt_39
                · refine (sx_aload_n dx_39_305 rfl).trans ?_
                  refine (sx_gfr dx_39_306 ow_39 fx_1_15 ht0 (rbL_1 ht0)).trans ?_
                  refine (sx_iconst (v := 0) dx_39_309 rfl).trans ?_
                  refine (sx_ildk (k := 0) dx_39_310 (naL_1 ht0) (iaL_1 ht0) (by decide) (by decide)).trans ?_
                  refine (sx_goto (tgt := 315) dx_39_311 (by decide)).trans ?_
                  exact sx_reti dx_39_315 rt_39
        · refine (sx_iload_n dx_39_46 rfl).trans ?_
          refine (sx_bipush (v := 32) dx_39_47 rfl).trans ?_
          refine (sx_icmp_lt (tgt := 54) dx_39_49 (by decide)).trans ?_
          refine mj_ite ?_ ?_
          · refine (sx_aload_n dx_39_54 rfl).trans ?_
            refine (sx_gfr dx_39_55 ow_39 fx_1_15 ht0 (rbL_1 ht0)).trans ?_
            refine (sx_iload_n dx_39_58 rfl).trans ?_
            refine (sx_iload dx_39_59 rfl).trans ?_
            refine (sx_sipush (v := 265) dx_39_61 rfl).trans ?_
            refine (sx_icmp_ge (tgt := 81) dx_39_64 (by decide)).trans ?_
            refine mj_ite ?_ ?_
            · refine (sx_aload_n dx_39_67 rfl).trans ?_
              refine (sx_gfr dx_39_68 ow_39 fx_1_18 ht0 (rbL_2 ht0)).trans ?_
              refine (sx_iload dx_39_71 rfl).trans ?_
              refine (sx_sipush (v := 256) dx_39_73 rfl).trans ?_
              refine (sx_isub dx_39_76).trans ?_
              refine (sx_ild dx_39_77 (naL_2 ht0) (iaL_2 ht0)).trans ?_
              refine mj_ite ?_ rfl
              refine (sx_goto (tgt := 87) dx_39_78 (by decide)).trans ?_
              refine (sx_ist dx_39_87 (iaL_1 ht0)).trans ?_
              refine mj_ite ?_ rfl
              refine (sx_iinc (v := 1) dx_39_88 rfl rfl rfl).trans ?_
              refine (sx_goto (tgt := 295) dx_39_91 (by decide)).trans ?_
              refine (sx_iinc (v := 1) dx_39_295 rfl rfl rfl).trans ?_
              refine (sx_goto (tgt := 7) dx_39_298 (by decide)).trans ?_
              rfl
            · refine (sx_iload dx_39_81 rfl).trans ?_
              refine (sx_sipush (v := 265) dx_39_83 rfl).trans ?_
              refine (sx_isub dx_39_86).trans ?_
              refine (sx_ist dx_39_87 (iaL_1 ht0)).trans ?_
              refine mj_ite ?_ rfl
              refine (sx_iinc (v := 1) dx_39_88 rfl rfl rfl).trans ?_
              refine (sx_goto (tgt := 295) dx_39_91 (by decide)).trans ?_
              refine (sx_iinc (v := 1) dx_39_295 rfl rfl rfl).trans ?_
              refine (sx_goto (tgt := 7) dx_39_298 (by decide)).trans ?_
              rfl
          · refine (sx_iconst (v := 0) dx_39_52 rfl).trans ?_
            exact sx_reti dx_39_53 rt_39
      · refine (sx_iload_n dx_39_301 rfl).trans ?_
        refine (sx_if_le (tgt := 314) dx_39_302 (by decide)).trans ?_
        refine mj_ite ?_ ?_
        · refine (sx_iconst (v := 0) dx_39_314 rfl).trans ?_
          exact sx_reti dx_39_315 rt_39
        · refine (sx_aload_n dx_39_305 rfl).trans ?_
          refine (sx_gfr dx_39_306 ow_39 fx_1_15 ht0 (rbL_1 ht0)).trans ?_
          refine (sx_iconst (v := 0) dx_39_309 rfl).trans ?_
          refine (sx_ildk (k := 0) dx_39_310 (naL_1 ht0) (iaL_1 ht0) (by decide) (by decide)).trans ?_
          refine (sx_goto (tgt := 315) dx_39_311 (by decide)).trans ?_
          exact sx_reti dx_39_315 rt_39
  · refine (sx_iload_n dx_39_301 rfl).trans ?_
    refine (sx_if_le (tgt := 314) dx_39_302 (by decide)).trans ?_
    refine mj_ite ?_ ?_
    · refine (sx_iconst (v := 0) dx_39_314 rfl).trans ?_
      exact sx_reti dx_39_315 rt_39
    · refine (sx_aload_n dx_39_305 rfl).trans ?_
      refine (sx_gfr dx_39_306 ow_39 fx_1_15 ht0 (rbL_1 ht0)).trans ?_
      refine (sx_iconst (v := 0) dx_39_309 rfl).trans ?_
      refine (sx_ildk (k := 0) dx_39_310 (naL_1 ht0) (iaL_1 ht0) (by decide) (by decide)).trans ?_
      refine (sx_goto (tgt := 315) dx_39_311 (by decide)).trans ?_
      exact sx_reti dx_39_315 rt_39
set_option maxRecDepth 10000 in
theorem b_X3_run_151 {sl d : Nat} {M : mj_M} {t0 : Nat} {w1 : Value} {y2 : Int32} {y3 : Int32} {y4 : Int32} {y5 : Int32} {w6 : Value} (ht0 : mj_ocl t0 = 1) : mj_E sl (d + 1) 39 151 [.ref t0, w1, .int y2, .int y3, .int y4, .int y5, w6] [] M = if mj_inB (y2 - 1) 32 = true then (if M (t0 + 2) (y2 - 1 : Int32).toNatClampNeg = 0 then (if y5 = 124 then (mj_E sl (d + 1) 39 7 [.ref t0, w1, .int (y2 - 1), .int (y3 + 1), .int (y4 + 1), .int y5, .int 0] [] M) else (if mj_inB y3 480 = true then (mj_E sl (d + 1) 39 7 [.ref t0, w1, .int (y2 - 0), .int (M (t0 + 1) (y3 : Int32).toNatClampNeg), .int (y4 + 1), .int y5, .int 1] [] M) else none)) else (if y5 = 124 then (if mj_inB y3 480 = true then (mj_E sl (d + 1) 39 7 [.ref t0, w1, .int (y2 - 0), .int (M (t0 + 1) (y3 : Int32).toNatClampNeg), .int (y4 + 1), .int y5, .int 1] [] M) else none) else (mj_E sl (d + 1) 39 7 [.ref t0, w1, .int (y2 - 1), .int (y3 + 1), .int (y4 + 1), .int y5, .int 0] [] M))) else none := by
  refine (sx_aload_n dx_39_151 rfl).trans ?_
  refine (sx_gfr dx_39_152 ow_39 fx_1_15 ht0 (rbL_1 ht0)).trans ?_
  refine (sx_iload_n dx_39_155 rfl).trans ?_
  refine (sx_iconst (v := 1) dx_39_156 rfl).trans ?_
  refine (sx_isub dx_39_157).trans ?_
  refine (sx_ild dx_39_158 (naL_1 ht0) (iaL_1 ht0)).trans ?_
  refine mj_ite ?_ rfl
  refine (sx_if_eq (tgt := 166) dx_39_159 (by decide)).trans ?_
  refine mj_ite ?_ ?_
  · refine (sx_iconst (v := 0) dx_39_166 rfl).trans ?_
    refine (sx_iload dx_39_167 rfl).trans ?_
    refine (sx_bipush (v := 124) dx_39_169 rfl).trans ?_
    refine (sx_icmp_ne (tgt := 178) dx_39_171 (by decide)).trans ?_
    refine mj_ite ?_ ?_
    · refine (sx_iconst (v := 1) dx_39_174 rfl).trans ?_
      refine (sx_goto (tgt := 179) dx_39_175 (by decide)).trans ?_
      refine (sx_icmp_ne_f (tgt := 186) dx_39_179 (by decide) (by decide)).trans ?_
      refine (sx_iconst (v := 0) dx_39_186 rfl).trans ?_
      refine (sx_istore dx_39_187 (Nat.le_of_ble_eq_true rfl) rfl).trans ?_
      refine (sx_iload_n dx_39_189 rfl).trans ?_
      refine (sx_iload dx_39_190 rfl).trans ?_
      refine (sx_if_eq_t (tgt := 199) dx_39_192 (by decide) (by decide)).trans ?_
      refine (sx_iconst (v := 1) dx_39_199 rfl).trans ?_
      refine (sx_isub dx_39_200).trans ?_
      refine (sx_istore_n dx_39_201 (Nat.le_of_ble_eq_true rfl) rfl).trans ?_
      refine (sx_iload dx_39_202 rfl).trans ?_
      refine (sx_if_eq_t (tgt := 216) dx_39_204 (by decide) (by decide)).trans ?_
      refine (sx_iload_n dx_39_216 rfl).trans ?_
      refine (sx_iconst (v := 1) dx_39_217 rfl).trans ?_
      refine (sx_iadd dx_39_218).trans ?_
      refine (sx_istore_n dx_39_219 (Nat.le_of_ble_eq_true rfl) rfl).trans ?_
      refine (sx_goto (tgt := 295) dx_39_220 (by decide)).trans ?_
      refine (sx_iinc (v := 1) dx_39_295 rfl rfl rfl).trans ?_
      refine (sx_goto (tgt := 7) dx_39_298 (by decide)).trans ?_
      rfl
    · refine (sx_iconst (v := 0) dx_39_178 rfl).trans ?_
      refine (sx_icmp_ne_t (tgt := 186) dx_39_179 (by decide) (by decide)).trans ?_
      refine (sx_iconst (v := 1) dx_39_182 rfl).trans ?_
      refine (sx_goto (tgt := 187) dx_39_183 (by decide)).trans ?_
      refine (sx_istore dx_39_187 (Nat.le_of_ble_eq_true rfl) rfl).trans ?_
      refine (sx_iload_n dx_39_189 rfl).trans ?_
      refine (sx_iload dx_39_190 rfl).trans ?_
      refine (sx_if_eq_f (tgt := 199) dx_39_192 (by decide) (by decide)).trans ?_
      refine (sx_iconst (v := 0) dx_39_195 rfl).trans ?_
      refine (sx_goto (tgt := 200) dx_39_196 (by decide)).trans ?_
      refine (sx_isub dx_39_200).trans ?_
      refine (sx_istore_n dx_39_201 (Nat.le_of_ble_eq_true rfl) rfl).trans ?_
      refine (sx_iload dx_39_202 rfl).trans ?_
      refine (sx_if_eq_f (tgt := 216) dx_39_204 (by decide) (by decide)).trans ?_
      refine (sx_aload_n dx_39_207 rfl).trans ?_
      refine (sx_gfr dx_39_208 ow_39 fx_1_11 ht0 (rbL_0 ht0)).trans ?_
      refine (sx_iload_n dx_39_211 rfl).trans ?_
      refine (sx_ild dx_39_212 (naL_0 ht0) (iaL_0 ht0)).trans ?_
      refine mj_ite ?_ rfl
      refine (sx_goto (tgt := 219) dx_39_213 (by decide)).trans ?_
      refine (sx_istore_n dx_39_219 (Nat.le_of_ble_eq_true rfl) rfl).trans ?_
      refine (sx_goto (tgt := 295) dx_39_220 (by decide)).trans ?_
      refine (sx_iinc (v := 1) dx_39_295 rfl rfl rfl).trans ?_
      refine (sx_goto (tgt := 7) dx_39_298 (by decide)).trans ?_
      rfl
  · refine (sx_iconst (v := 1) dx_39_162 rfl).trans ?_
    refine (sx_goto (tgt := 167) dx_39_163 (by decide)).trans ?_
    refine (sx_iload dx_39_167 rfl).trans ?_
    refine (sx_bipush (v := 124) dx_39_169 rfl).trans ?_
    refine (sx_icmp_ne (tgt := 178) dx_39_171 (by decide)).trans ?_
    refine mj_ite ?_ ?_
    · refine (sx_iconst (v := 1) dx_39_174 rfl).trans ?_
      refine (sx_goto (tgt := 179) dx_39_175 (by decide)).trans ?_
      refine (sx_icmp_ne_t (tgt := 186) dx_39_179 (by decide) (by decide)).trans ?_
      refine (sx_iconst (v := 1) dx_39_182 rfl).trans ?_
      refine (sx_goto (tgt := 187) dx_39_183 (by decide)).trans ?_
      refine (sx_istore dx_39_187 (Nat.le_of_ble_eq_true rfl) rfl).trans ?_
      refine (sx_iload_n dx_39_189 rfl).trans ?_
      refine (sx_iload dx_39_190 rfl).trans ?_
      refine (sx_if_eq_f (tgt := 199) dx_39_192 (by decide) (by decide)).trans ?_
      refine (sx_iconst (v := 0) dx_39_195 rfl).trans ?_
      refine (sx_goto (tgt := 200) dx_39_196 (by decide)).trans ?_
      refine (sx_isub dx_39_200).trans ?_
      refine (sx_istore_n dx_39_201 (Nat.le_of_ble_eq_true rfl) rfl).trans ?_
      refine (sx_iload dx_39_202 rfl).trans ?_
      refine (sx_if_eq_f (tgt := 216) dx_39_204 (by decide) (by decide)).trans ?_
      refine (sx_aload_n dx_39_207 rfl).trans ?_
      refine (sx_gfr dx_39_208 ow_39 fx_1_11 ht0 (rbL_0 ht0)).trans ?_
      refine (sx_iload_n dx_39_211 rfl).trans ?_
      refine (sx_ild dx_39_212 (naL_0 ht0) (iaL_0 ht0)).trans ?_
      refine mj_ite ?_ rfl
      refine (sx_goto (tgt := 219) dx_39_213 (by decide)).trans ?_
      refine (sx_istore_n dx_39_219 (Nat.le_of_ble_eq_true rfl) rfl).trans ?_
      refine (sx_goto (tgt := 295) dx_39_220 (by decide)).trans ?_
      refine (sx_iinc (v := 1) dx_39_295 rfl rfl rfl).trans ?_
      refine (sx_goto (tgt := 7) dx_39_298 (by decide)).trans ?_
      rfl
    · refine (sx_iconst (v := 0) dx_39_178 rfl).trans ?_
      refine (sx_icmp_ne_f (tgt := 186) dx_39_179 (by decide) (by decide)).trans ?_
      refine (sx_iconst (v := 0) dx_39_186 rfl).trans ?_
      refine (sx_istore dx_39_187 (Nat.le_of_ble_eq_true rfl) rfl).trans ?_
      refine (sx_iload_n dx_39_189 rfl).trans ?_
      refine (sx_iload dx_39_190 rfl).trans ?_
      refine (sx_if_eq_t (tgt := 199) dx_39_192 (by decide) (by decide)).trans ?_
      refine (sx_iconst (v := 1) dx_39_199 rfl).trans ?_
      refine (sx_isub dx_39_200).trans ?_
      refine (sx_istore_n dx_39_201 (Nat.le_of_ble_eq_true rfl) rfl).trans ?_
      refine (sx_iload dx_39_202 rfl).trans ?_
      refine (sx_if_eq_t (tgt := 216) dx_39_204 (by decide) (by decide)).trans ?_
      refine (sx_iload_n dx_39_216 rfl).trans ?_
      refine (sx_iconst (v := 1) dx_39_217 rfl).trans ?_
      refine (sx_iadd dx_39_218).trans ?_
      refine (sx_istore_n dx_39_219 (Nat.le_of_ble_eq_true rfl) rfl).trans ?_
      refine (sx_goto (tgt := 295) dx_39_220 (by decide)).trans ?_
      refine (sx_iinc (v := 1) dx_39_295 rfl rfl rfl).trans ?_
      refine (sx_goto (tgt := 7) dx_39_298 (by decide)).trans ?_
      rfl
set_option maxRecDepth 10000 in
theorem b_X3_run_240 {sl d : Nat} {M : mj_M} {t0 : Nat} {w1 : Value} {y2 : Int32} {y3 : Int32} {y4 : Int32} {y5 : Int32} {w6 : Value} (ht0 : mj_ocl t0 = 1) : mj_E sl (d + 1) 39 240 [.ref t0, w1, .int y2, .int y3, .int y4, .int y5, w6] [] M = if mj_inB y2 32 = true then (if M (t0 + 2) (y2 : Int32).toNatClampNeg = 0 then (if y2 < 1 then (some ((0 : Int32), M)) else (some ((0 : Int32), M))) else (mj_E sl (d + 1) 39 253 [.ref t0, w1, .int y2, .int y3, .int y4, .int y5, w6] [] M)) else none := by
  refine (sx_aload_n dx_39_240 rfl).trans ?_
  refine (sx_gfr dx_39_241 ow_39 fx_1_15 ht0 (rbL_1 ht0)).trans ?_
  refine (sx_iload_n dx_39_244 rfl).trans ?_
  refine (sx_ild dx_39_245 (naL_1 ht0) (iaL_1 ht0)).trans ?_
  refine mj_ite ?_ rfl
  refine (sx_if_ne (tgt := 253) dx_39_246 (by decide)).trans ?_
  refine mj_ite ?_ ?_
  · refine (sx_iconst (v := 1) dx_39_249 rfl).trans ?_
    refine (sx_goto (tgt := 254) dx_39_250 (by decide)).trans ?_
    refine (sx_istore dx_39_254 (Nat.le_of_ble_eq_true rfl) rfl).trans ?_
    refine (sx_iload_n dx_39_256 rfl).trans ?_
    refine (sx_iconst (v := 1) dx_39_257 rfl).trans ?_
    refine (sx_icmp_lt (tgt := 266) dx_39_258 (by decide)).trans ?_
    refine mj_ite ?_ ?_
    · refine (sx_iconst (v := 0) dx_39_266 rfl).trans ?_
      exact sx_reti dx_39_267 rt_39
    · refine (sx_iload dx_39_261 rfl).trans ?_
      refine (sx_if_eq_f (tgt := 268) dx_39_263 (by decide) (by decide)).trans ?_
      refine (sx_iconst (v := 0) dx_39_266 rfl).trans ?_
      exact sx_reti dx_39_267 rt_39
  · rfl
set_option maxRecDepth 10000 in
theorem b_X3_run_253 {sl d : Nat} {M : mj_M} {t0 : Nat} {w1 : Value} {y2 : Int32} {y3 : Int32} {y4 : Int32} {y5 : Int32} {w6 : Value} (ht0 : mj_ocl t0 = 1) : mj_E sl (d + 1) 39 253 [.ref t0, w1, .int y2, .int y3, .int y4, .int y5, w6] [] M = if y2 < 1 then (some ((0 : Int32), M)) else (if mj_inB (y2 - 1) 32 = true then (if mj_inB y2 32 = true then ((mj_C sl d 40 [.int y5, .int (M (t0 + 2) (y2 - 1 : Int32).toNatClampNeg), .int (M (t0 + 2) (y2 : Int32).toNatClampNeg)] M).bind (fun q1 => if mj_inB (y2 - 1) 32 = true then (mj_E sl (d + 1) 39 7 [.ref t0, w1, .int y2, .int y3, .int (y4 + 1), .int y5, .int 0] [] (mj_st q1.2 (t0 + 2) (y2 - 1 : Int32).toNatClampNeg q1.1)) else none)) else none) else none) := by
  refine (sx_iconst (v := 0) dx_39_253 rfl).trans ?_
  refine (sx_istore dx_39_254 (Nat.le_of_ble_eq_true rfl) rfl).trans ?_
  refine (sx_iload_n dx_39_256 rfl).trans ?_
  refine (sx_iconst (v := 1) dx_39_257 rfl).trans ?_
  refine (sx_icmp_lt (tgt := 266) dx_39_258 (by decide)).trans ?_
  refine mj_ite ?_ ?_
  · refine (sx_iconst (v := 0) dx_39_266 rfl).trans ?_
    exact sx_reti dx_39_267 rt_39
  · refine (sx_iload dx_39_261 rfl).trans ?_
    refine (sx_if_eq_t (tgt := 268) dx_39_263 (by decide) (by decide)).trans ?_
    refine (sx_aload_n dx_39_268 rfl).trans ?_
    refine (sx_gfr dx_39_269 ow_39 fx_1_15 ht0 (rbL_1 ht0)).trans ?_
    refine (sx_iload_n dx_39_272 rfl).trans ?_
    refine (sx_iconst (v := 1) dx_39_273 rfl).trans ?_
    refine (sx_isub dx_39_274).trans ?_
    refine (sx_iload dx_39_275 rfl).trans ?_
    refine (sx_aload_n dx_39_277 rfl).trans ?_
    refine (sx_gfr dx_39_278 ow_39 fx_1_15 ht0 (rbL_1 ht0)).trans ?_
    refine (sx_iload_n dx_39_281 rfl).trans ?_
    refine (sx_iconst (v := 1) dx_39_282 rfl).trans ?_
    refine (sx_isub dx_39_283).trans ?_
    refine (sx_ild dx_39_284 (naL_1 ht0) (iaL_1 ht0)).trans ?_
    refine mj_ite ?_ rfl
    refine (sx_aload_n dx_39_285 rfl).trans ?_
    refine (sx_gfr dx_39_286 ow_39 fx_1_15 ht0 (rbL_1 ht0)).trans ?_
    refine (sx_iload_n dx_39_289 rfl).trans ?_
    refine (sx_ild dx_39_290 (naL_1 ht0) (iaL_1 ht0)).trans ?_
    refine mj_ite ?_ rfl
    refine (sx_s3i dx_39_291 ow_39 cx_1_50 (Nat.le_of_ble_eq_true rfl)).trans ?_
    refine mj_bnd (fun q1 => ?_)
    refine (sx_ist dx_39_294 (iaL_1 ht0)).trans ?_
    refine mj_ite ?_ rfl
    refine (sx_iinc (v := 1) dx_39_295 rfl rfl rfl).trans ?_
    refine (sx_goto (tgt := 7) dx_39_298 (by decide)).trans ?_
    rfl
theorem dx_40_0 : mj_at 40 0 = some (.iload_n 0) := by decide +kernel
theorem dx_40_1 : mj_at 40 1 = some (.lookupswitch 125 #[(37, 91), (42, 75), (43, 67), (45, 71), (47, 79), (60, 103), (62, 114)]) := by decide +kernel
theorem dx_40_68 : mj_at 40 68 = some (.iload_n 1) := by decide +kernel
theorem dx_40_69 : mj_at 40 69 = some (.iload_n 2) := by decide +kernel
theorem dx_40_70 : mj_at 40 70 = some (.iadd) := by decide +kernel
theorem dx_40_71 : mj_at 40 71 = some (.ireturn) := by decide +kernel
theorem dx_40_72 : mj_at 40 72 = some (.iload_n 1) := by decide +kernel
theorem dx_40_73 : mj_at 40 73 = some (.iload_n 2) := by decide +kernel
theorem dx_40_74 : mj_at 40 74 = some (.isub) := by decide +kernel
theorem dx_40_75 : mj_at 40 75 = some (.ireturn) := by decide +kernel
theorem dx_40_76 : mj_at 40 76 = some (.iload_n 1) := by decide +kernel
theorem dx_40_77 : mj_at 40 77 = some (.iload_n 2) := by decide +kernel
theorem dx_40_78 : mj_at 40 78 = some (.imul) := by decide +kernel
theorem dx_40_79 : mj_at 40 79 = some (.ireturn) := by decide +kernel
theorem dx_40_80 : mj_at 40 80 = some (.iload_n 2) := by decide +kernel
theorem dx_40_81 : mj_at 40 81 = some (.ifCond .ne 7) := by decide +kernel
theorem dx_40_84 : mj_at 40 84 = some (.iconst 0) := by decide +kernel
theorem dx_40_85 : mj_at 40 85 = some (.goto 6) := by decide +kernel
theorem dx_40_88 : mj_at 40 88 = some (.iload_n 1) := by decide +kernel
theorem dx_40_89 : mj_at 40 89 = some (.iload_n 2) := by decide +kernel
theorem dx_40_90 : mj_at 40 90 = some (.idiv) := by decide +kernel
theorem dx_40_91 : mj_at 40 91 = some (.ireturn) := by decide +kernel
theorem dx_40_92 : mj_at 40 92 = some (.iload_n 2) := by decide +kernel
theorem dx_40_93 : mj_at 40 93 = some (.ifCond .ne 7) := by decide +kernel
theorem dx_40_96 : mj_at 40 96 = some (.iconst 0) := by decide +kernel
theorem dx_40_97 : mj_at 40 97 = some (.goto 6) := by decide +kernel
theorem dx_40_100 : mj_at 40 100 = some (.iload_n 1) := by decide +kernel
theorem dx_40_101 : mj_at 40 101 = some (.iload_n 2) := by decide +kernel
theorem dx_40_102 : mj_at 40 102 = some (.irem) := by decide +kernel
theorem dx_40_103 : mj_at 40 103 = some (.ireturn) := by decide +kernel
theorem dx_40_104 : mj_at 40 104 = some (.iload_n 1) := by decide +kernel
theorem dx_40_105 : mj_at 40 105 = some (.iload_n 2) := by decide +kernel
theorem dx_40_106 : mj_at 40 106 = some (.if_icmp .ge 7) := by decide +kernel
theorem dx_40_109 : mj_at 40 109 = some (.iconst 1) := by decide +kernel
theorem dx_40_110 : mj_at 40 110 = some (.goto 4) := by decide +kernel
theorem dx_40_113 : mj_at 40 113 = some (.iconst 0) := by decide +kernel
theorem dx_40_114 : mj_at 40 114 = some (.ireturn) := by decide +kernel
theorem dx_40_115 : mj_at 40 115 = some (.iload_n 1) := by decide +kernel
theorem dx_40_116 : mj_at 40 116 = some (.iload_n 2) := by decide +kernel
theorem dx_40_117 : mj_at 40 117 = some (.if_icmp .le 7) := by decide +kernel
theorem dx_40_120 : mj_at 40 120 = some (.iconst 1) := by decide +kernel
theorem dx_40_121 : mj_at 40 121 = some (.goto 4) := by decide +kernel
theorem dx_40_124 : mj_at 40 124 = some (.iconst 0) := by decide +kernel
theorem dx_40_125 : mj_at 40 125 = some (.ireturn) := by decide +kernel
theorem dx_40_126 : mj_at 40 126 = some (.iload_n 1) := by decide +kernel
theorem dx_40_127 : mj_at 40 127 = some (.iload_n 2) := by decide +kernel
theorem dx_40_128 : mj_at 40 128 = some (.if_icmp .ne 7) := by decide +kernel
theorem dx_40_131 : mj_at 40 131 = some (.iconst 1) := by decide +kernel
theorem dx_40_132 : mj_at 40 132 = some (.goto 4) := by decide +kernel
theorem dx_40_135 : mj_at 40 135 = some (.iconst 0) := by decide +kernel
theorem dx_40_136 : mj_at 40 136 = some (.ireturn) := by decide +kernel
set_option maxRecDepth 10000 in
theorem b_X3_reckon {sl d : Nat} {M : mj_M} {x1 : Int32} {x2 : Int32} {x3 : Int32}  : mj_C sl d 40 [.int x1, .int x2, .int x3] M = if x1 = 37 then (if x3 = 0 then (some ((0 : Int32), M)) else (if x3 = 0 then none else (some ((mj_rm x2 x3 : Int32), M)))) else (if x1 = 42 then (some ((x2 * x3 : Int32), M)) else (if x1 = 43 then (some ((x2 + x3 : Int32), M)) else (if x1 = 45 then (some ((x2 - x3 : Int32), M)) else (if x1 = 47 then (if x3 = 0 then (some ((0 : Int32), M)) else (if x3 = 0 then none else (some ((x2 / x3 : Int32), M)))) else (if x1 = 60 then (if x2 < x3 then (some ((1 : Int32), M)) else (some ((0 : Int32), M))) else (if x1 = 62 then (if x2 ≤ x3 then (some ((0 : Int32), M)) else (some ((1 : Int32), M))) else (if x2 = x3 then (some ((1 : Int32), M)) else (some ((0 : Int32), M))))))))) := by
  show mj_E sl d 40 0 [.int x1, .int x2, .int x3] [] M = _
  refine (sx_iload_n dx_40_0 rfl).trans ?_
  refine mj_sel (fun hx1_0 => ?_) (fun hx1_0 => ?_)
  · refine (sx_lsw (off := 91) (tgt := 92) dx_40_1 (by decide) (by rw [hx1_0]; decide) (by decide)).trans ?_
    refine (sx_iload_n dx_40_92 rfl).trans ?_
    refine (sx_if_ne (tgt := 100) dx_40_93 (by decide)).trans ?_
    refine mj_ite ?_ ?_
    · refine (sx_iconst (v := 0) dx_40_96 rfl).trans ?_
      refine (sx_goto (tgt := 103) dx_40_97 (by decide)).trans ?_
      exact sx_reti dx_40_103 rt_40
    · refine (sx_iload_n dx_40_100 rfl).trans ?_
      refine (sx_iload_n dx_40_101 rfl).trans ?_
      refine (sx_iremg dx_40_102).trans ?_
      refine mj_ite rfl ?_
      exact sx_reti dx_40_103 rt_40
  refine mj_sel (fun hx1_1 => ?_) (fun hx1_1 => ?_)
  · refine (sx_lsw (off := 75) (tgt := 76) dx_40_1 (by decide) (by rw [hx1_1]; decide) (by decide)).trans ?_
    refine (sx_iload_n dx_40_76 rfl).trans ?_
    refine (sx_iload_n dx_40_77 rfl).trans ?_
    refine (sx_imul dx_40_78).trans ?_
    exact sx_reti dx_40_79 rt_40
  refine mj_sel (fun hx1_2 => ?_) (fun hx1_2 => ?_)
  · refine (sx_lsw (off := 67) (tgt := 68) dx_40_1 (by decide) (by rw [hx1_2]; decide) (by decide)).trans ?_
    refine (sx_iload_n dx_40_68 rfl).trans ?_
    refine (sx_iload_n dx_40_69 rfl).trans ?_
    refine (sx_iadd dx_40_70).trans ?_
    exact sx_reti dx_40_71 rt_40
  refine mj_sel (fun hx1_3 => ?_) (fun hx1_3 => ?_)
  · refine (sx_lsw (off := 71) (tgt := 72) dx_40_1 (by decide) (by rw [hx1_3]; decide) (by decide)).trans ?_
    refine (sx_iload_n dx_40_72 rfl).trans ?_
    refine (sx_iload_n dx_40_73 rfl).trans ?_
    refine (sx_isub dx_40_74).trans ?_
    exact sx_reti dx_40_75 rt_40
  refine mj_sel (fun hx1_4 => ?_) (fun hx1_4 => ?_)
  · refine (sx_lsw (off := 79) (tgt := 80) dx_40_1 (by decide) (by rw [hx1_4]; decide) (by decide)).trans ?_
    refine (sx_iload_n dx_40_80 rfl).trans ?_
    refine (sx_if_ne (tgt := 88) dx_40_81 (by decide)).trans ?_
    refine mj_ite ?_ ?_
    · refine (sx_iconst (v := 0) dx_40_84 rfl).trans ?_
      refine (sx_goto (tgt := 91) dx_40_85 (by decide)).trans ?_
      exact sx_reti dx_40_91 rt_40
    · refine (sx_iload_n dx_40_88 rfl).trans ?_
      refine (sx_iload_n dx_40_89 rfl).trans ?_
      refine (sx_idivg dx_40_90).trans ?_
      refine mj_ite rfl ?_
      exact sx_reti dx_40_91 rt_40
  refine mj_sel (fun hx1_5 => ?_) (fun hx1_5 => ?_)
  · refine (sx_lsw (off := 103) (tgt := 104) dx_40_1 (by decide) (by rw [hx1_5]; decide) (by decide)).trans ?_
    refine (sx_iload_n dx_40_104 rfl).trans ?_
    refine (sx_iload_n dx_40_105 rfl).trans ?_
    refine (sx_icmp_ge (tgt := 113) dx_40_106 (by decide)).trans ?_
    refine mj_ite ?_ ?_
    · refine (sx_iconst (v := 1) dx_40_109 rfl).trans ?_
      refine (sx_goto (tgt := 114) dx_40_110 (by decide)).trans ?_
      exact sx_reti dx_40_114 rt_40
    · refine (sx_iconst (v := 0) dx_40_113 rfl).trans ?_
      exact sx_reti dx_40_114 rt_40
  refine mj_sel (fun hx1_6 => ?_) (fun hx1_6 => ?_)
  · refine (sx_lsw (off := 114) (tgt := 115) dx_40_1 (by decide) (by rw [hx1_6]; decide) (by decide)).trans ?_
    refine (sx_iload_n dx_40_115 rfl).trans ?_
    refine (sx_iload_n dx_40_116 rfl).trans ?_
    refine (sx_icmp_le (tgt := 124) dx_40_117 (by decide)).trans ?_
    refine mj_ite ?_ ?_
    · refine (sx_iconst (v := 0) dx_40_124 rfl).trans ?_
      exact sx_reti dx_40_125 rt_40
    · refine (sx_iconst (v := 1) dx_40_120 rfl).trans ?_
      refine (sx_goto (tgt := 125) dx_40_121 (by decide)).trans ?_
      exact sx_reti dx_40_125 rt_40
  have zhx1_0 := mj_ne hx1_0 (n := 37) (by decide)
  have zhx1_1 := mj_ne hx1_1 (n := 42) (by decide)
  have zhx1_2 := mj_ne hx1_2 (n := 43) (by decide)
  have zhx1_3 := mj_ne hx1_3 (n := 45) (by decide)
  have zhx1_4 := mj_ne hx1_4 (n := 47) (by decide)
  have zhx1_5 := mj_ne hx1_5 (n := 60) (by decide)
  have zhx1_6 := mj_ne hx1_6 (n := 62) (by decide)
  refine (sx_lsw (off := 125) (tgt := 126) dx_40_1 (by decide) (by simp [Op.lookupswitch.offset, mj_nes zhx1_0, mj_nes zhx1_1, mj_nes zhx1_2, mj_nes zhx1_3, mj_nes zhx1_4, mj_nes zhx1_5, mj_nes zhx1_6]) (by decide)).trans ?_
  refine (sx_iload_n dx_40_126 rfl).trans ?_
  refine (sx_iload_n dx_40_127 rfl).trans ?_
  refine (sx_icmp_ne (tgt := 135) dx_40_128 (by decide)).trans ?_
  refine mj_ite ?_ ?_
  · refine (sx_iconst (v := 1) dx_40_131 rfl).trans ?_
    refine (sx_goto (tgt := 136) dx_40_132 (by decide)).trans ?_
    exact sx_reti dx_40_136 rt_40
  · refine (sx_iconst (v := 0) dx_40_135 rfl).trans ?_
    exact sx_reti dx_40_136 rt_40
theorem dx_41_0 : mj_at 41 0 = some (.aload_n 0) := by decide +kernel
theorem dx_41_1 : mj_at 41 1 = some (.iconst 0) := by decide +kernel
theorem dx_41_2 : mj_at 41 2 = some (.putfield 47) := by decide +kernel
theorem dx_41_5 : mj_at 41 5 = some (.aload_n 0) := by decide +kernel
theorem dx_41_6 : mj_at 41 6 = some (.iconst 0) := by decide +kernel
theorem dx_41_7 : mj_at 41 7 = some (.putfield 30) := by decide +kernel
theorem dx_41_10 : mj_at 41 10 = some (.return_) := by decide +kernel
set_option maxRecDepth 10000 in
theorem b_X3_begin {sl d : Nat} {M : mj_M} {t0 : Nat} (ht0 : mj_ocl t0 = 1) : mj_C sl d 41 [.ref t0] M = some ((0 : Int32), mj_st (mj_st M t0 6 0) t0 7 0) := by
  show mj_E sl d 41 0 [.ref t0] [] M = _
  refine (sx_aload_n dx_41_0 rfl).trans ?_
  refine (sx_iconst (v := 0) dx_41_1 rfl).trans ?_
  refine (sx_pfi dx_41_2 ow_41 fx_1_47 ht0).trans ?_
  refine (sx_aload_n dx_41_5 rfl).trans ?_
  refine (sx_iconst (v := 0) dx_41_6 rfl).trans ?_
  refine (sx_pfi dx_41_7 ow_41 fx_1_30 ht0).trans ?_
  exact sx_retv dx_41_10 rt_41
theorem dx_42_0 : mj_at 42 0 = some (.aload_n 0) := by decide +kernel
theorem dx_42_1 : mj_at 42 1 = some (.getfield 47) := by decide +kernel
theorem dx_42_4 : mj_at 42 4 = some (.sipush 480) := by decide +kernel
theorem dx_42_7 : mj_at 42 7 = some (.if_icmp .ge 23) := by decide +kernel
theorem dx_42_10 : mj_at 42 10 = some (.aload_n 0) := by decide +kernel
theorem dx_42_11 : mj_at 42 11 = some (.getfield 11) := by decide +kernel
theorem dx_42_14 : mj_at 42 14 = some (.aload_n 0) := by decide +kernel
theorem dx_42_15 : mj_at 42 15 = some (.getfield 47) := by decide +kernel
theorem dx_42_18 : mj_at 42 18 = some (.iload_n 1) := by decide +kernel
theorem dx_42_19 : mj_at 42 19 = some (.iastore) := by decide +kernel
theorem dx_42_20 : mj_at 42 20 = some (.aload_n 0) := by decide +kernel
theorem dx_42_21 : mj_at 42 21 = some (.dup) := by decide +kernel
theorem dx_42_22 : mj_at 42 22 = some (.getfield 47) := by decide +kernel
theorem dx_42_25 : mj_at 42 25 = some (.iconst 1) := by decide +kernel
theorem dx_42_26 : mj_at 42 26 = some (.iadd) := by decide +kernel
theorem dx_42_27 : mj_at 42 27 = some (.putfield 47) := by decide +kernel
theorem dx_42_30 : mj_at 42 30 = some (.return_) := by decide +kernel
set_option maxRecDepth 10000 in
theorem b_X3_put {sl d : Nat} {M : mj_M} {t0 : Nat} {x1 : Int32} (ht0 : mj_ocl t0 = 1) : mj_C sl d 42 [.ref t0, .int x1] M = if M t0 6 < 480 then (if mj_inB (M t0 6) 480 = true then (some ((0 : Int32), mj_st (mj_st M (t0 + 1) (M t0 6 : Int32).toNatClampNeg x1) t0 6 (((mj_st M (t0 + 1) (M t0 6 : Int32).toNatClampNeg x1) t0 6) + 1))) else none) else (some ((0 : Int32), M)) := by
  show mj_E sl d 42 0 [.ref t0, .int x1] [] M = _
  refine (sx_aload_n dx_42_0 rfl).trans ?_
  refine (sx_gfi dx_42_1 ow_42 fx_1_47 (by decide) ht0).trans ?_
  refine (sx_sipush (v := 480) dx_42_4 rfl).trans ?_
  refine (sx_icmp_ge (tgt := 30) dx_42_7 (by decide)).trans ?_
  refine mj_ite ?_ ?_
  · refine (sx_aload_n dx_42_10 rfl).trans ?_
    refine (sx_gfr dx_42_11 ow_42 fx_1_11 ht0 (rbL_0 ht0)).trans ?_
    refine (sx_aload_n dx_42_14 rfl).trans ?_
    refine (sx_gfi dx_42_15 ow_42 fx_1_47 (by decide) ht0).trans ?_
    refine (sx_iload_n dx_42_18 rfl).trans ?_
    refine (sx_ist dx_42_19 (iaL_0 ht0)).trans ?_
    refine mj_ite ?_ rfl
    refine (sx_aload_n dx_42_20 rfl).trans ?_
    refine (sx_dupa dx_42_21).trans ?_
    refine (sx_gfi dx_42_22 ow_42 fx_1_47 (by decide) ht0).trans ?_
    refine (sx_iconst (v := 1) dx_42_25 rfl).trans ?_
    refine (sx_iadd dx_42_26).trans ?_
    refine (sx_pfi dx_42_27 ow_42 fx_1_47 ht0).trans ?_
    exact sx_retv dx_42_30 rt_42
  · exact sx_retv dx_42_30 rt_42
theorem dx_43_0 : mj_at 43 0 = some (.aload_n 0) := by decide +kernel
theorem dx_43_1 : mj_at 43 1 = some (.iload_n 1) := by decide +kernel
theorem dx_43_2 : mj_at 43 2 = some (.invokevirtual 54) := by decide +kernel
theorem dx_43_5 : mj_at 43 5 = some (.aload_n 0) := by decide +kernel
theorem dx_43_6 : mj_at 43 6 = some (.sipush 480) := by decide +kernel
theorem dx_43_9 : mj_at 43 9 = some (.invokevirtual 54) := by decide +kernel
theorem dx_43_12 : mj_at 43 12 = some (.aload_n 0) := by decide +kernel
theorem dx_43_13 : mj_at 43 13 = some (.getfield 47) := by decide +kernel
theorem dx_43_16 : mj_at 43 16 = some (.iconst 1) := by decide +kernel
theorem dx_43_17 : mj_at 43 17 = some (.isub) := by decide +kernel
theorem dx_43_18 : mj_at 43 18 = some (.ireturn) := by decide +kernel
set_option maxRecDepth 10000 in
theorem b_X3_putLeap {sl d : Nat} {M : mj_M} {t0 : Nat} {x1 : Int32} (ht0 : mj_ocl t0 = 1) : mj_C sl (d + 1) 43 [.ref t0, .int x1] M = (mj_C sl d 42 [.ref t0, .int x1] M).bind (fun q1 => (mj_C sl d 42 [.ref t0, .int 480] q1.2).bind (fun q2 => some (((q2.2 t0 6) - 1 : Int32), q2.2))) := by
  show mj_E sl (d + 1) 43 0 [.ref t0, .int x1] [] M = _
  refine (sx_aload_n dx_43_0 rfl).trans ?_
  refine (sx_iload_n dx_43_1 rfl).trans ?_
  refine (sx_v1v dx_43_2 ow_43 cx_1_54 ht0 (Nat.le_of_ble_eq_true rfl)).trans ?_
  refine mj_bnd (fun q1 => ?_)
  refine (sx_aload_n dx_43_5 rfl).trans ?_
  refine (sx_sipush (v := 480) dx_43_6 rfl).trans ?_
  refine (sx_v1v dx_43_9 ow_43 cx_1_54 ht0 (Nat.le_of_ble_eq_true rfl)).trans ?_
  refine mj_bnd (fun q2 => ?_)
  refine (sx_aload_n dx_43_12 rfl).trans ?_
  refine (sx_gfi dx_43_13 ow_43 fx_1_47 (by decide) ht0).trans ?_
  refine (sx_iconst (v := 1) dx_43_16 rfl).trans ?_
  refine (sx_isub dx_43_17).trans ?_
  exact sx_reti dx_43_18 rt_43
theorem dx_44_0 : mj_at 44 0 = some (.iload_n 1) := by decide +kernel
theorem dx_44_1 : mj_at 44 1 = some (.ifCond .lt 20) := by decide +kernel
theorem dx_44_4 : mj_at 44 4 = some (.iload_n 1) := by decide +kernel
theorem dx_44_5 : mj_at 44 5 = some (.sipush 480) := by decide +kernel
theorem dx_44_8 : mj_at 44 8 = some (.if_icmp .ge 13) := by decide +kernel
theorem dx_44_11 : mj_at 44 11 = some (.aload_n 0) := by decide +kernel
theorem dx_44_12 : mj_at 44 12 = some (.getfield 11) := by decide +kernel
theorem dx_44_15 : mj_at 44 15 = some (.iload_n 1) := by decide +kernel
theorem dx_44_16 : mj_at 44 16 = some (.aload_n 0) := by decide +kernel
theorem dx_44_17 : mj_at 44 17 = some (.getfield 47) := by decide +kernel
theorem dx_44_20 : mj_at 44 20 = some (.iastore) := by decide +kernel
theorem dx_44_21 : mj_at 44 21 = some (.return_) := by decide +kernel
set_option maxRecDepth 10000 in
theorem b_X3_endLeap {sl d : Nat} {M : mj_M} {t0 : Nat} {x1 : Int32} (ht0 : mj_ocl t0 = 1) : mj_C sl d 44 [.ref t0, .int x1] M = if x1 < 0 then (some ((0 : Int32), M)) else (if x1 < 480 then (if mj_inB x1 480 = true then (some ((0 : Int32), mj_st M (t0 + 1) (x1 : Int32).toNatClampNeg (M t0 6))) else none) else (some ((0 : Int32), M))) := by
  show mj_E sl d 44 0 [.ref t0, .int x1] [] M = _
  refine (sx_iload_n dx_44_0 rfl).trans ?_
  refine (sx_if_lt (tgt := 21) dx_44_1 (by decide)).trans ?_
  refine mj_ite ?_ ?_
  · exact sx_retv dx_44_21 rt_44
  · refine (sx_iload_n dx_44_4 rfl).trans ?_
    refine (sx_sipush (v := 480) dx_44_5 rfl).trans ?_
    refine (sx_icmp_ge (tgt := 21) dx_44_8 (by decide)).trans ?_
    refine mj_ite ?_ ?_
    · refine (sx_aload_n dx_44_11 rfl).trans ?_
      refine (sx_gfr dx_44_12 ow_44 fx_1_11 ht0 (rbL_0 ht0)).trans ?_
      refine (sx_iload_n dx_44_15 rfl).trans ?_
      refine (sx_aload_n dx_44_16 rfl).trans ?_
      refine (sx_gfi dx_44_17 ow_44 fx_1_47 (by decide) ht0).trans ?_
      refine (sx_ist dx_44_20 (iaL_0 ht0)).trans ?_
      refine mj_ite ?_ rfl
      exact sx_retv dx_44_21 rt_44
    · exact sx_retv dx_44_21 rt_44
theorem dx_45_0 : mj_at 45 0 = some (.aload_n 0) := by decide +kernel
theorem dx_45_1 : mj_at 45 1 = some (.getfield 30) := by decide +kernel
theorem dx_45_4 : mj_at 45 4 = some (.bipush 16) := by decide +kernel
theorem dx_45_6 : mj_at 45 6 = some (.if_icmp .ge 43) := by decide +kernel
theorem dx_45_9 : mj_at 45 9 = some (.aload_n 0) := by decide +kernel
theorem dx_45_10 : mj_at 45 10 = some (.getfield 21) := by decide +kernel
theorem dx_45_13 : mj_at 45 13 = some (.aload_n 0) := by decide +kernel
theorem dx_45_14 : mj_at 45 14 = some (.getfield 30) := by decide +kernel
theorem dx_45_17 : mj_at 45 17 = some (.iload_n 1) := by decide +kernel
theorem dx_45_18 : mj_at 45 18 = some (.iastore) := by decide +kernel
theorem dx_45_19 : mj_at 45 19 = some (.aload_n 0) := by decide +kernel
theorem dx_45_20 : mj_at 45 20 = some (.getfield 24) := by decide +kernel
theorem dx_45_23 : mj_at 45 23 = some (.aload_n 0) := by decide +kernel
theorem dx_45_24 : mj_at 45 24 = some (.getfield 30) := by decide +kernel
theorem dx_45_27 : mj_at 45 27 = some (.iload_n 2) := by decide +kernel
theorem dx_45_28 : mj_at 45 28 = some (.iastore) := by decide +kernel
theorem dx_45_29 : mj_at 45 29 = some (.aload_n 0) := by decide +kernel
theorem dx_45_30 : mj_at 45 30 = some (.getfield 27) := by decide +kernel
theorem dx_45_33 : mj_at 45 33 = some (.aload_n 0) := by decide +kernel
theorem dx_45_34 : mj_at 45 34 = some (.getfield 30) := by decide +kernel
theorem dx_45_37 : mj_at 45 37 = some (.iload_n 3) := by decide +kernel
theorem dx_45_38 : mj_at 45 38 = some (.iastore) := by decide +kernel
theorem dx_45_39 : mj_at 45 39 = some (.aload_n 0) := by decide +kernel
theorem dx_45_40 : mj_at 45 40 = some (.dup) := by decide +kernel
theorem dx_45_41 : mj_at 45 41 = some (.getfield 30) := by decide +kernel
theorem dx_45_44 : mj_at 45 44 = some (.iconst 1) := by decide +kernel
theorem dx_45_45 : mj_at 45 45 = some (.iadd) := by decide +kernel
theorem dx_45_46 : mj_at 45 46 = some (.putfield 30) := by decide +kernel
theorem dx_45_49 : mj_at 45 49 = some (.return_) := by decide +kernel
set_option maxRecDepth 10000 in
theorem b_X3_addRule {sl d : Nat} {M : mj_M} {t0 : Nat} {x1 : Int32} {x2 : Int32} {x3 : Int32} (ht0 : mj_ocl t0 = 1) : mj_C sl d 45 [.ref t0, .int x1, .int x2, .int x3] M = if M t0 7 < 16 then (if mj_inB (M t0 7) 16 = true then (if mj_inB ((mj_st M (t0 + 4) (M t0 7 : Int32).toNatClampNeg x1) t0 7) 16 = true then (if mj_inB ((mj_st (mj_st M (t0 + 4) (M t0 7 : Int32).toNatClampNeg x1) (t0 + 5) ((mj_st M (t0 + 4) (M t0 7 : Int32).toNatClampNeg x1) t0 7 : Int32).toNatClampNeg x2) t0 7) 16 = true then (some ((0 : Int32), mj_st (mj_st (mj_st (mj_st M (t0 + 4) (M t0 7 : Int32).toNatClampNeg x1) (t0 + 5) ((mj_st M (t0 + 4) (M t0 7 : Int32).toNatClampNeg x1) t0 7 : Int32).toNatClampNeg x2) (t0 + 6) ((mj_st (mj_st M (t0 + 4) (M t0 7 : Int32).toNatClampNeg x1) (t0 + 5) ((mj_st M (t0 + 4) (M t0 7 : Int32).toNatClampNeg x1) t0 7 : Int32).toNatClampNeg x2) t0 7 : Int32).toNatClampNeg x3) t0 7 (((mj_st (mj_st (mj_st M (t0 + 4) (M t0 7 : Int32).toNatClampNeg x1) (t0 + 5) ((mj_st M (t0 + 4) (M t0 7 : Int32).toNatClampNeg x1) t0 7 : Int32).toNatClampNeg x2) (t0 + 6) ((mj_st (mj_st M (t0 + 4) (M t0 7 : Int32).toNatClampNeg x1) (t0 + 5) ((mj_st M (t0 + 4) (M t0 7 : Int32).toNatClampNeg x1) t0 7 : Int32).toNatClampNeg x2) t0 7 : Int32).toNatClampNeg x3) t0 7) + 1))) else none) else none) else none) else (some ((0 : Int32), M)) := by
  show mj_E sl d 45 0 [.ref t0, .int x1, .int x2, .int x3] [] M = _
  refine (sx_aload_n dx_45_0 rfl).trans ?_
  refine (sx_gfi dx_45_1 ow_45 fx_1_30 (by decide) ht0).trans ?_
  refine (sx_bipush (v := 16) dx_45_4 rfl).trans ?_
  refine (sx_icmp_ge (tgt := 49) dx_45_6 (by decide)).trans ?_
  refine mj_ite ?_ ?_
  · refine (sx_aload_n dx_45_9 rfl).trans ?_
    refine (sx_gfr dx_45_10 ow_45 fx_1_21 ht0 (rbL_3 ht0)).trans ?_
    refine (sx_aload_n dx_45_13 rfl).trans ?_
    refine (sx_gfi dx_45_14 ow_45 fx_1_30 (by decide) ht0).trans ?_
    refine (sx_iload_n dx_45_17 rfl).trans ?_
    refine (sx_ist dx_45_18 (iaL_3 ht0)).trans ?_
    refine mj_ite ?_ rfl
    refine (sx_aload_n dx_45_19 rfl).trans ?_
    refine (sx_gfr dx_45_20 ow_45 fx_1_24 ht0 (rbL_4 ht0)).trans ?_
    refine (sx_aload_n dx_45_23 rfl).trans ?_
    refine (sx_gfi dx_45_24 ow_45 fx_1_30 (by decide) ht0).trans ?_
    refine (sx_iload_n dx_45_27 rfl).trans ?_
    refine (sx_ist dx_45_28 (iaL_4 ht0)).trans ?_
    refine mj_ite ?_ rfl
    refine (sx_aload_n dx_45_29 rfl).trans ?_
    refine (sx_gfr dx_45_30 ow_45 fx_1_27 ht0 (rbL_5 ht0)).trans ?_
    refine (sx_aload_n dx_45_33 rfl).trans ?_
    refine (sx_gfi dx_45_34 ow_45 fx_1_30 (by decide) ht0).trans ?_
    refine (sx_iload_n dx_45_37 rfl).trans ?_
    refine (sx_ist dx_45_38 (iaL_5 ht0)).trans ?_
    refine mj_ite ?_ rfl
    refine (sx_aload_n dx_45_39 rfl).trans ?_
    refine (sx_dupa dx_45_40).trans ?_
    refine (sx_gfi dx_45_41 ow_45 fx_1_30 (by decide) ht0).trans ?_
    refine (sx_iconst (v := 1) dx_45_44 rfl).trans ?_
    refine (sx_iadd dx_45_45).trans ?_
    refine (sx_pfi dx_45_46 ow_45 fx_1_30 ht0).trans ?_
    exact sx_retv dx_45_49 rt_45
  · exact sx_retv dx_45_49 rt_45
theorem dx_67_0 : mj_at 67 0 = some (.aload_n 0) := by decide +kernel
theorem dx_67_1 : mj_at 67 1 = some (.iconst 0) := by decide +kernel
theorem dx_67_2 : mj_at 67 2 = some (.putfield 24) := by decide +kernel
theorem dx_67_5 : mj_at 67 5 = some (.aload_n 0) := by decide +kernel
theorem dx_67_6 : mj_at 67 6 = some (.iconst 0) := by decide +kernel
theorem dx_67_7 : mj_at 67 7 = some (.putfield 28) := by decide +kernel
theorem dx_67_10 : mj_at 67 10 = some (.iconst 0) := by decide +kernel
theorem dx_67_11 : mj_at 67 11 = some (.istore_n 3) := by decide +kernel
theorem dx_67_12 : mj_at 67 12 = some (.iconst 0) := by decide +kernel
theorem dx_67_13 : mj_at 67 13 = some (.istore 4) := by decide +kernel
theorem dx_67_15 : mj_at 67 15 = some (.iload 4) := by decide +kernel
theorem dx_67_17 : mj_at 67 17 = some (.iload_n 2) := by decide +kernel
theorem dx_67_18 : mj_at 67 18 = some (.if_icmp .ge 107) := by decide +kernel
theorem dx_67_21 : mj_at 67 21 = some (.iload_n 3) := by decide +kernel
theorem dx_67_22 : mj_at 67 22 = some (.iload_n 2) := by decide +kernel
theorem dx_67_23 : mj_at 67 23 = some (.if_icmp .ge 102) := by decide +kernel
theorem dx_67_26 : mj_at 67 26 = some (.aload_n 1) := by decide +kernel
theorem dx_67_27 : mj_at 67 27 = some (.iload_n 3) := by decide +kernel
theorem dx_67_28 : mj_at 67 28 = some (.invokevirtual 31) := by decide +kernel
theorem dx_67_31 : mj_at 67 31 = some (.istore 5) := by decide +kernel
theorem dx_67_33 : mj_at 67 33 = some (.iload 5) := by decide +kernel
theorem dx_67_35 : mj_at 67 35 = some (.bipush 40) := by decide +kernel
theorem dx_67_37 : mj_at 67 37 = some (.if_icmp .ne 7) := by decide +kernel
theorem dx_67_40 : mj_at 67 40 = some (.iconst 1) := by decide +kernel
theorem dx_67_41 : mj_at 67 41 = some (.goto 11) := by decide +kernel
theorem dx_67_44 : mj_at 67 44 = some (.aload_n 1) := by decide +kernel
theorem dx_67_45 : mj_at 67 45 = some (.iload_n 2) := by decide +kernel
theorem dx_67_46 : mj_at 67 46 = some (.iload_n 3) := by decide +kernel
theorem dx_67_47 : mj_at 67 47 = some (.iconst 1) := by decide +kernel
theorem dx_67_48 : mj_at 67 48 = some (.iadd) := by decide +kernel
theorem dx_67_49 : mj_at 67 49 = some (.invokestatic 37) := by decide +kernel
theorem dx_67_52 : mj_at 67 52 = some (.istore 6) := by decide +kernel
theorem dx_67_54 : mj_at 67 54 = some (.iload 5) := by decide +kernel
theorem dx_67_56 : mj_at 67 56 = some (.bipush 40) := by decide +kernel
theorem dx_67_58 : mj_at 67 58 = some (.if_icmp .ne 11) := by decide +kernel
theorem dx_67_61 : mj_at 67 61 = some (.aload_n 0) := by decide +kernel
theorem dx_67_62 : mj_at 67 62 = some (.iload_n 3) := by decide +kernel
theorem dx_67_63 : mj_at 67 63 = some (.invokevirtual 41) := by decide +kernel
theorem dx_67_66 : mj_at 67 66 = some (.goto 29) := by decide +kernel
theorem dx_67_69 : mj_at 67 69 = some (.iload 5) := by decide +kernel
theorem dx_67_71 : mj_at 67 71 = some (.bipush 41) := by decide +kernel
theorem dx_67_73 : mj_at 67 73 = some (.if_icmp .ne 13) := by decide +kernel
theorem dx_67_76 : mj_at 67 76 = some (.aload_n 0) := by decide +kernel
theorem dx_67_77 : mj_at 67 77 = some (.iload_n 3) := by decide +kernel
theorem dx_67_78 : mj_at 67 78 = some (.iload 6) := by decide +kernel
theorem dx_67_80 : mj_at 67 80 = some (.invokevirtual 44) := by decide +kernel
theorem dx_67_83 : mj_at 67 83 = some (.goto 12) := by decide +kernel
theorem dx_67_86 : mj_at 67 86 = some (.aload_n 0) := by decide +kernel
theorem dx_67_87 : mj_at 67 87 = some (.iload 5) := by decide +kernel
theorem dx_67_89 : mj_at 67 89 = some (.iload_n 3) := by decide +kernel
theorem dx_67_90 : mj_at 67 90 = some (.iload 6) := by decide +kernel
theorem dx_67_92 : mj_at 67 92 = some (.invokevirtual 48) := by decide +kernel
theorem dx_67_95 : mj_at 67 95 = some (.istore 7) := by decide +kernel
theorem dx_67_97 : mj_at 67 97 = some (.iload 7) := by decide +kernel
theorem dx_67_99 : mj_at 67 99 = some (.ifCond .eq 6) := by decide +kernel
theorem dx_67_102 : mj_at 67 102 = some (.iload 7) := by decide +kernel
theorem dx_67_104 : mj_at 67 104 = some (.ireturn) := by decide +kernel
theorem dx_67_105 : mj_at 67 105 = some (.iload_n 3) := by decide +kernel
theorem dx_67_106 : mj_at 67 106 = some (.iload 6) := by decide +kernel
theorem dx_67_108 : mj_at 67 108 = some (.iconst 1) := by decide +kernel
theorem dx_67_109 : mj_at 67 109 = some (.if_icmp .le 7) := by decide +kernel
theorem dx_67_112 : mj_at 67 112 = some (.iconst 2) := by decide +kernel
theorem dx_67_113 : mj_at 67 113 = some (.goto 4) := by decide +kernel
theorem dx_67_116 : mj_at 67 116 = some (.iconst 1) := by decide +kernel
theorem dx_67_117 : mj_at 67 117 = some (.iadd) := by decide +kernel
theorem dx_67_118 : mj_at 67 118 = some (.istore_n 3) := by decide +kernel
theorem dx_67_119 : mj_at 67 119 = some (.iinc 4 1) := by decide +kernel
theorem dx_67_122 : mj_at 67 122 = some (.goto (-107)) := by decide +kernel
theorem dx_67_125 : mj_at 67 125 = some (.aload_n 0) := by decide +kernel
theorem dx_67_126 : mj_at 67 126 = some (.getfield 28) := by decide +kernel
theorem dx_67_129 : mj_at 67 129 = some (.ifCond .le 9) := by decide +kernel
theorem dx_67_132 : mj_at 67 132 = some (.iconst 1) := by decide +kernel
theorem dx_67_133 : mj_at 67 133 = some (.iload_n 2) := by decide +kernel
theorem dx_67_134 : mj_at 67 134 = some (.invokestatic 52) := by decide +kernel
theorem dx_67_137 : mj_at 67 137 = some (.ireturn) := by decide +kernel
theorem dx_67_138 : mj_at 67 138 = some (.aload_n 0) := by decide +kernel
theorem dx_67_139 : mj_at 67 139 = some (.getfield 15) := by decide +kernel
theorem dx_67_142 : mj_at 67 142 = some (.iconst 0) := by decide +kernel
theorem dx_67_143 : mj_at 67 143 = some (.aload_n 0) := by decide +kernel
theorem dx_67_144 : mj_at 67 144 = some (.getfield 9) := by decide +kernel
theorem dx_67_147 : mj_at 67 147 = some (.iconst 0) := by decide +kernel
theorem dx_67_148 : mj_at 67 148 = some (.aload_n 0) := by decide +kernel
theorem dx_67_149 : mj_at 67 149 = some (.getfield 24) := by decide +kernel
theorem dx_67_152 : mj_at 67 152 = some (.invokestatic 55) := by decide +kernel
theorem dx_67_155 : mj_at 67 155 = some (.aload_n 0) := by decide +kernel
theorem dx_67_156 : mj_at 67 156 = some (.aload_n 0) := by decide +kernel
theorem dx_67_157 : mj_at 67 157 = some (.getfield 24) := by decide +kernel
theorem dx_67_160 : mj_at 67 160 = some (.putfield 61) := by decide +kernel
theorem dx_67_163 : mj_at 67 163 = some (.aload_n 0) := by decide +kernel
theorem dx_67_164 : mj_at 67 164 = some (.getfield 24) := by decide +kernel
theorem dx_67_167 : mj_at 67 167 = some (.ireturn) := by decide +kernel
set_option maxRecDepth 10000 in
theorem b_X6_readOrder {sl d : Nat} {M : mj_M} {x2 : Int32}  : mj_C sl (d + 1) 67 [.ref 23, .ref 21, .int x2] M = mj_E sl (d + 1) 67 15 [.ref 23, .ref 21, .int x2, .int 0, .int 0, .null, .null, .null] [] (mj_st (mj_st M 23 5 0) 23 6 0) := by
  show mj_E sl (d + 1) 67 0 [.ref 23, .ref 21, .int x2, .null, .null, .null, .null, .null] [] M = _
  refine (sx_aload_n dx_67_0 rfl).trans ?_
  refine (sx_iconst (v := 0) dx_67_1 rfl).trans ?_
  refine (sx_pfi dx_67_2 ow_67 fx_4_24 oc_23).trans ?_
  refine (sx_aload_n dx_67_5 rfl).trans ?_
  refine (sx_iconst (v := 0) dx_67_6 rfl).trans ?_
  refine (sx_pfi dx_67_7 ow_67 fx_4_28 oc_23).trans ?_
  refine (sx_iconst (v := 0) dx_67_10 rfl).trans ?_
  refine (sx_istore_n dx_67_11 (Nat.le_of_ble_eq_true rfl) rfl).trans ?_
  refine (sx_iconst (v := 0) dx_67_12 rfl).trans ?_
  refine (sx_istore dx_67_13 (Nat.le_of_ble_eq_true rfl) rfl).trans ?_
  rfl
set_option maxRecDepth 10000 in
theorem b_X6_readOrder_15 {sl d : Nat} {M : mj_M} {y2 : Int32} {y3 : Int32} {y4 : Int32} {w5 : Value} {w6 : Value} {w7 : Value}  : mj_E sl (d + 1) 67 15 [.ref 23, .ref 21, .int y2, .int y3, .int y4, w5, w6, w7] [] M = if y4 < y2 then (if y3 < y2 then ((mj_C sl d 76 [.ref 21, .int y3] M).bind (fun q1 => if q1.1 = 40 then (if q1.1 = 40 then ((mj_C sl d 68 [.ref 23, .int y3] q1.2).bind (fun q2 => if q2.1 = 0 then (mj_E sl (d + 1) 67 15 [.ref 23, .ref 21, .int y2, .int (y3 + 1), .int (y4 + 1), .int q1.1, .int 1, .int q2.1] [] q2.2) else (some ((q2.1 : Int32), q2.2)))) else (if q1.1 = 41 then ((mj_C sl d 69 [.ref 23, .int y3, .int 1] q1.2).bind (fun q3 => if q3.1 = 0 then (mj_E sl (d + 1) 67 15 [.ref 23, .ref 21, .int y2, .int (y3 + 1), .int (y4 + 1), .int q1.1, .int 1, .int q3.1] [] q3.2) else (some ((q3.1 : Int32), q3.2)))) else ((mj_C sl d 70 [.ref 23, .int q1.1, .int y3, .int 1] q1.2).bind (fun q4 => if q4.1 = 0 then (mj_E sl (d + 1) 67 15 [.ref 23, .ref 21, .int y2, .int (y3 + 1), .int (y4 + 1), .int q1.1, .int 1, .int q4.1] [] q4.2) else (some ((q4.1 : Int32), q4.2)))))) else ((mj_C sl d 72 [.ref 21, .int y2, .int (y3 + 1)] q1.2).bind (fun q5 => if q1.1 = 40 then ((mj_C sl d 68 [.ref 23, .int y3] q5.2).bind (fun q6 => if q6.1 = 0 then (if q5.1 ≤ 1 then (mj_E sl (d + 1) 67 15 [.ref 23, .ref 21, .int y2, .int (y3 + 1), .int (y4 + 1), .int q1.1, .int q5.1, .int q6.1] [] q6.2) else (mj_E sl (d + 1) 67 15 [.ref 23, .ref 21, .int y2, .int (y3 + 2), .int (y4 + 1), .int q1.1, .int q5.1, .int q6.1] [] q6.2)) else (some ((q6.1 : Int32), q6.2)))) else (if q1.1 = 41 then ((mj_C sl d 69 [.ref 23, .int y3, .int q5.1] q5.2).bind (fun q7 => if q7.1 = 0 then (if q5.1 ≤ 1 then (mj_E sl (d + 1) 67 15 [.ref 23, .ref 21, .int y2, .int (y3 + 1), .int (y4 + 1), .int q1.1, .int q5.1, .int q7.1] [] q7.2) else (mj_E sl (d + 1) 67 15 [.ref 23, .ref 21, .int y2, .int (y3 + 2), .int (y4 + 1), .int q1.1, .int q5.1, .int q7.1] [] q7.2)) else (some ((q7.1 : Int32), q7.2)))) else ((mj_C sl d 70 [.ref 23, .int q1.1, .int y3, .int q5.1] q5.2).bind (fun q8 => if q8.1 = 0 then (if q5.1 ≤ 1 then (mj_E sl (d + 1) 67 15 [.ref 23, .ref 21, .int y2, .int (y3 + 1), .int (y4 + 1), .int q1.1, .int q5.1, .int q8.1] [] q8.2) else (mj_E sl (d + 1) 67 15 [.ref 23, .ref 21, .int y2, .int (y3 + 2), .int (y4 + 1), .int q1.1, .int q5.1, .int q8.1] [] q8.2)) else (some ((q8.1 : Int32), q8.2))))))))) else (mj_E sl (d + 1) 67 125 [.ref 23, .ref 21, .int y2, .int y3, .int y4, w5, w6, w7] [] M)) else (mj_E sl (d + 1) 67 125 [.ref 23, .ref 21, .int y2, .int y3, .int y4, w5, w6, w7] [] M) := by
  refine (sx_iload dx_67_15 rfl).trans ?_
  refine (sx_iload_n dx_67_17 rfl).trans ?_
  refine (sx_icmp_ge (tgt := 125) dx_67_18 (by decide)).trans ?_
  refine mj_ite ?_ ?_
  · refine (sx_iload_n dx_67_21 rfl).trans ?_
    refine (sx_iload_n dx_67_22 rfl).trans ?_
    refine (sx_icmp_ge (tgt := 125) dx_67_23 (by decide)).trans ?_
    refine mj_ite ?_ ?_
    · refine (sx_aload_n dx_67_26 rfl).trans ?_
      refine (sx_iload_n dx_67_27 rfl).trans ?_
      refine (sx_v1i dx_67_28 ow_67 cx_4_31 oc_21 (Nat.le_of_ble_eq_true rfl)).trans ?_
      refine mj_bnd (fun q1 => ?_)
      refine (sx_istore dx_67_31 (Nat.le_of_ble_eq_true rfl) rfl).trans ?_
      refine (sx_iload dx_67_33 rfl).trans ?_
      refine (sx_bipush (v := 40) dx_67_35 rfl).trans ?_
      refine (sx_icmp_ne (tgt := 44) dx_67_37 (by decide)).trans ?_
      refine mj_ite ?_ ?_
      · refine (sx_iconst (v := 1) dx_67_40 rfl).trans ?_
        refine (sx_goto (tgt := 52) dx_67_41 (by decide)).trans ?_
        refine (sx_istore dx_67_52 (Nat.le_of_ble_eq_true rfl) rfl).trans ?_
        refine (sx_iload dx_67_54 rfl).trans ?_
        refine (sx_bipush (v := 40) dx_67_56 rfl).trans ?_
        refine (sx_icmp_ne (tgt := 69) dx_67_58 (by decide)).trans ?_
        refine mj_ite ?_ ?_
        · refine (sx_aload_n dx_67_61 rfl).trans ?_
          refine (sx_iload_n dx_67_62 rfl).trans ?_
          refine (sx_v1i dx_67_63 ow_67 cx_4_41 oc_23 (Nat.le_of_ble_eq_true rfl)).trans ?_
          refine mj_bnd (fun q2 => ?_)
          refine (sx_goto (tgt := 95) dx_67_66 (by decide)).trans ?_
          refine (sx_istore dx_67_95 (Nat.le_of_ble_eq_true rfl) rfl).trans ?_
          refine (sx_iload dx_67_97 rfl).trans ?_
          refine (sx_if_eq (tgt := 105) dx_67_99 (by decide)).trans ?_
          refine mj_ite ?_ ?_
          · refine (sx_iload_n dx_67_105 rfl).trans ?_
            refine (sx_iload dx_67_106 rfl).trans ?_
            refine (sx_iconst (v := 1) dx_67_108 rfl).trans ?_
            refine (sx_icmp_le_t (tgt := 116) dx_67_109 (by decide) (by decide)).trans ?_
            refine (sx_iconst (v := 1) dx_67_116 rfl).trans ?_
            refine (sx_iadd dx_67_117).trans ?_
            refine (sx_istore_n dx_67_118 (Nat.le_of_ble_eq_true rfl) rfl).trans ?_
            refine (sx_iinc (v := 1) dx_67_119 rfl rfl rfl).trans ?_
            refine (sx_goto (tgt := 15) dx_67_122 (by decide)).trans ?_
            rfl
          · refine (sx_iload dx_67_102 rfl).trans ?_
            exact sx_reti dx_67_104 rt_67
        · refine (sx_iload dx_67_69 rfl).trans ?_
          refine (sx_bipush (v := 41) dx_67_71 rfl).trans ?_
          refine (sx_icmp_ne (tgt := 86) dx_67_73 (by decide)).trans ?_
          refine mj_ite ?_ ?_
          · refine (sx_aload_n dx_67_76 rfl).trans ?_
            refine (sx_iload_n dx_67_77 rfl).trans ?_
            refine (sx_iload dx_67_78 rfl).trans ?_
            refine (sx_v2i dx_67_80 ow_67 cx_4_44 oc_23 (Nat.le_of_ble_eq_true rfl)).trans ?_
            refine mj_bnd (fun q3 => ?_)
            refine (sx_goto (tgt := 95) dx_67_83 (by decide)).trans ?_
            refine (sx_istore dx_67_95 (Nat.le_of_ble_eq_true rfl) rfl).trans ?_
            refine (sx_iload dx_67_97 rfl).trans ?_
            refine (sx_if_eq (tgt := 105) dx_67_99 (by decide)).trans ?_
            refine mj_ite ?_ ?_
            · refine (sx_iload_n dx_67_105 rfl).trans ?_
              refine (sx_iload dx_67_106 rfl).trans ?_
              refine (sx_iconst (v := 1) dx_67_108 rfl).trans ?_
              refine (sx_icmp_le_t (tgt := 116) dx_67_109 (by decide) (by decide)).trans ?_
              refine (sx_iconst (v := 1) dx_67_116 rfl).trans ?_
              refine (sx_iadd dx_67_117).trans ?_
              refine (sx_istore_n dx_67_118 (Nat.le_of_ble_eq_true rfl) rfl).trans ?_
              refine (sx_iinc (v := 1) dx_67_119 rfl rfl rfl).trans ?_
              refine (sx_goto (tgt := 15) dx_67_122 (by decide)).trans ?_
              rfl
            · refine (sx_iload dx_67_102 rfl).trans ?_
              exact sx_reti dx_67_104 rt_67
          · refine (sx_aload_n dx_67_86 rfl).trans ?_
            refine (sx_iload dx_67_87 rfl).trans ?_
            refine (sx_iload_n dx_67_89 rfl).trans ?_
            refine (sx_iload dx_67_90 rfl).trans ?_
            refine (sx_v3i dx_67_92 ow_67 cx_4_48 oc_23 (Nat.le_of_ble_eq_true rfl)).trans ?_
            refine mj_bnd (fun q4 => ?_)
            refine (sx_istore dx_67_95 (Nat.le_of_ble_eq_true rfl) rfl).trans ?_
            refine (sx_iload dx_67_97 rfl).trans ?_
            refine (sx_if_eq (tgt := 105) dx_67_99 (by decide)).trans ?_
            refine mj_ite ?_ ?_
            · refine (sx_iload_n dx_67_105 rfl).trans ?_
              refine (sx_iload dx_67_106 rfl).trans ?_
              refine (sx_iconst (v := 1) dx_67_108 rfl).trans ?_
              refine (sx_icmp_le_t (tgt := 116) dx_67_109 (by decide) (by decide)).trans ?_
              refine (sx_iconst (v := 1) dx_67_116 rfl).trans ?_
              refine (sx_iadd dx_67_117).trans ?_
              refine (sx_istore_n dx_67_118 (Nat.le_of_ble_eq_true rfl) rfl).trans ?_
              refine (sx_iinc (v := 1) dx_67_119 rfl rfl rfl).trans ?_
              refine (sx_goto (tgt := 15) dx_67_122 (by decide)).trans ?_
              rfl
            · refine (sx_iload dx_67_102 rfl).trans ?_
              exact sx_reti dx_67_104 rt_67
      · refine (sx_aload_n dx_67_44 rfl).trans ?_
        refine (sx_iload_n dx_67_45 rfl).trans ?_
        refine (sx_iload_n dx_67_46 rfl).trans ?_
        refine (sx_iconst (v := 1) dx_67_47 rfl).trans ?_
        refine (sx_iadd dx_67_48).trans ?_
        refine (sx_s3i dx_67_49 ow_67 cx_4_37 (Nat.le_of_ble_eq_true rfl)).trans ?_
        refine mj_bnd (fun q5 => ?_)
        refine (sx_istore dx_67_52 (Nat.le_of_ble_eq_true rfl) rfl).trans ?_
        refine (sx_iload dx_67_54 rfl).trans ?_
        refine (sx_bipush (v := 40) dx_67_56 rfl).trans ?_
        refine (sx_icmp_ne (tgt := 69) dx_67_58 (by decide)).trans ?_
        refine mj_ite ?_ ?_
        · refine (sx_aload_n dx_67_61 rfl).trans ?_
          refine (sx_iload_n dx_67_62 rfl).trans ?_
          refine (sx_v1i dx_67_63 ow_67 cx_4_41 oc_23 (Nat.le_of_ble_eq_true rfl)).trans ?_
          refine mj_bnd (fun q6 => ?_)
          refine (sx_goto (tgt := 95) dx_67_66 (by decide)).trans ?_
          refine (sx_istore dx_67_95 (Nat.le_of_ble_eq_true rfl) rfl).trans ?_
          refine (sx_iload dx_67_97 rfl).trans ?_
          refine (sx_if_eq (tgt := 105) dx_67_99 (by decide)).trans ?_
          refine mj_ite ?_ ?_
          · refine (sx_iload_n dx_67_105 rfl).trans ?_
            refine (sx_iload dx_67_106 rfl).trans ?_
            refine (sx_iconst (v := 1) dx_67_108 rfl).trans ?_
            refine (sx_icmp_le (tgt := 116) dx_67_109 (by decide)).trans ?_
            refine mj_ite ?_ ?_
            · refine (sx_iconst (v := 1) dx_67_116 rfl).trans ?_
              refine (sx_iadd dx_67_117).trans ?_
              refine (sx_istore_n dx_67_118 (Nat.le_of_ble_eq_true rfl) rfl).trans ?_
              refine (sx_iinc (v := 1) dx_67_119 rfl rfl rfl).trans ?_
              refine (sx_goto (tgt := 15) dx_67_122 (by decide)).trans ?_
              rfl
            · refine (sx_iconst (v := 2) dx_67_112 rfl).trans ?_
              refine (sx_goto (tgt := 117) dx_67_113 (by decide)).trans ?_
              refine (sx_iadd dx_67_117).trans ?_
              refine (sx_istore_n dx_67_118 (Nat.le_of_ble_eq_true rfl) rfl).trans ?_
              refine (sx_iinc (v := 1) dx_67_119 rfl rfl rfl).trans ?_
              refine (sx_goto (tgt := 15) dx_67_122 (by decide)).trans ?_
              rfl
          · refine (sx_iload dx_67_102 rfl).trans ?_
            exact sx_reti dx_67_104 rt_67
        · refine (sx_iload dx_67_69 rfl).trans ?_
          refine (sx_bipush (v := 41) dx_67_71 rfl).trans ?_
          refine (sx_icmp_ne (tgt := 86) dx_67_73 (by decide)).trans ?_
          refine mj_ite ?_ ?_
          · refine (sx_aload_n dx_67_76 rfl).trans ?_
            refine (sx_iload_n dx_67_77 rfl).trans ?_
            refine (sx_iload dx_67_78 rfl).trans ?_
            refine (sx_v2i dx_67_80 ow_67 cx_4_44 oc_23 (Nat.le_of_ble_eq_true rfl)).trans ?_
            refine mj_bnd (fun q7 => ?_)
            refine (sx_goto (tgt := 95) dx_67_83 (by decide)).trans ?_
            refine (sx_istore dx_67_95 (Nat.le_of_ble_eq_true rfl) rfl).trans ?_
            refine (sx_iload dx_67_97 rfl).trans ?_
            refine (sx_if_eq (tgt := 105) dx_67_99 (by decide)).trans ?_
            refine mj_ite ?_ ?_
            · refine (sx_iload_n dx_67_105 rfl).trans ?_
              refine (sx_iload dx_67_106 rfl).trans ?_
              refine (sx_iconst (v := 1) dx_67_108 rfl).trans ?_
              refine (sx_icmp_le (tgt := 116) dx_67_109 (by decide)).trans ?_
              refine mj_ite ?_ ?_
              · refine (sx_iconst (v := 1) dx_67_116 rfl).trans ?_
                refine (sx_iadd dx_67_117).trans ?_
                refine (sx_istore_n dx_67_118 (Nat.le_of_ble_eq_true rfl) rfl).trans ?_
                refine (sx_iinc (v := 1) dx_67_119 rfl rfl rfl).trans ?_
                refine (sx_goto (tgt := 15) dx_67_122 (by decide)).trans ?_
                rfl
              · refine (sx_iconst (v := 2) dx_67_112 rfl).trans ?_
                refine (sx_goto (tgt := 117) dx_67_113 (by decide)).trans ?_
                refine (sx_iadd dx_67_117).trans ?_
                refine (sx_istore_n dx_67_118 (Nat.le_of_ble_eq_true rfl) rfl).trans ?_
                refine (sx_iinc (v := 1) dx_67_119 rfl rfl rfl).trans ?_
                refine (sx_goto (tgt := 15) dx_67_122 (by decide)).trans ?_
                rfl
            · refine (sx_iload dx_67_102 rfl).trans ?_
              exact sx_reti dx_67_104 rt_67
          · refine (sx_aload_n dx_67_86 rfl).trans ?_
            refine (sx_iload dx_67_87 rfl).trans ?_
            refine (sx_iload_n dx_67_89 rfl).trans ?_
            refine (sx_iload dx_67_90 rfl).trans ?_
            refine (sx_v3i dx_67_92 ow_67 cx_4_48 oc_23 (Nat.le_of_ble_eq_true rfl)).trans ?_
            refine mj_bnd (fun q8 => ?_)
            refine (sx_istore dx_67_95 (Nat.le_of_ble_eq_true rfl) rfl).trans ?_
            refine (sx_iload dx_67_97 rfl).trans ?_
            refine (sx_if_eq (tgt := 105) dx_67_99 (by decide)).trans ?_
            refine mj_ite ?_ ?_
            · refine (sx_iload_n dx_67_105 rfl).trans ?_
              refine (sx_iload dx_67_106 rfl).trans ?_
              refine (sx_iconst (v := 1) dx_67_108 rfl).trans ?_
              refine (sx_icmp_le (tgt := 116) dx_67_109 (by decide)).trans ?_
              refine mj_ite ?_ ?_
              · refine (sx_iconst (v := 1) dx_67_116 rfl).trans ?_
                refine (sx_iadd dx_67_117).trans ?_
                refine (sx_istore_n dx_67_118 (Nat.le_of_ble_eq_true rfl) rfl).trans ?_
                refine (sx_iinc (v := 1) dx_67_119 rfl rfl rfl).trans ?_
                refine (sx_goto (tgt := 15) dx_67_122 (by decide)).trans ?_
                rfl
              · refine (sx_iconst (v := 2) dx_67_112 rfl).trans ?_
                refine (sx_goto (tgt := 117) dx_67_113 (by decide)).trans ?_
                refine (sx_iadd dx_67_117).trans ?_
                refine (sx_istore_n dx_67_118 (Nat.le_of_ble_eq_true rfl) rfl).trans ?_
                refine (sx_iinc (v := 1) dx_67_119 rfl rfl rfl).trans ?_
                refine (sx_goto (tgt := 15) dx_67_122 (by decide)).trans ?_
                rfl
            · refine (sx_iload dx_67_102 rfl).trans ?_
              exact sx_reti dx_67_104 rt_67
    · rfl
  · rfl
set_option maxRecDepth 10000 in
theorem b_X6_readOrder_125 {sl d : Nat} {M : mj_M} {y2 : Int32} {w3 : Value} {w4 : Value} {w5 : Value} {w6 : Value} {w7 : Value}  : mj_E sl (d + 1) 67 125 [.ref 23, .ref 21, .int y2, w3, w4, w5, w6, w7] [] M = if M 23 6 ≤ 0 then (if ¬ (0 : Int32) < 0 ∧ ¬ (0 : Int32) < 0 ∧ ¬ (M 23 5 : Int32) < 0 ∧ (0 : Int32).toNatClampNeg + (M 23 5 : Int32).toNatClampNeg ≤ 60 ∧ (0 : Int32).toNatClampNeg + (M 23 5 : Int32).toNatClampNeg ≤ 60 then (some (((mj_st (mj_cp M 25 24 (0 : Int32).toNatClampNeg (0 : Int32).toNatClampNeg (M 23 5 : Int32).toNatClampNeg) 23 4 ((mj_cp M 25 24 (0 : Int32).toNatClampNeg (0 : Int32).toNatClampNeg (M 23 5 : Int32).toNatClampNeg) 23 5)) 23 5 : Int32), mj_st (mj_cp M 25 24 (0 : Int32).toNatClampNeg (0 : Int32).toNatClampNeg (M 23 5 : Int32).toNatClampNeg) 23 4 ((mj_cp M 25 24 (0 : Int32).toNatClampNeg (0 : Int32).toNatClampNeg (M 23 5 : Int32).toNatClampNeg) 23 5))) else none) else ((mj_C sl d 123 [.int 1, .int y2] M).bind (fun q1 => some ((q1.1 : Int32), q1.2))) := by
  refine (sx_aload_n dx_67_125 rfl).trans ?_
  refine (sx_gfi dx_67_126 ow_67 fx_4_28 (by decide) oc_23).trans ?_
  refine (sx_if_le (tgt := 138) dx_67_129 (by decide)).trans ?_
  refine mj_ite ?_ ?_
  · refine (sx_aload_n dx_67_138 rfl).trans ?_
    refine (sx_gfr dx_67_139 ow_67 fx_4_15 oc_23 rb_23_1).trans ?_
    refine (sx_iconst (v := 0) dx_67_142 rfl).trans ?_
    refine (sx_aload_n dx_67_143 rfl).trans ?_
    refine (sx_gfr dx_67_144 ow_67 fx_4_9 oc_23 rb_23_0).trans ?_
    refine (sx_iconst (v := 0) dx_67_147 rfl).trans ?_
    refine (sx_aload_n dx_67_148 rfl).trans ?_
    refine (sx_gfi dx_67_149 ow_67 fx_4_24 (by decide) oc_23).trans ?_
    refine (sx_acp dx_67_152 ow_67 cx3_4_55 ia_25 ia_24 (by decide) (by decide) (Nat.le_of_ble_eq_true rfl)).trans ?_
    refine mj_ite ?_ rfl
    refine (sx_aload_n dx_67_155 rfl).trans ?_
    refine (sx_aload_n dx_67_156 rfl).trans ?_
    refine (sx_gfi dx_67_157 ow_67 fx_4_24 (by decide) oc_23).trans ?_
    refine (sx_pfi dx_67_160 ow_67 fx_4_61 oc_23).trans ?_
    refine (sx_aload_n dx_67_163 rfl).trans ?_
    refine (sx_gfi dx_67_164 ow_67 fx_4_24 (by decide) oc_23).trans ?_
    exact sx_reti dx_67_167 rt_67
  · refine (sx_iconst (v := 1) dx_67_132 rfl).trans ?_
    refine (sx_iload_n dx_67_133 rfl).trans ?_
    refine (sx_s2in dx_67_134 ow_67 cx_4_52 (Nat.le_of_ble_eq_true rfl)).trans ?_
    refine mj_bnd (fun q1 => ?_)
    exact sx_reti dx_67_137 rt_67
theorem dx_68_0 : mj_at 68 0 = some (.aload_n 0) := by decide +kernel
theorem dx_68_1 : mj_at 68 1 = some (.getfield 28) := by decide +kernel
theorem dx_68_4 : mj_at 68 4 = some (.iconst 2) := by decide +kernel
theorem dx_68_5 : mj_at 68 5 = some (.if_icmp .lt 9) := by decide +kernel
theorem dx_68_8 : mj_at 68 8 = some (.iconst 5) := by decide +kernel
theorem dx_68_9 : mj_at 68 9 = some (.iload_n 1) := by decide +kernel
theorem dx_68_10 : mj_at 68 10 = some (.invokestatic 52) := by decide +kernel
theorem dx_68_13 : mj_at 68 13 = some (.ireturn) := by decide +kernel
theorem dx_68_14 : mj_at 68 14 = some (.aload_n 0) := by decide +kernel
theorem dx_68_15 : mj_at 68 15 = some (.getfield 18) := by decide +kernel
theorem dx_68_18 : mj_at 68 18 = some (.aload_n 0) := by decide +kernel
theorem dx_68_19 : mj_at 68 19 = some (.getfield 28) := by decide +kernel
theorem dx_68_22 : mj_at 68 22 = some (.iload_n 1) := by decide +kernel
theorem dx_68_23 : mj_at 68 23 = some (.iastore) := by decide +kernel
theorem dx_68_24 : mj_at 68 24 = some (.aload_n 0) := by decide +kernel
theorem dx_68_25 : mj_at 68 25 = some (.getfield 21) := by decide +kernel
theorem dx_68_28 : mj_at 68 28 = some (.aload_n 0) := by decide +kernel
theorem dx_68_29 : mj_at 68 29 = some (.getfield 28) := by decide +kernel
theorem dx_68_32 : mj_at 68 32 = some (.aload_n 0) := by decide +kernel
theorem dx_68_33 : mj_at 68 33 = some (.getfield 24) := by decide +kernel
theorem dx_68_36 : mj_at 68 36 = some (.iastore) := by decide +kernel
theorem dx_68_37 : mj_at 68 37 = some (.aload_n 0) := by decide +kernel
theorem dx_68_38 : mj_at 68 38 = some (.dup) := by decide +kernel
theorem dx_68_39 : mj_at 68 39 = some (.getfield 28) := by decide +kernel
theorem dx_68_42 : mj_at 68 42 = some (.iconst 1) := by decide +kernel
theorem dx_68_43 : mj_at 68 43 = some (.iadd) := by decide +kernel
theorem dx_68_44 : mj_at 68 44 = some (.putfield 28) := by decide +kernel
theorem dx_68_47 : mj_at 68 47 = some (.iconst 0) := by decide +kernel
theorem dx_68_48 : mj_at 68 48 = some (.ireturn) := by decide +kernel
set_option maxRecDepth 10000 in
theorem b_X6_openRound {sl d : Nat} {M : mj_M} {x1 : Int32}  : mj_C sl (d + 1) 68 [.ref 23, .int x1] M = if M 23 6 < 2 then (if mj_inB (M 23 6) 2 = true then (if mj_inB ((mj_st M 26 (M 23 6 : Int32).toNatClampNeg x1) 23 6) 2 = true then (some ((0 : Int32), mj_st (mj_st (mj_st M 26 (M 23 6 : Int32).toNatClampNeg x1) 27 ((mj_st M 26 (M 23 6 : Int32).toNatClampNeg x1) 23 6 : Int32).toNatClampNeg ((mj_st M 26 (M 23 6 : Int32).toNatClampNeg x1) 23 5)) 23 6 (((mj_st (mj_st M 26 (M 23 6 : Int32).toNatClampNeg x1) 27 ((mj_st M 26 (M 23 6 : Int32).toNatClampNeg x1) 23 6 : Int32).toNatClampNeg ((mj_st M 26 (M 23 6 : Int32).toNatClampNeg x1) 23 5)) 23 6) + 1))) else none) else none) else ((mj_C sl d 123 [.int 5, .int x1] M).bind (fun q1 => some ((q1.1 : Int32), q1.2))) := by
  show mj_E sl (d + 1) 68 0 [.ref 23, .int x1] [] M = _
  refine (sx_aload_n dx_68_0 rfl).trans ?_
  refine (sx_gfi dx_68_1 ow_68 fx_4_28 (by decide) oc_23).trans ?_
  refine (sx_iconst (v := 2) dx_68_4 rfl).trans ?_
  refine (sx_icmp_lt (tgt := 14) dx_68_5 (by decide)).trans ?_
  refine mj_ite ?_ ?_
  · refine (sx_aload_n dx_68_14 rfl).trans ?_
    refine (sx_gfr dx_68_15 ow_68 fx_4_18 oc_23 rb_23_2).trans ?_
    refine (sx_aload_n dx_68_18 rfl).trans ?_
    refine (sx_gfi dx_68_19 ow_68 fx_4_28 (by decide) oc_23).trans ?_
    refine (sx_iload_n dx_68_22 rfl).trans ?_
    refine (sx_ist dx_68_23 ia_26).trans ?_
    refine mj_ite ?_ rfl
    refine (sx_aload_n dx_68_24 rfl).trans ?_
    refine (sx_gfr dx_68_25 ow_68 fx_4_21 oc_23 rb_23_3).trans ?_
    refine (sx_aload_n dx_68_28 rfl).trans ?_
    refine (sx_gfi dx_68_29 ow_68 fx_4_28 (by decide) oc_23).trans ?_
    refine (sx_aload_n dx_68_32 rfl).trans ?_
    refine (sx_gfi dx_68_33 ow_68 fx_4_24 (by decide) oc_23).trans ?_
    refine (sx_ist dx_68_36 ia_27).trans ?_
    refine mj_ite ?_ rfl
    refine (sx_aload_n dx_68_37 rfl).trans ?_
    refine (sx_dupa dx_68_38).trans ?_
    refine (sx_gfi dx_68_39 ow_68 fx_4_28 (by decide) oc_23).trans ?_
    refine (sx_iconst (v := 1) dx_68_42 rfl).trans ?_
    refine (sx_iadd dx_68_43).trans ?_
    refine (sx_pfi dx_68_44 ow_68 fx_4_28 oc_23).trans ?_
    refine (sx_iconst (v := 0) dx_68_47 rfl).trans ?_
    exact sx_reti dx_68_48 rt_68
  · refine (sx_iconst (v := 5) dx_68_8 rfl).trans ?_
    refine (sx_iload_n dx_68_9 rfl).trans ?_
    refine (sx_s2in dx_68_10 ow_68 cx_4_52 (Nat.le_of_ble_eq_true rfl)).trans ?_
    refine mj_bnd (fun q1 => ?_)
    exact sx_reti dx_68_13 rt_68
theorem dx_69_0 : mj_at 69 0 = some (.aload_n 0) := by decide +kernel
theorem dx_69_1 : mj_at 69 1 = some (.getfield 28) := by decide +kernel
theorem dx_69_4 : mj_at 69 4 = some (.iconst 1) := by decide +kernel
theorem dx_69_5 : mj_at 69 5 = some (.if_icmp .lt 21) := by decide +kernel
theorem dx_69_8 : mj_at 69 8 = some (.aload_n 0) := by decide +kernel
theorem dx_69_9 : mj_at 69 9 = some (.getfield 24) := by decide +kernel
theorem dx_69_12 : mj_at 69 12 = some (.aload_n 0) := by decide +kernel
theorem dx_69_13 : mj_at 69 13 = some (.getfield 21) := by decide +kernel
theorem dx_69_16 : mj_at 69 16 = some (.aload_n 0) := by decide +kernel
theorem dx_69_17 : mj_at 69 17 = some (.getfield 28) := by decide +kernel
theorem dx_69_20 : mj_at 69 20 = some (.iconst 1) := by decide +kernel
theorem dx_69_21 : mj_at 69 21 = some (.isub) := by decide +kernel
theorem dx_69_22 : mj_at 69 22 = some (.iaload) := by decide +kernel
theorem dx_69_23 : mj_at 69 23 = some (.if_icmp .gt 9) := by decide +kernel
theorem dx_69_26 : mj_at 69 26 = some (.iconst 1) := by decide +kernel
theorem dx_69_27 : mj_at 69 27 = some (.iload_n 1) := by decide +kernel
theorem dx_69_28 : mj_at 69 28 = some (.invokestatic 52) := by decide +kernel
theorem dx_69_31 : mj_at 69 31 = some (.ireturn) := by decide +kernel
theorem dx_69_32 : mj_at 69 32 = some (.aload_n 0) := by decide +kernel
theorem dx_69_33 : mj_at 69 33 = some (.dup) := by decide +kernel
theorem dx_69_34 : mj_at 69 34 = some (.getfield 28) := by decide +kernel
theorem dx_69_37 : mj_at 69 37 = some (.iconst 1) := by decide +kernel
theorem dx_69_38 : mj_at 69 38 = some (.isub) := by decide +kernel
theorem dx_69_39 : mj_at 69 39 = some (.putfield 28) := by decide +kernel
theorem dx_69_42 : mj_at 69 42 = some (.aload_n 0) := by decide +kernel
theorem dx_69_43 : mj_at 69 43 = some (.aload_n 0) := by decide +kernel
theorem dx_69_44 : mj_at 69 44 = some (.getfield 18) := by decide +kernel
theorem dx_69_47 : mj_at 69 47 = some (.aload_n 0) := by decide +kernel
theorem dx_69_48 : mj_at 69 48 = some (.getfield 28) := by decide +kernel
theorem dx_69_51 : mj_at 69 51 = some (.iaload) := by decide +kernel
theorem dx_69_52 : mj_at 69 52 = some (.aload_n 0) := by decide +kernel
theorem dx_69_53 : mj_at 69 53 = some (.getfield 21) := by decide +kernel
theorem dx_69_56 : mj_at 69 56 = some (.aload_n 0) := by decide +kernel
theorem dx_69_57 : mj_at 69 57 = some (.getfield 28) := by decide +kernel
theorem dx_69_60 : mj_at 69 60 = some (.iaload) := by decide +kernel
theorem dx_69_61 : mj_at 69 61 = some (.iload_n 2) := by decide +kernel
theorem dx_69_62 : mj_at 69 62 = some (.invokevirtual 64) := by decide +kernel
theorem dx_69_65 : mj_at 69 65 = some (.ireturn) := by decide +kernel
set_option maxRecDepth 10000 in
theorem b_X6_shutRound {sl d : Nat} {M : mj_M} {x1 : Int32} {x2 : Int32}  : mj_C sl (d + 1) 69 [.ref 23, .int x1, .int x2] M = if M 23 6 < 1 then ((mj_C sl d 123 [.int 1, .int x1] M).bind (fun q1 => some ((q1.1 : Int32), q1.2))) else (if mj_inB ((M 23 6) - 1) 2 = true then (if M 23 5 ≤ (M 27 ((M 23 6) - 1 : Int32).toNatClampNeg) then ((mj_C sl d 123 [.int 1, .int x1] M).bind (fun q2 => some ((q2.1 : Int32), q2.2))) else (if mj_inB ((mj_st M 23 6 ((M 23 6) - 1)) 23 6) 2 = true then (if mj_inB ((mj_st M 23 6 ((M 23 6) - 1)) 23 6) 2 = true then ((mj_C sl d 71 [.ref 23, .int ((mj_st M 23 6 ((M 23 6) - 1)) 26 ((mj_st M 23 6 ((M 23 6) - 1)) 23 6 : Int32).toNatClampNeg), .int ((mj_st M 23 6 ((M 23 6) - 1)) 27 ((mj_st M 23 6 ((M 23 6) - 1)) 23 6 : Int32).toNatClampNeg), .int x2] (mj_st M 23 6 ((M 23 6) - 1))).bind (fun q3 => some ((q3.1 : Int32), q3.2))) else none) else none)) else none) := by
  show mj_E sl (d + 1) 69 0 [.ref 23, .int x1, .int x2] [] M = _
  refine (sx_aload_n dx_69_0 rfl).trans ?_
  refine (sx_gfi dx_69_1 ow_69 fx_4_28 (by decide) oc_23).trans ?_
  refine (sx_iconst (v := 1) dx_69_4 rfl).trans ?_
  refine (sx_icmp_lt (tgt := 26) dx_69_5 (by decide)).trans ?_
  refine mj_ite ?_ ?_
  · refine (sx_iconst (v := 1) dx_69_26 rfl).trans ?_
    refine (sx_iload_n dx_69_27 rfl).trans ?_
    refine (sx_s2in dx_69_28 ow_69 cx_4_52 (Nat.le_of_ble_eq_true rfl)).trans ?_
    refine mj_bnd (fun q1 => ?_)
    exact sx_reti dx_69_31 rt_69
  · refine (sx_aload_n dx_69_8 rfl).trans ?_
    refine (sx_gfi dx_69_9 ow_69 fx_4_24 (by decide) oc_23).trans ?_
    refine (sx_aload_n dx_69_12 rfl).trans ?_
    refine (sx_gfr dx_69_13 ow_69 fx_4_21 oc_23 rb_23_3).trans ?_
    refine (sx_aload_n dx_69_16 rfl).trans ?_
    refine (sx_gfi dx_69_17 ow_69 fx_4_28 (by decide) oc_23).trans ?_
    refine (sx_iconst (v := 1) dx_69_20 rfl).trans ?_
    refine (sx_isub dx_69_21).trans ?_
    refine (sx_ild dx_69_22 (by decide) ia_27).trans ?_
    refine mj_ite ?_ rfl
    refine (sx_icmp_gt (tgt := 32) dx_69_23 (by decide)).trans ?_
    refine mj_ite ?_ ?_
    · refine (sx_iconst (v := 1) dx_69_26 rfl).trans ?_
      refine (sx_iload_n dx_69_27 rfl).trans ?_
      refine (sx_s2in dx_69_28 ow_69 cx_4_52 (Nat.le_of_ble_eq_true rfl)).trans ?_
      refine mj_bnd (fun q2 => ?_)
      exact sx_reti dx_69_31 rt_69
    · refine (sx_aload_n dx_69_32 rfl).trans ?_
      refine (sx_dupa dx_69_33).trans ?_
      refine (sx_gfi dx_69_34 ow_69 fx_4_28 (by decide) oc_23).trans ?_
      refine (sx_iconst (v := 1) dx_69_37 rfl).trans ?_
      refine (sx_isub dx_69_38).trans ?_
      refine (sx_pfi dx_69_39 ow_69 fx_4_28 oc_23).trans ?_
      refine (sx_aload_n dx_69_42 rfl).trans ?_
      refine (sx_aload_n dx_69_43 rfl).trans ?_
      refine (sx_gfr dx_69_44 ow_69 fx_4_18 oc_23 rb_23_2).trans ?_
      refine (sx_aload_n dx_69_47 rfl).trans ?_
      refine (sx_gfi dx_69_48 ow_69 fx_4_28 (by decide) oc_23).trans ?_
      refine (sx_ild dx_69_51 (by decide) ia_26).trans ?_
      refine mj_ite ?_ rfl
      refine (sx_aload_n dx_69_52 rfl).trans ?_
      refine (sx_gfr dx_69_53 ow_69 fx_4_21 oc_23 rb_23_3).trans ?_
      refine (sx_aload_n dx_69_56 rfl).trans ?_
      refine (sx_gfi dx_69_57 ow_69 fx_4_28 (by decide) oc_23).trans ?_
      refine (sx_ild dx_69_60 (by decide) ia_27).trans ?_
      refine mj_ite ?_ rfl
      refine (sx_iload_n dx_69_61 rfl).trans ?_
      refine (sx_v3i dx_69_62 ow_69 cx_4_64 oc_23 (Nat.le_of_ble_eq_true rfl)).trans ?_
      refine mj_bnd (fun q3 => ?_)
      exact sx_reti dx_69_65 rt_69
theorem dx_70_0 : mj_at 70 0 = some (.iload_n 1) := by decide +kernel
theorem dx_70_1 : mj_at 70 1 = some (.bipush 65) := by decide +kernel
theorem dx_70_3 : mj_at 70 3 = some (.if_icmp .lt 9) := by decide +kernel
theorem dx_70_6 : mj_at 70 6 = some (.iload_n 1) := by decide +kernel
theorem dx_70_7 : mj_at 70 7 = some (.bipush 72) := by decide +kernel
theorem dx_70_9 : mj_at 70 9 = some (.if_icmp .le 9) := by decide +kernel
theorem dx_70_12 : mj_at 70 12 = some (.iconst 1) := by decide +kernel
theorem dx_70_13 : mj_at 70 13 = some (.iload_n 2) := by decide +kernel
theorem dx_70_14 : mj_at 70 14 = some (.invokestatic 52) := by decide +kernel
theorem dx_70_17 : mj_at 70 17 = some (.ireturn) := by decide +kernel
theorem dx_70_18 : mj_at 70 18 = some (.aload_n 0) := by decide +kernel
theorem dx_70_19 : mj_at 70 19 = some (.getfield 24) := by decide +kernel
theorem dx_70_22 : mj_at 70 22 = some (.bipush 60) := by decide +kernel
theorem dx_70_24 : mj_at 70 24 = some (.if_icmp .lt 10) := by decide +kernel
theorem dx_70_27 : mj_at 70 27 = some (.bipush 6) := by decide +kernel
theorem dx_70_29 : mj_at 70 29 = some (.iload_n 2) := by decide +kernel
theorem dx_70_30 : mj_at 70 30 = some (.invokestatic 52) := by decide +kernel
theorem dx_70_33 : mj_at 70 33 = some (.ireturn) := by decide +kernel
theorem dx_70_34 : mj_at 70 34 = some (.aload_n 0) := by decide +kernel
theorem dx_70_35 : mj_at 70 35 = some (.getfield 15) := by decide +kernel
theorem dx_70_38 : mj_at 70 38 = some (.aload_n 0) := by decide +kernel
theorem dx_70_39 : mj_at 70 39 = some (.getfield 24) := by decide +kernel
theorem dx_70_42 : mj_at 70 42 = some (.iload_n 1) := by decide +kernel
theorem dx_70_43 : mj_at 70 43 = some (.bipush 65) := by decide +kernel
theorem dx_70_45 : mj_at 70 45 = some (.isub) := by decide +kernel
theorem dx_70_46 : mj_at 70 46 = some (.iastore) := by decide +kernel
theorem dx_70_47 : mj_at 70 47 = some (.aload_n 0) := by decide +kernel
theorem dx_70_48 : mj_at 70 48 = some (.dup) := by decide +kernel
theorem dx_70_49 : mj_at 70 49 = some (.getfield 24) := by decide +kernel
theorem dx_70_52 : mj_at 70 52 = some (.iconst 1) := by decide +kernel
theorem dx_70_53 : mj_at 70 53 = some (.iadd) := by decide +kernel
theorem dx_70_54 : mj_at 70 54 = some (.putfield 24) := by decide +kernel
theorem dx_70_57 : mj_at 70 57 = some (.aload_n 0) := by decide +kernel
theorem dx_70_58 : mj_at 70 58 = some (.iload_n 2) := by decide +kernel
theorem dx_70_59 : mj_at 70 59 = some (.aload_n 0) := by decide +kernel
theorem dx_70_60 : mj_at 70 60 = some (.getfield 24) := by decide +kernel
theorem dx_70_63 : mj_at 70 63 = some (.iconst 1) := by decide +kernel
theorem dx_70_64 : mj_at 70 64 = some (.isub) := by decide +kernel
theorem dx_70_65 : mj_at 70 65 = some (.iload_n 3) := by decide +kernel
theorem dx_70_66 : mj_at 70 66 = some (.invokevirtual 64) := by decide +kernel
theorem dx_70_69 : mj_at 70 69 = some (.ireturn) := by decide +kernel
set_option maxRecDepth 10000 in
theorem b_X6_putLetter {sl d : Nat} {M : mj_M} {x1 : Int32} {x2 : Int32} {x3 : Int32}  : mj_C sl (d + 1) 70 [.ref 23, .int x1, .int x2, .int x3] M = if x1 < 65 then ((mj_C sl d 123 [.int 1, .int x2] M).bind (fun q1 => some ((q1.1 : Int32), q1.2))) else (if x1 ≤ 72 then (if M 23 5 < 60 then (if mj_inB (M 23 5) 60 = true then ((mj_C sl d 71 [.ref 23, .int x2, .int (((mj_st (mj_st M 25 (M 23 5 : Int32).toNatClampNeg (x1 - 65)) 23 5 (((mj_st M 25 (M 23 5 : Int32).toNatClampNeg (x1 - 65)) 23 5) + 1)) 23 5) - 1), .int x3] (mj_st (mj_st M 25 (M 23 5 : Int32).toNatClampNeg (x1 - 65)) 23 5 (((mj_st M 25 (M 23 5 : Int32).toNatClampNeg (x1 - 65)) 23 5) + 1))).bind (fun q2 => some ((q2.1 : Int32), q2.2))) else none) else ((mj_C sl d 123 [.int 6, .int x2] M).bind (fun q3 => some ((q3.1 : Int32), q3.2)))) else ((mj_C sl d 123 [.int 1, .int x2] M).bind (fun q4 => some ((q4.1 : Int32), q4.2)))) := by
  show mj_E sl (d + 1) 70 0 [.ref 23, .int x1, .int x2, .int x3] [] M = _
  refine (sx_iload_n dx_70_0 rfl).trans ?_
  refine (sx_bipush (v := 65) dx_70_1 rfl).trans ?_
  refine (sx_icmp_lt (tgt := 12) dx_70_3 (by decide)).trans ?_
  refine mj_ite ?_ ?_
  · refine (sx_iconst (v := 1) dx_70_12 rfl).trans ?_
    refine (sx_iload_n dx_70_13 rfl).trans ?_
    refine (sx_s2in dx_70_14 ow_70 cx_4_52 (Nat.le_of_ble_eq_true rfl)).trans ?_
    refine mj_bnd (fun q1 => ?_)
    exact sx_reti dx_70_17 rt_70
  · refine (sx_iload_n dx_70_6 rfl).trans ?_
    refine (sx_bipush (v := 72) dx_70_7 rfl).trans ?_
    refine (sx_icmp_le (tgt := 18) dx_70_9 (by decide)).trans ?_
    refine mj_ite ?_ ?_
    · refine (sx_aload_n dx_70_18 rfl).trans ?_
      refine (sx_gfi dx_70_19 ow_70 fx_4_24 (by decide) oc_23).trans ?_
      refine (sx_bipush (v := 60) dx_70_22 rfl).trans ?_
      refine (sx_icmp_lt (tgt := 34) dx_70_24 (by decide)).trans ?_
      refine mj_ite ?_ ?_
      · refine (sx_aload_n dx_70_34 rfl).trans ?_
        refine (sx_gfr dx_70_35 ow_70 fx_4_15 oc_23 rb_23_1).trans ?_
        refine (sx_aload_n dx_70_38 rfl).trans ?_
        refine (sx_gfi dx_70_39 ow_70 fx_4_24 (by decide) oc_23).trans ?_
        refine (sx_iload_n dx_70_42 rfl).trans ?_
        refine (sx_bipush (v := 65) dx_70_43 rfl).trans ?_
        refine (sx_isub dx_70_45).trans ?_
        refine (sx_ist dx_70_46 ia_25).trans ?_
        refine mj_ite ?_ rfl
        refine (sx_aload_n dx_70_47 rfl).trans ?_
        refine (sx_dupa dx_70_48).trans ?_
        refine (sx_gfi dx_70_49 ow_70 fx_4_24 (by decide) oc_23).trans ?_
        refine (sx_iconst (v := 1) dx_70_52 rfl).trans ?_
        refine (sx_iadd dx_70_53).trans ?_
        refine (sx_pfi dx_70_54 ow_70 fx_4_24 oc_23).trans ?_
        refine (sx_aload_n dx_70_57 rfl).trans ?_
        refine (sx_iload_n dx_70_58 rfl).trans ?_
        refine (sx_aload_n dx_70_59 rfl).trans ?_
        refine (sx_gfi dx_70_60 ow_70 fx_4_24 (by decide) oc_23).trans ?_
        refine (sx_iconst (v := 1) dx_70_63 rfl).trans ?_
        refine (sx_isub dx_70_64).trans ?_
        refine (sx_iload_n dx_70_65 rfl).trans ?_
        refine (sx_v3i dx_70_66 ow_70 cx_4_64 oc_23 (Nat.le_of_ble_eq_true rfl)).trans ?_
        refine mj_bnd (fun q2 => ?_)
        exact sx_reti dx_70_69 rt_70
      · refine (sx_bipush (v := 6) dx_70_27 rfl).trans ?_
        refine (sx_iload_n dx_70_29 rfl).trans ?_
        refine (sx_s2in dx_70_30 ow_70 cx_4_52 (Nat.le_of_ble_eq_true rfl)).trans ?_
        refine mj_bnd (fun q3 => ?_)
        exact sx_reti dx_70_33 rt_70
    · refine (sx_iconst (v := 1) dx_70_12 rfl).trans ?_
      refine (sx_iload_n dx_70_13 rfl).trans ?_
      refine (sx_s2in dx_70_14 ow_70 cx_4_52 (Nat.le_of_ble_eq_true rfl)).trans ?_
      refine mj_bnd (fun q4 => ?_)
      exact sx_reti dx_70_17 rt_70
theorem dx_71_0 : mj_at 71 0 = some (.aload_n 0) := by decide +kernel
theorem dx_71_1 : mj_at 71 1 = some (.getfield 24) := by decide +kernel
theorem dx_71_4 : mj_at 71 4 = some (.iload_n 2) := by decide +kernel
theorem dx_71_5 : mj_at 71 5 = some (.isub) := by decide +kernel
theorem dx_71_6 : mj_at 71 6 = some (.istore 4) := by decide +kernel
theorem dx_71_8 : mj_at 71 8 = some (.iload_n 2) := by decide +kernel
theorem dx_71_9 : mj_at 71 9 = some (.iload 4) := by decide +kernel
theorem dx_71_11 : mj_at 71 11 = some (.iload_n 3) := by decide +kernel
theorem dx_71_12 : mj_at 71 12 = some (.imul) := by decide +kernel
theorem dx_71_13 : mj_at 71 13 = some (.iadd) := by decide +kernel
theorem dx_71_14 : mj_at 71 14 = some (.istore 5) := by decide +kernel
theorem dx_71_16 : mj_at 71 16 = some (.iload 5) := by decide +kernel
theorem dx_71_18 : mj_at 71 18 = some (.bipush 60) := by decide +kernel
theorem dx_71_20 : mj_at 71 20 = some (.if_icmp .le 10) := by decide +kernel
theorem dx_71_23 : mj_at 71 23 = some (.bipush 6) := by decide +kernel
theorem dx_71_25 : mj_at 71 25 = some (.iload_n 1) := by decide +kernel
theorem dx_71_26 : mj_at 71 26 = some (.invokestatic 52) := by decide +kernel
theorem dx_71_29 : mj_at 71 29 = some (.ireturn) := by decide +kernel
theorem dx_71_30 : mj_at 71 30 = some (.aload_n 0) := by decide +kernel
theorem dx_71_31 : mj_at 71 31 = some (.getfield 24) := by decide +kernel
theorem dx_71_34 : mj_at 71 34 = some (.istore 6) := by decide +kernel
theorem dx_71_36 : mj_at 71 36 = some (.iload 6) := by decide +kernel
theorem dx_71_38 : mj_at 71 38 = some (.iload 5) := by decide +kernel
theorem dx_71_40 : mj_at 71 40 = some (.if_icmp .ge 26) := by decide +kernel
theorem dx_71_43 : mj_at 71 43 = some (.aload_n 0) := by decide +kernel
theorem dx_71_44 : mj_at 71 44 = some (.getfield 15) := by decide +kernel
theorem dx_71_47 : mj_at 71 47 = some (.iload 6) := by decide +kernel
theorem dx_71_49 : mj_at 71 49 = some (.aload_n 0) := by decide +kernel
theorem dx_71_50 : mj_at 71 50 = some (.getfield 15) := by decide +kernel
theorem dx_71_53 : mj_at 71 53 = some (.iload 6) := by decide +kernel
theorem dx_71_55 : mj_at 71 55 = some (.iload 4) := by decide +kernel
theorem dx_71_57 : mj_at 71 57 = some (.isub) := by decide +kernel
theorem dx_71_58 : mj_at 71 58 = some (.iaload) := by decide +kernel
theorem dx_71_59 : mj_at 71 59 = some (.iastore) := by decide +kernel
theorem dx_71_60 : mj_at 71 60 = some (.iinc 6 1) := by decide +kernel
theorem dx_71_63 : mj_at 71 63 = some (.goto (-27)) := by decide +kernel
theorem dx_71_66 : mj_at 71 66 = some (.aload_n 0) := by decide +kernel
theorem dx_71_67 : mj_at 71 67 = some (.iload 5) := by decide +kernel
theorem dx_71_69 : mj_at 71 69 = some (.putfield 24) := by decide +kernel
theorem dx_71_72 : mj_at 71 72 = some (.iconst 0) := by decide +kernel
theorem dx_71_73 : mj_at 71 73 = some (.ireturn) := by decide +kernel
set_option maxRecDepth 10000 in
theorem b_X6_repeat {sl d : Nat} {M : mj_M} {x1 : Int32} {x2 : Int32} {x3 : Int32}  : mj_C sl (d + 1) 71 [.ref 23, .int x1, .int x2, .int x3] M = if x2 + (((M 23 5) - x2) * x3) ≤ 60 then (mj_E sl (d + 1) 71 36 [.ref 23, .int x1, .int x2, .int x3, .int ((M 23 5) - x2), .int (x2 + (((M 23 5) - x2) * x3)), .int (M 23 5)] [] M) else ((mj_C sl d 123 [.int 6, .int x1] M).bind (fun q1 => some ((q1.1 : Int32), q1.2))) := by
  show mj_E sl (d + 1) 71 0 [.ref 23, .int x1, .int x2, .int x3, .null, .null, .null] [] M = _
  refine (sx_aload_n dx_71_0 rfl).trans ?_
  refine (sx_gfi dx_71_1 ow_71 fx_4_24 (by decide) oc_23).trans ?_
  refine (sx_iload_n dx_71_4 rfl).trans ?_
  refine (sx_isub dx_71_5).trans ?_
  refine (sx_istore dx_71_6 (Nat.le_of_ble_eq_true rfl) rfl).trans ?_
  refine (sx_iload_n dx_71_8 rfl).trans ?_
  refine (sx_iload dx_71_9 rfl).trans ?_
  refine (sx_iload_n dx_71_11 rfl).trans ?_
  refine (sx_imul dx_71_12).trans ?_
  refine (sx_iadd dx_71_13).trans ?_
  refine (sx_istore dx_71_14 (Nat.le_of_ble_eq_true rfl) rfl).trans ?_
  refine (sx_iload dx_71_16 rfl).trans ?_
  refine (sx_bipush (v := 60) dx_71_18 rfl).trans ?_
  refine (sx_icmp_le (tgt := 30) dx_71_20 (by decide)).trans ?_
  refine mj_ite ?_ ?_
  · refine (sx_aload_n dx_71_30 rfl).trans ?_
    refine (sx_gfi dx_71_31 ow_71 fx_4_24 (by decide) oc_23).trans ?_
    refine (sx_istore dx_71_34 (Nat.le_of_ble_eq_true rfl) rfl).trans ?_
    rfl
  · refine (sx_bipush (v := 6) dx_71_23 rfl).trans ?_
    refine (sx_iload_n dx_71_25 rfl).trans ?_
    refine (sx_s2in dx_71_26 ow_71 cx_4_52 (Nat.le_of_ble_eq_true rfl)).trans ?_
    refine mj_bnd (fun q1 => ?_)
    exact sx_reti dx_71_29 rt_71
set_option maxRecDepth 10000 in
theorem b_X6_repeat_36 {sl d : Nat} {M : mj_M} {w1 : Value} {w2 : Value} {w3 : Value} {y4 : Int32} {y5 : Int32} {y6 : Int32}  : mj_E sl (d + 1) 71 36 [.ref 23, w1, w2, w3, .int y4, .int y5, .int y6] [] M = if y6 < y5 then (if mj_inB (y6 - y4) 60 = true then (if mj_inB y6 60 = true then (mj_E sl (d + 1) 71 36 [.ref 23, w1, w2, w3, .int y4, .int y5, .int (y6 + 1)] [] (mj_st M 25 (y6 : Int32).toNatClampNeg (M 25 (y6 - y4 : Int32).toNatClampNeg))) else none) else none) else (some ((0 : Int32), mj_st M 23 5 y5)) := by
  refine (sx_iload dx_71_36 rfl).trans ?_
  refine (sx_iload dx_71_38 rfl).trans ?_
  refine (sx_icmp_ge (tgt := 66) dx_71_40 (by decide)).trans ?_
  refine mj_ite ?_ ?_
  · refine (sx_aload_n dx_71_43 rfl).trans ?_
    refine (sx_gfr dx_71_44 ow_71 fx_4_15 oc_23 rb_23_1).trans ?_
    refine (sx_iload dx_71_47 rfl).trans ?_
    refine (sx_aload_n dx_71_49 rfl).trans ?_
    refine (sx_gfr dx_71_50 ow_71 fx_4_15 oc_23 rb_23_1).trans ?_
    refine (sx_iload dx_71_53 rfl).trans ?_
    refine (sx_iload dx_71_55 rfl).trans ?_
    refine (sx_isub dx_71_57).trans ?_
    refine (sx_ild dx_71_58 (by decide) ia_25).trans ?_
    refine mj_ite ?_ rfl
    refine (sx_ist dx_71_59 ia_25).trans ?_
    refine mj_ite ?_ rfl
    refine (sx_iinc (v := 1) dx_71_60 rfl rfl rfl).trans ?_
    refine (sx_goto (tgt := 36) dx_71_63 (by decide)).trans ?_
    rfl
  · refine (sx_aload_n dx_71_66 rfl).trans ?_
    refine (sx_iload dx_71_67 rfl).trans ?_
    refine (sx_pfi dx_71_69 ow_71 fx_4_24 oc_23).trans ?_
    refine (sx_iconst (v := 0) dx_71_72 rfl).trans ?_
    exact sx_reti dx_71_73 rt_71
theorem dx_72_0 : mj_at 72 0 = some (.iload_n 2) := by decide +kernel
theorem dx_72_1 : mj_at 72 1 = some (.iload_n 1) := by decide +kernel
theorem dx_72_2 : mj_at 72 2 = some (.if_icmp .ge 11) := by decide +kernel
theorem dx_72_5 : mj_at 72 5 = some (.aload_n 0) := by decide +kernel
theorem dx_72_6 : mj_at 72 6 = some (.iload_n 2) := by decide +kernel
theorem dx_72_7 : mj_at 72 7 = some (.invokevirtual 31) := by decide +kernel
theorem dx_72_10 : mj_at 72 10 = some (.goto 4) := by decide +kernel
theorem dx_72_13 : mj_at 72 13 = some (.iconst (-1)) := by decide +kernel
theorem dx_72_14 : mj_at 72 14 = some (.istore_n 3) := by decide +kernel
theorem dx_72_15 : mj_at 72 15 = some (.iload_n 3) := by decide +kernel
theorem dx_72_16 : mj_at 72 16 = some (.bipush 50) := by decide +kernel
theorem dx_72_18 : mj_at 72 18 = some (.if_icmp .lt 16) := by decide +kernel
theorem dx_72_21 : mj_at 72 21 = some (.iload_n 3) := by decide +kernel
theorem dx_72_22 : mj_at 72 22 = some (.bipush 57) := by decide +kernel
theorem dx_72_24 : mj_at 72 24 = some (.if_icmp .gt 10) := by decide +kernel
theorem dx_72_27 : mj_at 72 27 = some (.iload_n 3) := by decide +kernel
theorem dx_72_28 : mj_at 72 28 = some (.bipush 48) := by decide +kernel
theorem dx_72_30 : mj_at 72 30 = some (.isub) := by decide +kernel
theorem dx_72_31 : mj_at 72 31 = some (.goto 4) := by decide +kernel
theorem dx_72_34 : mj_at 72 34 = some (.iconst 1) := by decide +kernel
theorem dx_72_35 : mj_at 72 35 = some (.ireturn) := by decide +kernel
set_option maxRecDepth 10000 in
theorem b_X6_timesAt {sl d : Nat} {M : mj_M} {x2 : Int32} {x3 : Int32}  : mj_C sl (d + 1) 72 [.ref 21, .int x2, .int x3] M = if x3 < x2 then ((mj_C sl d 76 [.ref 21, .int x3] M).bind (fun q1 => if q1.1 < 50 then (some ((1 : Int32), q1.2)) else (if q1.1 ≤ 57 then (some ((q1.1 - 48 : Int32), q1.2)) else (some ((1 : Int32), q1.2))))) else (some ((1 : Int32), M)) := by
  show mj_E sl (d + 1) 72 0 [.ref 21, .int x2, .int x3, .null] [] M = _
  refine (sx_iload_n dx_72_0 rfl).trans ?_
  refine (sx_iload_n dx_72_1 rfl).trans ?_
  refine (sx_icmp_ge (tgt := 13) dx_72_2 (by decide)).trans ?_
  refine mj_ite ?_ ?_
  · refine (sx_aload_n dx_72_5 rfl).trans ?_
    refine (sx_iload_n dx_72_6 rfl).trans ?_
    refine (sx_v1i dx_72_7 ow_72 cx_4_31 oc_21 (Nat.le_of_ble_eq_true rfl)).trans ?_
    refine mj_bnd (fun q1 => ?_)
    refine (sx_goto (tgt := 14) dx_72_10 (by decide)).trans ?_
    refine (sx_istore_n dx_72_14 (Nat.le_of_ble_eq_true rfl) rfl).trans ?_
    refine (sx_iload_n dx_72_15 rfl).trans ?_
    refine (sx_bipush (v := 50) dx_72_16 rfl).trans ?_
    refine (sx_icmp_lt (tgt := 34) dx_72_18 (by decide)).trans ?_
    refine mj_ite ?_ ?_
    · refine (sx_iconst (v := 1) dx_72_34 rfl).trans ?_
      exact sx_reti dx_72_35 rt_72
    · refine (sx_iload_n dx_72_21 rfl).trans ?_
      refine (sx_bipush (v := 57) dx_72_22 rfl).trans ?_
      refine (sx_icmp_gt (tgt := 34) dx_72_24 (by decide)).trans ?_
      refine mj_ite ?_ ?_
      · refine (sx_iload_n dx_72_27 rfl).trans ?_
        refine (sx_bipush (v := 48) dx_72_28 rfl).trans ?_
        refine (sx_isub dx_72_30).trans ?_
        refine (sx_goto (tgt := 35) dx_72_31 (by decide)).trans ?_
        exact sx_reti dx_72_35 rt_72
      · refine (sx_iconst (v := 1) dx_72_34 rfl).trans ?_
        exact sx_reti dx_72_35 rt_72
  · refine (sx_iconst (v := (-1)) dx_72_13 rfl).trans ?_
    refine (sx_istore_n dx_72_14 (Nat.le_of_ble_eq_true rfl) rfl).trans ?_
    refine (sx_iload_n dx_72_15 rfl).trans ?_
    refine (sx_bipush (v := 50) dx_72_16 rfl).trans ?_
    refine (sx_icmp_lt_t (tgt := 34) dx_72_18 (by decide) (by decide)).trans ?_
    refine (sx_iconst (v := 1) dx_72_34 rfl).trans ?_
    exact sx_reti dx_72_35 rt_72
