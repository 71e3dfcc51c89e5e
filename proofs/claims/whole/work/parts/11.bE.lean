theorem dx_78_0 : mj_at 78 0 = some (.iload_n 1) := by decide +kernel
theorem dx_78_1 : mj_at 78 1 = some (.ifCond .lt 16) := by decide +kernel
theorem dx_78_4 : mj_at 78 4 = some (.iload_n 1) := by decide +kernel
theorem dx_78_5 : mj_at 78 5 = some (.bipush 8) := by decide +kernel
theorem dx_78_7 : mj_at 78 7 = some (.if_icmp .ge 10) := by decide +kernel
theorem dx_78_10 : mj_at 78 10 = some (.iload_n 2) := by decide +kernel
theorem dx_78_11 : mj_at 78 11 = some (.invokestatic 72) := by decide +kernel
theorem dx_78_14 : mj_at 78 14 = some (.ifCond .ne 5) := by decide +kernel
theorem dx_78_17 : mj_at 78 17 = some (.iconst 0) := by decide +kernel
theorem dx_78_18 : mj_at 78 18 = some (.ireturn) := by decide +kernel
theorem dx_78_19 : mj_at 78 19 = some (.aload_n 0) := by decide +kernel
theorem dx_78_20 : mj_at 78 20 = some (.getfield 10) := by decide +kernel
theorem dx_78_23 : mj_at 78 23 = some (.iload_n 1) := by decide +kernel
theorem dx_78_24 : mj_at 78 24 = some (.iload_n 2) := by decide +kernel
theorem dx_78_25 : mj_at 78 25 = some (.invokevirtual 78) := by decide +kernel
theorem dx_78_28 : mj_at 78 28 = some (.iconst 1) := by decide +kernel
theorem dx_78_29 : mj_at 78 29 = some (.ireturn) := by decide +kernel
set_option maxRecDepth 10000 in
theorem b_X8_model {sl d : Nat} {M : mj_M} {x1 : Int32} {x2 : Int32}  : mj_C sl (d + 1) 78 [.ref 0, .int x1, .int x2] M = if x1 < 0 then (some ((0 : Int32), M)) else (if x1 < 8 then ((mj_C sl d 20 [.int x2] M).bind (fun q1 => if q1.1 = 0 then (some ((0 : Int32), q1.2)) else ((mj_C sl d 63 [.ref 1, .int x1, .int x2] q1.2).bind (fun q2 => some ((1 : Int32), q2.2))))) else (some ((0 : Int32), M))) := by
  show mj_E sl (d + 1) 78 0 [.ref 0, .int x1, .int x2] [] M = _
  refine (sx_iload_n dx_78_0 rfl).trans ?_
  refine (sx_if_lt (tgt := 17) dx_78_1 (by decide)).trans ?_
  refine mj_ite ?_ ?_
  · refine (sx_iconst (v := 0) dx_78_17 rfl).trans ?_
    exact sx_retz dx_78_18 rt_78 (by decide)
  · refine (sx_iload_n dx_78_4 rfl).trans ?_
    refine (sx_bipush (v := 8) dx_78_5 rfl).trans ?_
    refine (sx_icmp_ge (tgt := 17) dx_78_7 (by decide)).trans ?_
    refine mj_ite ?_ ?_
    · refine (sx_iload_n dx_78_10 rfl).trans ?_
      refine (sx_s1i dx_78_11 ow_78 cx_6_72 (Nat.le_of_ble_eq_true rfl)).trans ?_
      refine mj_bnd (fun q1 => ?_)
      refine (sx_if_ne (tgt := 19) dx_78_14 (by decide)).trans ?_
      refine mj_ite ?_ ?_
      · refine (sx_iconst (v := 0) dx_78_17 rfl).trans ?_
        exact sx_retz dx_78_18 rt_78 (by decide)
      · refine (sx_aload_n dx_78_19 rfl).trans ?_
        refine (sx_gfr dx_78_20 ow_78 fx_6_10 oc_0 rb_0_0).trans ?_
        refine (sx_iload_n dx_78_23 rfl).trans ?_
        refine (sx_iload_n dx_78_24 rfl).trans ?_
        refine (sx_v2v dx_78_25 ow_78 cx_6_78 oc_1 (Nat.le_of_ble_eq_true rfl)).trans ?_
        refine mj_bnd (fun q2 => ?_)
        refine (sx_iconst (v := 1) dx_78_28 rfl).trans ?_
        exact sx_retz dx_78_29 rt_78 (by decide)
    · refine (sx_iconst (v := 0) dx_78_17 rfl).trans ?_
      exact sx_retz dx_78_18 rt_78 (by decide)
theorem dx_79_0 : mj_at 79 0 = some (.iload_n 1) := by decide +kernel
theorem dx_79_1 : mj_at 79 1 = some (.ifCond .lt 30) := by decide +kernel
theorem dx_79_4 : mj_at 79 4 = some (.iload_n 1) := by decide +kernel
theorem dx_79_5 : mj_at 79 5 = some (.bipush 10) := by decide +kernel
theorem dx_79_7 : mj_at 79 7 = some (.if_icmp .ge 24) := by decide +kernel
theorem dx_79_10 : mj_at 79 10 = some (.iload_n 2) := by decide +kernel
theorem dx_79_11 : mj_at 79 11 = some (.ifCond .lt 20) := by decide +kernel
theorem dx_79_14 : mj_at 79 14 = some (.iload_n 2) := by decide +kernel
theorem dx_79_15 : mj_at 79 15 = some (.bipush 99) := by decide +kernel
theorem dx_79_17 : mj_at 79 17 = some (.if_icmp .gt 14) := by decide +kernel
theorem dx_79_20 : mj_at 79 20 = some (.iload_n 3) := by decide +kernel
theorem dx_79_21 : mj_at 79 21 = some (.ifCond .lt 10) := by decide +kernel
theorem dx_79_24 : mj_at 79 24 = some (.iload_n 3) := by decide +kernel
theorem dx_79_25 : mj_at 79 25 = some (.sipush 9999) := by decide +kernel
theorem dx_79_28 : mj_at 79 28 = some (.if_icmp .le 5) := by decide +kernel
theorem dx_79_31 : mj_at 79 31 = some (.iconst 0) := by decide +kernel
theorem dx_79_32 : mj_at 79 32 = some (.ireturn) := by decide +kernel
theorem dx_79_33 : mj_at 79 33 = some (.aload_n 0) := by decide +kernel
theorem dx_79_34 : mj_at 79 34 = some (.getfield 21) := by decide +kernel
theorem dx_79_37 : mj_at 79 37 = some (.iload_n 1) := by decide +kernel
theorem dx_79_38 : mj_at 79 38 = some (.iload_n 2) := by decide +kernel
theorem dx_79_39 : mj_at 79 39 = some (.iload_n 3) := by decide +kernel
theorem dx_79_40 : mj_at 79 40 = some (.invokevirtual 82) := by decide +kernel
theorem dx_79_43 : mj_at 79 43 = some (.iconst 1) := by decide +kernel
theorem dx_79_44 : mj_at 79 44 = some (.ireturn) := by decide +kernel
set_option maxRecDepth 10000 in
theorem b_X8_courtier {sl d : Nat} {M : mj_M} {x1 : Int32} {x2 : Int32} {x3 : Int32}  : mj_C sl (d + 1) 79 [.ref 0, .int x1, .int x2, .int x3] M = if x1 < 0 then (some ((0 : Int32), M)) else (if x1 < 10 then (if x2 < 0 then (some ((0 : Int32), M)) else (if x2 ≤ 99 then (if x3 < 0 then (some ((0 : Int32), M)) else (if x3 ≤ 9999 then ((mj_C sl d 6 [.ref 3, .int x1, .int x2, .int x3] M).bind (fun q1 => some ((1 : Int32), q1.2))) else (some ((0 : Int32), M)))) else (some ((0 : Int32), M)))) else (some ((0 : Int32), M))) := by
  show mj_E sl (d + 1) 79 0 [.ref 0, .int x1, .int x2, .int x3] [] M = _
  refine (sx_iload_n dx_79_0 rfl).trans ?_
  refine (sx_if_lt (tgt := 31) dx_79_1 (by decide)).trans ?_
  refine mj_ite ?_ ?_
  · refine (sx_iconst (v := 0) dx_79_31 rfl).trans ?_
    exact sx_retz dx_79_32 rt_79 (by decide)
  · refine (sx_iload_n dx_79_4 rfl).trans ?_
    refine (sx_bipush (v := 10) dx_79_5 rfl).trans ?_
    refine (sx_icmp_ge (tgt := 31) dx_79_7 (by decide)).trans ?_
    refine mj_ite ?_ ?_
    · refine (sx_iload_n dx_79_10 rfl).trans ?_
      refine (sx_if_lt (tgt := 31) dx_79_11 (by decide)).trans ?_
      refine mj_ite ?_ ?_
      · refine (sx_iconst (v := 0) dx_79_31 rfl).trans ?_
        exact sx_retz dx_79_32 rt_79 (by decide)
      · refine (sx_iload_n dx_79_14 rfl).trans ?_
        refine (sx_bipush (v := 99) dx_79_15 rfl).trans ?_
        refine (sx_icmp_gt (tgt := 31) dx_79_17 (by decide)).trans ?_
        refine mj_ite ?_ ?_
        · refine (sx_iload_n dx_79_20 rfl).trans ?_
          refine (sx_if_lt (tgt := 31) dx_79_21 (by decide)).trans ?_
          refine mj_ite ?_ ?_
          · refine (sx_iconst (v := 0) dx_79_31 rfl).trans ?_
            exact sx_retz dx_79_32 rt_79 (by decide)
          · refine (sx_iload_n dx_79_24 rfl).trans ?_
            refine (sx_sipush (v := 9999) dx_79_25 rfl).trans ?_
            refine (sx_icmp_le (tgt := 33) dx_79_28 (by decide)).trans ?_
            refine mj_ite ?_ ?_
            · refine (sx_aload_n dx_79_33 rfl).trans ?_
              refine (sx_gfr dx_79_34 ow_79 fx_6_21 oc_0 rb_0_1).trans ?_
              refine (sx_iload_n dx_79_37 rfl).trans ?_
              refine (sx_iload_n dx_79_38 rfl).trans ?_
              refine (sx_iload_n dx_79_39 rfl).trans ?_
              refine (sx_v3v dx_79_40 ow_79 cx_6_82 oc_3 (Nat.le_of_ble_eq_true rfl)).trans ?_
              refine mj_bnd (fun q1 => ?_)
              refine (sx_iconst (v := 1) dx_79_43 rfl).trans ?_
              exact sx_retz dx_79_44 rt_79 (by decide)
            · refine (sx_iconst (v := 0) dx_79_31 rfl).trans ?_
              exact sx_retz dx_79_32 rt_79 (by decide)
        · refine (sx_iconst (v := 0) dx_79_31 rfl).trans ?_
          exact sx_retz dx_79_32 rt_79 (by decide)
    · refine (sx_iconst (v := 0) dx_79_31 rfl).trans ?_
      exact sx_retz dx_79_32 rt_79 (by decide)
theorem dx_80_0 : mj_at 80 0 = some (.aload_n 0) := by decide +kernel
theorem dx_80_1 : mj_at 80 1 = some (.getfield 21) := by decide +kernel
theorem dx_80_4 : mj_at 80 4 = some (.iload_n 1) := by decide +kernel
theorem dx_80_5 : mj_at 80 5 = some (.invokevirtual 85) := by decide +kernel
theorem dx_80_8 : mj_at 80 8 = some (.ifCond .eq 21) := by decide +kernel
theorem dx_80_11 : mj_at 80 11 = some (.aload_n 0) := by decide +kernel
theorem dx_80_12 : mj_at 80 12 = some (.getfield 10) := by decide +kernel
theorem dx_80_15 : mj_at 80 15 = some (.iload_n 2) := by decide +kernel
theorem dx_80_16 : mj_at 80 16 = some (.invokevirtual 88) := by decide +kernel
theorem dx_80_19 : mj_at 80 19 = some (.ifCond .eq 10) := by decide +kernel
theorem dx_80_22 : mj_at 80 22 = some (.iload_n 3) := by decide +kernel
theorem dx_80_23 : mj_at 80 23 = some (.invokestatic 72) := by decide +kernel
theorem dx_80_26 : mj_at 80 26 = some (.ifCond .ne 5) := by decide +kernel
theorem dx_80_29 : mj_at 80 29 = some (.iconst 0) := by decide +kernel
theorem dx_80_30 : mj_at 80 30 = some (.ireturn) := by decide +kernel
theorem dx_80_31 : mj_at 80 31 = some (.aload_n 0) := by decide +kernel
theorem dx_80_32 : mj_at 80 32 = some (.getfield 21) := by decide +kernel
theorem dx_80_35 : mj_at 80 35 = some (.iload_n 1) := by decide +kernel
theorem dx_80_36 : mj_at 80 36 = some (.iload_n 2) := by decide +kernel
theorem dx_80_37 : mj_at 80 37 = some (.iload_n 3) := by decide +kernel
theorem dx_80_38 : mj_at 80 38 = some (.invokevirtual 89) := by decide +kernel
theorem dx_80_41 : mj_at 80 41 = some (.iconst 1) := by decide +kernel
theorem dx_80_42 : mj_at 80 42 = some (.ireturn) := by decide +kernel
set_option maxRecDepth 10000 in
theorem b_X8_form {sl d : Nat} {M : mj_M} {x1 : Int32} {x2 : Int32} {x3 : Int32}  : mj_C sl (d + 1) 80 [.ref 0, .int x1, .int x2, .int x3] M = (mj_C sl d 5 [.ref 3, .int x1] M).bind (fun q1 => if q1.1 = 0 then (some ((0 : Int32), q1.2)) else ((mj_C sl d 62 [.ref 1, .int x2] q1.2).bind (fun q2 => if q2.1 = 0 then (some ((0 : Int32), q2.2)) else ((mj_C sl d 20 [.int x3] q2.2).bind (fun q3 => if q3.1 = 0 then (some ((0 : Int32), q3.2)) else ((mj_C sl d 7 [.ref 3, .int x1, .int x2, .int x3] q3.2).bind (fun q4 => some ((1 : Int32), q4.2)))))))) := by
  show mj_E sl (d + 1) 80 0 [.ref 0, .int x1, .int x2, .int x3] [] M = _
  refine (sx_aload_n dx_80_0 rfl).trans ?_
  refine (sx_gfr dx_80_1 ow_80 fx_6_21 oc_0 rb_0_1).trans ?_
  refine (sx_iload_n dx_80_4 rfl).trans ?_
  refine (sx_v1i dx_80_5 ow_80 cx_6_85 oc_3 (Nat.le_of_ble_eq_true rfl)).trans ?_
  refine mj_bnd (fun q1 => ?_)
  refine (sx_if_eq (tgt := 29) dx_80_8 (by decide)).trans ?_
  refine mj_ite ?_ ?_
  · refine (sx_iconst (v := 0) dx_80_29 rfl).trans ?_
    exact sx_retz dx_80_30 rt_80 (by decide)
  · refine (sx_aload_n dx_80_11 rfl).trans ?_
    refine (sx_gfr dx_80_12 ow_80 fx_6_10 oc_0 rb_0_0).trans ?_
    refine (sx_iload_n dx_80_15 rfl).trans ?_
    refine (sx_v1i dx_80_16 ow_80 cx_6_88 oc_1 (Nat.le_of_ble_eq_true rfl)).trans ?_
    refine mj_bnd (fun q2 => ?_)
    refine (sx_if_eq (tgt := 29) dx_80_19 (by decide)).trans ?_
    refine mj_ite ?_ ?_
    · refine (sx_iconst (v := 0) dx_80_29 rfl).trans ?_
      exact sx_retz dx_80_30 rt_80 (by decide)
    · refine (sx_iload_n dx_80_22 rfl).trans ?_
      refine (sx_s1i dx_80_23 ow_80 cx_6_72 (Nat.le_of_ble_eq_true rfl)).trans ?_
      refine mj_bnd (fun q3 => ?_)
      refine (sx_if_ne (tgt := 31) dx_80_26 (by decide)).trans ?_
      refine mj_ite ?_ ?_
      · refine (sx_iconst (v := 0) dx_80_29 rfl).trans ?_
        exact sx_retz dx_80_30 rt_80 (by decide)
      · refine (sx_aload_n dx_80_31 rfl).trans ?_
        refine (sx_gfr dx_80_32 ow_80 fx_6_21 oc_0 rb_0_1).trans ?_
        refine (sx_iload_n dx_80_35 rfl).trans ?_
        refine (sx_iload_n dx_80_36 rfl).trans ?_
        refine (sx_iload_n dx_80_37 rfl).trans ?_
        refine (sx_v3v dx_80_38 ow_80 cx_6_89 oc_3 (Nat.le_of_ble_eq_true rfl)).trans ?_
        refine mj_bnd (fun q4 => ?_)
        refine (sx_iconst (v := 1) dx_80_41 rfl).trans ?_
        exact sx_retz dx_80_42 rt_80 (by decide)
theorem dx_81_0 : mj_at 81 0 = some (.aload_n 0) := by decide +kernel
theorem dx_81_1 : mj_at 81 1 = some (.getfield 34) := by decide +kernel
theorem dx_81_4 : mj_at 81 4 = some (.invokevirtual 92) := by decide +kernel
theorem dx_81_7 : mj_at 81 7 = some (.ifCond .ne 5) := by decide +kernel
theorem dx_81_10 : mj_at 81 10 = some (.iconst (-1)) := by decide +kernel
theorem dx_81_11 : mj_at 81 11 = some (.ireturn) := by decide +kernel
theorem dx_81_12 : mj_at 81 12 = some (.aload_n 0) := by decide +kernel
theorem dx_81_13 : mj_at 81 13 = some (.getfield 34) := by decide +kernel
theorem dx_81_16 : mj_at 81 16 = some (.iload_n 1) := by decide +kernel
theorem dx_81_17 : mj_at 81 17 = some (.invokevirtual 96) := by decide +kernel
theorem dx_81_20 : mj_at 81 20 = some (.aload_n 0) := by decide +kernel
theorem dx_81_21 : mj_at 81 21 = some (.getfield 34) := by decide +kernel
theorem dx_81_24 : mj_at 81 24 = some (.iload_n 2) := by decide +kernel
theorem dx_81_25 : mj_at 81 25 = some (.invokevirtual 96) := by decide +kernel
theorem dx_81_28 : mj_at 81 28 = some (.aload_n 0) := by decide +kernel
theorem dx_81_29 : mj_at 81 29 = some (.getfield 34) := by decide +kernel
theorem dx_81_32 : mj_at 81 32 = some (.iload_n 3) := by decide +kernel
theorem dx_81_33 : mj_at 81 33 = some (.invokevirtual 96) := by decide +kernel
theorem dx_81_36 : mj_at 81 36 = some (.aload_n 0) := by decide +kernel
theorem dx_81_37 : mj_at 81 37 = some (.getfield 34) := by decide +kernel
theorem dx_81_40 : mj_at 81 40 = some (.iload 4) := by decide +kernel
theorem dx_81_42 : mj_at 81 42 = some (.invokevirtual 96) := by decide +kernel
theorem dx_81_45 : mj_at 81 45 = some (.aload_n 0) := by decide +kernel
theorem dx_81_46 : mj_at 81 46 = some (.getfield 34) := by decide +kernel
theorem dx_81_49 : mj_at 81 49 = some (.iload 5) := by decide +kernel
theorem dx_81_51 : mj_at 81 51 = some (.invokevirtual 96) := by decide +kernel
theorem dx_81_54 : mj_at 81 54 = some (.aload_n 0) := by decide +kernel
theorem dx_81_55 : mj_at 81 55 = some (.getfield 34) := by decide +kernel
theorem dx_81_58 : mj_at 81 58 = some (.getfield 100) := by decide +kernel
theorem dx_81_61 : mj_at 81 61 = some (.ireturn) := by decide +kernel
set_option maxRecDepth 10000 in
theorem b_X8_feed {sl d : Nat} {M : mj_M} {x1 : Int32} {x2 : Int32} {x3 : Int32} {x4 : Int32} {x5 : Int32}  : mj_C sl (d + 1) 81 [.ref 0, .int x1, .int x2, .int x3, .int x4, .int x5] M = (mj_C sl d 73 [.ref 21] M).bind (fun q1 => if q1.1 = 0 then (some (((-1) : Int32), q1.2)) else ((mj_C sl d 74 [.ref 21, .int x1] q1.2).bind (fun q2 => (mj_C sl d 74 [.ref 21, .int x2] q2.2).bind (fun q3 => (mj_C sl d 74 [.ref 21, .int x3] q3.2).bind (fun q4 => (mj_C sl d 74 [.ref 21, .int x4] q4.2).bind (fun q5 => (mj_C sl d 74 [.ref 21, .int x5] q5.2).bind (fun q6 => some ((q6.2 21 1 : Int32), q6.2)))))))) := by
  show mj_E sl (d + 1) 81 0 [.ref 0, .int x1, .int x2, .int x3, .int x4, .int x5] [] M = _
  refine (sx_aload_n dx_81_0 rfl).trans ?_
  refine (sx_gfr dx_81_1 ow_81 fx_6_34 oc_0 rb_0_4).trans ?_
  refine (sx_v0i dx_81_4 ow_81 cx_6_92 oc_21 (Nat.le_of_ble_eq_true rfl)).trans ?_
  refine mj_bnd (fun q1 => ?_)
  refine (sx_if_ne (tgt := 12) dx_81_7 (by decide)).trans ?_
  refine mj_ite ?_ ?_
  · refine (sx_iconst (v := (-1)) dx_81_10 rfl).trans ?_
    exact sx_reti dx_81_11 rt_81
  · refine (sx_aload_n dx_81_12 rfl).trans ?_
    refine (sx_gfr dx_81_13 ow_81 fx_6_34 oc_0 rb_0_4).trans ?_
    refine (sx_iload_n dx_81_16 rfl).trans ?_
    refine (sx_v1v dx_81_17 ow_81 cx_6_96 oc_21 (Nat.le_of_ble_eq_true rfl)).trans ?_
    refine mj_bnd (fun q2 => ?_)
    refine (sx_aload_n dx_81_20 rfl).trans ?_
    refine (sx_gfr dx_81_21 ow_81 fx_6_34 oc_0 rb_0_4).trans ?_
    refine (sx_iload_n dx_81_24 rfl).trans ?_
    refine (sx_v1v dx_81_25 ow_81 cx_6_96 oc_21 (Nat.le_of_ble_eq_true rfl)).trans ?_
    refine mj_bnd (fun q3 => ?_)
    refine (sx_aload_n dx_81_28 rfl).trans ?_
    refine (sx_gfr dx_81_29 ow_81 fx_6_34 oc_0 rb_0_4).trans ?_
    refine (sx_iload_n dx_81_32 rfl).trans ?_
    refine (sx_v1v dx_81_33 ow_81 cx_6_96 oc_21 (Nat.le_of_ble_eq_true rfl)).trans ?_
    refine mj_bnd (fun q4 => ?_)
    refine (sx_aload_n dx_81_36 rfl).trans ?_
    refine (sx_gfr dx_81_37 ow_81 fx_6_34 oc_0 rb_0_4).trans ?_
    refine (sx_iload dx_81_40 rfl).trans ?_
    refine (sx_v1v dx_81_42 ow_81 cx_6_96 oc_21 (Nat.le_of_ble_eq_true rfl)).trans ?_
    refine mj_bnd (fun q5 => ?_)
    refine (sx_aload_n dx_81_45 rfl).trans ?_
    refine (sx_gfr dx_81_46 ow_81 fx_6_34 oc_0 rb_0_4).trans ?_
    refine (sx_iload dx_81_49 rfl).trans ?_
    refine (sx_v1v dx_81_51 ow_81 cx_6_96 oc_21 (Nat.le_of_ble_eq_true rfl)).trans ?_
    refine mj_bnd (fun q6 => ?_)
    refine (sx_aload_n dx_81_54 rfl).trans ?_
    refine (sx_gfr dx_81_55 ow_81 fx_6_34 oc_0 rb_0_4).trans ?_
    refine (sx_gfi dx_81_58 ow_81 fx_6_100 (by decide) oc_21).trans ?_
    exact sx_reti dx_81_61 rt_81
theorem dx_82_0 : mj_at 82 0 = some (.aload_n 0) := by decide +kernel
theorem dx_82_1 : mj_at 82 1 = some (.getfield 34) := by decide +kernel
theorem dx_82_4 : mj_at 82 4 = some (.iload_n 1) := by decide +kernel
theorem dx_82_5 : mj_at 82 5 = some (.iconst 1) := by decide +kernel
theorem dx_82_6 : mj_at 82 6 = some (.sipush 240) := by decide +kernel
theorem dx_82_9 : mj_at 82 9 = some (.invokevirtual 104) := by decide +kernel
theorem dx_82_12 : mj_at 82 12 = some (.ifCond .ne 5) := by decide +kernel
theorem dx_82_15 : mj_at 82 15 = some (.iconst (-1)) := by decide +kernel
theorem dx_82_16 : mj_at 82 16 = some (.ireturn) := by decide +kernel
theorem dx_82_17 : mj_at 82 17 = some (.aload_n 0) := by decide +kernel
theorem dx_82_18 : mj_at 82 18 = some (.getfield 50) := by decide +kernel
theorem dx_82_21 : mj_at 82 21 = some (.iload_n 1) := by decide +kernel
theorem dx_82_22 : mj_at 82 22 = some (.invokevirtual 107) := by decide +kernel
theorem dx_82_25 : mj_at 82 25 = some (.istore_n 2) := by decide +kernel
theorem dx_82_26 : mj_at 82 26 = some (.aload_n 0) := by decide +kernel
theorem dx_82_27 : mj_at 82 27 = some (.getfield 34) := by decide +kernel
theorem dx_82_30 : mj_at 82 30 = some (.iconst 0) := by decide +kernel
theorem dx_82_31 : mj_at 82 31 = some (.putfield 100) := by decide +kernel
theorem dx_82_34 : mj_at 82 34 = some (.iload_n 2) := by decide +kernel
theorem dx_82_35 : mj_at 82 35 = some (.ifCond .le 18) := by decide +kernel
theorem dx_82_38 : mj_at 82 38 = some (.aload_n 0) := by decide +kernel
theorem dx_82_39 : mj_at 82 39 = some (.aload_n 0) := by decide +kernel
theorem dx_82_40 : mj_at 82 40 = some (.getfield 50) := by decide +kernel
theorem dx_82_43 : mj_at 82 43 = some (.aload_n 0) := by decide +kernel
theorem dx_82_44 : mj_at 82 44 = some (.getfield 64) := by decide +kernel
theorem dx_82_47 : mj_at 82 47 = some (.invokevirtual 111) := by decide +kernel
theorem dx_82_50 : mj_at 82 50 = some (.putfield 64) := by decide +kernel
theorem dx_82_53 : mj_at 82 53 = some (.iload_n 2) := by decide +kernel
theorem dx_82_54 : mj_at 82 54 = some (.ireturn) := by decide +kernel
theorem dx_83_0 : mj_at 83 0 = some (.aload_n 0) := by decide +kernel
theorem dx_83_1 : mj_at 83 1 = some (.getfield 34) := by decide +kernel
theorem dx_83_4 : mj_at 83 4 = some (.iload_n 1) := by decide +kernel
theorem dx_83_5 : mj_at 83 5 = some (.iconst 1) := by decide +kernel
theorem dx_83_6 : mj_at 83 6 = some (.bipush 60) := by decide +kernel
theorem dx_83_8 : mj_at 83 8 = some (.invokevirtual 104) := by decide +kernel
theorem dx_83_11 : mj_at 83 11 = some (.ifCond .ne 5) := by decide +kernel
theorem dx_83_14 : mj_at 83 14 = some (.iconst (-1)) := by decide +kernel
theorem dx_83_15 : mj_at 83 15 = some (.ireturn) := by decide +kernel
theorem dx_83_16 : mj_at 83 16 = some (.aload_n 0) := by decide +kernel
theorem dx_83_17 : mj_at 83 17 = some (.getfield 41) := by decide +kernel
theorem dx_83_20 : mj_at 83 20 = some (.aload_n 0) := by decide +kernel
theorem dx_83_21 : mj_at 83 21 = some (.getfield 34) := by decide +kernel
theorem dx_83_24 : mj_at 83 24 = some (.iload_n 1) := by decide +kernel
theorem dx_83_25 : mj_at 83 25 = some (.invokevirtual 115) := by decide +kernel
theorem dx_83_28 : mj_at 83 28 = some (.istore_n 2) := by decide +kernel
theorem dx_83_29 : mj_at 83 29 = some (.aload_n 0) := by decide +kernel
theorem dx_83_30 : mj_at 83 30 = some (.getfield 34) := by decide +kernel
theorem dx_83_33 : mj_at 83 33 = some (.iconst 0) := by decide +kernel
theorem dx_83_34 : mj_at 83 34 = some (.putfield 100) := by decide +kernel
theorem dx_83_37 : mj_at 83 37 = some (.iload_n 2) := by decide +kernel
theorem dx_83_38 : mj_at 83 38 = some (.ireturn) := by decide +kernel
set_option maxRecDepth 10000 in
theorem b_X8_order {sl d : Nat} {M : mj_M} {x1 : Int32}  : mj_C sl (d + 1) 83 [.ref 0, .int x1] M = (mj_C sl d 75 [.ref 21, .int x1, .int 1, .int 60] M).bind (fun q1 => if q1.1 = 0 then (some (((-1) : Int32), q1.2)) else ((mj_C sl d 67 [.ref 23, .ref 21, .int x1] q1.2).bind (fun q2 => some ((q2.1 : Int32), mj_st q2.2 21 1 0)))) := by
  show mj_E sl (d + 1) 83 0 [.ref 0, .int x1, .null] [] M = _
  refine (sx_aload_n dx_83_0 rfl).trans ?_
  refine (sx_gfr dx_83_1 ow_83 fx_6_34 oc_0 rb_0_4).trans ?_
  refine (sx_iload_n dx_83_4 rfl).trans ?_
  refine (sx_iconst (v := 1) dx_83_5 rfl).trans ?_
  refine (sx_bipush (v := 60) dx_83_6 rfl).trans ?_
  refine (sx_v3i dx_83_8 ow_83 cx_6_104 oc_21 (Nat.le_of_ble_eq_true rfl)).trans ?_
  refine mj_bnd (fun q1 => ?_)
  refine (sx_if_ne (tgt := 16) dx_83_11 (by decide)).trans ?_
  refine mj_ite ?_ ?_
  · refine (sx_iconst (v := (-1)) dx_83_14 rfl).trans ?_
    exact sx_reti dx_83_15 rt_83
  · refine (sx_aload_n dx_83_16 rfl).trans ?_
    refine (sx_gfr dx_83_17 ow_83 fx_6_41 oc_0 rb_0_5).trans ?_
    refine (sx_aload_n dx_83_20 rfl).trans ?_
    refine (sx_gfr dx_83_21 ow_83 fx_6_34 oc_0 rb_0_4).trans ?_
    refine (sx_iload_n dx_83_24 rfl).trans ?_
    refine (sx_v2i dx_83_25 ow_83 cx_6_115 oc_23 (Nat.le_of_ble_eq_true rfl)).trans ?_
    refine mj_bnd (fun q2 => ?_)
    refine (sx_istore_n dx_83_28 (Nat.le_of_ble_eq_true rfl) rfl).trans ?_
    refine (sx_aload_n dx_83_29 rfl).trans ?_
    refine (sx_gfr dx_83_30 ow_83 fx_6_34 oc_0 rb_0_4).trans ?_
    refine (sx_iconst (v := 0) dx_83_33 rfl).trans ?_
    refine (sx_pfi dx_83_34 ow_83 fx_6_100 oc_21).trans ?_
    refine (sx_iload_n dx_83_37 rfl).trans ?_
    exact sx_reti dx_83_38 rt_83
theorem dx_84_0 : mj_at 84 0 = some (.aload_n 0) := by decide +kernel
theorem dx_84_1 : mj_at 84 1 = some (.getfield 34) := by decide +kernel
theorem dx_84_4 : mj_at 84 4 = some (.iload_n 1) := by decide +kernel
theorem dx_84_5 : mj_at 84 5 = some (.iconst 1) := by decide +kernel
theorem dx_84_6 : mj_at 84 6 = some (.bipush 120) := by decide +kernel
theorem dx_84_8 : mj_at 84 8 = some (.invokevirtual 104) := by decide +kernel
theorem dx_84_11 : mj_at 84 11 = some (.ifCond .ne 5) := by decide +kernel
theorem dx_84_14 : mj_at 84 14 = some (.iconst (-1)) := by decide +kernel
theorem dx_84_15 : mj_at 84 15 = some (.ireturn) := by decide +kernel
theorem dx_84_16 : mj_at 84 16 = some (.aload_n 0) := by decide +kernel
theorem dx_84_17 : mj_at 84 17 = some (.getfield 28) := by decide +kernel
theorem dx_84_20 : mj_at 84 20 = some (.aload_n 0) := by decide +kernel
theorem dx_84_21 : mj_at 84 21 = some (.getfield 21) := by decide +kernel
theorem dx_84_24 : mj_at 84 24 = some (.invokevirtual 119) := by decide +kernel
theorem dx_84_27 : mj_at 84 27 = some (.aload_n 0) := by decide +kernel
theorem dx_84_28 : mj_at 84 28 = some (.getfield 34) := by decide +kernel
theorem dx_84_31 : mj_at 84 31 = some (.iload_n 1) := by decide +kernel
theorem dx_84_32 : mj_at 84 32 = some (.aload_n 0) := by decide +kernel
theorem dx_84_33 : mj_at 84 33 = some (.getfield 28) := by decide +kernel
theorem dx_84_36 : mj_at 84 36 = some (.invokestatic 123) := by decide +kernel
theorem dx_84_39 : mj_at 84 39 = some (.istore_n 2) := by decide +kernel
theorem dx_84_40 : mj_at 84 40 = some (.aload_n 0) := by decide +kernel
theorem dx_84_41 : mj_at 84 41 = some (.getfield 34) := by decide +kernel
theorem dx_84_44 : mj_at 84 44 = some (.iconst 0) := by decide +kernel
theorem dx_84_45 : mj_at 84 45 = some (.putfield 100) := by decide +kernel
theorem dx_84_48 : mj_at 84 48 = some (.iload_n 2) := by decide +kernel
theorem dx_84_49 : mj_at 84 49 = some (.ifCond .le 14) := by decide +kernel
theorem dx_84_52 : mj_at 84 52 = some (.aload_n 0) := by decide +kernel
theorem dx_84_53 : mj_at 84 53 = some (.getfield 21) := by decide +kernel
theorem dx_84_56 : mj_at 84 56 = some (.aload_n 0) := by decide +kernel
theorem dx_84_57 : mj_at 84 57 = some (.getfield 28) := by decide +kernel
theorem dx_84_60 : mj_at 84 60 = some (.invokevirtual 119) := by decide +kernel
theorem dx_84_63 : mj_at 84 63 = some (.iload_n 2) := by decide +kernel
theorem dx_84_64 : mj_at 84 64 = some (.ireturn) := by decide +kernel
set_option maxRecDepth 10000 in
theorem b_X8_blots {sl d : Nat} {M : mj_M} {x1 : Int32}  : mj_C sl (d + 1) 84 [.ref 0, .int x1] M = (mj_C sl d 75 [.ref 21, .int x1, .int 1, .int 120] M).bind (fun q1 => if q1.1 = 0 then (some (((-1) : Int32), q1.2)) else ((mj_C sl d 4 [.ref 15, .ref 3] q1.2).bind (fun q2 => (mj_C sl d 0 [.ref 21, .int x1, .ref 15] q2.2).bind (fun q3 => if q3.1 ≤ 0 then (some ((q3.1 : Int32), mj_st q3.2 21 1 0)) else ((mj_C sl d 4 [.ref 3, .ref 15] (mj_st q3.2 21 1 0)).bind (fun q4 => some ((q3.1 : Int32), q4.2))))))) := by
  show mj_E sl (d + 1) 84 0 [.ref 0, .int x1, .null] [] M = _
  refine (sx_aload_n dx_84_0 rfl).trans ?_
  refine (sx_gfr dx_84_1 ow_84 fx_6_34 oc_0 rb_0_4).trans ?_
  refine (sx_iload_n dx_84_4 rfl).trans ?_
  refine (sx_iconst (v := 1) dx_84_5 rfl).trans ?_
  refine (sx_bipush (v := 120) dx_84_6 rfl).trans ?_
  refine (sx_v3i dx_84_8 ow_84 cx_6_104 oc_21 (Nat.le_of_ble_eq_true rfl)).trans ?_
  refine mj_bnd (fun q1 => ?_)
  refine (sx_if_ne (tgt := 16) dx_84_11 (by decide)).trans ?_
  refine mj_ite ?_ ?_
  · refine (sx_iconst (v := (-1)) dx_84_14 rfl).trans ?_
    exact sx_reti dx_84_15 rt_84
  · refine (sx_aload_n dx_84_16 rfl).trans ?_
    refine (sx_gfr dx_84_17 ow_84 fx_6_28 oc_0 rb_0_3).trans ?_
    refine (sx_aload_n dx_84_20 rfl).trans ?_
    refine (sx_gfr dx_84_21 ow_84 fx_6_21 oc_0 rb_0_1).trans ?_
    refine (sx_v1v dx_84_24 ow_84 cx_6_119 oc_15 (Nat.le_of_ble_eq_true rfl)).trans ?_
    refine mj_bnd (fun q2 => ?_)
    refine (sx_aload_n dx_84_27 rfl).trans ?_
    refine (sx_gfr dx_84_28 ow_84 fx_6_34 oc_0 rb_0_4).trans ?_
    refine (sx_iload_n dx_84_31 rfl).trans ?_
    refine (sx_aload_n dx_84_32 rfl).trans ?_
    refine (sx_gfr dx_84_33 ow_84 fx_6_28 oc_0 rb_0_3).trans ?_
    refine (sx_s3i dx_84_36 ow_84 cx_6_123 (Nat.le_of_ble_eq_true rfl)).trans ?_
    refine mj_bnd (fun q3 => ?_)
    refine (sx_istore_n dx_84_39 (Nat.le_of_ble_eq_true rfl) rfl).trans ?_
    refine (sx_aload_n dx_84_40 rfl).trans ?_
    refine (sx_gfr dx_84_41 ow_84 fx_6_34 oc_0 rb_0_4).trans ?_
    refine (sx_iconst (v := 0) dx_84_44 rfl).trans ?_
    refine (sx_pfi dx_84_45 ow_84 fx_6_100 oc_21).trans ?_
    refine (sx_iload_n dx_84_48 rfl).trans ?_
    refine (sx_if_le (tgt := 63) dx_84_49 (by decide)).trans ?_
    refine mj_ite ?_ ?_
    · refine (sx_iload_n dx_84_63 rfl).trans ?_
      exact sx_reti dx_84_64 rt_84
    · refine (sx_aload_n dx_84_52 rfl).trans ?_
      refine (sx_gfr dx_84_53 ow_84 fx_6_21 oc_0 rb_0_1).trans ?_
      refine (sx_aload_n dx_84_56 rfl).trans ?_
      refine (sx_gfr dx_84_57 ow_84 fx_6_28 oc_0 rb_0_3).trans ?_
      refine (sx_v1v dx_84_60 ow_84 cx_6_119 oc_3 (Nat.le_of_ble_eq_true rfl)).trans ?_
      refine mj_bnd (fun q4 => ?_)
      refine (sx_iload_n dx_84_63 rfl).trans ?_
      exact sx_reti dx_84_64 rt_84
theorem dx_85_0 : mj_at 85 0 = some (.iload_n 1) := by decide +kernel
theorem dx_85_1 : mj_at 85 1 = some (.iconst 1) := by decide +kernel
theorem dx_85_2 : mj_at 85 2 = some (.if_icmp .lt 9) := by decide +kernel
theorem dx_85_5 : mj_at 85 5 = some (.iload_n 1) := by decide +kernel
theorem dx_85_6 : mj_at 85 6 = some (.bipush 60) := by decide +kernel
theorem dx_85_8 : mj_at 85 8 = some (.if_icmp .le 5) := by decide +kernel
theorem dx_85_11 : mj_at 85 11 = some (.iconst (-1)) := by decide +kernel
theorem dx_85_12 : mj_at 85 12 = some (.ireturn) := by decide +kernel
theorem dx_85_13 : mj_at 85 13 = some (.aload_n 0) := by decide +kernel
theorem dx_85_14 : mj_at 85 14 = some (.getfield 21) := by decide +kernel
theorem dx_85_17 : mj_at 85 17 = some (.iload_n 1) := by decide +kernel
theorem dx_85_18 : mj_at 85 18 = some (.aload_n 0) := by decide +kernel
theorem dx_85_19 : mj_at 85 19 = some (.getfield 64) := by decide +kernel
theorem dx_85_22 : mj_at 85 22 = some (.invokevirtual 129) := by decide +kernel
theorem dx_85_25 : mj_at 85 25 = some (.aload_n 0) := by decide +kernel
theorem dx_85_26 : mj_at 85 26 = some (.getfield 21) := by decide +kernel
theorem dx_85_29 : mj_at 85 29 = some (.getfield 133) := by decide +kernel
theorem dx_85_32 : mj_at 85 32 = some (.ireturn) := by decide +kernel
set_option maxRecDepth 10000 in
theorem b_X8_moons {sl d : Nat} {M : mj_M} {x1 : Int32}  : mj_C sl (d + 1) 85 [.ref 0, .int x1] M = if x1 < 1 then (some (((-1) : Int32), M)) else (if x1 ≤ 60 then ((mj_C sl d 14 [.ref 3, .int x1, .ref (mj_lw (M 0 9))] M).bind (fun q1 => some ((q1.2 3 9 : Int32), q1.2))) else (some (((-1) : Int32), M))) := by
  show mj_E sl (d + 1) 85 0 [.ref 0, .int x1] [] M = _
  refine (sx_iload_n dx_85_0 rfl).trans ?_
  refine (sx_iconst (v := 1) dx_85_1 rfl).trans ?_
  refine (sx_icmp_lt (tgt := 11) dx_85_2 (by decide)).trans ?_
  refine mj_ite ?_ ?_
  · refine (sx_iconst (v := (-1)) dx_85_11 rfl).trans ?_
    exact sx_reti dx_85_12 rt_85
  · refine (sx_iload_n dx_85_5 rfl).trans ?_
    refine (sx_bipush (v := 60) dx_85_6 rfl).trans ?_
    refine (sx_icmp_le (tgt := 13) dx_85_8 (by decide)).trans ?_
    refine mj_ite ?_ ?_
    · refine (sx_aload_n dx_85_13 rfl).trans ?_
      refine (sx_gfr dx_85_14 ow_85 fx_6_21 oc_0 rb_0_1).trans ?_
      refine (sx_iload_n dx_85_17 rfl).trans ?_
      refine (sx_aload_n dx_85_18 rfl).trans ?_
      refine (sx_gfl dx_85_19 ow_85 fx_6_64 oc_0).trans ?_
      refine (sx_v2v dx_85_22 ow_85 cx_6_129 oc_3 (Nat.le_of_ble_eq_true rfl)).trans ?_
      refine mj_bnd (fun q1 => ?_)
      refine (sx_aload_n dx_85_25 rfl).trans ?_
      refine (sx_gfr dx_85_26 ow_85 fx_6_21 oc_0 rb_0_1).trans ?_
      refine (sx_gfi dx_85_29 ow_85 fx_6_133 (by decide) oc_3).trans ?_
      exact sx_reti dx_85_32 rt_85
    · refine (sx_iconst (v := (-1)) dx_85_11 rfl).trans ?_
      exact sx_reti dx_85_12 rt_85
theorem dx_86_0 : mj_at 86 0 = some (.iload_n 1) := by decide +kernel
theorem dx_86_1 : mj_at 86 1 = some (.iconst 1) := by decide +kernel
theorem dx_86_2 : mj_at 86 2 = some (.if_icmp .lt 17) := by decide +kernel
theorem dx_86_5 : mj_at 86 5 = some (.iload_n 1) := by decide +kernel
theorem dx_86_6 : mj_at 86 6 = some (.bipush 60) := by decide +kernel
theorem dx_86_8 : mj_at 86 8 = some (.if_icmp .gt 11) := by decide +kernel
theorem dx_86_11 : mj_at 86 11 = some (.aload_n 0) := by decide +kernel
theorem dx_86_12 : mj_at 86 12 = some (.iload_n 2) := by decide +kernel
theorem dx_86_13 : mj_at 86 13 = some (.invokevirtual 136) := by decide +kernel
theorem dx_86_16 : mj_at 86 16 = some (.ifCond .ne 5) := by decide +kernel
theorem dx_86_19 : mj_at 86 19 = some (.iconst (-1)) := by decide +kernel
theorem dx_86_20 : mj_at 86 20 = some (.ireturn) := by decide +kernel
theorem dx_86_21 : mj_at 86 21 = some (.aload_n 0) := by decide +kernel
theorem dx_86_22 : mj_at 86 22 = some (.getfield 28) := by decide +kernel
theorem dx_86_25 : mj_at 86 25 = some (.aload_n 0) := by decide +kernel
theorem dx_86_26 : mj_at 86 26 = some (.getfield 21) := by decide +kernel
theorem dx_86_29 : mj_at 86 29 = some (.invokevirtual 119) := by decide +kernel
theorem dx_86_32 : mj_at 86 32 = some (.aload_n 0) := by decide +kernel
theorem dx_86_33 : mj_at 86 33 = some (.getfield 28) := by decide +kernel
theorem dx_86_36 : mj_at 86 36 = some (.iload_n 1) := by decide +kernel
theorem dx_86_37 : mj_at 86 37 = some (.aload_n 0) := by decide +kernel
theorem dx_86_38 : mj_at 86 38 = some (.getfield 64) := by decide +kernel
theorem dx_86_41 : mj_at 86 41 = some (.invokevirtual 129) := by decide +kernel
theorem dx_86_44 : mj_at 86 44 = some (.iload_n 2) := by decide +kernel
theorem dx_86_45 : mj_at 86 45 = some (.tableswitch 63 0 3 #[31, 39, 47, 55]) := by decide +kernel
theorem dx_86_76 : mj_at 86 76 = some (.aload_n 0) := by decide +kernel
theorem dx_86_77 : mj_at 86 77 = some (.getfield 28) := by decide +kernel
theorem dx_86_80 : mj_at 86 80 = some (.getfield 133) := by decide +kernel
theorem dx_86_83 : mj_at 86 83 = some (.ireturn) := by decide +kernel
theorem dx_86_84 : mj_at 86 84 = some (.aload_n 0) := by decide +kernel
theorem dx_86_85 : mj_at 86 85 = some (.getfield 28) := by decide +kernel
theorem dx_86_88 : mj_at 86 88 = some (.getfield 139) := by decide +kernel
theorem dx_86_91 : mj_at 86 91 = some (.ireturn) := by decide +kernel
theorem dx_86_92 : mj_at 86 92 = some (.aload_n 0) := by decide +kernel
theorem dx_86_93 : mj_at 86 93 = some (.getfield 28) := by decide +kernel
theorem dx_86_96 : mj_at 86 96 = some (.getfield 142) := by decide +kernel
theorem dx_86_99 : mj_at 86 99 = some (.ireturn) := by decide +kernel
theorem dx_86_100 : mj_at 86 100 = some (.aload_n 0) := by decide +kernel
theorem dx_86_101 : mj_at 86 101 = some (.getfield 28) := by decide +kernel
theorem dx_86_104 : mj_at 86 104 = some (.invokevirtual 145) := by decide +kernel
theorem dx_86_107 : mj_at 86 107 = some (.ireturn) := by decide +kernel
theorem dx_86_108 : mj_at 86 108 = some (.aload_n 0) := by decide +kernel
theorem dx_86_109 : mj_at 86 109 = some (.iload_n 2) := by decide +kernel
theorem dx_86_110 : mj_at 86 110 = some (.bipush 10) := by decide +kernel
theorem dx_86_112 : mj_at 86 112 = some (.idiv) := by decide +kernel
theorem dx_86_113 : mj_at 86 113 = some (.iload_n 2) := by decide +kernel
theorem dx_86_114 : mj_at 86 114 = some (.bipush 10) := by decide +kernel
theorem dx_86_116 : mj_at 86 116 = some (.irem) := by decide +kernel
theorem dx_86_117 : mj_at 86 117 = some (.invokevirtual 149) := by decide +kernel
theorem dx_86_120 : mj_at 86 120 = some (.ireturn) := by decide +kernel
set_option maxRecDepth 10000 in
theorem b_X8_tried {sl d : Nat} {M : mj_M} {x1 : Int32} {x2 : Int32}  : mj_C sl (d + 1) 86 [.ref 0, .int x1, .int x2] M = if x1 < 1 then (some (((-1) : Int32), M)) else (if x1 ≤ 60 then ((mj_C sl d 87 [.ref 0, .int x2] M).bind (fun q1 => if q1.1 = 0 then (some (((-1) : Int32), q1.2)) else ((mj_C sl d 4 [.ref 15, .ref 3] q1.2).bind (fun q2 => (mj_C sl d 14 [.ref 15, .int x1, .ref (mj_lw (q2.2 0 9))] q2.2).bind (fun q3 => if x2 = 0 then (some ((q3.2 15 9 : Int32), q3.2)) else (if x2 = 1 then (some ((q3.2 15 10 : Int32), q3.2)) else (if x2 = 2 then (some ((q3.2 15 11 : Int32), q3.2)) else (if x2 = 3 then ((mj_C sl d 13 [.ref 15] q3.2).bind (fun q4 => some ((q4.1 : Int32), q4.2))) else ((mj_C sl d 88 [.ref 0, .int (x2 / 10), .int (mj_rm x2 10)] q3.2).bind (fun q5 => some ((q5.1 : Int32), q5.2))))))))))) else (some (((-1) : Int32), M))) := by
  show mj_E sl (d + 1) 86 0 [.ref 0, .int x1, .int x2] [] M = _
  refine (sx_iload_n dx_86_0 rfl).trans ?_
  refine (sx_iconst (v := 1) dx_86_1 rfl).trans ?_
  refine (sx_icmp_lt (tgt := 19) dx_86_2 (by decide)).trans ?_
  refine mj_ite ?_ ?_
  · refine (sx_iconst (v := (-1)) dx_86_19 rfl).trans ?_
    exact sx_reti dx_86_20 rt_86
  · refine (sx_iload_n dx_86_5 rfl).trans ?_
    refine (sx_bipush (v := 60) dx_86_6 rfl).trans ?_
    refine (sx_icmp_gt (tgt := 19) dx_86_8 (by decide)).trans ?_
    refine mj_ite ?_ ?_
    · refine (sx_aload_n dx_86_11 rfl).trans ?_
      refine (sx_iload_n dx_86_12 rfl).trans ?_
      refine (sx_v1i dx_86_13 ow_86 cx_6_136 oc_0 (Nat.le_of_ble_eq_true rfl)).trans ?_
      refine mj_bnd (fun q1 => ?_)
      refine (sx_if_ne (tgt := 21) dx_86_16 (by decide)).trans ?_
      refine mj_ite ?_ ?_
      · refine (sx_iconst (v := (-1)) dx_86_19 rfl).trans ?_
        exact sx_reti dx_86_20 rt_86
      · refine (sx_aload_n dx_86_21 rfl).trans ?_
        refine (sx_gfr dx_86_22 ow_86 fx_6_28 oc_0 rb_0_3).trans ?_
        refine (sx_aload_n dx_86_25 rfl).trans ?_
        refine (sx_gfr dx_86_26 ow_86 fx_6_21 oc_0 rb_0_1).trans ?_
        refine (sx_v1v dx_86_29 ow_86 cx_6_119 oc_15 (Nat.le_of_ble_eq_true rfl)).trans ?_
        refine mj_bnd (fun q2 => ?_)
        refine (sx_aload_n dx_86_32 rfl).trans ?_
        refine (sx_gfr dx_86_33 ow_86 fx_6_28 oc_0 rb_0_3).trans ?_
        refine (sx_iload_n dx_86_36 rfl).trans ?_
        refine (sx_aload_n dx_86_37 rfl).trans ?_
        refine (sx_gfl dx_86_38 ow_86 fx_6_64 oc_0).trans ?_
        refine (sx_v2v dx_86_41 ow_86 cx_6_129 oc_15 (Nat.le_of_ble_eq_true rfl)).trans ?_
        refine mj_bnd (fun q3 => ?_)
        refine (sx_iload_n dx_86_44 rfl).trans ?_
        refine mj_sel (fun hx1_0 => ?_) (fun hx1_0 => ?_)
        · refine (sx_tsw_in (off := 31) (tgt := 76) dx_86_45 hx1_0 (by decide) (by decide) (by decide)).trans ?_
          refine (sx_aload_n dx_86_76 rfl).trans ?_
          refine (sx_gfr dx_86_77 ow_86 fx_6_28 oc_0 rb_0_3).trans ?_
          refine (sx_gfi dx_86_80 ow_86 fx_6_133 (by decide) oc_15).trans ?_
          exact sx_reti dx_86_83 rt_86
        refine mj_sel (fun hx1_1 => ?_) (fun hx1_1 => ?_)
        · refine (sx_tsw_in (off := 39) (tgt := 84) dx_86_45 hx1_1 (by decide) (by decide) (by decide)).trans ?_
          refine (sx_aload_n dx_86_84 rfl).trans ?_
          refine (sx_gfr dx_86_85 ow_86 fx_6_28 oc_0 rb_0_3).trans ?_
          refine (sx_gfi dx_86_88 ow_86 fx_6_139 (by decide) oc_15).trans ?_
          exact sx_reti dx_86_91 rt_86
        refine mj_sel (fun hx1_2 => ?_) (fun hx1_2 => ?_)
        · refine (sx_tsw_in (off := 47) (tgt := 92) dx_86_45 hx1_2 (by decide) (by decide) (by decide)).trans ?_
          refine (sx_aload_n dx_86_92 rfl).trans ?_
          refine (sx_gfr dx_86_93 ow_86 fx_6_28 oc_0 rb_0_3).trans ?_
          refine (sx_gfi dx_86_96 ow_86 fx_6_142 (by decide) oc_15).trans ?_
          exact sx_reti dx_86_99 rt_86
        refine mj_sel (fun hx1_3 => ?_) (fun hx1_3 => ?_)
        · refine (sx_tsw_in (off := 55) (tgt := 100) dx_86_45 hx1_3 (by decide) (by decide) (by decide)).trans ?_
          refine (sx_aload_n dx_86_100 rfl).trans ?_
          refine (sx_gfr dx_86_101 ow_86 fx_6_28 oc_0 rb_0_3).trans ?_
          refine (sx_v0i dx_86_104 ow_86 cx_6_145 oc_15 (Nat.le_of_ble_eq_true rfl)).trans ?_
          refine mj_bnd (fun q4 => ?_)
          exact sx_reti dx_86_107 rt_86
        have zhx1_0 := mj_ne hx1_0 (n := 0) (by decide)
        have zhx1_1 := mj_ne hx1_1 (n := 1) (by decide)
        have zhx1_2 := mj_ne hx1_2 (n := 2) (by decide)
        have zhx1_3 := mj_ne hx1_3 (n := 3) (by decide)
        refine (sx_tsw_out (tgt := 108) dx_86_45 (by omega) (by decide)).trans ?_
        refine (sx_aload_n dx_86_108 rfl).trans ?_
        refine (sx_iload_n dx_86_109 rfl).trans ?_
        refine (sx_bipush (v := 10) dx_86_110 rfl).trans ?_
        refine (sx_idiv dx_86_112 (by decide)).trans ?_
        refine (sx_iload_n dx_86_113 rfl).trans ?_
        refine (sx_bipush (v := 10) dx_86_114 rfl).trans ?_
        refine (sx_irem dx_86_116 (by decide)).trans ?_
        refine (sx_v2i dx_86_117 ow_86 cx_6_149 oc_0 (Nat.le_of_ble_eq_true rfl)).trans ?_
        refine mj_bnd (fun q5 => ?_)
        exact sx_reti dx_86_120 rt_86
    · refine (sx_iconst (v := (-1)) dx_86_19 rfl).trans ?_
      exact sx_reti dx_86_20 rt_86
theorem dx_87_0 : mj_at 87 0 = some (.iload_n 1) := by decide +kernel
theorem dx_87_1 : mj_at 87 1 = some (.ifCond .lt 8) := by decide +kernel
theorem dx_87_4 : mj_at 87 4 = some (.iload_n 1) := by decide +kernel
theorem dx_87_5 : mj_at 87 5 = some (.iconst 3) := by decide +kernel
theorem dx_87_6 : mj_at 87 6 = some (.if_icmp .le 29) := by decide +kernel
theorem dx_87_9 : mj_at 87 9 = some (.iload_n 1) := by decide +kernel
theorem dx_87_10 : mj_at 87 10 = some (.bipush 10) := by decide +kernel
theorem dx_87_12 : mj_at 87 12 = some (.if_icmp .lt 27) := by decide +kernel
theorem dx_87_15 : mj_at 87 15 = some (.iload_n 1) := by decide +kernel
theorem dx_87_16 : mj_at 87 16 = some (.bipush 40) := by decide +kernel
theorem dx_87_18 : mj_at 87 18 = some (.if_icmp .ge 21) := by decide +kernel
theorem dx_87_21 : mj_at 87 21 = some (.aload_n 0) := by decide +kernel
theorem dx_87_22 : mj_at 87 22 = some (.getfield 21) := by decide +kernel
theorem dx_87_25 : mj_at 87 25 = some (.iload_n 1) := by decide +kernel
theorem dx_87_26 : mj_at 87 26 = some (.bipush 10) := by decide +kernel
theorem dx_87_28 : mj_at 87 28 = some (.irem) := by decide +kernel
theorem dx_87_29 : mj_at 87 29 = some (.invokevirtual 85) := by decide +kernel
theorem dx_87_32 : mj_at 87 32 = some (.ifCond .eq 7) := by decide +kernel
theorem dx_87_35 : mj_at 87 35 = some (.iconst 1) := by decide +kernel
theorem dx_87_36 : mj_at 87 36 = some (.goto 4) := by decide +kernel
theorem dx_87_39 : mj_at 87 39 = some (.iconst 0) := by decide +kernel
theorem dx_87_40 : mj_at 87 40 = some (.ireturn) := by decide +kernel
set_option maxRecDepth 10000 in
theorem b_X8_canBeTried {sl d : Nat} {M : mj_M} {x1 : Int32}  : mj_C sl (d + 1) 87 [.ref 0, .int x1] M = if x1 < 0 then (if x1 < 10 then (some ((0 : Int32), M)) else (if x1 < 40 then ((mj_C sl d 5 [.ref 3, .int (mj_rm x1 10)] M).bind (fun q1 => if q1.1 = 0 then (some ((0 : Int32), q1.2)) else (some ((1 : Int32), q1.2)))) else (some ((0 : Int32), M)))) else (if x1 ≤ 3 then (some ((1 : Int32), M)) else (if x1 < 10 then (some ((0 : Int32), M)) else (if x1 < 40 then ((mj_C sl d 5 [.ref 3, .int (mj_rm x1 10)] M).bind (fun q2 => if q2.1 = 0 then (some ((0 : Int32), q2.2)) else (some ((1 : Int32), q2.2)))) else (some ((0 : Int32), M))))) := by
  show mj_E sl (d + 1) 87 0 [.ref 0, .int x1] [] M = _
  refine (sx_iload_n dx_87_0 rfl).trans ?_
  refine (sx_if_lt (tgt := 9) dx_87_1 (by decide)).trans ?_
  refine mj_ite ?_ ?_
  · refine (sx_iload_n dx_87_9 rfl).trans ?_
    refine (sx_bipush (v := 10) dx_87_10 rfl).trans ?_
    refine (sx_icmp_lt (tgt := 39) dx_87_12 (by decide)).trans ?_
    refine mj_ite ?_ ?_
    · refine (sx_iconst (v := 0) dx_87_39 rfl).trans ?_
      exact sx_retz dx_87_40 rt_87 (by decide)
    · refine (sx_iload_n dx_87_15 rfl).trans ?_
      refine (sx_bipush (v := 40) dx_87_16 rfl).trans ?_
      refine (sx_icmp_ge (tgt := 39) dx_87_18 (by decide)).trans ?_
      refine mj_ite ?_ ?_
      · refine (sx_aload_n dx_87_21 rfl).trans ?_
        refine (sx_gfr dx_87_22 ow_87 fx_6_21 oc_0 rb_0_1).trans ?_
        refine (sx_iload_n dx_87_25 rfl).trans ?_
        refine (sx_bipush (v := 10) dx_87_26 rfl).trans ?_
        refine (sx_irem dx_87_28 (by decide)).trans ?_
        refine (sx_v1i dx_87_29 ow_87 cx_6_85 oc_3 (Nat.le_of_ble_eq_true rfl)).trans ?_
        refine mj_bnd (fun q1 => ?_)
        refine (sx_if_eq (tgt := 39) dx_87_32 (by decide)).trans ?_
        refine mj_ite ?_ ?_
        · refine (sx_iconst (v := 0) dx_87_39 rfl).trans ?_
          exact sx_retz dx_87_40 rt_87 (by decide)
        · refine (sx_iconst (v := 1) dx_87_35 rfl).trans ?_
          refine (sx_goto (tgt := 40) dx_87_36 (by decide)).trans ?_
          exact sx_retz dx_87_40 rt_87 (by decide)
      · refine (sx_iconst (v := 0) dx_87_39 rfl).trans ?_
        exact sx_retz dx_87_40 rt_87 (by decide)
  · refine (sx_iload_n dx_87_4 rfl).trans ?_
    refine (sx_iconst (v := 3) dx_87_5 rfl).trans ?_
    refine (sx_icmp_le (tgt := 35) dx_87_6 (by decide)).trans ?_
    refine mj_ite ?_ ?_
    · refine (sx_iconst (v := 1) dx_87_35 rfl).trans ?_
      refine (sx_goto (tgt := 40) dx_87_36 (by decide)).trans ?_
      exact sx_retz dx_87_40 rt_87 (by decide)
    · refine (sx_iload_n dx_87_9 rfl).trans ?_
      refine (sx_bipush (v := 10) dx_87_10 rfl).trans ?_
      refine (sx_icmp_lt (tgt := 39) dx_87_12 (by decide)).trans ?_
      refine mj_ite ?_ ?_
      · refine (sx_iconst (v := 0) dx_87_39 rfl).trans ?_
        exact sx_retz dx_87_40 rt_87 (by decide)
      · refine (sx_iload_n dx_87_15 rfl).trans ?_
        refine (sx_bipush (v := 40) dx_87_16 rfl).trans ?_
        refine (sx_icmp_ge (tgt := 39) dx_87_18 (by decide)).trans ?_
        refine mj_ite ?_ ?_
        · refine (sx_aload_n dx_87_21 rfl).trans ?_
          refine (sx_gfr dx_87_22 ow_87 fx_6_21 oc_0 rb_0_1).trans ?_
          refine (sx_iload_n dx_87_25 rfl).trans ?_
          refine (sx_bipush (v := 10) dx_87_26 rfl).trans ?_
          refine (sx_irem dx_87_28 (by decide)).trans ?_
          refine (sx_v1i dx_87_29 ow_87 cx_6_85 oc_3 (Nat.le_of_ble_eq_true rfl)).trans ?_
          refine mj_bnd (fun q2 => ?_)
          refine (sx_if_eq (tgt := 39) dx_87_32 (by decide)).trans ?_
          refine mj_ite ?_ ?_
          · refine (sx_iconst (v := 0) dx_87_39 rfl).trans ?_
            exact sx_retz dx_87_40 rt_87 (by decide)
          · refine (sx_iconst (v := 1) dx_87_35 rfl).trans ?_
            refine (sx_goto (tgt := 40) dx_87_36 (by decide)).trans ?_
            exact sx_retz dx_87_40 rt_87 (by decide)
        · refine (sx_iconst (v := 0) dx_87_39 rfl).trans ?_
          exact sx_retz dx_87_40 rt_87 (by decide)
theorem dx_88_0 : mj_at 88 0 = some (.iload_n 1) := by decide +kernel
theorem dx_88_1 : mj_at 88 1 = some (.iconst 1) := by decide +kernel
theorem dx_88_2 : mj_at 88 2 = some (.if_icmp .ne 12) := by decide +kernel
theorem dx_88_5 : mj_at 88 5 = some (.aload_n 0) := by decide +kernel
theorem dx_88_6 : mj_at 88 6 = some (.getfield 28) := by decide +kernel
theorem dx_88_9 : mj_at 88 9 = some (.iload_n 2) := by decide +kernel
theorem dx_88_10 : mj_at 88 10 = some (.invokevirtual 153) := by decide +kernel
theorem dx_88_13 : mj_at 88 13 = some (.ireturn) := by decide +kernel
theorem dx_88_14 : mj_at 88 14 = some (.iload_n 1) := by decide +kernel
theorem dx_88_15 : mj_at 88 15 = some (.iconst 2) := by decide +kernel
theorem dx_88_16 : mj_at 88 16 = some (.if_icmp .ne 20) := by decide +kernel
theorem dx_88_19 : mj_at 88 19 = some (.aload_n 0) := by decide +kernel
theorem dx_88_20 : mj_at 88 20 = some (.getfield 28) := by decide +kernel
theorem dx_88_23 : mj_at 88 23 = some (.invokevirtual 156) := by decide +kernel
theorem dx_88_26 : mj_at 88 26 = some (.aload_n 0) := by decide +kernel
theorem dx_88_27 : mj_at 88 27 = some (.getfield 28) := by decide +kernel
theorem dx_88_30 : mj_at 88 30 = some (.getfield 159) := by decide +kernel
theorem dx_88_33 : mj_at 88 33 = some (.iload_n 2) := by decide +kernel
theorem dx_88_34 : mj_at 88 34 = some (.iaload) := by decide +kernel
theorem dx_88_35 : mj_at 88 35 = some (.ireturn) := by decide +kernel
theorem dx_88_36 : mj_at 88 36 = some (.aload_n 0) := by decide +kernel
theorem dx_88_37 : mj_at 88 37 = some (.getfield 28) := by decide +kernel
theorem dx_88_40 : mj_at 88 40 = some (.getfield 162) := by decide +kernel
theorem dx_88_43 : mj_at 88 43 = some (.iload_n 2) := by decide +kernel
theorem dx_88_44 : mj_at 88 44 = some (.iaload) := by decide +kernel
theorem dx_88_45 : mj_at 88 45 = some (.ireturn) := by decide +kernel
set_option maxRecDepth 10000 in
theorem b_X8_triedOfOne {sl d : Nat} {M : mj_M} {x1 : Int32} {x2 : Int32}  : mj_C sl (d + 1) 88 [.ref 0, .int x1, .int x2] M = if x1 = 1 then ((mj_C sl d 9 [.ref 15, .int x2] M).bind (fun q1 => some ((q1.1 : Int32), q1.2))) else (if x1 = 2 then ((mj_C sl d 11 [.ref 15] M).bind (fun q2 => if mj_inB x2 10 = true then (some ((q2.2 20 (x2 : Int32).toNatClampNeg : Int32), q2.2)) else none)) else (if mj_inB x2 10 = true then (some ((M 17 (x2 : Int32).toNatClampNeg : Int32), M)) else none)) := by
  show mj_E sl (d + 1) 88 0 [.ref 0, .int x1, .int x2] [] M = _
  refine (sx_iload_n dx_88_0 rfl).trans ?_
  refine (sx_iconst (v := 1) dx_88_1 rfl).trans ?_
  refine (sx_icmp_ne (tgt := 14) dx_88_2 (by decide)).trans ?_
  refine mj_ite ?_ ?_
  · refine (sx_aload_n dx_88_5 rfl).trans ?_
    refine (sx_gfr dx_88_6 ow_88 fx_6_28 oc_0 rb_0_3).trans ?_
    refine (sx_iload_n dx_88_9 rfl).trans ?_
    refine (sx_v1i dx_88_10 ow_88 cx_6_153 oc_15 (Nat.le_of_ble_eq_true rfl)).trans ?_
    refine mj_bnd (fun q1 => ?_)
    exact sx_reti dx_88_13 rt_88
  · refine (sx_iload_n dx_88_14 rfl).trans ?_
    refine (sx_iconst (v := 2) dx_88_15 rfl).trans ?_
    refine (sx_icmp_ne (tgt := 36) dx_88_16 (by decide)).trans ?_
    refine mj_ite ?_ ?_
    · refine (sx_aload_n dx_88_19 rfl).trans ?_
      refine (sx_gfr dx_88_20 ow_88 fx_6_28 oc_0 rb_0_3).trans ?_
      refine (sx_v0v dx_88_23 ow_88 cx_6_156 oc_15 (Nat.le_of_ble_eq_true rfl)).trans ?_
      refine mj_bnd (fun q2 => ?_)
      refine (sx_aload_n dx_88_26 rfl).trans ?_
      refine (sx_gfr dx_88_27 ow_88 fx_6_28 oc_0 rb_0_3).trans ?_
      refine (sx_gfr dx_88_30 ow_88 fx_6_159 oc_15 rb_15_5).trans ?_
      refine (sx_iload_n dx_88_33 rfl).trans ?_
      refine (sx_ild dx_88_34 (by decide) ia_20).trans ?_
      refine mj_ite ?_ rfl
      exact sx_reti dx_88_35 rt_88
    · refine (sx_aload_n dx_88_36 rfl).trans ?_
      refine (sx_gfr dx_88_37 ow_88 fx_6_28 oc_0 rb_0_3).trans ?_
      refine (sx_gfr dx_88_40 ow_88 fx_6_162 oc_15 rb_15_2).trans ?_
      refine (sx_iload_n dx_88_43 rfl).trans ?_
      refine (sx_ild dx_88_44 (by decide) ia_17).trans ?_
      refine mj_ite ?_ rfl
      exact sx_reti dx_88_45 rt_88
theorem dx_89_0 : mj_at 89 0 = some (.aload_n 0) := by decide +kernel
theorem dx_89_1 : mj_at 89 1 = some (.getfield 21) := by decide +kernel
theorem dx_89_4 : mj_at 89 4 = some (.iload_n 1) := by decide +kernel
theorem dx_89_5 : mj_at 89 5 = some (.invokevirtual 85) := by decide +kernel
theorem dx_89_8 : mj_at 89 8 = some (.ifCond .ne 5) := by decide +kernel
theorem dx_89_11 : mj_at 89 11 = some (.iconst (-1)) := by decide +kernel
theorem dx_89_12 : mj_at 89 12 = some (.ireturn) := by decide +kernel
theorem dx_89_13 : mj_at 89 13 = some (.iload_n 2) := by decide +kernel
theorem dx_89_14 : mj_at 89 14 = some (.tableswitch 98 0 5 #[38, 48, 58, 67, 84, 91]) := by decide +kernel
theorem dx_89_52 : mj_at 89 52 = some (.aload_n 0) := by decide +kernel
theorem dx_89_53 : mj_at 89 53 = some (.getfield 21) := by decide +kernel
theorem dx_89_56 : mj_at 89 56 = some (.getfield 165) := by decide +kernel
theorem dx_89_59 : mj_at 89 59 = some (.iload_n 1) := by decide +kernel
theorem dx_89_60 : mj_at 89 60 = some (.iaload) := by decide +kernel
theorem dx_89_61 : mj_at 89 61 = some (.ireturn) := by decide +kernel
theorem dx_89_62 : mj_at 89 62 = some (.aload_n 0) := by decide +kernel
theorem dx_89_63 : mj_at 89 63 = some (.getfield 21) := by decide +kernel
theorem dx_89_66 : mj_at 89 66 = some (.getfield 162) := by decide +kernel
theorem dx_89_69 : mj_at 89 69 = some (.iload_n 1) := by decide +kernel
theorem dx_89_70 : mj_at 89 70 = some (.iaload) := by decide +kernel
theorem dx_89_71 : mj_at 89 71 = some (.ireturn) := by decide +kernel
theorem dx_89_72 : mj_at 89 72 = some (.aload_n 0) := by decide +kernel
theorem dx_89_73 : mj_at 89 73 = some (.getfield 21) := by decide +kernel
theorem dx_89_76 : mj_at 89 76 = some (.iload_n 1) := by decide +kernel
theorem dx_89_77 : mj_at 89 77 = some (.invokevirtual 153) := by decide +kernel
theorem dx_89_80 : mj_at 89 80 = some (.ireturn) := by decide +kernel
theorem dx_89_81 : mj_at 89 81 = some (.aload_n 0) := by decide +kernel
theorem dx_89_82 : mj_at 89 82 = some (.getfield 21) := by decide +kernel
theorem dx_89_85 : mj_at 89 85 = some (.invokevirtual 156) := by decide +kernel
theorem dx_89_88 : mj_at 89 88 = some (.aload_n 0) := by decide +kernel
theorem dx_89_89 : mj_at 89 89 = some (.getfield 21) := by decide +kernel
theorem dx_89_92 : mj_at 89 92 = some (.getfield 159) := by decide +kernel
theorem dx_89_95 : mj_at 89 95 = some (.iload_n 1) := by decide +kernel
theorem dx_89_96 : mj_at 89 96 = some (.iaload) := by decide +kernel
theorem dx_89_97 : mj_at 89 97 = some (.ireturn) := by decide +kernel
theorem dx_89_98 : mj_at 89 98 = some (.aload_n 0) := by decide +kernel
theorem dx_89_99 : mj_at 89 99 = some (.iload_n 1) := by decide +kernel
theorem dx_89_100 : mj_at 89 100 = some (.iconst 1) := by decide +kernel
theorem dx_89_101 : mj_at 89 101 = some (.invokevirtual 168) := by decide +kernel
theorem dx_89_104 : mj_at 89 104 = some (.ireturn) := by decide +kernel
theorem dx_89_105 : mj_at 89 105 = some (.aload_n 0) := by decide +kernel
theorem dx_89_106 : mj_at 89 106 = some (.iload_n 1) := by decide +kernel
theorem dx_89_107 : mj_at 89 107 = some (.iconst 0) := by decide +kernel
theorem dx_89_108 : mj_at 89 108 = some (.invokevirtual 168) := by decide +kernel
theorem dx_89_111 : mj_at 89 111 = some (.ireturn) := by decide +kernel
theorem dx_89_112 : mj_at 89 112 = some (.iconst (-1)) := by decide +kernel
theorem dx_89_113 : mj_at 89 113 = some (.ireturn) := by decide +kernel
set_option maxRecDepth 10000 in
theorem b_X8_courtierIs {sl d : Nat} {M : mj_M} {x1 : Int32} {x2 : Int32}  : mj_C sl (d + 1) 89 [.ref 0, .int x1, .int x2] M = (mj_C sl d 5 [.ref 3, .int x1] M).bind (fun q1 => if q1.1 = 0 then (some (((-1) : Int32), q1.2)) else (if x2 = 0 then (if mj_inB x1 10 = true then (some ((q1.2 4 (x1 : Int32).toNatClampNeg : Int32), q1.2)) else none) else (if x2 = 1 then (if mj_inB x1 10 = true then (some ((q1.2 5 (x1 : Int32).toNatClampNeg : Int32), q1.2)) else none) else (if x2 = 2 then ((mj_C sl d 9 [.ref 3, .int x1] q1.2).bind (fun q2 => some ((q2.1 : Int32), q2.2))) else (if x2 = 3 then ((mj_C sl d 11 [.ref 3] q1.2).bind (fun q3 => if mj_inB x1 10 = true then (some ((q3.2 8 (x1 : Int32).toNatClampNeg : Int32), q3.2)) else none)) else (if x2 = 4 then ((mj_C sl d 90 [.ref 0, .int x1, .int 1] q1.2).bind (fun q4 => some ((q4.1 : Int32), q4.2))) else (if x2 = 5 then ((mj_C sl d 90 [.ref 0, .int x1, .int 0] q1.2).bind (fun q5 => some ((q5.1 : Int32), q5.2))) else (some (((-1) : Int32), q1.2))))))))) := by
  show mj_E sl (d + 1) 89 0 [.ref 0, .int x1, .int x2] [] M = _
  refine (sx_aload_n dx_89_0 rfl).trans ?_
  refine (sx_gfr dx_89_1 ow_89 fx_6_21 oc_0 rb_0_1).trans ?_
  refine (sx_iload_n dx_89_4 rfl).trans ?_
  refine (sx_v1i dx_89_5 ow_89 cx_6_85 oc_3 (Nat.le_of_ble_eq_true rfl)).trans ?_
  refine mj_bnd (fun q1 => ?_)
  refine (sx_if_ne (tgt := 13) dx_89_8 (by decide)).trans ?_
  refine mj_ite ?_ ?_
  · refine (sx_iconst (v := (-1)) dx_89_11 rfl).trans ?_
    exact sx_reti dx_89_12 rt_89
  · refine (sx_iload_n dx_89_13 rfl).trans ?_
    refine mj_sel (fun hx1_0 => ?_) (fun hx1_0 => ?_)
    · refine (sx_tsw_in (off := 38) (tgt := 52) dx_89_14 hx1_0 (by decide) (by decide) (by decide)).trans ?_
      refine (sx_aload_n dx_89_52 rfl).trans ?_
      refine (sx_gfr dx_89_53 ow_89 fx_6_21 oc_0 rb_0_1).trans ?_
      refine (sx_gfr dx_89_56 ow_89 fx_6_165 oc_3 rb_3_1).trans ?_
      refine (sx_iload_n dx_89_59 rfl).trans ?_
      refine (sx_ild dx_89_60 (by decide) ia_4).trans ?_
      refine mj_ite ?_ rfl
      exact sx_reti dx_89_61 rt_89
    refine mj_sel (fun hx1_1 => ?_) (fun hx1_1 => ?_)
    · refine (sx_tsw_in (off := 48) (tgt := 62) dx_89_14 hx1_1 (by decide) (by decide) (by decide)).trans ?_
      refine (sx_aload_n dx_89_62 rfl).trans ?_
      refine (sx_gfr dx_89_63 ow_89 fx_6_21 oc_0 rb_0_1).trans ?_
      refine (sx_gfr dx_89_66 ow_89 fx_6_162 oc_3 rb_3_2).trans ?_
      refine (sx_iload_n dx_89_69 rfl).trans ?_
      refine (sx_ild dx_89_70 (by decide) ia_5).trans ?_
      refine mj_ite ?_ rfl
      exact sx_reti dx_89_71 rt_89
    refine mj_sel (fun hx1_2 => ?_) (fun hx1_2 => ?_)
    · refine (sx_tsw_in (off := 58) (tgt := 72) dx_89_14 hx1_2 (by decide) (by decide) (by decide)).trans ?_
      refine (sx_aload_n dx_89_72 rfl).trans ?_
      refine (sx_gfr dx_89_73 ow_89 fx_6_21 oc_0 rb_0_1).trans ?_
      refine (sx_iload_n dx_89_76 rfl).trans ?_
      refine (sx_v1i dx_89_77 ow_89 cx_6_153 oc_3 (Nat.le_of_ble_eq_true rfl)).trans ?_
      refine mj_bnd (fun q2 => ?_)
      exact sx_reti dx_89_80 rt_89
    refine mj_sel (fun hx1_3 => ?_) (fun hx1_3 => ?_)
    · refine (sx_tsw_in (off := 67) (tgt := 81) dx_89_14 hx1_3 (by decide) (by decide) (by decide)).trans ?_
      refine (sx_aload_n dx_89_81 rfl).trans ?_
      refine (sx_gfr dx_89_82 ow_89 fx_6_21 oc_0 rb_0_1).trans ?_
      refine (sx_v0v dx_89_85 ow_89 cx_6_156 oc_3 (Nat.le_of_ble_eq_true rfl)).trans ?_
      refine mj_bnd (fun q3 => ?_)
      refine (sx_aload_n dx_89_88 rfl).trans ?_
      refine (sx_gfr dx_89_89 ow_89 fx_6_21 oc_0 rb_0_1).trans ?_
      refine (sx_gfr dx_89_92 ow_89 fx_6_159 oc_3 rb_3_5).trans ?_
      refine (sx_iload_n dx_89_95 rfl).trans ?_
      refine (sx_ild dx_89_96 (by decide) ia_8).trans ?_
      refine mj_ite ?_ rfl
      exact sx_reti dx_89_97 rt_89
    refine mj_sel (fun hx1_4 => ?_) (fun hx1_4 => ?_)
    · refine (sx_tsw_in (off := 84) (tgt := 98) dx_89_14 hx1_4 (by decide) (by decide) (by decide)).trans ?_
      refine (sx_aload_n dx_89_98 rfl).trans ?_
      refine (sx_iload_n dx_89_99 rfl).trans ?_
      refine (sx_iconst (v := 1) dx_89_100 rfl).trans ?_
      refine (sx_v2i dx_89_101 ow_89 cx_6_168 oc_0 (Nat.le_of_ble_eq_true rfl)).trans ?_
      refine mj_bnd (fun q4 => ?_)
      exact sx_reti dx_89_104 rt_89
    refine mj_sel (fun hx1_5 => ?_) (fun hx1_5 => ?_)
    · refine (sx_tsw_in (off := 91) (tgt := 105) dx_89_14 hx1_5 (by decide) (by decide) (by decide)).trans ?_
      refine (sx_aload_n dx_89_105 rfl).trans ?_
      refine (sx_iload_n dx_89_106 rfl).trans ?_
      refine (sx_iconst (v := 0) dx_89_107 rfl).trans ?_
      refine (sx_v2i dx_89_108 ow_89 cx_6_168 oc_0 (Nat.le_of_ble_eq_true rfl)).trans ?_
      refine mj_bnd (fun q5 => ?_)
      exact sx_reti dx_89_111 rt_89
    have zhx1_0 := mj_ne hx1_0 (n := 0) (by decide)
    have zhx1_1 := mj_ne hx1_1 (n := 1) (by decide)
    have zhx1_2 := mj_ne hx1_2 (n := 2) (by decide)
    have zhx1_3 := mj_ne hx1_3 (n := 3) (by decide)
    have zhx1_4 := mj_ne hx1_4 (n := 4) (by decide)
    have zhx1_5 := mj_ne hx1_5 (n := 5) (by decide)
    refine (sx_tsw_out (tgt := 112) dx_89_14 (by omega) (by decide)).trans ?_
    refine (sx_iconst (v := (-1)) dx_89_112 rfl).trans ?_
    exact sx_reti dx_89_113 rt_89
theorem dx_90_0 : mj_at 90 0 = some (.iconst 0) := by decide +kernel
theorem dx_90_1 : mj_at 90 1 = some (.istore_n 3) := by decide +kernel
theorem dx_90_2 : mj_at 90 2 = some (.iconst 0) := by decide +kernel
theorem dx_90_3 : mj_at 90 3 = some (.istore 4) := by decide +kernel
theorem dx_90_5 : mj_at 90 5 = some (.iload 4) := by decide +kernel
theorem dx_90_7 : mj_at 90 7 = some (.bipush 8) := by decide +kernel
theorem dx_90_9 : mj_at 90 9 = some (.if_icmp .ge 55) := by decide +kernel
theorem dx_90_12 : mj_at 90 12 = some (.aload_n 0) := by decide +kernel
theorem dx_90_13 : mj_at 90 13 = some (.getfield 10) := by decide +kernel
theorem dx_90_16 : mj_at 90 16 = some (.iload 4) := by decide +kernel
theorem dx_90_18 : mj_at 90 18 = some (.invokevirtual 88) := by decide +kernel
theorem dx_90_21 : mj_at 90 21 = some (.ifCond .eq 37) := by decide +kernel
theorem dx_90_24 : mj_at 90 24 = some (.aload_n 0) := by decide +kernel
theorem dx_90_25 : mj_at 90 25 = some (.getfield 10) := by decide +kernel
theorem dx_90_28 : mj_at 90 28 = some (.aload_n 0) := by decide +kernel
theorem dx_90_29 : mj_at 90 29 = some (.getfield 21) := by decide +kernel
theorem dx_90_32 : mj_at 90 32 = some (.iload_n 1) := by decide +kernel
theorem dx_90_33 : mj_at 90 33 = some (.iload 4) := by decide +kernel
theorem dx_90_35 : mj_at 90 35 = some (.invokevirtual 172) := by decide +kernel
theorem dx_90_38 : mj_at 90 38 = some (.invokevirtual 175) := by decide +kernel
theorem dx_90_41 : mj_at 90 41 = some (.iload_n 2) := by decide +kernel
theorem dx_90_42 : mj_at 90 42 = some (.ifCond .eq 8) := by decide +kernel
theorem dx_90_45 : mj_at 90 45 = some (.iload 4) := by decide +kernel
theorem dx_90_47 : mj_at 90 47 = some (.goto 5) := by decide +kernel
theorem dx_90_50 : mj_at 90 50 = some (.bipush (-2)) := by decide +kernel
theorem dx_90_52 : mj_at 90 52 = some (.if_icmp .ne 6) := by decide +kernel
theorem dx_90_55 : mj_at 90 55 = some (.iinc 3 1) := by decide +kernel
theorem dx_90_58 : mj_at 90 58 = some (.iinc 4 1) := by decide +kernel
theorem dx_90_61 : mj_at 90 61 = some (.goto (-56)) := by decide +kernel
theorem dx_90_64 : mj_at 90 64 = some (.iload_n 3) := by decide +kernel
theorem dx_90_65 : mj_at 90 65 = some (.ireturn) := by decide +kernel
set_option maxRecDepth 10000 in
theorem b_X8_formsRead {sl d : Nat} {M : mj_M} {x1 : Int32} {x2 : Int32}  : mj_C sl (d + 1) 90 [.ref 0, .int x1, .int x2] M = mj_E sl (d + 1) 90 5 [.ref 0, .int x1, .int x2, .int 0, .int 0] [] M := by
  show mj_E sl (d + 1) 90 0 [.ref 0, .int x1, .int x2, .null, .null] [] M = _
  refine (sx_iconst (v := 0) dx_90_0 rfl).trans ?_
  refine (sx_istore_n dx_90_1 (Nat.le_of_ble_eq_true rfl) rfl).trans ?_
  refine (sx_iconst (v := 0) dx_90_2 rfl).trans ?_
  refine (sx_istore dx_90_3 (Nat.le_of_ble_eq_true rfl) rfl).trans ?_
  rfl
set_option maxRecDepth 10000 in
theorem b_X8_formsRead_5 {sl d : Nat} {M : mj_M} {y1 : Int32} {y2 : Int32} {y3 : Int32} {y4 : Int32}  : mj_E sl (d + 1) 90 5 [.ref 0, .int y1, .int y2, .int y3, .int y4] [] M = if y4 < 8 then ((mj_C sl d 62 [.ref 1, .int y4] M).bind (fun q1 => if q1.1 = 0 then (mj_E sl (d + 1) 90 5 [.ref 0, .int y1, .int y2, .int y3, .int (y4 + 1)] [] q1.2) else ((mj_C sl d 8 [.ref 3, .int y1, .int y4] q1.2).bind (fun q2 => (mj_C sl d 64 [.ref 1, .int q2.1] q2.2).bind (fun q3 => if y2 = 0 then (if q3.1 = (-2) then (mj_E sl (d + 1) 90 5 [.ref 0, .int y1, .int y2, .int (y3 + 1), .int (y4 + 1)] [] q3.2) else (mj_E sl (d + 1) 90 5 [.ref 0, .int y1, .int y2, .int y3, .int (y4 + 1)] [] q3.2)) else (if q3.1 = y4 then (mj_E sl (d + 1) 90 5 [.ref 0, .int y1, .int y2, .int (y3 + 1), .int (y4 + 1)] [] q3.2) else (mj_E sl (d + 1) 90 5 [.ref 0, .int y1, .int y2, .int y3, .int (y4 + 1)] [] q3.2))))))) else (some ((y3 : Int32), M)) := by
  refine (sx_iload dx_90_5 rfl).trans ?_
  refine (sx_bipush (v := 8) dx_90_7 rfl).trans ?_
  refine (sx_icmp_ge (tgt := 64) dx_90_9 (by decide)).trans ?_
  refine mj_ite ?_ ?_
  · refine (sx_aload_n dx_90_12 rfl).trans ?_
    refine (sx_gfr dx_90_13 ow_90 fx_6_10 oc_0 rb_0_0).trans ?_
    refine (sx_iload dx_90_16 rfl).trans ?_
    refine (sx_v1i dx_90_18 ow_90 cx_6_88 oc_1 (Nat.le_of_ble_eq_true rfl)).trans ?_
    refine mj_bnd (fun q1 => ?_)
    refine (sx_if_eq (tgt := 58) dx_90_21 (by decide)).trans ?_
    refine mj_ite ?_ ?_
    · refine (sx_iinc (v := 1) dx_90_58 rfl rfl rfl).trans ?_
      refine (sx_goto (tgt := 5) dx_90_61 (by decide)).trans ?_
      rfl
    · refine (sx_aload_n dx_90_24 rfl).trans ?_
      refine (sx_gfr dx_90_25 ow_90 fx_6_10 oc_0 rb_0_0).trans ?_
      refine (sx_aload_n dx_90_28 rfl).trans ?_
      refine (sx_gfr dx_90_29 ow_90 fx_6_21 oc_0 rb_0_1).trans ?_
      refine (sx_iload_n dx_90_32 rfl).trans ?_
      refine (sx_iload dx_90_33 rfl).trans ?_
      refine (sx_v2i dx_90_35 ow_90 cx_6_172 oc_3 (Nat.le_of_ble_eq_true rfl)).trans ?_
      refine mj_bnd (fun q2 => ?_)
      refine (sx_v1i dx_90_38 ow_90 cx_6_175 oc_1 (Nat.le_of_ble_eq_true rfl)).trans ?_
      refine mj_bnd (fun q3 => ?_)
      refine (sx_iload_n dx_90_41 rfl).trans ?_
      refine (sx_if_eq (tgt := 50) dx_90_42 (by decide)).trans ?_
      refine mj_ite ?_ ?_
      · refine (sx_bipush (v := (-2)) dx_90_50 rfl).trans ?_
        refine (sx_icmp_ne (tgt := 58) dx_90_52 (by decide)).trans ?_
        refine mj_ite ?_ ?_
        · refine (sx_iinc (v := 1) dx_90_55 rfl rfl rfl).trans ?_
          refine (sx_iinc (v := 1) dx_90_58 rfl rfl rfl).trans ?_
          refine (sx_goto (tgt := 5) dx_90_61 (by decide)).trans ?_
          rfl
        · refine (sx_iinc (v := 1) dx_90_58 rfl rfl rfl).trans ?_
          refine (sx_goto (tgt := 5) dx_90_61 (by decide)).trans ?_
          rfl
      · refine (sx_iload dx_90_45 rfl).trans ?_
        refine (sx_goto (tgt := 52) dx_90_47 (by decide)).trans ?_
        refine (sx_icmp_ne (tgt := 58) dx_90_52 (by decide)).trans ?_
        refine mj_ite ?_ ?_
        · refine (sx_iinc (v := 1) dx_90_55 rfl rfl rfl).trans ?_
          refine (sx_iinc (v := 1) dx_90_58 rfl rfl rfl).trans ?_
          refine (sx_goto (tgt := 5) dx_90_61 (by decide)).trans ?_
          rfl
        · refine (sx_iinc (v := 1) dx_90_58 rfl rfl rfl).trans ?_
          refine (sx_goto (tgt := 5) dx_90_61 (by decide)).trans ?_
          rfl
  · refine (sx_iload_n dx_90_64 rfl).trans ?_
    exact sx_reti dx_90_65 rt_90
theorem dx_91_0 : mj_at 91 0 = some (.aload_n 0) := by decide +kernel
theorem dx_91_1 : mj_at 91 1 = some (.getfield 21) := by decide +kernel
theorem dx_91_4 : mj_at 91 4 = some (.iload_n 1) := by decide +kernel
theorem dx_91_5 : mj_at 91 5 = some (.invokevirtual 85) := by decide +kernel
theorem dx_91_8 : mj_at 91 8 = some (.ifCond .eq 26) := by decide +kernel
theorem dx_91_11 : mj_at 91 11 = some (.aload_n 0) := by decide +kernel
theorem dx_91_12 : mj_at 91 12 = some (.getfield 10) := by decide +kernel
theorem dx_91_15 : mj_at 91 15 = some (.iload_n 2) := by decide +kernel
theorem dx_91_16 : mj_at 91 16 = some (.invokevirtual 88) := by decide +kernel
theorem dx_91_19 : mj_at 91 19 = some (.ifCond .eq 15) := by decide +kernel
theorem dx_91_22 : mj_at 91 22 = some (.aload_n 0) := by decide +kernel
theorem dx_91_23 : mj_at 91 23 = some (.getfield 21) := by decide +kernel
theorem dx_91_26 : mj_at 91 26 = some (.iload_n 1) := by decide +kernel
theorem dx_91_27 : mj_at 91 27 = some (.iload_n 2) := by decide +kernel
theorem dx_91_28 : mj_at 91 28 = some (.invokevirtual 172) := by decide +kernel
theorem dx_91_31 : mj_at 91 31 = some (.goto 4) := by decide +kernel
theorem dx_91_34 : mj_at 91 34 = some (.iconst (-1)) := by decide +kernel
theorem dx_91_35 : mj_at 91 35 = some (.ireturn) := by decide +kernel
set_option maxRecDepth 10000 in
theorem b_X8_formOf {sl d : Nat} {M : mj_M} {x1 : Int32} {x2 : Int32}  : mj_C sl (d + 1) 91 [.ref 0, .int x1, .int x2] M = (mj_C sl d 5 [.ref 3, .int x1] M).bind (fun q1 => if q1.1 = 0 then (some (((-1) : Int32), q1.2)) else ((mj_C sl d 62 [.ref 1, .int x2] q1.2).bind (fun q2 => if q2.1 = 0 then (some (((-1) : Int32), q2.2)) else ((mj_C sl d 8 [.ref 3, .int x1, .int x2] q2.2).bind (fun q3 => some ((q3.1 : Int32), q3.2)))))) := by
  show mj_E sl (d + 1) 91 0 [.ref 0, .int x1, .int x2] [] M = _
  refine (sx_aload_n dx_91_0 rfl).trans ?_
  refine (sx_gfr dx_91_1 ow_91 fx_6_21 oc_0 rb_0_1).trans ?_
  refine (sx_iload_n dx_91_4 rfl).trans ?_
  refine (sx_v1i dx_91_5 ow_91 cx_6_85 oc_3 (Nat.le_of_ble_eq_true rfl)).trans ?_
  refine mj_bnd (fun q1 => ?_)
  refine (sx_if_eq (tgt := 34) dx_91_8 (by decide)).trans ?_
  refine mj_ite ?_ ?_
  · refine (sx_iconst (v := (-1)) dx_91_34 rfl).trans ?_
    exact sx_reti dx_91_35 rt_91
  · refine (sx_aload_n dx_91_11 rfl).trans ?_
    refine (sx_gfr dx_91_12 ow_91 fx_6_10 oc_0 rb_0_0).trans ?_
    refine (sx_iload_n dx_91_15 rfl).trans ?_
    refine (sx_v1i dx_91_16 ow_91 cx_6_88 oc_1 (Nat.le_of_ble_eq_true rfl)).trans ?_
    refine mj_bnd (fun q2 => ?_)
    refine (sx_if_eq (tgt := 34) dx_91_19 (by decide)).trans ?_
    refine mj_ite ?_ ?_
    · refine (sx_iconst (v := (-1)) dx_91_34 rfl).trans ?_
      exact sx_reti dx_91_35 rt_91
    · refine (sx_aload_n dx_91_22 rfl).trans ?_
      refine (sx_gfr dx_91_23 ow_91 fx_6_21 oc_0 rb_0_1).trans ?_
      refine (sx_iload_n dx_91_26 rfl).trans ?_
      refine (sx_iload_n dx_91_27 rfl).trans ?_
      refine (sx_v2i dx_91_28 ow_91 cx_6_172 oc_3 (Nat.le_of_ble_eq_true rfl)).trans ?_
      refine mj_bnd (fun q3 => ?_)
      refine (sx_goto (tgt := 35) dx_91_31 (by decide)).trans ?_
      exact sx_reti dx_91_35 rt_91
theorem dx_92_0 : mj_at 92 0 = some (.aload_n 0) := by decide +kernel
theorem dx_92_1 : mj_at 92 1 = some (.getfield 10) := by decide +kernel
theorem dx_92_4 : mj_at 92 4 = some (.iload_n 1) := by decide +kernel
theorem dx_92_5 : mj_at 92 5 = some (.invokevirtual 88) := by decide +kernel
theorem dx_92_8 : mj_at 92 8 = some (.ifCond .eq 15) := by decide +kernel
theorem dx_92_11 : mj_at 92 11 = some (.aload_n 0) := by decide +kernel
theorem dx_92_12 : mj_at 92 12 = some (.getfield 10) := by decide +kernel
theorem dx_92_15 : mj_at 92 15 = some (.getfield 178) := by decide +kernel
theorem dx_92_18 : mj_at 92 18 = some (.iload_n 1) := by decide +kernel
theorem dx_92_19 : mj_at 92 19 = some (.iaload) := by decide +kernel
theorem dx_92_20 : mj_at 92 20 = some (.goto 4) := by decide +kernel
theorem dx_92_23 : mj_at 92 23 = some (.iconst (-1)) := by decide +kernel
theorem dx_92_24 : mj_at 92 24 = some (.ireturn) := by decide +kernel
set_option maxRecDepth 10000 in
theorem b_X8_modelOf {sl d : Nat} {M : mj_M} {x1 : Int32}  : mj_C sl (d + 1) 92 [.ref 0, .int x1] M = (mj_C sl d 62 [.ref 1, .int x1] M).bind (fun q1 => if q1.1 = 0 then (some (((-1) : Int32), q1.2)) else (if mj_inB x1 8 = true then (some ((q1.2 2 (x1 : Int32).toNatClampNeg : Int32), q1.2)) else none)) := by
  show mj_E sl (d + 1) 92 0 [.ref 0, .int x1] [] M = _
  refine (sx_aload_n dx_92_0 rfl).trans ?_
  refine (sx_gfr dx_92_1 ow_92 fx_6_10 oc_0 rb_0_0).trans ?_
  refine (sx_iload_n dx_92_4 rfl).trans ?_
  refine (sx_v1i dx_92_5 ow_92 cx_6_88 oc_1 (Nat.le_of_ble_eq_true rfl)).trans ?_
  refine mj_bnd (fun q1 => ?_)
  refine (sx_if_eq (tgt := 23) dx_92_8 (by decide)).trans ?_
  refine mj_ite ?_ ?_
  · refine (sx_iconst (v := (-1)) dx_92_23 rfl).trans ?_
    exact sx_reti dx_92_24 rt_92
  · refine (sx_aload_n dx_92_11 rfl).trans ?_
    refine (sx_gfr dx_92_12 ow_92 fx_6_10 oc_0 rb_0_0).trans ?_
    refine (sx_gfr dx_92_15 ow_92 fx_6_178 oc_1 rb_1_0).trans ?_
    refine (sx_iload_n dx_92_18 rfl).trans ?_
    refine (sx_ild dx_92_19 (by decide) ia_2).trans ?_
    refine mj_ite ?_ rfl
    refine (sx_goto (tgt := 24) dx_92_20 (by decide)).trans ?_
    exact sx_reti dx_92_24 rt_92
theorem dx_93_0 : mj_at 93 0 = some (.iload_n 1) := by decide +kernel
theorem dx_93_1 : mj_at 93 1 = some (.invokestatic 72) := by decide +kernel
theorem dx_93_4 : mj_at 93 4 = some (.ifCond .eq 14) := by decide +kernel
theorem dx_93_7 : mj_at 93 7 = some (.aload_n 0) := by decide +kernel
theorem dx_93_8 : mj_at 93 8 = some (.getfield 10) := by decide +kernel
theorem dx_93_11 : mj_at 93 11 = some (.iload_n 1) := by decide +kernel
theorem dx_93_12 : mj_at 93 12 = some (.invokevirtual 175) := by decide +kernel
theorem dx_93_15 : mj_at 93 15 = some (.goto 4) := by decide +kernel
theorem dx_93_18 : mj_at 93 18 = some (.iconst (-1)) := by decide +kernel
theorem dx_93_19 : mj_at 93 19 = some (.ireturn) := by decide +kernel
set_option maxRecDepth 10000 in
theorem b_X8_read {sl d : Nat} {M : mj_M} {x1 : Int32}  : mj_C sl (d + 1) 93 [.ref 0, .int x1] M = (mj_C sl d 20 [.int x1] M).bind (fun q1 => if q1.1 = 0 then (some (((-1) : Int32), q1.2)) else ((mj_C sl d 64 [.ref 1, .int x1] q1.2).bind (fun q2 => some ((q2.1 : Int32), q2.2)))) := by
  show mj_E sl (d + 1) 93 0 [.ref 0, .int x1] [] M = _
  refine (sx_iload_n dx_93_0 rfl).trans ?_
  refine (sx_s1i dx_93_1 ow_93 cx_6_72 (Nat.le_of_ble_eq_true rfl)).trans ?_
  refine mj_bnd (fun q1 => ?_)
  refine (sx_if_eq (tgt := 18) dx_93_4 (by decide)).trans ?_
  refine mj_ite ?_ ?_
  · refine (sx_iconst (v := (-1)) dx_93_18 rfl).trans ?_
    exact sx_reti dx_93_19 rt_93
  · refine (sx_aload_n dx_93_7 rfl).trans ?_
    refine (sx_gfr dx_93_8 ow_93 fx_6_10 oc_0 rb_0_0).trans ?_
    refine (sx_iload_n dx_93_11 rfl).trans ?_
    refine (sx_v1i dx_93_12 ow_93 cx_6_175 oc_1 (Nat.le_of_ble_eq_true rfl)).trans ?_
    refine mj_bnd (fun q2 => ?_)
    refine (sx_goto (tgt := 19) dx_93_15 (by decide)).trans ?_
    exact sx_reti dx_93_19 rt_93
theorem dx_94_0 : mj_at 94 0 = some (.iload_n 1) := by decide +kernel
theorem dx_94_1 : mj_at 94 1 = some (.invokestatic 72) := by decide +kernel
theorem dx_94_4 : mj_at 94 4 = some (.ifCond .eq 18) := by decide +kernel
theorem dx_94_7 : mj_at 94 7 = some (.iload_n 2) := by decide +kernel
theorem dx_94_8 : mj_at 94 8 = some (.invokestatic 72) := by decide +kernel
theorem dx_94_11 : mj_at 94 11 = some (.ifCond .eq 11) := by decide +kernel
theorem dx_94_14 : mj_at 94 14 = some (.iload_n 1) := by decide +kernel
theorem dx_94_15 : mj_at 94 15 = some (.iload_n 2) := by decide +kernel
theorem dx_94_16 : mj_at 94 16 = some (.invokestatic 181) := by decide +kernel
theorem dx_94_19 : mj_at 94 19 = some (.goto 4) := by decide +kernel
theorem dx_94_22 : mj_at 94 22 = some (.iconst (-1)) := by decide +kernel
theorem dx_94_23 : mj_at 94 23 = some (.ireturn) := by decide +kernel
set_option maxRecDepth 10000 in
theorem b_X8_apart {sl d : Nat} {M : mj_M} {x1 : Int32} {x2 : Int32}  : mj_C sl (d + 1) 94 [.ref 0, .int x1, .int x2] M = (mj_C sl d 20 [.int x1] M).bind (fun q1 => if q1.1 = 0 then (some (((-1) : Int32), q1.2)) else ((mj_C sl d 20 [.int x2] q1.2).bind (fun q2 => if q2.1 = 0 then (some (((-1) : Int32), q2.2)) else ((mj_C sl d 21 [.int x1, .int x2] q2.2).bind (fun q3 => some ((q3.1 : Int32), q3.2)))))) := by
  show mj_E sl (d + 1) 94 0 [.ref 0, .int x1, .int x2] [] M = _
  refine (sx_iload_n dx_94_0 rfl).trans ?_
  refine (sx_s1i dx_94_1 ow_94 cx_6_72 (Nat.le_of_ble_eq_true rfl)).trans ?_
  refine mj_bnd (fun q1 => ?_)
  refine (sx_if_eq (tgt := 22) dx_94_4 (by decide)).trans ?_
  refine mj_ite ?_ ?_
  · refine (sx_iconst (v := (-1)) dx_94_22 rfl).trans ?_
    exact sx_reti dx_94_23 rt_94
  · refine (sx_iload_n dx_94_7 rfl).trans ?_
    refine (sx_s1i dx_94_8 ow_94 cx_6_72 (Nat.le_of_ble_eq_true rfl)).trans ?_
    refine mj_bnd (fun q2 => ?_)
    refine (sx_if_eq (tgt := 22) dx_94_11 (by decide)).trans ?_
    refine mj_ite ?_ ?_
    · refine (sx_iconst (v := (-1)) dx_94_22 rfl).trans ?_
      exact sx_reti dx_94_23 rt_94
    · refine (sx_iload_n dx_94_14 rfl).trans ?_
      refine (sx_iload_n dx_94_15 rfl).trans ?_
      refine (sx_s2i dx_94_16 ow_94 cx_6_181 (Nat.le_of_ble_eq_true rfl)).trans ?_
      refine mj_bnd (fun q3 => ?_)
      refine (sx_goto (tgt := 23) dx_94_19 (by decide)).trans ?_
      exact sx_reti dx_94_23 rt_94
theorem dx_95_0 : mj_at 95 0 = some (.aload_n 0) := by decide +kernel
theorem dx_95_1 : mj_at 95 1 = some (.getfield 21) := by decide +kernel
theorem dx_95_4 : mj_at 95 4 = some (.iload_n 1) := by decide +kernel
theorem dx_95_5 : mj_at 95 5 = some (.invokevirtual 85) := by decide +kernel
theorem dx_95_8 : mj_at 95 8 = some (.ifCond .eq 12) := by decide +kernel
theorem dx_95_11 : mj_at 95 11 = some (.iload_n 2) := by decide +kernel
theorem dx_95_12 : mj_at 95 12 = some (.ifCond .lt 8) := by decide +kernel
theorem dx_95_15 : mj_at 95 15 = some (.iload_n 2) := by decide +kernel
theorem dx_95_16 : mj_at 95 16 = some (.iconst 4) := by decide +kernel
theorem dx_95_17 : mj_at 95 17 = some (.if_icmp .le 5) := by decide +kernel
theorem dx_95_20 : mj_at 95 20 = some (.iconst (-1)) := by decide +kernel
theorem dx_95_21 : mj_at 95 21 = some (.ireturn) := by decide +kernel
theorem dx_95_22 : mj_at 95 22 = some (.iload_n 2) := by decide +kernel
theorem dx_95_23 : mj_at 95 23 = some (.iconst 4) := by decide +kernel
theorem dx_95_24 : mj_at 95 24 = some (.if_icmp .ne 9) := by decide +kernel
theorem dx_95_27 : mj_at 95 27 = some (.aload_n 0) := by decide +kernel
theorem dx_95_28 : mj_at 95 28 = some (.iload_n 1) := by decide +kernel
theorem dx_95_29 : mj_at 95 29 = some (.invokevirtual 184) := by decide +kernel
theorem dx_95_32 : mj_at 95 32 = some (.ireturn) := by decide +kernel
theorem dx_95_33 : mj_at 95 33 = some (.iconst 0) := by decide +kernel
theorem dx_95_34 : mj_at 95 34 = some (.istore_n 3) := by decide +kernel
theorem dx_95_35 : mj_at 95 35 = some (.iconst 0) := by decide +kernel
theorem dx_95_36 : mj_at 95 36 = some (.istore 4) := by decide +kernel
theorem dx_95_38 : mj_at 95 38 = some (.iload 4) := by decide +kernel
theorem dx_95_40 : mj_at 95 40 = some (.aload_n 0) := by decide +kernel
theorem dx_95_41 : mj_at 95 41 = some (.getfield 41) := by decide +kernel
theorem dx_95_44 : mj_at 95 44 = some (.getfield 187) := by decide +kernel
theorem dx_95_47 : mj_at 95 47 = some (.if_icmp .ge 53) := by decide +kernel
theorem dx_95_50 : mj_at 95 50 = some (.aload_n 0) := by decide +kernel
theorem dx_95_51 : mj_at 95 51 = some (.getfield 41) := by decide +kernel
theorem dx_95_54 : mj_at 95 54 = some (.getfield 188) := by decide +kernel
theorem dx_95_57 : mj_at 95 57 = some (.iload 4) := by decide +kernel
theorem dx_95_59 : mj_at 95 59 = some (.iaload) := by decide +kernel
theorem dx_95_60 : mj_at 95 60 = some (.istore 5) := by decide +kernel
theorem dx_95_62 : mj_at 95 62 = some (.aload_n 0) := by decide +kernel
theorem dx_95_63 : mj_at 95 63 = some (.getfield 10) := by decide +kernel
theorem dx_95_66 : mj_at 95 66 = some (.iload 5) := by decide +kernel
theorem dx_95_68 : mj_at 95 68 = some (.invokevirtual 88) := by decide +kernel
theorem dx_95_71 : mj_at 95 71 = some (.ifCond .eq 23) := by decide +kernel
theorem dx_95_74 : mj_at 95 74 = some (.iload_n 3) := by decide +kernel
theorem dx_95_75 : mj_at 95 75 = some (.aload_n 0) := by decide +kernel
theorem dx_95_76 : mj_at 95 76 = some (.iload 5) := by decide +kernel
theorem dx_95_78 : mj_at 95 78 = some (.aload_n 0) := by decide +kernel
theorem dx_95_79 : mj_at 95 79 = some (.getfield 21) := by decide +kernel
theorem dx_95_82 : mj_at 95 82 = some (.iload_n 1) := by decide +kernel
theorem dx_95_83 : mj_at 95 83 = some (.iload 5) := by decide +kernel
theorem dx_95_85 : mj_at 95 85 = some (.invokevirtual 172) := by decide +kernel
theorem dx_95_88 : mj_at 95 88 = some (.iload_n 2) := by decide +kernel
theorem dx_95_89 : mj_at 95 89 = some (.invokevirtual 191) := by decide +kernel
theorem dx_95_92 : mj_at 95 92 = some (.iadd) := by decide +kernel
theorem dx_95_93 : mj_at 95 93 = some (.istore_n 3) := by decide +kernel
theorem dx_95_94 : mj_at 95 94 = some (.iinc 4 1) := by decide +kernel
theorem dx_95_97 : mj_at 95 97 = some (.goto (-59)) := by decide +kernel
theorem dx_95_100 : mj_at 95 100 = some (.iload_n 3) := by decide +kernel
theorem dx_95_101 : mj_at 95 101 = some (.ireturn) := by decide +kernel
set_option maxRecDepth 10000 in
theorem b_X8_written {sl d : Nat} {M : mj_M} {x1 : Int32} {x2 : Int32}  : mj_C sl (d + 1) 95 [.ref 0, .int x1, .int x2] M = (mj_C sl d 5 [.ref 3, .int x1] M).bind (fun q1 => if q1.1 = 0 then (some (((-1) : Int32), q1.2)) else (if x2 < 0 then (some (((-1) : Int32), q1.2)) else (if x2 ≤ 4 then (if x2 = 4 then ((mj_C sl d 97 [.ref 0, .int x1] q1.2).bind (fun q2 => some ((q2.1 : Int32), q2.2))) else (mj_E sl (d + 1) 95 38 [.ref 0, .int x1, .int x2, .int 0, .int 0, .null] [] q1.2)) else (some (((-1) : Int32), q1.2))))) := by
  show mj_E sl (d + 1) 95 0 [.ref 0, .int x1, .int x2, .null, .null, .null] [] M = _
  refine (sx_aload_n dx_95_0 rfl).trans ?_
  refine (sx_gfr dx_95_1 ow_95 fx_6_21 oc_0 rb_0_1).trans ?_
  refine (sx_iload_n dx_95_4 rfl).trans ?_
  refine (sx_v1i dx_95_5 ow_95 cx_6_85 oc_3 (Nat.le_of_ble_eq_true rfl)).trans ?_
  refine mj_bnd (fun q1 => ?_)
  refine (sx_if_eq (tgt := 20) dx_95_8 (by decide)).trans ?_
  refine mj_ite ?_ ?_
  · refine (sx_iconst (v := (-1)) dx_95_20 rfl).trans ?_
    exact sx_reti dx_95_21 rt_95
  · refine (sx_iload_n dx_95_11 rfl).trans ?_
    refine (sx_if_lt (tgt := 20) dx_95_12 (by decide)).trans ?_
    refine mj_ite ?_ ?_
    · refine (sx_iconst (v := (-1)) dx_95_20 rfl).trans ?_
      exact sx_reti dx_95_21 rt_95
    · refine (sx_iload_n dx_95_15 rfl).trans ?_
      refine (sx_iconst (v := 4) dx_95_16 rfl).trans ?_
      refine (sx_icmp_le (tgt := 22) dx_95_17 (by decide)).trans ?_
      refine mj_ite ?_ ?_
      · refine (sx_iload_n dx_95_22 rfl).trans ?_
        refine (sx_iconst (v := 4) dx_95_23 rfl).trans ?_
        refine (sx_icmp_ne (tgt := 33) dx_95_24 (by decide)).trans ?_
        refine mj_ite ?_ ?_
        · refine (sx_aload_n dx_95_27 rfl).trans ?_
          refine (sx_iload_n dx_95_28 rfl).trans ?_
          refine (sx_v1i dx_95_29 ow_95 cx_6_184 oc_0 (Nat.le_of_ble_eq_true rfl)).trans ?_
          refine mj_bnd (fun q2 => ?_)
          exact sx_reti dx_95_32 rt_95
        · refine (sx_iconst (v := 0) dx_95_33 rfl).trans ?_
          refine (sx_istore_n dx_95_34 (Nat.le_of_ble_eq_true rfl) rfl).trans ?_
          refine (sx_iconst (v := 0) dx_95_35 rfl).trans ?_
          refine (sx_istore dx_95_36 (Nat.le_of_ble_eq_true rfl) rfl).trans ?_
          rfl
      · refine (sx_iconst (v := (-1)) dx_95_20 rfl).trans ?_
        exact sx_reti dx_95_21 rt_95
set_option maxRecDepth 10000 in
theorem b_X8_written_38 {sl d : Nat} {M : mj_M} {y1 : Int32} {y2 : Int32} {y3 : Int32} {y4 : Int32} {w5 : Value}  : mj_E sl (d + 1) 95 38 [.ref 0, .int y1, .int y2, .int y3, .int y4, w5] [] M = if y4 < (M 23 4) then (if mj_inB y4 60 = true then ((mj_C sl d 62 [.ref 1, .int (M 24 (y4 : Int32).toNatClampNeg)] M).bind (fun q1 => if q1.1 = 0 then (mj_E sl (d + 1) 95 38 [.ref 0, .int y1, .int y2, .int y3, .int (y4 + 1), .int (M 24 (y4 : Int32).toNatClampNeg)] [] q1.2) else ((mj_C sl d 8 [.ref 3, .int y1, .int (M 24 (y4 : Int32).toNatClampNeg)] q1.2).bind (fun q2 => (mj_C sl d 96 [.ref 0, .int (M 24 (y4 : Int32).toNatClampNeg), .int q2.1, .int y2] q2.2).bind (fun q3 => mj_E sl (d + 1) 95 38 [.ref 0, .int y1, .int y2, .int (y3 + q3.1), .int (y4 + 1), .int (M 24 (y4 : Int32).toNatClampNeg)] [] q3.2))))) else none) else (some ((y3 : Int32), M)) := by
  refine (sx_iload dx_95_38 rfl).trans ?_
  refine (sx_aload_n dx_95_40 rfl).trans ?_
  refine (sx_gfr dx_95_41 ow_95 fx_6_41 oc_0 rb_0_5).trans ?_
  refine (sx_gfi dx_95_44 ow_95 fx_6_187 (by decide) oc_23).trans ?_
  refine (sx_icmp_ge (tgt := 100) dx_95_47 (by decide)).trans ?_
  refine mj_ite ?_ ?_
  · refine (sx_aload_n dx_95_50 rfl).trans ?_
    refine (sx_gfr dx_95_51 ow_95 fx_6_41 oc_0 rb_0_5).trans ?_
    refine (sx_gfr dx_95_54 ow_95 fx_6_188 oc_23 rb_23_0).trans ?_
    refine (sx_iload dx_95_57 rfl).trans ?_
    refine (sx_ild dx_95_59 (by decide) ia_24).trans ?_
    refine mj_ite ?_ rfl
    refine (sx_istore dx_95_60 (Nat.le_of_ble_eq_true rfl) rfl).trans ?_
    refine (sx_aload_n dx_95_62 rfl).trans ?_
    refine (sx_gfr dx_95_63 ow_95 fx_6_10 oc_0 rb_0_0).trans ?_
    refine (sx_iload dx_95_66 rfl).trans ?_
    refine (sx_v1i dx_95_68 ow_95 cx_6_88 oc_1 (Nat.le_of_ble_eq_true rfl)).trans ?_
    refine mj_bnd (fun q1 => ?_)
    refine (sx_if_eq (tgt := 94) dx_95_71 (by decide)).trans ?_
    refine mj_ite ?_ ?_
    · refine (sx_iinc (v := 1) dx_95_94 rfl rfl rfl).trans ?_
      refine (sx_goto (tgt := 38) dx_95_97 (by decide)).trans ?_
      rfl
    · refine (sx_iload_n dx_95_74 rfl).trans ?_
      refine (sx_aload_n dx_95_75 rfl).trans ?_
      refine (sx_iload dx_95_76 rfl).trans ?_
      refine (sx_aload_n dx_95_78 rfl).trans ?_
      refine (sx_gfr dx_95_79 ow_95 fx_6_21 oc_0 rb_0_1).trans ?_
      refine (sx_iload_n dx_95_82 rfl).trans ?_
      refine (sx_iload dx_95_83 rfl).trans ?_
      refine (sx_v2i dx_95_85 ow_95 cx_6_172 oc_3 (Nat.le_of_ble_eq_true rfl)).trans ?_
      refine mj_bnd (fun q2 => ?_)
      refine (sx_iload_n dx_95_88 rfl).trans ?_
      refine (sx_v3i dx_95_89 ow_95 cx_6_191 oc_0 (Nat.le_of_ble_eq_true rfl)).trans ?_
      refine mj_bnd (fun q3 => ?_)
      refine (sx_iadd dx_95_92).trans ?_
      refine (sx_istore_n dx_95_93 (Nat.le_of_ble_eq_true rfl) rfl).trans ?_
      refine (sx_iinc (v := 1) dx_95_94 rfl rfl rfl).trans ?_
      refine (sx_goto (tgt := 38) dx_95_97 (by decide)).trans ?_
      rfl
  · refine (sx_iload_n dx_95_100 rfl).trans ?_
    exact sx_reti dx_95_101 rt_95
theorem dx_96_0 : mj_at 96 0 = some (.iload_n 3) := by decide +kernel
theorem dx_96_1 : mj_at 96 1 = some (.iconst 3) := by decide +kernel
theorem dx_96_2 : mj_at 96 2 = some (.if_icmp .ne 8) := by decide +kernel
theorem dx_96_5 : mj_at 96 5 = some (.iload_n 2) := by decide +kernel
theorem dx_96_6 : mj_at 96 6 = some (.invokestatic 195) := by decide +kernel
theorem dx_96_9 : mj_at 96 9 = some (.ireturn) := by decide +kernel
theorem dx_96_10 : mj_at 96 10 = some (.aload_n 0) := by decide +kernel
theorem dx_96_11 : mj_at 96 11 = some (.getfield 10) := by decide +kernel
theorem dx_96_14 : mj_at 96 14 = some (.iload_n 2) := by decide +kernel
theorem dx_96_15 : mj_at 96 15 = some (.invokevirtual 175) := by decide +kernel
theorem dx_96_18 : mj_at 96 18 = some (.istore 4) := by decide +kernel
theorem dx_96_20 : mj_at 96 20 = some (.iload 4) := by decide +kernel
theorem dx_96_22 : mj_at 96 22 = some (.iload_n 1) := by decide +kernel
theorem dx_96_23 : mj_at 96 23 = some (.if_icmp .ne 7) := by decide +kernel
theorem dx_96_26 : mj_at 96 26 = some (.iconst 0) := by decide +kernel
theorem dx_96_27 : mj_at 96 27 = some (.goto 15) := by decide +kernel
theorem dx_96_30 : mj_at 96 30 = some (.iload 4) := by decide +kernel
theorem dx_96_32 : mj_at 96 32 = some (.bipush (-2)) := by decide +kernel
theorem dx_96_34 : mj_at 96 34 = some (.if_icmp .ne 7) := by decide +kernel
theorem dx_96_37 : mj_at 96 37 = some (.iconst 2) := by decide +kernel
theorem dx_96_38 : mj_at 96 38 = some (.goto 4) := by decide +kernel
theorem dx_96_41 : mj_at 96 41 = some (.iconst 1) := by decide +kernel
theorem dx_96_42 : mj_at 96 42 = some (.istore 5) := by decide +kernel
theorem dx_96_44 : mj_at 96 44 = some (.iload 5) := by decide +kernel
theorem dx_96_46 : mj_at 96 46 = some (.iload_n 3) := by decide +kernel
theorem dx_96_47 : mj_at 96 47 = some (.if_icmp .ne 7) := by decide +kernel
theorem dx_96_50 : mj_at 96 50 = some (.iconst 1) := by decide +kernel
theorem dx_96_51 : mj_at 96 51 = some (.goto 4) := by decide +kernel
theorem dx_96_54 : mj_at 96 54 = some (.iconst 0) := by decide +kernel
theorem dx_96_55 : mj_at 96 55 = some (.ireturn) := by decide +kernel
set_option maxRecDepth 10000 in
theorem b_X8_writtenLetter {sl d : Nat} {M : mj_M} {x1 : Int32} {x2 : Int32} {x3 : Int32}  : mj_C sl (d + 1) 96 [.ref 0, .int x1, .int x2, .int x3] M = if x3 = 3 then ((mj_C sl d 229 [.int x2] M).bind (fun q1 => some ((q1.1 : Int32), q1.2))) else ((mj_C sl d 64 [.ref 1, .int x2] M).bind (fun q2 => if q2.1 = x1 then (if 0 = x3 then (some ((1 : Int32), q2.2)) else (some ((0 : Int32), q2.2))) else (if q2.1 = (-2) then (if 2 = x3 then (some ((1 : Int32), q2.2)) else (some ((0 : Int32), q2.2))) else (if 1 = x3 then (some ((1 : Int32), q2.2)) else (some ((0 : Int32), q2.2)))))) := by
  show mj_E sl (d + 1) 96 0 [.ref 0, .int x1, .int x2, .int x3, .null, .null] [] M = _
  refine (sx_iload_n dx_96_0 rfl).trans ?_
  refine (sx_iconst (v := 3) dx_96_1 rfl).trans ?_
  refine (sx_icmp_ne (tgt := 10) dx_96_2 (by decide)).trans ?_
  refine mj_ite ?_ ?_
  · refine (sx_iload_n dx_96_5 rfl).trans ?_
    refine (sx_s1i dx_96_6 ow_96 cx_6_195 (Nat.le_of_ble_eq_true rfl)).trans ?_
    refine mj_bnd (fun q1 => ?_)
    exact sx_reti dx_96_9 rt_96
  · refine (sx_aload_n dx_96_10 rfl).trans ?_
    refine (sx_gfr dx_96_11 ow_96 fx_6_10 oc_0 rb_0_0).trans ?_
    refine (sx_iload_n dx_96_14 rfl).trans ?_
    refine (sx_v1i dx_96_15 ow_96 cx_6_175 oc_1 (Nat.le_of_ble_eq_true rfl)).trans ?_
    refine mj_bnd (fun q2 => ?_)
    refine (sx_istore dx_96_18 (Nat.le_of_ble_eq_true rfl) rfl).trans ?_
    refine (sx_iload dx_96_20 rfl).trans ?_
    refine (sx_iload_n dx_96_22 rfl).trans ?_
    refine (sx_icmp_ne (tgt := 30) dx_96_23 (by decide)).trans ?_
    refine mj_ite ?_ ?_
    · refine (sx_iconst (v := 0) dx_96_26 rfl).trans ?_
      refine (sx_goto (tgt := 42) dx_96_27 (by decide)).trans ?_
      refine (sx_istore dx_96_42 (Nat.le_of_ble_eq_true rfl) rfl).trans ?_
      refine (sx_iload dx_96_44 rfl).trans ?_
      refine (sx_iload_n dx_96_46 rfl).trans ?_
      refine (sx_icmp_ne (tgt := 54) dx_96_47 (by decide)).trans ?_
      refine mj_ite ?_ ?_
      · refine (sx_iconst (v := 1) dx_96_50 rfl).trans ?_
        refine (sx_goto (tgt := 55) dx_96_51 (by decide)).trans ?_
        exact sx_reti dx_96_55 rt_96
      · refine (sx_iconst (v := 0) dx_96_54 rfl).trans ?_
        exact sx_reti dx_96_55 rt_96
    · refine (sx_iload dx_96_30 rfl).trans ?_
      refine (sx_bipush (v := (-2)) dx_96_32 rfl).trans ?_
      refine (sx_icmp_ne (tgt := 41) dx_96_34 (by decide)).trans ?_
      refine mj_ite ?_ ?_
      · refine (sx_iconst (v := 2) dx_96_37 rfl).trans ?_
        refine (sx_goto (tgt := 42) dx_96_38 (by decide)).trans ?_
        refine (sx_istore dx_96_42 (Nat.le_of_ble_eq_true rfl) rfl).trans ?_
        refine (sx_iload dx_96_44 rfl).trans ?_
        refine (sx_iload_n dx_96_46 rfl).trans ?_
        refine (sx_icmp_ne (tgt := 54) dx_96_47 (by decide)).trans ?_
        refine mj_ite ?_ ?_
        · refine (sx_iconst (v := 1) dx_96_50 rfl).trans ?_
          refine (sx_goto (tgt := 55) dx_96_51 (by decide)).trans ?_
          exact sx_reti dx_96_55 rt_96
        · refine (sx_iconst (v := 0) dx_96_54 rfl).trans ?_
          exact sx_reti dx_96_55 rt_96
      · refine (sx_iconst (v := 1) dx_96_41 rfl).trans ?_
        refine (sx_istore dx_96_42 (Nat.le_of_ble_eq_true rfl) rfl).trans ?_
        refine (sx_iload dx_96_44 rfl).trans ?_
        refine (sx_iload_n dx_96_46 rfl).trans ?_
        refine (sx_icmp_ne (tgt := 54) dx_96_47 (by decide)).trans ?_
        refine mj_ite ?_ ?_
        · refine (sx_iconst (v := 1) dx_96_50 rfl).trans ?_
          refine (sx_goto (tgt := 55) dx_96_51 (by decide)).trans ?_
          exact sx_reti dx_96_55 rt_96
        · refine (sx_iconst (v := 0) dx_96_54 rfl).trans ?_
          exact sx_reti dx_96_55 rt_96
theorem dx_97_0 : mj_at 97 0 = some (.aload_n 0) := by decide +kernel
theorem dx_97_1 : mj_at 97 1 = some (.getfield 21) := by decide +kernel
theorem dx_97_4 : mj_at 97 4 = some (.getfield 162) := by decide +kernel
theorem dx_97_7 : mj_at 97 7 = some (.iload_n 1) := by decide +kernel
theorem dx_97_8 : mj_at 97 8 = some (.iaload) := by decide +kernel
theorem dx_97_9 : mj_at 97 9 = some (.istore_n 2) := by decide +kernel
theorem dx_97_10 : mj_at 97 10 = some (.iconst 0) := by decide +kernel
theorem dx_97_11 : mj_at 97 11 = some (.istore_n 3) := by decide +kernel
theorem dx_97_12 : mj_at 97 12 = some (.iload_n 3) := by decide +kernel
theorem dx_97_13 : mj_at 97 13 = some (.aload_n 0) := by decide +kernel
theorem dx_97_14 : mj_at 97 14 = some (.getfield 41) := by decide +kernel
theorem dx_97_17 : mj_at 97 17 = some (.getfield 187) := by decide +kernel
theorem dx_97_20 : mj_at 97 20 = some (.if_icmp .ge 56) := by decide +kernel
theorem dx_97_23 : mj_at 97 23 = some (.aload_n 0) := by decide +kernel
theorem dx_97_24 : mj_at 97 24 = some (.getfield 41) := by decide +kernel
theorem dx_97_27 : mj_at 97 27 = some (.getfield 188) := by decide +kernel
theorem dx_97_30 : mj_at 97 30 = some (.iload_n 3) := by decide +kernel
theorem dx_97_31 : mj_at 97 31 = some (.iaload) := by decide +kernel
theorem dx_97_32 : mj_at 97 32 = some (.istore 4) := by decide +kernel
theorem dx_97_34 : mj_at 97 34 = some (.aload_n 0) := by decide +kernel
theorem dx_97_35 : mj_at 97 35 = some (.getfield 10) := by decide +kernel
theorem dx_97_38 : mj_at 97 38 = some (.iload 4) := by decide +kernel
theorem dx_97_40 : mj_at 97 40 = some (.invokevirtual 88) := by decide +kernel
theorem dx_97_43 : mj_at 97 43 = some (.ifCond .ne 5) := by decide +kernel
theorem dx_97_46 : mj_at 97 46 = some (.iload_n 3) := by decide +kernel
theorem dx_97_47 : mj_at 97 47 = some (.ireturn) := by decide +kernel
theorem dx_97_48 : mj_at 97 48 = some (.iload_n 2) := by decide +kernel
theorem dx_97_49 : mj_at 97 49 = some (.aload_n 0) := by decide +kernel
theorem dx_97_50 : mj_at 97 50 = some (.getfield 21) := by decide +kernel
theorem dx_97_53 : mj_at 97 53 = some (.iload_n 1) := by decide +kernel
theorem dx_97_54 : mj_at 97 54 = some (.iload 4) := by decide +kernel
theorem dx_97_56 : mj_at 97 56 = some (.invokevirtual 172) := by decide +kernel
theorem dx_97_59 : mj_at 97 59 = some (.invokestatic 195) := by decide +kernel
theorem dx_97_62 : mj_at 97 62 = some (.isub) := by decide +kernel
theorem dx_97_63 : mj_at 97 63 = some (.istore_n 2) := by decide +kernel
theorem dx_97_64 : mj_at 97 64 = some (.iload_n 2) := by decide +kernel
theorem dx_97_65 : mj_at 97 65 = some (.ifCond .ge 5) := by decide +kernel
theorem dx_97_68 : mj_at 97 68 = some (.iload_n 3) := by decide +kernel
theorem dx_97_69 : mj_at 97 69 = some (.ireturn) := by decide +kernel
theorem dx_97_70 : mj_at 97 70 = some (.iinc 3 1) := by decide +kernel
theorem dx_97_73 : mj_at 97 73 = some (.goto (-61)) := by decide +kernel
theorem dx_97_76 : mj_at 97 76 = some (.aload_n 0) := by decide +kernel
theorem dx_97_77 : mj_at 97 77 = some (.getfield 41) := by decide +kernel
theorem dx_97_80 : mj_at 97 80 = some (.getfield 187) := by decide +kernel
theorem dx_97_83 : mj_at 97 83 = some (.ireturn) := by decide +kernel
set_option maxRecDepth 10000 in
theorem b_X8_inkLastsFor {sl d : Nat} {M : mj_M} {x1 : Int32}  : mj_C sl (d + 1) 97 [.ref 0, .int x1] M = if mj_inB x1 10 = true then (mj_E sl (d + 1) 97 12 [.ref 0, .int x1, .int (M 5 (x1 : Int32).toNatClampNeg), .int 0, .null] [] M) else none := by
  show mj_E sl (d + 1) 97 0 [.ref 0, .int x1, .null, .null, .null] [] M = _
  refine (sx_aload_n dx_97_0 rfl).trans ?_
  refine (sx_gfr dx_97_1 ow_97 fx_6_21 oc_0 rb_0_1).trans ?_
  refine (sx_gfr dx_97_4 ow_97 fx_6_162 oc_3 rb_3_2).trans ?_
  refine (sx_iload_n dx_97_7 rfl).trans ?_
  refine (sx_ild dx_97_8 (by decide) ia_5).trans ?_
  refine mj_ite ?_ rfl
  refine (sx_istore_n dx_97_9 (Nat.le_of_ble_eq_true rfl) rfl).trans ?_
  refine (sx_iconst (v := 0) dx_97_10 rfl).trans ?_
  refine (sx_istore_n dx_97_11 (Nat.le_of_ble_eq_true rfl) rfl).trans ?_
  rfl
set_option maxRecDepth 10000 in
theorem b_X8_inkLastsFor_12 {sl d : Nat} {M : mj_M} {y1 : Int32} {y2 : Int32} {y3 : Int32} {w4 : Value}  : mj_E sl (d + 1) 97 12 [.ref 0, .int y1, .int y2, .int y3, w4] [] M = if y3 < (M 23 4) then (if mj_inB y3 60 = true then ((mj_C sl d 62 [.ref 1, .int (M 24 (y3 : Int32).toNatClampNeg)] M).bind (fun q1 => if q1.1 = 0 then (some ((y3 : Int32), q1.2)) else ((mj_C sl d 8 [.ref 3, .int y1, .int (M 24 (y3 : Int32).toNatClampNeg)] q1.2).bind (fun q2 => (mj_C sl d 229 [.int q2.1] q2.2).bind (fun q3 => if y2 - q3.1 < 0 then (some ((y3 : Int32), q3.2)) else (mj_E sl (d + 1) 97 12 [.ref 0, .int y1, .int (y2 - q3.1), .int (y3 + 1), .int (M 24 (y3 : Int32).toNatClampNeg)] [] q3.2)))))) else none) else (some ((M 23 4 : Int32), M)) := by
  refine (sx_iload_n dx_97_12 rfl).trans ?_
  refine (sx_aload_n dx_97_13 rfl).trans ?_
  refine (sx_gfr dx_97_14 ow_97 fx_6_41 oc_0 rb_0_5).trans ?_
  refine (sx_gfi dx_97_17 ow_97 fx_6_187 (by decide) oc_23).trans ?_
  refine (sx_icmp_ge (tgt := 76) dx_97_20 (by decide)).trans ?_
  refine mj_ite ?_ ?_
  · refine (sx_aload_n dx_97_23 rfl).trans ?_
    refine (sx_gfr dx_97_24 ow_97 fx_6_41 oc_0 rb_0_5).trans ?_
    refine (sx_gfr dx_97_27 ow_97 fx_6_188 oc_23 rb_23_0).trans ?_
    refine (sx_iload_n dx_97_30 rfl).trans ?_
    refine (sx_ild dx_97_31 (by decide) ia_24).trans ?_
    refine mj_ite ?_ rfl
    refine (sx_istore dx_97_32 (Nat.le_of_ble_eq_true rfl) rfl).trans ?_
    refine (sx_aload_n dx_97_34 rfl).trans ?_
    refine (sx_gfr dx_97_35 ow_97 fx_6_10 oc_0 rb_0_0).trans ?_
    refine (sx_iload dx_97_38 rfl).trans ?_
    refine (sx_v1i dx_97_40 ow_97 cx_6_88 oc_1 (Nat.le_of_ble_eq_true rfl)).trans ?_
    refine mj_bnd (fun q1 => ?_)
    refine (sx_if_ne (tgt := 48) dx_97_43 (by decide)).trans ?_
    refine mj_ite ?_ ?_
    · refine (sx_iload_n dx_97_46 rfl).trans ?_
      exact sx_reti dx_97_47 rt_97
    · refine (sx_iload_n dx_97_48 rfl).trans ?_
      refine (sx_aload_n dx_97_49 rfl).trans ?_
      refine (sx_gfr dx_97_50 ow_97 fx_6_21 oc_0 rb_0_1).trans ?_
      refine (sx_iload_n dx_97_53 rfl).trans ?_
      refine (sx_iload dx_97_54 rfl).trans ?_
      refine (sx_v2i dx_97_56 ow_97 cx_6_172 oc_3 (Nat.le_of_ble_eq_true rfl)).trans ?_
      refine mj_bnd (fun q2 => ?_)
      refine (sx_s1i dx_97_59 ow_97 cx_6_195 (Nat.le_of_ble_eq_true rfl)).trans ?_
      refine mj_bnd (fun q3 => ?_)
      refine (sx_isub dx_97_62).trans ?_
      refine (sx_istore_n dx_97_63 (Nat.le_of_ble_eq_true rfl) rfl).trans ?_
      refine (sx_iload_n dx_97_64 rfl).trans ?_
      refine (sx_if_ge (tgt := 70) dx_97_65 (by decide)).trans ?_
      refine mj_ite ?_ ?_
      · refine (sx_iload_n dx_97_68 rfl).trans ?_
        exact sx_reti dx_97_69 rt_97
      · refine (sx_iinc (v := 1) dx_97_70 rfl rfl rfl).trans ?_
        refine (sx_goto (tgt := 12) dx_97_73 (by decide)).trans ?_
        rfl
  · refine (sx_aload_n dx_97_76 rfl).trans ?_
    refine (sx_gfr dx_97_77 ow_97 fx_6_41 oc_0 rb_0_5).trans ?_
    refine (sx_gfi dx_97_80 ow_97 fx_6_187 (by decide) oc_23).trans ?_
    exact sx_reti dx_97_83 rt_97
theorem dx_98_0 : mj_at 98 0 = some (.iload_n 2) := by decide +kernel
theorem dx_98_1 : mj_at 98 1 = some (.bipush 100) := by decide +kernel
theorem dx_98_3 : mj_at 98 3 = some (.if_icmp .eq 19) := by decide +kernel
theorem dx_98_6 : mj_at 98 6 = some (.iload_n 2) := by decide +kernel
theorem dx_98_7 : mj_at 98 7 = some (.bipush 101) := by decide +kernel
theorem dx_98_9 : mj_at 98 9 = some (.if_icmp .eq 13) := by decide +kernel
theorem dx_98_12 : mj_at 98 12 = some (.iload_n 2) := by decide +kernel
theorem dx_98_13 : mj_at 98 13 = some (.ifCond .lt 13) := by decide +kernel
theorem dx_98_16 : mj_at 98 16 = some (.iload_n 2) := by decide +kernel
theorem dx_98_17 : mj_at 98 17 = some (.bipush 60) := by decide +kernel
theorem dx_98_19 : mj_at 98 19 = some (.if_icmp .ge 7) := by decide +kernel
theorem dx_98_22 : mj_at 98 22 = some (.iconst 1) := by decide +kernel
theorem dx_98_23 : mj_at 98 23 = some (.goto 4) := by decide +kernel
theorem dx_98_26 : mj_at 98 26 = some (.iconst 0) := by decide +kernel
theorem dx_98_27 : mj_at 98 27 = some (.istore_n 3) := by decide +kernel
theorem dx_98_28 : mj_at 98 28 = some (.iload_n 3) := by decide +kernel
theorem dx_98_29 : mj_at 98 29 = some (.ifCond .eq 17) := by decide +kernel
theorem dx_98_32 : mj_at 98 32 = some (.aload_n 0) := by decide +kernel
theorem dx_98_33 : mj_at 98 33 = some (.getfield 34) := by decide +kernel
theorem dx_98_36 : mj_at 98 36 = some (.iload_n 1) := by decide +kernel
theorem dx_98_37 : mj_at 98 37 = some (.iconst 1) := by decide +kernel
theorem dx_98_38 : mj_at 98 38 = some (.bipush 12) := by decide +kernel
theorem dx_98_40 : mj_at 98 40 = some (.invokevirtual 104) := by decide +kernel
theorem dx_98_43 : mj_at 98 43 = some (.ifCond .ne 5) := by decide +kernel
theorem dx_98_46 : mj_at 98 46 = some (.iconst (-1)) := by decide +kernel
theorem dx_98_47 : mj_at 98 47 = some (.ireturn) := by decide +kernel
theorem dx_98_48 : mj_at 98 48 = some (.aload_n 0) := by decide +kernel
theorem dx_98_49 : mj_at 98 49 = some (.getfield 34) := by decide +kernel
theorem dx_98_52 : mj_at 98 52 = some (.iconst 0) := by decide +kernel
theorem dx_98_53 : mj_at 98 53 = some (.putfield 100) := by decide +kernel
theorem dx_98_56 : mj_at 98 56 = some (.iconst 0) := by decide +kernel
theorem dx_98_57 : mj_at 98 57 = some (.istore 4) := by decide +kernel
theorem dx_98_59 : mj_at 98 59 = some (.iload 4) := by decide +kernel
theorem dx_98_61 : mj_at 98 61 = some (.iload_n 1) := by decide +kernel
theorem dx_98_62 : mj_at 98 62 = some (.if_icmp .ge 31) := by decide +kernel
theorem dx_98_65 : mj_at 98 65 = some (.aload_n 0) := by decide +kernel
theorem dx_98_66 : mj_at 98 66 = some (.getfield 21) := by decide +kernel
theorem dx_98_69 : mj_at 98 69 = some (.aload_n 0) := by decide +kernel
theorem dx_98_70 : mj_at 98 70 = some (.getfield 34) := by decide +kernel
theorem dx_98_73 : mj_at 98 73 = some (.iload 4) := by decide +kernel
theorem dx_98_75 : mj_at 98 75 = some (.invokevirtual 200) := by decide +kernel
theorem dx_98_78 : mj_at 98 78 = some (.invokevirtual 85) := by decide +kernel
theorem dx_98_81 : mj_at 98 81 = some (.ifCond .ne 6) := by decide +kernel
theorem dx_98_84 : mj_at 98 84 = some (.bipush (-2)) := by decide +kernel
theorem dx_98_86 : mj_at 98 86 = some (.ireturn) := by decide +kernel
theorem dx_98_87 : mj_at 98 87 = some (.iinc 4 1) := by decide +kernel
theorem dx_98_90 : mj_at 98 90 = some (.goto (-31)) := by decide +kernel
theorem dx_98_93 : mj_at 98 93 = some (.aload_n 0) := by decide +kernel
theorem dx_98_94 : mj_at 98 94 = some (.iload_n 1) := by decide +kernel
theorem dx_98_95 : mj_at 98 95 = some (.invokevirtual 203) := by decide +kernel
theorem dx_98_98 : mj_at 98 98 = some (.istore 4) := by decide +kernel
theorem dx_98_100 : mj_at 98 100 = some (.iload_n 2) := by decide +kernel
theorem dx_98_101 : mj_at 98 101 = some (.bipush 100) := by decide +kernel
theorem dx_98_103 : mj_at 98 103 = some (.if_icmp .ne 6) := by decide +kernel
theorem dx_98_106 : mj_at 98 106 = some (.iload 4) := by decide +kernel
theorem dx_98_108 : mj_at 98 108 = some (.ireturn) := by decide +kernel
theorem dx_98_109 : mj_at 98 109 = some (.iload_n 2) := by decide +kernel
theorem dx_98_110 : mj_at 98 110 = some (.bipush 101) := by decide +kernel
theorem dx_98_112 : mj_at 98 112 = some (.if_icmp .ne 10) := by decide +kernel
theorem dx_98_115 : mj_at 98 115 = some (.aload_n 0) := by decide +kernel
theorem dx_98_116 : mj_at 98 116 = some (.iload 4) := by decide +kernel
theorem dx_98_118 : mj_at 98 118 = some (.invokevirtual 206) := by decide +kernel
theorem dx_98_121 : mj_at 98 121 = some (.ireturn) := by decide +kernel
theorem dx_98_122 : mj_at 98 122 = some (.iload_n 2) := by decide +kernel
theorem dx_98_123 : mj_at 98 123 = some (.iload 4) := by decide +kernel
theorem dx_98_125 : mj_at 98 125 = some (.if_icmp .ge 12) := by decide +kernel
theorem dx_98_128 : mj_at 98 128 = some (.aload_n 0) := by decide +kernel
theorem dx_98_129 : mj_at 98 129 = some (.getfield 58) := by decide +kernel
theorem dx_98_132 : mj_at 98 132 = some (.iload_n 2) := by decide +kernel
theorem dx_98_133 : mj_at 98 133 = some (.iaload) := by decide +kernel
theorem dx_98_134 : mj_at 98 134 = some (.goto 5) := by decide +kernel
theorem dx_98_137 : mj_at 98 137 = some (.bipush (-4)) := by decide +kernel
theorem dx_98_139 : mj_at 98 139 = some (.ireturn) := by decide +kernel
set_option maxRecDepth 10000 in
theorem b_X8_copied {sl d : Nat} {M : mj_M} {x1 : Int32} {x2 : Int32}  : mj_C sl (d + 1) 98 [.ref 0, .int x1, .int x2] M = if x2 = 100 then (mj_E sl (d + 1) 98 22 [.ref 0, .int x1, .int x2, .null, .null] [] M) else (if x2 = 101 then (mj_E sl (d + 1) 98 22 [.ref 0, .int x1, .int x2, .null, .null] [] M) else (if x2 < 0 then (some (((-1) : Int32), M)) else (if x2 < 60 then (mj_E sl (d + 1) 98 22 [.ref 0, .int x1, .int x2, .null, .null] [] M) else (some (((-1) : Int32), M))))) := by
  show mj_E sl (d + 1) 98 0 [.ref 0, .int x1, .int x2, .null, .null] [] M = _
  refine (sx_iload_n dx_98_0 rfl).trans ?_
  refine (sx_bipush (v := 100) dx_98_1 rfl).trans ?_
  refine (sx_icmp_eq (tgt := 22) dx_98_3 (by decide)).trans ?_
  refine mj_ite ?_ ?_
  · rfl
  · refine (sx_iload_n dx_98_6 rfl).trans ?_
    refine (sx_bipush (v := 101) dx_98_7 rfl).trans ?_
    refine (sx_icmp_eq (tgt := 22) dx_98_9 (by decide)).trans ?_
    refine mj_ite ?_ ?_
    · rfl
    · refine (sx_iload_n dx_98_12 rfl).trans ?_
      refine (sx_if_lt (tgt := 26) dx_98_13 (by decide)).trans ?_
      refine mj_ite ?_ ?_
      · refine (sx_iconst (v := 0) dx_98_26 rfl).trans ?_
        refine (sx_istore_n dx_98_27 (Nat.le_of_ble_eq_true rfl) rfl).trans ?_
        refine (sx_iload_n dx_98_28 rfl).trans ?_
        refine (sx_if_eq_t (tgt := 46) dx_98_29 (by decide) (by decide)).trans ?_
        refine (sx_iconst (v := (-1)) dx_98_46 rfl).trans ?_
        exact sx_reti dx_98_47 rt_98
      · refine (sx_iload_n dx_98_16 rfl).trans ?_
        refine (sx_bipush (v := 60) dx_98_17 rfl).trans ?_
        refine (sx_icmp_ge (tgt := 26) dx_98_19 (by decide)).trans ?_
        refine mj_ite ?_ ?_
        · rfl
        · refine (sx_iconst (v := 0) dx_98_26 rfl).trans ?_
          refine (sx_istore_n dx_98_27 (Nat.le_of_ble_eq_true rfl) rfl).trans ?_
          refine (sx_iload_n dx_98_28 rfl).trans ?_
          refine (sx_if_eq_t (tgt := 46) dx_98_29 (by decide) (by decide)).trans ?_
          refine (sx_iconst (v := (-1)) dx_98_46 rfl).trans ?_
          exact sx_reti dx_98_47 rt_98
set_option maxRecDepth 10000 in
theorem b_X8_copied_22 {sl d : Nat} {M : mj_M} {y1 : Int32} {y2 : Int32} {w3 : Value} {w4 : Value}  : mj_E sl (d + 1) 98 22 [.ref 0, .int y1, .int y2, w3, w4] [] M = (mj_C sl d 75 [.ref 21, .int y1, .int 1, .int 12] M).bind (fun q1 => if q1.1 = 0 then (some (((-1) : Int32), q1.2)) else (mj_E sl (d + 1) 98 59 [.ref 0, .int y1, .int y2, .int 1, .int 0] [] (mj_st q1.2 21 1 0))) := by
  refine (sx_iconst (v := 1) dx_98_22 rfl).trans ?_
  refine (sx_goto (tgt := 27) dx_98_23 (by decide)).trans ?_
  refine (sx_istore_n dx_98_27 (Nat.le_of_ble_eq_true rfl) rfl).trans ?_
  refine (sx_iload_n dx_98_28 rfl).trans ?_
  refine (sx_if_eq_f (tgt := 46) dx_98_29 (by decide) (by decide)).trans ?_
  refine (sx_aload_n dx_98_32 rfl).trans ?_
  refine (sx_gfr dx_98_33 ow_98 fx_6_34 oc_0 rb_0_4).trans ?_
  refine (sx_iload_n dx_98_36 rfl).trans ?_
  refine (sx_iconst (v := 1) dx_98_37 rfl).trans ?_
  refine (sx_bipush (v := 12) dx_98_38 rfl).trans ?_
  refine (sx_v3i dx_98_40 ow_98 cx_6_104 oc_21 (Nat.le_of_ble_eq_true rfl)).trans ?_
  refine mj_bnd (fun q1 => ?_)
  refine (sx_if_ne (tgt := 48) dx_98_43 (by decide)).trans ?_
  refine mj_ite ?_ ?_
  · refine (sx_iconst (v := (-1)) dx_98_46 rfl).trans ?_
    exact sx_reti dx_98_47 rt_98
  · refine (sx_aload_n dx_98_48 rfl).trans ?_
    refine (sx_gfr dx_98_49 ow_98 fx_6_34 oc_0 rb_0_4).trans ?_
    refine (sx_iconst (v := 0) dx_98_52 rfl).trans ?_
    refine (sx_pfi dx_98_53 ow_98 fx_6_100 oc_21).trans ?_
    refine (sx_iconst (v := 0) dx_98_56 rfl).trans ?_
    refine (sx_istore dx_98_57 (Nat.le_of_ble_eq_true rfl) rfl).trans ?_
    rfl
set_option maxRecDepth 10000 in
theorem b_X8_copied_59 {sl d : Nat} {M : mj_M} {y1 : Int32} {y2 : Int32} {w3 : Value} {y4 : Int32}  : mj_E sl (d + 1) 98 59 [.ref 0, .int y1, .int y2, w3, .int y4] [] M = if y4 < y1 then ((mj_C sl d 76 [.ref 21, .int y4] M).bind (fun q1 => (mj_C sl d 5 [.ref 3, .int q1.1] q1.2).bind (fun q2 => if q2.1 = 0 then (some (((-2) : Int32), q2.2)) else (mj_E sl (d + 1) 98 59 [.ref 0, .int y1, .int y2, w3, .int (y4 + 1)] [] q2.2)))) else ((mj_C sl d 99 [.ref 0, .int y1] M).bind (fun q3 => if y2 = 100 then (some ((q3.1 : Int32), q3.2)) else (if y2 = 101 then ((mj_C sl d 100 [.ref 0, .int q3.1] q3.2).bind (fun q4 => some ((q4.1 : Int32), q4.2))) else (if y2 < q3.1 then (if mj_inB y2 60 = true then (some ((q3.2 37 (y2 : Int32).toNatClampNeg : Int32), q3.2)) else none) else (some (((-4) : Int32), q3.2)))))) := by
  refine (sx_iload dx_98_59 rfl).trans ?_
  refine (sx_iload_n dx_98_61 rfl).trans ?_
  refine (sx_icmp_ge (tgt := 93) dx_98_62 (by decide)).trans ?_
  refine mj_ite ?_ ?_
  · refine (sx_aload_n dx_98_65 rfl).trans ?_
    refine (sx_gfr dx_98_66 ow_98 fx_6_21 oc_0 rb_0_1).trans ?_
    refine (sx_aload_n dx_98_69 rfl).trans ?_
    refine (sx_gfr dx_98_70 ow_98 fx_6_34 oc_0 rb_0_4).trans ?_
    refine (sx_iload dx_98_73 rfl).trans ?_
    refine (sx_v1i dx_98_75 ow_98 cx_6_200 oc_21 (Nat.le_of_ble_eq_true rfl)).trans ?_
    refine mj_bnd (fun q1 => ?_)
    refine (sx_v1i dx_98_78 ow_98 cx_6_85 oc_3 (Nat.le_of_ble_eq_true rfl)).trans ?_
    refine mj_bnd (fun q2 => ?_)
    refine (sx_if_ne (tgt := 87) dx_98_81 (by decide)).trans ?_
    refine mj_ite ?_ ?_
    · refine (sx_bipush (v := (-2)) dx_98_84 rfl).trans ?_
      exact sx_reti dx_98_86 rt_98
    · refine (sx_iinc (v := 1) dx_98_87 rfl rfl rfl).trans ?_
      refine (sx_goto (tgt := 59) dx_98_90 (by decide)).trans ?_
      rfl
  · refine (sx_aload_n dx_98_93 rfl).trans ?_
    refine (sx_iload_n dx_98_94 rfl).trans ?_
    refine (sx_v1i dx_98_95 ow_98 cx_6_203 oc_0 (Nat.le_of_ble_eq_true rfl)).trans ?_
    refine mj_bnd (fun q3 => ?_)
    refine (sx_istore dx_98_98 (Nat.le_of_ble_eq_true rfl) rfl).trans ?_
    refine (sx_iload_n dx_98_100 rfl).trans ?_
    refine (sx_bipush (v := 100) dx_98_101 rfl).trans ?_
    refine (sx_icmp_ne (tgt := 109) dx_98_103 (by decide)).trans ?_
    refine mj_ite ?_ ?_
    · refine (sx_iload dx_98_106 rfl).trans ?_
      exact sx_reti dx_98_108 rt_98
    · refine (sx_iload_n dx_98_109 rfl).trans ?_
      refine (sx_bipush (v := 101) dx_98_110 rfl).trans ?_
      refine (sx_icmp_ne (tgt := 122) dx_98_112 (by decide)).trans ?_
      refine mj_ite ?_ ?_
      · refine (sx_aload_n dx_98_115 rfl).trans ?_
        refine (sx_iload dx_98_116 rfl).trans ?_
        refine (sx_v1i dx_98_118 ow_98 cx_6_206 oc_0 (Nat.le_of_ble_eq_true rfl)).trans ?_
        refine mj_bnd (fun q4 => ?_)
        exact sx_reti dx_98_121 rt_98
      · refine (sx_iload_n dx_98_122 rfl).trans ?_
        refine (sx_iload dx_98_123 rfl).trans ?_
        refine (sx_icmp_ge (tgt := 137) dx_98_125 (by decide)).trans ?_
        refine mj_ite ?_ ?_
        · refine (sx_aload_n dx_98_128 rfl).trans ?_
          refine (sx_gfr dx_98_129 ow_98 fx_6_58 oc_0 rb_0_8).trans ?_
          refine (sx_iload_n dx_98_132 rfl).trans ?_
          refine (sx_ild dx_98_133 (by decide) ia_37).trans ?_
          refine mj_ite ?_ rfl
          refine (sx_goto (tgt := 139) dx_98_134 (by decide)).trans ?_
          exact sx_reti dx_98_139 rt_98
        · refine (sx_bipush (v := (-4)) dx_98_137 rfl).trans ?_
          exact sx_reti dx_98_139 rt_98
theorem dx_99_0 : mj_at 99 0 = some (.aload_n 0) := by decide +kernel
theorem dx_99_1 : mj_at 99 1 = some (.getfield 41) := by decide +kernel
theorem dx_99_4 : mj_at 99 4 = some (.getfield 187) := by decide +kernel
theorem dx_99_7 : mj_at 99 7 = some (.istore_n 2) := by decide +kernel
theorem dx_99_8 : mj_at 99 8 = some (.aload_n 0) := by decide +kernel
theorem dx_99_9 : mj_at 99 9 = some (.getfield 41) := by decide +kernel
theorem dx_99_12 : mj_at 99 12 = some (.getfield 188) := by decide +kernel
theorem dx_99_15 : mj_at 99 15 = some (.iconst 0) := by decide +kernel
theorem dx_99_16 : mj_at 99 16 = some (.aload_n 0) := by decide +kernel
theorem dx_99_17 : mj_at 99 17 = some (.getfield 58) := by decide +kernel
theorem dx_99_20 : mj_at 99 20 = some (.iconst 0) := by decide +kernel
theorem dx_99_21 : mj_at 99 21 = some (.iload_n 2) := by decide +kernel
theorem dx_99_22 : mj_at 99 22 = some (.invokestatic 209) := by decide +kernel
theorem dx_99_25 : mj_at 99 25 = some (.iconst 0) := by decide +kernel
theorem dx_99_26 : mj_at 99 26 = some (.istore_n 3) := by decide +kernel
theorem dx_99_27 : mj_at 99 27 = some (.iload_n 3) := by decide +kernel
theorem dx_99_28 : mj_at 99 28 = some (.iload_n 1) := by decide +kernel
theorem dx_99_29 : mj_at 99 29 = some (.if_icmp .ge 105) := by decide +kernel
theorem dx_99_32 : mj_at 99 32 = some (.aload_n 0) := by decide +kernel
theorem dx_99_33 : mj_at 99 33 = some (.getfield 34) := by decide +kernel
theorem dx_99_36 : mj_at 99 36 = some (.iload_n 3) := by decide +kernel
theorem dx_99_37 : mj_at 99 37 = some (.invokevirtual 200) := by decide +kernel
theorem dx_99_40 : mj_at 99 40 = some (.istore 4) := by decide +kernel
theorem dx_99_42 : mj_at 99 42 = some (.iconst 0) := by decide +kernel
theorem dx_99_43 : mj_at 99 43 = some (.istore 5) := by decide +kernel
theorem dx_99_45 : mj_at 99 45 = some (.iconst 0) := by decide +kernel
theorem dx_99_46 : mj_at 99 46 = some (.istore 6) := by decide +kernel
theorem dx_99_48 : mj_at 99 48 = some (.iload 6) := by decide +kernel
theorem dx_99_50 : mj_at 99 50 = some (.iload_n 2) := by decide +kernel
theorem dx_99_51 : mj_at 99 51 = some (.if_icmp .ge 74) := by decide +kernel
theorem dx_99_54 : mj_at 99 54 = some (.aload_n 0) := by decide +kernel
theorem dx_99_55 : mj_at 99 55 = some (.getfield 58) := by decide +kernel
theorem dx_99_58 : mj_at 99 58 = some (.iload 6) := by decide +kernel
theorem dx_99_60 : mj_at 99 60 = some (.iaload) := by decide +kernel
theorem dx_99_61 : mj_at 99 61 = some (.istore 7) := by decide +kernel
theorem dx_99_63 : mj_at 99 63 = some (.aload_n 0) := by decide +kernel
theorem dx_99_64 : mj_at 99 64 = some (.getfield 10) := by decide +kernel
theorem dx_99_67 : mj_at 99 67 = some (.iload 7) := by decide +kernel
theorem dx_99_69 : mj_at 99 69 = some (.invokevirtual 88) := by decide +kernel
theorem dx_99_72 : mj_at 99 72 = some (.ifCond .eq 24) := by decide +kernel
theorem dx_99_75 : mj_at 99 75 = some (.aload_n 0) := by decide +kernel
theorem dx_99_76 : mj_at 99 76 = some (.getfield 10) := by decide +kernel
theorem dx_99_79 : mj_at 99 79 = some (.aload_n 0) := by decide +kernel
theorem dx_99_80 : mj_at 99 80 = some (.getfield 21) := by decide +kernel
theorem dx_99_83 : mj_at 99 83 = some (.iload 4) := by decide +kernel
theorem dx_99_85 : mj_at 99 85 = some (.iload 7) := by decide +kernel
theorem dx_99_87 : mj_at 99 87 = some (.invokevirtual 172) := by decide +kernel
theorem dx_99_90 : mj_at 99 90 = some (.invokevirtual 175) := by decide +kernel
theorem dx_99_93 : mj_at 99 93 = some (.goto 5) := by decide +kernel
theorem dx_99_96 : mj_at 99 96 = some (.bipush (-2)) := by decide +kernel
theorem dx_99_98 : mj_at 99 98 = some (.istore 8) := by decide +kernel
theorem dx_99_100 : mj_at 99 100 = some (.iload 8) := by decide +kernel
theorem dx_99_102 : mj_at 99 102 = some (.bipush (-2)) := by decide +kernel
theorem dx_99_104 : mj_at 99 104 = some (.if_icmp .eq 15) := by decide +kernel
theorem dx_99_107 : mj_at 99 107 = some (.aload_n 0) := by decide +kernel
theorem dx_99_108 : mj_at 99 108 = some (.getfield 58) := by decide +kernel
theorem dx_99_111 : mj_at 99 111 = some (.iload 5) := by decide +kernel
theorem dx_99_113 : mj_at 99 113 = some (.iload 8) := by decide +kernel
theorem dx_99_115 : mj_at 99 115 = some (.iastore) := by decide +kernel
theorem dx_99_116 : mj_at 99 116 = some (.iinc 5 1) := by decide +kernel
theorem dx_99_119 : mj_at 99 119 = some (.iinc 6 1) := by decide +kernel
theorem dx_99_122 : mj_at 99 122 = some (.goto (-74)) := by decide +kernel
theorem dx_99_125 : mj_at 99 125 = some (.iload 5) := by decide +kernel
theorem dx_99_127 : mj_at 99 127 = some (.istore_n 2) := by decide +kernel
theorem dx_99_128 : mj_at 99 128 = some (.iinc 3 1) := by decide +kernel
theorem dx_99_131 : mj_at 99 131 = some (.goto (-104)) := by decide +kernel
theorem dx_99_134 : mj_at 99 134 = some (.iload_n 2) := by decide +kernel
theorem dx_99_135 : mj_at 99 135 = some (.ireturn) := by decide +kernel
set_option maxRecDepth 10000 in
theorem b_X8_copyAlong {sl d : Nat} {M : mj_M} {x1 : Int32}  : mj_C sl (d + 1) 99 [.ref 0, .int x1] M = if ¬ (0 : Int32) < 0 ∧ ¬ (0 : Int32) < 0 ∧ ¬ (M 23 4 : Int32) < 0 ∧ (0 : Int32).toNatClampNeg + (M 23 4 : Int32).toNatClampNeg ≤ 60 ∧ (0 : Int32).toNatClampNeg + (M 23 4 : Int32).toNatClampNeg ≤ 60 then (mj_E sl (d + 1) 99 27 [.ref 0, .int x1, .int (M 23 4), .int 0, .null, .null, .null, .null, .null] [] (mj_cp M 24 37 (0 : Int32).toNatClampNeg (0 : Int32).toNatClampNeg (M 23 4 : Int32).toNatClampNeg)) else none := by
  show mj_E sl (d + 1) 99 0 [.ref 0, .int x1, .null, .null, .null, .null, .null, .null, .null] [] M = _
  refine (sx_aload_n dx_99_0 rfl).trans ?_
  refine (sx_gfr dx_99_1 ow_99 fx_6_41 oc_0 rb_0_5).trans ?_
  refine (sx_gfi dx_99_4 ow_99 fx_6_187 (by decide) oc_23).trans ?_
  refine (sx_istore_n dx_99_7 (Nat.le_of_ble_eq_true rfl) rfl).trans ?_
  refine (sx_aload_n dx_99_8 rfl).trans ?_
  refine (sx_gfr dx_99_9 ow_99 fx_6_41 oc_0 rb_0_5).trans ?_
  refine (sx_gfr dx_99_12 ow_99 fx_6_188 oc_23 rb_23_0).trans ?_
  refine (sx_iconst (v := 0) dx_99_15 rfl).trans ?_
  refine (sx_aload_n dx_99_16 rfl).trans ?_
  refine (sx_gfr dx_99_17 ow_99 fx_6_58 oc_0 rb_0_8).trans ?_
  refine (sx_iconst (v := 0) dx_99_20 rfl).trans ?_
  refine (sx_iload_n dx_99_21 rfl).trans ?_
  refine (sx_acp dx_99_22 ow_99 cx3_6_209 ia_24 ia_37 (by decide) (by decide) (Nat.le_of_ble_eq_true rfl)).trans ?_
  refine mj_ite ?_ rfl
  refine (sx_iconst (v := 0) dx_99_25 rfl).trans ?_
  refine (sx_istore_n dx_99_26 (Nat.le_of_ble_eq_true rfl) rfl).trans ?_
  rfl
set_option maxRecDepth 10000 in
theorem b_X8_copyAlong_27 {sl d : Nat} {M : mj_M} {y1 : Int32} {y2 : Int32} {y3 : Int32} {w4 : Value} {w5 : Value} {w6 : Value} {w7 : Value} {w8 : Value}  : mj_E sl (d + 1) 99 27 [.ref 0, .int y1, .int y2, .int y3, w4, w5, w6, w7, w8] [] M = if y3 < y1 then ((mj_C sl d 76 [.ref 21, .int y3] M).bind (fun q1 => mj_E sl (d + 1) 99 48 [.ref 0, .int y1, .int y2, .int y3, .int q1.1, .int 0, .int 0, w7, w8] [] q1.2)) else (some ((y2 : Int32), M)) := by
  refine (sx_iload_n dx_99_27 rfl).trans ?_
  refine (sx_iload_n dx_99_28 rfl).trans ?_
  refine (sx_icmp_ge (tgt := 134) dx_99_29 (by decide)).trans ?_
  refine mj_ite ?_ ?_
  · refine (sx_aload_n dx_99_32 rfl).trans ?_
    refine (sx_gfr dx_99_33 ow_99 fx_6_34 oc_0 rb_0_4).trans ?_
    refine (sx_iload_n dx_99_36 rfl).trans ?_
    refine (sx_v1i dx_99_37 ow_99 cx_6_200 oc_21 (Nat.le_of_ble_eq_true rfl)).trans ?_
    refine mj_bnd (fun q1 => ?_)
    refine (sx_istore dx_99_40 (Nat.le_of_ble_eq_true rfl) rfl).trans ?_
    refine (sx_iconst (v := 0) dx_99_42 rfl).trans ?_
    refine (sx_istore dx_99_43 (Nat.le_of_ble_eq_true rfl) rfl).trans ?_
    refine (sx_iconst (v := 0) dx_99_45 rfl).trans ?_
    refine (sx_istore dx_99_46 (Nat.le_of_ble_eq_true rfl) rfl).trans ?_
    rfl
  · refine (sx_iload_n dx_99_134 rfl).trans ?_
    exact sx_reti dx_99_135 rt_99
set_option maxRecDepth 10000 in
theorem b_X8_copyAlong_48 {sl d : Nat} {M : mj_M} {y1 : Int32} {y2 : Int32} {y3 : Int32} {y4 : Int32} {y5 : Int32} {y6 : Int32} {w7 : Value} {w8 : Value}  : mj_E sl (d + 1) 99 48 [.ref 0, .int y1, .int y2, .int y3, .int y4, .int y5, .int y6, w7, w8] [] M = if y6 < y2 then (if mj_inB y6 60 = true then ((mj_C sl d 62 [.ref 1, .int (M 37 (y6 : Int32).toNatClampNeg)] M).bind (fun q1 => if q1.1 = 0 then (mj_E sl (d + 1) 99 48 [.ref 0, .int y1, .int y2, .int y3, .int y4, .int y5, .int (y6 + 1), .int (M 37 (y6 : Int32).toNatClampNeg), .int (-2)] [] q1.2) else ((mj_C sl d 8 [.ref 3, .int y4, .int (M 37 (y6 : Int32).toNatClampNeg)] q1.2).bind (fun q2 => (mj_C sl d 64 [.ref 1, .int q2.1] q2.2).bind (fun q3 => if q3.1 = (-2) then (mj_E sl (d + 1) 99 48 [.ref 0, .int y1, .int y2, .int y3, .int y4, .int y5, .int (y6 + 1), .int (M 37 (y6 : Int32).toNatClampNeg), .int q3.1] [] q3.2) else (if mj_inB y5 60 = true then (mj_E sl (d + 1) 99 48 [.ref 0, .int y1, .int y2, .int y3, .int y4, .int (y5 + 1), .int (y6 + 1), .int (M 37 (y6 : Int32).toNatClampNeg), .int q3.1] [] (mj_st q3.2 37 (y5 : Int32).toNatClampNeg q3.1)) else none)))))) else none) else (mj_E sl (d + 1) 99 27 [.ref 0, .int y1, .int y5, .int (y3 + 1), .int y4, .int y5, .int y6, w7, w8] [] M) := by
  refine (sx_iload dx_99_48 rfl).trans ?_
  refine (sx_iload_n dx_99_50 rfl).trans ?_
  refine (sx_icmp_ge (tgt := 125) dx_99_51 (by decide)).trans ?_
  refine mj_ite ?_ ?_
  · refine (sx_aload_n dx_99_54 rfl).trans ?_
    refine (sx_gfr dx_99_55 ow_99 fx_6_58 oc_0 rb_0_8).trans ?_
    refine (sx_iload dx_99_58 rfl).trans ?_
    refine (sx_ild dx_99_60 (by decide) ia_37).trans ?_
    refine mj_ite ?_ rfl
    refine (sx_istore dx_99_61 (Nat.le_of_ble_eq_true rfl) rfl).trans ?_
    refine (sx_aload_n dx_99_63 rfl).trans ?_
    refine (sx_gfr dx_99_64 ow_99 fx_6_10 oc_0 rb_0_0).trans ?_
    refine (sx_iload dx_99_67 rfl).trans ?_
    refine (sx_v1i dx_99_69 ow_99 cx_6_88 oc_1 (Nat.le_of_ble_eq_true rfl)).trans ?_
    refine mj_bnd (fun q1 => ?_)
    refine (sx_if_eq (tgt := 96) dx_99_72 (by decide)).trans ?_
    refine mj_ite ?_ ?_
    · refine (sx_bipush (v := (-2)) dx_99_96 rfl).trans ?_
      refine (sx_istore dx_99_98 (Nat.le_of_ble_eq_true rfl) rfl).trans ?_
      refine (sx_iload dx_99_100 rfl).trans ?_
      refine (sx_bipush (v := (-2)) dx_99_102 rfl).trans ?_
      refine (sx_icmp_eq_t (tgt := 119) dx_99_104 (by decide) (by decide)).trans ?_
      refine (sx_iinc (v := 1) dx_99_119 rfl rfl rfl).trans ?_
      refine (sx_goto (tgt := 48) dx_99_122 (by decide)).trans ?_
      rfl
    · refine (sx_aload_n dx_99_75 rfl).trans ?_
      refine (sx_gfr dx_99_76 ow_99 fx_6_10 oc_0 rb_0_0).trans ?_
      refine (sx_aload_n dx_99_79 rfl).trans ?_
      refine (sx_gfr dx_99_80 ow_99 fx_6_21 oc_0 rb_0_1).trans ?_
      refine (sx_iload dx_99_83 rfl).trans ?_
      refine (sx_iload dx_99_85 rfl).trans ?_
      refine (sx_v2i dx_99_87 ow_99 cx_6_172 oc_3 (Nat.le_of_ble_eq_true rfl)).trans ?_
      refine mj_bnd (fun q2 => ?_)
      refine (sx_v1i dx_99_90 ow_99 cx_6_175 oc_1 (Nat.le_of_ble_eq_true rfl)).trans ?_
      refine mj_bnd (fun q3 => ?_)
      refine (sx_goto (tgt := 98) dx_99_93 (by decide)).trans ?_
      refine (sx_istore dx_99_98 (Nat.le_of_ble_eq_true rfl) rfl).trans ?_
      refine (sx_iload dx_99_100 rfl).trans ?_
      refine (sx_bipush (v := (-2)) dx_99_102 rfl).trans ?_
      refine (sx_icmp_eq (tgt := 119) dx_99_104 (by decide)).trans ?_
      refine mj_ite ?_ ?_
      · refine (sx_iinc (v := 1) dx_99_119 rfl rfl rfl).trans ?_
        refine (sx_goto (tgt := 48) dx_99_122 (by decide)).trans ?_
        rfl
      · refine (sx_aload_n dx_99_107 rfl).trans ?_
        refine (sx_gfr dx_99_108 ow_99 fx_6_58 oc_0 rb_0_8).trans ?_
        refine (sx_iload dx_99_111 rfl).trans ?_
        refine (sx_iload dx_99_113 rfl).trans ?_
        refine (sx_ist dx_99_115 ia_37).trans ?_
        refine mj_ite ?_ rfl
        refine (sx_iinc (v := 1) dx_99_116 rfl rfl rfl).trans ?_
        refine (sx_iinc (v := 1) dx_99_119 rfl rfl rfl).trans ?_
        refine (sx_goto (tgt := 48) dx_99_122 (by decide)).trans ?_
        rfl
  · refine (sx_iload dx_99_125 rfl).trans ?_
    refine (sx_istore_n dx_99_127 (Nat.le_of_ble_eq_true rfl) rfl).trans ?_
    refine (sx_iinc (v := 1) dx_99_128 rfl rfl rfl).trans ?_
    refine (sx_goto (tgt := 27) dx_99_131 (by decide)).trans ?_
    rfl
theorem dx_100_0 : mj_at 100 0 = some (.iconst 0) := by decide +kernel
theorem dx_100_1 : mj_at 100 1 = some (.istore_n 2) := by decide +kernel
theorem dx_100_2 : mj_at 100 2 = some (.iconst 0) := by decide +kernel
theorem dx_100_3 : mj_at 100 3 = some (.istore_n 3) := by decide +kernel
theorem dx_100_4 : mj_at 100 4 = some (.iload_n 3) := by decide +kernel
theorem dx_100_5 : mj_at 100 5 = some (.iload_n 1) := by decide +kernel
theorem dx_100_6 : mj_at 100 6 = some (.if_icmp .ge 30) := by decide +kernel
theorem dx_100_9 : mj_at 100 9 = some (.aload_n 0) := by decide +kernel
theorem dx_100_10 : mj_at 100 10 = some (.getfield 58) := by decide +kernel
theorem dx_100_13 : mj_at 100 13 = some (.iload_n 3) := by decide +kernel
theorem dx_100_14 : mj_at 100 14 = some (.iaload) := by decide +kernel
theorem dx_100_15 : mj_at 100 15 = some (.aload_n 0) := by decide +kernel
theorem dx_100_16 : mj_at 100 16 = some (.getfield 41) := by decide +kernel
theorem dx_100_19 : mj_at 100 19 = some (.getfield 188) := by decide +kernel
theorem dx_100_22 : mj_at 100 22 = some (.iload_n 3) := by decide +kernel
theorem dx_100_23 : mj_at 100 23 = some (.iaload) := by decide +kernel
theorem dx_100_24 : mj_at 100 24 = some (.if_icmp .ne 6) := by decide +kernel
theorem dx_100_27 : mj_at 100 27 = some (.iinc 2 1) := by decide +kernel
theorem dx_100_30 : mj_at 100 30 = some (.iinc 3 1) := by decide +kernel
theorem dx_100_33 : mj_at 100 33 = some (.goto (-29)) := by decide +kernel
theorem dx_100_36 : mj_at 100 36 = some (.iload_n 2) := by decide +kernel
theorem dx_100_37 : mj_at 100 37 = some (.ireturn) := by decide +kernel
set_option maxRecDepth 10000 in
theorem b_X8_placesAsTheyWere {sl d : Nat} {M : mj_M} {x1 : Int32}  : mj_C sl d 100 [.ref 0, .int x1] M = mj_E sl d 100 4 [.ref 0, .int x1, .int 0, .int 0] [] M := by
  show mj_E sl d 100 0 [.ref 0, .int x1, .null, .null] [] M = _
  refine (sx_iconst (v := 0) dx_100_0 rfl).trans ?_
  refine (sx_istore_n dx_100_1 (Nat.le_of_ble_eq_true rfl) rfl).trans ?_
  refine (sx_iconst (v := 0) dx_100_2 rfl).trans ?_
  refine (sx_istore_n dx_100_3 (Nat.le_of_ble_eq_true rfl) rfl).trans ?_
  rfl
set_option maxRecDepth 10000 in
theorem b_X8_placesAsTheyWere_4 {sl d : Nat} {M : mj_M} {y1 : Int32} {y2 : Int32} {y3 : Int32}  : mj_E sl d 100 4 [.ref 0, .int y1, .int y2, .int y3] [] M = if y3 < y1 then (if mj_inB y3 60 = true then (if mj_inB y3 60 = true then (if M 37 (y3 : Int32).toNatClampNeg = (M 24 (y3 : Int32).toNatClampNeg) then (mj_E sl d 100 4 [.ref 0, .int y1, .int (y2 + 1), .int (y3 + 1)] [] M) else (mj_E sl d 100 4 [.ref 0, .int y1, .int y2, .int (y3 + 1)] [] M)) else none) else none) else (some ((y2 : Int32), M)) := by
  refine (sx_iload_n dx_100_4 rfl).trans ?_
  refine (sx_iload_n dx_100_5 rfl).trans ?_
  refine (sx_icmp_ge (tgt := 36) dx_100_6 (by decide)).trans ?_
  refine mj_ite ?_ ?_
  · refine (sx_aload_n dx_100_9 rfl).trans ?_
    refine (sx_gfr dx_100_10 ow_100 fx_6_58 oc_0 rb_0_8).trans ?_
    refine (sx_iload_n dx_100_13 rfl).trans ?_
    refine (sx_ild dx_100_14 (by decide) ia_37).trans ?_
    refine mj_ite ?_ rfl
    refine (sx_aload_n dx_100_15 rfl).trans ?_
    refine (sx_gfr dx_100_16 ow_100 fx_6_41 oc_0 rb_0_5).trans ?_
    refine (sx_gfr dx_100_19 ow_100 fx_6_188 oc_23 rb_23_0).trans ?_
    refine (sx_iload_n dx_100_22 rfl).trans ?_
    refine (sx_ild dx_100_23 (by decide) ia_24).trans ?_
    refine mj_ite ?_ rfl
    refine (sx_icmp_ne (tgt := 30) dx_100_24 (by decide)).trans ?_
    refine mj_ite ?_ ?_
    · refine (sx_iinc (v := 1) dx_100_27 rfl rfl rfl).trans ?_
      refine (sx_iinc (v := 1) dx_100_30 rfl rfl rfl).trans ?_
      refine (sx_goto (tgt := 4) dx_100_33 (by decide)).trans ?_
      rfl
    · refine (sx_iinc (v := 1) dx_100_30 rfl rfl rfl).trans ?_
      refine (sx_goto (tgt := 4) dx_100_33 (by decide)).trans ?_
      rfl
  · refine (sx_iload_n dx_100_36 rfl).trans ?_
    exact sx_reti dx_100_37 rt_100
theorem dx_101_0 : mj_at 101 0 = some (.iload_n 1) := by decide +kernel
theorem dx_101_1 : mj_at 101 1 = some (.invokestatic 72) := by decide +kernel
theorem dx_101_4 : mj_at 101 4 = some (.ifCond .eq 23) := by decide +kernel
theorem dx_101_7 : mj_at 101 7 = some (.aload_n 0) := by decide +kernel
theorem dx_101_8 : mj_at 101 8 = some (.getfield 10) := by decide +kernel
theorem dx_101_11 : mj_at 101 11 = some (.iload_n 2) := by decide +kernel
theorem dx_101_12 : mj_at 101 12 = some (.invokevirtual 88) := by decide +kernel
theorem dx_101_15 : mj_at 101 15 = some (.ifCond .eq 12) := by decide +kernel
theorem dx_101_18 : mj_at 101 18 = some (.iload_n 3) := by decide +kernel
theorem dx_101_19 : mj_at 101 19 = some (.ifCond .lt 8) := by decide +kernel
theorem dx_101_22 : mj_at 101 22 = some (.iload_n 3) := by decide +kernel
theorem dx_101_23 : mj_at 101 23 = some (.iconst 1) := by decide +kernel
theorem dx_101_24 : mj_at 101 24 = some (.if_icmp .le 5) := by decide +kernel
theorem dx_101_27 : mj_at 101 27 = some (.iconst (-1)) := by decide +kernel
theorem dx_101_28 : mj_at 101 28 = some (.ireturn) := by decide +kernel
theorem dx_101_29 : mj_at 101 29 = some (.aload_n 0) := by decide +kernel
theorem dx_101_30 : mj_at 101 30 = some (.iload_n 1) := by decide +kernel
theorem dx_101_31 : mj_at 101 31 = some (.iload_n 2) := by decide +kernel
theorem dx_101_32 : mj_at 101 32 = some (.invokevirtual 215) := by decide +kernel
theorem dx_101_35 : mj_at 101 35 = some (.istore 4) := by decide +kernel
theorem dx_101_37 : mj_at 101 37 = some (.iload 4) := by decide +kernel
theorem dx_101_39 : mj_at 101 39 = some (.bipush (-2)) := by decide +kernel
theorem dx_101_41 : mj_at 101 41 = some (.if_icmp .eq 8) := by decide +kernel
theorem dx_101_44 : mj_at 101 44 = some (.iload_n 3) := by decide +kernel
theorem dx_101_45 : mj_at 101 45 = some (.iconst 1) := by decide +kernel
theorem dx_101_46 : mj_at 101 46 = some (.if_icmp .ne 8) := by decide +kernel
theorem dx_101_49 : mj_at 101 49 = some (.iload 4) := by decide +kernel
theorem dx_101_51 : mj_at 101 51 = some (.goto 8) := by decide +kernel
theorem dx_101_54 : mj_at 101 54 = some (.iload 4) := by decide +kernel
theorem dx_101_56 : mj_at 101 56 = some (.invokestatic 195) := by decide +kernel
theorem dx_101_59 : mj_at 101 59 = some (.ireturn) := by decide +kernel
set_option maxRecDepth 10000 in
theorem b_X8_another {sl d : Nat} {M : mj_M} {x1 : Int32} {x2 : Int32} {x3 : Int32}  : mj_C sl (d + 1) 101 [.ref 0, .int x1, .int x2, .int x3] M = (mj_C sl d 20 [.int x1] M).bind (fun q1 => if q1.1 = 0 then (some (((-1) : Int32), q1.2)) else ((mj_C sl d 62 [.ref 1, .int x2] q1.2).bind (fun q2 => if q2.1 = 0 then (some (((-1) : Int32), q2.2)) else (if x3 < 0 then (some (((-1) : Int32), q2.2)) else (if x3 ≤ 1 then ((mj_C sl d 102 [.ref 0, .int x1, .int x2] q2.2).bind (fun q3 => if q3.1 = (-2) then (some ((q3.1 : Int32), q3.2)) else (if x3 = 1 then (some ((q3.1 : Int32), q3.2)) else ((mj_C sl d 229 [.int q3.1] q3.2).bind (fun q4 => some ((q4.1 : Int32), q4.2)))))) else (some (((-1) : Int32), q2.2))))))) := by
  show mj_E sl (d + 1) 101 0 [.ref 0, .int x1, .int x2, .int x3, .null] [] M = _
  refine (sx_iload_n dx_101_0 rfl).trans ?_
  refine (sx_s1i dx_101_1 ow_101 cx_6_72 (Nat.le_of_ble_eq_true rfl)).trans ?_
  refine mj_bnd (fun q1 => ?_)
  refine (sx_if_eq (tgt := 27) dx_101_4 (by decide)).trans ?_
  refine mj_ite ?_ ?_
  · refine (sx_iconst (v := (-1)) dx_101_27 rfl).trans ?_
    exact sx_reti dx_101_28 rt_101
  · refine (sx_aload_n dx_101_7 rfl).trans ?_
    refine (sx_gfr dx_101_8 ow_101 fx_6_10 oc_0 rb_0_0).trans ?_
    refine (sx_iload_n dx_101_11 rfl).trans ?_
    refine (sx_v1i dx_101_12 ow_101 cx_6_88 oc_1 (Nat.le_of_ble_eq_true rfl)).trans ?_
    refine mj_bnd (fun q2 => ?_)
    refine (sx_if_eq (tgt := 27) dx_101_15 (by decide)).trans ?_
    refine mj_ite ?_ ?_
    · refine (sx_iconst (v := (-1)) dx_101_27 rfl).trans ?_
      exact sx_reti dx_101_28 rt_101
    · refine (sx_iload_n dx_101_18 rfl).trans ?_
      refine (sx_if_lt (tgt := 27) dx_101_19 (by decide)).trans ?_
      refine mj_ite ?_ ?_
      · refine (sx_iconst (v := (-1)) dx_101_27 rfl).trans ?_
        exact sx_reti dx_101_28 rt_101
      · refine (sx_iload_n dx_101_22 rfl).trans ?_
        refine (sx_iconst (v := 1) dx_101_23 rfl).trans ?_
        refine (sx_icmp_le (tgt := 29) dx_101_24 (by decide)).trans ?_
        refine mj_ite ?_ ?_
        · refine (sx_aload_n dx_101_29 rfl).trans ?_
          refine (sx_iload_n dx_101_30 rfl).trans ?_
          refine (sx_iload_n dx_101_31 rfl).trans ?_
          refine (sx_v2i dx_101_32 ow_101 cx_6_215 oc_0 (Nat.le_of_ble_eq_true rfl)).trans ?_
          refine mj_bnd (fun q3 => ?_)
          refine (sx_istore dx_101_35 (Nat.le_of_ble_eq_true rfl) rfl).trans ?_
          refine (sx_iload dx_101_37 rfl).trans ?_
          refine (sx_bipush (v := (-2)) dx_101_39 rfl).trans ?_
          refine (sx_icmp_eq (tgt := 49) dx_101_41 (by decide)).trans ?_
          refine mj_ite ?_ ?_
          · refine (sx_iload dx_101_49 rfl).trans ?_
            refine (sx_goto (tgt := 59) dx_101_51 (by decide)).trans ?_
            exact sx_reti dx_101_59 rt_101
          · refine (sx_iload_n dx_101_44 rfl).trans ?_
            refine (sx_iconst (v := 1) dx_101_45 rfl).trans ?_
            refine (sx_icmp_ne (tgt := 54) dx_101_46 (by decide)).trans ?_
            refine mj_ite ?_ ?_
            · refine (sx_iload dx_101_49 rfl).trans ?_
              refine (sx_goto (tgt := 59) dx_101_51 (by decide)).trans ?_
              exact sx_reti dx_101_59 rt_101
            · refine (sx_iload dx_101_54 rfl).trans ?_
              refine (sx_s1i dx_101_56 ow_101 cx_6_195 (Nat.le_of_ble_eq_true rfl)).trans ?_
              refine mj_bnd (fun q4 => ?_)
              exact sx_reti dx_101_59 rt_101
        · refine (sx_iconst (v := (-1)) dx_101_27 rfl).trans ?_
          exact sx_reti dx_101_28 rt_101
theorem dx_102_0 : mj_at 102 0 = some (.aload_n 0) := by decide +kernel
theorem dx_102_1 : mj_at 102 1 = some (.getfield 10) := by decide +kernel
theorem dx_102_4 : mj_at 102 4 = some (.iload_n 1) := by decide +kernel
theorem dx_102_5 : mj_at 102 5 = some (.iload_n 2) := by decide +kernel
theorem dx_102_6 : mj_at 102 6 = some (.invokevirtual 218) := by decide +kernel
theorem dx_102_9 : mj_at 102 9 = some (.istore_n 3) := by decide +kernel
theorem dx_102_10 : mj_at 102 10 = some (.iload_n 3) := by decide +kernel
theorem dx_102_11 : mj_at 102 11 = some (.ifCond .ge 5) := by decide +kernel
theorem dx_102_14 : mj_at 102 14 = some (.iconst 0) := by decide +kernel
theorem dx_102_15 : mj_at 102 15 = some (.ireturn) := by decide +kernel
theorem dx_102_16 : mj_at 102 16 = some (.iload_n 3) := by decide +kernel
theorem dx_102_17 : mj_at 102 17 = some (.iconst 2) := by decide +kernel
theorem dx_102_18 : mj_at 102 18 = some (.idiv) := by decide +kernel
theorem dx_102_19 : mj_at 102 19 = some (.iconst 1) := by decide +kernel
theorem dx_102_20 : mj_at 102 20 = some (.iadd) := by decide +kernel
theorem dx_102_21 : mj_at 102 21 = some (.istore 4) := by decide +kernel
theorem dx_102_23 : mj_at 102 23 = some (.iload 4) := by decide +kernel
theorem dx_102_25 : mj_at 102 25 = some (.iconst 3) := by decide +kernel
theorem dx_102_26 : mj_at 102 26 = some (.if_icmp .gt 29) := by decide +kernel
theorem dx_102_29 : mj_at 102 29 = some (.aload_n 0) := by decide +kernel
theorem dx_102_30 : mj_at 102 30 = some (.iload_n 1) := by decide +kernel
theorem dx_102_31 : mj_at 102 31 = some (.iload_n 2) := by decide +kernel
theorem dx_102_32 : mj_at 102 32 = some (.iload 4) := by decide +kernel
theorem dx_102_34 : mj_at 102 34 = some (.invokevirtual 221) := by decide +kernel
theorem dx_102_37 : mj_at 102 37 = some (.istore 5) := by decide +kernel
theorem dx_102_39 : mj_at 102 39 = some (.iload 5) := by decide +kernel
theorem dx_102_41 : mj_at 102 41 = some (.bipush (-2)) := by decide +kernel
theorem dx_102_43 : mj_at 102 43 = some (.if_icmp .eq 6) := by decide +kernel
theorem dx_102_46 : mj_at 102 46 = some (.iload 5) := by decide +kernel
theorem dx_102_48 : mj_at 102 48 = some (.ireturn) := by decide +kernel
theorem dx_102_49 : mj_at 102 49 = some (.iinc 4 1) := by decide +kernel
theorem dx_102_52 : mj_at 102 52 = some (.goto (-29)) := by decide +kernel
theorem dx_102_55 : mj_at 102 55 = some (.bipush (-2)) := by decide +kernel
theorem dx_102_57 : mj_at 102 57 = some (.ireturn) := by decide +kernel
set_option maxRecDepth 10000 in
theorem b_X8_fewestDots {sl d : Nat} {M : mj_M} {x1 : Int32} {x2 : Int32}  : mj_C sl (d + 1) 102 [.ref 0, .int x1, .int x2] M = (mj_C sl d 65 [.ref 1, .int x1, .int x2] M).bind (fun q1 => if q1.1 < 0 then (some ((0 : Int32), q1.2)) else (mj_E sl (d + 1) 102 23 [.ref 0, .int x1, .int x2, .int q1.1, .int ((q1.1 / 2) + 1), .null] [] q1.2)) := by
  show mj_E sl (d + 1) 102 0 [.ref 0, .int x1, .int x2, .null, .null, .null] [] M = _
  refine (sx_aload_n dx_102_0 rfl).trans ?_
  refine (sx_gfr dx_102_1 ow_102 fx_6_10 oc_0 rb_0_0).trans ?_
  refine (sx_iload_n dx_102_4 rfl).trans ?_
  refine (sx_iload_n dx_102_5 rfl).trans ?_
  refine (sx_v2i dx_102_6 ow_102 cx_6_218 oc_1 (Nat.le_of_ble_eq_true rfl)).trans ?_
  refine mj_bnd (fun q1 => ?_)
  refine (sx_istore_n dx_102_9 (Nat.le_of_ble_eq_true rfl) rfl).trans ?_
  refine (sx_iload_n dx_102_10 rfl).trans ?_
  refine (sx_if_ge (tgt := 16) dx_102_11 (by decide)).trans ?_
  refine mj_ite ?_ ?_
  · refine (sx_iconst (v := 0) dx_102_14 rfl).trans ?_
    exact sx_reti dx_102_15 rt_102
  · refine (sx_iload_n dx_102_16 rfl).trans ?_
    refine (sx_iconst (v := 2) dx_102_17 rfl).trans ?_
    refine (sx_idiv dx_102_18 (by decide)).trans ?_
    refine (sx_iconst (v := 1) dx_102_19 rfl).trans ?_
    refine (sx_iadd dx_102_20).trans ?_
    refine (sx_istore dx_102_21 (Nat.le_of_ble_eq_true rfl) rfl).trans ?_
    rfl
set_option maxRecDepth 10000 in
theorem b_X8_fewestDots_23 {sl d : Nat} {M : mj_M} {y1 : Int32} {y2 : Int32} {w3 : Value} {y4 : Int32} {w5 : Value}  : mj_E sl (d + 1) 102 23 [.ref 0, .int y1, .int y2, w3, .int y4, w5] [] M = if y4 ≤ 3 then ((mj_C sl d 103 [.ref 0, .int y1, .int y2, .int y4] M).bind (fun q1 => if q1.1 = (-2) then (mj_E sl (d + 1) 102 23 [.ref 0, .int y1, .int y2, w3, .int (y4 + 1), .int q1.1] [] q1.2) else (some ((q1.1 : Int32), q1.2)))) else (some (((-2) : Int32), M)) := by
  refine (sx_iload dx_102_23 rfl).trans ?_
  refine (sx_iconst (v := 3) dx_102_25 rfl).trans ?_
  refine (sx_icmp_gt (tgt := 55) dx_102_26 (by decide)).trans ?_
  refine mj_ite ?_ ?_
  · refine (sx_aload_n dx_102_29 rfl).trans ?_
    refine (sx_iload_n dx_102_30 rfl).trans ?_
    refine (sx_iload_n dx_102_31 rfl).trans ?_
    refine (sx_iload dx_102_32 rfl).trans ?_
    refine (sx_v3i dx_102_34 ow_102 cx_6_221 oc_0 (Nat.le_of_ble_eq_true rfl)).trans ?_
    refine mj_bnd (fun q1 => ?_)
    refine (sx_istore dx_102_37 (Nat.le_of_ble_eq_true rfl) rfl).trans ?_
    refine (sx_iload dx_102_39 rfl).trans ?_
    refine (sx_bipush (v := (-2)) dx_102_41 rfl).trans ?_
    refine (sx_icmp_eq (tgt := 49) dx_102_43 (by decide)).trans ?_
    refine mj_ite ?_ ?_
    · refine (sx_iinc (v := 1) dx_102_49 rfl rfl rfl).trans ?_
      refine (sx_goto (tgt := 23) dx_102_52 (by decide)).trans ?_
      rfl
    · refine (sx_iload dx_102_46 rfl).trans ?_
      exact sx_reti dx_102_48 rt_102
  · refine (sx_bipush (v := (-2)) dx_102_55 rfl).trans ?_
    exact sx_reti dx_102_57 rt_102
theorem dx_103_0 : mj_at 103 0 = some (.iload_n 3) := by decide +kernel
theorem dx_103_1 : mj_at 103 1 = some (.iconst 1) := by decide +kernel
theorem dx_103_2 : mj_at 103 2 = some (.isub) := by decide +kernel
theorem dx_103_3 : mj_at 103 3 = some (.istore 4) := by decide +kernel
theorem dx_103_5 : mj_at 103 5 = some (.iload 4) := by decide +kernel
theorem dx_103_7 : mj_at 103 7 = some (.bipush 25) := by decide +kernel
theorem dx_103_9 : mj_at 103 9 = some (.if_icmp .ge 127) := by decide +kernel
theorem dx_103_12 : mj_at 103 12 = some (.iload_n 3) := by decide +kernel
theorem dx_103_13 : mj_at 103 13 = some (.iconst 1) := by decide +kernel
theorem dx_103_14 : mj_at 103 14 = some (.if_icmp .le 8) := by decide +kernel
theorem dx_103_17 : mj_at 103 17 = some (.iload 4) := by decide +kernel
theorem dx_103_19 : mj_at 103 19 = some (.goto 4) := by decide +kernel
theorem dx_103_22 : mj_at 103 22 = some (.iconst 1) := by decide +kernel
theorem dx_103_23 : mj_at 103 23 = some (.istore 5) := by decide +kernel
theorem dx_103_25 : mj_at 103 25 = some (.iconst 0) := by decide +kernel
theorem dx_103_26 : mj_at 103 26 = some (.istore 6) := by decide +kernel
theorem dx_103_28 : mj_at 103 28 = some (.iload 6) := by decide +kernel
theorem dx_103_30 : mj_at 103 30 = some (.iload 5) := by decide +kernel
theorem dx_103_32 : mj_at 103 32 = some (.if_icmp .ge 98) := by decide +kernel
theorem dx_103_35 : mj_at 103 35 = some (.iload_n 3) := by decide +kernel
theorem dx_103_36 : mj_at 103 36 = some (.iconst 2) := by decide +kernel
theorem dx_103_37 : mj_at 103 37 = some (.if_icmp .le 8) := by decide +kernel
theorem dx_103_40 : mj_at 103 40 = some (.iload 6) := by decide +kernel
theorem dx_103_42 : mj_at 103 42 = some (.goto 4) := by decide +kernel
theorem dx_103_45 : mj_at 103 45 = some (.iconst 1) := by decide +kernel
theorem dx_103_46 : mj_at 103 46 = some (.istore 7) := by decide +kernel
theorem dx_103_48 : mj_at 103 48 = some (.iconst 0) := by decide +kernel
theorem dx_103_49 : mj_at 103 49 = some (.istore 8) := by decide +kernel
theorem dx_103_51 : mj_at 103 51 = some (.iload 8) := by decide +kernel
theorem dx_103_53 : mj_at 103 53 = some (.iload 7) := by decide +kernel
theorem dx_103_55 : mj_at 103 55 = some (.if_icmp .ge 69) := by decide +kernel
theorem dx_103_58 : mj_at 103 58 = some (.iconst 1) := by decide +kernel
theorem dx_103_59 : mj_at 103 59 = some (.iload 4) := by decide +kernel
theorem dx_103_61 : mj_at 103 61 = some (.ishl) := by decide +kernel
theorem dx_103_62 : mj_at 103 62 = some (.istore 9) := by decide +kernel
theorem dx_103_64 : mj_at 103 64 = some (.iload 9) := by decide +kernel
theorem dx_103_66 : mj_at 103 66 = some (.iload_n 3) := by decide +kernel
theorem dx_103_67 : mj_at 103 67 = some (.iconst 1) := by decide +kernel
theorem dx_103_68 : mj_at 103 68 = some (.if_icmp .le 10) := by decide +kernel
theorem dx_103_71 : mj_at 103 71 = some (.iconst 1) := by decide +kernel
theorem dx_103_72 : mj_at 103 72 = some (.iload 6) := by decide +kernel
theorem dx_103_74 : mj_at 103 74 = some (.ishl) := by decide +kernel
theorem dx_103_75 : mj_at 103 75 = some (.goto 4) := by decide +kernel
theorem dx_103_78 : mj_at 103 78 = some (.iconst 0) := by decide +kernel
theorem dx_103_79 : mj_at 103 79 = some (.ior) := by decide +kernel
theorem dx_103_80 : mj_at 103 80 = some (.istore 9) := by decide +kernel
theorem dx_103_82 : mj_at 103 82 = some (.iload 9) := by decide +kernel
theorem dx_103_84 : mj_at 103 84 = some (.iload_n 3) := by decide +kernel
theorem dx_103_85 : mj_at 103 85 = some (.iconst 2) := by decide +kernel
theorem dx_103_86 : mj_at 103 86 = some (.if_icmp .le 10) := by decide +kernel
theorem dx_103_89 : mj_at 103 89 = some (.iconst 1) := by decide +kernel
theorem dx_103_90 : mj_at 103 90 = some (.iload 8) := by decide +kernel
theorem dx_103_92 : mj_at 103 92 = some (.ishl) := by decide +kernel
theorem dx_103_93 : mj_at 103 93 = some (.goto 4) := by decide +kernel
theorem dx_103_96 : mj_at 103 96 = some (.iconst 0) := by decide +kernel
theorem dx_103_97 : mj_at 103 97 = some (.ior) := by decide +kernel
theorem dx_103_98 : mj_at 103 98 = some (.istore 9) := by decide +kernel
theorem dx_103_100 : mj_at 103 100 = some (.aload_n 0) := by decide +kernel
theorem dx_103_101 : mj_at 103 101 = some (.getfield 10) := by decide +kernel
theorem dx_103_104 : mj_at 103 104 = some (.iload_n 1) := by decide +kernel
theorem dx_103_105 : mj_at 103 105 = some (.iload 9) := by decide +kernel
theorem dx_103_107 : mj_at 103 107 = some (.ixor) := by decide +kernel
theorem dx_103_108 : mj_at 103 108 = some (.invokevirtual 175) := by decide +kernel
theorem dx_103_111 : mj_at 103 111 = some (.iload_n 2) := by decide +kernel
theorem dx_103_112 : mj_at 103 112 = some (.if_icmp .ne 6) := by decide +kernel
theorem dx_103_115 : mj_at 103 115 = some (.iload 9) := by decide +kernel
theorem dx_103_117 : mj_at 103 117 = some (.ireturn) := by decide +kernel
theorem dx_103_118 : mj_at 103 118 = some (.iinc 8 1) := by decide +kernel
theorem dx_103_121 : mj_at 103 121 = some (.goto (-70)) := by decide +kernel
theorem dx_103_124 : mj_at 103 124 = some (.iinc 6 1) := by decide +kernel
theorem dx_103_127 : mj_at 103 127 = some (.goto (-99)) := by decide +kernel
theorem dx_103_130 : mj_at 103 130 = some (.iinc 4 1) := by decide +kernel
theorem dx_103_133 : mj_at 103 133 = some (.goto (-128)) := by decide +kernel
theorem dx_103_136 : mj_at 103 136 = some (.bipush (-2)) := by decide +kernel
theorem dx_103_138 : mj_at 103 138 = some (.ireturn) := by decide +kernel
set_option maxRecDepth 10000 in
theorem b_X8_leastDots {sl d : Nat} {M : mj_M} {x1 : Int32} {x2 : Int32} {x3 : Int32}  : mj_C sl (d + 1) 103 [.ref 0, .int x1, .int x2, .int x3] M = mj_E sl (d + 1) 103 5 [.ref 0, .int x1, .int x2, .int x3, .int (x3 - 1), .null, .null, .null, .null, .null] [] M := by
  show mj_E sl (d + 1) 103 0 [.ref 0, .int x1, .int x2, .int x3, .null, .null, .null, .null, .null, .null] [] M = _
  refine (sx_iload_n dx_103_0 rfl).trans ?_
  refine (sx_iconst (v := 1) dx_103_1 rfl).trans ?_
  refine (sx_isub dx_103_2).trans ?_
  refine (sx_istore dx_103_3 (Nat.le_of_ble_eq_true rfl) rfl).trans ?_
  rfl
set_option maxRecDepth 10000 in
theorem b_X8_leastDots_5 {sl d : Nat} {M : mj_M} {y1 : Int32} {y2 : Int32} {y3 : Int32} {y4 : Int32} {w5 : Value} {w6 : Value} {w7 : Value} {w8 : Value} {w9 : Value}  : mj_E sl (d + 1) 103 5 [.ref 0, .int y1, .int y2, .int y3, .int y4, w5, w6, w7, w8, w9] [] M = if y4 < 25 then (if y3 ≤ 1 then (mj_E sl (d + 1) 103 28 [.ref 0, .int y1, .int y2, .int y3, .int y4, .int 1, .int 0, w7, w8, w9] [] M) else (mj_E sl (d + 1) 103 28 [.ref 0, .int y1, .int y2, .int y3, .int y4, .int y4, .int 0, w7, w8, w9] [] M)) else (some (((-2) : Int32), M)) := by
  refine (sx_iload dx_103_5 rfl).trans ?_
  refine (sx_bipush (v := 25) dx_103_7 rfl).trans ?_
  refine (sx_icmp_ge (tgt := 136) dx_103_9 (by decide)).trans ?_
  refine mj_ite ?_ ?_
  · refine (sx_iload_n dx_103_12 rfl).trans ?_
    refine (sx_iconst (v := 1) dx_103_13 rfl).trans ?_
    refine (sx_icmp_le (tgt := 22) dx_103_14 (by decide)).trans ?_
    refine mj_ite ?_ ?_
    · refine (sx_iconst (v := 1) dx_103_22 rfl).trans ?_
      refine (sx_istore dx_103_23 (Nat.le_of_ble_eq_true rfl) rfl).trans ?_
      refine (sx_iconst (v := 0) dx_103_25 rfl).trans ?_
      refine (sx_istore dx_103_26 (Nat.le_of_ble_eq_true rfl) rfl).trans ?_
      rfl
    · refine (sx_iload dx_103_17 rfl).trans ?_
      refine (sx_goto (tgt := 23) dx_103_19 (by decide)).trans ?_
      refine (sx_istore dx_103_23 (Nat.le_of_ble_eq_true rfl) rfl).trans ?_
      refine (sx_iconst (v := 0) dx_103_25 rfl).trans ?_
      refine (sx_istore dx_103_26 (Nat.le_of_ble_eq_true rfl) rfl).trans ?_
      rfl
  · refine (sx_bipush (v := (-2)) dx_103_136 rfl).trans ?_
    exact sx_reti dx_103_138 rt_103
set_option maxRecDepth 10000 in
theorem b_X8_leastDots_28 {sl d : Nat} {M : mj_M} {y1 : Int32} {y2 : Int32} {y3 : Int32} {y4 : Int32} {y5 : Int32} {y6 : Int32} {w7 : Value} {w8 : Value} {w9 : Value}  : mj_E sl (d + 1) 103 28 [.ref 0, .int y1, .int y2, .int y3, .int y4, .int y5, .int y6, w7, w8, w9] [] M = if y6 < y5 then (if y3 ≤ 2 then (mj_E sl (d + 1) 103 51 [.ref 0, .int y1, .int y2, .int y3, .int y4, .int y5, .int y6, .int 1, .int 0, w9] [] M) else (mj_E sl (d + 1) 103 51 [.ref 0, .int y1, .int y2, .int y3, .int y4, .int y5, .int y6, .int y6, .int 0, w9] [] M)) else (mj_E sl (d + 1) 103 5 [.ref 0, .int y1, .int y2, .int y3, .int (y4 + 1), .int y5, .int y6, w7, w8, w9] [] M) := by
  refine (sx_iload dx_103_28 rfl).trans ?_
  refine (sx_iload dx_103_30 rfl).trans ?_
  refine (sx_icmp_ge (tgt := 130) dx_103_32 (by decide)).trans ?_
  refine mj_ite ?_ ?_
  · refine (sx_iload_n dx_103_35 rfl).trans ?_
    refine (sx_iconst (v := 2) dx_103_36 rfl).trans ?_
    refine (sx_icmp_le (tgt := 45) dx_103_37 (by decide)).trans ?_
    refine mj_ite ?_ ?_
    · refine (sx_iconst (v := 1) dx_103_45 rfl).trans ?_
      refine (sx_istore dx_103_46 (Nat.le_of_ble_eq_true rfl) rfl).trans ?_
      refine (sx_iconst (v := 0) dx_103_48 rfl).trans ?_
      refine (sx_istore dx_103_49 (Nat.le_of_ble_eq_true rfl) rfl).trans ?_
      rfl
    · refine (sx_iload dx_103_40 rfl).trans ?_
      refine (sx_goto (tgt := 46) dx_103_42 (by decide)).trans ?_
      refine (sx_istore dx_103_46 (Nat.le_of_ble_eq_true rfl) rfl).trans ?_
      refine (sx_iconst (v := 0) dx_103_48 rfl).trans ?_
      refine (sx_istore dx_103_49 (Nat.le_of_ble_eq_true rfl) rfl).trans ?_
      rfl
  · refine (sx_iinc (v := 1) dx_103_130 rfl rfl rfl).trans ?_
    refine (sx_goto (tgt := 5) dx_103_133 (by decide)).trans ?_
    rfl
set_option maxRecDepth 10000 in
theorem b_X8_leastDots_51 {sl d : Nat} {M : mj_M} {y1 : Int32} {y2 : Int32} {y3 : Int32} {y4 : Int32} {y5 : Int32} {y6 : Int32} {y7 : Int32} {y8 : Int32} {w9 : Value}  : mj_E sl (d + 1) 103 51 [.ref 0, .int y1, .int y2, .int y3, .int y4, .int y5, .int y6, .int y7, .int y8, w9] [] M = if y8 < y7 then (if y3 ≤ 1 then (if y3 ≤ 2 then ((mj_C sl d 64 [.ref 1, .int (y1 ^^^ ((((1 : Int32) <<< (y4 &&& 31)) ||| 0) ||| 0))] M).bind (fun q1 => if q1.1 = y2 then (some (((((1 : Int32) <<< (y4 &&& 31)) ||| 0) ||| 0 : Int32), q1.2)) else (mj_E sl (d + 1) 103 51 [.ref 0, .int y1, .int y2, .int y3, .int y4, .int y5, .int y6, .int y7, .int (y8 + 1), .int ((((1 : Int32) <<< (y4 &&& 31)) ||| 0) ||| 0)] [] q1.2))) else ((mj_C sl d 64 [.ref 1, .int (y1 ^^^ ((((1 : Int32) <<< (y4 &&& 31)) ||| 0) ||| ((1 : Int32) <<< (y8 &&& 31))))] M).bind (fun q2 => if q2.1 = y2 then (some (((((1 : Int32) <<< (y4 &&& 31)) ||| 0) ||| ((1 : Int32) <<< (y8 &&& 31)) : Int32), q2.2)) else (mj_E sl (d + 1) 103 51 [.ref 0, .int y1, .int y2, .int y3, .int y4, .int y5, .int y6, .int y7, .int (y8 + 1), .int ((((1 : Int32) <<< (y4 &&& 31)) ||| 0) ||| ((1 : Int32) <<< (y8 &&& 31)))] [] q2.2)))) else (if y3 ≤ 2 then ((mj_C sl d 64 [.ref 1, .int (y1 ^^^ ((((1 : Int32) <<< (y4 &&& 31)) ||| ((1 : Int32) <<< (y6 &&& 31))) ||| 0))] M).bind (fun q3 => if q3.1 = y2 then (some (((((1 : Int32) <<< (y4 &&& 31)) ||| ((1 : Int32) <<< (y6 &&& 31))) ||| 0 : Int32), q3.2)) else (mj_E sl (d + 1) 103 51 [.ref 0, .int y1, .int y2, .int y3, .int y4, .int y5, .int y6, .int y7, .int (y8 + 1), .int ((((1 : Int32) <<< (y4 &&& 31)) ||| ((1 : Int32) <<< (y6 &&& 31))) ||| 0)] [] q3.2))) else ((mj_C sl d 64 [.ref 1, .int (y1 ^^^ ((((1 : Int32) <<< (y4 &&& 31)) ||| ((1 : Int32) <<< (y6 &&& 31))) ||| ((1 : Int32) <<< (y8 &&& 31))))] M).bind (fun q4 => if q4.1 = y2 then (some (((((1 : Int32) <<< (y4 &&& 31)) ||| ((1 : Int32) <<< (y6 &&& 31))) ||| ((1 : Int32) <<< (y8 &&& 31)) : Int32), q4.2)) else (mj_E sl (d + 1) 103 51 [.ref 0, .int y1, .int y2, .int y3, .int y4, .int y5, .int y6, .int y7, .int (y8 + 1), .int ((((1 : Int32) <<< (y4 &&& 31)) ||| ((1 : Int32) <<< (y6 &&& 31))) ||| ((1 : Int32) <<< (y8 &&& 31)))] [] q4.2))))) else (mj_E sl (d + 1) 103 28 [.ref 0, .int y1, .int y2, .int y3, .int y4, .int y5, .int (y6 + 1), .int y7, .int y8, w9] [] M) := by
  refine (sx_iload dx_103_51 rfl).trans ?_
  refine (sx_iload dx_103_53 rfl).trans ?_
  refine (sx_icmp_ge (tgt := 124) dx_103_55 (by decide)).trans ?_
  refine mj_ite ?_ ?_
  · refine (sx_iconst (v := 1) dx_103_58 rfl).trans ?_
    refine (sx_iload dx_103_59 rfl).trans ?_
    refine (sx_ishl dx_103_61).trans ?_
    refine (sx_istore dx_103_62 (Nat.le_of_ble_eq_true rfl) rfl).trans ?_
    refine (sx_iload dx_103_64 rfl).trans ?_
    refine (sx_iload_n dx_103_66 rfl).trans ?_
    refine (sx_iconst (v := 1) dx_103_67 rfl).trans ?_
    refine (sx_icmp_le (tgt := 78) dx_103_68 (by decide)).trans ?_
    refine mj_ite ?_ ?_
    · refine (sx_iconst (v := 0) dx_103_78 rfl).trans ?_
      refine (sx_ior dx_103_79).trans ?_
      refine (sx_istore dx_103_80 (Nat.le_of_ble_eq_true rfl) rfl).trans ?_
      refine (sx_iload dx_103_82 rfl).trans ?_
      refine (sx_iload_n dx_103_84 rfl).trans ?_
      refine (sx_iconst (v := 2) dx_103_85 rfl).trans ?_
      refine (sx_icmp_le (tgt := 96) dx_103_86 (by decide)).trans ?_
      refine mj_ite ?_ ?_
      · refine (sx_iconst (v := 0) dx_103_96 rfl).trans ?_
        refine (sx_ior dx_103_97).trans ?_
        refine (sx_istore dx_103_98 (Nat.le_of_ble_eq_true rfl) rfl).trans ?_
        refine (sx_aload_n dx_103_100 rfl).trans ?_
        refine (sx_gfr dx_103_101 ow_103 fx_6_10 oc_0 rb_0_0).trans ?_
        refine (sx_iload_n dx_103_104 rfl).trans ?_
        refine (sx_iload dx_103_105 rfl).trans ?_
        refine (sx_ixor dx_103_107).trans ?_
        refine (sx_v1i dx_103_108 ow_103 cx_6_175 oc_1 (Nat.le_of_ble_eq_true rfl)).trans ?_
        refine mj_bnd (fun q1 => ?_)
        refine (sx_iload_n dx_103_111 rfl).trans ?_
        refine (sx_icmp_ne (tgt := 118) dx_103_112 (by decide)).trans ?_
        refine mj_ite ?_ ?_
        · refine (sx_iload dx_103_115 rfl).trans ?_
          exact sx_reti dx_103_117 rt_103
        · refine (sx_iinc (v := 1) dx_103_118 rfl rfl rfl).trans ?_
          refine (sx_goto (tgt := 51) dx_103_121 (by decide)).trans ?_
          rfl
      · refine (sx_iconst (v := 1) dx_103_89 rfl).trans ?_
        refine (sx_iload dx_103_90 rfl).trans ?_
        refine (sx_ishl dx_103_92).trans ?_
        refine (sx_goto (tgt := 97) dx_103_93 (by decide)).trans ?_
        refine (sx_ior dx_103_97).trans ?_
        refine (sx_istore dx_103_98 (Nat.le_of_ble_eq_true rfl) rfl).trans ?_
        refine (sx_aload_n dx_103_100 rfl).trans ?_
        refine (sx_gfr dx_103_101 ow_103 fx_6_10 oc_0 rb_0_0).trans ?_
        refine (sx_iload_n dx_103_104 rfl).trans ?_
        refine (sx_iload dx_103_105 rfl).trans ?_
        refine (sx_ixor dx_103_107).trans ?_
        refine (sx_v1i dx_103_108 ow_103 cx_6_175 oc_1 (Nat.le_of_ble_eq_true rfl)).trans ?_
        refine mj_bnd (fun q2 => ?_)
        refine (sx_iload_n dx_103_111 rfl).trans ?_
        refine (sx_icmp_ne (tgt := 118) dx_103_112 (by decide)).trans ?_
        refine mj_ite ?_ ?_
        · refine (sx_iload dx_103_115 rfl).trans ?_
          exact sx_reti dx_103_117 rt_103
        · refine (sx_iinc (v := 1) dx_103_118 rfl rfl rfl).trans ?_
          refine (sx_goto (tgt := 51) dx_103_121 (by decide)).trans ?_
          rfl
    · refine (sx_iconst (v := 1) dx_103_71 rfl).trans ?_
      refine (sx_iload dx_103_72 rfl).trans ?_
      refine (sx_ishl dx_103_74).trans ?_
      refine (sx_goto (tgt := 79) dx_103_75 (by decide)).trans ?_
      refine (sx_ior dx_103_79).trans ?_
      refine (sx_istore dx_103_80 (Nat.le_of_ble_eq_true rfl) rfl).trans ?_
      refine (sx_iload dx_103_82 rfl).trans ?_
      refine (sx_iload_n dx_103_84 rfl).trans ?_
      refine (sx_iconst (v := 2) dx_103_85 rfl).trans ?_
      refine (sx_icmp_le (tgt := 96) dx_103_86 (by decide)).trans ?_
      refine mj_ite ?_ ?_
      · refine (sx_iconst (v := 0) dx_103_96 rfl).trans ?_
        refine (sx_ior dx_103_97).trans ?_
        refine (sx_istore dx_103_98 (Nat.le_of_ble_eq_true rfl) rfl).trans ?_
        refine (sx_aload_n dx_103_100 rfl).trans ?_
        refine (sx_gfr dx_103_101 ow_103 fx_6_10 oc_0 rb_0_0).trans ?_
        refine (sx_iload_n dx_103_104 rfl).trans ?_
        refine (sx_iload dx_103_105 rfl).trans ?_
        refine (sx_ixor dx_103_107).trans ?_
        refine (sx_v1i dx_103_108 ow_103 cx_6_175 oc_1 (Nat.le_of_ble_eq_true rfl)).trans ?_
        refine mj_bnd (fun q3 => ?_)
        refine (sx_iload_n dx_103_111 rfl).trans ?_
        refine (sx_icmp_ne (tgt := 118) dx_103_112 (by decide)).trans ?_
        refine mj_ite ?_ ?_
        · refine (sx_iload dx_103_115 rfl).trans ?_
          exact sx_reti dx_103_117 rt_103
        · refine (sx_iinc (v := 1) dx_103_118 rfl rfl rfl).trans ?_
          refine (sx_goto (tgt := 51) dx_103_121 (by decide)).trans ?_
          rfl
      · refine (sx_iconst (v := 1) dx_103_89 rfl).trans ?_
        refine (sx_iload dx_103_90 rfl).trans ?_
        refine (sx_ishl dx_103_92).trans ?_
        refine (sx_goto (tgt := 97) dx_103_93 (by decide)).trans ?_
        refine (sx_ior dx_103_97).trans ?_
        refine (sx_istore dx_103_98 (Nat.le_of_ble_eq_true rfl) rfl).trans ?_
        refine (sx_aload_n dx_103_100 rfl).trans ?_
        refine (sx_gfr dx_103_101 ow_103 fx_6_10 oc_0 rb_0_0).trans ?_
        refine (sx_iload_n dx_103_104 rfl).trans ?_
        refine (sx_iload dx_103_105 rfl).trans ?_
        refine (sx_ixor dx_103_107).trans ?_
        refine (sx_v1i dx_103_108 ow_103 cx_6_175 oc_1 (Nat.le_of_ble_eq_true rfl)).trans ?_
        refine mj_bnd (fun q4 => ?_)
        refine (sx_iload_n dx_103_111 rfl).trans ?_
        refine (sx_icmp_ne (tgt := 118) dx_103_112 (by decide)).trans ?_
        refine mj_ite ?_ ?_
        · refine (sx_iload dx_103_115 rfl).trans ?_
          exact sx_reti dx_103_117 rt_103
        · refine (sx_iinc (v := 1) dx_103_118 rfl rfl rfl).trans ?_
          refine (sx_goto (tgt := 51) dx_103_121 (by decide)).trans ?_
          rfl
  · refine (sx_iinc (v := 1) dx_103_124 rfl rfl rfl).trans ?_
    refine (sx_goto (tgt := 28) dx_103_127 (by decide)).trans ?_
    rfl
theorem dx_104_0 : mj_at 104 0 = some (.iload_n 2) := by decide +kernel
theorem dx_104_1 : mj_at 104 1 = some (.ifCond .lt 30) := by decide +kernel
theorem dx_104_4 : mj_at 104 4 = some (.iload_n 2) := by decide +kernel
theorem dx_104_5 : mj_at 104 5 = some (.iconst 2) := by decide +kernel
theorem dx_104_6 : mj_at 104 6 = some (.if_icmp .gt 25) := by decide +kernel
theorem dx_104_9 : mj_at 104 9 = some (.iload_n 1) := by decide +kernel
theorem dx_104_10 : mj_at 104 10 = some (.ifCond .le 21) := by decide +kernel
theorem dx_104_13 : mj_at 104 13 = some (.iload_n 1) := by decide +kernel
theorem dx_104_14 : mj_at 104 14 = some (.aload_n 0) := by decide +kernel
theorem dx_104_15 : mj_at 104 15 = some (.getfield 10) := by decide +kernel
theorem dx_104_18 : mj_at 104 18 = some (.getfield 224) := by decide +kernel
theorem dx_104_21 : mj_at 104 21 = some (.iconst (-1)) := by decide +kernel
theorem dx_104_22 : mj_at 104 22 = some (.ixor) := by decide +kernel
theorem dx_104_23 : mj_at 104 23 = some (.iand) := by decide +kernel
theorem dx_104_24 : mj_at 104 24 = some (.ifCond .ne 7) := by decide +kernel
theorem dx_104_27 : mj_at 104 27 = some (.iconst 1) := by decide +kernel
theorem dx_104_28 : mj_at 104 28 = some (.goto 4) := by decide +kernel
theorem dx_104_31 : mj_at 104 31 = some (.iconst 0) := by decide +kernel
theorem dx_104_32 : mj_at 104 32 = some (.istore_n 3) := by decide +kernel
theorem dx_104_33 : mj_at 104 33 = some (.iload_n 1) := by decide +kernel
theorem dx_104_34 : mj_at 104 34 = some (.invokestatic 195) := by decide +kernel
theorem dx_104_37 : mj_at 104 37 = some (.istore 4) := by decide +kernel
theorem dx_104_39 : mj_at 104 39 = some (.iload_n 3) := by decide +kernel
theorem dx_104_40 : mj_at 104 40 = some (.ifCond .eq 20) := by decide +kernel
theorem dx_104_43 : mj_at 104 43 = some (.aload_n 0) := by decide +kernel
theorem dx_104_44 : mj_at 104 44 = some (.getfield 34) := by decide +kernel
theorem dx_104_47 : mj_at 104 47 = some (.iconst 4) := by decide +kernel
theorem dx_104_48 : mj_at 104 48 = some (.iload 4) := by decide +kernel
theorem dx_104_50 : mj_at 104 50 = some (.imul) := by decide +kernel
theorem dx_104_51 : mj_at 104 51 = some (.iconst 4) := by decide +kernel
theorem dx_104_52 : mj_at 104 52 = some (.bipush 32) := by decide +kernel
theorem dx_104_54 : mj_at 104 54 = some (.invokevirtual 104) := by decide +kernel
theorem dx_104_57 : mj_at 104 57 = some (.ifCond .ne 5) := by decide +kernel
theorem dx_104_60 : mj_at 104 60 = some (.iconst (-1)) := by decide +kernel
theorem dx_104_61 : mj_at 104 61 = some (.ireturn) := by decide +kernel
theorem dx_104_62 : mj_at 104 62 = some (.aload_n 0) := by decide +kernel
theorem dx_104_63 : mj_at 104 63 = some (.getfield 34) := by decide +kernel
theorem dx_104_66 : mj_at 104 66 = some (.iconst 0) := by decide +kernel
theorem dx_104_67 : mj_at 104 67 = some (.putfield 100) := by decide +kernel
theorem dx_104_70 : mj_at 104 70 = some (.aload_n 0) := by decide +kernel
theorem dx_104_71 : mj_at 104 71 = some (.getfield 21) := by decide +kernel
theorem dx_104_74 : mj_at 104 74 = some (.getfield 227) := by decide +kernel
theorem dx_104_77 : mj_at 104 77 = some (.ifCond .ne 6) := by decide +kernel
theorem dx_104_80 : mj_at 104 80 = some (.bipush (-2)) := by decide +kernel
theorem dx_104_82 : mj_at 104 82 = some (.ireturn) := by decide +kernel
theorem dx_104_83 : mj_at 104 83 = some (.iconst 0) := by decide +kernel
theorem dx_104_84 : mj_at 104 84 = some (.istore 5) := by decide +kernel
theorem dx_104_86 : mj_at 104 86 = some (.iload 5) := by decide +kernel
theorem dx_104_88 : mj_at 104 88 = some (.iload 4) := by decide +kernel
theorem dx_104_90 : mj_at 104 90 = some (.if_icmp .ge 29) := by decide +kernel
theorem dx_104_93 : mj_at 104 93 = some (.aload_n 0) := by decide +kernel
theorem dx_104_94 : mj_at 104 94 = some (.getfield 34) := by decide +kernel
theorem dx_104_97 : mj_at 104 97 = some (.iconst 4) := by decide +kernel
theorem dx_104_98 : mj_at 104 98 = some (.iload 5) := by decide +kernel
theorem dx_104_100 : mj_at 104 100 = some (.imul) := by decide +kernel
theorem dx_104_101 : mj_at 104 101 = some (.invokevirtual 228) := by decide +kernel
theorem dx_104_104 : mj_at 104 104 = some (.invokestatic 72) := by decide +kernel
theorem dx_104_107 : mj_at 104 107 = some (.ifCond .ne 6) := by decide +kernel
theorem dx_104_110 : mj_at 104 110 = some (.bipush (-3)) := by decide +kernel
theorem dx_104_112 : mj_at 104 112 = some (.ireturn) := by decide +kernel
theorem dx_104_113 : mj_at 104 113 = some (.iinc 5 1) := by decide +kernel
theorem dx_104_116 : mj_at 104 116 = some (.goto (-30)) := by decide +kernel
theorem dx_104_119 : mj_at 104 119 = some (.aload_n 0) := by decide +kernel
theorem dx_104_120 : mj_at 104 120 = some (.iload_n 1) := by decide +kernel
theorem dx_104_121 : mj_at 104 121 = some (.iload_n 2) := by decide +kernel
theorem dx_104_122 : mj_at 104 122 = some (.invokevirtual 231) := by decide +kernel
theorem dx_104_125 : mj_at 104 125 = some (.ireturn) := by decide +kernel
set_option maxRecDepth 10000 in
theorem b_X8_whose {sl d : Nat} {M : mj_M} {x1 : Int32} {x2 : Int32}  : mj_C sl (d + 1) 104 [.ref 0, .int x1, .int x2] M = if x2 < 0 then (mj_E sl (d + 1) 104 31 [.ref 0, .int x1, .int x2, .null, .null, .null] [] M) else (if x2 ≤ 2 then (if x1 ≤ 0 then (mj_E sl (d + 1) 104 31 [.ref 0, .int x1, .int x2, .null, .null, .null] [] M) else (if x1 &&& ((M 1 1) ^^^ (-1)) = 0 then ((mj_C sl d 229 [.int x1] M).bind (fun q1 => (mj_C sl d 75 [.ref 21, .int ((4 : Int32) * q1.1), .int 4, .int 32] q1.2).bind (fun q2 => if q2.1 = 0 then (some (((-1) : Int32), q2.2)) else (if (mj_st q2.2 21 1 0) 3 6 = 0 then (some (((-2) : Int32), mj_st q2.2 21 1 0)) else (mj_E sl (d + 1) 104 86 [.ref 0, .int x1, .int x2, .int 1, .int q1.1, .int 0] [] (mj_st q2.2 21 1 0)))))) else (mj_E sl (d + 1) 104 31 [.ref 0, .int x1, .int x2, .null, .null, .null] [] M))) else (mj_E sl (d + 1) 104 31 [.ref 0, .int x1, .int x2, .null, .null, .null] [] M)) := by
  show mj_E sl (d + 1) 104 0 [.ref 0, .int x1, .int x2, .null, .null, .null] [] M = _
  refine (sx_iload_n dx_104_0 rfl).trans ?_
  refine (sx_if_lt (tgt := 31) dx_104_1 (by decide)).trans ?_
  refine mj_ite ?_ ?_
  · rfl
  · refine (sx_iload_n dx_104_4 rfl).trans ?_
    refine (sx_iconst (v := 2) dx_104_5 rfl).trans ?_
    refine (sx_icmp_gt (tgt := 31) dx_104_6 (by decide)).trans ?_
    refine mj_ite ?_ ?_
    · refine (sx_iload_n dx_104_9 rfl).trans ?_
      refine (sx_if_le (tgt := 31) dx_104_10 (by decide)).trans ?_
      refine mj_ite ?_ ?_
      · rfl
      · refine (sx_iload_n dx_104_13 rfl).trans ?_
        refine (sx_aload_n dx_104_14 rfl).trans ?_
        refine (sx_gfr dx_104_15 ow_104 fx_6_10 oc_0 rb_0_0).trans ?_
        refine (sx_gfi dx_104_18 ow_104 fx_6_224 (by decide) oc_1).trans ?_
        refine (sx_iconst (v := (-1)) dx_104_21 rfl).trans ?_
        refine (sx_ixor dx_104_22).trans ?_
        refine (sx_iand dx_104_23).trans ?_
        refine (sx_if_ne (tgt := 31) dx_104_24 (by decide)).trans ?_
        refine mj_ite ?_ ?_
        · refine (sx_iconst (v := 1) dx_104_27 rfl).trans ?_
          refine (sx_goto (tgt := 32) dx_104_28 (by decide)).trans ?_
          refine (sx_istore_n dx_104_32 (Nat.le_of_ble_eq_true rfl) rfl).trans ?_
          refine (sx_iload_n dx_104_33 rfl).trans ?_
          refine (sx_s1i dx_104_34 ow_104 cx_6_195 (Nat.le_of_ble_eq_true rfl)).trans ?_
          refine mj_bnd (fun q1 => ?_)
          refine (sx_istore dx_104_37 (Nat.le_of_ble_eq_true rfl) rfl).trans ?_
          refine (sx_iload_n dx_104_39 rfl).trans ?_
          refine (sx_if_eq_f (tgt := 60) dx_104_40 (by decide) (by decide)).trans ?_
          refine (sx_aload_n dx_104_43 rfl).trans ?_
          refine (sx_gfr dx_104_44 ow_104 fx_6_34 oc_0 rb_0_4).trans ?_
          refine (sx_iconst (v := 4) dx_104_47 rfl).trans ?_
          refine (sx_iload dx_104_48 rfl).trans ?_
          refine (sx_imul dx_104_50).trans ?_
          refine (sx_iconst (v := 4) dx_104_51 rfl).trans ?_
          refine (sx_bipush (v := 32) dx_104_52 rfl).trans ?_
          refine (sx_v3i dx_104_54 ow_104 cx_6_104 oc_21 (Nat.le_of_ble_eq_true rfl)).trans ?_
          refine mj_bnd (fun q2 => ?_)
          refine (sx_if_ne (tgt := 62) dx_104_57 (by decide)).trans ?_
          refine mj_ite ?_ ?_
          · refine (sx_iconst (v := (-1)) dx_104_60 rfl).trans ?_
            exact sx_reti dx_104_61 rt_104
          · refine (sx_aload_n dx_104_62 rfl).trans ?_
            refine (sx_gfr dx_104_63 ow_104 fx_6_34 oc_0 rb_0_4).trans ?_
            refine (sx_iconst (v := 0) dx_104_66 rfl).trans ?_
            refine (sx_pfi dx_104_67 ow_104 fx_6_100 oc_21).trans ?_
            refine (sx_aload_n dx_104_70 rfl).trans ?_
            refine (sx_gfr dx_104_71 ow_104 fx_6_21 oc_0 rb_0_1).trans ?_
            refine (sx_gfi dx_104_74 ow_104 fx_6_227 (by decide) oc_3).trans ?_
            refine (sx_if_ne (tgt := 83) dx_104_77 (by decide)).trans ?_
            refine mj_ite ?_ ?_
            · refine (sx_bipush (v := (-2)) dx_104_80 rfl).trans ?_
              exact sx_reti dx_104_82 rt_104
            · refine (sx_iconst (v := 0) dx_104_83 rfl).trans ?_
              refine (sx_istore dx_104_84 (Nat.le_of_ble_eq_true rfl) rfl).trans ?_
              rfl
        · rfl
    · rfl
set_option maxRecDepth 10000 in
theorem b_X8_whose_31 {sl d : Nat} {M : mj_M} {y1 : Int32} {y2 : Int32} {w3 : Value} {w4 : Value} {w5 : Value}  : mj_E sl (d + 1) 104 31 [.ref 0, .int y1, .int y2, w3, w4, w5] [] M = (mj_C sl d 229 [.int y1] M).bind (fun q1 => some (((-1) : Int32), q1.2)) := by
  refine (sx_iconst (v := 0) dx_104_31 rfl).trans ?_
  refine (sx_istore_n dx_104_32 (Nat.le_of_ble_eq_true rfl) rfl).trans ?_
  refine (sx_iload_n dx_104_33 rfl).trans ?_
  refine (sx_s1i dx_104_34 ow_104 cx_6_195 (Nat.le_of_ble_eq_true rfl)).trans ?_
  refine mj_bnd (fun q1 => ?_)
  refine (sx_istore dx_104_37 (Nat.le_of_ble_eq_true rfl) rfl).trans ?_
  refine (sx_iload_n dx_104_39 rfl).trans ?_
  refine (sx_if_eq_t (tgt := 60) dx_104_40 (by decide) (by decide)).trans ?_
  refine (sx_iconst (v := (-1)) dx_104_60 rfl).trans ?_
  exact sx_reti dx_104_61 rt_104
set_option maxRecDepth 10000 in
theorem b_X8_whose_86 {sl d : Nat} {M : mj_M} {y1 : Int32} {y2 : Int32} {w3 : Value} {y4 : Int32} {y5 : Int32}  : mj_E sl (d + 1) 104 86 [.ref 0, .int y1, .int y2, w3, .int y4, .int y5] [] M = if y5 < y4 then ((mj_C sl d 77 [.ref 21, .int ((4 : Int32) * y5)] M).bind (fun q1 => (mj_C sl d 20 [.int q1.1] q1.2).bind (fun q2 => if q2.1 = 0 then (some (((-3) : Int32), q2.2)) else (mj_E sl (d + 1) 104 86 [.ref 0, .int y1, .int y2, w3, .int y4, .int (y5 + 1)] [] q2.2)))) else ((mj_C sl d 105 [.ref 0, .int y1, .int y2] M).bind (fun q3 => some ((q3.1 : Int32), q3.2))) := by
  refine (sx_iload dx_104_86 rfl).trans ?_
  refine (sx_iload dx_104_88 rfl).trans ?_
  refine (sx_icmp_ge (tgt := 119) dx_104_90 (by decide)).trans ?_
  refine mj_ite ?_ ?_
  · refine (sx_aload_n dx_104_93 rfl).trans ?_
    refine (sx_gfr dx_104_94 ow_104 fx_6_34 oc_0 rb_0_4).trans ?_
    refine (sx_iconst (v := 4) dx_104_97 rfl).trans ?_
    refine (sx_iload dx_104_98 rfl).trans ?_
    refine (sx_imul dx_104_100).trans ?_
    refine (sx_v1i dx_104_101 ow_104 cx_6_228 oc_21 (Nat.le_of_ble_eq_true rfl)).trans ?_
    refine mj_bnd (fun q1 => ?_)
    refine (sx_s1i dx_104_104 ow_104 cx_6_72 (Nat.le_of_ble_eq_true rfl)).trans ?_
    refine mj_bnd (fun q2 => ?_)
    refine (sx_if_ne (tgt := 113) dx_104_107 (by decide)).trans ?_
    refine mj_ite ?_ ?_
    · refine (sx_bipush (v := (-3)) dx_104_110 rfl).trans ?_
      exact sx_reti dx_104_112 rt_104
    · refine (sx_iinc (v := 1) dx_104_113 rfl rfl rfl).trans ?_
      refine (sx_goto (tgt := 86) dx_104_116 (by decide)).trans ?_
      rfl
  · refine (sx_aload_n dx_104_119 rfl).trans ?_
    refine (sx_iload_n dx_104_120 rfl).trans ?_
    refine (sx_iload_n dx_104_121 rfl).trans ?_
    refine (sx_v2i dx_104_122 ow_104 cx_6_231 oc_0 (Nat.le_of_ble_eq_true rfl)).trans ?_
    refine mj_bnd (fun q3 => ?_)
    exact sx_reti dx_104_125 rt_104
theorem dx_105_0 : mj_at 105 0 = some (.iconst (-1)) := by decide +kernel
theorem dx_105_1 : mj_at 105 1 = some (.istore_n 3) := by decide +kernel
theorem dx_105_2 : mj_at 105 2 = some (.ldc 234) := by decide +kernel
theorem dx_105_4 : mj_at 105 4 = some (.istore 4) := by decide +kernel
theorem dx_105_6 : mj_at 105 6 = some (.ldc 234) := by decide +kernel
theorem dx_105_8 : mj_at 105 8 = some (.istore 5) := by decide +kernel
theorem dx_105_10 : mj_at 105 10 = some (.iconst 0) := by decide +kernel
theorem dx_105_11 : mj_at 105 11 = some (.istore 6) := by decide +kernel
theorem dx_105_13 : mj_at 105 13 = some (.iload 6) := by decide +kernel
theorem dx_105_15 : mj_at 105 15 = some (.bipush 10) := by decide +kernel
theorem dx_105_17 : mj_at 105 17 = some (.if_icmp .ge 62) := by decide +kernel
theorem dx_105_20 : mj_at 105 20 = some (.aload_n 0) := by decide +kernel
theorem dx_105_21 : mj_at 105 21 = some (.getfield 21) := by decide +kernel
theorem dx_105_24 : mj_at 105 24 = some (.iload 6) := by decide +kernel
theorem dx_105_26 : mj_at 105 26 = some (.invokevirtual 85) := by decide +kernel
theorem dx_105_29 : mj_at 105 29 = some (.ifCond .eq 44) := by decide +kernel
theorem dx_105_32 : mj_at 105 32 = some (.aload_n 0) := by decide +kernel
theorem dx_105_33 : mj_at 105 33 = some (.iload 6) := by decide +kernel
theorem dx_105_35 : mj_at 105 35 = some (.iload_n 1) := by decide +kernel
theorem dx_105_36 : mj_at 105 36 = some (.invokevirtual 235) := by decide +kernel
theorem dx_105_39 : mj_at 105 39 = some (.istore 7) := by decide +kernel
theorem dx_105_41 : mj_at 105 41 = some (.iload 7) := by decide +kernel
theorem dx_105_43 : mj_at 105 43 = some (.iload 4) := by decide +kernel
theorem dx_105_45 : mj_at 105 45 = some (.if_icmp .ge 17) := by decide +kernel
theorem dx_105_48 : mj_at 105 48 = some (.iload 4) := by decide +kernel
theorem dx_105_50 : mj_at 105 50 = some (.istore 5) := by decide +kernel
theorem dx_105_52 : mj_at 105 52 = some (.iload 7) := by decide +kernel
theorem dx_105_54 : mj_at 105 54 = some (.istore 4) := by decide +kernel
theorem dx_105_56 : mj_at 105 56 = some (.iload 6) := by decide +kernel
theorem dx_105_58 : mj_at 105 58 = some (.istore_n 3) := by decide +kernel
theorem dx_105_59 : mj_at 105 59 = some (.goto 14) := by decide +kernel
theorem dx_105_62 : mj_at 105 62 = some (.iload 7) := by decide +kernel
theorem dx_105_64 : mj_at 105 64 = some (.iload 5) := by decide +kernel
theorem dx_105_66 : mj_at 105 66 = some (.if_icmp .ge 7) := by decide +kernel
theorem dx_105_69 : mj_at 105 69 = some (.iload 7) := by decide +kernel
theorem dx_105_71 : mj_at 105 71 = some (.istore 5) := by decide +kernel
theorem dx_105_73 : mj_at 105 73 = some (.iinc 6 1) := by decide +kernel
theorem dx_105_76 : mj_at 105 76 = some (.goto (-63)) := by decide +kernel
theorem dx_105_79 : mj_at 105 79 = some (.iload_n 2) := by decide +kernel
theorem dx_105_80 : mj_at 105 80 = some (.ifCond .ne 5) := by decide +kernel
theorem dx_105_83 : mj_at 105 83 = some (.iload_n 3) := by decide +kernel
theorem dx_105_84 : mj_at 105 84 = some (.ireturn) := by decide +kernel
theorem dx_105_85 : mj_at 105 85 = some (.iload_n 2) := by decide +kernel
theorem dx_105_86 : mj_at 105 86 = some (.iconst 1) := by decide +kernel
theorem dx_105_87 : mj_at 105 87 = some (.if_icmp .ne 6) := by decide +kernel
theorem dx_105_90 : mj_at 105 90 = some (.iload 4) := by decide +kernel
theorem dx_105_92 : mj_at 105 92 = some (.ireturn) := by decide +kernel
theorem dx_105_93 : mj_at 105 93 = some (.iload 5) := by decide +kernel
theorem dx_105_95 : mj_at 105 95 = some (.ldc 234) := by decide +kernel
theorem dx_105_97 : mj_at 105 97 = some (.if_icmp .ne 8) := by decide +kernel
theorem dx_105_100 : mj_at 105 100 = some (.bipush (-2)) := by decide +kernel
theorem dx_105_102 : mj_at 105 102 = some (.goto 8) := by decide +kernel
theorem dx_105_105 : mj_at 105 105 = some (.iload 5) := by decide +kernel
theorem dx_105_107 : mj_at 105 107 = some (.iload 4) := by decide +kernel
theorem dx_105_109 : mj_at 105 109 = some (.isub) := by decide +kernel
theorem dx_105_110 : mj_at 105 110 = some (.ireturn) := by decide +kernel
set_option maxRecDepth 10000 in
theorem b_X8_nearestHand {sl d : Nat} {M : mj_M} {x1 : Int32} {x2 : Int32}  : mj_C sl (d + 1) 105 [.ref 0, .int x1, .int x2] M = mj_E sl (d + 1) 105 13 [.ref 0, .int x1, .int x2, .int (-1), .int 2147483647, .int 2147483647, .int 0, .null] [] M := by
  show mj_E sl (d + 1) 105 0 [.ref 0, .int x1, .int x2, .null, .null, .null, .null, .null] [] M = _
  refine (sx_iconst (v := (-1)) dx_105_0 rfl).trans ?_
  refine (sx_istore_n dx_105_1 (Nat.le_of_ble_eq_true rfl) rfl).trans ?_
  refine (sx_ldc (v := 2147483647) dx_105_2 ow_105 kx_6_234).trans ?_
  refine (sx_istore dx_105_4 (Nat.le_of_ble_eq_true rfl) rfl).trans ?_
  refine (sx_ldc (v := 2147483647) dx_105_6 ow_105 kx_6_234).trans ?_
  refine (sx_istore dx_105_8 (Nat.le_of_ble_eq_true rfl) rfl).trans ?_
  refine (sx_iconst (v := 0) dx_105_10 rfl).trans ?_
  refine (sx_istore dx_105_11 (Nat.le_of_ble_eq_true rfl) rfl).trans ?_
  rfl
set_option maxRecDepth 10000 in
theorem b_X8_nearestHand_13 {sl d : Nat} {M : mj_M} {y1 : Int32} {y2 : Int32} {y3 : Int32} {y4 : Int32} {y5 : Int32} {y6 : Int32} {w7 : Value}  : mj_E sl (d + 1) 105 13 [.ref 0, .int y1, .int y2, .int y3, .int y4, .int y5, .int y6, w7] [] M = if y6 < 10 then ((mj_C sl d 5 [.ref 3, .int y6] M).bind (fun q1 => if q1.1 = 0 then (mj_E sl (d + 1) 105 13 [.ref 0, .int y1, .int y2, .int y3, .int y4, .int y5, .int (y6 + 1), w7] [] q1.2) else ((mj_C sl d 106 [.ref 0, .int y6, .int y1] q1.2).bind (fun q2 => if q2.1 < y4 then (mj_E sl (d + 1) 105 13 [.ref 0, .int y1, .int y2, .int y6, .int q2.1, .int y4, .int (y6 + 1), .int q2.1] [] q2.2) else (if q2.1 < y5 then (mj_E sl (d + 1) 105 13 [.ref 0, .int y1, .int y2, .int y3, .int y4, .int q2.1, .int (y6 + 1), .int q2.1] [] q2.2) else (mj_E sl (d + 1) 105 13 [.ref 0, .int y1, .int y2, .int y3, .int y4, .int y5, .int (y6 + 1), .int q2.1] [] q2.2)))))) else (if y2 = 0 then (some ((y3 : Int32), M)) else (if y2 = 1 then (some ((y4 : Int32), M)) else (if y5 = 2147483647 then (some (((-2) : Int32), M)) else (some ((y5 - y4 : Int32), M))))) := by
  refine (sx_iload dx_105_13 rfl).trans ?_
  refine (sx_bipush (v := 10) dx_105_15 rfl).trans ?_
  refine (sx_icmp_ge (tgt := 79) dx_105_17 (by decide)).trans ?_
  refine mj_ite ?_ ?_
  · refine (sx_aload_n dx_105_20 rfl).trans ?_
    refine (sx_gfr dx_105_21 ow_105 fx_6_21 oc_0 rb_0_1).trans ?_
    refine (sx_iload dx_105_24 rfl).trans ?_
    refine (sx_v1i dx_105_26 ow_105 cx_6_85 oc_3 (Nat.le_of_ble_eq_true rfl)).trans ?_
    refine mj_bnd (fun q1 => ?_)
    refine (sx_if_eq (tgt := 73) dx_105_29 (by decide)).trans ?_
    refine mj_ite ?_ ?_
    · refine (sx_iinc (v := 1) dx_105_73 rfl rfl rfl).trans ?_
      refine (sx_goto (tgt := 13) dx_105_76 (by decide)).trans ?_
      rfl
    · refine (sx_aload_n dx_105_32 rfl).trans ?_
      refine (sx_iload dx_105_33 rfl).trans ?_
      refine (sx_iload_n dx_105_35 rfl).trans ?_
      refine (sx_v2i dx_105_36 ow_105 cx_6_235 oc_0 (Nat.le_of_ble_eq_true rfl)).trans ?_
      refine mj_bnd (fun q2 => ?_)
      refine (sx_istore dx_105_39 (Nat.le_of_ble_eq_true rfl) rfl).trans ?_
      refine (sx_iload dx_105_41 rfl).trans ?_
      refine (sx_iload dx_105_43 rfl).trans ?_
      refine (sx_icmp_ge (tgt := 62) dx_105_45 (by decide)).trans ?_
      refine mj_ite ?_ ?_
      · refine (sx_iload dx_105_48 rfl).trans ?_
        refine (sx_istore dx_105_50 (Nat.le_of_ble_eq_true rfl) rfl).trans ?_
        refine (sx_iload dx_105_52 rfl).trans ?_
        refine (sx_istore dx_105_54 (Nat.le_of_ble_eq_true rfl) rfl).trans ?_
        refine (sx_iload dx_105_56 rfl).trans ?_
        refine (sx_istore_n dx_105_58 (Nat.le_of_ble_eq_true rfl) rfl).trans ?_
        refine (sx_goto (tgt := 73) dx_105_59 (by decide)).trans ?_
        refine (sx_iinc (v := 1) dx_105_73 rfl rfl rfl).trans ?_
        refine (sx_goto (tgt := 13) dx_105_76 (by decide)).trans ?_
        rfl
      · refine (sx_iload dx_105_62 rfl).trans ?_
        refine (sx_iload dx_105_64 rfl).trans ?_
        refine (sx_icmp_ge (tgt := 73) dx_105_66 (by decide)).trans ?_
        refine mj_ite ?_ ?_
        · refine (sx_iload dx_105_69 rfl).trans ?_
          refine (sx_istore dx_105_71 (Nat.le_of_ble_eq_true rfl) rfl).trans ?_
          refine (sx_iinc (v := 1) dx_105_73 rfl rfl rfl).trans ?_
          refine (sx_goto (tgt := 13) dx_105_76 (by decide)).trans ?_
          rfl
        · refine (sx_iinc (v := 1) dx_105_73 rfl rfl rfl).trans ?_
          refine (sx_goto (tgt := 13) dx_105_76 (by decide)).trans ?_
          rfl
  · refine (sx_iload_n dx_105_79 rfl).trans ?_
    refine (sx_if_ne (tgt := 85) dx_105_80 (by decide)).trans ?_
    refine mj_ite ?_ ?_
    · refine (sx_iload_n dx_105_83 rfl).trans ?_
      exact sx_reti dx_105_84 rt_105
    · refine (sx_iload_n dx_105_85 rfl).trans ?_
      refine (sx_iconst (v := 1) dx_105_86 rfl).trans ?_
      refine (sx_icmp_ne (tgt := 93) dx_105_87 (by decide)).trans ?_
      refine mj_ite ?_ ?_
      · refine (sx_iload dx_105_90 rfl).trans ?_
        exact sx_reti dx_105_92 rt_105
      · refine (sx_iload dx_105_93 rfl).trans ?_
        refine (sx_ldc (v := 2147483647) dx_105_95 ow_105 kx_6_234).trans ?_
        refine (sx_icmp_ne (tgt := 105) dx_105_97 (by decide)).trans ?_
        refine mj_ite ?_ ?_
        · refine (sx_bipush (v := (-2)) dx_105_100 rfl).trans ?_
          refine (sx_goto (tgt := 110) dx_105_102 (by decide)).trans ?_
          exact sx_reti dx_105_110 rt_105
        · refine (sx_iload dx_105_105 rfl).trans ?_
          refine (sx_iload dx_105_107 rfl).trans ?_
          refine (sx_isub dx_105_109).trans ?_
          exact sx_reti dx_105_110 rt_105
theorem dx_106_0 : mj_at 106 0 = some (.iconst 0) := by decide +kernel
theorem dx_106_1 : mj_at 106 1 = some (.istore_n 3) := by decide +kernel
theorem dx_106_2 : mj_at 106 2 = some (.iconst 0) := by decide +kernel
theorem dx_106_3 : mj_at 106 3 = some (.istore 4) := by decide +kernel
theorem dx_106_5 : mj_at 106 5 = some (.iconst 0) := by decide +kernel
theorem dx_106_6 : mj_at 106 6 = some (.istore 5) := by decide +kernel
theorem dx_106_8 : mj_at 106 8 = some (.iload 5) := by decide +kernel
theorem dx_106_10 : mj_at 106 10 = some (.bipush 8) := by decide +kernel
theorem dx_106_12 : mj_at 106 12 = some (.if_icmp .ge 47) := by decide +kernel
theorem dx_106_15 : mj_at 106 15 = some (.iload_n 2) := by decide +kernel
theorem dx_106_16 : mj_at 106 16 = some (.iload 5) := by decide +kernel
theorem dx_106_18 : mj_at 106 18 = some (.ishr) := by decide +kernel
theorem dx_106_19 : mj_at 106 19 = some (.iconst 1) := by decide +kernel
theorem dx_106_20 : mj_at 106 20 = some (.iand) := by decide +kernel
theorem dx_106_21 : mj_at 106 21 = some (.iconst 1) := by decide +kernel
theorem dx_106_22 : mj_at 106 22 = some (.if_icmp .ne 31) := by decide +kernel
theorem dx_106_25 : mj_at 106 25 = some (.iload_n 3) := by decide +kernel
theorem dx_106_26 : mj_at 106 26 = some (.aload_n 0) := by decide +kernel
theorem dx_106_27 : mj_at 106 27 = some (.getfield 21) := by decide +kernel
theorem dx_106_30 : mj_at 106 30 = some (.iload_n 1) := by decide +kernel
theorem dx_106_31 : mj_at 106 31 = some (.iload 5) := by decide +kernel
theorem dx_106_33 : mj_at 106 33 = some (.invokevirtual 172) := by decide +kernel
theorem dx_106_36 : mj_at 106 36 = some (.aload_n 0) := by decide +kernel
theorem dx_106_37 : mj_at 106 37 = some (.getfield 34) := by decide +kernel
theorem dx_106_40 : mj_at 106 40 = some (.iload 4) := by decide +kernel
theorem dx_106_42 : mj_at 106 42 = some (.invokevirtual 228) := by decide +kernel
theorem dx_106_45 : mj_at 106 45 = some (.invokestatic 181) := by decide +kernel
theorem dx_106_48 : mj_at 106 48 = some (.iadd) := by decide +kernel
theorem dx_106_49 : mj_at 106 49 = some (.istore_n 3) := by decide +kernel
theorem dx_106_50 : mj_at 106 50 = some (.iinc 4 4) := by decide +kernel
theorem dx_106_53 : mj_at 106 53 = some (.iinc 5 1) := by decide +kernel
theorem dx_106_56 : mj_at 106 56 = some (.goto (-48)) := by decide +kernel
theorem dx_106_59 : mj_at 106 59 = some (.iload_n 3) := by decide +kernel
theorem dx_106_60 : mj_at 106 60 = some (.ireturn) := by decide +kernel
set_option maxRecDepth 10000 in
theorem b_X8_farFromSheet {sl d : Nat} {M : mj_M} {x1 : Int32} {x2 : Int32}  : mj_C sl (d + 1) 106 [.ref 0, .int x1, .int x2] M = mj_E sl (d + 1) 106 8 [.ref 0, .int x1, .int x2, .int 0, .int 0, .int 0] [] M := by
  show mj_E sl (d + 1) 106 0 [.ref 0, .int x1, .int x2, .null, .null, .null] [] M = _
  refine (sx_iconst (v := 0) dx_106_0 rfl).trans ?_
  refine (sx_istore_n dx_106_1 (Nat.le_of_ble_eq_true rfl) rfl).trans ?_
  refine (sx_iconst (v := 0) dx_106_2 rfl).trans ?_
  refine (sx_istore dx_106_3 (Nat.le_of_ble_eq_true rfl) rfl).trans ?_
  refine (sx_iconst (v := 0) dx_106_5 rfl).trans ?_
  refine (sx_istore dx_106_6 (Nat.le_of_ble_eq_true rfl) rfl).trans ?_
  rfl
set_option maxRecDepth 10000 in
theorem b_X8_farFromSheet_8 {sl d : Nat} {M : mj_M} {y1 : Int32} {y2 : Int32} {y3 : Int32} {y4 : Int32} {y5 : Int32}  : mj_E sl (d + 1) 106 8 [.ref 0, .int y1, .int y2, .int y3, .int y4, .int y5] [] M = if y5 < 8 then (if (y2 >>> (y5 &&& 31)) &&& 1 = 1 then ((mj_C sl d 8 [.ref 3, .int y1, .int y5] M).bind (fun q1 => (mj_C sl d 77 [.ref 21, .int y4] q1.2).bind (fun q2 => (mj_C sl d 21 [.int q1.1, .int q2.1] q2.2).bind (fun q3 => mj_E sl (d + 1) 106 8 [.ref 0, .int y1, .int y2, .int (y3 + q3.1), .int (y4 + 4), .int (y5 + 1)] [] q3.2)))) else (mj_E sl (d + 1) 106 8 [.ref 0, .int y1, .int y2, .int y3, .int y4, .int (y5 + 1)] [] M)) else (some ((y3 : Int32), M)) := by
  refine (sx_iload dx_106_8 rfl).trans ?_
  refine (sx_bipush (v := 8) dx_106_10 rfl).trans ?_
  refine (sx_icmp_ge (tgt := 59) dx_106_12 (by decide)).trans ?_
  refine mj_ite ?_ ?_
  · refine (sx_iload_n dx_106_15 rfl).trans ?_
    refine (sx_iload dx_106_16 rfl).trans ?_
    refine (sx_ishr dx_106_18).trans ?_
    refine (sx_iconst (v := 1) dx_106_19 rfl).trans ?_
    refine (sx_iand dx_106_20).trans ?_
    refine (sx_iconst (v := 1) dx_106_21 rfl).trans ?_
    refine (sx_icmp_ne (tgt := 53) dx_106_22 (by decide)).trans ?_
    refine mj_ite ?_ ?_
    · refine (sx_iload_n dx_106_25 rfl).trans ?_
      refine (sx_aload_n dx_106_26 rfl).trans ?_
      refine (sx_gfr dx_106_27 ow_106 fx_6_21 oc_0 rb_0_1).trans ?_
      refine (sx_iload_n dx_106_30 rfl).trans ?_
      refine (sx_iload dx_106_31 rfl).trans ?_
      refine (sx_v2i dx_106_33 ow_106 cx_6_172 oc_3 (Nat.le_of_ble_eq_true rfl)).trans ?_
      refine mj_bnd (fun q1 => ?_)
      refine (sx_aload_n dx_106_36 rfl).trans ?_
      refine (sx_gfr dx_106_37 ow_106 fx_6_34 oc_0 rb_0_4).trans ?_
      refine (sx_iload dx_106_40 rfl).trans ?_
      refine (sx_v1i dx_106_42 ow_106 cx_6_228 oc_21 (Nat.le_of_ble_eq_true rfl)).trans ?_
      refine mj_bnd (fun q2 => ?_)
      refine (sx_s2i dx_106_45 ow_106 cx_6_181 (Nat.le_of_ble_eq_true rfl)).trans ?_
      refine mj_bnd (fun q3 => ?_)
      refine (sx_iadd dx_106_48).trans ?_
      refine (sx_istore_n dx_106_49 (Nat.le_of_ble_eq_true rfl) rfl).trans ?_
      refine (sx_iinc (v := 4) dx_106_50 rfl rfl rfl).trans ?_
      refine (sx_iinc (v := 1) dx_106_53 rfl rfl rfl).trans ?_
      refine (sx_goto (tgt := 8) dx_106_56 (by decide)).trans ?_
      rfl
    · refine (sx_iinc (v := 1) dx_106_53 rfl rfl rfl).trans ?_
      refine (sx_goto (tgt := 8) dx_106_56 (by decide)).trans ?_
      rfl
  · refine (sx_iload_n dx_106_59 rfl).trans ?_
    exact sx_reti dx_106_60 rt_106
theorem dx_107_0 : mj_at 107 0 = some (.aload_n 0) := by decide +kernel
theorem dx_107_1 : mj_at 107 1 = some (.getfield 21) := by decide +kernel
theorem dx_107_4 : mj_at 107 4 = some (.iload_n 1) := by decide +kernel
theorem dx_107_5 : mj_at 107 5 = some (.invokevirtual 85) := by decide +kernel
theorem dx_107_8 : mj_at 107 8 = some (.ifCond .eq 31) := by decide +kernel
theorem dx_107_11 : mj_at 107 11 = some (.aload_n 0) := by decide +kernel
theorem dx_107_12 : mj_at 107 12 = some (.getfield 21) := by decide +kernel
theorem dx_107_15 : mj_at 107 15 = some (.iload_n 2) := by decide +kernel
theorem dx_107_16 : mj_at 107 16 = some (.invokevirtual 85) := by decide +kernel
theorem dx_107_19 : mj_at 107 19 = some (.ifCond .eq 20) := by decide +kernel
theorem dx_107_22 : mj_at 107 22 = some (.iload_n 1) := by decide +kernel
theorem dx_107_23 : mj_at 107 23 = some (.iload_n 2) := by decide +kernel
theorem dx_107_24 : mj_at 107 24 = some (.if_icmp .eq 15) := by decide +kernel
theorem dx_107_27 : mj_at 107 27 = some (.aload_n 0) := by decide +kernel
theorem dx_107_28 : mj_at 107 28 = some (.getfield 21) := by decide +kernel
theorem dx_107_31 : mj_at 107 31 = some (.iload_n 1) := by decide +kernel
theorem dx_107_32 : mj_at 107 32 = some (.iload_n 2) := by decide +kernel
theorem dx_107_33 : mj_at 107 33 = some (.invokevirtual 238) := by decide +kernel
theorem dx_107_36 : mj_at 107 36 = some (.goto 4) := by decide +kernel
theorem dx_107_39 : mj_at 107 39 = some (.iconst (-1)) := by decide +kernel
theorem dx_107_40 : mj_at 107 40 = some (.ireturn) := by decide +kernel
set_option maxRecDepth 10000 in
theorem b_X8_forge {sl d : Nat} {M : mj_M} {x1 : Int32} {x2 : Int32}  : mj_C sl (d + 1) 107 [.ref 0, .int x1, .int x2] M = (mj_C sl d 5 [.ref 3, .int x1] M).bind (fun q1 => if q1.1 = 0 then (some (((-1) : Int32), q1.2)) else ((mj_C sl d 5 [.ref 3, .int x2] q1.2).bind (fun q2 => if q2.1 = 0 then (some (((-1) : Int32), q2.2)) else (if x1 = x2 then (some (((-1) : Int32), q2.2)) else ((mj_C sl d 10 [.ref 3, .int x1, .int x2] q2.2).bind (fun q3 => some ((q3.1 : Int32), q3.2))))))) := by
  show mj_E sl (d + 1) 107 0 [.ref 0, .int x1, .int x2] [] M = _
  refine (sx_aload_n dx_107_0 rfl).trans ?_
  refine (sx_gfr dx_107_1 ow_107 fx_6_21 oc_0 rb_0_1).trans ?_
  refine (sx_iload_n dx_107_4 rfl).trans ?_
  refine (sx_v1i dx_107_5 ow_107 cx_6_85 oc_3 (Nat.le_of_ble_eq_true rfl)).trans ?_
  refine mj_bnd (fun q1 => ?_)
  refine (sx_if_eq (tgt := 39) dx_107_8 (by decide)).trans ?_
  refine mj_ite ?_ ?_
  · refine (sx_iconst (v := (-1)) dx_107_39 rfl).trans ?_
    exact sx_reti dx_107_40 rt_107
  · refine (sx_aload_n dx_107_11 rfl).trans ?_
    refine (sx_gfr dx_107_12 ow_107 fx_6_21 oc_0 rb_0_1).trans ?_
    refine (sx_iload_n dx_107_15 rfl).trans ?_
    refine (sx_v1i dx_107_16 ow_107 cx_6_85 oc_3 (Nat.le_of_ble_eq_true rfl)).trans ?_
    refine mj_bnd (fun q2 => ?_)
    refine (sx_if_eq (tgt := 39) dx_107_19 (by decide)).trans ?_
    refine mj_ite ?_ ?_
    · refine (sx_iconst (v := (-1)) dx_107_39 rfl).trans ?_
      exact sx_reti dx_107_40 rt_107
    · refine (sx_iload_n dx_107_22 rfl).trans ?_
      refine (sx_iload_n dx_107_23 rfl).trans ?_
      refine (sx_icmp_eq (tgt := 39) dx_107_24 (by decide)).trans ?_
      refine mj_ite ?_ ?_
      · refine (sx_iconst (v := (-1)) dx_107_39 rfl).trans ?_
        exact sx_reti dx_107_40 rt_107
      · refine (sx_aload_n dx_107_27 rfl).trans ?_
        refine (sx_gfr dx_107_28 ow_107 fx_6_21 oc_0 rb_0_1).trans ?_
        refine (sx_iload_n dx_107_31 rfl).trans ?_
        refine (sx_iload_n dx_107_32 rfl).trans ?_
        refine (sx_v2i dx_107_33 ow_107 cx_6_238 oc_3 (Nat.le_of_ble_eq_true rfl)).trans ?_
        refine mj_bnd (fun q3 => ?_)
        refine (sx_goto (tgt := 40) dx_107_36 (by decide)).trans ?_
        exact sx_reti dx_107_40 rt_107
theorem dx_108_0 : mj_at 108 0 = some (.iload_n 1) := by decide +kernel
theorem dx_108_1 : mj_at 108 1 = some (.ifCond .lt 27) := by decide +kernel
theorem dx_108_4 : mj_at 108 4 = some (.iload_n 1) := by decide +kernel
theorem dx_108_5 : mj_at 108 5 = some (.sipush 200) := by decide +kernel
theorem dx_108_8 : mj_at 108 8 = some (.if_icmp .gt 20) := by decide +kernel
theorem dx_108_11 : mj_at 108 11 = some (.iload_n 2) := by decide +kernel
theorem dx_108_12 : mj_at 108 12 = some (.bipush 100) := by decide +kernel
theorem dx_108_14 : mj_at 108 14 = some (.if_icmp .eq 16) := by decide +kernel
theorem dx_108_17 : mj_at 108 17 = some (.aload_n 0) := by decide +kernel
theorem dx_108_18 : mj_at 108 18 = some (.getfield 21) := by decide +kernel
theorem dx_108_21 : mj_at 108 21 = some (.iload_n 2) := by decide +kernel
theorem dx_108_22 : mj_at 108 22 = some (.invokevirtual 85) := by decide +kernel
theorem dx_108_25 : mj_at 108 25 = some (.ifCond .ne 5) := by decide +kernel
theorem dx_108_28 : mj_at 108 28 = some (.iconst (-1)) := by decide +kernel
theorem dx_108_29 : mj_at 108 29 = some (.ireturn) := by decide +kernel
theorem dx_108_30 : mj_at 108 30 = some (.aload_n 0) := by decide +kernel
theorem dx_108_31 : mj_at 108 31 = some (.iload_n 1) := by decide +kernel
theorem dx_108_32 : mj_at 108 32 = some (.invokevirtual 241) := by decide +kernel
theorem dx_108_35 : mj_at 108 35 = some (.iload_n 2) := by decide +kernel
theorem dx_108_36 : mj_at 108 36 = some (.bipush 100) := by decide +kernel
theorem dx_108_38 : mj_at 108 38 = some (.if_icmp .ne 10) := by decide +kernel
theorem dx_108_41 : mj_at 108 41 = some (.aload_n 0) := by decide +kernel
theorem dx_108_42 : mj_at 108 42 = some (.invokevirtual 244) := by decide +kernel
theorem dx_108_45 : mj_at 108 45 = some (.goto 8) := by decide +kernel
theorem dx_108_48 : mj_at 108 48 = some (.aload_n 0) := by decide +kernel
theorem dx_108_49 : mj_at 108 49 = some (.iload_n 2) := by decide +kernel
theorem dx_108_50 : mj_at 108 50 = some (.invokevirtual 247) := by decide +kernel
theorem dx_108_53 : mj_at 108 53 = some (.ireturn) := by decide +kernel
set_option maxRecDepth 10000 in
theorem b_X8_alike {sl d : Nat} {M : mj_M} {x1 : Int32} {x2 : Int32}  : mj_C sl (d + 1) 108 [.ref 0, .int x1, .int x2] M = if x1 < 0 then (some (((-1) : Int32), M)) else (if x1 ≤ 200 then (if x2 = 100 then ((mj_C sl d 109 [.ref 0, .int x1] M).bind (fun q1 => if x2 = 100 then ((mj_C sl d 110 [.ref 0] q1.2).bind (fun q2 => some ((q2.1 : Int32), q2.2))) else ((mj_C sl d 111 [.ref 0, .int x2] q1.2).bind (fun q3 => some ((q3.1 : Int32), q3.2))))) else ((mj_C sl d 5 [.ref 3, .int x2] M).bind (fun q4 => if q4.1 = 0 then (some (((-1) : Int32), q4.2)) else ((mj_C sl d 109 [.ref 0, .int x1] q4.2).bind (fun q5 => if x2 = 100 then ((mj_C sl d 110 [.ref 0] q5.2).bind (fun q6 => some ((q6.1 : Int32), q6.2))) else ((mj_C sl d 111 [.ref 0, .int x2] q5.2).bind (fun q7 => some ((q7.1 : Int32), q7.2)))))))) else (some (((-1) : Int32), M))) := by
  show mj_E sl (d + 1) 108 0 [.ref 0, .int x1, .int x2] [] M = _
  refine (sx_iload_n dx_108_0 rfl).trans ?_
  refine (sx_if_lt (tgt := 28) dx_108_1 (by decide)).trans ?_
  refine mj_ite ?_ ?_
  · refine (sx_iconst (v := (-1)) dx_108_28 rfl).trans ?_
    exact sx_reti dx_108_29 rt_108
  · refine (sx_iload_n dx_108_4 rfl).trans ?_
    refine (sx_sipush (v := 200) dx_108_5 rfl).trans ?_
    refine (sx_icmp_gt (tgt := 28) dx_108_8 (by decide)).trans ?_
    refine mj_ite ?_ ?_
    · refine (sx_iload_n dx_108_11 rfl).trans ?_
      refine (sx_bipush (v := 100) dx_108_12 rfl).trans ?_
      refine (sx_icmp_eq (tgt := 30) dx_108_14 (by decide)).trans ?_
      refine mj_ite ?_ ?_
      · refine (sx_aload_n dx_108_30 rfl).trans ?_
        refine (sx_iload_n dx_108_31 rfl).trans ?_
        refine (sx_v1v dx_108_32 ow_108 cx_6_241 oc_0 (Nat.le_of_ble_eq_true rfl)).trans ?_
        refine mj_bnd (fun q1 => ?_)
        refine (sx_iload_n dx_108_35 rfl).trans ?_
        refine (sx_bipush (v := 100) dx_108_36 rfl).trans ?_
        refine (sx_icmp_ne (tgt := 48) dx_108_38 (by decide)).trans ?_
        refine mj_ite ?_ ?_
        · refine (sx_aload_n dx_108_41 rfl).trans ?_
          refine (sx_v0i dx_108_42 ow_108 cx_6_244 oc_0 (Nat.le_of_ble_eq_true rfl)).trans ?_
          refine mj_bnd (fun q2 => ?_)
          refine (sx_goto (tgt := 53) dx_108_45 (by decide)).trans ?_
          exact sx_reti dx_108_53 rt_108
        · refine (sx_aload_n dx_108_48 rfl).trans ?_
          refine (sx_iload_n dx_108_49 rfl).trans ?_
          refine (sx_v1i dx_108_50 ow_108 cx_6_247 oc_0 (Nat.le_of_ble_eq_true rfl)).trans ?_
          refine mj_bnd (fun q3 => ?_)
          exact sx_reti dx_108_53 rt_108
      · refine (sx_aload_n dx_108_17 rfl).trans ?_
        refine (sx_gfr dx_108_18 ow_108 fx_6_21 oc_0 rb_0_1).trans ?_
        refine (sx_iload_n dx_108_21 rfl).trans ?_
        refine (sx_v1i dx_108_22 ow_108 cx_6_85 oc_3 (Nat.le_of_ble_eq_true rfl)).trans ?_
        refine mj_bnd (fun q4 => ?_)
        refine (sx_if_ne (tgt := 30) dx_108_25 (by decide)).trans ?_
        refine mj_ite ?_ ?_
        · refine (sx_iconst (v := (-1)) dx_108_28 rfl).trans ?_
          exact sx_reti dx_108_29 rt_108
        · refine (sx_aload_n dx_108_30 rfl).trans ?_
          refine (sx_iload_n dx_108_31 rfl).trans ?_
          refine (sx_v1v dx_108_32 ow_108 cx_6_241 oc_0 (Nat.le_of_ble_eq_true rfl)).trans ?_
          refine mj_bnd (fun q5 => ?_)
          refine (sx_iload_n dx_108_35 rfl).trans ?_
          refine (sx_bipush (v := 100) dx_108_36 rfl).trans ?_
          refine (sx_icmp_ne (tgt := 48) dx_108_38 (by decide)).trans ?_
          refine mj_ite ?_ ?_
          · refine (sx_aload_n dx_108_41 rfl).trans ?_
            refine (sx_v0i dx_108_42 ow_108 cx_6_244 oc_0 (Nat.le_of_ble_eq_true rfl)).trans ?_
            refine mj_bnd (fun q6 => ?_)
            refine (sx_goto (tgt := 53) dx_108_45 (by decide)).trans ?_
            exact sx_reti dx_108_53 rt_108
          · refine (sx_aload_n dx_108_48 rfl).trans ?_
            refine (sx_iload_n dx_108_49 rfl).trans ?_
            refine (sx_v1i dx_108_50 ow_108 cx_6_247 oc_0 (Nat.le_of_ble_eq_true rfl)).trans ?_
            refine mj_bnd (fun q7 => ?_)
            exact sx_reti dx_108_53 rt_108
    · refine (sx_iconst (v := (-1)) dx_108_28 rfl).trans ?_
      exact sx_reti dx_108_29 rt_108
theorem dx_109_0 : mj_at 109 0 = some (.iconst 0) := by decide +kernel
theorem dx_109_1 : mj_at 109 1 = some (.istore_n 2) := by decide +kernel
theorem dx_109_2 : mj_at 109 2 = some (.iload_n 2) := by decide +kernel
theorem dx_109_3 : mj_at 109 3 = some (.bipush 10) := by decide +kernel
theorem dx_109_5 : mj_at 109 5 = some (.if_icmp .ge 77) := by decide +kernel
theorem dx_109_8 : mj_at 109 8 = some (.aload_n 0) := by decide +kernel
theorem dx_109_9 : mj_at 109 9 = some (.getfield 54) := by decide +kernel
theorem dx_109_12 : mj_at 109 12 = some (.iload_n 2) := by decide +kernel
theorem dx_109_13 : mj_at 109 13 = some (.iconst 0) := by decide +kernel
theorem dx_109_14 : mj_at 109 14 = some (.iastore) := by decide +kernel
theorem dx_109_15 : mj_at 109 15 = some (.iconst 0) := by decide +kernel
theorem dx_109_16 : mj_at 109 16 = some (.istore_n 3) := by decide +kernel
theorem dx_109_17 : mj_at 109 17 = some (.iload_n 3) := by decide +kernel
theorem dx_109_18 : mj_at 109 18 = some (.bipush 10) := by decide +kernel
theorem dx_109_20 : mj_at 109 20 = some (.if_icmp .ge 56) := by decide +kernel
theorem dx_109_23 : mj_at 109 23 = some (.aload_n 0) := by decide +kernel
theorem dx_109_24 : mj_at 109 24 = some (.getfield 21) := by decide +kernel
theorem dx_109_27 : mj_at 109 27 = some (.iload_n 2) := by decide +kernel
theorem dx_109_28 : mj_at 109 28 = some (.invokevirtual 85) := by decide +kernel
theorem dx_109_31 : mj_at 109 31 = some (.ifCond .eq 39) := by decide +kernel
theorem dx_109_34 : mj_at 109 34 = some (.aload_n 0) := by decide +kernel
theorem dx_109_35 : mj_at 109 35 = some (.getfield 21) := by decide +kernel
theorem dx_109_38 : mj_at 109 38 = some (.iload_n 3) := by decide +kernel
theorem dx_109_39 : mj_at 109 39 = some (.invokevirtual 85) := by decide +kernel
theorem dx_109_42 : mj_at 109 42 = some (.ifCond .eq 28) := by decide +kernel
theorem dx_109_45 : mj_at 109 45 = some (.aload_n 0) := by decide +kernel
theorem dx_109_46 : mj_at 109 46 = some (.getfield 21) := by decide +kernel
theorem dx_109_49 : mj_at 109 49 = some (.iload_n 2) := by decide +kernel
theorem dx_109_50 : mj_at 109 50 = some (.iload_n 3) := by decide +kernel
theorem dx_109_51 : mj_at 109 51 = some (.invokevirtual 238) := by decide +kernel
theorem dx_109_54 : mj_at 109 54 = some (.iload_n 1) := by decide +kernel
theorem dx_109_55 : mj_at 109 55 = some (.if_icmp .gt 15) := by decide +kernel
theorem dx_109_58 : mj_at 109 58 = some (.aload_n 0) := by decide +kernel
theorem dx_109_59 : mj_at 109 59 = some (.getfield 54) := by decide +kernel
theorem dx_109_62 : mj_at 109 62 = some (.iload_n 2) := by decide +kernel
theorem dx_109_63 : mj_at 109 63 = some (.dup2) := by decide +kernel
theorem dx_109_64 : mj_at 109 64 = some (.iaload) := by decide +kernel
theorem dx_109_65 : mj_at 109 65 = some (.iconst 1) := by decide +kernel
theorem dx_109_66 : mj_at 109 66 = some (.iload_n 3) := by decide +kernel
theorem dx_109_67 : mj_at 109 67 = some (.ishl) := by decide +kernel
theorem dx_109_68 : mj_at 109 68 = some (.ior) := by decide +kernel
theorem dx_109_69 : mj_at 109 69 = some (.iastore) := by decide +kernel
theorem dx_109_70 : mj_at 109 70 = some (.iinc 3 1) := by decide +kernel
theorem dx_109_73 : mj_at 109 73 = some (.goto (-56)) := by decide +kernel
theorem dx_109_76 : mj_at 109 76 = some (.iinc 2 1) := by decide +kernel
theorem dx_109_79 : mj_at 109 79 = some (.goto (-77)) := by decide +kernel
theorem dx_109_82 : mj_at 109 82 = some (.return_) := by decide +kernel
set_option maxRecDepth 10000 in
theorem b_X8_markNear {sl d : Nat} {M : mj_M} {x1 : Int32}  : mj_C sl (d + 1) 109 [.ref 0, .int x1] M = mj_E sl (d + 1) 109 2 [.ref 0, .int x1, .int 0, .null] [] M := by
  show mj_E sl (d + 1) 109 0 [.ref 0, .int x1, .null, .null] [] M = _
  refine (sx_iconst (v := 0) dx_109_0 rfl).trans ?_
  refine (sx_istore_n dx_109_1 (Nat.le_of_ble_eq_true rfl) rfl).trans ?_
  rfl
set_option maxRecDepth 10000 in
theorem b_X8_markNear_2 {sl d : Nat} {M : mj_M} {y1 : Int32} {y2 : Int32} {w3 : Value}  : mj_E sl (d + 1) 109 2 [.ref 0, .int y1, .int y2, w3] [] M = if y2 < 10 then (if mj_inB y2 10 = true then (mj_E sl (d + 1) 109 17 [.ref 0, .int y1, .int y2, .int 0] [] (mj_st M 36 (y2 : Int32).toNatClampNeg 0)) else none) else (some ((0 : Int32), M)) := by
  refine (sx_iload_n dx_109_2 rfl).trans ?_
  refine (sx_bipush (v := 10) dx_109_3 rfl).trans ?_
  refine (sx_icmp_ge (tgt := 82) dx_109_5 (by decide)).trans ?_
  refine mj_ite ?_ ?_
  · refine (sx_aload_n dx_109_8 rfl).trans ?_
    refine (sx_gfr dx_109_9 ow_109 fx_6_54 oc_0 rb_0_7).trans ?_
    refine (sx_iload_n dx_109_12 rfl).trans ?_
    refine (sx_iconst (v := 0) dx_109_13 rfl).trans ?_
    refine (sx_ist dx_109_14 ia_36).trans ?_
    refine mj_ite ?_ rfl
    refine (sx_iconst (v := 0) dx_109_15 rfl).trans ?_
    refine (sx_istore_n dx_109_16 (Nat.le_of_ble_eq_true rfl) rfl).trans ?_
    rfl
  · exact sx_retv dx_109_82 rt_109
set_option maxRecDepth 10000 in
theorem b_X8_markNear_17 {sl d : Nat} {M : mj_M} {y1 : Int32} {y2 : Int32} {y3 : Int32}  : mj_E sl (d + 1) 109 17 [.ref 0, .int y1, .int y2, .int y3] [] M = if y3 < 10 then ((mj_C sl d 5 [.ref 3, .int y2] M).bind (fun q1 => if q1.1 = 0 then (mj_E sl (d + 1) 109 17 [.ref 0, .int y1, .int y2, .int (y3 + 1)] [] q1.2) else ((mj_C sl d 5 [.ref 3, .int y3] q1.2).bind (fun q2 => if q2.1 = 0 then (mj_E sl (d + 1) 109 17 [.ref 0, .int y1, .int y2, .int (y3 + 1)] [] q2.2) else ((mj_C sl d 10 [.ref 3, .int y2, .int y3] q2.2).bind (fun q3 => if q3.1 ≤ y1 then (if mj_inB y2 10 = true then (if mj_inB y2 10 = true then (mj_E sl (d + 1) 109 17 [.ref 0, .int y1, .int y2, .int (y3 + 1)] [] (mj_st q3.2 36 (y2 : Int32).toNatClampNeg ((q3.2 36 (y2 : Int32).toNatClampNeg) ||| ((1 : Int32) <<< (y3 &&& 31))))) else none) else none) else (mj_E sl (d + 1) 109 17 [.ref 0, .int y1, .int y2, .int (y3 + 1)] [] q3.2))))))) else (mj_E sl (d + 1) 109 2 [.ref 0, .int y1, .int (y2 + 1), .int y3] [] M) := by
  refine (sx_iload_n dx_109_17 rfl).trans ?_
  refine (sx_bipush (v := 10) dx_109_18 rfl).trans ?_
  refine (sx_icmp_ge (tgt := 76) dx_109_20 (by decide)).trans ?_
  refine mj_ite ?_ ?_
  · refine (sx_aload_n dx_109_23 rfl).trans ?_
    refine (sx_gfr dx_109_24 ow_109 fx_6_21 oc_0 rb_0_1).trans ?_
    refine (sx_iload_n dx_109_27 rfl).trans ?_
    refine (sx_v1i dx_109_28 ow_109 cx_6_85 oc_3 (Nat.le_of_ble_eq_true rfl)).trans ?_
    refine mj_bnd (fun q1 => ?_)
    refine (sx_if_eq (tgt := 70) dx_109_31 (by decide)).trans ?_
    refine mj_ite ?_ ?_
    · refine (sx_iinc (v := 1) dx_109_70 rfl rfl rfl).trans ?_
      refine (sx_goto (tgt := 17) dx_109_73 (by decide)).trans ?_
      rfl
    · refine (sx_aload_n dx_109_34 rfl).trans ?_
      refine (sx_gfr dx_109_35 ow_109 fx_6_21 oc_0 rb_0_1).trans ?_
      refine (sx_iload_n dx_109_38 rfl).trans ?_
      refine (sx_v1i dx_109_39 ow_109 cx_6_85 oc_3 (Nat.le_of_ble_eq_true rfl)).trans ?_
      refine mj_bnd (fun q2 => ?_)
      refine (sx_if_eq (tgt := 70) dx_109_42 (by decide)).trans ?_
      refine mj_ite ?_ ?_
      · refine (sx_iinc (v := 1) dx_109_70 rfl rfl rfl).trans ?_
        refine (sx_goto (tgt := 17) dx_109_73 (by decide)).trans ?_
        rfl
      · refine (sx_aload_n dx_109_45 rfl).trans ?_
        refine (sx_gfr dx_109_46 ow_109 fx_6_21 oc_0 rb_0_1).trans ?_
        refine (sx_iload_n dx_109_49 rfl).trans ?_
        refine (sx_iload_n dx_109_50 rfl).trans ?_
        refine (sx_v2i dx_109_51 ow_109 cx_6_238 oc_3 (Nat.le_of_ble_eq_true rfl)).trans ?_
        refine mj_bnd (fun q3 => ?_)
        refine (sx_iload_n dx_109_54 rfl).trans ?_
        refine (sx_icmp_gt (tgt := 70) dx_109_55 (by decide)).trans ?_
        refine mj_ite ?_ ?_
        · refine (sx_aload_n dx_109_58 rfl).trans ?_
          refine (sx_gfr dx_109_59 ow_109 fx_6_54 oc_0 rb_0_7).trans ?_
          refine (sx_iload_n dx_109_62 rfl).trans ?_
          refine (sx_dup2 dx_109_63).trans ?_
          refine (sx_ild dx_109_64 (by decide) ia_36).trans ?_
          refine mj_ite ?_ rfl
          refine (sx_iconst (v := 1) dx_109_65 rfl).trans ?_
          refine (sx_iload_n dx_109_66 rfl).trans ?_
          refine (sx_ishl dx_109_67).trans ?_
          refine (sx_ior dx_109_68).trans ?_
          refine (sx_ist dx_109_69 ia_36).trans ?_
          refine mj_ite ?_ rfl
          refine (sx_iinc (v := 1) dx_109_70 rfl rfl rfl).trans ?_
          refine (sx_goto (tgt := 17) dx_109_73 (by decide)).trans ?_
          rfl
        · refine (sx_iinc (v := 1) dx_109_70 rfl rfl rfl).trans ?_
          refine (sx_goto (tgt := 17) dx_109_73 (by decide)).trans ?_
          rfl
  · refine (sx_iinc (v := 1) dx_109_76 rfl rfl rfl).trans ?_
    refine (sx_goto (tgt := 2) dx_109_79 (by decide)).trans ?_
    rfl
theorem dx_110_0 : mj_at 110 0 = some (.iconst 0) := by decide +kernel
theorem dx_110_1 : mj_at 110 1 = some (.istore_n 1) := by decide +kernel
theorem dx_110_2 : mj_at 110 2 = some (.iconst 0) := by decide +kernel
theorem dx_110_3 : mj_at 110 3 = some (.istore_n 2) := by decide +kernel
theorem dx_110_4 : mj_at 110 4 = some (.iconst 0) := by decide +kernel
theorem dx_110_5 : mj_at 110 5 = some (.istore_n 3) := by decide +kernel
theorem dx_110_6 : mj_at 110 6 = some (.iload_n 3) := by decide +kernel
theorem dx_110_7 : mj_at 110 7 = some (.bipush 10) := by decide +kernel
theorem dx_110_9 : mj_at 110 9 = some (.if_icmp .ge 39) := by decide +kernel
theorem dx_110_12 : mj_at 110 12 = some (.aload_n 0) := by decide +kernel
theorem dx_110_13 : mj_at 110 13 = some (.getfield 21) := by decide +kernel
theorem dx_110_16 : mj_at 110 16 = some (.iload_n 3) := by decide +kernel
theorem dx_110_17 : mj_at 110 17 = some (.invokevirtual 85) := by decide +kernel
theorem dx_110_20 : mj_at 110 20 = some (.ifCond .eq 22) := by decide +kernel
theorem dx_110_23 : mj_at 110 23 = some (.iload_n 2) := by decide +kernel
theorem dx_110_24 : mj_at 110 24 = some (.iload_n 3) := by decide +kernel
theorem dx_110_25 : mj_at 110 25 = some (.ishr) := by decide +kernel
theorem dx_110_26 : mj_at 110 26 = some (.iconst 1) := by decide +kernel
theorem dx_110_27 : mj_at 110 27 = some (.iand) := by decide +kernel
theorem dx_110_28 : mj_at 110 28 = some (.ifCond .ne 14) := by decide +kernel
theorem dx_110_31 : mj_at 110 31 = some (.iinc 1 1) := by decide +kernel
theorem dx_110_34 : mj_at 110 34 = some (.iload_n 2) := by decide +kernel
theorem dx_110_35 : mj_at 110 35 = some (.aload_n 0) := by decide +kernel
theorem dx_110_36 : mj_at 110 36 = some (.iload_n 3) := by decide +kernel
theorem dx_110_37 : mj_at 110 37 = some (.invokevirtual 247) := by decide +kernel
theorem dx_110_40 : mj_at 110 40 = some (.ior) := by decide +kernel
theorem dx_110_41 : mj_at 110 41 = some (.istore_n 2) := by decide +kernel
theorem dx_110_42 : mj_at 110 42 = some (.iinc 3 1) := by decide +kernel
theorem dx_110_45 : mj_at 110 45 = some (.goto (-39)) := by decide +kernel
theorem dx_110_48 : mj_at 110 48 = some (.iload_n 1) := by decide +kernel
theorem dx_110_49 : mj_at 110 49 = some (.ireturn) := by decide +kernel
set_option maxRecDepth 10000 in
theorem b_X8_groups {sl d : Nat} {M : mj_M}   : mj_C sl (d + 1) 110 [.ref 0] M = mj_E sl (d + 1) 110 6 [.ref 0, .int 0, .int 0, .int 0] [] M := by
  show mj_E sl (d + 1) 110 0 [.ref 0, .null, .null, .null] [] M = _
  refine (sx_iconst (v := 0) dx_110_0 rfl).trans ?_
  refine (sx_istore_n dx_110_1 (Nat.le_of_ble_eq_true rfl) rfl).trans ?_
  refine (sx_iconst (v := 0) dx_110_2 rfl).trans ?_
  refine (sx_istore_n dx_110_3 (Nat.le_of_ble_eq_true rfl) rfl).trans ?_
  refine (sx_iconst (v := 0) dx_110_4 rfl).trans ?_
  refine (sx_istore_n dx_110_5 (Nat.le_of_ble_eq_true rfl) rfl).trans ?_
  rfl
set_option maxRecDepth 10000 in
theorem b_X8_groups_6 {sl d : Nat} {M : mj_M} {y1 : Int32} {y2 : Int32} {y3 : Int32}  : mj_E sl (d + 1) 110 6 [.ref 0, .int y1, .int y2, .int y3] [] M = if y3 < 10 then ((mj_C sl d 5 [.ref 3, .int y3] M).bind (fun q1 => if q1.1 = 0 then (mj_E sl (d + 1) 110 6 [.ref 0, .int y1, .int y2, .int (y3 + 1)] [] q1.2) else (if (y2 >>> (y3 &&& 31)) &&& 1 = 0 then ((mj_C sl d 111 [.ref 0, .int y3] q1.2).bind (fun q2 => mj_E sl (d + 1) 110 6 [.ref 0, .int (y1 + 1), .int (y2 ||| q2.1), .int (y3 + 1)] [] q2.2)) else (mj_E sl (d + 1) 110 6 [.ref 0, .int y1, .int y2, .int (y3 + 1)] [] q1.2)))) else (some ((y1 : Int32), M)) := by
  refine (sx_iload_n dx_110_6 rfl).trans ?_
  refine (sx_bipush (v := 10) dx_110_7 rfl).trans ?_
  refine (sx_icmp_ge (tgt := 48) dx_110_9 (by decide)).trans ?_
  refine mj_ite ?_ ?_
  · refine (sx_aload_n dx_110_12 rfl).trans ?_
    refine (sx_gfr dx_110_13 ow_110 fx_6_21 oc_0 rb_0_1).trans ?_
    refine (sx_iload_n dx_110_16 rfl).trans ?_
    refine (sx_v1i dx_110_17 ow_110 cx_6_85 oc_3 (Nat.le_of_ble_eq_true rfl)).trans ?_
    refine mj_bnd (fun q1 => ?_)
    refine (sx_if_eq (tgt := 42) dx_110_20 (by decide)).trans ?_
    refine mj_ite ?_ ?_
    · refine (sx_iinc (v := 1) dx_110_42 rfl rfl rfl).trans ?_
      refine (sx_goto (tgt := 6) dx_110_45 (by decide)).trans ?_
      rfl
    · refine (sx_iload_n dx_110_23 rfl).trans ?_
      refine (sx_iload_n dx_110_24 rfl).trans ?_
      refine (sx_ishr dx_110_25).trans ?_
      refine (sx_iconst (v := 1) dx_110_26 rfl).trans ?_
      refine (sx_iand dx_110_27).trans ?_
      refine (sx_if_ne (tgt := 42) dx_110_28 (by decide)).trans ?_
      refine mj_ite ?_ ?_
      · refine (sx_iinc (v := 1) dx_110_31 rfl rfl rfl).trans ?_
        refine (sx_iload_n dx_110_34 rfl).trans ?_
        refine (sx_aload_n dx_110_35 rfl).trans ?_
        refine (sx_iload_n dx_110_36 rfl).trans ?_
        refine (sx_v1i dx_110_37 ow_110 cx_6_247 oc_0 (Nat.le_of_ble_eq_true rfl)).trans ?_
        refine mj_bnd (fun q2 => ?_)
        refine (sx_ior dx_110_40).trans ?_
        refine (sx_istore_n dx_110_41 (Nat.le_of_ble_eq_true rfl) rfl).trans ?_
        refine (sx_iinc (v := 1) dx_110_42 rfl rfl rfl).trans ?_
        refine (sx_goto (tgt := 6) dx_110_45 (by decide)).trans ?_
        rfl
      · refine (sx_iinc (v := 1) dx_110_42 rfl rfl rfl).trans ?_
        refine (sx_goto (tgt := 6) dx_110_45 (by decide)).trans ?_
        rfl
  · refine (sx_iload_n dx_110_48 rfl).trans ?_
    exact sx_reti dx_110_49 rt_110
theorem dx_111_0 : mj_at 111 0 = some (.iconst 1) := by decide +kernel
theorem dx_111_1 : mj_at 111 1 = some (.iload_n 1) := by decide +kernel
theorem dx_111_2 : mj_at 111 2 = some (.ishl) := by decide +kernel
theorem dx_111_3 : mj_at 111 3 = some (.istore_n 2) := by decide +kernel
theorem dx_111_4 : mj_at 111 4 = some (.iconst 0) := by decide +kernel
theorem dx_111_5 : mj_at 111 5 = some (.istore_n 3) := by decide +kernel
theorem dx_111_6 : mj_at 111 6 = some (.iload_n 3) := by decide +kernel
theorem dx_111_7 : mj_at 111 7 = some (.bipush 10) := by decide +kernel
theorem dx_111_9 : mj_at 111 9 = some (.if_icmp .ge 45) := by decide +kernel
theorem dx_111_12 : mj_at 111 12 = some (.iconst 0) := by decide +kernel
theorem dx_111_13 : mj_at 111 13 = some (.istore 4) := by decide +kernel
theorem dx_111_15 : mj_at 111 15 = some (.iload 4) := by decide +kernel
theorem dx_111_17 : mj_at 111 17 = some (.bipush 10) := by decide +kernel
theorem dx_111_19 : mj_at 111 19 = some (.if_icmp .ge 29) := by decide +kernel
theorem dx_111_22 : mj_at 111 22 = some (.iload_n 2) := by decide +kernel
theorem dx_111_23 : mj_at 111 23 = some (.iload 4) := by decide +kernel
theorem dx_111_25 : mj_at 111 25 = some (.ishr) := by decide +kernel
theorem dx_111_26 : mj_at 111 26 = some (.iconst 1) := by decide +kernel
theorem dx_111_27 : mj_at 111 27 = some (.iand) := by decide +kernel
theorem dx_111_28 : mj_at 111 28 = some (.iconst 1) := by decide +kernel
theorem dx_111_29 : mj_at 111 29 = some (.if_icmp .ne 13) := by decide +kernel
theorem dx_111_32 : mj_at 111 32 = some (.iload_n 2) := by decide +kernel
theorem dx_111_33 : mj_at 111 33 = some (.aload_n 0) := by decide +kernel
theorem dx_111_34 : mj_at 111 34 = some (.getfield 54) := by decide +kernel
theorem dx_111_37 : mj_at 111 37 = some (.iload 4) := by decide +kernel
theorem dx_111_39 : mj_at 111 39 = some (.iaload) := by decide +kernel
theorem dx_111_40 : mj_at 111 40 = some (.ior) := by decide +kernel
theorem dx_111_41 : mj_at 111 41 = some (.istore_n 2) := by decide +kernel
theorem dx_111_42 : mj_at 111 42 = some (.iinc 4 1) := by decide +kernel
theorem dx_111_45 : mj_at 111 45 = some (.goto (-30)) := by decide +kernel
theorem dx_111_48 : mj_at 111 48 = some (.iinc 3 1) := by decide +kernel
theorem dx_111_51 : mj_at 111 51 = some (.goto (-45)) := by decide +kernel
theorem dx_111_54 : mj_at 111 54 = some (.iload_n 2) := by decide +kernel
theorem dx_111_55 : mj_at 111 55 = some (.ireturn) := by decide +kernel
set_option maxRecDepth 10000 in
theorem b_X8_groupOf {sl d : Nat} {M : mj_M} {x1 : Int32}  : mj_C sl d 111 [.ref 0, .int x1] M = mj_E sl d 111 6 [.ref 0, .int x1, .int ((1 : Int32) <<< (x1 &&& 31)), .int 0, .null] [] M := by
  show mj_E sl d 111 0 [.ref 0, .int x1, .null, .null, .null] [] M = _
  refine (sx_iconst (v := 1) dx_111_0 rfl).trans ?_
  refine (sx_iload_n dx_111_1 rfl).trans ?_
  refine (sx_ishl dx_111_2).trans ?_
  refine (sx_istore_n dx_111_3 (Nat.le_of_ble_eq_true rfl) rfl).trans ?_
  refine (sx_iconst (v := 0) dx_111_4 rfl).trans ?_
  refine (sx_istore_n dx_111_5 (Nat.le_of_ble_eq_true rfl) rfl).trans ?_
  rfl
set_option maxRecDepth 10000 in
theorem b_X8_groupOf_6 {sl d : Nat} {M : mj_M} {w1 : Value} {y2 : Int32} {y3 : Int32} {w4 : Value}  : mj_E sl d 111 6 [.ref 0, w1, .int y2, .int y3, w4] [] M = if y3 < 10 then (mj_E sl d 111 15 [.ref 0, w1, .int y2, .int y3, .int 0] [] M) else (some ((y2 : Int32), M)) := by
  refine (sx_iload_n dx_111_6 rfl).trans ?_
  refine (sx_bipush (v := 10) dx_111_7 rfl).trans ?_
  refine (sx_icmp_ge (tgt := 54) dx_111_9 (by decide)).trans ?_
  refine mj_ite ?_ ?_
  · refine (sx_iconst (v := 0) dx_111_12 rfl).trans ?_
    refine (sx_istore dx_111_13 (Nat.le_of_ble_eq_true rfl) rfl).trans ?_
    rfl
  · refine (sx_iload_n dx_111_54 rfl).trans ?_
    exact sx_reti dx_111_55 rt_111
set_option maxRecDepth 10000 in
theorem b_X8_groupOf_15 {sl d : Nat} {M : mj_M} {w1 : Value} {y2 : Int32} {y3 : Int32} {y4 : Int32}  : mj_E sl d 111 15 [.ref 0, w1, .int y2, .int y3, .int y4] [] M = if y4 < 10 then (if (y2 >>> (y4 &&& 31)) &&& 1 = 1 then (if mj_inB y4 10 = true then (mj_E sl d 111 15 [.ref 0, w1, .int (y2 ||| (M 36 (y4 : Int32).toNatClampNeg)), .int y3, .int (y4 + 1)] [] M) else none) else (mj_E sl d 111 15 [.ref 0, w1, .int y2, .int y3, .int (y4 + 1)] [] M)) else (mj_E sl d 111 6 [.ref 0, w1, .int y2, .int (y3 + 1), .int y4] [] M) := by
  refine (sx_iload dx_111_15 rfl).trans ?_
  refine (sx_bipush (v := 10) dx_111_17 rfl).trans ?_
  refine (sx_icmp_ge (tgt := 48) dx_111_19 (by decide)).trans ?_
  refine mj_ite ?_ ?_
  · refine (sx_iload_n dx_111_22 rfl).trans ?_
    refine (sx_iload dx_111_23 rfl).trans ?_
    refine (sx_ishr dx_111_25).trans ?_
    refine (sx_iconst (v := 1) dx_111_26 rfl).trans ?_
    refine (sx_iand dx_111_27).trans ?_
    refine (sx_iconst (v := 1) dx_111_28 rfl).trans ?_
    refine (sx_icmp_ne (tgt := 42) dx_111_29 (by decide)).trans ?_
    refine mj_ite ?_ ?_
    · refine (sx_iload_n dx_111_32 rfl).trans ?_
      refine (sx_aload_n dx_111_33 rfl).trans ?_
      refine (sx_gfr dx_111_34 ow_111 fx_6_54 oc_0 rb_0_7).trans ?_
      refine (sx_iload dx_111_37 rfl).trans ?_
      refine (sx_ild dx_111_39 (by decide) ia_36).trans ?_
      refine mj_ite ?_ rfl
      refine (sx_ior dx_111_40).trans ?_
      refine (sx_istore_n dx_111_41 (Nat.le_of_ble_eq_true rfl) rfl).trans ?_
      refine (sx_iinc (v := 1) dx_111_42 rfl rfl rfl).trans ?_
      refine (sx_goto (tgt := 15) dx_111_45 (by decide)).trans ?_
      rfl
    · refine (sx_iinc (v := 1) dx_111_42 rfl rfl rfl).trans ?_
      refine (sx_goto (tgt := 15) dx_111_45 (by decide)).trans ?_
      rfl
  · refine (sx_iinc (v := 1) dx_111_48 rfl rfl rfl).trans ?_
    refine (sx_goto (tgt := 6) dx_111_51 (by decide)).trans ?_
    rfl
theorem dx_112_0 : mj_at 112 0 = some (.iload_n 1) := by decide +kernel
theorem dx_112_1 : mj_at 112 1 = some (.iconst 1) := by decide +kernel
theorem dx_112_2 : mj_at 112 2 = some (.if_icmp .lt 18) := by decide +kernel
theorem dx_112_5 : mj_at 112 5 = some (.iload_n 1) := by decide +kernel
theorem dx_112_6 : mj_at 112 6 = some (.bipush 60) := by decide +kernel
theorem dx_112_8 : mj_at 112 8 = some (.if_icmp .gt 12) := by decide +kernel
theorem dx_112_11 : mj_at 112 11 = some (.iload_n 2) := by decide +kernel
theorem dx_112_12 : mj_at 112 12 = some (.ifCond .lt 8) := by decide +kernel
theorem dx_112_15 : mj_at 112 15 = some (.iload_n 2) := by decide +kernel
theorem dx_112_16 : mj_at 112 16 = some (.iconst 1) := by decide +kernel
theorem dx_112_17 : mj_at 112 17 = some (.if_icmp .le 5) := by decide +kernel
theorem dx_112_20 : mj_at 112 20 = some (.iconst (-1)) := by decide +kernel
theorem dx_112_21 : mj_at 112 21 = some (.ireturn) := by decide +kernel
theorem dx_112_22 : mj_at 112 22 = some (.aload_n 0) := by decide +kernel
theorem dx_112_23 : mj_at 112 23 = some (.getfield 28) := by decide +kernel
theorem dx_112_26 : mj_at 112 26 = some (.aload_n 0) := by decide +kernel
theorem dx_112_27 : mj_at 112 27 = some (.getfield 21) := by decide +kernel
theorem dx_112_30 : mj_at 112 30 = some (.invokevirtual 119) := by decide +kernel
theorem dx_112_33 : mj_at 112 33 = some (.aload_n 0) := by decide +kernel
theorem dx_112_34 : mj_at 112 34 = some (.getfield 28) := by decide +kernel
theorem dx_112_37 : mj_at 112 37 = some (.iload_n 1) := by decide +kernel
theorem dx_112_38 : mj_at 112 38 = some (.aload_n 0) := by decide +kernel
theorem dx_112_39 : mj_at 112 39 = some (.getfield 64) := by decide +kernel
theorem dx_112_42 : mj_at 112 42 = some (.invokevirtual 129) := by decide +kernel
theorem dx_112_45 : mj_at 112 45 = some (.aload_n 0) := by decide +kernel
theorem dx_112_46 : mj_at 112 46 = some (.getfield 28) := by decide +kernel
theorem dx_112_49 : mj_at 112 49 = some (.invokevirtual 156) := by decide +kernel
theorem dx_112_52 : mj_at 112 52 = some (.aload_n 0) := by decide +kernel
theorem dx_112_53 : mj_at 112 53 = some (.getfield 21) := by decide +kernel
theorem dx_112_56 : mj_at 112 56 = some (.invokevirtual 156) := by decide +kernel
theorem dx_112_59 : mj_at 112 59 = some (.bipush (-2)) := by decide +kernel
theorem dx_112_61 : mj_at 112 61 = some (.istore_n 3) := by decide +kernel
theorem dx_112_62 : mj_at 112 62 = some (.iconst 0) := by decide +kernel
theorem dx_112_63 : mj_at 112 63 = some (.istore 4) := by decide +kernel
theorem dx_112_65 : mj_at 112 65 = some (.iconst 0) := by decide +kernel
theorem dx_112_66 : mj_at 112 66 = some (.istore 5) := by decide +kernel
theorem dx_112_68 : mj_at 112 68 = some (.iload 5) := by decide +kernel
theorem dx_112_70 : mj_at 112 70 = some (.bipush 10) := by decide +kernel
theorem dx_112_72 : mj_at 112 72 = some (.if_icmp .ge 62) := by decide +kernel
theorem dx_112_75 : mj_at 112 75 = some (.aload_n 0) := by decide +kernel
theorem dx_112_76 : mj_at 112 76 = some (.getfield 21) := by decide +kernel
theorem dx_112_79 : mj_at 112 79 = some (.iload 5) := by decide +kernel
theorem dx_112_81 : mj_at 112 81 = some (.invokevirtual 85) := by decide +kernel
theorem dx_112_84 : mj_at 112 84 = some (.ifCond .eq 27) := by decide +kernel
theorem dx_112_87 : mj_at 112 87 = some (.aload_n 0) := by decide +kernel
theorem dx_112_88 : mj_at 112 88 = some (.getfield 21) := by decide +kernel
theorem dx_112_91 : mj_at 112 91 = some (.getfield 159) := by decide +kernel
theorem dx_112_94 : mj_at 112 94 = some (.iload 5) := by decide +kernel
theorem dx_112_96 : mj_at 112 96 = some (.iaload) := by decide +kernel
theorem dx_112_97 : mj_at 112 97 = some (.aload_n 0) := by decide +kernel
theorem dx_112_98 : mj_at 112 98 = some (.getfield 28) := by decide +kernel
theorem dx_112_101 : mj_at 112 101 = some (.getfield 159) := by decide +kernel
theorem dx_112_104 : mj_at 112 104 = some (.iload 5) := by decide +kernel
theorem dx_112_106 : mj_at 112 106 = some (.iaload) := by decide +kernel
theorem dx_112_107 : mj_at 112 107 = some (.isub) := by decide +kernel
theorem dx_112_108 : mj_at 112 108 = some (.goto 4) := by decide +kernel
theorem dx_112_111 : mj_at 112 111 = some (.iconst 0) := by decide +kernel
theorem dx_112_112 : mj_at 112 112 = some (.istore 6) := by decide +kernel
theorem dx_112_114 : mj_at 112 114 = some (.iload 6) := by decide +kernel
theorem dx_112_116 : mj_at 112 116 = some (.iload 4) := by decide +kernel
theorem dx_112_118 : mj_at 112 118 = some (.if_icmp .le 10) := by decide +kernel
theorem dx_112_121 : mj_at 112 121 = some (.iload 5) := by decide +kernel
theorem dx_112_123 : mj_at 112 123 = some (.istore_n 3) := by decide +kernel
theorem dx_112_124 : mj_at 112 124 = some (.iload 6) := by decide +kernel
theorem dx_112_126 : mj_at 112 126 = some (.istore 4) := by decide +kernel
theorem dx_112_128 : mj_at 112 128 = some (.iinc 5 1) := by decide +kernel
theorem dx_112_131 : mj_at 112 131 = some (.goto (-63)) := by decide +kernel
theorem dx_112_134 : mj_at 112 134 = some (.iload_n 2) := by decide +kernel
theorem dx_112_135 : mj_at 112 135 = some (.ifCond .ne 7) := by decide +kernel
theorem dx_112_138 : mj_at 112 138 = some (.iload_n 3) := by decide +kernel
theorem dx_112_139 : mj_at 112 139 = some (.goto 5) := by decide +kernel
theorem dx_112_142 : mj_at 112 142 = some (.iload 4) := by decide +kernel
theorem dx_112_144 : mj_at 112 144 = some (.ireturn) := by decide +kernel
set_option maxRecDepth 10000 in
theorem b_X8_rises {sl d : Nat} {M : mj_M} {x1 : Int32} {x2 : Int32}  : mj_C sl (d + 1) 112 [.ref 0, .int x1, .int x2] M = if x1 < 1 then (some (((-1) : Int32), M)) else (if x1 ≤ 60 then (if x2 < 0 then (some (((-1) : Int32), M)) else (if x2 ≤ 1 then ((mj_C sl d 4 [.ref 15, .ref 3] M).bind (fun q1 => (mj_C sl d 14 [.ref 15, .int x1, .ref (mj_lw (q1.2 0 9))] q1.2).bind (fun q2 => (mj_C sl d 11 [.ref 15] q2.2).bind (fun q3 => (mj_C sl d 11 [.ref 3] q3.2).bind (fun q4 => mj_E sl (d + 1) 112 68 [.ref 0, .int x1, .int x2, .int (-2), .int 0, .int 0, .null] [] q4.2))))) else (some (((-1) : Int32), M)))) else (some (((-1) : Int32), M))) := by
  show mj_E sl (d + 1) 112 0 [.ref 0, .int x1, .int x2, .null, .null, .null, .null] [] M = _
  refine (sx_iload_n dx_112_0 rfl).trans ?_
  refine (sx_iconst (v := 1) dx_112_1 rfl).trans ?_
  refine (sx_icmp_lt (tgt := 20) dx_112_2 (by decide)).trans ?_
  refine mj_ite ?_ ?_
  · refine (sx_iconst (v := (-1)) dx_112_20 rfl).trans ?_
    exact sx_reti dx_112_21 rt_112
  · refine (sx_iload_n dx_112_5 rfl).trans ?_
    refine (sx_bipush (v := 60) dx_112_6 rfl).trans ?_
    refine (sx_icmp_gt (tgt := 20) dx_112_8 (by decide)).trans ?_
    refine mj_ite ?_ ?_
    · refine (sx_iload_n dx_112_11 rfl).trans ?_
      refine (sx_if_lt (tgt := 20) dx_112_12 (by decide)).trans ?_
      refine mj_ite ?_ ?_
      · refine (sx_iconst (v := (-1)) dx_112_20 rfl).trans ?_
        exact sx_reti dx_112_21 rt_112
      · refine (sx_iload_n dx_112_15 rfl).trans ?_
        refine (sx_iconst (v := 1) dx_112_16 rfl).trans ?_
        refine (sx_icmp_le (tgt := 22) dx_112_17 (by decide)).trans ?_
        refine mj_ite ?_ ?_
        · refine (sx_aload_n dx_112_22 rfl).trans ?_
          refine (sx_gfr dx_112_23 ow_112 fx_6_28 oc_0 rb_0_3).trans ?_
          refine (sx_aload_n dx_112_26 rfl).trans ?_
          refine (sx_gfr dx_112_27 ow_112 fx_6_21 oc_0 rb_0_1).trans ?_
          refine (sx_v1v dx_112_30 ow_112 cx_6_119 oc_15 (Nat.le_of_ble_eq_true rfl)).trans ?_
          refine mj_bnd (fun q1 => ?_)
          refine (sx_aload_n dx_112_33 rfl).trans ?_
          refine (sx_gfr dx_112_34 ow_112 fx_6_28 oc_0 rb_0_3).trans ?_
          refine (sx_iload_n dx_112_37 rfl).trans ?_
          refine (sx_aload_n dx_112_38 rfl).trans ?_
          refine (sx_gfl dx_112_39 ow_112 fx_6_64 oc_0).trans ?_
          refine (sx_v2v dx_112_42 ow_112 cx_6_129 oc_15 (Nat.le_of_ble_eq_true rfl)).trans ?_
          refine mj_bnd (fun q2 => ?_)
          refine (sx_aload_n dx_112_45 rfl).trans ?_
          refine (sx_gfr dx_112_46 ow_112 fx_6_28 oc_0 rb_0_3).trans ?_
          refine (sx_v0v dx_112_49 ow_112 cx_6_156 oc_15 (Nat.le_of_ble_eq_true rfl)).trans ?_
          refine mj_bnd (fun q3 => ?_)
          refine (sx_aload_n dx_112_52 rfl).trans ?_
          refine (sx_gfr dx_112_53 ow_112 fx_6_21 oc_0 rb_0_1).trans ?_
          refine (sx_v0v dx_112_56 ow_112 cx_6_156 oc_3 (Nat.le_of_ble_eq_true rfl)).trans ?_
          refine mj_bnd (fun q4 => ?_)
          refine (sx_bipush (v := (-2)) dx_112_59 rfl).trans ?_
          refine (sx_istore_n dx_112_61 (Nat.le_of_ble_eq_true rfl) rfl).trans ?_
          refine (sx_iconst (v := 0) dx_112_62 rfl).trans ?_
          refine (sx_istore dx_112_63 (Nat.le_of_ble_eq_true rfl) rfl).trans ?_
          refine (sx_iconst (v := 0) dx_112_65 rfl).trans ?_
          refine (sx_istore dx_112_66 (Nat.le_of_ble_eq_true rfl) rfl).trans ?_
          rfl
        · refine (sx_iconst (v := (-1)) dx_112_20 rfl).trans ?_
          exact sx_reti dx_112_21 rt_112
    · refine (sx_iconst (v := (-1)) dx_112_20 rfl).trans ?_
      exact sx_reti dx_112_21 rt_112
set_option maxRecDepth 10000 in
theorem b_X8_rises_68 {sl d : Nat} {M : mj_M} {w1 : Value} {y2 : Int32} {y3 : Int32} {y4 : Int32} {y5 : Int32} {w6 : Value}  : mj_E sl (d + 1) 112 68 [.ref 0, w1, .int y2, .int y3, .int y4, .int y5, w6] [] M = if y5 < 10 then ((mj_C sl d 5 [.ref 3, .int y5] M).bind (fun q1 => if q1.1 = 0 then (if 0 ≤ y4 then (mj_E sl (d + 1) 112 68 [.ref 0, w1, .int y2, .int y3, .int y4, .int (y5 + 1), .int 0] [] q1.2) else (mj_E sl (d + 1) 112 68 [.ref 0, w1, .int y2, .int y5, .int 0, .int (y5 + 1), .int 0] [] q1.2)) else (if mj_inB y5 10 = true then (if mj_inB y5 10 = true then (if (q1.2 8 (y5 : Int32).toNatClampNeg) - (q1.2 20 (y5 : Int32).toNatClampNeg) ≤ y4 then (mj_E sl (d + 1) 112 68 [.ref 0, w1, .int y2, .int y3, .int y4, .int (y5 + 1), .int ((q1.2 8 (y5 : Int32).toNatClampNeg) - (q1.2 20 (y5 : Int32).toNatClampNeg))] [] q1.2) else (mj_E sl (d + 1) 112 68 [.ref 0, w1, .int y2, .int y5, .int ((q1.2 8 (y5 : Int32).toNatClampNeg) - (q1.2 20 (y5 : Int32).toNatClampNeg)), .int (y5 + 1), .int ((q1.2 8 (y5 : Int32).toNatClampNeg) - (q1.2 20 (y5 : Int32).toNatClampNeg))] [] q1.2)) else none) else none))) else (if y2 = 0 then (some ((y3 : Int32), M)) else (some ((y4 : Int32), M))) := by
  refine (sx_iload dx_112_68 rfl).trans ?_
  refine (sx_bipush (v := 10) dx_112_70 rfl).trans ?_
  refine (sx_icmp_ge (tgt := 134) dx_112_72 (by decide)).trans ?_
  refine mj_ite ?_ ?_
  · refine (sx_aload_n dx_112_75 rfl).trans ?_
    refine (sx_gfr dx_112_76 ow_112 fx_6_21 oc_0 rb_0_1).trans ?_
    refine (sx_iload dx_112_79 rfl).trans ?_
    refine (sx_v1i dx_112_81 ow_112 cx_6_85 oc_3 (Nat.le_of_ble_eq_true rfl)).trans ?_
    refine mj_bnd (fun q1 => ?_)
    refine (sx_if_eq (tgt := 111) dx_112_84 (by decide)).trans ?_
    refine mj_ite ?_ ?_
    · refine (sx_iconst (v := 0) dx_112_111 rfl).trans ?_
      refine (sx_istore dx_112_112 (Nat.le_of_ble_eq_true rfl) rfl).trans ?_
      refine (sx_iload dx_112_114 rfl).trans ?_
      refine (sx_iload dx_112_116 rfl).trans ?_
      refine (sx_icmp_le (tgt := 128) dx_112_118 (by decide)).trans ?_
      refine mj_ite ?_ ?_
      · refine (sx_iinc (v := 1) dx_112_128 rfl rfl rfl).trans ?_
        refine (sx_goto (tgt := 68) dx_112_131 (by decide)).trans ?_
        rfl
      · refine (sx_iload dx_112_121 rfl).trans ?_
        refine (sx_istore_n dx_112_123 (Nat.le_of_ble_eq_true rfl) rfl).trans ?_
        refine (sx_iload dx_112_124 rfl).trans ?_
        refine (sx_istore dx_112_126 (Nat.le_of_ble_eq_true rfl) rfl).trans ?_
        refine (sx_iinc (v := 1) dx_112_128 rfl rfl rfl).trans ?_
        refine (sx_goto (tgt := 68) dx_112_131 (by decide)).trans ?_
        rfl
    · refine (sx_aload_n dx_112_87 rfl).trans ?_
      refine (sx_gfr dx_112_88 ow_112 fx_6_21 oc_0 rb_0_1).trans ?_
      refine (sx_gfr dx_112_91 ow_112 fx_6_159 oc_3 rb_3_5).trans ?_
      refine (sx_iload dx_112_94 rfl).trans ?_
      refine (sx_ild dx_112_96 (by decide) ia_8).trans ?_
      refine mj_ite ?_ rfl
      refine (sx_aload_n dx_112_97 rfl).trans ?_
      refine (sx_gfr dx_112_98 ow_112 fx_6_28 oc_0 rb_0_3).trans ?_
      refine (sx_gfr dx_112_101 ow_112 fx_6_159 oc_15 rb_15_5).trans ?_
      refine (sx_iload dx_112_104 rfl).trans ?_
      refine (sx_ild dx_112_106 (by decide) ia_20).trans ?_
      refine mj_ite ?_ rfl
      refine (sx_isub dx_112_107).trans ?_
      refine (sx_goto (tgt := 112) dx_112_108 (by decide)).trans ?_
      refine (sx_istore dx_112_112 (Nat.le_of_ble_eq_true rfl) rfl).trans ?_
      refine (sx_iload dx_112_114 rfl).trans ?_
      refine (sx_iload dx_112_116 rfl).trans ?_
      refine (sx_icmp_le (tgt := 128) dx_112_118 (by decide)).trans ?_
      refine mj_ite ?_ ?_
      · refine (sx_iinc (v := 1) dx_112_128 rfl rfl rfl).trans ?_
        refine (sx_goto (tgt := 68) dx_112_131 (by decide)).trans ?_
        rfl
      · refine (sx_iload dx_112_121 rfl).trans ?_
        refine (sx_istore_n dx_112_123 (Nat.le_of_ble_eq_true rfl) rfl).trans ?_
        refine (sx_iload dx_112_124 rfl).trans ?_
        refine (sx_istore dx_112_126 (Nat.le_of_ble_eq_true rfl) rfl).trans ?_
        refine (sx_iinc (v := 1) dx_112_128 rfl rfl rfl).trans ?_
        refine (sx_goto (tgt := 68) dx_112_131 (by decide)).trans ?_
        rfl
  · refine (sx_iload_n dx_112_134 rfl).trans ?_
    refine (sx_if_ne (tgt := 142) dx_112_135 (by decide)).trans ?_
    refine mj_ite ?_ ?_
    · refine (sx_iload_n dx_112_138 rfl).trans ?_
      refine (sx_goto (tgt := 144) dx_112_139 (by decide)).trans ?_
      exact sx_reti dx_112_144 rt_112
    · refine (sx_iload dx_112_142 rfl).trans ?_
      exact sx_reti dx_112_144 rt_112
theorem dx_113_0 : mj_at 113 0 = some (.aload_n 0) := by decide +kernel
theorem dx_113_1 : mj_at 113 1 = some (.getfield 21) := by decide +kernel
theorem dx_113_4 : mj_at 113 4 = some (.invokevirtual 145) := by decide +kernel
theorem dx_113_7 : mj_at 113 7 = some (.ireturn) := by decide +kernel
set_option maxRecDepth 10000 in
theorem b_X8_commands {sl d : Nat} {M : mj_M}   : mj_C sl (d + 1) 113 [.ref 0] M = (mj_C sl d 13 [.ref 3] M).bind (fun q1 => some ((q1.1 : Int32), q1.2)) := by
  show mj_E sl (d + 1) 113 0 [.ref 0] [] M = _
  refine (sx_aload_n dx_113_0 rfl).trans ?_
  refine (sx_gfr dx_113_1 ow_113 fx_6_21 oc_0 rb_0_1).trans ?_
  refine (sx_v0i dx_113_4 ow_113 cx_6_145 oc_3 (Nat.le_of_ble_eq_true rfl)).trans ?_
  refine mj_bnd (fun q1 => ?_)
  exact sx_reti dx_113_7 rt_113
theorem dx_114_0 : mj_at 114 0 = some (.aload_n 0) := by decide +kernel
theorem dx_114_1 : mj_at 114 1 = some (.getfield 21) := by decide +kernel
theorem dx_114_4 : mj_at 114 4 = some (.iload_n 1) := by decide +kernel
theorem dx_114_5 : mj_at 114 5 = some (.invokevirtual 85) := by decide +kernel
theorem dx_114_8 : mj_at 114 8 = some (.ifCond .eq 12) := by decide +kernel
theorem dx_114_11 : mj_at 114 11 = some (.iload_n 2) := by decide +kernel
theorem dx_114_12 : mj_at 114 12 = some (.ifCond .lt 8) := by decide +kernel
theorem dx_114_15 : mj_at 114 15 = some (.iload_n 2) := by decide +kernel
theorem dx_114_16 : mj_at 114 16 = some (.iconst 2) := by decide +kernel
theorem dx_114_17 : mj_at 114 17 = some (.if_icmp .le 5) := by decide +kernel
theorem dx_114_20 : mj_at 114 20 = some (.iconst (-1)) := by decide +kernel
theorem dx_114_21 : mj_at 114 21 = some (.ireturn) := by decide +kernel
theorem dx_114_22 : mj_at 114 22 = some (.bipush (-2)) := by decide +kernel
theorem dx_114_24 : mj_at 114 24 = some (.istore_n 3) := by decide +kernel
theorem dx_114_25 : mj_at 114 25 = some (.bipush (-2)) := by decide +kernel
theorem dx_114_27 : mj_at 114 27 = some (.istore 4) := by decide +kernel
theorem dx_114_29 : mj_at 114 29 = some (.ldc 234) := by decide +kernel
theorem dx_114_31 : mj_at 114 31 = some (.istore 5) := by decide +kernel
theorem dx_114_33 : mj_at 114 33 = some (.iconst 0) := by decide +kernel
theorem dx_114_34 : mj_at 114 34 = some (.istore 6) := by decide +kernel
theorem dx_114_36 : mj_at 114 36 = some (.iload 6) := by decide +kernel
theorem dx_114_38 : mj_at 114 38 = some (.bipush 8) := by decide +kernel
theorem dx_114_40 : mj_at 114 40 = some (.if_icmp .ge 95) := by decide +kernel
theorem dx_114_43 : mj_at 114 43 = some (.iload 6) := by decide +kernel
theorem dx_114_45 : mj_at 114 45 = some (.iconst 1) := by decide +kernel
theorem dx_114_46 : mj_at 114 46 = some (.iadd) := by decide +kernel
theorem dx_114_47 : mj_at 114 47 = some (.istore 7) := by decide +kernel
theorem dx_114_49 : mj_at 114 49 = some (.iload 7) := by decide +kernel
theorem dx_114_51 : mj_at 114 51 = some (.bipush 8) := by decide +kernel
theorem dx_114_53 : mj_at 114 53 = some (.if_icmp .ge 76) := by decide +kernel
theorem dx_114_56 : mj_at 114 56 = some (.aload_n 0) := by decide +kernel
theorem dx_114_57 : mj_at 114 57 = some (.getfield 10) := by decide +kernel
theorem dx_114_60 : mj_at 114 60 = some (.iload 6) := by decide +kernel
theorem dx_114_62 : mj_at 114 62 = some (.invokevirtual 88) := by decide +kernel
theorem dx_114_65 : mj_at 114 65 = some (.ifCond .eq 58) := by decide +kernel
theorem dx_114_68 : mj_at 114 68 = some (.aload_n 0) := by decide +kernel
theorem dx_114_69 : mj_at 114 69 = some (.getfield 10) := by decide +kernel
theorem dx_114_72 : mj_at 114 72 = some (.iload 7) := by decide +kernel
theorem dx_114_74 : mj_at 114 74 = some (.invokevirtual 88) := by decide +kernel
theorem dx_114_77 : mj_at 114 77 = some (.ifCond .eq 46) := by decide +kernel
theorem dx_114_80 : mj_at 114 80 = some (.aload_n 0) := by decide +kernel
theorem dx_114_81 : mj_at 114 81 = some (.getfield 21) := by decide +kernel
theorem dx_114_84 : mj_at 114 84 = some (.iload_n 1) := by decide +kernel
theorem dx_114_85 : mj_at 114 85 = some (.iload 6) := by decide +kernel
theorem dx_114_87 : mj_at 114 87 = some (.invokevirtual 172) := by decide +kernel
theorem dx_114_90 : mj_at 114 90 = some (.aload_n 0) := by decide +kernel
theorem dx_114_91 : mj_at 114 91 = some (.getfield 21) := by decide +kernel
theorem dx_114_94 : mj_at 114 94 = some (.iload_n 1) := by decide +kernel
theorem dx_114_95 : mj_at 114 95 = some (.iload 7) := by decide +kernel
theorem dx_114_97 : mj_at 114 97 = some (.invokevirtual 172) := by decide +kernel
theorem dx_114_100 : mj_at 114 100 = some (.invokestatic 181) := by decide +kernel
theorem dx_114_103 : mj_at 114 103 = some (.istore 8) := by decide +kernel
theorem dx_114_105 : mj_at 114 105 = some (.iload 8) := by decide +kernel
theorem dx_114_107 : mj_at 114 107 = some (.iload 5) := by decide +kernel
theorem dx_114_109 : mj_at 114 109 = some (.if_icmp .ge 14) := by decide +kernel
theorem dx_114_112 : mj_at 114 112 = some (.iload 8) := by decide +kernel
theorem dx_114_114 : mj_at 114 114 = some (.istore 5) := by decide +kernel
theorem dx_114_116 : mj_at 114 116 = some (.iload 6) := by decide +kernel
theorem dx_114_118 : mj_at 114 118 = some (.istore_n 3) := by decide +kernel
theorem dx_114_119 : mj_at 114 119 = some (.iload 7) := by decide +kernel
theorem dx_114_121 : mj_at 114 121 = some (.istore 4) := by decide +kernel
theorem dx_114_123 : mj_at 114 123 = some (.iinc 7 1) := by decide +kernel
theorem dx_114_126 : mj_at 114 126 = some (.goto (-77)) := by decide +kernel
theorem dx_114_129 : mj_at 114 129 = some (.iinc 6 1) := by decide +kernel
theorem dx_114_132 : mj_at 114 132 = some (.goto (-96)) := by decide +kernel
theorem dx_114_135 : mj_at 114 135 = some (.iload_n 2) := by decide +kernel
theorem dx_114_136 : mj_at 114 136 = some (.ifCond .ne 5) := by decide +kernel
theorem dx_114_139 : mj_at 114 139 = some (.iload_n 3) := by decide +kernel
theorem dx_114_140 : mj_at 114 140 = some (.ireturn) := by decide +kernel
theorem dx_114_141 : mj_at 114 141 = some (.iload_n 2) := by decide +kernel
theorem dx_114_142 : mj_at 114 142 = some (.iconst 1) := by decide +kernel
theorem dx_114_143 : mj_at 114 143 = some (.if_icmp .eq 10) := by decide +kernel
theorem dx_114_146 : mj_at 114 146 = some (.iload 4) := by decide +kernel
theorem dx_114_148 : mj_at 114 148 = some (.bipush (-2)) := by decide +kernel
theorem dx_114_150 : mj_at 114 150 = some (.if_icmp .ne 8) := by decide +kernel
theorem dx_114_153 : mj_at 114 153 = some (.iload 4) := by decide +kernel
theorem dx_114_155 : mj_at 114 155 = some (.goto 5) := by decide +kernel
theorem dx_114_158 : mj_at 114 158 = some (.iload 5) := by decide +kernel
theorem dx_114_160 : mj_at 114 160 = some (.ireturn) := by decide +kernel
set_option maxRecDepth 10000 in
theorem b_X8_clear {sl d : Nat} {M : mj_M} {x1 : Int32} {x2 : Int32}  : mj_C sl (d + 1) 114 [.ref 0, .int x1, .int x2] M = (mj_C sl d 5 [.ref 3, .int x1] M).bind (fun q1 => if q1.1 = 0 then (some (((-1) : Int32), q1.2)) else (if x2 < 0 then (some (((-1) : Int32), q1.2)) else (if x2 ≤ 2 then (mj_E sl (d + 1) 114 36 [.ref 0, .int x1, .int x2, .int (-2), .int (-2), .int 2147483647, .int 0, .null, .null] [] q1.2) else (some (((-1) : Int32), q1.2))))) := by
  show mj_E sl (d + 1) 114 0 [.ref 0, .int x1, .int x2, .null, .null, .null, .null, .null, .null] [] M = _
  refine (sx_aload_n dx_114_0 rfl).trans ?_
  refine (sx_gfr dx_114_1 ow_114 fx_6_21 oc_0 rb_0_1).trans ?_
  refine (sx_iload_n dx_114_4 rfl).trans ?_
  refine (sx_v1i dx_114_5 ow_114 cx_6_85 oc_3 (Nat.le_of_ble_eq_true rfl)).trans ?_
  refine mj_bnd (fun q1 => ?_)
  refine (sx_if_eq (tgt := 20) dx_114_8 (by decide)).trans ?_
  refine mj_ite ?_ ?_
  · refine (sx_iconst (v := (-1)) dx_114_20 rfl).trans ?_
    exact sx_reti dx_114_21 rt_114
  · refine (sx_iload_n dx_114_11 rfl).trans ?_
    refine (sx_if_lt (tgt := 20) dx_114_12 (by decide)).trans ?_
    refine mj_ite ?_ ?_
    · refine (sx_iconst (v := (-1)) dx_114_20 rfl).trans ?_
      exact sx_reti dx_114_21 rt_114
    · refine (sx_iload_n dx_114_15 rfl).trans ?_
      refine (sx_iconst (v := 2) dx_114_16 rfl).trans ?_
      refine (sx_icmp_le (tgt := 22) dx_114_17 (by decide)).trans ?_
      refine mj_ite ?_ ?_
      · refine (sx_bipush (v := (-2)) dx_114_22 rfl).trans ?_
        refine (sx_istore_n dx_114_24 (Nat.le_of_ble_eq_true rfl) rfl).trans ?_
        refine (sx_bipush (v := (-2)) dx_114_25 rfl).trans ?_
        refine (sx_istore dx_114_27 (Nat.le_of_ble_eq_true rfl) rfl).trans ?_
        refine (sx_ldc (v := 2147483647) dx_114_29 ow_114 kx_6_234).trans ?_
        refine (sx_istore dx_114_31 (Nat.le_of_ble_eq_true rfl) rfl).trans ?_
        refine (sx_iconst (v := 0) dx_114_33 rfl).trans ?_
        refine (sx_istore dx_114_34 (Nat.le_of_ble_eq_true rfl) rfl).trans ?_
        rfl
      · refine (sx_iconst (v := (-1)) dx_114_20 rfl).trans ?_
        exact sx_reti dx_114_21 rt_114
set_option maxRecDepth 10000 in
theorem b_X8_clear_36 {sl d : Nat} {M : mj_M} {y1 : Int32} {y2 : Int32} {y3 : Int32} {y4 : Int32} {y5 : Int32} {y6 : Int32} {w7 : Value} {w8 : Value}  : mj_E sl (d + 1) 114 36 [.ref 0, .int y1, .int y2, .int y3, .int y4, .int y5, .int y6, w7, w8] [] M = if y6 < 8 then (mj_E sl (d + 1) 114 49 [.ref 0, .int y1, .int y2, .int y3, .int y4, .int y5, .int y6, .int (y6 + 1), w8] [] M) else (if y2 = 0 then (some ((y3 : Int32), M)) else (if y2 = 1 then (some ((y4 : Int32), M)) else (if y4 = (-2) then (some ((y4 : Int32), M)) else (some ((y5 : Int32), M))))) := by
  refine (sx_iload dx_114_36 rfl).trans ?_
  refine (sx_bipush (v := 8) dx_114_38 rfl).trans ?_
  refine (sx_icmp_ge (tgt := 135) dx_114_40 (by decide)).trans ?_
  refine mj_ite ?_ ?_
  · refine (sx_iload dx_114_43 rfl).trans ?_
    refine (sx_iconst (v := 1) dx_114_45 rfl).trans ?_
    refine (sx_iadd dx_114_46).trans ?_
    refine (sx_istore dx_114_47 (Nat.le_of_ble_eq_true rfl) rfl).trans ?_
    rfl
  · refine (sx_iload_n dx_114_135 rfl).trans ?_
    refine (sx_if_ne (tgt := 141) dx_114_136 (by decide)).trans ?_
    refine mj_ite ?_ ?_
    · refine (sx_iload_n dx_114_139 rfl).trans ?_
      exact sx_reti dx_114_140 rt_114
    · refine (sx_iload_n dx_114_141 rfl).trans ?_
      refine (sx_iconst (v := 1) dx_114_142 rfl).trans ?_
      refine (sx_icmp_eq (tgt := 153) dx_114_143 (by decide)).trans ?_
      refine mj_ite ?_ ?_
      · refine (sx_iload dx_114_153 rfl).trans ?_
        refine (sx_goto (tgt := 160) dx_114_155 (by decide)).trans ?_
        exact sx_reti dx_114_160 rt_114
      · refine (sx_iload dx_114_146 rfl).trans ?_
        refine (sx_bipush (v := (-2)) dx_114_148 rfl).trans ?_
        refine (sx_icmp_ne (tgt := 158) dx_114_150 (by decide)).trans ?_
        refine mj_ite ?_ ?_
        · refine (sx_iload dx_114_153 rfl).trans ?_
          refine (sx_goto (tgt := 160) dx_114_155 (by decide)).trans ?_
          exact sx_reti dx_114_160 rt_114
        · refine (sx_iload dx_114_158 rfl).trans ?_
          exact sx_reti dx_114_160 rt_114
set_option maxRecDepth 10000 in
theorem b_X8_clear_49 {sl d : Nat} {M : mj_M} {y1 : Int32} {y2 : Int32} {y3 : Int32} {y4 : Int32} {y5 : Int32} {y6 : Int32} {y7 : Int32} {w8 : Value}  : mj_E sl (d + 1) 114 49 [.ref 0, .int y1, .int y2, .int y3, .int y4, .int y5, .int y6, .int y7, w8] [] M = if y7 < 8 then ((mj_C sl d 62 [.ref 1, .int y6] M).bind (fun q1 => if q1.1 = 0 then (mj_E sl (d + 1) 114 49 [.ref 0, .int y1, .int y2, .int y3, .int y4, .int y5, .int y6, .int (y7 + 1), w8] [] q1.2) else ((mj_C sl d 62 [.ref 1, .int y7] q1.2).bind (fun q2 => if q2.1 = 0 then (mj_E sl (d + 1) 114 49 [.ref 0, .int y1, .int y2, .int y3, .int y4, .int y5, .int y6, .int (y7 + 1), w8] [] q2.2) else ((mj_C sl d 8 [.ref 3, .int y1, .int y6] q2.2).bind (fun q3 => (mj_C sl d 8 [.ref 3, .int y1, .int y7] q3.2).bind (fun q4 => (mj_C sl d 21 [.int q3.1, .int q4.1] q4.2).bind (fun q5 => if q5.1 < y5 then (mj_E sl (d + 1) 114 49 [.ref 0, .int y1, .int y2, .int y6, .int y7, .int q5.1, .int y6, .int (y7 + 1), .int q5.1] [] q5.2) else (mj_E sl (d + 1) 114 49 [.ref 0, .int y1, .int y2, .int y3, .int y4, .int y5, .int y6, .int (y7 + 1), .int q5.1] [] q5.2))))))))) else (mj_E sl (d + 1) 114 36 [.ref 0, .int y1, .int y2, .int y3, .int y4, .int y5, .int (y6 + 1), .int y7, w8] [] M) := by
  refine (sx_iload dx_114_49 rfl).trans ?_
  refine (sx_bipush (v := 8) dx_114_51 rfl).trans ?_
  refine (sx_icmp_ge (tgt := 129) dx_114_53 (by decide)).trans ?_
  refine mj_ite ?_ ?_
  · refine (sx_aload_n dx_114_56 rfl).trans ?_
    refine (sx_gfr dx_114_57 ow_114 fx_6_10 oc_0 rb_0_0).trans ?_
    refine (sx_iload dx_114_60 rfl).trans ?_
    refine (sx_v1i dx_114_62 ow_114 cx_6_88 oc_1 (Nat.le_of_ble_eq_true rfl)).trans ?_
    refine mj_bnd (fun q1 => ?_)
    refine (sx_if_eq (tgt := 123) dx_114_65 (by decide)).trans ?_
    refine mj_ite ?_ ?_
    · refine (sx_iinc (v := 1) dx_114_123 rfl rfl rfl).trans ?_
      refine (sx_goto (tgt := 49) dx_114_126 (by decide)).trans ?_
      rfl
    · refine (sx_aload_n dx_114_68 rfl).trans ?_
      refine (sx_gfr dx_114_69 ow_114 fx_6_10 oc_0 rb_0_0).trans ?_
      refine (sx_iload dx_114_72 rfl).trans ?_
      refine (sx_v1i dx_114_74 ow_114 cx_6_88 oc_1 (Nat.le_of_ble_eq_true rfl)).trans ?_
      refine mj_bnd (fun q2 => ?_)
      refine (sx_if_eq (tgt := 123) dx_114_77 (by decide)).trans ?_
      refine mj_ite ?_ ?_
      · refine (sx_iinc (v := 1) dx_114_123 rfl rfl rfl).trans ?_
        refine (sx_goto (tgt := 49) dx_114_126 (by decide)).trans ?_
        rfl
      · refine (sx_aload_n dx_114_80 rfl).trans ?_
        refine (sx_gfr dx_114_81 ow_114 fx_6_21 oc_0 rb_0_1).trans ?_
        refine (sx_iload_n dx_114_84 rfl).trans ?_
        refine (sx_iload dx_114_85 rfl).trans ?_
        refine (sx_v2i dx_114_87 ow_114 cx_6_172 oc_3 (Nat.le_of_ble_eq_true rfl)).trans ?_
        refine mj_bnd (fun q3 => ?_)
        refine (sx_aload_n dx_114_90 rfl).trans ?_
        refine (sx_gfr dx_114_91 ow_114 fx_6_21 oc_0 rb_0_1).trans ?_
        refine (sx_iload_n dx_114_94 rfl).trans ?_
        refine (sx_iload dx_114_95 rfl).trans ?_
        refine (sx_v2i dx_114_97 ow_114 cx_6_172 oc_3 (Nat.le_of_ble_eq_true rfl)).trans ?_
        refine mj_bnd (fun q4 => ?_)
        refine (sx_s2i dx_114_100 ow_114 cx_6_181 (Nat.le_of_ble_eq_true rfl)).trans ?_
        refine mj_bnd (fun q5 => ?_)
        refine (sx_istore dx_114_103 (Nat.le_of_ble_eq_true rfl) rfl).trans ?_
        refine (sx_iload dx_114_105 rfl).trans ?_
        refine (sx_iload dx_114_107 rfl).trans ?_
        refine (sx_icmp_ge (tgt := 123) dx_114_109 (by decide)).trans ?_
        refine mj_ite ?_ ?_
        · refine (sx_iload dx_114_112 rfl).trans ?_
          refine (sx_istore dx_114_114 (Nat.le_of_ble_eq_true rfl) rfl).trans ?_
          refine (sx_iload dx_114_116 rfl).trans ?_
          refine (sx_istore_n dx_114_118 (Nat.le_of_ble_eq_true rfl) rfl).trans ?_
          refine (sx_iload dx_114_119 rfl).trans ?_
          refine (sx_istore dx_114_121 (Nat.le_of_ble_eq_true rfl) rfl).trans ?_
          refine (sx_iinc (v := 1) dx_114_123 rfl rfl rfl).trans ?_
          refine (sx_goto (tgt := 49) dx_114_126 (by decide)).trans ?_
          rfl
        · refine (sx_iinc (v := 1) dx_114_123 rfl rfl rfl).trans ?_
          refine (sx_goto (tgt := 49) dx_114_126 (by decide)).trans ?_
          rfl
  · refine (sx_iinc (v := 1) dx_114_129 rfl rfl rfl).trans ?_
    refine (sx_goto (tgt := 36) dx_114_132 (by decide)).trans ?_
    rfl
theorem dx_115_0 : mj_at 115 0 = some (.iload_n 1) := by decide +kernel
theorem dx_115_1 : mj_at 115 1 = some (.invokestatic 72) := by decide +kernel
theorem dx_115_4 : mj_at 115 4 = some (.ifCond .ne 5) := by decide +kernel
theorem dx_115_7 : mj_at 115 7 = some (.iconst (-1)) := by decide +kernel
theorem dx_115_8 : mj_at 115 8 = some (.ireturn) := by decide +kernel
theorem dx_115_9 : mj_at 115 9 = some (.iload_n 2) := by decide +kernel
theorem dx_115_10 : mj_at 115 10 = some (.tableswitch 77 0 6 #[42, 47, 52, 57, 62, 67, 72]) := by decide +kernel
theorem dx_115_52 : mj_at 115 52 = some (.iload_n 1) := by decide +kernel
theorem dx_115_53 : mj_at 115 53 = some (.invokestatic 250) := by decide +kernel
theorem dx_115_56 : mj_at 115 56 = some (.ireturn) := by decide +kernel
theorem dx_115_57 : mj_at 115 57 = some (.iload_n 1) := by decide +kernel
theorem dx_115_58 : mj_at 115 58 = some (.invokestatic 253) := by decide +kernel
theorem dx_115_61 : mj_at 115 61 = some (.ireturn) := by decide +kernel
theorem dx_115_62 : mj_at 115 62 = some (.iload_n 1) := by decide +kernel
theorem dx_115_63 : mj_at 115 63 = some (.invokestatic 256) := by decide +kernel
theorem dx_115_66 : mj_at 115 66 = some (.ireturn) := by decide +kernel
theorem dx_115_67 : mj_at 115 67 = some (.iload_n 1) := by decide +kernel
theorem dx_115_68 : mj_at 115 68 = some (.invokestatic 195) := by decide +kernel
theorem dx_115_71 : mj_at 115 71 = some (.ireturn) := by decide +kernel
theorem dx_115_72 : mj_at 115 72 = some (.iload_n 1) := by decide +kernel
theorem dx_115_73 : mj_at 115 73 = some (.invokestatic 259) := by decide +kernel
theorem dx_115_76 : mj_at 115 76 = some (.ireturn) := by decide +kernel
theorem dx_115_77 : mj_at 115 77 = some (.iload_n 1) := by decide +kernel
theorem dx_115_78 : mj_at 115 78 = some (.invokestatic 262) := by decide +kernel
theorem dx_115_81 : mj_at 115 81 = some (.ireturn) := by decide +kernel
theorem dx_115_82 : mj_at 115 82 = some (.iload_n 1) := by decide +kernel
theorem dx_115_83 : mj_at 115 83 = some (.invokestatic 265) := by decide +kernel
theorem dx_115_86 : mj_at 115 86 = some (.ireturn) := by decide +kernel
theorem dx_115_87 : mj_at 115 87 = some (.iconst (-1)) := by decide +kernel
theorem dx_115_88 : mj_at 115 88 = some (.ireturn) := by decide +kernel
set_option maxRecDepth 10000 in
theorem b_X8_shape {sl d : Nat} {M : mj_M} {x1 : Int32} {x2 : Int32}  : mj_C sl (d + 1) 115 [.ref 0, .int x1, .int x2] M = (mj_C sl d 20 [.int x1] M).bind (fun q1 => if q1.1 = 0 then (some (((-1) : Int32), q1.2)) else (if x2 = 0 then ((mj_C sl d 30 [.int x1] q1.2).bind (fun q2 => some ((q2.1 : Int32), q2.2))) else (if x2 = 1 then ((mj_C sl d 31 [.int x1] q1.2).bind (fun q3 => some ((q3.1 : Int32), q3.2))) else (if x2 = 2 then ((mj_C sl d 32 [.int x1] q1.2).bind (fun q4 => some ((q4.1 : Int32), q4.2))) else (if x2 = 3 then ((mj_C sl d 229 [.int x1] q1.2).bind (fun q5 => some ((q5.1 : Int32), q5.2))) else (if x2 = 4 then ((mj_C sl d 26 [.int x1] q1.2).bind (fun q6 => some ((q6.1 : Int32), q6.2))) else (if x2 = 5 then ((mj_C sl d 27 [.int x1] q1.2).bind (fun q7 => some ((q7.1 : Int32), q7.2))) else (if x2 = 6 then ((mj_C sl d 33 [.int x1] q1.2).bind (fun q8 => some ((q8.1 : Int32), q8.2))) else (some (((-1) : Int32), q1.2)))))))))) := by
  show mj_E sl (d + 1) 115 0 [.ref 0, .int x1, .int x2] [] M = _
  refine (sx_iload_n dx_115_0 rfl).trans ?_
  refine (sx_s1i dx_115_1 ow_115 cx_6_72 (Nat.le_of_ble_eq_true rfl)).trans ?_
  refine mj_bnd (fun q1 => ?_)
  refine (sx_if_ne (tgt := 9) dx_115_4 (by decide)).trans ?_
  refine mj_ite ?_ ?_
  · refine (sx_iconst (v := (-1)) dx_115_7 rfl).trans ?_
    exact sx_reti dx_115_8 rt_115
  · refine (sx_iload_n dx_115_9 rfl).trans ?_
    refine mj_sel (fun hx1_0 => ?_) (fun hx1_0 => ?_)
    · refine (sx_tsw_in (off := 42) (tgt := 52) dx_115_10 hx1_0 (by decide) (by decide) (by decide)).trans ?_
      refine (sx_iload_n dx_115_52 rfl).trans ?_
      refine (sx_s1i dx_115_53 ow_115 cx_6_250 (Nat.le_of_ble_eq_true rfl)).trans ?_
      refine mj_bnd (fun q2 => ?_)
      exact sx_reti dx_115_56 rt_115
    refine mj_sel (fun hx1_1 => ?_) (fun hx1_1 => ?_)
    · refine (sx_tsw_in (off := 47) (tgt := 57) dx_115_10 hx1_1 (by decide) (by decide) (by decide)).trans ?_
      refine (sx_iload_n dx_115_57 rfl).trans ?_
      refine (sx_s1i dx_115_58 ow_115 cx_6_253 (Nat.le_of_ble_eq_true rfl)).trans ?_
      refine mj_bnd (fun q3 => ?_)
      exact sx_reti dx_115_61 rt_115
    refine mj_sel (fun hx1_2 => ?_) (fun hx1_2 => ?_)
    · refine (sx_tsw_in (off := 52) (tgt := 62) dx_115_10 hx1_2 (by decide) (by decide) (by decide)).trans ?_
      refine (sx_iload_n dx_115_62 rfl).trans ?_
      refine (sx_s1i dx_115_63 ow_115 cx_6_256 (Nat.le_of_ble_eq_true rfl)).trans ?_
      refine mj_bnd (fun q4 => ?_)
      exact sx_reti dx_115_66 rt_115
    refine mj_sel (fun hx1_3 => ?_) (fun hx1_3 => ?_)
    · refine (sx_tsw_in (off := 57) (tgt := 67) dx_115_10 hx1_3 (by decide) (by decide) (by decide)).trans ?_
      refine (sx_iload_n dx_115_67 rfl).trans ?_
      refine (sx_s1i dx_115_68 ow_115 cx_6_195 (Nat.le_of_ble_eq_true rfl)).trans ?_
      refine mj_bnd (fun q5 => ?_)
      exact sx_reti dx_115_71 rt_115
    refine mj_sel (fun hx1_4 => ?_) (fun hx1_4 => ?_)
    · refine (sx_tsw_in (off := 62) (tgt := 72) dx_115_10 hx1_4 (by decide) (by decide) (by decide)).trans ?_
      refine (sx_iload_n dx_115_72 rfl).trans ?_
      refine (sx_s1i dx_115_73 ow_115 cx_6_259 (Nat.le_of_ble_eq_true rfl)).trans ?_
      refine mj_bnd (fun q6 => ?_)
      exact sx_reti dx_115_76 rt_115
    refine mj_sel (fun hx1_5 => ?_) (fun hx1_5 => ?_)
    · refine (sx_tsw_in (off := 67) (tgt := 77) dx_115_10 hx1_5 (by decide) (by decide) (by decide)).trans ?_
      refine (sx_iload_n dx_115_77 rfl).trans ?_
      refine (sx_s1i dx_115_78 ow_115 cx_6_262 (Nat.le_of_ble_eq_true rfl)).trans ?_
      refine mj_bnd (fun q7 => ?_)
      exact sx_reti dx_115_81 rt_115
    refine mj_sel (fun hx1_6 => ?_) (fun hx1_6 => ?_)
    · refine (sx_tsw_in (off := 72) (tgt := 82) dx_115_10 hx1_6 (by decide) (by decide) (by decide)).trans ?_
      refine (sx_iload_n dx_115_82 rfl).trans ?_
      refine (sx_s1i dx_115_83 ow_115 cx_6_265 (Nat.le_of_ble_eq_true rfl)).trans ?_
      refine mj_bnd (fun q8 => ?_)
      exact sx_reti dx_115_86 rt_115
    have zhx1_0 := mj_ne hx1_0 (n := 0) (by decide)
    have zhx1_1 := mj_ne hx1_1 (n := 1) (by decide)
    have zhx1_2 := mj_ne hx1_2 (n := 2) (by decide)
    have zhx1_3 := mj_ne hx1_3 (n := 3) (by decide)
    have zhx1_4 := mj_ne hx1_4 (n := 4) (by decide)
    have zhx1_5 := mj_ne hx1_5 (n := 5) (by decide)
    have zhx1_6 := mj_ne hx1_6 (n := 6) (by decide)
    refine (sx_tsw_out (tgt := 87) dx_115_10 (by omega) (by decide)).trans ?_
    refine (sx_iconst (v := (-1)) dx_115_87 rfl).trans ?_
    exact sx_reti dx_115_88 rt_115
theorem dx_116_0 : mj_at 116 0 = some (.iload_n 1) := by decide +kernel
theorem dx_116_1 : mj_at 116 1 = some (.invokestatic 72) := by decide +kernel
theorem dx_116_4 : mj_at 116 4 = some (.ifCond .eq 18) := by decide +kernel
theorem dx_116_7 : mj_at 116 7 = some (.iload_n 2) := by decide +kernel
theorem dx_116_8 : mj_at 116 8 = some (.invokestatic 72) := by decide +kernel
theorem dx_116_11 : mj_at 116 11 = some (.ifCond .eq 11) := by decide +kernel
theorem dx_116_14 : mj_at 116 14 = some (.iload_n 1) := by decide +kernel
theorem dx_116_15 : mj_at 116 15 = some (.iload_n 2) := by decide +kernel
theorem dx_116_16 : mj_at 116 16 = some (.invokestatic 268) := by decide +kernel
theorem dx_116_19 : mj_at 116 19 = some (.goto 4) := by decide +kernel
theorem dx_116_22 : mj_at 116 22 = some (.iconst (-1)) := by decide +kernel
theorem dx_116_23 : mj_at 116 23 = some (.ireturn) := by decide +kernel
set_option maxRecDepth 10000 in
theorem b_X8_like {sl d : Nat} {M : mj_M} {x1 : Int32} {x2 : Int32}  : mj_C sl (d + 1) 116 [.ref 0, .int x1, .int x2] M = (mj_C sl d 20 [.int x1] M).bind (fun q1 => if q1.1 = 0 then (some (((-1) : Int32), q1.2)) else ((mj_C sl d 20 [.int x2] q1.2).bind (fun q2 => if q2.1 = 0 then (some (((-1) : Int32), q2.2)) else ((mj_C sl d 28 [.int x1, .int x2] q2.2).bind (fun q3 => some ((q3.1 : Int32), q3.2)))))) := by
  show mj_E sl (d + 1) 116 0 [.ref 0, .int x1, .int x2] [] M = _
  refine (sx_iload_n dx_116_0 rfl).trans ?_
  refine (sx_s1i dx_116_1 ow_116 cx_6_72 (Nat.le_of_ble_eq_true rfl)).trans ?_
  refine mj_bnd (fun q1 => ?_)
  refine (sx_if_eq (tgt := 22) dx_116_4 (by decide)).trans ?_
  refine mj_ite ?_ ?_
  · refine (sx_iconst (v := (-1)) dx_116_22 rfl).trans ?_
    exact sx_reti dx_116_23 rt_116
  · refine (sx_iload_n dx_116_7 rfl).trans ?_
    refine (sx_s1i dx_116_8 ow_116 cx_6_72 (Nat.le_of_ble_eq_true rfl)).trans ?_
    refine mj_bnd (fun q2 => ?_)
    refine (sx_if_eq (tgt := 22) dx_116_11 (by decide)).trans ?_
    refine mj_ite ?_ ?_
    · refine (sx_iconst (v := (-1)) dx_116_22 rfl).trans ?_
      exact sx_reti dx_116_23 rt_116
    · refine (sx_iload_n dx_116_14 rfl).trans ?_
      refine (sx_iload_n dx_116_15 rfl).trans ?_
      refine (sx_s2i dx_116_16 ow_116 cx_6_268 (Nat.le_of_ble_eq_true rfl)).trans ?_
      refine mj_bnd (fun q3 => ?_)
      refine (sx_goto (tgt := 23) dx_116_19 (by decide)).trans ?_
      exact sx_reti dx_116_23 rt_116
theorem dx_117_0 : mj_at 117 0 = some (.iload_n 1) := by decide +kernel
theorem dx_117_1 : mj_at 117 1 = some (.iconst 2) := by decide +kernel
theorem dx_117_2 : mj_at 117 2 = some (.if_icmp .lt 18) := by decide +kernel
theorem dx_117_5 : mj_at 117 5 = some (.iload_n 1) := by decide +kernel
theorem dx_117_6 : mj_at 117 6 = some (.bipush 8) := by decide +kernel
theorem dx_117_8 : mj_at 117 8 = some (.if_icmp .gt 12) := by decide +kernel
theorem dx_117_11 : mj_at 117 11 = some (.iload_n 2) := by decide +kernel
theorem dx_117_12 : mj_at 117 12 = some (.ifCond .lt 8) := by decide +kernel
theorem dx_117_15 : mj_at 117 15 = some (.iload_n 2) := by decide +kernel
theorem dx_117_16 : mj_at 117 16 = some (.iconst 1) := by decide +kernel
theorem dx_117_17 : mj_at 117 17 = some (.if_icmp .le 5) := by decide +kernel
theorem dx_117_20 : mj_at 117 20 = some (.iconst (-1)) := by decide +kernel
theorem dx_117_21 : mj_at 117 21 = some (.ireturn) := by decide +kernel
theorem dx_117_22 : mj_at 117 22 = some (.aload_n 0) := by decide +kernel
theorem dx_117_23 : mj_at 117 23 = some (.getfield 10) := by decide +kernel
theorem dx_117_26 : mj_at 117 26 = some (.getfield 224) := by decide +kernel
theorem dx_117_29 : mj_at 117 29 = some (.invokestatic 195) := by decide +kernel
theorem dx_117_32 : mj_at 117 32 = some (.iload_n 1) := by decide +kernel
theorem dx_117_33 : mj_at 117 33 = some (.if_icmp .ge 6) := by decide +kernel
theorem dx_117_36 : mj_at 117 36 = some (.bipush (-2)) := by decide +kernel
theorem dx_117_38 : mj_at 117 38 = some (.ireturn) := by decide +kernel
theorem dx_117_39 : mj_at 117 39 = some (.iconst (-1)) := by decide +kernel
theorem dx_117_40 : mj_at 117 40 = some (.istore_n 3) := by decide +kernel
theorem dx_117_41 : mj_at 117 41 = some (.iconst (-1)) := by decide +kernel
theorem dx_117_42 : mj_at 117 42 = some (.istore 4) := by decide +kernel
theorem dx_117_44 : mj_at 117 44 = some (.iconst 1) := by decide +kernel
theorem dx_117_45 : mj_at 117 45 = some (.istore 5) := by decide +kernel
theorem dx_117_47 : mj_at 117 47 = some (.iload 5) := by decide +kernel
theorem dx_117_49 : mj_at 117 49 = some (.sipush 256) := by decide +kernel
theorem dx_117_52 : mj_at 117 52 = some (.if_icmp .ge 58) := by decide +kernel
theorem dx_117_55 : mj_at 117 55 = some (.iload 5) := by decide +kernel
theorem dx_117_57 : mj_at 117 57 = some (.aload_n 0) := by decide +kernel
theorem dx_117_58 : mj_at 117 58 = some (.getfield 10) := by decide +kernel
theorem dx_117_61 : mj_at 117 61 = some (.getfield 224) := by decide +kernel
theorem dx_117_64 : mj_at 117 64 = some (.iconst (-1)) := by decide +kernel
theorem dx_117_65 : mj_at 117 65 = some (.ixor) := by decide +kernel
theorem dx_117_66 : mj_at 117 66 = some (.iand) := by decide +kernel
theorem dx_117_67 : mj_at 117 67 = some (.ifCond .ne 37) := by decide +kernel
theorem dx_117_70 : mj_at 117 70 = some (.iload 5) := by decide +kernel
theorem dx_117_72 : mj_at 117 72 = some (.invokestatic 195) := by decide +kernel
theorem dx_117_75 : mj_at 117 75 = some (.iload_n 1) := by decide +kernel
theorem dx_117_76 : mj_at 117 76 = some (.if_icmp .ne 28) := by decide +kernel
theorem dx_117_79 : mj_at 117 79 = some (.aload_n 0) := by decide +kernel
theorem dx_117_80 : mj_at 117 80 = some (.getfield 10) := by decide +kernel
theorem dx_117_83 : mj_at 117 83 = some (.iload 5) := by decide +kernel
theorem dx_117_85 : mj_at 117 85 = some (.invokevirtual 271) := by decide +kernel
theorem dx_117_88 : mj_at 117 88 = some (.istore 6) := by decide +kernel
theorem dx_117_90 : mj_at 117 90 = some (.iload 6) := by decide +kernel
theorem dx_117_92 : mj_at 117 92 = some (.iload 4) := by decide +kernel
theorem dx_117_94 : mj_at 117 94 = some (.if_icmp .le 10) := by decide +kernel
theorem dx_117_97 : mj_at 117 97 = some (.iload 6) := by decide +kernel
theorem dx_117_99 : mj_at 117 99 = some (.istore 4) := by decide +kernel
theorem dx_117_101 : mj_at 117 101 = some (.iload 5) := by decide +kernel
theorem dx_117_103 : mj_at 117 103 = some (.istore_n 3) := by decide +kernel
theorem dx_117_104 : mj_at 117 104 = some (.iinc 5 1) := by decide +kernel
theorem dx_117_107 : mj_at 117 107 = some (.goto (-60)) := by decide +kernel
theorem dx_117_110 : mj_at 117 110 = some (.iload_n 2) := by decide +kernel
theorem dx_117_111 : mj_at 117 111 = some (.ifCond .ne 8) := by decide +kernel
theorem dx_117_114 : mj_at 117 114 = some (.iload 4) := by decide +kernel
theorem dx_117_116 : mj_at 117 116 = some (.goto 4) := by decide +kernel
theorem dx_117_119 : mj_at 117 119 = some (.iload_n 3) := by decide +kernel
theorem dx_117_120 : mj_at 117 120 = some (.ireturn) := by decide +kernel
set_option maxRecDepth 10000 in
theorem b_X8_toldApart {sl d : Nat} {M : mj_M} {x1 : Int32} {x2 : Int32}  : mj_C sl (d + 1) 117 [.ref 0, .int x1, .int x2] M = if x1 < 2 then (some (((-1) : Int32), M)) else (if x1 ≤ 8 then (if x2 < 0 then (some (((-1) : Int32), M)) else (if x2 ≤ 1 then ((mj_C sl d 229 [.int (M 1 1)] M).bind (fun q1 => if q1.1 < x1 then (some (((-2) : Int32), q1.2)) else (mj_E sl (d + 1) 117 47 [.ref 0, .int x1, .int x2, .int (-1), .int (-1), .int 1, .null] [] q1.2))) else (some (((-1) : Int32), M)))) else (some (((-1) : Int32), M))) := by
  show mj_E sl (d + 1) 117 0 [.ref 0, .int x1, .int x2, .null, .null, .null, .null] [] M = _
  refine (sx_iload_n dx_117_0 rfl).trans ?_
  refine (sx_iconst (v := 2) dx_117_1 rfl).trans ?_
  refine (sx_icmp_lt (tgt := 20) dx_117_2 (by decide)).trans ?_
  refine mj_ite ?_ ?_
  · refine (sx_iconst (v := (-1)) dx_117_20 rfl).trans ?_
    exact sx_reti dx_117_21 rt_117
  · refine (sx_iload_n dx_117_5 rfl).trans ?_
    refine (sx_bipush (v := 8) dx_117_6 rfl).trans ?_
    refine (sx_icmp_gt (tgt := 20) dx_117_8 (by decide)).trans ?_
    refine mj_ite ?_ ?_
    · refine (sx_iload_n dx_117_11 rfl).trans ?_
      refine (sx_if_lt (tgt := 20) dx_117_12 (by decide)).trans ?_
      refine mj_ite ?_ ?_
      · refine (sx_iconst (v := (-1)) dx_117_20 rfl).trans ?_
        exact sx_reti dx_117_21 rt_117
      · refine (sx_iload_n dx_117_15 rfl).trans ?_
        refine (sx_iconst (v := 1) dx_117_16 rfl).trans ?_
        refine (sx_icmp_le (tgt := 22) dx_117_17 (by decide)).trans ?_
        refine mj_ite ?_ ?_
        · refine (sx_aload_n dx_117_22 rfl).trans ?_
          refine (sx_gfr dx_117_23 ow_117 fx_6_10 oc_0 rb_0_0).trans ?_
          refine (sx_gfi dx_117_26 ow_117 fx_6_224 (by decide) oc_1).trans ?_
          refine (sx_s1i dx_117_29 ow_117 cx_6_195 (Nat.le_of_ble_eq_true rfl)).trans ?_
          refine mj_bnd (fun q1 => ?_)
          refine (sx_iload_n dx_117_32 rfl).trans ?_
          refine (sx_icmp_ge (tgt := 39) dx_117_33 (by decide)).trans ?_
          refine mj_ite ?_ ?_
          · refine (sx_bipush (v := (-2)) dx_117_36 rfl).trans ?_
            exact sx_reti dx_117_38 rt_117
          · refine (sx_iconst (v := (-1)) dx_117_39 rfl).trans ?_
            refine (sx_istore_n dx_117_40 (Nat.le_of_ble_eq_true rfl) rfl).trans ?_
            refine (sx_iconst (v := (-1)) dx_117_41 rfl).trans ?_
            refine (sx_istore dx_117_42 (Nat.le_of_ble_eq_true rfl) rfl).trans ?_
            refine (sx_iconst (v := 1) dx_117_44 rfl).trans ?_
            refine (sx_istore dx_117_45 (Nat.le_of_ble_eq_true rfl) rfl).trans ?_
            rfl
        · refine (sx_iconst (v := (-1)) dx_117_20 rfl).trans ?_
          exact sx_reti dx_117_21 rt_117
    · refine (sx_iconst (v := (-1)) dx_117_20 rfl).trans ?_
      exact sx_reti dx_117_21 rt_117
set_option maxRecDepth 10000 in
theorem b_X8_toldApart_47 {sl d : Nat} {M : mj_M} {y1 : Int32} {y2 : Int32} {y3 : Int32} {y4 : Int32} {y5 : Int32} {w6 : Value}  : mj_E sl (d + 1) 117 47 [.ref 0, .int y1, .int y2, .int y3, .int y4, .int y5, w6] [] M = if y5 < 256 then (if y5 &&& ((M 1 1) ^^^ (-1)) = 0 then ((mj_C sl d 229 [.int y5] M).bind (fun q1 => if q1.1 = y1 then ((mj_C sl d 66 [.ref 1, .int y5] q1.2).bind (fun q2 => if q2.1 ≤ y4 then (mj_E sl (d + 1) 117 47 [.ref 0, .int y1, .int y2, .int y3, .int y4, .int (y5 + 1), .int q2.1] [] q2.2) else (mj_E sl (d + 1) 117 47 [.ref 0, .int y1, .int y2, .int y5, .int q2.1, .int (y5 + 1), .int q2.1] [] q2.2))) else (mj_E sl (d + 1) 117 47 [.ref 0, .int y1, .int y2, .int y3, .int y4, .int (y5 + 1), w6] [] q1.2))) else (mj_E sl (d + 1) 117 47 [.ref 0, .int y1, .int y2, .int y3, .int y4, .int (y5 + 1), w6] [] M)) else (if y2 = 0 then (some ((y4 : Int32), M)) else (some ((y3 : Int32), M))) := by
  refine (sx_iload dx_117_47 rfl).trans ?_
  refine (sx_sipush (v := 256) dx_117_49 rfl).trans ?_
  refine (sx_icmp_ge (tgt := 110) dx_117_52 (by decide)).trans ?_
  refine mj_ite ?_ ?_
  · refine (sx_iload dx_117_55 rfl).trans ?_
    refine (sx_aload_n dx_117_57 rfl).trans ?_
    refine (sx_gfr dx_117_58 ow_117 fx_6_10 oc_0 rb_0_0).trans ?_
    refine (sx_gfi dx_117_61 ow_117 fx_6_224 (by decide) oc_1).trans ?_
    refine (sx_iconst (v := (-1)) dx_117_64 rfl).trans ?_
    refine (sx_ixor dx_117_65).trans ?_
    refine (sx_iand dx_117_66).trans ?_
    refine (sx_if_ne (tgt := 104) dx_117_67 (by decide)).trans ?_
    refine mj_ite ?_ ?_
    · refine (sx_iload dx_117_70 rfl).trans ?_
      refine (sx_s1i dx_117_72 ow_117 cx_6_195 (Nat.le_of_ble_eq_true rfl)).trans ?_
      refine mj_bnd (fun q1 => ?_)
      refine (sx_iload_n dx_117_75 rfl).trans ?_
      refine (sx_icmp_ne (tgt := 104) dx_117_76 (by decide)).trans ?_
      refine mj_ite ?_ ?_
      · refine (sx_aload_n dx_117_79 rfl).trans ?_
        refine (sx_gfr dx_117_80 ow_117 fx_6_10 oc_0 rb_0_0).trans ?_
        refine (sx_iload dx_117_83 rfl).trans ?_
        refine (sx_v1i dx_117_85 ow_117 cx_6_271 oc_1 (Nat.le_of_ble_eq_true rfl)).trans ?_
        refine mj_bnd (fun q2 => ?_)
        refine (sx_istore dx_117_88 (Nat.le_of_ble_eq_true rfl) rfl).trans ?_
        refine (sx_iload dx_117_90 rfl).trans ?_
        refine (sx_iload dx_117_92 rfl).trans ?_
        refine (sx_icmp_le (tgt := 104) dx_117_94 (by decide)).trans ?_
        refine mj_ite ?_ ?_
        · refine (sx_iinc (v := 1) dx_117_104 rfl rfl rfl).trans ?_
          refine (sx_goto (tgt := 47) dx_117_107 (by decide)).trans ?_
          rfl
        · refine (sx_iload dx_117_97 rfl).trans ?_
          refine (sx_istore dx_117_99 (Nat.le_of_ble_eq_true rfl) rfl).trans ?_
          refine (sx_iload dx_117_101 rfl).trans ?_
          refine (sx_istore_n dx_117_103 (Nat.le_of_ble_eq_true rfl) rfl).trans ?_
          refine (sx_iinc (v := 1) dx_117_104 rfl rfl rfl).trans ?_
          refine (sx_goto (tgt := 47) dx_117_107 (by decide)).trans ?_
          rfl
      · refine (sx_iinc (v := 1) dx_117_104 rfl rfl rfl).trans ?_
        refine (sx_goto (tgt := 47) dx_117_107 (by decide)).trans ?_
        rfl
    · refine (sx_iinc (v := 1) dx_117_104 rfl rfl rfl).trans ?_
      refine (sx_goto (tgt := 47) dx_117_107 (by decide)).trans ?_
      rfl
  · refine (sx_iload_n dx_117_110 rfl).trans ?_
    refine (sx_if_ne (tgt := 119) dx_117_111 (by decide)).trans ?_
    refine mj_ite ?_ ?_
    · refine (sx_iload dx_117_114 rfl).trans ?_
      refine (sx_goto (tgt := 120) dx_117_116 (by decide)).trans ?_
      exact sx_reti dx_117_120 rt_117
    · refine (sx_iload_n dx_117_119 rfl).trans ?_
      exact sx_reti dx_117_120 rt_117
theorem dx_118_0 : mj_at 118 0 = some (.iload_n 1) := by decide +kernel
theorem dx_118_1 : mj_at 118 1 = some (.ifCond .lt 10) := by decide +kernel
theorem dx_118_4 : mj_at 118 4 = some (.iload_n 1) := by decide +kernel
theorem dx_118_5 : mj_at 118 5 = some (.ldc_w 274) := by decide +kernel
theorem dx_118_8 : mj_at 118 8 = some (.if_icmp .le 5) := by decide +kernel
theorem dx_118_11 : mj_at 118 11 = some (.iconst 0) := by decide +kernel
theorem dx_118_12 : mj_at 118 12 = some (.ireturn) := by decide +kernel
theorem dx_118_13 : mj_at 118 13 = some (.aload_n 0) := by decide +kernel
theorem dx_118_14 : mj_at 118 14 = some (.getfield 21) := by decide +kernel
theorem dx_118_17 : mj_at 118 17 = some (.iload_n 1) := by decide +kernel
theorem dx_118_18 : mj_at 118 18 = some (.putfield 275) := by decide +kernel
theorem dx_118_21 : mj_at 118 21 = some (.iconst 1) := by decide +kernel
theorem dx_118_22 : mj_at 118 22 = some (.ireturn) := by decide +kernel
set_option maxRecDepth 10000 in
theorem b_X8_seed {sl d : Nat} {M : mj_M} {x1 : Int32}  : mj_C sl d 118 [.ref 0, .int x1] M = if x1 < 0 then (some ((0 : Int32), M)) else (if x1 ≤ 65535 then (some ((1 : Int32), mj_st M 3 8 x1)) else (some ((0 : Int32), M))) := by
  show mj_E sl d 118 0 [.ref 0, .int x1] [] M = _
  refine (sx_iload_n dx_118_0 rfl).trans ?_
  refine (sx_if_lt (tgt := 11) dx_118_1 (by decide)).trans ?_
  refine mj_ite ?_ ?_
  · refine (sx_iconst (v := 0) dx_118_11 rfl).trans ?_
    exact sx_retz dx_118_12 rt_118 (by decide)
  · refine (sx_iload_n dx_118_4 rfl).trans ?_
    refine (sx_ldcw (v := 65535) dx_118_5 ow_118 kx_6_274).trans ?_
    refine (sx_icmp_le (tgt := 13) dx_118_8 (by decide)).trans ?_
    refine mj_ite ?_ ?_
    · refine (sx_aload_n dx_118_13 rfl).trans ?_
      refine (sx_gfr dx_118_14 ow_118 fx_6_21 oc_0 rb_0_1).trans ?_
      refine (sx_iload_n dx_118_17 rfl).trans ?_
      refine (sx_pfi dx_118_18 ow_118 fx_6_275 oc_3).trans ?_
      refine (sx_iconst (v := 1) dx_118_21 rfl).trans ?_
      exact sx_retz dx_118_22 rt_118 (by decide)
    · refine (sx_iconst (v := 0) dx_118_11 rfl).trans ?_
      exact sx_retz dx_118_12 rt_118 (by decide)
theorem dx_119_0 : mj_at 119 0 = some (.aload_n 0) := by decide +kernel
theorem dx_119_1 : mj_at 119 1 = some (.getfield 25) := by decide +kernel
theorem dx_119_4 : mj_at 119 4 = some (.aload_n 0) := by decide +kernel
theorem dx_119_5 : mj_at 119 5 = some (.getfield 21) := by decide +kernel
theorem dx_119_8 : mj_at 119 8 = some (.invokevirtual 119) := by decide +kernel
theorem dx_119_11 : mj_at 119 11 = some (.aload_n 0) := by decide +kernel
theorem dx_119_12 : mj_at 119 12 = some (.iconst 1) := by decide +kernel
theorem dx_119_13 : mj_at 119 13 = some (.putfield 68) := by decide +kernel
theorem dx_119_16 : mj_at 119 16 = some (.aload_n 0) := by decide +kernel
theorem dx_119_17 : mj_at 119 17 = some (.getfield 21) := by decide +kernel
theorem dx_119_20 : mj_at 119 20 = some (.getfield 278) := by decide +kernel
theorem dx_119_23 : mj_at 119 23 = some (.ireturn) := by decide +kernel
set_option maxRecDepth 10000 in
theorem b_X8_keep {sl d : Nat} {M : mj_M}   : mj_C sl (d + 1) 119 [.ref 0] M = (mj_C sl d 4 [.ref 9, .ref 3] M).bind (fun q1 => some (((mj_st q1.2 0 10 1) 3 7 : Int32), mj_st q1.2 0 10 1)) := by
  show mj_E sl (d + 1) 119 0 [.ref 0] [] M = _
  refine (sx_aload_n dx_119_0 rfl).trans ?_
  refine (sx_gfr dx_119_1 ow_119 fx_6_25 oc_0 rb_0_2).trans ?_
  refine (sx_aload_n dx_119_4 rfl).trans ?_
  refine (sx_gfr dx_119_5 ow_119 fx_6_21 oc_0 rb_0_1).trans ?_
  refine (sx_v1v dx_119_8 ow_119 cx_6_119 oc_9 (Nat.le_of_ble_eq_true rfl)).trans ?_
  refine mj_bnd (fun q1 => ?_)
  refine (sx_aload_n dx_119_11 rfl).trans ?_
  refine (sx_iconst (v := 1) dx_119_12 rfl).trans ?_
  refine (sx_pfz dx_119_13 ow_119 fx_6_68 oc_0 (by decide)).trans ?_
  refine (sx_aload_n dx_119_16 rfl).trans ?_
  refine (sx_gfr dx_119_17 ow_119 fx_6_21 oc_0 rb_0_1).trans ?_
  refine (sx_gfi dx_119_20 ow_119 fx_6_278 (by decide) oc_3).trans ?_
  exact sx_reti dx_119_23 rt_119
theorem dx_120_0 : mj_at 120 0 = some (.aload_n 0) := by decide +kernel
theorem dx_120_1 : mj_at 120 1 = some (.getfield 68) := by decide +kernel
theorem dx_120_4 : mj_at 120 4 = some (.ifCond .ne 5) := by decide +kernel
theorem dx_120_7 : mj_at 120 7 = some (.iconst 0) := by decide +kernel
theorem dx_120_8 : mj_at 120 8 = some (.ireturn) := by decide +kernel
theorem dx_120_9 : mj_at 120 9 = some (.aload_n 0) := by decide +kernel
theorem dx_120_10 : mj_at 120 10 = some (.getfield 21) := by decide +kernel
theorem dx_120_13 : mj_at 120 13 = some (.aload_n 0) := by decide +kernel
theorem dx_120_14 : mj_at 120 14 = some (.getfield 25) := by decide +kernel
theorem dx_120_17 : mj_at 120 17 = some (.invokevirtual 119) := by decide +kernel
theorem dx_120_20 : mj_at 120 20 = some (.iconst 1) := by decide +kernel
theorem dx_120_21 : mj_at 120 21 = some (.ireturn) := by decide +kernel
set_option maxRecDepth 10000 in
theorem b_X8_undo {sl d : Nat} {M : mj_M}   : mj_C sl (d + 1) 120 [.ref 0] M = if M 0 10 = 0 then (some ((0 : Int32), M)) else ((mj_C sl d 4 [.ref 3, .ref 9] M).bind (fun q1 => some ((1 : Int32), q1.2))) := by
  show mj_E sl (d + 1) 120 0 [.ref 0] [] M = _
  refine (sx_aload_n dx_120_0 rfl).trans ?_
  refine (sx_gfi dx_120_1 ow_120 fx_6_68 (by decide) oc_0).trans ?_
  refine (sx_if_ne (tgt := 9) dx_120_4 (by decide)).trans ?_
  refine mj_ite ?_ ?_
  · refine (sx_iconst (v := 0) dx_120_7 rfl).trans ?_
    exact sx_retz dx_120_8 rt_120 (by decide)
  · refine (sx_aload_n dx_120_9 rfl).trans ?_
    refine (sx_gfr dx_120_10 ow_120 fx_6_21 oc_0 rb_0_1).trans ?_
    refine (sx_aload_n dx_120_13 rfl).trans ?_
    refine (sx_gfr dx_120_14 ow_120 fx_6_25 oc_0 rb_0_2).trans ?_
    refine (sx_v1v dx_120_17 ow_120 cx_6_119 oc_3 (Nat.le_of_ble_eq_true rfl)).trans ?_
    refine mj_bnd (fun q1 => ?_)
    refine (sx_iconst (v := 1) dx_120_20 rfl).trans ?_
    exact sx_retz dx_120_21 rt_120 (by decide)
theorem dx_121_0 : mj_at 121 0 = some (.aload_n 0) := by decide +kernel
theorem dx_121_1 : mj_at 121 1 = some (.getfield 34) := by decide +kernel
theorem dx_121_4 : mj_at 121 4 = some (.iload_n 1) := by decide +kernel
theorem dx_121_5 : mj_at 121 5 = some (.iconst 0) := by decide +kernel
theorem dx_121_6 : mj_at 121 6 = some (.bipush 10) := by decide +kernel
theorem dx_121_8 : mj_at 121 8 = some (.invokevirtual 104) := by decide +kernel
theorem dx_121_11 : mj_at 121 11 = some (.ifCond .ne 6) := by decide +kernel
theorem dx_121_14 : mj_at 121 14 = some (.bipush (-2)) := by decide +kernel
theorem dx_121_16 : mj_at 121 16 = some (.ireturn) := by decide +kernel
theorem dx_121_17 : mj_at 121 17 = some (.aload_n 0) := by decide +kernel
theorem dx_121_18 : mj_at 121 18 = some (.getfield 34) := by decide +kernel
theorem dx_121_21 : mj_at 121 21 = some (.iconst 0) := by decide +kernel
theorem dx_121_22 : mj_at 121 22 = some (.putfield 100) := by decide +kernel
theorem dx_121_25 : mj_at 121 25 = some (.iconst 0) := by decide +kernel
theorem dx_121_26 : mj_at 121 26 = some (.istore_n 2) := by decide +kernel
theorem dx_121_27 : mj_at 121 27 = some (.iload_n 2) := by decide +kernel
theorem dx_121_28 : mj_at 121 28 = some (.iload_n 1) := by decide +kernel
theorem dx_121_29 : mj_at 121 29 = some (.if_icmp .ge 47) := by decide +kernel
theorem dx_121_32 : mj_at 121 32 = some (.aload_n 0) := by decide +kernel
theorem dx_121_33 : mj_at 121 33 = some (.getfield 21) := by decide +kernel
theorem dx_121_36 : mj_at 121 36 = some (.iload_n 2) := by decide +kernel
theorem dx_121_37 : mj_at 121 37 = some (.invokevirtual 85) := by decide +kernel
theorem dx_121_40 : mj_at 121 40 = some (.ifCond .eq 14) := by decide +kernel
theorem dx_121_43 : mj_at 121 43 = some (.aload_n 0) := by decide +kernel
theorem dx_121_44 : mj_at 121 44 = some (.getfield 21) := by decide +kernel
theorem dx_121_47 : mj_at 121 47 = some (.iload_n 2) := by decide +kernel
theorem dx_121_48 : mj_at 121 48 = some (.invokevirtual 153) := by decide +kernel
theorem dx_121_51 : mj_at 121 51 = some (.goto 4) := by decide +kernel
theorem dx_121_54 : mj_at 121 54 = some (.iconst 0) := by decide +kernel
theorem dx_121_55 : mj_at 121 55 = some (.istore_n 3) := by decide +kernel
theorem dx_121_56 : mj_at 121 56 = some (.aload_n 0) := by decide +kernel
theorem dx_121_57 : mj_at 121 57 = some (.getfield 34) := by decide +kernel
theorem dx_121_60 : mj_at 121 60 = some (.iload_n 2) := by decide +kernel
theorem dx_121_61 : mj_at 121 61 = some (.invokevirtual 200) := by decide +kernel
theorem dx_121_64 : mj_at 121 64 = some (.iload_n 3) := by decide +kernel
theorem dx_121_65 : mj_at 121 65 = some (.if_icmp .eq 5) := by decide +kernel
theorem dx_121_68 : mj_at 121 68 = some (.iload_n 2) := by decide +kernel
theorem dx_121_69 : mj_at 121 69 = some (.ireturn) := by decide +kernel
theorem dx_121_70 : mj_at 121 70 = some (.iinc 2 1) := by decide +kernel
theorem dx_121_73 : mj_at 121 73 = some (.goto (-46)) := by decide +kernel
theorem dx_121_76 : mj_at 121 76 = some (.iconst (-1)) := by decide +kernel
theorem dx_121_77 : mj_at 121 77 = some (.ireturn) := by decide +kernel
set_option maxRecDepth 10000 in
theorem b_X8_check {sl d : Nat} {M : mj_M} {x1 : Int32}  : mj_C sl (d + 1) 121 [.ref 0, .int x1] M = (mj_C sl d 75 [.ref 21, .int x1, .int 0, .int 10] M).bind (fun q1 => if q1.1 = 0 then (some (((-2) : Int32), q1.2)) else (mj_E sl (d + 1) 121 27 [.ref 0, .int x1, .int 0, .null] [] (mj_st q1.2 21 1 0))) := by
  show mj_E sl (d + 1) 121 0 [.ref 0, .int x1, .null, .null] [] M = _
  refine (sx_aload_n dx_121_0 rfl).trans ?_
  refine (sx_gfr dx_121_1 ow_121 fx_6_34 oc_0 rb_0_4).trans ?_
  refine (sx_iload_n dx_121_4 rfl).trans ?_
  refine (sx_iconst (v := 0) dx_121_5 rfl).trans ?_
  refine (sx_bipush (v := 10) dx_121_6 rfl).trans ?_
  refine (sx_v3i dx_121_8 ow_121 cx_6_104 oc_21 (Nat.le_of_ble_eq_true rfl)).trans ?_
  refine mj_bnd (fun q1 => ?_)
  refine (sx_if_ne (tgt := 17) dx_121_11 (by decide)).trans ?_
  refine mj_ite ?_ ?_
  · refine (sx_bipush (v := (-2)) dx_121_14 rfl).trans ?_
    exact sx_reti dx_121_16 rt_121
  · refine (sx_aload_n dx_121_17 rfl).trans ?_
    refine (sx_gfr dx_121_18 ow_121 fx_6_34 oc_0 rb_0_4).trans ?_
    refine (sx_iconst (v := 0) dx_121_21 rfl).trans ?_
    refine (sx_pfi dx_121_22 ow_121 fx_6_100 oc_21).trans ?_
    refine (sx_iconst (v := 0) dx_121_25 rfl).trans ?_
    refine (sx_istore_n dx_121_26 (Nat.le_of_ble_eq_true rfl) rfl).trans ?_
    rfl
set_option maxRecDepth 10000 in
theorem b_X8_check_27 {sl d : Nat} {M : mj_M} {y1 : Int32} {y2 : Int32} {w3 : Value}  : mj_E sl (d + 1) 121 27 [.ref 0, .int y1, .int y2, w3] [] M = if y2 < y1 then ((mj_C sl d 5 [.ref 3, .int y2] M).bind (fun q1 => if q1.1 = 0 then ((mj_C sl d 76 [.ref 21, .int y2] q1.2).bind (fun q2 => if q2.1 = 0 then (mj_E sl (d + 1) 121 27 [.ref 0, .int y1, .int (y2 + 1), .int 0] [] q2.2) else (some ((y2 : Int32), q2.2)))) else ((mj_C sl d 9 [.ref 3, .int y2] q1.2).bind (fun q3 => (mj_C sl d 76 [.ref 21, .int y2] q3.2).bind (fun q4 => if q4.1 = q3.1 then (mj_E sl (d + 1) 121 27 [.ref 0, .int y1, .int (y2 + 1), .int q3.1] [] q4.2) else (some ((y2 : Int32), q4.2))))))) else (some (((-1) : Int32), M)) := by
  refine (sx_iload_n dx_121_27 rfl).trans ?_
  refine (sx_iload_n dx_121_28 rfl).trans ?_
  refine (sx_icmp_ge (tgt := 76) dx_121_29 (by decide)).trans ?_
  refine mj_ite ?_ ?_
  · refine (sx_aload_n dx_121_32 rfl).trans ?_
    refine (sx_gfr dx_121_33 ow_121 fx_6_21 oc_0 rb_0_1).trans ?_
    refine (sx_iload_n dx_121_36 rfl).trans ?_
    refine (sx_v1i dx_121_37 ow_121 cx_6_85 oc_3 (Nat.le_of_ble_eq_true rfl)).trans ?_
    refine mj_bnd (fun q1 => ?_)
    refine (sx_if_eq (tgt := 54) dx_121_40 (by decide)).trans ?_
    refine mj_ite ?_ ?_
    · refine (sx_iconst (v := 0) dx_121_54 rfl).trans ?_
      refine (sx_istore_n dx_121_55 (Nat.le_of_ble_eq_true rfl) rfl).trans ?_
      refine (sx_aload_n dx_121_56 rfl).trans ?_
      refine (sx_gfr dx_121_57 ow_121 fx_6_34 oc_0 rb_0_4).trans ?_
      refine (sx_iload_n dx_121_60 rfl).trans ?_
      refine (sx_v1i dx_121_61 ow_121 cx_6_200 oc_21 (Nat.le_of_ble_eq_true rfl)).trans ?_
      refine mj_bnd (fun q2 => ?_)
      refine (sx_iload_n dx_121_64 rfl).trans ?_
      refine (sx_icmp_eq (tgt := 70) dx_121_65 (by decide)).trans ?_
      refine mj_ite ?_ ?_
      · refine (sx_iinc (v := 1) dx_121_70 rfl rfl rfl).trans ?_
        refine (sx_goto (tgt := 27) dx_121_73 (by decide)).trans ?_
        rfl
      · refine (sx_iload_n dx_121_68 rfl).trans ?_
        exact sx_reti dx_121_69 rt_121
    · refine (sx_aload_n dx_121_43 rfl).trans ?_
      refine (sx_gfr dx_121_44 ow_121 fx_6_21 oc_0 rb_0_1).trans ?_
      refine (sx_iload_n dx_121_47 rfl).trans ?_
      refine (sx_v1i dx_121_48 ow_121 cx_6_153 oc_3 (Nat.le_of_ble_eq_true rfl)).trans ?_
      refine mj_bnd (fun q3 => ?_)
      refine (sx_goto (tgt := 55) dx_121_51 (by decide)).trans ?_
      refine (sx_istore_n dx_121_55 (Nat.le_of_ble_eq_true rfl) rfl).trans ?_
      refine (sx_aload_n dx_121_56 rfl).trans ?_
      refine (sx_gfr dx_121_57 ow_121 fx_6_34 oc_0 rb_0_4).trans ?_
      refine (sx_iload_n dx_121_60 rfl).trans ?_
      refine (sx_v1i dx_121_61 ow_121 cx_6_200 oc_21 (Nat.le_of_ble_eq_true rfl)).trans ?_
      refine mj_bnd (fun q4 => ?_)
      refine (sx_iload_n dx_121_64 rfl).trans ?_
      refine (sx_icmp_eq (tgt := 70) dx_121_65 (by decide)).trans ?_
      refine mj_ite ?_ ?_
      · refine (sx_iinc (v := 1) dx_121_70 rfl rfl rfl).trans ?_
        refine (sx_goto (tgt := 27) dx_121_73 (by decide)).trans ?_
        rfl
      · refine (sx_iload_n dx_121_68 rfl).trans ?_
        exact sx_reti dx_121_69 rt_121
  · refine (sx_iconst (v := (-1)) dx_121_76 rfl).trans ?_
    exact sx_reti dx_121_77 rt_121
theorem dx_122_0 : mj_at 122 0 = some (.iload_n 1) := by decide +kernel
theorem dx_122_1 : mj_at 122 1 = some (.tableswitch 99 0 6 #[43, 51, 59, 67, 75, 83, 91]) := by decide +kernel
theorem dx_122_44 : mj_at 122 44 = some (.aload_n 0) := by decide +kernel
theorem dx_122_45 : mj_at 122 45 = some (.getfield 21) := by decide +kernel
theorem dx_122_48 : mj_at 122 48 = some (.getfield 278) := by decide +kernel
theorem dx_122_51 : mj_at 122 51 = some (.ireturn) := by decide +kernel
theorem dx_122_52 : mj_at 122 52 = some (.aload_n 0) := by decide +kernel
theorem dx_122_53 : mj_at 122 53 = some (.getfield 21) := by decide +kernel
theorem dx_122_56 : mj_at 122 56 = some (.getfield 227) := by decide +kernel
theorem dx_122_59 : mj_at 122 59 = some (.ireturn) := by decide +kernel
theorem dx_122_60 : mj_at 122 60 = some (.aload_n 0) := by decide +kernel
theorem dx_122_61 : mj_at 122 61 = some (.getfield 10) := by decide +kernel
theorem dx_122_64 : mj_at 122 64 = some (.getfield 224) := by decide +kernel
theorem dx_122_67 : mj_at 122 67 = some (.ireturn) := by decide +kernel
theorem dx_122_68 : mj_at 122 68 = some (.aload_n 0) := by decide +kernel
theorem dx_122_69 : mj_at 122 69 = some (.getfield 41) := by decide +kernel
theorem dx_122_72 : mj_at 122 72 = some (.getfield 187) := by decide +kernel
theorem dx_122_75 : mj_at 122 75 = some (.ireturn) := by decide +kernel
theorem dx_122_76 : mj_at 122 76 = some (.aload_n 0) := by decide +kernel
theorem dx_122_77 : mj_at 122 77 = some (.getfield 64) := by decide +kernel
theorem dx_122_80 : mj_at 122 80 = some (.getfield 281) := by decide +kernel
theorem dx_122_83 : mj_at 122 83 = some (.ireturn) := by decide +kernel
theorem dx_122_84 : mj_at 122 84 = some (.aload_n 0) := by decide +kernel
theorem dx_122_85 : mj_at 122 85 = some (.getfield 34) := by decide +kernel
theorem dx_122_88 : mj_at 122 88 = some (.getfield 100) := by decide +kernel
theorem dx_122_91 : mj_at 122 91 = some (.ireturn) := by decide +kernel
theorem dx_122_92 : mj_at 122 92 = some (.aload_n 0) := by decide +kernel
theorem dx_122_93 : mj_at 122 93 = some (.getfield 21) := by decide +kernel
theorem dx_122_96 : mj_at 122 96 = some (.getfield 275) := by decide +kernel
theorem dx_122_99 : mj_at 122 99 = some (.ireturn) := by decide +kernel
theorem dx_122_100 : mj_at 122 100 = some (.iload_n 1) := by decide +kernel
theorem dx_122_101 : mj_at 122 101 = some (.bipush 100) := by decide +kernel
theorem dx_122_103 : mj_at 122 103 = some (.if_icmp .lt 32) := by decide +kernel
theorem dx_122_106 : mj_at 122 106 = some (.iload_n 1) := by decide +kernel
theorem dx_122_107 : mj_at 122 107 = some (.bipush 100) := by decide +kernel
theorem dx_122_109 : mj_at 122 109 = some (.isub) := by decide +kernel
theorem dx_122_110 : mj_at 122 110 = some (.aload_n 0) := by decide +kernel
theorem dx_122_111 : mj_at 122 111 = some (.getfield 41) := by decide +kernel
theorem dx_122_114 : mj_at 122 114 = some (.getfield 187) := by decide +kernel
theorem dx_122_117 : mj_at 122 117 = some (.if_icmp .ge 18) := by decide +kernel
theorem dx_122_120 : mj_at 122 120 = some (.aload_n 0) := by decide +kernel
theorem dx_122_121 : mj_at 122 121 = some (.getfield 41) := by decide +kernel
theorem dx_122_124 : mj_at 122 124 = some (.getfield 188) := by decide +kernel
theorem dx_122_127 : mj_at 122 127 = some (.iload_n 1) := by decide +kernel
theorem dx_122_128 : mj_at 122 128 = some (.bipush 100) := by decide +kernel
theorem dx_122_130 : mj_at 122 130 = some (.isub) := by decide +kernel
theorem dx_122_131 : mj_at 122 131 = some (.iaload) := by decide +kernel
theorem dx_122_132 : mj_at 122 132 = some (.goto 4) := by decide +kernel
theorem dx_122_135 : mj_at 122 135 = some (.iconst (-1)) := by decide +kernel
theorem dx_122_136 : mj_at 122 136 = some (.ireturn) := by decide +kernel
set_option maxRecDepth 10000 in
theorem b_X8_count {sl d : Nat} {M : mj_M} {x1 : Int32}  : mj_C sl d 122 [.ref 0, .int x1] M = if x1 = 0 then (some ((M 3 7 : Int32), M)) else (if x1 = 1 then (some ((M 3 6 : Int32), M)) else (if x1 = 2 then (some ((M 1 1 : Int32), M)) else (if x1 = 3 then (some ((M 23 4 : Int32), M)) else (if x1 = 4 then (some ((M (mj_lw (M 0 9)) 7 : Int32), M)) else (if x1 = 5 then (some ((M 21 1 : Int32), M)) else (if x1 = 6 then (some ((M 3 8 : Int32), M)) else (if x1 < 100 then (some (((-1) : Int32), M)) else (if x1 - 100 < (M 23 4) then (if mj_inB (x1 - 100) 60 = true then (some ((M 24 (x1 - 100 : Int32).toNatClampNeg : Int32), M)) else none) else (some (((-1) : Int32), M)))))))))) := by
  show mj_E sl d 122 0 [.ref 0, .int x1] [] M = _
  refine (sx_iload_n dx_122_0 rfl).trans ?_
  refine mj_sel (fun hx1_0 => ?_) (fun hx1_0 => ?_)
  · refine (sx_tsw_in (off := 43) (tgt := 44) dx_122_1 hx1_0 (by decide) (by decide) (by decide)).trans ?_
    refine (sx_aload_n dx_122_44 rfl).trans ?_
    refine (sx_gfr dx_122_45 ow_122 fx_6_21 oc_0 rb_0_1).trans ?_
    refine (sx_gfi dx_122_48 ow_122 fx_6_278 (by decide) oc_3).trans ?_
    exact sx_reti dx_122_51 rt_122
  refine mj_sel (fun hx1_1 => ?_) (fun hx1_1 => ?_)
  · refine (sx_tsw_in (off := 51) (tgt := 52) dx_122_1 hx1_1 (by decide) (by decide) (by decide)).trans ?_
    refine (sx_aload_n dx_122_52 rfl).trans ?_
    refine (sx_gfr dx_122_53 ow_122 fx_6_21 oc_0 rb_0_1).trans ?_
    refine (sx_gfi dx_122_56 ow_122 fx_6_227 (by decide) oc_3).trans ?_
    exact sx_reti dx_122_59 rt_122
  refine mj_sel (fun hx1_2 => ?_) (fun hx1_2 => ?_)
  · refine (sx_tsw_in (off := 59) (tgt := 60) dx_122_1 hx1_2 (by decide) (by decide) (by decide)).trans ?_
    refine (sx_aload_n dx_122_60 rfl).trans ?_
    refine (sx_gfr dx_122_61 ow_122 fx_6_10 oc_0 rb_0_0).trans ?_
    refine (sx_gfi dx_122_64 ow_122 fx_6_224 (by decide) oc_1).trans ?_
    exact sx_reti dx_122_67 rt_122
  refine mj_sel (fun hx1_3 => ?_) (fun hx1_3 => ?_)
  · refine (sx_tsw_in (off := 67) (tgt := 68) dx_122_1 hx1_3 (by decide) (by decide) (by decide)).trans ?_
    refine (sx_aload_n dx_122_68 rfl).trans ?_
    refine (sx_gfr dx_122_69 ow_122 fx_6_41 oc_0 rb_0_5).trans ?_
    refine (sx_gfi dx_122_72 ow_122 fx_6_187 (by decide) oc_23).trans ?_
    exact sx_reti dx_122_75 rt_122
  refine mj_sel (fun hx1_4 => ?_) (fun hx1_4 => ?_)
  · refine (sx_tsw_in (off := 75) (tgt := 76) dx_122_1 hx1_4 (by decide) (by decide) (by decide)).trans ?_
    refine (sx_aload_n dx_122_76 rfl).trans ?_
    refine (sx_gfl dx_122_77 ow_122 fx_6_64 oc_0).trans ?_
    refine (sx_gfi dx_122_80 ow_122 fx_6_281 (by decide) (oc_lw _)).trans ?_
    exact sx_reti dx_122_83 rt_122
  refine mj_sel (fun hx1_5 => ?_) (fun hx1_5 => ?_)
  · refine (sx_tsw_in (off := 83) (tgt := 84) dx_122_1 hx1_5 (by decide) (by decide) (by decide)).trans ?_
    refine (sx_aload_n dx_122_84 rfl).trans ?_
    refine (sx_gfr dx_122_85 ow_122 fx_6_34 oc_0 rb_0_4).trans ?_
    refine (sx_gfi dx_122_88 ow_122 fx_6_100 (by decide) oc_21).trans ?_
    exact sx_reti dx_122_91 rt_122
  refine mj_sel (fun hx1_6 => ?_) (fun hx1_6 => ?_)
  · refine (sx_tsw_in (off := 91) (tgt := 92) dx_122_1 hx1_6 (by decide) (by decide) (by decide)).trans ?_
    refine (sx_aload_n dx_122_92 rfl).trans ?_
    refine (sx_gfr dx_122_93 ow_122 fx_6_21 oc_0 rb_0_1).trans ?_
    refine (sx_gfi dx_122_96 ow_122 fx_6_275 (by decide) oc_3).trans ?_
    exact sx_reti dx_122_99 rt_122
  have zhx1_0 := mj_ne hx1_0 (n := 0) (by decide)
  have zhx1_1 := mj_ne hx1_1 (n := 1) (by decide)
  have zhx1_2 := mj_ne hx1_2 (n := 2) (by decide)
  have zhx1_3 := mj_ne hx1_3 (n := 3) (by decide)
  have zhx1_4 := mj_ne hx1_4 (n := 4) (by decide)
  have zhx1_5 := mj_ne hx1_5 (n := 5) (by decide)
  have zhx1_6 := mj_ne hx1_6 (n := 6) (by decide)
  refine (sx_tsw_out (tgt := 100) dx_122_1 (by omega) (by decide)).trans ?_
  refine (sx_iload_n dx_122_100 rfl).trans ?_
  refine (sx_bipush (v := 100) dx_122_101 rfl).trans ?_
  refine (sx_icmp_lt (tgt := 135) dx_122_103 (by decide)).trans ?_
  refine mj_ite ?_ ?_
  · refine (sx_iconst (v := (-1)) dx_122_135 rfl).trans ?_
    exact sx_reti dx_122_136 rt_122
  · refine (sx_iload_n dx_122_106 rfl).trans ?_
    refine (sx_bipush (v := 100) dx_122_107 rfl).trans ?_
    refine (sx_isub dx_122_109).trans ?_
    refine (sx_aload_n dx_122_110 rfl).trans ?_
    refine (sx_gfr dx_122_111 ow_122 fx_6_41 oc_0 rb_0_5).trans ?_
    refine (sx_gfi dx_122_114 ow_122 fx_6_187 (by decide) oc_23).trans ?_
    refine (sx_icmp_ge (tgt := 135) dx_122_117 (by decide)).trans ?_
    refine mj_ite ?_ ?_
    · refine (sx_aload_n dx_122_120 rfl).trans ?_
      refine (sx_gfr dx_122_121 ow_122 fx_6_41 oc_0 rb_0_5).trans ?_
      refine (sx_gfr dx_122_124 ow_122 fx_6_188 oc_23 rb_23_0).trans ?_
      refine (sx_iload_n dx_122_127 rfl).trans ?_
      refine (sx_bipush (v := 100) dx_122_128 rfl).trans ?_
      refine (sx_isub dx_122_130).trans ?_
      refine (sx_ild dx_122_131 (by decide) ia_24).trans ?_
      refine mj_ite ?_ rfl
      refine (sx_goto (tgt := 136) dx_122_132 (by decide)).trans ?_
      exact sx_reti dx_122_136 rt_122
    · refine (sx_iconst (v := (-1)) dx_122_135 rfl).trans ?_
      exact sx_reti dx_122_136 rt_122
theorem dx_123_0 : mj_at 123 0 = some (.sipush (-1000)) := by decide +kernel
theorem dx_123_3 : mj_at 123 3 = some (.iload_n 0) := by decide +kernel
theorem dx_123_4 : mj_at 123 4 = some (.imul) := by decide +kernel
theorem dx_123_5 : mj_at 123 5 = some (.iload_n 1) := by decide +kernel
theorem dx_123_6 : mj_at 123 6 = some (.isub) := by decide +kernel
theorem dx_123_7 : mj_at 123 7 = some (.ireturn) := by decide +kernel
set_option maxRecDepth 10000 in
theorem b_X8_fault {sl d : Nat} {M : mj_M} {x1 : Int32} {x2 : Int32}  : mj_C sl d 123 [.int x1, .int x2] M = some ((((-1000 : Int32) * x1) - x2 : Int32), M) := by
  show mj_E sl d 123 0 [.int x1, .int x2] [] M = _
  refine (sx_sipush (v := (-1000)) dx_123_0 rfl).trans ?_
  refine (sx_iload_n dx_123_3 rfl).trans ?_
  refine (sx_imul dx_123_4).trans ?_
  refine (sx_iload_n dx_123_5 rfl).trans ?_
  refine (sx_isub dx_123_6).trans ?_
  exact sx_reti dx_123_7 rt_123
