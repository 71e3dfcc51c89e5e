theorem dx_20_0 : mj_at 20 0 = some (.iload_n 0) := by decide +kernel
theorem dx_20_1 : mj_at 20 1 = some (.ifCond .lt 13) := by decide +kernel
theorem dx_20_4 : mj_at 20 4 = some (.iload_n 0) := by decide +kernel
theorem dx_20_5 : mj_at 20 5 = some (.ldc 11) := by decide +kernel
theorem dx_20_7 : mj_at 20 7 = some (.if_icmp .gt 7) := by decide +kernel
theorem dx_20_10 : mj_at 20 10 = some (.iconst 1) := by decide +kernel
theorem dx_20_11 : mj_at 20 11 = some (.goto 4) := by decide +kernel
theorem dx_20_14 : mj_at 20 14 = some (.iconst 0) := by decide +kernel
theorem dx_20_15 : mj_at 20 15 = some (.ireturn) := by decide +kernel
set_option maxRecDepth 10000 in
theorem b_X2_fits {sl d : Nat} {M : mj_M} {x1 : Int32}  : mj_C sl d 20 [.int x1] M = if x1 < 0 then (some ((0 : Int32), M)) else (if x1 ≤ 33554431 then (some ((1 : Int32), M)) else (some ((0 : Int32), M))) := by
  show mj_E sl d 20 0 [.int x1] [] M = _
  refine (sx_iload_n dx_20_0 rfl).trans ?_
  refine (sx_if_lt (tgt := 14) dx_20_1 (by decide)).trans ?_
  refine mj_ite ?_ ?_
  · refine (sx_iconst (v := 0) dx_20_14 rfl).trans ?_
    exact sx_retz dx_20_15 rt_20 (by decide)
  · refine (sx_iload_n dx_20_4 rfl).trans ?_
    refine (sx_ldc (v := 33554431) dx_20_5 ow_20 kx_9_11).trans ?_
    refine (sx_icmp_gt (tgt := 14) dx_20_7 (by decide)).trans ?_
    refine mj_ite ?_ ?_
    · refine (sx_iconst (v := 1) dx_20_10 rfl).trans ?_
      refine (sx_goto (tgt := 15) dx_20_11 (by decide)).trans ?_
      exact sx_retz dx_20_15 rt_20 (by decide)
    · refine (sx_iconst (v := 0) dx_20_14 rfl).trans ?_
      exact sx_retz dx_20_15 rt_20 (by decide)
theorem dx_21_0 : mj_at 21 0 = some (.iload_n 0) := by decide +kernel
theorem dx_21_1 : mj_at 21 1 = some (.iload_n 1) := by decide +kernel
theorem dx_21_2 : mj_at 21 2 = some (.ixor) := by decide +kernel
theorem dx_21_3 : mj_at 21 3 = some (.invokestatic 12) := by decide +kernel
theorem dx_21_6 : mj_at 21 6 = some (.ireturn) := by decide +kernel
set_option maxRecDepth 10000 in
theorem b_X2_gap {sl d : Nat} {M : mj_M} {x1 : Int32} {x2 : Int32}  : mj_C sl (d + 1) 21 [.int x1, .int x2] M = (mj_C sl d 229 [.int (x1 ^^^ x2)] M).bind (fun q1 => some ((q1.1 : Int32), q1.2)) := by
  show mj_E sl (d + 1) 21 0 [.int x1, .int x2] [] M = _
  refine (sx_iload_n dx_21_0 rfl).trans ?_
  refine (sx_iload_n dx_21_1 rfl).trans ?_
  refine (sx_ixor dx_21_2).trans ?_
  refine (sx_s1i dx_21_3 ow_21 cx_9_12 (Nat.le_of_ble_eq_true rfl)).trans ?_
  refine mj_bnd (fun q1 => ?_)
  exact sx_reti dx_21_6 rt_21
theorem dx_22_0 : mj_at 22 0 = some (.iload_n 0) := by decide +kernel
theorem dx_22_1 : mj_at 22 1 = some (.ldc 18) := by decide +kernel
theorem dx_22_3 : mj_at 22 3 = some (.iand) := by decide +kernel
theorem dx_22_4 : mj_at 22 4 = some (.iconst 1) := by decide +kernel
theorem dx_22_5 : mj_at 22 5 = some (.iushr) := by decide +kernel
theorem dx_22_6 : mj_at 22 6 = some (.ireturn) := by decide +kernel
set_option maxRecDepth 10000 in
theorem b_X2_toLeft {sl d : Nat} {M : mj_M} {x1 : Int32}  : mj_C sl d 22 [.int x1] M = some ((mj_us (x1 &&& (-1082402)) 1 : Int32), M) := by
  show mj_E sl d 22 0 [.int x1] [] M = _
  refine (sx_iload_n dx_22_0 rfl).trans ?_
  refine (sx_ldc (v := (-1082402)) dx_22_1 ow_22 kx_9_18).trans ?_
  refine (sx_iand dx_22_3).trans ?_
  refine (sx_iconst (v := 1) dx_22_4 rfl).trans ?_
  refine (sx_iushr dx_22_5).trans ?_
  exact sx_reti dx_22_6 rt_22
theorem dx_23_0 : mj_at 23 0 = some (.iload_n 0) := by decide +kernel
theorem dx_23_1 : mj_at 23 1 = some (.ldc 19) := by decide +kernel
theorem dx_23_3 : mj_at 23 3 = some (.iand) := by decide +kernel
theorem dx_23_4 : mj_at 23 4 = some (.iconst 1) := by decide +kernel
theorem dx_23_5 : mj_at 23 5 = some (.ishl) := by decide +kernel
theorem dx_23_6 : mj_at 23 6 = some (.ireturn) := by decide +kernel
set_option maxRecDepth 10000 in
theorem b_X2_toRight {sl d : Nat} {M : mj_M} {x1 : Int32}  : mj_C sl d 23 [.int x1] M = some (((x1 &&& (-17318417)) <<< ((1 : Int32) &&& 31) : Int32), M) := by
  show mj_E sl d 23 0 [.int x1] [] M = _
  refine (sx_iload_n dx_23_0 rfl).trans ?_
  refine (sx_ldc (v := (-17318417)) dx_23_1 ow_23 kx_9_19).trans ?_
  refine (sx_iand dx_23_3).trans ?_
  refine (sx_iconst (v := 1) dx_23_4 rfl).trans ?_
  refine (sx_ishl dx_23_5).trans ?_
  exact sx_reti dx_23_6 rt_23
theorem dx_24_0 : mj_at 24 0 = some (.iload_n 0) := by decide +kernel
theorem dx_24_1 : mj_at 24 1 = some (.iconst 5) := by decide +kernel
theorem dx_24_2 : mj_at 24 2 = some (.iushr) := by decide +kernel
theorem dx_24_3 : mj_at 24 3 = some (.ireturn) := by decide +kernel
set_option maxRecDepth 10000 in
theorem b_X2_toTop {sl d : Nat} {M : mj_M} {x1 : Int32}  : mj_C sl d 24 [.int x1] M = some ((mj_us x1 5 : Int32), M) := by
  show mj_E sl d 24 0 [.int x1] [] M = _
  refine (sx_iload_n dx_24_0 rfl).trans ?_
  refine (sx_iconst (v := 5) dx_24_1 rfl).trans ?_
  refine (sx_iushr dx_24_2).trans ?_
  exact sx_reti dx_24_3 rt_24
theorem dx_25_0 : mj_at 25 0 = some (.iload_n 0) := by decide +kernel
theorem dx_25_1 : mj_at 25 1 = some (.iconst 5) := by decide +kernel
theorem dx_25_2 : mj_at 25 2 = some (.ishl) := by decide +kernel
theorem dx_25_3 : mj_at 25 3 = some (.ldc 11) := by decide +kernel
theorem dx_25_5 : mj_at 25 5 = some (.iand) := by decide +kernel
theorem dx_25_6 : mj_at 25 6 = some (.ireturn) := by decide +kernel
set_option maxRecDepth 10000 in
theorem b_X2_toBottom {sl d : Nat} {M : mj_M} {x1 : Int32}  : mj_C sl d 25 [.int x1] M = some (((x1 <<< ((5 : Int32) &&& 31)) &&& 33554431 : Int32), M) := by
  show mj_E sl d 25 0 [.int x1] [] M = _
  refine (sx_iload_n dx_25_0 rfl).trans ?_
  refine (sx_iconst (v := 5) dx_25_1 rfl).trans ?_
  refine (sx_ishl dx_25_2).trans ?_
  refine (sx_ldc (v := 33554431) dx_25_3 ow_25 kx_9_11).trans ?_
  refine (sx_iand dx_25_5).trans ?_
  exact sx_reti dx_25_6 rt_25
theorem dx_26_0 : mj_at 26 0 = some (.iload_n 0) := by decide +kernel
theorem dx_26_1 : mj_at 26 1 = some (.ldc 20) := by decide +kernel
theorem dx_26_3 : mj_at 26 3 = some (.iand) := by decide +kernel
theorem dx_26_4 : mj_at 26 4 = some (.iconst 4) := by decide +kernel
theorem dx_26_5 : mj_at 26 5 = some (.ishl) := by decide +kernel
theorem dx_26_6 : mj_at 26 6 = some (.iload_n 0) := by decide +kernel
theorem dx_26_7 : mj_at 26 7 = some (.ldc 21) := by decide +kernel
theorem dx_26_9 : mj_at 26 9 = some (.iand) := by decide +kernel
theorem dx_26_10 : mj_at 26 10 = some (.iconst 2) := by decide +kernel
theorem dx_26_11 : mj_at 26 11 = some (.ishl) := by decide +kernel
theorem dx_26_12 : mj_at 26 12 = some (.ior) := by decide +kernel
theorem dx_26_13 : mj_at 26 13 = some (.iload_n 0) := by decide +kernel
theorem dx_26_14 : mj_at 26 14 = some (.ldc 22) := by decide +kernel
theorem dx_26_16 : mj_at 26 16 = some (.iand) := by decide +kernel
theorem dx_26_17 : mj_at 26 17 = some (.ior) := by decide +kernel
theorem dx_26_18 : mj_at 26 18 = some (.iload_n 0) := by decide +kernel
theorem dx_26_19 : mj_at 26 19 = some (.ldc 23) := by decide +kernel
theorem dx_26_21 : mj_at 26 21 = some (.iand) := by decide +kernel
theorem dx_26_22 : mj_at 26 22 = some (.iconst 2) := by decide +kernel
theorem dx_26_23 : mj_at 26 23 = some (.iushr) := by decide +kernel
theorem dx_26_24 : mj_at 26 24 = some (.ior) := by decide +kernel
theorem dx_26_25 : mj_at 26 25 = some (.iload_n 0) := by decide +kernel
theorem dx_26_26 : mj_at 26 26 = some (.ldc 24) := by decide +kernel
theorem dx_26_28 : mj_at 26 28 = some (.iand) := by decide +kernel
theorem dx_26_29 : mj_at 26 29 = some (.iconst 4) := by decide +kernel
theorem dx_26_30 : mj_at 26 30 = some (.iushr) := by decide +kernel
theorem dx_26_31 : mj_at 26 31 = some (.ior) := by decide +kernel
theorem dx_26_32 : mj_at 26 32 = some (.ireturn) := by decide +kernel
set_option maxRecDepth 10000 in
theorem b_X2_mirrored {sl d : Nat} {M : mj_M} {x1 : Int32}  : mj_C sl d 26 [.int x1] M = some (((((((x1 &&& 1082401) <<< ((4 : Int32) &&& 31)) ||| ((x1 &&& 2164802) <<< ((2 : Int32) &&& 31))) ||| (x1 &&& 4329604)) ||| (mj_us (x1 &&& 8659208) 2)) ||| (mj_us (x1 &&& 17318416) 4) : Int32), M) := by
  show mj_E sl d 26 0 [.int x1] [] M = _
  refine (sx_iload_n dx_26_0 rfl).trans ?_
  refine (sx_ldc (v := 1082401) dx_26_1 ow_26 kx_9_20).trans ?_
  refine (sx_iand dx_26_3).trans ?_
  refine (sx_iconst (v := 4) dx_26_4 rfl).trans ?_
  refine (sx_ishl dx_26_5).trans ?_
  refine (sx_iload_n dx_26_6 rfl).trans ?_
  refine (sx_ldc (v := 2164802) dx_26_7 ow_26 kx_9_21).trans ?_
  refine (sx_iand dx_26_9).trans ?_
  refine (sx_iconst (v := 2) dx_26_10 rfl).trans ?_
  refine (sx_ishl dx_26_11).trans ?_
  refine (sx_ior dx_26_12).trans ?_
  refine (sx_iload_n dx_26_13 rfl).trans ?_
  refine (sx_ldc (v := 4329604) dx_26_14 ow_26 kx_9_22).trans ?_
  refine (sx_iand dx_26_16).trans ?_
  refine (sx_ior dx_26_17).trans ?_
  refine (sx_iload_n dx_26_18 rfl).trans ?_
  refine (sx_ldc (v := 8659208) dx_26_19 ow_26 kx_9_23).trans ?_
  refine (sx_iand dx_26_21).trans ?_
  refine (sx_iconst (v := 2) dx_26_22 rfl).trans ?_
  refine (sx_iushr dx_26_23).trans ?_
  refine (sx_ior dx_26_24).trans ?_
  refine (sx_iload_n dx_26_25 rfl).trans ?_
  refine (sx_ldc (v := 17318416) dx_26_26 ow_26 kx_9_24).trans ?_
  refine (sx_iand dx_26_28).trans ?_
  refine (sx_iconst (v := 4) dx_26_29 rfl).trans ?_
  refine (sx_iushr dx_26_30).trans ?_
  refine (sx_ior dx_26_31).trans ?_
  exact sx_reti dx_26_32 rt_26
theorem dx_27_0 : mj_at 27 0 = some (.iconst 0) := by decide +kernel
theorem dx_27_1 : mj_at 27 1 = some (.istore_n 1) := by decide +kernel
theorem dx_27_2 : mj_at 27 2 = some (.iconst 0) := by decide +kernel
theorem dx_27_3 : mj_at 27 3 = some (.istore_n 2) := by decide +kernel
theorem dx_27_4 : mj_at 27 4 = some (.iload_n 2) := by decide +kernel
theorem dx_27_5 : mj_at 27 5 = some (.iconst 5) := by decide +kernel
theorem dx_27_6 : mj_at 27 6 = some (.if_icmp .ge 48) := by decide +kernel
theorem dx_27_9 : mj_at 27 9 = some (.iconst 0) := by decide +kernel
theorem dx_27_10 : mj_at 27 10 = some (.istore_n 3) := by decide +kernel
theorem dx_27_11 : mj_at 27 11 = some (.iload_n 3) := by decide +kernel
theorem dx_27_12 : mj_at 27 12 = some (.iconst 5) := by decide +kernel
theorem dx_27_13 : mj_at 27 13 = some (.if_icmp .ge 35) := by decide +kernel
theorem dx_27_16 : mj_at 27 16 = some (.iload_n 0) := by decide +kernel
theorem dx_27_17 : mj_at 27 17 = some (.iconst 5) := by decide +kernel
theorem dx_27_18 : mj_at 27 18 = some (.iload_n 2) := by decide +kernel
theorem dx_27_19 : mj_at 27 19 = some (.imul) := by decide +kernel
theorem dx_27_20 : mj_at 27 20 = some (.iload_n 3) := by decide +kernel
theorem dx_27_21 : mj_at 27 21 = some (.iadd) := by decide +kernel
theorem dx_27_22 : mj_at 27 22 = some (.ishr) := by decide +kernel
theorem dx_27_23 : mj_at 27 23 = some (.iconst 1) := by decide +kernel
theorem dx_27_24 : mj_at 27 24 = some (.iand) := by decide +kernel
theorem dx_27_25 : mj_at 27 25 = some (.istore 4) := by decide +kernel
theorem dx_27_27 : mj_at 27 27 = some (.iload_n 1) := by decide +kernel
theorem dx_27_28 : mj_at 27 28 = some (.iload 4) := by decide +kernel
theorem dx_27_30 : mj_at 27 30 = some (.iconst 5) := by decide +kernel
theorem dx_27_31 : mj_at 27 31 = some (.iload_n 3) := by decide +kernel
theorem dx_27_32 : mj_at 27 32 = some (.imul) := by decide +kernel
theorem dx_27_33 : mj_at 27 33 = some (.iconst 5) := by decide +kernel
theorem dx_27_34 : mj_at 27 34 = some (.iadd) := by decide +kernel
theorem dx_27_35 : mj_at 27 35 = some (.iconst 1) := by decide +kernel
theorem dx_27_36 : mj_at 27 36 = some (.isub) := by decide +kernel
theorem dx_27_37 : mj_at 27 37 = some (.iload_n 2) := by decide +kernel
theorem dx_27_38 : mj_at 27 38 = some (.isub) := by decide +kernel
theorem dx_27_39 : mj_at 27 39 = some (.ishl) := by decide +kernel
theorem dx_27_40 : mj_at 27 40 = some (.ior) := by decide +kernel
theorem dx_27_41 : mj_at 27 41 = some (.istore_n 1) := by decide +kernel
theorem dx_27_42 : mj_at 27 42 = some (.iinc 3 1) := by decide +kernel
theorem dx_27_45 : mj_at 27 45 = some (.goto (-34)) := by decide +kernel
theorem dx_27_48 : mj_at 27 48 = some (.iinc 2 1) := by decide +kernel
theorem dx_27_51 : mj_at 27 51 = some (.goto (-47)) := by decide +kernel
theorem dx_27_54 : mj_at 27 54 = some (.iload_n 1) := by decide +kernel
theorem dx_27_55 : mj_at 27 55 = some (.ireturn) := by decide +kernel
set_option maxRecDepth 10000 in
theorem b_X2_turned {sl d : Nat} {M : mj_M} {x1 : Int32}  : mj_C sl d 27 [.int x1] M = mj_E sl d 27 4 [.int x1, .int 0, .int 0, .null, .null] [] M := by
  show mj_E sl d 27 0 [.int x1, .null, .null, .null, .null] [] M = _
  refine (sx_iconst (v := 0) dx_27_0 rfl).trans ?_
  refine (sx_istore_n dx_27_1 (Nat.le_of_ble_eq_true rfl) rfl).trans ?_
  refine (sx_iconst (v := 0) dx_27_2 rfl).trans ?_
  refine (sx_istore_n dx_27_3 (Nat.le_of_ble_eq_true rfl) rfl).trans ?_
  rfl
set_option maxRecDepth 10000 in
theorem b_X2_turned_4 {sl d : Nat} {M : mj_M} {y0 : Int32} {y1 : Int32} {y2 : Int32} {w3 : Value} {w4 : Value}  : mj_E sl d 27 4 [.int y0, .int y1, .int y2, w3, w4] [] M = if y2 < 5 then (mj_E sl d 27 11 [.int y0, .int y1, .int y2, .int 0, w4] [] M) else (some ((y1 : Int32), M)) := by
  refine (sx_iload_n dx_27_4 rfl).trans ?_
  refine (sx_iconst (v := 5) dx_27_5 rfl).trans ?_
  refine (sx_icmp_ge (tgt := 54) dx_27_6 (by decide)).trans ?_
  refine mj_ite ?_ ?_
  · refine (sx_iconst (v := 0) dx_27_9 rfl).trans ?_
    refine (sx_istore_n dx_27_10 (Nat.le_of_ble_eq_true rfl) rfl).trans ?_
    rfl
  · refine (sx_iload_n dx_27_54 rfl).trans ?_
    exact sx_reti dx_27_55 rt_27
set_option maxRecDepth 10000 in
theorem b_X2_turned_11 {sl d : Nat} {M : mj_M} {y0 : Int32} {y1 : Int32} {y2 : Int32} {y3 : Int32} {w4 : Value}  : mj_E sl d 27 11 [.int y0, .int y1, .int y2, .int y3, w4] [] M = if y3 < 5 then (mj_E sl d 27 11 [.int y0, .int (y1 ||| (((y0 >>> ((((5 : Int32) * y2) + y3) &&& 31)) &&& 1) <<< ((((((5 : Int32) * y3) + 5) - 1) - y2) &&& 31))), .int y2, .int (y3 + 1), .int ((y0 >>> ((((5 : Int32) * y2) + y3) &&& 31)) &&& 1)] [] M) else (mj_E sl d 27 4 [.int y0, .int y1, .int (y2 + 1), .int y3, w4] [] M) := by
  refine (sx_iload_n dx_27_11 rfl).trans ?_
  refine (sx_iconst (v := 5) dx_27_12 rfl).trans ?_
  refine (sx_icmp_ge (tgt := 48) dx_27_13 (by decide)).trans ?_
  refine mj_ite ?_ ?_
  · refine (sx_iload_n dx_27_16 rfl).trans ?_
    refine (sx_iconst (v := 5) dx_27_17 rfl).trans ?_
    refine (sx_iload_n dx_27_18 rfl).trans ?_
    refine (sx_imul dx_27_19).trans ?_
    refine (sx_iload_n dx_27_20 rfl).trans ?_
    refine (sx_iadd dx_27_21).trans ?_
    refine (sx_ishr dx_27_22).trans ?_
    refine (sx_iconst (v := 1) dx_27_23 rfl).trans ?_
    refine (sx_iand dx_27_24).trans ?_
    refine (sx_istore dx_27_25 (Nat.le_of_ble_eq_true rfl) rfl).trans ?_
    refine (sx_iload_n dx_27_27 rfl).trans ?_
    refine (sx_iload dx_27_28 rfl).trans ?_
    refine (sx_iconst (v := 5) dx_27_30 rfl).trans ?_
    refine (sx_iload_n dx_27_31 rfl).trans ?_
    refine (sx_imul dx_27_32).trans ?_
    refine (sx_iconst (v := 5) dx_27_33 rfl).trans ?_
    refine (sx_iadd dx_27_34).trans ?_
    refine (sx_iconst (v := 1) dx_27_35 rfl).trans ?_
    refine (sx_isub dx_27_36).trans ?_
    refine (sx_iload_n dx_27_37 rfl).trans ?_
    refine (sx_isub dx_27_38).trans ?_
    refine (sx_ishl dx_27_39).trans ?_
    refine (sx_ior dx_27_40).trans ?_
    refine (sx_istore_n dx_27_41 (Nat.le_of_ble_eq_true rfl) rfl).trans ?_
    refine (sx_iinc (v := 1) dx_27_42 rfl rfl rfl).trans ?_
    refine (sx_goto (tgt := 11) dx_27_45 (by decide)).trans ?_
    rfl
  · refine (sx_iinc (v := 1) dx_27_48 rfl rfl rfl).trans ?_
    refine (sx_goto (tgt := 4) dx_27_51 (by decide)).trans ?_
    rfl
theorem dx_28_0 : mj_at 28 0 = some (.iload_n 0) := by decide +kernel
theorem dx_28_1 : mj_at 28 1 = some (.istore_n 2) := by decide +kernel
theorem dx_28_2 : mj_at 28 2 = some (.iconst 0) := by decide +kernel
theorem dx_28_3 : mj_at 28 3 = some (.istore_n 3) := by decide +kernel
theorem dx_28_4 : mj_at 28 4 = some (.iload_n 3) := by decide +kernel
theorem dx_28_5 : mj_at 28 5 = some (.bipush 8) := by decide +kernel
theorem dx_28_7 : mj_at 28 7 = some (.if_icmp .ge 31) := by decide +kernel
theorem dx_28_10 : mj_at 28 10 = some (.iload_n 3) := by decide +kernel
theorem dx_28_11 : mj_at 28 11 = some (.iconst 4) := by decide +kernel
theorem dx_28_12 : mj_at 28 12 = some (.if_icmp .ne 8) := by decide +kernel
theorem dx_28_15 : mj_at 28 15 = some (.iload_n 0) := by decide +kernel
theorem dx_28_16 : mj_at 28 16 = some (.invokestatic 25) := by decide +kernel
theorem dx_28_19 : mj_at 28 19 = some (.istore_n 2) := by decide +kernel
theorem dx_28_20 : mj_at 28 20 = some (.iload_n 2) := by decide +kernel
theorem dx_28_21 : mj_at 28 21 = some (.iload_n 1) := by decide +kernel
theorem dx_28_22 : mj_at 28 22 = some (.if_icmp .ne 5) := by decide +kernel
theorem dx_28_25 : mj_at 28 25 = some (.iload_n 3) := by decide +kernel
theorem dx_28_26 : mj_at 28 26 = some (.ireturn) := by decide +kernel
theorem dx_28_27 : mj_at 28 27 = some (.iload_n 2) := by decide +kernel
theorem dx_28_28 : mj_at 28 28 = some (.invokestatic 28) := by decide +kernel
theorem dx_28_31 : mj_at 28 31 = some (.istore_n 2) := by decide +kernel
theorem dx_28_32 : mj_at 28 32 = some (.iinc 3 1) := by decide +kernel
theorem dx_28_35 : mj_at 28 35 = some (.goto (-31)) := by decide +kernel
theorem dx_28_38 : mj_at 28 38 = some (.bipush (-2)) := by decide +kernel
theorem dx_28_40 : mj_at 28 40 = some (.ireturn) := by decide +kernel
set_option maxRecDepth 10000 in
theorem b_X2_likeness {sl d : Nat} {M : mj_M} {x1 : Int32} {x2 : Int32}  : mj_C sl (d + 1) 28 [.int x1, .int x2] M = mj_E sl (d + 1) 28 4 [.int x1, .int x2, .int x1, .int 0] [] M := by
  show mj_E sl (d + 1) 28 0 [.int x1, .int x2, .null, .null] [] M = _
  refine (sx_iload_n dx_28_0 rfl).trans ?_
  refine (sx_istore_n dx_28_1 (Nat.le_of_ble_eq_true rfl) rfl).trans ?_
  refine (sx_iconst (v := 0) dx_28_2 rfl).trans ?_
  refine (sx_istore_n dx_28_3 (Nat.le_of_ble_eq_true rfl) rfl).trans ?_
  rfl
set_option maxRecDepth 10000 in
theorem b_X2_likeness_4 {sl d : Nat} {M : mj_M} {y0 : Int32} {y1 : Int32} {y2 : Int32} {y3 : Int32}  : mj_E sl (d + 1) 28 4 [.int y0, .int y1, .int y2, .int y3] [] M = if y3 < 8 then (if y3 = 4 then ((mj_C sl d 26 [.int y0] M).bind (fun q1 => if q1.1 = y1 then (some ((y3 : Int32), q1.2)) else ((mj_C sl d 27 [.int q1.1] q1.2).bind (fun q2 => mj_E sl (d + 1) 28 4 [.int y0, .int y1, .int q2.1, .int (y3 + 1)] [] q2.2)))) else (if y2 = y1 then (some ((y3 : Int32), M)) else ((mj_C sl d 27 [.int y2] M).bind (fun q3 => mj_E sl (d + 1) 28 4 [.int y0, .int y1, .int q3.1, .int (y3 + 1)] [] q3.2)))) else (some (((-2) : Int32), M)) := by
  refine (sx_iload_n dx_28_4 rfl).trans ?_
  refine (sx_bipush (v := 8) dx_28_5 rfl).trans ?_
  refine (sx_icmp_ge (tgt := 38) dx_28_7 (by decide)).trans ?_
  refine mj_ite ?_ ?_
  · refine (sx_iload_n dx_28_10 rfl).trans ?_
    refine (sx_iconst (v := 4) dx_28_11 rfl).trans ?_
    refine (sx_icmp_ne (tgt := 20) dx_28_12 (by decide)).trans ?_
    refine mj_ite ?_ ?_
    · refine (sx_iload_n dx_28_15 rfl).trans ?_
      refine (sx_s1i dx_28_16 ow_28 cx_9_25 (Nat.le_of_ble_eq_true rfl)).trans ?_
      refine mj_bnd (fun q1 => ?_)
      refine (sx_istore_n dx_28_19 (Nat.le_of_ble_eq_true rfl) rfl).trans ?_
      refine (sx_iload_n dx_28_20 rfl).trans ?_
      refine (sx_iload_n dx_28_21 rfl).trans ?_
      refine (sx_icmp_ne (tgt := 27) dx_28_22 (by decide)).trans ?_
      refine mj_ite ?_ ?_
      · refine (sx_iload_n dx_28_25 rfl).trans ?_
        exact sx_reti dx_28_26 rt_28
      · refine (sx_iload_n dx_28_27 rfl).trans ?_
        refine (sx_s1i dx_28_28 ow_28 cx_9_28 (Nat.le_of_ble_eq_true rfl)).trans ?_
        refine mj_bnd (fun q2 => ?_)
        refine (sx_istore_n dx_28_31 (Nat.le_of_ble_eq_true rfl) rfl).trans ?_
        refine (sx_iinc (v := 1) dx_28_32 rfl rfl rfl).trans ?_
        refine (sx_goto (tgt := 4) dx_28_35 (by decide)).trans ?_
        rfl
    · refine (sx_iload_n dx_28_20 rfl).trans ?_
      refine (sx_iload_n dx_28_21 rfl).trans ?_
      refine (sx_icmp_ne (tgt := 27) dx_28_22 (by decide)).trans ?_
      refine mj_ite ?_ ?_
      · refine (sx_iload_n dx_28_25 rfl).trans ?_
        exact sx_reti dx_28_26 rt_28
      · refine (sx_iload_n dx_28_27 rfl).trans ?_
        refine (sx_s1i dx_28_28 ow_28 cx_9_28 (Nat.le_of_ble_eq_true rfl)).trans ?_
        refine mj_bnd (fun q3 => ?_)
        refine (sx_istore_n dx_28_31 (Nat.le_of_ble_eq_true rfl) rfl).trans ?_
        refine (sx_iinc (v := 1) dx_28_32 rfl rfl rfl).trans ?_
        refine (sx_goto (tgt := 4) dx_28_35 (by decide)).trans ?_
        rfl
  · refine (sx_bipush (v := (-2)) dx_28_38 rfl).trans ?_
    exact sx_reti dx_28_40 rt_28
theorem dx_29_0 : mj_at 29 0 = some (.iload_n 0) := by decide +kernel
theorem dx_29_1 : mj_at 29 1 = some (.iload_n 0) := by decide +kernel
theorem dx_29_2 : mj_at 29 2 = some (.ineg) := by decide +kernel
theorem dx_29_3 : mj_at 29 3 = some (.iand) := by decide +kernel
theorem dx_29_4 : mj_at 29 4 = some (.istore_n 2) := by decide +kernel
theorem dx_29_5 : mj_at 29 5 = some (.iconst 0) := by decide +kernel
theorem dx_29_6 : mj_at 29 6 = some (.istore_n 3) := by decide +kernel
theorem dx_29_7 : mj_at 29 7 = some (.iload_n 3) := by decide +kernel
theorem dx_29_8 : mj_at 29 8 = some (.bipush 25) := by decide +kernel
theorem dx_29_10 : mj_at 29 10 = some (.if_icmp .ge 63) := by decide +kernel
theorem dx_29_13 : mj_at 29 13 = some (.iload_n 2) := by decide +kernel
theorem dx_29_14 : mj_at 29 14 = some (.iload_n 2) := by decide +kernel
theorem dx_29_15 : mj_at 29 15 = some (.invokestatic 31) := by decide +kernel
theorem dx_29_18 : mj_at 29 18 = some (.ior) := by decide +kernel
theorem dx_29_19 : mj_at 29 19 = some (.iload_n 2) := by decide +kernel
theorem dx_29_20 : mj_at 29 20 = some (.invokestatic 34) := by decide +kernel
theorem dx_29_23 : mj_at 29 23 = some (.ior) := by decide +kernel
theorem dx_29_24 : mj_at 29 24 = some (.istore 4) := by decide +kernel
theorem dx_29_26 : mj_at 29 26 = some (.iload_n 1) := by decide +kernel
theorem dx_29_27 : mj_at 29 27 = some (.ifCond .eq 8) := by decide +kernel
theorem dx_29_30 : mj_at 29 30 = some (.iload 4) := by decide +kernel
theorem dx_29_32 : mj_at 29 32 = some (.goto 4) := by decide +kernel
theorem dx_29_35 : mj_at 29 35 = some (.iload_n 2) := by decide +kernel
theorem dx_29_36 : mj_at 29 36 = some (.istore 5) := by decide +kernel
theorem dx_29_38 : mj_at 29 38 = some (.iload 4) := by decide +kernel
theorem dx_29_40 : mj_at 29 40 = some (.iload 5) := by decide +kernel
theorem dx_29_42 : mj_at 29 42 = some (.invokestatic 37) := by decide +kernel
theorem dx_29_45 : mj_at 29 45 = some (.ior) := by decide +kernel
theorem dx_29_46 : mj_at 29 46 = some (.iload 5) := by decide +kernel
theorem dx_29_48 : mj_at 29 48 = some (.invokestatic 40) := by decide +kernel
theorem dx_29_51 : mj_at 29 51 = some (.ior) := by decide +kernel
theorem dx_29_52 : mj_at 29 52 = some (.iload_n 0) := by decide +kernel
theorem dx_29_53 : mj_at 29 53 = some (.iand) := by decide +kernel
theorem dx_29_54 : mj_at 29 54 = some (.istore 6) := by decide +kernel
theorem dx_29_56 : mj_at 29 56 = some (.iload 6) := by decide +kernel
theorem dx_29_58 : mj_at 29 58 = some (.iload_n 2) := by decide +kernel
theorem dx_29_59 : mj_at 29 59 = some (.if_icmp .ne 5) := by decide +kernel
theorem dx_29_62 : mj_at 29 62 = some (.iload_n 2) := by decide +kernel
theorem dx_29_63 : mj_at 29 63 = some (.ireturn) := by decide +kernel
theorem dx_29_64 : mj_at 29 64 = some (.iload 6) := by decide +kernel
theorem dx_29_66 : mj_at 29 66 = some (.istore_n 2) := by decide +kernel
theorem dx_29_67 : mj_at 29 67 = some (.iinc 3 1) := by decide +kernel
theorem dx_29_70 : mj_at 29 70 = some (.goto (-63)) := by decide +kernel
theorem dx_29_73 : mj_at 29 73 = some (.iload_n 2) := by decide +kernel
theorem dx_29_74 : mj_at 29 74 = some (.ireturn) := by decide +kernel
set_option maxRecDepth 10000 in
theorem b_X2_lowestPart {sl d : Nat} {M : mj_M} {x1 : Int32} {x2 : Int32}  : mj_C sl (d + 1) 29 [.int x1, .int x2] M = mj_E sl (d + 1) 29 7 [.int x1, .int x2, .int (x1 &&& (-x1)), .int 0, .null, .null, .null] [] M := by
  show mj_E sl (d + 1) 29 0 [.int x1, .int x2, .null, .null, .null, .null, .null] [] M = _
  refine (sx_iload_n dx_29_0 rfl).trans ?_
  refine (sx_iload_n dx_29_1 rfl).trans ?_
  refine (sx_ineg dx_29_2).trans ?_
  refine (sx_iand dx_29_3).trans ?_
  refine (sx_istore_n dx_29_4 (Nat.le_of_ble_eq_true rfl) rfl).trans ?_
  refine (sx_iconst (v := 0) dx_29_5 rfl).trans ?_
  refine (sx_istore_n dx_29_6 (Nat.le_of_ble_eq_true rfl) rfl).trans ?_
  rfl
set_option maxRecDepth 10000 in
theorem b_X2_lowestPart_7 {sl d : Nat} {M : mj_M} {y0 : Int32} {y1 : Int32} {y2 : Int32} {y3 : Int32} {w4 : Value} {w5 : Value} {w6 : Value}  : mj_E sl (d + 1) 29 7 [.int y0, .int y1, .int y2, .int y3, w4, w5, w6] [] M = if y3 < 25 then ((mj_C sl d 22 [.int y2] M).bind (fun q1 => (mj_C sl d 23 [.int y2] q1.2).bind (fun q2 => if y1 = 0 then ((mj_C sl d 24 [.int y2] q2.2).bind (fun q3 => (mj_C sl d 25 [.int y2] q3.2).bind (fun q4 => if ((((y2 ||| q1.1) ||| q2.1) ||| q3.1) ||| q4.1) &&& y0 = y2 then (some ((y2 : Int32), q4.2)) else (mj_E sl (d + 1) 29 7 [.int y0, .int y1, .int (((((y2 ||| q1.1) ||| q2.1) ||| q3.1) ||| q4.1) &&& y0), .int (y3 + 1), .int ((y2 ||| q1.1) ||| q2.1), .int y2, .int (((((y2 ||| q1.1) ||| q2.1) ||| q3.1) ||| q4.1) &&& y0)] [] q4.2)))) else ((mj_C sl d 24 [.int ((y2 ||| q1.1) ||| q2.1)] q2.2).bind (fun q5 => (mj_C sl d 25 [.int ((y2 ||| q1.1) ||| q2.1)] q5.2).bind (fun q6 => if ((((y2 ||| q1.1) ||| q2.1) ||| q5.1) ||| q6.1) &&& y0 = y2 then (some ((y2 : Int32), q6.2)) else (mj_E sl (d + 1) 29 7 [.int y0, .int y1, .int (((((y2 ||| q1.1) ||| q2.1) ||| q5.1) ||| q6.1) &&& y0), .int (y3 + 1), .int ((y2 ||| q1.1) ||| q2.1), .int ((y2 ||| q1.1) ||| q2.1), .int (((((y2 ||| q1.1) ||| q2.1) ||| q5.1) ||| q6.1) &&& y0)] [] q6.2))))))) else (some ((y2 : Int32), M)) := by
  refine (sx_iload_n dx_29_7 rfl).trans ?_
  refine (sx_bipush (v := 25) dx_29_8 rfl).trans ?_
  refine (sx_icmp_ge (tgt := 73) dx_29_10 (by decide)).trans ?_
  refine mj_ite ?_ ?_
  · refine (sx_iload_n dx_29_13 rfl).trans ?_
    refine (sx_iload_n dx_29_14 rfl).trans ?_
    refine (sx_s1i dx_29_15 ow_29 cx_9_31 (Nat.le_of_ble_eq_true rfl)).trans ?_
    refine mj_bnd (fun q1 => ?_)
    refine (sx_ior dx_29_18).trans ?_
    refine (sx_iload_n dx_29_19 rfl).trans ?_
    refine (sx_s1i dx_29_20 ow_29 cx_9_34 (Nat.le_of_ble_eq_true rfl)).trans ?_
    refine mj_bnd (fun q2 => ?_)
    refine (sx_ior dx_29_23).trans ?_
    refine (sx_istore dx_29_24 (Nat.le_of_ble_eq_true rfl) rfl).trans ?_
    refine (sx_iload_n dx_29_26 rfl).trans ?_
    refine (sx_if_eq (tgt := 35) dx_29_27 (by decide)).trans ?_
    refine mj_ite ?_ ?_
    · refine (sx_iload_n dx_29_35 rfl).trans ?_
      refine (sx_istore dx_29_36 (Nat.le_of_ble_eq_true rfl) rfl).trans ?_
      refine (sx_iload dx_29_38 rfl).trans ?_
      refine (sx_iload dx_29_40 rfl).trans ?_
      refine (sx_s1i dx_29_42 ow_29 cx_9_37 (Nat.le_of_ble_eq_true rfl)).trans ?_
      refine mj_bnd (fun q3 => ?_)
      refine (sx_ior dx_29_45).trans ?_
      refine (sx_iload dx_29_46 rfl).trans ?_
      refine (sx_s1i dx_29_48 ow_29 cx_9_40 (Nat.le_of_ble_eq_true rfl)).trans ?_
      refine mj_bnd (fun q4 => ?_)
      refine (sx_ior dx_29_51).trans ?_
      refine (sx_iload_n dx_29_52 rfl).trans ?_
      refine (sx_iand dx_29_53).trans ?_
      refine (sx_istore dx_29_54 (Nat.le_of_ble_eq_true rfl) rfl).trans ?_
      refine (sx_iload dx_29_56 rfl).trans ?_
      refine (sx_iload_n dx_29_58 rfl).trans ?_
      refine (sx_icmp_ne (tgt := 64) dx_29_59 (by decide)).trans ?_
      refine mj_ite ?_ ?_
      · refine (sx_iload_n dx_29_62 rfl).trans ?_
        exact sx_reti dx_29_63 rt_29
      · refine (sx_iload dx_29_64 rfl).trans ?_
        refine (sx_istore_n dx_29_66 (Nat.le_of_ble_eq_true rfl) rfl).trans ?_
        refine (sx_iinc (v := 1) dx_29_67 rfl rfl rfl).trans ?_
        refine (sx_goto (tgt := 7) dx_29_70 (by decide)).trans ?_
        rfl
    · refine (sx_iload dx_29_30 rfl).trans ?_
      refine (sx_goto (tgt := 36) dx_29_32 (by decide)).trans ?_
      refine (sx_istore dx_29_36 (Nat.le_of_ble_eq_true rfl) rfl).trans ?_
      refine (sx_iload dx_29_38 rfl).trans ?_
      refine (sx_iload dx_29_40 rfl).trans ?_
      refine (sx_s1i dx_29_42 ow_29 cx_9_37 (Nat.le_of_ble_eq_true rfl)).trans ?_
      refine mj_bnd (fun q5 => ?_)
      refine (sx_ior dx_29_45).trans ?_
      refine (sx_iload dx_29_46 rfl).trans ?_
      refine (sx_s1i dx_29_48 ow_29 cx_9_40 (Nat.le_of_ble_eq_true rfl)).trans ?_
      refine mj_bnd (fun q6 => ?_)
      refine (sx_ior dx_29_51).trans ?_
      refine (sx_iload_n dx_29_52 rfl).trans ?_
      refine (sx_iand dx_29_53).trans ?_
      refine (sx_istore dx_29_54 (Nat.le_of_ble_eq_true rfl) rfl).trans ?_
      refine (sx_iload dx_29_56 rfl).trans ?_
      refine (sx_iload_n dx_29_58 rfl).trans ?_
      refine (sx_icmp_ne (tgt := 64) dx_29_59 (by decide)).trans ?_
      refine mj_ite ?_ ?_
      · refine (sx_iload_n dx_29_62 rfl).trans ?_
        exact sx_reti dx_29_63 rt_29
      · refine (sx_iload dx_29_64 rfl).trans ?_
        refine (sx_istore_n dx_29_66 (Nat.le_of_ble_eq_true rfl) rfl).trans ?_
        refine (sx_iinc (v := 1) dx_29_67 rfl rfl rfl).trans ?_
        refine (sx_goto (tgt := 7) dx_29_70 (by decide)).trans ?_
        rfl
  · refine (sx_iload_n dx_29_73 rfl).trans ?_
    exact sx_reti dx_29_74 rt_29
theorem dx_30_0 : mj_at 30 0 = some (.iconst 0) := by decide +kernel
theorem dx_30_1 : mj_at 30 1 = some (.istore_n 1) := by decide +kernel
theorem dx_30_2 : mj_at 30 2 = some (.ldc 11) := by decide +kernel
theorem dx_30_4 : mj_at 30 4 = some (.iload_n 0) := by decide +kernel
theorem dx_30_5 : mj_at 30 5 = some (.iconst (-1)) := by decide +kernel
theorem dx_30_6 : mj_at 30 6 = some (.ixor) := by decide +kernel
theorem dx_30_7 : mj_at 30 7 = some (.iand) := by decide +kernel
theorem dx_30_8 : mj_at 30 8 = some (.istore_n 2) := by decide +kernel
theorem dx_30_9 : mj_at 30 9 = some (.iconst 0) := by decide +kernel
theorem dx_30_10 : mj_at 30 10 = some (.istore_n 3) := by decide +kernel
theorem dx_30_11 : mj_at 30 11 = some (.iload_n 3) := by decide +kernel
theorem dx_30_12 : mj_at 30 12 = some (.bipush 25) := by decide +kernel
theorem dx_30_14 : mj_at 30 14 = some (.if_icmp .ge 38) := by decide +kernel
theorem dx_30_17 : mj_at 30 17 = some (.iload_n 2) := by decide +kernel
theorem dx_30_18 : mj_at 30 18 = some (.ifCond .eq 34) := by decide +kernel
theorem dx_30_21 : mj_at 30 21 = some (.iload_n 2) := by decide +kernel
theorem dx_30_22 : mj_at 30 22 = some (.iconst 0) := by decide +kernel
theorem dx_30_23 : mj_at 30 23 = some (.invokestatic 43) := by decide +kernel
theorem dx_30_26 : mj_at 30 26 = some (.istore 4) := by decide +kernel
theorem dx_30_28 : mj_at 30 28 = some (.iload 4) := by decide +kernel
theorem dx_30_30 : mj_at 30 30 = some (.ldc 47) := by decide +kernel
theorem dx_30_32 : mj_at 30 32 = some (.iand) := by decide +kernel
theorem dx_30_33 : mj_at 30 33 = some (.ifCond .ne 6) := by decide +kernel
theorem dx_30_36 : mj_at 30 36 = some (.iinc 1 1) := by decide +kernel
theorem dx_30_39 : mj_at 30 39 = some (.iload_n 2) := by decide +kernel
theorem dx_30_40 : mj_at 30 40 = some (.iload 4) := by decide +kernel
theorem dx_30_42 : mj_at 30 42 = some (.iconst (-1)) := by decide +kernel
theorem dx_30_43 : mj_at 30 43 = some (.ixor) := by decide +kernel
theorem dx_30_44 : mj_at 30 44 = some (.iand) := by decide +kernel
theorem dx_30_45 : mj_at 30 45 = some (.istore_n 2) := by decide +kernel
theorem dx_30_46 : mj_at 30 46 = some (.iinc 3 1) := by decide +kernel
theorem dx_30_49 : mj_at 30 49 = some (.goto (-38)) := by decide +kernel
theorem dx_30_52 : mj_at 30 52 = some (.iload_n 1) := by decide +kernel
theorem dx_30_53 : mj_at 30 53 = some (.ireturn) := by decide +kernel
set_option maxRecDepth 10000 in
theorem b_X2_loops {sl d : Nat} {M : mj_M} {x1 : Int32}  : mj_C sl (d + 1) 30 [.int x1] M = mj_E sl (d + 1) 30 11 [.int x1, .int 0, .int ((33554431 : Int32) &&& (x1 ^^^ (-1))), .int 0, .null] [] M := by
  show mj_E sl (d + 1) 30 0 [.int x1, .null, .null, .null, .null] [] M = _
  refine (sx_iconst (v := 0) dx_30_0 rfl).trans ?_
  refine (sx_istore_n dx_30_1 (Nat.le_of_ble_eq_true rfl) rfl).trans ?_
  refine (sx_ldc (v := 33554431) dx_30_2 ow_30 kx_9_11).trans ?_
  refine (sx_iload_n dx_30_4 rfl).trans ?_
  refine (sx_iconst (v := (-1)) dx_30_5 rfl).trans ?_
  refine (sx_ixor dx_30_6).trans ?_
  refine (sx_iand dx_30_7).trans ?_
  refine (sx_istore_n dx_30_8 (Nat.le_of_ble_eq_true rfl) rfl).trans ?_
  refine (sx_iconst (v := 0) dx_30_9 rfl).trans ?_
  refine (sx_istore_n dx_30_10 (Nat.le_of_ble_eq_true rfl) rfl).trans ?_
  rfl
set_option maxRecDepth 10000 in
theorem b_X2_loops_11 {sl d : Nat} {M : mj_M} {w0 : Value} {y1 : Int32} {y2 : Int32} {y3 : Int32} {w4 : Value}  : mj_E sl (d + 1) 30 11 [w0, .int y1, .int y2, .int y3, w4] [] M = if y3 < 25 then (if y2 = 0 then (some ((y1 : Int32), M)) else ((mj_C sl d 29 [.int y2, .int 0] M).bind (fun q1 => if q1.1 &&& 33080895 = 0 then (mj_E sl (d + 1) 30 11 [w0, .int (y1 + 1), .int (y2 &&& (q1.1 ^^^ (-1))), .int (y3 + 1), .int q1.1] [] q1.2) else (mj_E sl (d + 1) 30 11 [w0, .int y1, .int (y2 &&& (q1.1 ^^^ (-1))), .int (y3 + 1), .int q1.1] [] q1.2)))) else (some ((y1 : Int32), M)) := by
  refine (sx_iload_n dx_30_11 rfl).trans ?_
  refine (sx_bipush (v := 25) dx_30_12 rfl).trans ?_
  refine (sx_icmp_ge (tgt := 52) dx_30_14 (by decide)).trans ?_
  refine mj_ite ?_ ?_
  · refine (sx_iload_n dx_30_17 rfl).trans ?_
    refine (sx_if_eq (tgt := 52) dx_30_18 (by decide)).trans ?_
    refine mj_ite ?_ ?_
    · refine (sx_iload_n dx_30_52 rfl).trans ?_
      exact sx_reti dx_30_53 rt_30
    · refine (sx_iload_n dx_30_21 rfl).trans ?_
      refine (sx_iconst (v := 0) dx_30_22 rfl).trans ?_
      refine (sx_s2i dx_30_23 ow_30 cx_9_43 (Nat.le_of_ble_eq_true rfl)).trans ?_
      refine mj_bnd (fun q1 => ?_)
      refine (sx_istore dx_30_26 (Nat.le_of_ble_eq_true rfl) rfl).trans ?_
      refine (sx_iload dx_30_28 rfl).trans ?_
      refine (sx_ldc (v := 33080895) dx_30_30 ow_30 kx_9_47).trans ?_
      refine (sx_iand dx_30_32).trans ?_
      refine (sx_if_ne (tgt := 39) dx_30_33 (by decide)).trans ?_
      refine mj_ite ?_ ?_
      · refine (sx_iinc (v := 1) dx_30_36 rfl rfl rfl).trans ?_
        refine (sx_iload_n dx_30_39 rfl).trans ?_
        refine (sx_iload dx_30_40 rfl).trans ?_
        refine (sx_iconst (v := (-1)) dx_30_42 rfl).trans ?_
        refine (sx_ixor dx_30_43).trans ?_
        refine (sx_iand dx_30_44).trans ?_
        refine (sx_istore_n dx_30_45 (Nat.le_of_ble_eq_true rfl) rfl).trans ?_
        refine (sx_iinc (v := 1) dx_30_46 rfl rfl rfl).trans ?_
        refine (sx_goto (tgt := 11) dx_30_49 (by decide)).trans ?_
        rfl
      · refine (sx_iload_n dx_30_39 rfl).trans ?_
        refine (sx_iload dx_30_40 rfl).trans ?_
        refine (sx_iconst (v := (-1)) dx_30_42 rfl).trans ?_
        refine (sx_ixor dx_30_43).trans ?_
        refine (sx_iand dx_30_44).trans ?_
        refine (sx_istore_n dx_30_45 (Nat.le_of_ble_eq_true rfl) rfl).trans ?_
        refine (sx_iinc (v := 1) dx_30_46 rfl rfl rfl).trans ?_
        refine (sx_goto (tgt := 11) dx_30_49 (by decide)).trans ?_
        rfl
  · refine (sx_iload_n dx_30_52 rfl).trans ?_
    exact sx_reti dx_30_53 rt_30
theorem dx_31_0 : mj_at 31 0 = some (.iconst 0) := by decide +kernel
theorem dx_31_1 : mj_at 31 1 = some (.istore_n 1) := by decide +kernel
theorem dx_31_2 : mj_at 31 2 = some (.iload_n 0) := by decide +kernel
theorem dx_31_3 : mj_at 31 3 = some (.istore_n 2) := by decide +kernel
theorem dx_31_4 : mj_at 31 4 = some (.iconst 0) := by decide +kernel
theorem dx_31_5 : mj_at 31 5 = some (.istore_n 3) := by decide +kernel
theorem dx_31_6 : mj_at 31 6 = some (.iload_n 3) := by decide +kernel
theorem dx_31_7 : mj_at 31 7 = some (.bipush 25) := by decide +kernel
theorem dx_31_9 : mj_at 31 9 = some (.if_icmp .ge 26) := by decide +kernel
theorem dx_31_12 : mj_at 31 12 = some (.iload_n 2) := by decide +kernel
theorem dx_31_13 : mj_at 31 13 = some (.ifCond .eq 22) := by decide +kernel
theorem dx_31_16 : mj_at 31 16 = some (.iinc 1 1) := by decide +kernel
theorem dx_31_19 : mj_at 31 19 = some (.iload_n 2) := by decide +kernel
theorem dx_31_20 : mj_at 31 20 = some (.iload_n 2) := by decide +kernel
theorem dx_31_21 : mj_at 31 21 = some (.iconst 1) := by decide +kernel
theorem dx_31_22 : mj_at 31 22 = some (.invokestatic 43) := by decide +kernel
theorem dx_31_25 : mj_at 31 25 = some (.iconst (-1)) := by decide +kernel
theorem dx_31_26 : mj_at 31 26 = some (.ixor) := by decide +kernel
theorem dx_31_27 : mj_at 31 27 = some (.iand) := by decide +kernel
theorem dx_31_28 : mj_at 31 28 = some (.istore_n 2) := by decide +kernel
theorem dx_31_29 : mj_at 31 29 = some (.iinc 3 1) := by decide +kernel
theorem dx_31_32 : mj_at 31 32 = some (.goto (-26)) := by decide +kernel
theorem dx_31_35 : mj_at 31 35 = some (.iload_n 1) := by decide +kernel
theorem dx_31_36 : mj_at 31 36 = some (.ireturn) := by decide +kernel
set_option maxRecDepth 10000 in
theorem b_X2_strokes {sl d : Nat} {M : mj_M} {x1 : Int32}  : mj_C sl (d + 1) 31 [.int x1] M = mj_E sl (d + 1) 31 6 [.int x1, .int 0, .int x1, .int 0] [] M := by
  show mj_E sl (d + 1) 31 0 [.int x1, .null, .null, .null] [] M = _
  refine (sx_iconst (v := 0) dx_31_0 rfl).trans ?_
  refine (sx_istore_n dx_31_1 (Nat.le_of_ble_eq_true rfl) rfl).trans ?_
  refine (sx_iload_n dx_31_2 rfl).trans ?_
  refine (sx_istore_n dx_31_3 (Nat.le_of_ble_eq_true rfl) rfl).trans ?_
  refine (sx_iconst (v := 0) dx_31_4 rfl).trans ?_
  refine (sx_istore_n dx_31_5 (Nat.le_of_ble_eq_true rfl) rfl).trans ?_
  rfl
set_option maxRecDepth 10000 in
theorem b_X2_strokes_6 {sl d : Nat} {M : mj_M} {w0 : Value} {y1 : Int32} {y2 : Int32} {y3 : Int32}  : mj_E sl (d + 1) 31 6 [w0, .int y1, .int y2, .int y3] [] M = if y3 < 25 then (if y2 = 0 then (some ((y1 : Int32), M)) else ((mj_C sl d 29 [.int y2, .int 1] M).bind (fun q1 => mj_E sl (d + 1) 31 6 [w0, .int (y1 + 1), .int (y2 &&& (q1.1 ^^^ (-1))), .int (y3 + 1)] [] q1.2))) else (some ((y1 : Int32), M)) := by
  refine (sx_iload_n dx_31_6 rfl).trans ?_
  refine (sx_bipush (v := 25) dx_31_7 rfl).trans ?_
  refine (sx_icmp_ge (tgt := 35) dx_31_9 (by decide)).trans ?_
  refine mj_ite ?_ ?_
  · refine (sx_iload_n dx_31_12 rfl).trans ?_
    refine (sx_if_eq (tgt := 35) dx_31_13 (by decide)).trans ?_
    refine mj_ite ?_ ?_
    · refine (sx_iload_n dx_31_35 rfl).trans ?_
      exact sx_reti dx_31_36 rt_31
    · refine (sx_iinc (v := 1) dx_31_16 rfl rfl rfl).trans ?_
      refine (sx_iload_n dx_31_19 rfl).trans ?_
      refine (sx_iload_n dx_31_20 rfl).trans ?_
      refine (sx_iconst (v := 1) dx_31_21 rfl).trans ?_
      refine (sx_s2i dx_31_22 ow_31 cx_9_43 (Nat.le_of_ble_eq_true rfl)).trans ?_
      refine mj_bnd (fun q1 => ?_)
      refine (sx_iconst (v := (-1)) dx_31_25 rfl).trans ?_
      refine (sx_ixor dx_31_26).trans ?_
      refine (sx_iand dx_31_27).trans ?_
      refine (sx_istore_n dx_31_28 (Nat.le_of_ble_eq_true rfl) rfl).trans ?_
      refine (sx_iinc (v := 1) dx_31_29 rfl rfl rfl).trans ?_
      refine (sx_goto (tgt := 6) dx_31_32 (by decide)).trans ?_
      rfl
  · refine (sx_iload_n dx_31_35 rfl).trans ?_
    exact sx_reti dx_31_36 rt_31
theorem dx_32_0 : mj_at 32 0 = some (.iload_n 0) := by decide +kernel
theorem dx_32_1 : mj_at 32 1 = some (.istore_n 1) := by decide +kernel
theorem dx_32_2 : mj_at 32 2 = some (.iload_n 0) := by decide +kernel
theorem dx_32_3 : mj_at 32 3 = some (.istore_n 2) := by decide +kernel
theorem dx_32_4 : mj_at 32 4 = some (.iload_n 0) := by decide +kernel
theorem dx_32_5 : mj_at 32 5 = some (.istore_n 3) := by decide +kernel
theorem dx_32_6 : mj_at 32 6 = some (.iload_n 0) := by decide +kernel
theorem dx_32_7 : mj_at 32 7 = some (.istore 4) := by decide +kernel
theorem dx_32_9 : mj_at 32 9 = some (.iload_n 0) := by decide +kernel
theorem dx_32_10 : mj_at 32 10 = some (.istore 5) := by decide +kernel
theorem dx_32_12 : mj_at 32 12 = some (.bipush (-2)) := by decide +kernel
theorem dx_32_14 : mj_at 32 14 = some (.istore 6) := by decide +kernel
theorem dx_32_16 : mj_at 32 16 = some (.iconst 0) := by decide +kernel
theorem dx_32_17 : mj_at 32 17 = some (.istore 7) := by decide +kernel
theorem dx_32_19 : mj_at 32 19 = some (.iload 7) := by decide +kernel
theorem dx_32_21 : mj_at 32 21 = some (.iconst 5) := by decide +kernel
theorem dx_32_22 : mj_at 32 22 = some (.if_icmp .ge 53) := by decide +kernel
theorem dx_32_25 : mj_at 32 25 = some (.iload_n 1) := by decide +kernel
theorem dx_32_26 : mj_at 32 26 = some (.ifCond .eq 49) := by decide +kernel
theorem dx_32_29 : mj_at 32 29 = some (.iload 7) := by decide +kernel
theorem dx_32_31 : mj_at 32 31 = some (.istore 6) := by decide +kernel
theorem dx_32_33 : mj_at 32 33 = some (.iload_n 2) := by decide +kernel
theorem dx_32_34 : mj_at 32 34 = some (.invokestatic 31) := by decide +kernel
theorem dx_32_37 : mj_at 32 37 = some (.istore_n 2) := by decide +kernel
theorem dx_32_38 : mj_at 32 38 = some (.iload_n 3) := by decide +kernel
theorem dx_32_39 : mj_at 32 39 = some (.invokestatic 34) := by decide +kernel
theorem dx_32_42 : mj_at 32 42 = some (.istore_n 3) := by decide +kernel
theorem dx_32_43 : mj_at 32 43 = some (.iload 4) := by decide +kernel
theorem dx_32_45 : mj_at 32 45 = some (.invokestatic 37) := by decide +kernel
theorem dx_32_48 : mj_at 32 48 = some (.istore 4) := by decide +kernel
theorem dx_32_50 : mj_at 32 50 = some (.iload 5) := by decide +kernel
theorem dx_32_52 : mj_at 32 52 = some (.invokestatic 40) := by decide +kernel
theorem dx_32_55 : mj_at 32 55 = some (.istore 5) := by decide +kernel
theorem dx_32_57 : mj_at 32 57 = some (.iload_n 1) := by decide +kernel
theorem dx_32_58 : mj_at 32 58 = some (.iload_n 2) := by decide +kernel
theorem dx_32_59 : mj_at 32 59 = some (.iload_n 3) := by decide +kernel
theorem dx_32_60 : mj_at 32 60 = some (.iand) := by decide +kernel
theorem dx_32_61 : mj_at 32 61 = some (.iload 4) := by decide +kernel
theorem dx_32_63 : mj_at 32 63 = some (.iand) := by decide +kernel
theorem dx_32_64 : mj_at 32 64 = some (.iload 5) := by decide +kernel
theorem dx_32_66 : mj_at 32 66 = some (.iand) := by decide +kernel
theorem dx_32_67 : mj_at 32 67 = some (.iand) := by decide +kernel
theorem dx_32_68 : mj_at 32 68 = some (.istore_n 1) := by decide +kernel
theorem dx_32_69 : mj_at 32 69 = some (.iinc 7 1) := by decide +kernel
theorem dx_32_72 : mj_at 32 72 = some (.goto (-53)) := by decide +kernel
theorem dx_32_75 : mj_at 32 75 = some (.iload 6) := by decide +kernel
theorem dx_32_77 : mj_at 32 77 = some (.ireturn) := by decide +kernel
set_option maxRecDepth 10000 in
theorem b_X2_cross {sl d : Nat} {M : mj_M} {x1 : Int32}  : mj_C sl (d + 1) 32 [.int x1] M = mj_E sl (d + 1) 32 19 [.int x1, .int x1, .int x1, .int x1, .int x1, .int x1, .int (-2), .int 0] [] M := by
  show mj_E sl (d + 1) 32 0 [.int x1, .null, .null, .null, .null, .null, .null, .null] [] M = _
  refine (sx_iload_n dx_32_0 rfl).trans ?_
  refine (sx_istore_n dx_32_1 (Nat.le_of_ble_eq_true rfl) rfl).trans ?_
  refine (sx_iload_n dx_32_2 rfl).trans ?_
  refine (sx_istore_n dx_32_3 (Nat.le_of_ble_eq_true rfl) rfl).trans ?_
  refine (sx_iload_n dx_32_4 rfl).trans ?_
  refine (sx_istore_n dx_32_5 (Nat.le_of_ble_eq_true rfl) rfl).trans ?_
  refine (sx_iload_n dx_32_6 rfl).trans ?_
  refine (sx_istore dx_32_7 (Nat.le_of_ble_eq_true rfl) rfl).trans ?_
  refine (sx_iload_n dx_32_9 rfl).trans ?_
  refine (sx_istore dx_32_10 (Nat.le_of_ble_eq_true rfl) rfl).trans ?_
  refine (sx_bipush (v := (-2)) dx_32_12 rfl).trans ?_
  refine (sx_istore dx_32_14 (Nat.le_of_ble_eq_true rfl) rfl).trans ?_
  refine (sx_iconst (v := 0) dx_32_16 rfl).trans ?_
  refine (sx_istore dx_32_17 (Nat.le_of_ble_eq_true rfl) rfl).trans ?_
  rfl
set_option maxRecDepth 10000 in
theorem b_X2_cross_19 {sl d : Nat} {M : mj_M} {w0 : Value} {y1 : Int32} {y2 : Int32} {y3 : Int32} {y4 : Int32} {y5 : Int32} {y6 : Int32} {y7 : Int32}  : mj_E sl (d + 1) 32 19 [w0, .int y1, .int y2, .int y3, .int y4, .int y5, .int y6, .int y7] [] M = if y7 < 5 then (if y1 = 0 then (some ((y6 : Int32), M)) else ((mj_C sl d 22 [.int y2] M).bind (fun q1 => (mj_C sl d 23 [.int y3] q1.2).bind (fun q2 => (mj_C sl d 24 [.int y4] q2.2).bind (fun q3 => (mj_C sl d 25 [.int y5] q3.2).bind (fun q4 => mj_E sl (d + 1) 32 19 [w0, .int (y1 &&& (((q1.1 &&& q2.1) &&& q3.1) &&& q4.1)), .int q1.1, .int q2.1, .int q3.1, .int q4.1, .int y7, .int (y7 + 1)] [] q4.2)))))) else (some ((y6 : Int32), M)) := by
  refine (sx_iload dx_32_19 rfl).trans ?_
  refine (sx_iconst (v := 5) dx_32_21 rfl).trans ?_
  refine (sx_icmp_ge (tgt := 75) dx_32_22 (by decide)).trans ?_
  refine mj_ite ?_ ?_
  · refine (sx_iload_n dx_32_25 rfl).trans ?_
    refine (sx_if_eq (tgt := 75) dx_32_26 (by decide)).trans ?_
    refine mj_ite ?_ ?_
    · refine (sx_iload dx_32_75 rfl).trans ?_
      exact sx_reti dx_32_77 rt_32
    · refine (sx_iload dx_32_29 rfl).trans ?_
      refine (sx_istore dx_32_31 (Nat.le_of_ble_eq_true rfl) rfl).trans ?_
      refine (sx_iload_n dx_32_33 rfl).trans ?_
      refine (sx_s1i dx_32_34 ow_32 cx_9_31 (Nat.le_of_ble_eq_true rfl)).trans ?_
      refine mj_bnd (fun q1 => ?_)
      refine (sx_istore_n dx_32_37 (Nat.le_of_ble_eq_true rfl) rfl).trans ?_
      refine (sx_iload_n dx_32_38 rfl).trans ?_
      refine (sx_s1i dx_32_39 ow_32 cx_9_34 (Nat.le_of_ble_eq_true rfl)).trans ?_
      refine mj_bnd (fun q2 => ?_)
      refine (sx_istore_n dx_32_42 (Nat.le_of_ble_eq_true rfl) rfl).trans ?_
      refine (sx_iload dx_32_43 rfl).trans ?_
      refine (sx_s1i dx_32_45 ow_32 cx_9_37 (Nat.le_of_ble_eq_true rfl)).trans ?_
      refine mj_bnd (fun q3 => ?_)
      refine (sx_istore dx_32_48 (Nat.le_of_ble_eq_true rfl) rfl).trans ?_
      refine (sx_iload dx_32_50 rfl).trans ?_
      refine (sx_s1i dx_32_52 ow_32 cx_9_40 (Nat.le_of_ble_eq_true rfl)).trans ?_
      refine mj_bnd (fun q4 => ?_)
      refine (sx_istore dx_32_55 (Nat.le_of_ble_eq_true rfl) rfl).trans ?_
      refine (sx_iload_n dx_32_57 rfl).trans ?_
      refine (sx_iload_n dx_32_58 rfl).trans ?_
      refine (sx_iload_n dx_32_59 rfl).trans ?_
      refine (sx_iand dx_32_60).trans ?_
      refine (sx_iload dx_32_61 rfl).trans ?_
      refine (sx_iand dx_32_63).trans ?_
      refine (sx_iload dx_32_64 rfl).trans ?_
      refine (sx_iand dx_32_66).trans ?_
      refine (sx_iand dx_32_67).trans ?_
      refine (sx_istore_n dx_32_68 (Nat.le_of_ble_eq_true rfl) rfl).trans ?_
      refine (sx_iinc (v := 1) dx_32_69 rfl rfl rfl).trans ?_
      refine (sx_goto (tgt := 19) dx_32_72 (by decide)).trans ?_
      rfl
  · refine (sx_iload dx_32_75 rfl).trans ?_
    exact sx_reti dx_32_77 rt_32
theorem dx_33_0 : mj_at 33 0 = some (.iload_n 0) := by decide +kernel
theorem dx_33_1 : mj_at 33 1 = some (.iload_n 0) := by decide +kernel
theorem dx_33_2 : mj_at 33 2 = some (.invokestatic 31) := by decide +kernel
theorem dx_33_5 : mj_at 33 5 = some (.iload_n 0) := by decide +kernel
theorem dx_33_6 : mj_at 33 6 = some (.invokestatic 34) := by decide +kernel
theorem dx_33_9 : mj_at 33 9 = some (.ixor) := by decide +kernel
theorem dx_33_10 : mj_at 33 10 = some (.iload_n 0) := by decide +kernel
theorem dx_33_11 : mj_at 33 11 = some (.invokestatic 37) := by decide +kernel
theorem dx_33_14 : mj_at 33 14 = some (.ixor) := by decide +kernel
theorem dx_33_15 : mj_at 33 15 = some (.iload_n 0) := by decide +kernel
theorem dx_33_16 : mj_at 33 16 = some (.invokestatic 40) := by decide +kernel
theorem dx_33_19 : mj_at 33 19 = some (.ixor) := by decide +kernel
theorem dx_33_20 : mj_at 33 20 = some (.iand) := by decide +kernel
theorem dx_33_21 : mj_at 33 21 = some (.istore_n 1) := by decide +kernel
theorem dx_33_22 : mj_at 33 22 = some (.iconst 0) := by decide +kernel
theorem dx_33_23 : mj_at 33 23 = some (.istore_n 2) := by decide +kernel
theorem dx_33_24 : mj_at 33 24 = some (.iload_n 0) := by decide +kernel
theorem dx_33_25 : mj_at 33 25 = some (.istore_n 3) := by decide +kernel
theorem dx_33_26 : mj_at 33 26 = some (.iconst 0) := by decide +kernel
theorem dx_33_27 : mj_at 33 27 = some (.istore 4) := by decide +kernel
theorem dx_33_29 : mj_at 33 29 = some (.iload 4) := by decide +kernel
theorem dx_33_31 : mj_at 33 31 = some (.bipush 25) := by decide +kernel
theorem dx_33_33 : mj_at 33 33 = some (.if_icmp .ge 43) := by decide +kernel
theorem dx_33_36 : mj_at 33 36 = some (.iload_n 3) := by decide +kernel
theorem dx_33_37 : mj_at 33 37 = some (.ifCond .eq 39) := by decide +kernel
theorem dx_33_40 : mj_at 33 40 = some (.iload_n 3) := by decide +kernel
theorem dx_33_41 : mj_at 33 41 = some (.iconst 0) := by decide +kernel
theorem dx_33_42 : mj_at 33 42 = some (.invokestatic 43) := by decide +kernel
theorem dx_33_45 : mj_at 33 45 = some (.istore 5) := by decide +kernel
theorem dx_33_47 : mj_at 33 47 = some (.iload_n 2) := by decide +kernel
theorem dx_33_48 : mj_at 33 48 = some (.iconst 1) := by decide +kernel
theorem dx_33_49 : mj_at 33 49 = some (.iload_n 1) := by decide +kernel
theorem dx_33_50 : mj_at 33 50 = some (.iload 5) := by decide +kernel
theorem dx_33_52 : mj_at 33 52 = some (.iand) := by decide +kernel
theorem dx_33_53 : mj_at 33 53 = some (.invokestatic 12) := by decide +kernel
theorem dx_33_56 : mj_at 33 56 = some (.iconst 2) := by decide +kernel
theorem dx_33_57 : mj_at 33 57 = some (.idiv) := by decide +kernel
theorem dx_33_58 : mj_at 33 58 = some (.invokestatic 48) := by decide +kernel
theorem dx_33_61 : mj_at 33 61 = some (.iadd) := by decide +kernel
theorem dx_33_62 : mj_at 33 62 = some (.istore_n 2) := by decide +kernel
theorem dx_33_63 : mj_at 33 63 = some (.iload_n 3) := by decide +kernel
theorem dx_33_64 : mj_at 33 64 = some (.iload 5) := by decide +kernel
theorem dx_33_66 : mj_at 33 66 = some (.iconst (-1)) := by decide +kernel
theorem dx_33_67 : mj_at 33 67 = some (.ixor) := by decide +kernel
theorem dx_33_68 : mj_at 33 68 = some (.iand) := by decide +kernel
theorem dx_33_69 : mj_at 33 69 = some (.istore_n 3) := by decide +kernel
theorem dx_33_70 : mj_at 33 70 = some (.iinc 4 1) := by decide +kernel
theorem dx_33_73 : mj_at 33 73 = some (.goto (-44)) := by decide +kernel
theorem dx_33_76 : mj_at 33 76 = some (.iconst 0) := by decide +kernel
theorem dx_33_77 : mj_at 33 77 = some (.iload_n 2) := by decide +kernel
theorem dx_33_78 : mj_at 33 78 = some (.iconst 1) := by decide +kernel
theorem dx_33_79 : mj_at 33 79 = some (.isub) := by decide +kernel
theorem dx_33_80 : mj_at 33 80 = some (.invokestatic 48) := by decide +kernel
theorem dx_33_83 : mj_at 33 83 = some (.ireturn) := by decide +kernel
set_option maxRecDepth 10000 in
theorem b_X2_penLifts {sl d : Nat} {M : mj_M} {x1 : Int32}  : mj_C sl (d + 1) 33 [.int x1] M = (mj_C sl d 22 [.int x1] M).bind (fun q1 => (mj_C sl d 23 [.int x1] q1.2).bind (fun q2 => (mj_C sl d 24 [.int x1] q2.2).bind (fun q3 => (mj_C sl d 25 [.int x1] q3.2).bind (fun q4 => mj_E sl (d + 1) 33 29 [.int x1, .int (x1 &&& (((q1.1 ^^^ q2.1) ^^^ q3.1) ^^^ q4.1)), .int 0, .int x1, .int 0, .null] [] q4.2)))) := by
  show mj_E sl (d + 1) 33 0 [.int x1, .null, .null, .null, .null, .null] [] M = _
  refine (sx_iload_n dx_33_0 rfl).trans ?_
  refine (sx_iload_n dx_33_1 rfl).trans ?_
  refine (sx_s1i dx_33_2 ow_33 cx_9_31 (Nat.le_of_ble_eq_true rfl)).trans ?_
  refine mj_bnd (fun q1 => ?_)
  refine (sx_iload_n dx_33_5 rfl).trans ?_
  refine (sx_s1i dx_33_6 ow_33 cx_9_34 (Nat.le_of_ble_eq_true rfl)).trans ?_
  refine mj_bnd (fun q2 => ?_)
  refine (sx_ixor dx_33_9).trans ?_
  refine (sx_iload_n dx_33_10 rfl).trans ?_
  refine (sx_s1i dx_33_11 ow_33 cx_9_37 (Nat.le_of_ble_eq_true rfl)).trans ?_
  refine mj_bnd (fun q3 => ?_)
  refine (sx_ixor dx_33_14).trans ?_
  refine (sx_iload_n dx_33_15 rfl).trans ?_
  refine (sx_s1i dx_33_16 ow_33 cx_9_40 (Nat.le_of_ble_eq_true rfl)).trans ?_
  refine mj_bnd (fun q4 => ?_)
  refine (sx_ixor dx_33_19).trans ?_
  refine (sx_iand dx_33_20).trans ?_
  refine (sx_istore_n dx_33_21 (Nat.le_of_ble_eq_true rfl) rfl).trans ?_
  refine (sx_iconst (v := 0) dx_33_22 rfl).trans ?_
  refine (sx_istore_n dx_33_23 (Nat.le_of_ble_eq_true rfl) rfl).trans ?_
  refine (sx_iload_n dx_33_24 rfl).trans ?_
  refine (sx_istore_n dx_33_25 (Nat.le_of_ble_eq_true rfl) rfl).trans ?_
  refine (sx_iconst (v := 0) dx_33_26 rfl).trans ?_
  refine (sx_istore dx_33_27 (Nat.le_of_ble_eq_true rfl) rfl).trans ?_
  rfl
set_option maxRecDepth 10000 in
theorem b_X2_penLifts_29 {sl d : Nat} {M : mj_M} {w0 : Value} {y1 : Int32} {y2 : Int32} {y3 : Int32} {y4 : Int32} {w5 : Value}  : mj_E sl (d + 1) 33 29 [w0, .int y1, .int y2, .int y3, .int y4, w5] [] M = if y4 < 25 then (if y3 = 0 then (some ((mj_mx 0 (y2 - 1) : Int32), M)) else ((mj_C sl d 29 [.int y3, .int 0] M).bind (fun q1 => (mj_C sl d 229 [.int (y1 &&& q1.1)] q1.2).bind (fun q2 => mj_E sl (d + 1) 33 29 [w0, .int y1, .int (y2 + (mj_mx 1 (q2.1 / 2))), .int (y3 &&& (q1.1 ^^^ (-1))), .int (y4 + 1), .int q1.1] [] q2.2)))) else (some ((mj_mx 0 (y2 - 1) : Int32), M)) := by
  refine (sx_iload dx_33_29 rfl).trans ?_
  refine (sx_bipush (v := 25) dx_33_31 rfl).trans ?_
  refine (sx_icmp_ge (tgt := 76) dx_33_33 (by decide)).trans ?_
  refine mj_ite ?_ ?_
  · refine (sx_iload_n dx_33_36 rfl).trans ?_
    refine (sx_if_eq (tgt := 76) dx_33_37 (by decide)).trans ?_
    refine mj_ite ?_ ?_
    · refine (sx_iconst (v := 0) dx_33_76 rfl).trans ?_
      refine (sx_iload_n dx_33_77 rfl).trans ?_
      refine (sx_iconst (v := 1) dx_33_78 rfl).trans ?_
      refine (sx_isub dx_33_79).trans ?_
      refine (sx_max dx_33_80 ow_33 cx5_9_48 (Nat.le_of_ble_eq_true rfl)).trans ?_
      exact sx_reti dx_33_83 rt_33
    · refine (sx_iload_n dx_33_40 rfl).trans ?_
      refine (sx_iconst (v := 0) dx_33_41 rfl).trans ?_
      refine (sx_s2i dx_33_42 ow_33 cx_9_43 (Nat.le_of_ble_eq_true rfl)).trans ?_
      refine mj_bnd (fun q1 => ?_)
      refine (sx_istore dx_33_45 (Nat.le_of_ble_eq_true rfl) rfl).trans ?_
      refine (sx_iload_n dx_33_47 rfl).trans ?_
      refine (sx_iconst (v := 1) dx_33_48 rfl).trans ?_
      refine (sx_iload_n dx_33_49 rfl).trans ?_
      refine (sx_iload dx_33_50 rfl).trans ?_
      refine (sx_iand dx_33_52).trans ?_
      refine (sx_s1i dx_33_53 ow_33 cx_9_12 (Nat.le_of_ble_eq_true rfl)).trans ?_
      refine mj_bnd (fun q2 => ?_)
      refine (sx_iconst (v := 2) dx_33_56 rfl).trans ?_
      refine (sx_idiv dx_33_57 (by decide)).trans ?_
      refine (sx_max dx_33_58 ow_33 cx5_9_48 (Nat.le_of_ble_eq_true rfl)).trans ?_
      refine (sx_iadd dx_33_61).trans ?_
      refine (sx_istore_n dx_33_62 (Nat.le_of_ble_eq_true rfl) rfl).trans ?_
      refine (sx_iload_n dx_33_63 rfl).trans ?_
      refine (sx_iload dx_33_64 rfl).trans ?_
      refine (sx_iconst (v := (-1)) dx_33_66 rfl).trans ?_
      refine (sx_ixor dx_33_67).trans ?_
      refine (sx_iand dx_33_68).trans ?_
      refine (sx_istore_n dx_33_69 (Nat.le_of_ble_eq_true rfl) rfl).trans ?_
      refine (sx_iinc (v := 1) dx_33_70 rfl rfl rfl).trans ?_
      refine (sx_goto (tgt := 29) dx_33_73 (by decide)).trans ?_
      rfl
  · refine (sx_iconst (v := 0) dx_33_76 rfl).trans ?_
    refine (sx_iload_n dx_33_77 rfl).trans ?_
    refine (sx_iconst (v := 1) dx_33_78 rfl).trans ?_
    refine (sx_isub dx_33_79).trans ?_
    refine (sx_max dx_33_80 ow_33 cx5_9_48 (Nat.le_of_ble_eq_true rfl)).trans ?_
    exact sx_reti dx_33_83 rt_33
theorem dx_62_0 : mj_at 62 0 = some (.iload_n 1) := by decide +kernel
theorem dx_62_1 : mj_at 62 1 = some (.ifCond .lt 25) := by decide +kernel
theorem dx_62_4 : mj_at 62 4 = some (.iload_n 1) := by decide +kernel
theorem dx_62_5 : mj_at 62 5 = some (.bipush 8) := by decide +kernel
theorem dx_62_7 : mj_at 62 7 = some (.if_icmp .ge 19) := by decide +kernel
theorem dx_62_10 : mj_at 62 10 = some (.aload_n 0) := by decide +kernel
theorem dx_62_11 : mj_at 62 11 = some (.getfield 15) := by decide +kernel
theorem dx_62_14 : mj_at 62 14 = some (.iload_n 1) := by decide +kernel
theorem dx_62_15 : mj_at 62 15 = some (.ishr) := by decide +kernel
theorem dx_62_16 : mj_at 62 16 = some (.iconst 1) := by decide +kernel
theorem dx_62_17 : mj_at 62 17 = some (.iand) := by decide +kernel
theorem dx_62_18 : mj_at 62 18 = some (.iconst 1) := by decide +kernel
theorem dx_62_19 : mj_at 62 19 = some (.if_icmp .ne 7) := by decide +kernel
theorem dx_62_22 : mj_at 62 22 = some (.iconst 1) := by decide +kernel
theorem dx_62_23 : mj_at 62 23 = some (.goto 4) := by decide +kernel
theorem dx_62_26 : mj_at 62 26 = some (.iconst 0) := by decide +kernel
theorem dx_62_27 : mj_at 62 27 = some (.ireturn) := by decide +kernel
set_option maxRecDepth 10000 in
theorem b_X5_has {sl d : Nat} {M : mj_M} {x1 : Int32}  : mj_C sl d 62 [.ref 1, .int x1] M = if x1 < 0 then (some ((0 : Int32), M)) else (if x1 < 8 then (if ((M 1 1) >>> (x1 &&& 31)) &&& 1 = 1 then (some ((1 : Int32), M)) else (some ((0 : Int32), M))) else (some ((0 : Int32), M))) := by
  show mj_E sl d 62 0 [.ref 1, .int x1] [] M = _
  refine (sx_iload_n dx_62_0 rfl).trans ?_
  refine (sx_if_lt (tgt := 26) dx_62_1 (by decide)).trans ?_
  refine mj_ite ?_ ?_
  · refine (sx_iconst (v := 0) dx_62_26 rfl).trans ?_
    exact sx_retz dx_62_27 rt_62 (by decide)
  · refine (sx_iload_n dx_62_4 rfl).trans ?_
    refine (sx_bipush (v := 8) dx_62_5 rfl).trans ?_
    refine (sx_icmp_ge (tgt := 26) dx_62_7 (by decide)).trans ?_
    refine mj_ite ?_ ?_
    · refine (sx_aload_n dx_62_10 rfl).trans ?_
      refine (sx_gfi dx_62_11 ow_62 fx_3_15 (by decide) oc_1).trans ?_
      refine (sx_iload_n dx_62_14 rfl).trans ?_
      refine (sx_ishr dx_62_15).trans ?_
      refine (sx_iconst (v := 1) dx_62_16 rfl).trans ?_
      refine (sx_iand dx_62_17).trans ?_
      refine (sx_iconst (v := 1) dx_62_18 rfl).trans ?_
      refine (sx_icmp_ne (tgt := 26) dx_62_19 (by decide)).trans ?_
      refine mj_ite ?_ ?_
      · refine (sx_iconst (v := 1) dx_62_22 rfl).trans ?_
        refine (sx_goto (tgt := 27) dx_62_23 (by decide)).trans ?_
        exact sx_retz dx_62_27 rt_62 (by decide)
      · refine (sx_iconst (v := 0) dx_62_26 rfl).trans ?_
        exact sx_retz dx_62_27 rt_62 (by decide)
    · refine (sx_iconst (v := 0) dx_62_26 rfl).trans ?_
      exact sx_retz dx_62_27 rt_62 (by decide)
theorem dx_63_0 : mj_at 63 0 = some (.aload_n 0) := by decide +kernel
theorem dx_63_1 : mj_at 63 1 = some (.getfield 9) := by decide +kernel
theorem dx_63_4 : mj_at 63 4 = some (.iload_n 1) := by decide +kernel
theorem dx_63_5 : mj_at 63 5 = some (.iload_n 2) := by decide +kernel
theorem dx_63_6 : mj_at 63 6 = some (.iastore) := by decide +kernel
theorem dx_63_7 : mj_at 63 7 = some (.aload_n 0) := by decide +kernel
theorem dx_63_8 : mj_at 63 8 = some (.dup) := by decide +kernel
theorem dx_63_9 : mj_at 63 9 = some (.getfield 15) := by decide +kernel
theorem dx_63_12 : mj_at 63 12 = some (.iconst 1) := by decide +kernel
theorem dx_63_13 : mj_at 63 13 = some (.iload_n 1) := by decide +kernel
theorem dx_63_14 : mj_at 63 14 = some (.ishl) := by decide +kernel
theorem dx_63_15 : mj_at 63 15 = some (.ior) := by decide +kernel
theorem dx_63_16 : mj_at 63 16 = some (.putfield 15) := by decide +kernel
theorem dx_63_19 : mj_at 63 19 = some (.return_) := by decide +kernel
set_option maxRecDepth 10000 in
theorem b_X5_tell {sl d : Nat} {M : mj_M} {x1 : Int32} {x2 : Int32}  : mj_C sl d 63 [.ref 1, .int x1, .int x2] M = if mj_inB x1 8 = true then (some ((0 : Int32), mj_st (mj_st M 2 (x1 : Int32).toNatClampNeg x2) 1 1 (((mj_st M 2 (x1 : Int32).toNatClampNeg x2) 1 1) ||| ((1 : Int32) <<< (x1 &&& 31))))) else none := by
  show mj_E sl d 63 0 [.ref 1, .int x1, .int x2] [] M = _
  refine (sx_aload_n dx_63_0 rfl).trans ?_
  refine (sx_gfr dx_63_1 ow_63 fx_3_9 oc_1 rb_1_0).trans ?_
  refine (sx_iload_n dx_63_4 rfl).trans ?_
  refine (sx_iload_n dx_63_5 rfl).trans ?_
  refine (sx_ist dx_63_6 ia_2).trans ?_
  refine mj_ite ?_ rfl
  refine (sx_aload_n dx_63_7 rfl).trans ?_
  refine (sx_dupa dx_63_8).trans ?_
  refine (sx_gfi dx_63_9 ow_63 fx_3_15 (by decide) oc_1).trans ?_
  refine (sx_iconst (v := 1) dx_63_12 rfl).trans ?_
  refine (sx_iload_n dx_63_13 rfl).trans ?_
  refine (sx_ishl dx_63_14).trans ?_
  refine (sx_ior dx_63_15).trans ?_
  refine (sx_pfi dx_63_16 ow_63 fx_3_15 oc_1).trans ?_
  exact sx_retv dx_63_19 rt_63
theorem dx_64_0 : mj_at 64 0 = some (.bipush (-2)) := by decide +kernel
theorem dx_64_2 : mj_at 64 2 = some (.istore_n 2) := by decide +kernel
theorem dx_64_3 : mj_at 64 3 = some (.ldc 21) := by decide +kernel
theorem dx_64_5 : mj_at 64 5 = some (.istore_n 3) := by decide +kernel
theorem dx_64_6 : mj_at 64 6 = some (.iconst 0) := by decide +kernel
theorem dx_64_7 : mj_at 64 7 = some (.istore 4) := by decide +kernel
theorem dx_64_9 : mj_at 64 9 = some (.iload 4) := by decide +kernel
theorem dx_64_11 : mj_at 64 11 = some (.bipush 8) := by decide +kernel
theorem dx_64_13 : mj_at 64 13 = some (.if_icmp .ge 60) := by decide +kernel
theorem dx_64_16 : mj_at 64 16 = some (.aload_n 0) := by decide +kernel
theorem dx_64_17 : mj_at 64 17 = some (.getfield 15) := by decide +kernel
theorem dx_64_20 : mj_at 64 20 = some (.iload 4) := by decide +kernel
theorem dx_64_22 : mj_at 64 22 = some (.ishr) := by decide +kernel
theorem dx_64_23 : mj_at 64 23 = some (.iconst 1) := by decide +kernel
theorem dx_64_24 : mj_at 64 24 = some (.iand) := by decide +kernel
theorem dx_64_25 : mj_at 64 25 = some (.iconst 1) := by decide +kernel
theorem dx_64_26 : mj_at 64 26 = some (.if_icmp .ne 41) := by decide +kernel
theorem dx_64_29 : mj_at 64 29 = some (.iload_n 1) := by decide +kernel
theorem dx_64_30 : mj_at 64 30 = some (.aload_n 0) := by decide +kernel
theorem dx_64_31 : mj_at 64 31 = some (.getfield 9) := by decide +kernel
theorem dx_64_34 : mj_at 64 34 = some (.iload 4) := by decide +kernel
theorem dx_64_36 : mj_at 64 36 = some (.iaload) := by decide +kernel
theorem dx_64_37 : mj_at 64 37 = some (.ixor) := by decide +kernel
theorem dx_64_38 : mj_at 64 38 = some (.invokestatic 22) := by decide +kernel
theorem dx_64_41 : mj_at 64 41 = some (.istore 5) := by decide +kernel
theorem dx_64_43 : mj_at 64 43 = some (.iload 5) := by decide +kernel
theorem dx_64_45 : mj_at 64 45 = some (.iload_n 3) := by decide +kernel
theorem dx_64_46 : mj_at 64 46 = some (.if_icmp .ge 12) := by decide +kernel
theorem dx_64_49 : mj_at 64 49 = some (.iload 5) := by decide +kernel
theorem dx_64_51 : mj_at 64 51 = some (.istore_n 3) := by decide +kernel
theorem dx_64_52 : mj_at 64 52 = some (.iload 4) := by decide +kernel
theorem dx_64_54 : mj_at 64 54 = some (.istore_n 2) := by decide +kernel
theorem dx_64_55 : mj_at 64 55 = some (.goto 12) := by decide +kernel
theorem dx_64_58 : mj_at 64 58 = some (.iload 5) := by decide +kernel
theorem dx_64_60 : mj_at 64 60 = some (.iload_n 3) := by decide +kernel
theorem dx_64_61 : mj_at 64 61 = some (.if_icmp .ne 6) := by decide +kernel
theorem dx_64_64 : mj_at 64 64 = some (.bipush (-2)) := by decide +kernel
theorem dx_64_66 : mj_at 64 66 = some (.istore_n 2) := by decide +kernel
theorem dx_64_67 : mj_at 64 67 = some (.iinc 4 1) := by decide +kernel
theorem dx_64_70 : mj_at 64 70 = some (.goto (-61)) := by decide +kernel
theorem dx_64_73 : mj_at 64 73 = some (.iload_n 2) := by decide +kernel
theorem dx_64_74 : mj_at 64 74 = some (.ireturn) := by decide +kernel
set_option maxRecDepth 10000 in
theorem b_X5_nearest {sl d : Nat} {M : mj_M} {x1 : Int32}  : mj_C sl (d + 1) 64 [.ref 1, .int x1] M = mj_E sl (d + 1) 64 9 [.ref 1, .int x1, .int (-2), .int 2147483647, .int 0, .null] [] M := by
  show mj_E sl (d + 1) 64 0 [.ref 1, .int x1, .null, .null, .null, .null] [] M = _
  refine (sx_bipush (v := (-2)) dx_64_0 rfl).trans ?_
  refine (sx_istore_n dx_64_2 (Nat.le_of_ble_eq_true rfl) rfl).trans ?_
  refine (sx_ldc (v := 2147483647) dx_64_3 ow_64 kx_3_21).trans ?_
  refine (sx_istore_n dx_64_5 (Nat.le_of_ble_eq_true rfl) rfl).trans ?_
  refine (sx_iconst (v := 0) dx_64_6 rfl).trans ?_
  refine (sx_istore dx_64_7 (Nat.le_of_ble_eq_true rfl) rfl).trans ?_
  rfl
set_option maxRecDepth 10000 in
theorem b_X5_nearest_9 {sl d : Nat} {M : mj_M} {y1 : Int32} {y2 : Int32} {y3 : Int32} {y4 : Int32} {w5 : Value}  : mj_E sl (d + 1) 64 9 [.ref 1, .int y1, .int y2, .int y3, .int y4, w5] [] M = if y4 < 8 then (if ((M 1 1) >>> (y4 &&& 31)) &&& 1 = 1 then (if mj_inB y4 8 = true then ((mj_C sl d 229 [.int (y1 ^^^ (M 2 (y4 : Int32).toNatClampNeg))] M).bind (fun q1 => if q1.1 < y3 then (mj_E sl (d + 1) 64 9 [.ref 1, .int y1, .int y4, .int q1.1, .int (y4 + 1), .int q1.1] [] q1.2) else (if q1.1 = y3 then (mj_E sl (d + 1) 64 9 [.ref 1, .int y1, .int (-2), .int y3, .int (y4 + 1), .int q1.1] [] q1.2) else (mj_E sl (d + 1) 64 9 [.ref 1, .int y1, .int y2, .int y3, .int (y4 + 1), .int q1.1] [] q1.2)))) else none) else (mj_E sl (d + 1) 64 9 [.ref 1, .int y1, .int y2, .int y3, .int (y4 + 1), w5] [] M)) else (some ((y2 : Int32), M)) := by
  refine (sx_iload dx_64_9 rfl).trans ?_
  refine (sx_bipush (v := 8) dx_64_11 rfl).trans ?_
  refine (sx_icmp_ge (tgt := 73) dx_64_13 (by decide)).trans ?_
  refine mj_ite ?_ ?_
  · refine (sx_aload_n dx_64_16 rfl).trans ?_
    refine (sx_gfi dx_64_17 ow_64 fx_3_15 (by decide) oc_1).trans ?_
    refine (sx_iload dx_64_20 rfl).trans ?_
    refine (sx_ishr dx_64_22).trans ?_
    refine (sx_iconst (v := 1) dx_64_23 rfl).trans ?_
    refine (sx_iand dx_64_24).trans ?_
    refine (sx_iconst (v := 1) dx_64_25 rfl).trans ?_
    refine (sx_icmp_ne (tgt := 67) dx_64_26 (by decide)).trans ?_
    refine mj_ite ?_ ?_
    · refine (sx_iload_n dx_64_29 rfl).trans ?_
      refine (sx_aload_n dx_64_30 rfl).trans ?_
      refine (sx_gfr dx_64_31 ow_64 fx_3_9 oc_1 rb_1_0).trans ?_
      refine (sx_iload dx_64_34 rfl).trans ?_
      refine (sx_ild dx_64_36 (by decide) ia_2).trans ?_
      refine mj_ite ?_ rfl
      refine (sx_ixor dx_64_37).trans ?_
      refine (sx_s1i dx_64_38 ow_64 cx_3_22 (Nat.le_of_ble_eq_true rfl)).trans ?_
      refine mj_bnd (fun q1 => ?_)
      refine (sx_istore dx_64_41 (Nat.le_of_ble_eq_true rfl) rfl).trans ?_
      refine (sx_iload dx_64_43 rfl).trans ?_
      refine (sx_iload_n dx_64_45 rfl).trans ?_
      refine (sx_icmp_ge (tgt := 58) dx_64_46 (by decide)).trans ?_
      refine mj_ite ?_ ?_
      · refine (sx_iload dx_64_49 rfl).trans ?_
        refine (sx_istore_n dx_64_51 (Nat.le_of_ble_eq_true rfl) rfl).trans ?_
        refine (sx_iload dx_64_52 rfl).trans ?_
        refine (sx_istore_n dx_64_54 (Nat.le_of_ble_eq_true rfl) rfl).trans ?_
        refine (sx_goto (tgt := 67) dx_64_55 (by decide)).trans ?_
        refine (sx_iinc (v := 1) dx_64_67 rfl rfl rfl).trans ?_
        refine (sx_goto (tgt := 9) dx_64_70 (by decide)).trans ?_
        rfl
      · refine (sx_iload dx_64_58 rfl).trans ?_
        refine (sx_iload_n dx_64_60 rfl).trans ?_
        refine (sx_icmp_ne (tgt := 67) dx_64_61 (by decide)).trans ?_
        refine mj_ite ?_ ?_
        · refine (sx_bipush (v := (-2)) dx_64_64 rfl).trans ?_
          refine (sx_istore_n dx_64_66 (Nat.le_of_ble_eq_true rfl) rfl).trans ?_
          refine (sx_iinc (v := 1) dx_64_67 rfl rfl rfl).trans ?_
          refine (sx_goto (tgt := 9) dx_64_70 (by decide)).trans ?_
          rfl
        · refine (sx_iinc (v := 1) dx_64_67 rfl rfl rfl).trans ?_
          refine (sx_goto (tgt := 9) dx_64_70 (by decide)).trans ?_
          rfl
    · refine (sx_iinc (v := 1) dx_64_67 rfl rfl rfl).trans ?_
      refine (sx_goto (tgt := 9) dx_64_70 (by decide)).trans ?_
      rfl
  · refine (sx_iload_n dx_64_73 rfl).trans ?_
    exact sx_reti dx_64_74 rt_64
theorem dx_65_0 : mj_at 65 0 = some (.bipush 26) := by decide +kernel
theorem dx_65_2 : mj_at 65 2 = some (.istore_n 3) := by decide +kernel
theorem dx_65_3 : mj_at 65 3 = some (.iconst 0) := by decide +kernel
theorem dx_65_4 : mj_at 65 4 = some (.istore 4) := by decide +kernel
theorem dx_65_6 : mj_at 65 6 = some (.iload 4) := by decide +kernel
theorem dx_65_8 : mj_at 65 8 = some (.bipush 8) := by decide +kernel
theorem dx_65_10 : mj_at 65 10 = some (.if_icmp .ge 40) := by decide +kernel
theorem dx_65_13 : mj_at 65 13 = some (.iload 4) := by decide +kernel
theorem dx_65_15 : mj_at 65 15 = some (.iload_n 2) := by decide +kernel
theorem dx_65_16 : mj_at 65 16 = some (.if_icmp .eq 28) := by decide +kernel
theorem dx_65_19 : mj_at 65 19 = some (.aload_n 0) := by decide +kernel
theorem dx_65_20 : mj_at 65 20 = some (.iload 4) := by decide +kernel
theorem dx_65_22 : mj_at 65 22 = some (.invokevirtual 28) := by decide +kernel
theorem dx_65_25 : mj_at 65 25 = some (.ifCond .eq 19) := by decide +kernel
theorem dx_65_28 : mj_at 65 28 = some (.iload_n 3) := by decide +kernel
theorem dx_65_29 : mj_at 65 29 = some (.iload_n 1) := by decide +kernel
theorem dx_65_30 : mj_at 65 30 = some (.aload_n 0) := by decide +kernel
theorem dx_65_31 : mj_at 65 31 = some (.getfield 9) := by decide +kernel
theorem dx_65_34 : mj_at 65 34 = some (.iload 4) := by decide +kernel
theorem dx_65_36 : mj_at 65 36 = some (.iaload) := by decide +kernel
theorem dx_65_37 : mj_at 65 37 = some (.invokestatic 32) := by decide +kernel
theorem dx_65_40 : mj_at 65 40 = some (.invokestatic 36) := by decide +kernel
theorem dx_65_43 : mj_at 65 43 = some (.istore_n 3) := by decide +kernel
theorem dx_65_44 : mj_at 65 44 = some (.iinc 4 1) := by decide +kernel
theorem dx_65_47 : mj_at 65 47 = some (.goto (-41)) := by decide +kernel
theorem dx_65_50 : mj_at 65 50 = some (.iload_n 1) := by decide +kernel
theorem dx_65_51 : mj_at 65 51 = some (.aload_n 0) := by decide +kernel
theorem dx_65_52 : mj_at 65 52 = some (.getfield 9) := by decide +kernel
theorem dx_65_55 : mj_at 65 55 = some (.iload_n 2) := by decide +kernel
theorem dx_65_56 : mj_at 65 56 = some (.iaload) := by decide +kernel
theorem dx_65_57 : mj_at 65 57 = some (.invokestatic 32) := by decide +kernel
theorem dx_65_60 : mj_at 65 60 = some (.iload_n 3) := by decide +kernel
theorem dx_65_61 : mj_at 65 61 = some (.isub) := by decide +kernel
theorem dx_65_62 : mj_at 65 62 = some (.ireturn) := by decide +kernel
set_option maxRecDepth 10000 in
theorem b_X5_behind {sl d : Nat} {M : mj_M} {x1 : Int32} {x2 : Int32}  : mj_C sl (d + 1) 65 [.ref 1, .int x1, .int x2] M = mj_E sl (d + 1) 65 6 [.ref 1, .int x1, .int x2, .int 26, .int 0] [] M := by
  show mj_E sl (d + 1) 65 0 [.ref 1, .int x1, .int x2, .null, .null] [] M = _
  refine (sx_bipush (v := 26) dx_65_0 rfl).trans ?_
  refine (sx_istore_n dx_65_2 (Nat.le_of_ble_eq_true rfl) rfl).trans ?_
  refine (sx_iconst (v := 0) dx_65_3 rfl).trans ?_
  refine (sx_istore dx_65_4 (Nat.le_of_ble_eq_true rfl) rfl).trans ?_
  rfl
set_option maxRecDepth 10000 in
theorem b_X5_behind_6 {sl d : Nat} {M : mj_M} {y1 : Int32} {y2 : Int32} {y3 : Int32} {y4 : Int32}  : mj_E sl (d + 1) 65 6 [.ref 1, .int y1, .int y2, .int y3, .int y4] [] M = if y4 < 8 then (if y4 = y2 then (mj_E sl (d + 1) 65 6 [.ref 1, .int y1, .int y2, .int y3, .int (y4 + 1)] [] M) else ((mj_C sl d 62 [.ref 1, .int y4] M).bind (fun q1 => if q1.1 = 0 then (mj_E sl (d + 1) 65 6 [.ref 1, .int y1, .int y2, .int y3, .int (y4 + 1)] [] q1.2) else (if mj_inB y4 8 = true then ((mj_C sl d 21 [.int y1, .int (q1.2 2 (y4 : Int32).toNatClampNeg)] q1.2).bind (fun q2 => mj_E sl (d + 1) 65 6 [.ref 1, .int y1, .int y2, .int (mj_mn y3 q2.1), .int (y4 + 1)] [] q2.2)) else none)))) else (if mj_inB y2 8 = true then ((mj_C sl d 21 [.int y1, .int (M 2 (y2 : Int32).toNatClampNeg)] M).bind (fun q3 => some ((q3.1 - y3 : Int32), q3.2))) else none) := by
  refine (sx_iload dx_65_6 rfl).trans ?_
  refine (sx_bipush (v := 8) dx_65_8 rfl).trans ?_
  refine (sx_icmp_ge (tgt := 50) dx_65_10 (by decide)).trans ?_
  refine mj_ite ?_ ?_
  · refine (sx_iload dx_65_13 rfl).trans ?_
    refine (sx_iload_n dx_65_15 rfl).trans ?_
    refine (sx_icmp_eq (tgt := 44) dx_65_16 (by decide)).trans ?_
    refine mj_ite ?_ ?_
    · refine (sx_iinc (v := 1) dx_65_44 rfl rfl rfl).trans ?_
      refine (sx_goto (tgt := 6) dx_65_47 (by decide)).trans ?_
      rfl
    · refine (sx_aload_n dx_65_19 rfl).trans ?_
      refine (sx_iload dx_65_20 rfl).trans ?_
      refine (sx_v1i dx_65_22 ow_65 cx_3_28 oc_1 (Nat.le_of_ble_eq_true rfl)).trans ?_
      refine mj_bnd (fun q1 => ?_)
      refine (sx_if_eq (tgt := 44) dx_65_25 (by decide)).trans ?_
      refine mj_ite ?_ ?_
      · refine (sx_iinc (v := 1) dx_65_44 rfl rfl rfl).trans ?_
        refine (sx_goto (tgt := 6) dx_65_47 (by decide)).trans ?_
        rfl
      · refine (sx_iload_n dx_65_28 rfl).trans ?_
        refine (sx_iload_n dx_65_29 rfl).trans ?_
        refine (sx_aload_n dx_65_30 rfl).trans ?_
        refine (sx_gfr dx_65_31 ow_65 fx_3_9 oc_1 rb_1_0).trans ?_
        refine (sx_iload dx_65_34 rfl).trans ?_
        refine (sx_ild dx_65_36 (by decide) ia_2).trans ?_
        refine mj_ite ?_ rfl
        refine (sx_s2i dx_65_37 ow_65 cx_3_32 (Nat.le_of_ble_eq_true rfl)).trans ?_
        refine mj_bnd (fun q2 => ?_)
        refine (sx_min dx_65_40 ow_65 cx6_3_36 (Nat.le_of_ble_eq_true rfl)).trans ?_
        refine (sx_istore_n dx_65_43 (Nat.le_of_ble_eq_true rfl) rfl).trans ?_
        refine (sx_iinc (v := 1) dx_65_44 rfl rfl rfl).trans ?_
        refine (sx_goto (tgt := 6) dx_65_47 (by decide)).trans ?_
        rfl
  · refine (sx_iload_n dx_65_50 rfl).trans ?_
    refine (sx_aload_n dx_65_51 rfl).trans ?_
    refine (sx_gfr dx_65_52 ow_65 fx_3_9 oc_1 rb_1_0).trans ?_
    refine (sx_iload_n dx_65_55 rfl).trans ?_
    refine (sx_ild dx_65_56 (by decide) ia_2).trans ?_
    refine mj_ite ?_ rfl
    refine (sx_s2i dx_65_57 ow_65 cx_3_32 (Nat.le_of_ble_eq_true rfl)).trans ?_
    refine mj_bnd (fun q3 => ?_)
    refine (sx_iload_n dx_65_60 rfl).trans ?_
    refine (sx_isub dx_65_61).trans ?_
    exact sx_reti dx_65_62 rt_65
theorem dx_66_0 : mj_at 66 0 = some (.ldc 21) := by decide +kernel
theorem dx_66_2 : mj_at 66 2 = some (.istore_n 2) := by decide +kernel
theorem dx_66_3 : mj_at 66 3 = some (.iconst 0) := by decide +kernel
theorem dx_66_4 : mj_at 66 4 = some (.istore_n 3) := by decide +kernel
theorem dx_66_5 : mj_at 66 5 = some (.iload_n 3) := by decide +kernel
theorem dx_66_6 : mj_at 66 6 = some (.bipush 8) := by decide +kernel
theorem dx_66_8 : mj_at 66 8 = some (.if_icmp .ge 62) := by decide +kernel
theorem dx_66_11 : mj_at 66 11 = some (.iload_n 3) := by decide +kernel
theorem dx_66_12 : mj_at 66 12 = some (.iconst 1) := by decide +kernel
theorem dx_66_13 : mj_at 66 13 = some (.iadd) := by decide +kernel
theorem dx_66_14 : mj_at 66 14 = some (.istore 4) := by decide +kernel
theorem dx_66_16 : mj_at 66 16 = some (.iload 4) := by decide +kernel
theorem dx_66_18 : mj_at 66 18 = some (.bipush 8) := by decide +kernel
theorem dx_66_20 : mj_at 66 20 = some (.if_icmp .ge 44) := by decide +kernel
theorem dx_66_23 : mj_at 66 23 = some (.iload_n 1) := by decide +kernel
theorem dx_66_24 : mj_at 66 24 = some (.iload_n 3) := by decide +kernel
theorem dx_66_25 : mj_at 66 25 = some (.ishr) := by decide +kernel
theorem dx_66_26 : mj_at 66 26 = some (.iload_n 1) := by decide +kernel
theorem dx_66_27 : mj_at 66 27 = some (.iload 4) := by decide +kernel
theorem dx_66_29 : mj_at 66 29 = some (.ishr) := by decide +kernel
theorem dx_66_30 : mj_at 66 30 = some (.iand) := by decide +kernel
theorem dx_66_31 : mj_at 66 31 = some (.iconst 1) := by decide +kernel
theorem dx_66_32 : mj_at 66 32 = some (.iand) := by decide +kernel
theorem dx_66_33 : mj_at 66 33 = some (.iconst 1) := by decide +kernel
theorem dx_66_34 : mj_at 66 34 = some (.if_icmp .ne 24) := by decide +kernel
theorem dx_66_37 : mj_at 66 37 = some (.iload_n 2) := by decide +kernel
theorem dx_66_38 : mj_at 66 38 = some (.aload_n 0) := by decide +kernel
theorem dx_66_39 : mj_at 66 39 = some (.getfield 9) := by decide +kernel
theorem dx_66_42 : mj_at 66 42 = some (.iload_n 3) := by decide +kernel
theorem dx_66_43 : mj_at 66 43 = some (.iaload) := by decide +kernel
theorem dx_66_44 : mj_at 66 44 = some (.aload_n 0) := by decide +kernel
theorem dx_66_45 : mj_at 66 45 = some (.getfield 9) := by decide +kernel
theorem dx_66_48 : mj_at 66 48 = some (.iload 4) := by decide +kernel
theorem dx_66_50 : mj_at 66 50 = some (.iaload) := by decide +kernel
theorem dx_66_51 : mj_at 66 51 = some (.invokestatic 32) := by decide +kernel
theorem dx_66_54 : mj_at 66 54 = some (.invokestatic 36) := by decide +kernel
theorem dx_66_57 : mj_at 66 57 = some (.istore_n 2) := by decide +kernel
theorem dx_66_58 : mj_at 66 58 = some (.iinc 4 1) := by decide +kernel
theorem dx_66_61 : mj_at 66 61 = some (.goto (-45)) := by decide +kernel
theorem dx_66_64 : mj_at 66 64 = some (.iinc 3 1) := by decide +kernel
theorem dx_66_67 : mj_at 66 67 = some (.goto (-62)) := by decide +kernel
theorem dx_66_70 : mj_at 66 70 = some (.iload_n 2) := by decide +kernel
theorem dx_66_71 : mj_at 66 71 = some (.ireturn) := by decide +kernel
set_option maxRecDepth 10000 in
theorem b_X5_leastApart {sl d : Nat} {M : mj_M} {x1 : Int32}  : mj_C sl (d + 1) 66 [.ref 1, .int x1] M = mj_E sl (d + 1) 66 5 [.ref 1, .int x1, .int 2147483647, .int 0, .null] [] M := by
  show mj_E sl (d + 1) 66 0 [.ref 1, .int x1, .null, .null, .null] [] M = _
  refine (sx_ldc (v := 2147483647) dx_66_0 ow_66 kx_3_21).trans ?_
  refine (sx_istore_n dx_66_2 (Nat.le_of_ble_eq_true rfl) rfl).trans ?_
  refine (sx_iconst (v := 0) dx_66_3 rfl).trans ?_
  refine (sx_istore_n dx_66_4 (Nat.le_of_ble_eq_true rfl) rfl).trans ?_
  rfl
set_option maxRecDepth 10000 in
theorem b_X5_leastApart_5 {sl d : Nat} {M : mj_M} {y1 : Int32} {y2 : Int32} {y3 : Int32} {w4 : Value}  : mj_E sl (d + 1) 66 5 [.ref 1, .int y1, .int y2, .int y3, w4] [] M = if y3 < 8 then (mj_E sl (d + 1) 66 16 [.ref 1, .int y1, .int y2, .int y3, .int (y3 + 1)] [] M) else (some ((y2 : Int32), M)) := by
  refine (sx_iload_n dx_66_5 rfl).trans ?_
  refine (sx_bipush (v := 8) dx_66_6 rfl).trans ?_
  refine (sx_icmp_ge (tgt := 70) dx_66_8 (by decide)).trans ?_
  refine mj_ite ?_ ?_
  · refine (sx_iload_n dx_66_11 rfl).trans ?_
    refine (sx_iconst (v := 1) dx_66_12 rfl).trans ?_
    refine (sx_iadd dx_66_13).trans ?_
    refine (sx_istore dx_66_14 (Nat.le_of_ble_eq_true rfl) rfl).trans ?_
    rfl
  · refine (sx_iload_n dx_66_70 rfl).trans ?_
    exact sx_reti dx_66_71 rt_66
set_option maxRecDepth 10000 in
theorem b_X5_leastApart_16 {sl d : Nat} {M : mj_M} {y1 : Int32} {y2 : Int32} {y3 : Int32} {y4 : Int32}  : mj_E sl (d + 1) 66 16 [.ref 1, .int y1, .int y2, .int y3, .int y4] [] M = if y4 < 8 then (if ((y1 >>> (y3 &&& 31)) &&& (y1 >>> (y4 &&& 31))) &&& 1 = 1 then (if mj_inB y3 8 = true then (if mj_inB y4 8 = true then ((mj_C sl d 21 [.int (M 2 (y3 : Int32).toNatClampNeg), .int (M 2 (y4 : Int32).toNatClampNeg)] M).bind (fun q1 => mj_E sl (d + 1) 66 16 [.ref 1, .int y1, .int (mj_mn y2 q1.1), .int y3, .int (y4 + 1)] [] q1.2)) else none) else none) else (mj_E sl (d + 1) 66 16 [.ref 1, .int y1, .int y2, .int y3, .int (y4 + 1)] [] M)) else (mj_E sl (d + 1) 66 5 [.ref 1, .int y1, .int y2, .int (y3 + 1), .int y4] [] M) := by
  refine (sx_iload dx_66_16 rfl).trans ?_
  refine (sx_bipush (v := 8) dx_66_18 rfl).trans ?_
  refine (sx_icmp_ge (tgt := 64) dx_66_20 (by decide)).trans ?_
  refine mj_ite ?_ ?_
  · refine (sx_iload_n dx_66_23 rfl).trans ?_
    refine (sx_iload_n dx_66_24 rfl).trans ?_
    refine (sx_ishr dx_66_25).trans ?_
    refine (sx_iload_n dx_66_26 rfl).trans ?_
    refine (sx_iload dx_66_27 rfl).trans ?_
    refine (sx_ishr dx_66_29).trans ?_
    refine (sx_iand dx_66_30).trans ?_
    refine (sx_iconst (v := 1) dx_66_31 rfl).trans ?_
    refine (sx_iand dx_66_32).trans ?_
    refine (sx_iconst (v := 1) dx_66_33 rfl).trans ?_
    refine (sx_icmp_ne (tgt := 58) dx_66_34 (by decide)).trans ?_
    refine mj_ite ?_ ?_
    · refine (sx_iload_n dx_66_37 rfl).trans ?_
      refine (sx_aload_n dx_66_38 rfl).trans ?_
      refine (sx_gfr dx_66_39 ow_66 fx_3_9 oc_1 rb_1_0).trans ?_
      refine (sx_iload_n dx_66_42 rfl).trans ?_
      refine (sx_ild dx_66_43 (by decide) ia_2).trans ?_
      refine mj_ite ?_ rfl
      refine (sx_aload_n dx_66_44 rfl).trans ?_
      refine (sx_gfr dx_66_45 ow_66 fx_3_9 oc_1 rb_1_0).trans ?_
      refine (sx_iload dx_66_48 rfl).trans ?_
      refine (sx_ild dx_66_50 (by decide) ia_2).trans ?_
      refine mj_ite ?_ rfl
      refine (sx_s2i dx_66_51 ow_66 cx_3_32 (Nat.le_of_ble_eq_true rfl)).trans ?_
      refine mj_bnd (fun q1 => ?_)
      refine (sx_min dx_66_54 ow_66 cx6_3_36 (Nat.le_of_ble_eq_true rfl)).trans ?_
      refine (sx_istore_n dx_66_57 (Nat.le_of_ble_eq_true rfl) rfl).trans ?_
      refine (sx_iinc (v := 1) dx_66_58 rfl rfl rfl).trans ?_
      refine (sx_goto (tgt := 16) dx_66_61 (by decide)).trans ?_
      rfl
    · refine (sx_iinc (v := 1) dx_66_58 rfl rfl rfl).trans ?_
      refine (sx_goto (tgt := 16) dx_66_61 (by decide)).trans ?_
      rfl
  · refine (sx_iinc (v := 1) dx_66_64 rfl rfl rfl).trans ?_
    refine (sx_goto (tgt := 5) dx_66_67 (by decide)).trans ?_
    rfl
theorem dx_73_0 : mj_at 73 0 = some (.aload_n 0) := by decide +kernel
theorem dx_73_1 : mj_at 73 1 = some (.getfield 15) := by decide +kernel
theorem dx_73_4 : mj_at 73 4 = some (.bipush 20) := by decide +kernel
theorem dx_73_6 : mj_at 73 6 = some (.iadd) := by decide +kernel
theorem dx_73_7 : mj_at 73 7 = some (.sipush 260) := by decide +kernel
theorem dx_73_10 : mj_at 73 10 = some (.if_icmp .gt 7) := by decide +kernel
theorem dx_73_13 : mj_at 73 13 = some (.iconst 1) := by decide +kernel
theorem dx_73_14 : mj_at 73 14 = some (.goto 4) := by decide +kernel
theorem dx_73_17 : mj_at 73 17 = some (.iconst 0) := by decide +kernel
theorem dx_73_18 : mj_at 73 18 = some (.ireturn) := by decide +kernel
set_option maxRecDepth 10000 in
theorem b_X7_hasRoom {sl d : Nat} {M : mj_M}   : mj_C sl d 73 [.ref 21] M = if (M 21 1) + 20 ≤ 260 then (some ((1 : Int32), M)) else (some ((0 : Int32), M)) := by
  show mj_E sl d 73 0 [.ref 21] [] M = _
  refine (sx_aload_n dx_73_0 rfl).trans ?_
  refine (sx_gfi dx_73_1 ow_73 fx_5_15 (by decide) oc_21).trans ?_
  refine (sx_bipush (v := 20) dx_73_4 rfl).trans ?_
  refine (sx_iadd dx_73_6).trans ?_
  refine (sx_sipush (v := 260) dx_73_7 rfl).trans ?_
  refine (sx_icmp_gt (tgt := 17) dx_73_10 (by decide)).trans ?_
  refine mj_ite ?_ ?_
  · refine (sx_iconst (v := 1) dx_73_13 rfl).trans ?_
    refine (sx_goto (tgt := 18) dx_73_14 (by decide)).trans ?_
    exact sx_retz dx_73_18 rt_73 (by decide)
  · refine (sx_iconst (v := 0) dx_73_17 rfl).trans ?_
    exact sx_retz dx_73_18 rt_73 (by decide)
theorem dx_74_0 : mj_at 74 0 = some (.bipush 24) := by decide +kernel
theorem dx_74_2 : mj_at 74 2 = some (.istore_n 2) := by decide +kernel
theorem dx_74_3 : mj_at 74 3 = some (.iload_n 2) := by decide +kernel
theorem dx_74_4 : mj_at 74 4 = some (.ifCond .lt 45) := by decide +kernel
theorem dx_74_7 : mj_at 74 7 = some (.aload_n 0) := by decide +kernel
theorem dx_74_8 : mj_at 74 8 = some (.getfield 15) := by decide +kernel
theorem dx_74_11 : mj_at 74 11 = some (.sipush 260) := by decide +kernel
theorem dx_74_14 : mj_at 74 14 = some (.if_icmp .ge 35) := by decide +kernel
theorem dx_74_17 : mj_at 74 17 = some (.aload_n 0) := by decide +kernel
theorem dx_74_18 : mj_at 74 18 = some (.getfield 11) := by decide +kernel
theorem dx_74_21 : mj_at 74 21 = some (.aload_n 0) := by decide +kernel
theorem dx_74_22 : mj_at 74 22 = some (.getfield 15) := by decide +kernel
theorem dx_74_25 : mj_at 74 25 = some (.iload_n 1) := by decide +kernel
theorem dx_74_26 : mj_at 74 26 = some (.iload_n 2) := by decide +kernel
theorem dx_74_27 : mj_at 74 27 = some (.ishr) := by decide +kernel
theorem dx_74_28 : mj_at 74 28 = some (.sipush 255) := by decide +kernel
theorem dx_74_31 : mj_at 74 31 = some (.iand) := by decide +kernel
theorem dx_74_32 : mj_at 74 32 = some (.iastore) := by decide +kernel
theorem dx_74_33 : mj_at 74 33 = some (.aload_n 0) := by decide +kernel
theorem dx_74_34 : mj_at 74 34 = some (.dup) := by decide +kernel
theorem dx_74_35 : mj_at 74 35 = some (.getfield 15) := by decide +kernel
theorem dx_74_38 : mj_at 74 38 = some (.iconst 1) := by decide +kernel
theorem dx_74_39 : mj_at 74 39 = some (.iadd) := by decide +kernel
theorem dx_74_40 : mj_at 74 40 = some (.putfield 15) := by decide +kernel
theorem dx_74_43 : mj_at 74 43 = some (.iinc 2 (-8)) := by decide +kernel
theorem dx_74_46 : mj_at 74 46 = some (.goto (-43)) := by decide +kernel
theorem dx_74_49 : mj_at 74 49 = some (.return_) := by decide +kernel
set_option maxRecDepth 10000 in
theorem b_X7_addInt {sl d : Nat} {M : mj_M} {x1 : Int32}  : mj_C sl d 74 [.ref 21, .int x1] M = mj_E sl d 74 3 [.ref 21, .int x1, .int 24] [] M := by
  show mj_E sl d 74 0 [.ref 21, .int x1, .null] [] M = _
  refine (sx_bipush (v := 24) dx_74_0 rfl).trans ?_
  refine (sx_istore_n dx_74_2 (Nat.le_of_ble_eq_true rfl) rfl).trans ?_
  rfl
set_option maxRecDepth 10000 in
theorem b_X7_addInt_3 {sl d : Nat} {M : mj_M} {y1 : Int32} {y2 : Int32}  : mj_E sl d 74 3 [.ref 21, .int y1, .int y2] [] M = if y2 < 0 then (some ((0 : Int32), M)) else (if M 21 1 < 260 then (if mj_inB (M 21 1) 260 = true then (mj_E sl d 74 3 [.ref 21, .int y1, .int (y2 + (-8))] [] (mj_st (mj_st M 22 (M 21 1 : Int32).toNatClampNeg ((y1 >>> (y2 &&& 31)) &&& 255)) 21 1 (((mj_st M 22 (M 21 1 : Int32).toNatClampNeg ((y1 >>> (y2 &&& 31)) &&& 255)) 21 1) + 1))) else none) else (some ((0 : Int32), M))) := by
  refine (sx_iload_n dx_74_3 rfl).trans ?_
  refine (sx_if_lt (tgt := 49) dx_74_4 (by decide)).trans ?_
  refine mj_ite ?_ ?_
  · exact sx_retv dx_74_49 rt_74
  · refine (sx_aload_n dx_74_7 rfl).trans ?_
    refine (sx_gfi dx_74_8 ow_74 fx_5_15 (by decide) oc_21).trans ?_
    refine (sx_sipush (v := 260) dx_74_11 rfl).trans ?_
    refine (sx_icmp_ge (tgt := 49) dx_74_14 (by decide)).trans ?_
    refine mj_ite ?_ ?_
    · refine (sx_aload_n dx_74_17 rfl).trans ?_
      refine (sx_gfr dx_74_18 ow_74 fx_5_11 oc_21 rb_21_0).trans ?_
      refine (sx_aload_n dx_74_21 rfl).trans ?_
      refine (sx_gfi dx_74_22 ow_74 fx_5_15 (by decide) oc_21).trans ?_
      refine (sx_iload_n dx_74_25 rfl).trans ?_
      refine (sx_iload_n dx_74_26 rfl).trans ?_
      refine (sx_ishr dx_74_27).trans ?_
      refine (sx_sipush (v := 255) dx_74_28 rfl).trans ?_
      refine (sx_iand dx_74_31).trans ?_
      refine (sx_ist dx_74_32 ia_22).trans ?_
      refine mj_ite ?_ rfl
      refine (sx_aload_n dx_74_33 rfl).trans ?_
      refine (sx_dupa dx_74_34).trans ?_
      refine (sx_gfi dx_74_35 ow_74 fx_5_15 (by decide) oc_21).trans ?_
      refine (sx_iconst (v := 1) dx_74_38 rfl).trans ?_
      refine (sx_iadd dx_74_39).trans ?_
      refine (sx_pfi dx_74_40 ow_74 fx_5_15 oc_21).trans ?_
      refine (sx_iinc (v := (-8)) dx_74_43 rfl rfl rfl).trans ?_
      refine (sx_goto (tgt := 3) dx_74_46 (by decide)).trans ?_
      rfl
    · exact sx_retv dx_74_49 rt_74
theorem dx_75_0 : mj_at 75 0 = some (.iload_n 1) := by decide +kernel
theorem dx_75_1 : mj_at 75 1 = some (.iload_n 2) := by decide +kernel
theorem dx_75_2 : mj_at 75 2 = some (.if_icmp .lt 20) := by decide +kernel
theorem dx_75_5 : mj_at 75 5 = some (.iload_n 1) := by decide +kernel
theorem dx_75_6 : mj_at 75 6 = some (.iload_n 3) := by decide +kernel
theorem dx_75_7 : mj_at 75 7 = some (.if_icmp .gt 15) := by decide +kernel
theorem dx_75_10 : mj_at 75 10 = some (.iload_n 1) := by decide +kernel
theorem dx_75_11 : mj_at 75 11 = some (.aload_n 0) := by decide +kernel
theorem dx_75_12 : mj_at 75 12 = some (.getfield 15) := by decide +kernel
theorem dx_75_15 : mj_at 75 15 = some (.if_icmp .gt 7) := by decide +kernel
theorem dx_75_18 : mj_at 75 18 = some (.iconst 1) := by decide +kernel
theorem dx_75_19 : mj_at 75 19 = some (.goto 4) := by decide +kernel
theorem dx_75_22 : mj_at 75 22 = some (.iconst 0) := by decide +kernel
theorem dx_75_23 : mj_at 75 23 = some (.ireturn) := by decide +kernel
set_option maxRecDepth 10000 in
theorem b_X7_has {sl d : Nat} {M : mj_M} {x1 : Int32} {x2 : Int32} {x3 : Int32}  : mj_C sl d 75 [.ref 21, .int x1, .int x2, .int x3] M = if x1 < x2 then (some ((0 : Int32), M)) else (if x1 ≤ x3 then (if x1 ≤ (M 21 1) then (some ((1 : Int32), M)) else (some ((0 : Int32), M))) else (some ((0 : Int32), M))) := by
  show mj_E sl d 75 0 [.ref 21, .int x1, .int x2, .int x3] [] M = _
  refine (sx_iload_n dx_75_0 rfl).trans ?_
  refine (sx_iload_n dx_75_1 rfl).trans ?_
  refine (sx_icmp_lt (tgt := 22) dx_75_2 (by decide)).trans ?_
  refine mj_ite ?_ ?_
  · refine (sx_iconst (v := 0) dx_75_22 rfl).trans ?_
    exact sx_retz dx_75_23 rt_75 (by decide)
  · refine (sx_iload_n dx_75_5 rfl).trans ?_
    refine (sx_iload_n dx_75_6 rfl).trans ?_
    refine (sx_icmp_gt (tgt := 22) dx_75_7 (by decide)).trans ?_
    refine mj_ite ?_ ?_
    · refine (sx_iload_n dx_75_10 rfl).trans ?_
      refine (sx_aload_n dx_75_11 rfl).trans ?_
      refine (sx_gfi dx_75_12 ow_75 fx_5_15 (by decide) oc_21).trans ?_
      refine (sx_icmp_gt (tgt := 22) dx_75_15 (by decide)).trans ?_
      refine mj_ite ?_ ?_
      · refine (sx_iconst (v := 1) dx_75_18 rfl).trans ?_
        refine (sx_goto (tgt := 23) dx_75_19 (by decide)).trans ?_
        exact sx_retz dx_75_23 rt_75 (by decide)
      · refine (sx_iconst (v := 0) dx_75_22 rfl).trans ?_
        exact sx_retz dx_75_23 rt_75 (by decide)
    · refine (sx_iconst (v := 0) dx_75_22 rfl).trans ?_
      exact sx_retz dx_75_23 rt_75 (by decide)
theorem dx_76_0 : mj_at 76 0 = some (.iload_n 1) := by decide +kernel
theorem dx_76_1 : mj_at 76 1 = some (.ifCond .lt 19) := by decide +kernel
theorem dx_76_4 : mj_at 76 4 = some (.iload_n 1) := by decide +kernel
theorem dx_76_5 : mj_at 76 5 = some (.sipush 260) := by decide +kernel
theorem dx_76_8 : mj_at 76 8 = some (.if_icmp .ge 12) := by decide +kernel
theorem dx_76_11 : mj_at 76 11 = some (.aload_n 0) := by decide +kernel
theorem dx_76_12 : mj_at 76 12 = some (.getfield 11) := by decide +kernel
theorem dx_76_15 : mj_at 76 15 = some (.iload_n 1) := by decide +kernel
theorem dx_76_16 : mj_at 76 16 = some (.iaload) := by decide +kernel
theorem dx_76_17 : mj_at 76 17 = some (.goto 4) := by decide +kernel
theorem dx_76_20 : mj_at 76 20 = some (.iconst (-1)) := by decide +kernel
theorem dx_76_21 : mj_at 76 21 = some (.ireturn) := by decide +kernel
set_option maxRecDepth 10000 in
theorem b_X7_byteAt {sl d : Nat} {M : mj_M} {x1 : Int32}  : mj_C sl d 76 [.ref 21, .int x1] M = if x1 < 0 then (some (((-1) : Int32), M)) else (if x1 < 260 then (if mj_inB x1 260 = true then (some ((M 22 (x1 : Int32).toNatClampNeg : Int32), M)) else none) else (some (((-1) : Int32), M))) := by
  show mj_E sl d 76 0 [.ref 21, .int x1] [] M = _
  refine (sx_iload_n dx_76_0 rfl).trans ?_
  refine (sx_if_lt (tgt := 20) dx_76_1 (by decide)).trans ?_
  refine mj_ite ?_ ?_
  · refine (sx_iconst (v := (-1)) dx_76_20 rfl).trans ?_
    exact sx_reti dx_76_21 rt_76
  · refine (sx_iload_n dx_76_4 rfl).trans ?_
    refine (sx_sipush (v := 260) dx_76_5 rfl).trans ?_
    refine (sx_icmp_ge (tgt := 20) dx_76_8 (by decide)).trans ?_
    refine mj_ite ?_ ?_
    · refine (sx_aload_n dx_76_11 rfl).trans ?_
      refine (sx_gfr dx_76_12 ow_76 fx_5_11 oc_21 rb_21_0).trans ?_
      refine (sx_iload_n dx_76_15 rfl).trans ?_
      refine (sx_ild dx_76_16 (by decide) ia_22).trans ?_
      refine mj_ite ?_ rfl
      refine (sx_goto (tgt := 21) dx_76_17 (by decide)).trans ?_
      exact sx_reti dx_76_21 rt_76
    · refine (sx_iconst (v := (-1)) dx_76_20 rfl).trans ?_
      exact sx_reti dx_76_21 rt_76
theorem dx_77_0 : mj_at 77 0 = some (.iconst 0) := by decide +kernel
theorem dx_77_1 : mj_at 77 1 = some (.istore_n 2) := by decide +kernel
theorem dx_77_2 : mj_at 77 2 = some (.iconst 0) := by decide +kernel
theorem dx_77_3 : mj_at 77 3 = some (.istore_n 3) := by decide +kernel
theorem dx_77_4 : mj_at 77 4 = some (.iload_n 3) := by decide +kernel
theorem dx_77_5 : mj_at 77 5 = some (.iconst 4) := by decide +kernel
theorem dx_77_6 : mj_at 77 6 = some (.if_icmp .ge 26) := by decide +kernel
theorem dx_77_9 : mj_at 77 9 = some (.iload_n 2) := by decide +kernel
theorem dx_77_10 : mj_at 77 10 = some (.bipush 8) := by decide +kernel
theorem dx_77_12 : mj_at 77 12 = some (.ishl) := by decide +kernel
theorem dx_77_13 : mj_at 77 13 = some (.aload_n 0) := by decide +kernel
theorem dx_77_14 : mj_at 77 14 = some (.iload_n 1) := by decide +kernel
theorem dx_77_15 : mj_at 77 15 = some (.iload_n 3) := by decide +kernel
theorem dx_77_16 : mj_at 77 16 = some (.iadd) := by decide +kernel
theorem dx_77_17 : mj_at 77 17 = some (.invokevirtual 19) := by decide +kernel
theorem dx_77_20 : mj_at 77 20 = some (.sipush 255) := by decide +kernel
theorem dx_77_23 : mj_at 77 23 = some (.iand) := by decide +kernel
theorem dx_77_24 : mj_at 77 24 = some (.ior) := by decide +kernel
theorem dx_77_25 : mj_at 77 25 = some (.istore_n 2) := by decide +kernel
theorem dx_77_26 : mj_at 77 26 = some (.iinc 3 1) := by decide +kernel
theorem dx_77_29 : mj_at 77 29 = some (.goto (-25)) := by decide +kernel
theorem dx_77_32 : mj_at 77 32 = some (.iload_n 2) := by decide +kernel
theorem dx_77_33 : mj_at 77 33 = some (.ireturn) := by decide +kernel
set_option maxRecDepth 10000 in
theorem b_X7_intAt {sl d : Nat} {M : mj_M} {x1 : Int32}  : mj_C sl (d + 1) 77 [.ref 21, .int x1] M = mj_E sl (d + 1) 77 4 [.ref 21, .int x1, .int 0, .int 0] [] M := by
  show mj_E sl (d + 1) 77 0 [.ref 21, .int x1, .null, .null] [] M = _
  refine (sx_iconst (v := 0) dx_77_0 rfl).trans ?_
  refine (sx_istore_n dx_77_1 (Nat.le_of_ble_eq_true rfl) rfl).trans ?_
  refine (sx_iconst (v := 0) dx_77_2 rfl).trans ?_
  refine (sx_istore_n dx_77_3 (Nat.le_of_ble_eq_true rfl) rfl).trans ?_
  rfl
set_option maxRecDepth 10000 in
theorem b_X7_intAt_4 {sl d : Nat} {M : mj_M} {y1 : Int32} {y2 : Int32} {y3 : Int32}  : mj_E sl (d + 1) 77 4 [.ref 21, .int y1, .int y2, .int y3] [] M = if y3 < 4 then ((mj_C sl d 76 [.ref 21, .int (y1 + y3)] M).bind (fun q1 => mj_E sl (d + 1) 77 4 [.ref 21, .int y1, .int ((y2 <<< ((8 : Int32) &&& 31)) ||| (q1.1 &&& 255)), .int (y3 + 1)] [] q1.2)) else (some ((y2 : Int32), M)) := by
  refine (sx_iload_n dx_77_4 rfl).trans ?_
  refine (sx_iconst (v := 4) dx_77_5 rfl).trans ?_
  refine (sx_icmp_ge (tgt := 32) dx_77_6 (by decide)).trans ?_
  refine mj_ite ?_ ?_
  · refine (sx_iload_n dx_77_9 rfl).trans ?_
    refine (sx_bipush (v := 8) dx_77_10 rfl).trans ?_
    refine (sx_ishl dx_77_12).trans ?_
    refine (sx_aload_n dx_77_13 rfl).trans ?_
    refine (sx_iload_n dx_77_14 rfl).trans ?_
    refine (sx_iload_n dx_77_15 rfl).trans ?_
    refine (sx_iadd dx_77_16).trans ?_
    refine (sx_v1i dx_77_17 ow_77 cx_5_19 oc_21 (Nat.le_of_ble_eq_true rfl)).trans ?_
    refine mj_bnd (fun q1 => ?_)
    refine (sx_sipush (v := 255) dx_77_20 rfl).trans ?_
    refine (sx_iand dx_77_23).trans ?_
    refine (sx_ior dx_77_24).trans ?_
    refine (sx_istore_n dx_77_25 (Nat.le_of_ble_eq_true rfl) rfl).trans ?_
    refine (sx_iinc (v := 1) dx_77_26 rfl rfl rfl).trans ?_
    refine (sx_goto (tgt := 4) dx_77_29 (by decide)).trans ?_
    rfl
  · refine (sx_iload_n dx_77_32 rfl).trans ?_
    exact sx_reti dx_77_33 rt_77
