theorem dx_124_0 : mj_at 124 0 = some (.iload_n 0) := by decide +kernel
theorem dx_124_1 : mj_at 124 1 = some (.iload_n 1) := by decide +kernel
theorem dx_124_2 : mj_at 124 2 = some (.if_icmp .lt 12) := by decide +kernel
theorem dx_124_5 : mj_at 124 5 = some (.iload_n 0) := by decide +kernel
theorem dx_124_6 : mj_at 124 6 = some (.iload_n 2) := by decide +kernel
theorem dx_124_7 : mj_at 124 7 = some (.if_icmp .gt 7) := by decide +kernel
theorem dx_124_10 : mj_at 124 10 = some (.iconst 1) := by decide +kernel
theorem dx_124_11 : mj_at 124 11 = some (.goto 4) := by decide +kernel
theorem dx_124_14 : mj_at 124 14 = some (.iconst 0) := by decide +kernel
theorem dx_124_15 : mj_at 124 15 = some (.ireturn) := by decide +kernel
set_option maxRecDepth 10000 in
theorem b_X9_in {sl d : Nat} {M : mj_M} {x1 : Int32} {x2 : Int32} {x3 : Int32}  : mj_C sl d 124 [.int x1, .int x2, .int x3] M = if x1 < x2 then (some ((0 : Int32), M)) else (if x1 ≤ x3 then (some ((1 : Int32), M)) else (some ((0 : Int32), M))) := by
  show mj_E sl d 124 0 [.int x1, .int x2, .int x3] [] M = _
  refine (sx_iload_n dx_124_0 rfl).trans ?_
  refine (sx_iload_n dx_124_1 rfl).trans ?_
  refine (sx_icmp_lt (tgt := 14) dx_124_2 (by decide)).trans ?_
  refine mj_ite ?_ ?_
  · refine (sx_iconst (v := 0) dx_124_14 rfl).trans ?_
    exact sx_retz dx_124_15 rt_124 (by decide)
  · refine (sx_iload_n dx_124_5 rfl).trans ?_
    refine (sx_iload_n dx_124_6 rfl).trans ?_
    refine (sx_icmp_gt (tgt := 14) dx_124_7 (by decide)).trans ?_
    refine mj_ite ?_ ?_
    · refine (sx_iconst (v := 1) dx_124_10 rfl).trans ?_
      refine (sx_goto (tgt := 15) dx_124_11 (by decide)).trans ?_
      exact sx_retz dx_124_15 rt_124 (by decide)
    · refine (sx_iconst (v := 0) dx_124_14 rfl).trans ?_
      exact sx_retz dx_124_15 rt_124 (by decide)
theorem dx_125_0 : mj_at 125 0 = some (.iload_n 0) := by decide +kernel
theorem dx_125_1 : mj_at 125 1 = some (.iload_n 1) := by decide +kernel
theorem dx_125_2 : mj_at 125 2 = some (.if_icmp .ge 7) := by decide +kernel
theorem dx_125_5 : mj_at 125 5 = some (.iload_n 0) := by decide +kernel
theorem dx_125_6 : mj_at 125 6 = some (.goto 4) := by decide +kernel
theorem dx_125_9 : mj_at 125 9 = some (.iload_n 1) := by decide +kernel
theorem dx_125_10 : mj_at 125 10 = some (.ireturn) := by decide +kernel
set_option maxRecDepth 10000 in
theorem b_X9_min {sl d : Nat} {M : mj_M} {x1 : Int32} {x2 : Int32}  : mj_C sl d 125 [.int x1, .int x2] M = if x1 < x2 then (some ((x1 : Int32), M)) else (some ((x2 : Int32), M)) := by
  show mj_E sl d 125 0 [.int x1, .int x2] [] M = _
  refine (sx_iload_n dx_125_0 rfl).trans ?_
  refine (sx_iload_n dx_125_1 rfl).trans ?_
  refine (sx_icmp_ge (tgt := 9) dx_125_2 (by decide)).trans ?_
  refine mj_ite ?_ ?_
  · refine (sx_iload_n dx_125_5 rfl).trans ?_
    refine (sx_goto (tgt := 10) dx_125_6 (by decide)).trans ?_
    exact sx_reti dx_125_10 rt_125
  · refine (sx_iload_n dx_125_9 rfl).trans ?_
    exact sx_reti dx_125_10 rt_125
theorem dx_126_0 : mj_at 126 0 = some (.iload_n 0) := by decide +kernel
theorem dx_126_1 : mj_at 126 1 = some (.iload_n 1) := by decide +kernel
theorem dx_126_2 : mj_at 126 2 = some (.if_icmp .le 7) := by decide +kernel
theorem dx_126_5 : mj_at 126 5 = some (.iload_n 0) := by decide +kernel
theorem dx_126_6 : mj_at 126 6 = some (.goto 4) := by decide +kernel
theorem dx_126_9 : mj_at 126 9 = some (.iload_n 1) := by decide +kernel
theorem dx_126_10 : mj_at 126 10 = some (.ireturn) := by decide +kernel
set_option maxRecDepth 10000 in
theorem b_X9_max {sl d : Nat} {M : mj_M} {x1 : Int32} {x2 : Int32}  : mj_C sl d 126 [.int x1, .int x2] M = if x1 ≤ x2 then (some ((x2 : Int32), M)) else (some ((x1 : Int32), M)) := by
  show mj_E sl d 126 0 [.int x1, .int x2] [] M = _
  refine (sx_iload_n dx_126_0 rfl).trans ?_
  refine (sx_iload_n dx_126_1 rfl).trans ?_
  refine (sx_icmp_le (tgt := 9) dx_126_2 (by decide)).trans ?_
  refine mj_ite ?_ ?_
  · refine (sx_iload_n dx_126_9 rfl).trans ?_
    exact sx_reti dx_126_10 rt_126
  · refine (sx_iload_n dx_126_5 rfl).trans ?_
    refine (sx_goto (tgt := 10) dx_126_6 (by decide)).trans ?_
    exact sx_reti dx_126_10 rt_126
theorem dx_127_0 : mj_at 127 0 = some (.iload_n 0) := by decide +kernel
theorem dx_127_1 : mj_at 127 1 = some (.iload_n 1) := by decide +kernel
theorem dx_127_2 : mj_at 127 2 = some (.ishr) := by decide +kernel
theorem dx_127_3 : mj_at 127 3 = some (.iconst 1) := by decide +kernel
theorem dx_127_4 : mj_at 127 4 = some (.iand) := by decide +kernel
theorem dx_127_5 : mj_at 127 5 = some (.iconst 1) := by decide +kernel
theorem dx_127_6 : mj_at 127 6 = some (.if_icmp .ne 7) := by decide +kernel
theorem dx_127_9 : mj_at 127 9 = some (.iconst 1) := by decide +kernel
theorem dx_127_10 : mj_at 127 10 = some (.goto 4) := by decide +kernel
theorem dx_127_13 : mj_at 127 13 = some (.iconst 0) := by decide +kernel
theorem dx_127_14 : mj_at 127 14 = some (.ireturn) := by decide +kernel
set_option maxRecDepth 10000 in
theorem b_X9_has {sl d : Nat} {M : mj_M} {x1 : Int32} {x2 : Int32}  : mj_C sl d 127 [.int x1, .int x2] M = if (x1 >>> (x2 &&& 31)) &&& 1 = 1 then (some ((1 : Int32), M)) else (some ((0 : Int32), M)) := by
  show mj_E sl d 127 0 [.int x1, .int x2] [] M = _
  refine (sx_iload_n dx_127_0 rfl).trans ?_
  refine (sx_iload_n dx_127_1 rfl).trans ?_
  refine (sx_ishr dx_127_2).trans ?_
  refine (sx_iconst (v := 1) dx_127_3 rfl).trans ?_
  refine (sx_iand dx_127_4).trans ?_
  refine (sx_iconst (v := 1) dx_127_5 rfl).trans ?_
  refine (sx_icmp_ne (tgt := 13) dx_127_6 (by decide)).trans ?_
  refine mj_ite ?_ ?_
  · refine (sx_iconst (v := 1) dx_127_9 rfl).trans ?_
    refine (sx_goto (tgt := 14) dx_127_10 (by decide)).trans ?_
    exact sx_retz dx_127_14 rt_127 (by decide)
  · refine (sx_iconst (v := 0) dx_127_13 rfl).trans ?_
    exact sx_retz dx_127_14 rt_127 (by decide)
theorem dx_128_0 : mj_at 128 0 = some (.iconst 0) := by decide +kernel
theorem dx_128_1 : mj_at 128 1 = some (.istore_n 1) := by decide +kernel
theorem dx_128_2 : mj_at 128 2 = some (.iconst 0) := by decide +kernel
theorem dx_128_3 : mj_at 128 3 = some (.istore_n 2) := by decide +kernel
theorem dx_128_4 : mj_at 128 4 = some (.iload_n 2) := by decide +kernel
theorem dx_128_5 : mj_at 128 5 = some (.bipush 25) := by decide +kernel
theorem dx_128_7 : mj_at 128 7 = some (.if_icmp .ge 17) := by decide +kernel
theorem dx_128_10 : mj_at 128 10 = some (.iload_n 1) := by decide +kernel
theorem dx_128_11 : mj_at 128 11 = some (.iload_n 0) := by decide +kernel
theorem dx_128_12 : mj_at 128 12 = some (.iload_n 2) := by decide +kernel
theorem dx_128_13 : mj_at 128 13 = some (.ishr) := by decide +kernel
theorem dx_128_14 : mj_at 128 14 = some (.iconst 1) := by decide +kernel
theorem dx_128_15 : mj_at 128 15 = some (.iand) := by decide +kernel
theorem dx_128_16 : mj_at 128 16 = some (.iadd) := by decide +kernel
theorem dx_128_17 : mj_at 128 17 = some (.istore_n 1) := by decide +kernel
theorem dx_128_18 : mj_at 128 18 = some (.iinc 2 1) := by decide +kernel
theorem dx_128_21 : mj_at 128 21 = some (.goto (-17)) := by decide +kernel
theorem dx_128_24 : mj_at 128 24 = some (.iload_n 1) := by decide +kernel
theorem dx_128_25 : mj_at 128 25 = some (.ireturn) := by decide +kernel
set_option maxRecDepth 10000 in
theorem b_X9_bits {sl d : Nat} {M : mj_M} {x1 : Int32}  : mj_C sl d 128 [.int x1] M = mj_E sl d 128 4 [.int x1, .int 0, .int 0] [] M := by
  show mj_E sl d 128 0 [.int x1, .null, .null] [] M = _
  refine (sx_iconst (v := 0) dx_128_0 rfl).trans ?_
  refine (sx_istore_n dx_128_1 (Nat.le_of_ble_eq_true rfl) rfl).trans ?_
  refine (sx_iconst (v := 0) dx_128_2 rfl).trans ?_
  refine (sx_istore_n dx_128_3 (Nat.le_of_ble_eq_true rfl) rfl).trans ?_
  rfl
set_option maxRecDepth 10000 in
theorem b_X9_bits_4 {sl d : Nat} {M : mj_M} {y0 : Int32} {y1 : Int32} {y2 : Int32}  : mj_E sl d 128 4 [.int y0, .int y1, .int y2] [] M = if y2 < 25 then (mj_E sl d 128 4 [.int y0, .int (y1 + ((y0 >>> (y2 &&& 31)) &&& 1)), .int (y2 + 1)] [] M) else (some ((y1 : Int32), M)) := by
  refine (sx_iload_n dx_128_4 rfl).trans ?_
  refine (sx_bipush (v := 25) dx_128_5 rfl).trans ?_
  refine (sx_icmp_ge (tgt := 24) dx_128_7 (by decide)).trans ?_
  refine mj_ite ?_ ?_
  · refine (sx_iload_n dx_128_10 rfl).trans ?_
    refine (sx_iload_n dx_128_11 rfl).trans ?_
    refine (sx_iload_n dx_128_12 rfl).trans ?_
    refine (sx_ishr dx_128_13).trans ?_
    refine (sx_iconst (v := 1) dx_128_14 rfl).trans ?_
    refine (sx_iand dx_128_15).trans ?_
    refine (sx_iadd dx_128_16).trans ?_
    refine (sx_istore_n dx_128_17 (Nat.le_of_ble_eq_true rfl) rfl).trans ?_
    refine (sx_iinc (v := 1) dx_128_18 rfl rfl rfl).trans ?_
    refine (sx_goto (tgt := 4) dx_128_21 (by decide)).trans ?_
    rfl
  · refine (sx_iload_n dx_128_24 rfl).trans ?_
    exact sx_reti dx_128_25 rt_128
theorem dx_129_0 : mj_at 129 0 = some (.iconst 0) := by decide +kernel
theorem dx_129_1 : mj_at 129 1 = some (.istore_n 2) := by decide +kernel
theorem dx_129_2 : mj_at 129 2 = some (.iload_n 2) := by decide +kernel
theorem dx_129_3 : mj_at 129 3 = some (.bipush 112) := by decide +kernel
theorem dx_129_5 : mj_at 129 5 = some (.if_icmp .ge 15) := by decide +kernel
theorem dx_129_8 : mj_at 129 8 = some (.aload_n 1) := by decide +kernel
theorem dx_129_9 : mj_at 129 9 = some (.iload_n 2) := by decide +kernel
theorem dx_129_10 : mj_at 129 10 = some (.aload_n 0) := by decide +kernel
theorem dx_129_11 : mj_at 129 11 = some (.iload_n 2) := by decide +kernel
theorem dx_129_12 : mj_at 129 12 = some (.iaload) := by decide +kernel
theorem dx_129_13 : mj_at 129 13 = some (.iastore) := by decide +kernel
theorem dx_129_14 : mj_at 129 14 = some (.iinc 2 1) := by decide +kernel
theorem dx_129_17 : mj_at 129 17 = some (.goto (-15)) := by decide +kernel
theorem dx_129_20 : mj_at 129 20 = some (.return_) := by decide +kernel
set_option maxRecDepth 10000 in
theorem b_X9_copies {sl d : Nat} {M : mj_M} {a1 : Nat} {a2 : Nat} (ha1 : mj_ial a1 = 112) (hb1 : ¬ a1 = 72) (ha2 : mj_ial a2 = 112) (hb2 : ¬ a2 = 72) : mj_C sl d 129 [.ref a1, .ref a2] M = mj_E sl d 129 2 [.ref a1, .ref a2, .int 0] [] M := by
  show mj_E sl d 129 0 [.ref a1, .ref a2, .null] [] M = _
  refine (sx_iconst (v := 0) dx_129_0 rfl).trans ?_
  refine (sx_istore_n dx_129_1 (Nat.le_of_ble_eq_true rfl) rfl).trans ?_
  rfl
set_option maxRecDepth 10000 in
theorem b_X9_copies_2 {sl d : Nat} {M : mj_M} {a1 : Nat} {a2 : Nat} {y2 : Int32} (ha1 : mj_ial a1 = 112) (hb1 : ¬ a1 = 72) (ha2 : mj_ial a2 = 112) (hb2 : ¬ a2 = 72) : mj_E sl d 129 2 [.ref a1, .ref a2, .int y2] [] M = if y2 < 112 then (if mj_inB y2 112 = true then (if mj_inB y2 112 = true then (mj_E sl d 129 2 [.ref a1, .ref a2, .int (y2 + 1)] [] (mj_st M a2 (y2 : Int32).toNatClampNeg (M a1 (y2 : Int32).toNatClampNeg))) else none) else none) else (some ((0 : Int32), M)) := by
  refine (sx_iload_n dx_129_2 rfl).trans ?_
  refine (sx_bipush (v := 112) dx_129_3 rfl).trans ?_
  refine (sx_icmp_ge (tgt := 20) dx_129_5 (by decide)).trans ?_
  refine mj_ite ?_ ?_
  · refine (sx_aload_n dx_129_8 rfl).trans ?_
    refine (sx_iload_n dx_129_9 rfl).trans ?_
    refine (sx_aload_n dx_129_10 rfl).trans ?_
    refine (sx_iload_n dx_129_11 rfl).trans ?_
    refine (sx_ild dx_129_12 hb1 ha1).trans ?_
    refine mj_ite ?_ rfl
    refine (sx_ist dx_129_13 ha2).trans ?_
    refine mj_ite ?_ rfl
    refine (sx_iinc (v := 1) dx_129_14 rfl rfl rfl).trans ?_
    refine (sx_goto (tgt := 2) dx_129_17 (by decide)).trans ?_
    rfl
  · exact sx_retv dx_129_20 rt_129
theorem dx_130_0 : mj_at 130 0 = some (.iload_n 0) := by decide +kernel
theorem dx_130_1 : mj_at 130 1 = some (.iconst 0) := by decide +kernel
theorem dx_130_2 : mj_at 130 2 = some (.ldc 89) := by decide +kernel
theorem dx_130_4 : mj_at 130 4 = some (.invokestatic 90) := by decide +kernel
theorem dx_130_7 : mj_at 130 7 = some (.ireturn) := by decide +kernel
set_option maxRecDepth 10000 in
theorem b_X9_isGrid {sl d : Nat} {M : mj_M} {x1 : Int32}  : mj_C sl (d + 1) 130 [.int x1] M = (mj_C sl d 124 [.int x1, .int 0, .int 33554431] M).bind (fun q1 => if q1.1 &&& 1 = q1.1 then some ((q1.1 : Int32), q1.2) else none) := by
  show mj_E sl (d + 1) 130 0 [.int x1] [] M = _
  refine (sx_iload_n dx_130_0 rfl).trans ?_
  refine (sx_iconst (v := 0) dx_130_1 rfl).trans ?_
  refine (sx_ldc (v := 33554431) dx_130_2 ow_130 kx_7_89).trans ?_
  refine (sx_s3i dx_130_4 ow_130 cx_7_90 (Nat.le_of_ble_eq_true rfl)).trans ?_
  refine mj_bnd (fun q1 => ?_)
  exact sx_retg dx_130_7 rt_130
theorem dx_131_0 : mj_at 131 0 = some (.iload_n 1) := by decide +kernel
theorem dx_131_1 : mj_at 131 1 = some (.iconst 0) := by decide +kernel
theorem dx_131_2 : mj_at 131 2 = some (.bipush 7) := by decide +kernel
theorem dx_131_4 : mj_at 131 4 = some (.invokestatic 90) := by decide +kernel
theorem dx_131_7 : mj_at 131 7 = some (.ifCond .eq 17) := by decide +kernel
theorem dx_131_10 : mj_at 131 10 = some (.aload_n 0) := by decide +kernel
theorem dx_131_11 : mj_at 131 11 = some (.getfield 19) := by decide +kernel
theorem dx_131_14 : mj_at 131 14 = some (.iload_n 1) := by decide +kernel
theorem dx_131_15 : mj_at 131 15 = some (.iaload) := by decide +kernel
theorem dx_131_16 : mj_at 131 16 = some (.iconst (-1)) := by decide +kernel
theorem dx_131_17 : mj_at 131 17 = some (.if_icmp .eq 7) := by decide +kernel
theorem dx_131_20 : mj_at 131 20 = some (.iconst 1) := by decide +kernel
theorem dx_131_21 : mj_at 131 21 = some (.goto 4) := by decide +kernel
theorem dx_131_24 : mj_at 131 24 = some (.iconst 0) := by decide +kernel
theorem dx_131_25 : mj_at 131 25 = some (.ireturn) := by decide +kernel
set_option maxRecDepth 10000 in
theorem b_X9_isLetter {sl d : Nat} {M : mj_M} {x1 : Int32}  : mj_C sl (d + 1) 131 [.ref 45, .int x1] M = (mj_C sl d 124 [.int x1, .int 0, .int 7] M).bind (fun q1 => if q1.1 = 0 then (some ((0 : Int32), q1.2)) else (if mj_inB x1 8 = true then (if q1.2 49 (x1 : Int32).toNatClampNeg = (-1) then (some ((0 : Int32), q1.2)) else (some ((1 : Int32), q1.2))) else none)) := by
  show mj_E sl (d + 1) 131 0 [.ref 45, .int x1] [] M = _
  refine (sx_iload_n dx_131_0 rfl).trans ?_
  refine (sx_iconst (v := 0) dx_131_1 rfl).trans ?_
  refine (sx_bipush (v := 7) dx_131_2 rfl).trans ?_
  refine (sx_s3i dx_131_4 ow_131 cx_7_90 (Nat.le_of_ble_eq_true rfl)).trans ?_
  refine mj_bnd (fun q1 => ?_)
  refine (sx_if_eq (tgt := 24) dx_131_7 (by decide)).trans ?_
  refine mj_ite ?_ ?_
  · refine (sx_iconst (v := 0) dx_131_24 rfl).trans ?_
    exact sx_retz dx_131_25 rt_131 (by decide)
  · refine (sx_aload_n dx_131_10 rfl).trans ?_
    refine (sx_gfr dx_131_11 ow_131 fx_7_19 oc_45 rb_45_3).trans ?_
    refine (sx_iload_n dx_131_14 rfl).trans ?_
    refine (sx_ild dx_131_15 (by decide) ia_49).trans ?_
    refine mj_ite ?_ rfl
    refine (sx_iconst (v := (-1)) dx_131_16 rfl).trans ?_
    refine (sx_icmp_eq (tgt := 24) dx_131_17 (by decide)).trans ?_
    refine mj_ite ?_ ?_
    · refine (sx_iconst (v := 0) dx_131_24 rfl).trans ?_
      exact sx_retz dx_131_25 rt_131 (by decide)
    · refine (sx_iconst (v := 1) dx_131_20 rfl).trans ?_
      refine (sx_goto (tgt := 25) dx_131_21 (by decide)).trans ?_
      exact sx_retz dx_131_25 rt_131 (by decide)
theorem dx_132_0 : mj_at 132 0 = some (.iload_n 1) := by decide +kernel
theorem dx_132_1 : mj_at 132 1 = some (.iconst 0) := by decide +kernel
theorem dx_132_2 : mj_at 132 2 = some (.bipush 9) := by decide +kernel
theorem dx_132_4 : mj_at 132 4 = some (.invokestatic 90) := by decide +kernel
theorem dx_132_7 : mj_at 132 7 = some (.ifCond .eq 19) := by decide +kernel
theorem dx_132_10 : mj_at 132 10 = some (.aload_n 0) := by decide +kernel
theorem dx_132_11 : mj_at 132 11 = some (.getfield 7) := by decide +kernel
theorem dx_132_14 : mj_at 132 14 = some (.iconst 0) := by decide +kernel
theorem dx_132_15 : mj_at 132 15 = some (.iload_n 1) := by decide +kernel
theorem dx_132_16 : mj_at 132 16 = some (.iadd) := by decide +kernel
theorem dx_132_17 : mj_at 132 17 = some (.iaload) := by decide +kernel
theorem dx_132_18 : mj_at 132 18 = some (.iconst 1) := by decide +kernel
theorem dx_132_19 : mj_at 132 19 = some (.if_icmp .ne 7) := by decide +kernel
theorem dx_132_22 : mj_at 132 22 = some (.iconst 1) := by decide +kernel
theorem dx_132_23 : mj_at 132 23 = some (.goto 4) := by decide +kernel
theorem dx_132_26 : mj_at 132 26 = some (.iconst 0) := by decide +kernel
theorem dx_132_27 : mj_at 132 27 = some (.ireturn) := by decide +kernel
set_option maxRecDepth 10000 in
theorem b_X9_isTold {sl d : Nat} {M : mj_M} {x1 : Int32}  : mj_C sl (d + 1) 132 [.ref 45, .int x1] M = (mj_C sl d 124 [.int x1, .int 0, .int 9] M).bind (fun q1 => if q1.1 = 0 then (some ((0 : Int32), q1.2)) else (if mj_inB ((0 : Int32) + x1) 112 = true then (if q1.2 46 ((0 : Int32) + x1 : Int32).toNatClampNeg = 1 then (some ((1 : Int32), q1.2)) else (some ((0 : Int32), q1.2))) else none)) := by
  show mj_E sl (d + 1) 132 0 [.ref 45, .int x1] [] M = _
  refine (sx_iload_n dx_132_0 rfl).trans ?_
  refine (sx_iconst (v := 0) dx_132_1 rfl).trans ?_
  refine (sx_bipush (v := 9) dx_132_2 rfl).trans ?_
  refine (sx_s3i dx_132_4 ow_132 cx_7_90 (Nat.le_of_ble_eq_true rfl)).trans ?_
  refine mj_bnd (fun q1 => ?_)
  refine (sx_if_eq (tgt := 26) dx_132_7 (by decide)).trans ?_
  refine mj_ite ?_ ?_
  · refine (sx_iconst (v := 0) dx_132_26 rfl).trans ?_
    exact sx_retz dx_132_27 rt_132 (by decide)
  · refine (sx_aload_n dx_132_10 rfl).trans ?_
    refine (sx_gfr dx_132_11 ow_132 fx_7_7 oc_45 rb_45_0).trans ?_
    refine (sx_iconst (v := 0) dx_132_14 rfl).trans ?_
    refine (sx_iload_n dx_132_15 rfl).trans ?_
    refine (sx_iadd dx_132_16).trans ?_
    refine (sx_ild dx_132_17 (by decide) ia_46).trans ?_
    refine mj_ite ?_ rfl
    refine (sx_iconst (v := 1) dx_132_18 rfl).trans ?_
    refine (sx_icmp_ne (tgt := 26) dx_132_19 (by decide)).trans ?_
    refine mj_ite ?_ ?_
    · refine (sx_iconst (v := 1) dx_132_22 rfl).trans ?_
      refine (sx_goto (tgt := 27) dx_132_23 (by decide)).trans ?_
      exact sx_retz dx_132_27 rt_132 (by decide)
    · refine (sx_iconst (v := 0) dx_132_26 rfl).trans ?_
      exact sx_retz dx_132_27 rt_132 (by decide)
theorem dx_133_0 : mj_at 133 0 = some (.iconst 0) := by decide +kernel
theorem dx_133_1 : mj_at 133 1 = some (.istore_n 1) := by decide +kernel
theorem dx_133_2 : mj_at 133 2 = some (.iconst 0) := by decide +kernel
theorem dx_133_3 : mj_at 133 3 = some (.istore_n 2) := by decide +kernel
theorem dx_133_4 : mj_at 133 4 = some (.iload_n 2) := by decide +kernel
theorem dx_133_5 : mj_at 133 5 = some (.bipush 8) := by decide +kernel
theorem dx_133_7 : mj_at 133 7 = some (.if_icmp .ge 23) := by decide +kernel
theorem dx_133_10 : mj_at 133 10 = some (.aload_n 0) := by decide +kernel
theorem dx_133_11 : mj_at 133 11 = some (.iload_n 2) := by decide +kernel
theorem dx_133_12 : mj_at 133 12 = some (.invokevirtual 94) := by decide +kernel
theorem dx_133_15 : mj_at 133 15 = some (.ifCond .eq 9) := by decide +kernel
theorem dx_133_18 : mj_at 133 18 = some (.iload_n 1) := by decide +kernel
theorem dx_133_19 : mj_at 133 19 = some (.iconst 1) := by decide +kernel
theorem dx_133_20 : mj_at 133 20 = some (.iload_n 2) := by decide +kernel
theorem dx_133_21 : mj_at 133 21 = some (.ishl) := by decide +kernel
theorem dx_133_22 : mj_at 133 22 = some (.ior) := by decide +kernel
theorem dx_133_23 : mj_at 133 23 = some (.istore_n 1) := by decide +kernel
theorem dx_133_24 : mj_at 133 24 = some (.iinc 2 1) := by decide +kernel
theorem dx_133_27 : mj_at 133 27 = some (.goto (-23)) := by decide +kernel
theorem dx_133_30 : mj_at 133 30 = some (.iload_n 1) := by decide +kernel
theorem dx_133_31 : mj_at 133 31 = some (.ireturn) := by decide +kernel
set_option maxRecDepth 10000 in
theorem b_X9_modelSet {sl d : Nat} {M : mj_M}   : mj_C sl (d + 1) 133 [.ref 45] M = mj_E sl (d + 1) 133 4 [.ref 45, .int 0, .int 0] [] M := by
  show mj_E sl (d + 1) 133 0 [.ref 45, .null, .null] [] M = _
  refine (sx_iconst (v := 0) dx_133_0 rfl).trans ?_
  refine (sx_istore_n dx_133_1 (Nat.le_of_ble_eq_true rfl) rfl).trans ?_
  refine (sx_iconst (v := 0) dx_133_2 rfl).trans ?_
  refine (sx_istore_n dx_133_3 (Nat.le_of_ble_eq_true rfl) rfl).trans ?_
  rfl
set_option maxRecDepth 10000 in
theorem b_X9_modelSet_4 {sl d : Nat} {M : mj_M} {y1 : Int32} {y2 : Int32}  : mj_E sl (d + 1) 133 4 [.ref 45, .int y1, .int y2] [] M = if y2 < 8 then ((mj_C sl d 131 [.ref 45, .int y2] M).bind (fun q1 => if q1.1 = 0 then (mj_E sl (d + 1) 133 4 [.ref 45, .int y1, .int (y2 + 1)] [] q1.2) else (mj_E sl (d + 1) 133 4 [.ref 45, .int (y1 ||| ((1 : Int32) <<< (y2 &&& 31))), .int (y2 + 1)] [] q1.2))) else (some ((y1 : Int32), M)) := by
  refine (sx_iload_n dx_133_4 rfl).trans ?_
  refine (sx_bipush (v := 8) dx_133_5 rfl).trans ?_
  refine (sx_icmp_ge (tgt := 30) dx_133_7 (by decide)).trans ?_
  refine mj_ite ?_ ?_
  · refine (sx_aload_n dx_133_10 rfl).trans ?_
    refine (sx_iload_n dx_133_11 rfl).trans ?_
    refine (sx_v1i dx_133_12 ow_133 cx_7_94 oc_45 (Nat.le_of_ble_eq_true rfl)).trans ?_
    refine mj_bnd (fun q1 => ?_)
    refine (sx_if_eq (tgt := 24) dx_133_15 (by decide)).trans ?_
    refine mj_ite ?_ ?_
    · refine (sx_iinc (v := 1) dx_133_24 rfl rfl rfl).trans ?_
      refine (sx_goto (tgt := 4) dx_133_27 (by decide)).trans ?_
      rfl
    · refine (sx_iload_n dx_133_18 rfl).trans ?_
      refine (sx_iconst (v := 1) dx_133_19 rfl).trans ?_
      refine (sx_iload_n dx_133_20 rfl).trans ?_
      refine (sx_ishl dx_133_21).trans ?_
      refine (sx_ior dx_133_22).trans ?_
      refine (sx_istore_n dx_133_23 (Nat.le_of_ble_eq_true rfl) rfl).trans ?_
      refine (sx_iinc (v := 1) dx_133_24 rfl rfl rfl).trans ?_
      refine (sx_goto (tgt := 4) dx_133_27 (by decide)).trans ?_
      rfl
  · refine (sx_iload_n dx_133_30 rfl).trans ?_
    exact sx_reti dx_133_31 rt_133
theorem dx_134_0 : mj_at 134 0 = some (.iconst 0) := by decide +kernel
theorem dx_134_1 : mj_at 134 1 = some (.istore_n 1) := by decide +kernel
theorem dx_134_2 : mj_at 134 2 = some (.iconst 0) := by decide +kernel
theorem dx_134_3 : mj_at 134 3 = some (.istore_n 2) := by decide +kernel
theorem dx_134_4 : mj_at 134 4 = some (.iload_n 2) := by decide +kernel
theorem dx_134_5 : mj_at 134 5 = some (.bipush 10) := by decide +kernel
theorem dx_134_7 : mj_at 134 7 = some (.if_icmp .ge 23) := by decide +kernel
theorem dx_134_10 : mj_at 134 10 = some (.aload_n 0) := by decide +kernel
theorem dx_134_11 : mj_at 134 11 = some (.iload_n 2) := by decide +kernel
theorem dx_134_12 : mj_at 134 12 = some (.invokevirtual 98) := by decide +kernel
theorem dx_134_15 : mj_at 134 15 = some (.ifCond .eq 9) := by decide +kernel
theorem dx_134_18 : mj_at 134 18 = some (.iload_n 1) := by decide +kernel
theorem dx_134_19 : mj_at 134 19 = some (.iconst 1) := by decide +kernel
theorem dx_134_20 : mj_at 134 20 = some (.iload_n 2) := by decide +kernel
theorem dx_134_21 : mj_at 134 21 = some (.ishl) := by decide +kernel
theorem dx_134_22 : mj_at 134 22 = some (.ior) := by decide +kernel
theorem dx_134_23 : mj_at 134 23 = some (.istore_n 1) := by decide +kernel
theorem dx_134_24 : mj_at 134 24 = some (.iinc 2 1) := by decide +kernel
theorem dx_134_27 : mj_at 134 27 = some (.goto (-23)) := by decide +kernel
theorem dx_134_30 : mj_at 134 30 = some (.iload_n 1) := by decide +kernel
theorem dx_134_31 : mj_at 134 31 = some (.ireturn) := by decide +kernel
set_option maxRecDepth 10000 in
theorem b_X9_toldSet {sl d : Nat} {M : mj_M}   : mj_C sl (d + 1) 134 [.ref 45] M = mj_E sl (d + 1) 134 4 [.ref 45, .int 0, .int 0] [] M := by
  show mj_E sl (d + 1) 134 0 [.ref 45, .null, .null] [] M = _
  refine (sx_iconst (v := 0) dx_134_0 rfl).trans ?_
  refine (sx_istore_n dx_134_1 (Nat.le_of_ble_eq_true rfl) rfl).trans ?_
  refine (sx_iconst (v := 0) dx_134_2 rfl).trans ?_
  refine (sx_istore_n dx_134_3 (Nat.le_of_ble_eq_true rfl) rfl).trans ?_
  rfl
set_option maxRecDepth 10000 in
theorem b_X9_toldSet_4 {sl d : Nat} {M : mj_M} {y1 : Int32} {y2 : Int32}  : mj_E sl (d + 1) 134 4 [.ref 45, .int y1, .int y2] [] M = if y2 < 10 then ((mj_C sl d 132 [.ref 45, .int y2] M).bind (fun q1 => if q1.1 = 0 then (mj_E sl (d + 1) 134 4 [.ref 45, .int y1, .int (y2 + 1)] [] q1.2) else (mj_E sl (d + 1) 134 4 [.ref 45, .int (y1 ||| ((1 : Int32) <<< (y2 &&& 31))), .int (y2 + 1)] [] q1.2))) else (some ((y1 : Int32), M)) := by
  refine (sx_iload_n dx_134_4 rfl).trans ?_
  refine (sx_bipush (v := 10) dx_134_5 rfl).trans ?_
  refine (sx_icmp_ge (tgt := 30) dx_134_7 (by decide)).trans ?_
  refine mj_ite ?_ ?_
  · refine (sx_aload_n dx_134_10 rfl).trans ?_
    refine (sx_iload_n dx_134_11 rfl).trans ?_
    refine (sx_v1i dx_134_12 ow_134 cx_7_98 oc_45 (Nat.le_of_ble_eq_true rfl)).trans ?_
    refine mj_bnd (fun q1 => ?_)
    refine (sx_if_eq (tgt := 24) dx_134_15 (by decide)).trans ?_
    refine mj_ite ?_ ?_
    · refine (sx_iinc (v := 1) dx_134_24 rfl rfl rfl).trans ?_
      refine (sx_goto (tgt := 4) dx_134_27 (by decide)).trans ?_
      rfl
    · refine (sx_iload_n dx_134_18 rfl).trans ?_
      refine (sx_iconst (v := 1) dx_134_19 rfl).trans ?_
      refine (sx_iload_n dx_134_20 rfl).trans ?_
      refine (sx_ishl dx_134_21).trans ?_
      refine (sx_ior dx_134_22).trans ?_
      refine (sx_istore_n dx_134_23 (Nat.le_of_ble_eq_true rfl) rfl).trans ?_
      refine (sx_iinc (v := 1) dx_134_24 rfl rfl rfl).trans ?_
      refine (sx_goto (tgt := 4) dx_134_27 (by decide)).trans ?_
      rfl
  · refine (sx_iload_n dx_134_30 rfl).trans ?_
    exact sx_reti dx_134_31 rt_134
theorem dx_135_0 : mj_at 135 0 = some (.bipush 30) := by decide +kernel
theorem dx_135_2 : mj_at 135 2 = some (.bipush 8) := by decide +kernel
theorem dx_135_4 : mj_at 135 4 = some (.iload_n 0) := by decide +kernel
theorem dx_135_5 : mj_at 135 5 = some (.imul) := by decide +kernel
theorem dx_135_6 : mj_at 135 6 = some (.iadd) := by decide +kernel
theorem dx_135_7 : mj_at 135 7 = some (.iload_n 1) := by decide +kernel
theorem dx_135_8 : mj_at 135 8 = some (.iadd) := by decide +kernel
theorem dx_135_9 : mj_at 135 9 = some (.ireturn) := by decide +kernel
set_option maxRecDepth 10000 in
theorem b_X9_own {sl d : Nat} {M : mj_M} {x1 : Int32} {x2 : Int32}  : mj_C sl d 135 [.int x1, .int x2] M = some ((((30 : Int32) + ((8 : Int32) * x1)) + x2 : Int32), M) := by
  show mj_E sl d 135 0 [.int x1, .int x2] [] M = _
  refine (sx_bipush (v := 30) dx_135_0 rfl).trans ?_
  refine (sx_bipush (v := 8) dx_135_2 rfl).trans ?_
  refine (sx_iload_n dx_135_4 rfl).trans ?_
  refine (sx_imul dx_135_5).trans ?_
  refine (sx_iadd dx_135_6).trans ?_
  refine (sx_iload_n dx_135_7 rfl).trans ?_
  refine (sx_iadd dx_135_8).trans ?_
  exact sx_reti dx_135_9 rt_135
theorem dx_136_0 : mj_at 136 0 = some (.aload_n 0) := by decide +kernel
theorem dx_136_1 : mj_at 136 1 = some (.getfield 7) := by decide +kernel
theorem dx_136_4 : mj_at 136 4 = some (.iload_n 1) := by decide +kernel
theorem dx_136_5 : mj_at 136 5 = some (.iload_n 2) := by decide +kernel
theorem dx_136_6 : mj_at 136 6 = some (.invokestatic 101) := by decide +kernel
theorem dx_136_9 : mj_at 136 9 = some (.iaload) := by decide +kernel
theorem dx_136_10 : mj_at 136 10 = some (.iconst (-1)) := by decide +kernel
theorem dx_136_11 : mj_at 136 11 = some (.if_icmp .ne 12) := by decide +kernel
theorem dx_136_14 : mj_at 136 14 = some (.aload_n 0) := by decide +kernel
theorem dx_136_15 : mj_at 136 15 = some (.getfield 19) := by decide +kernel
theorem dx_136_18 : mj_at 136 18 = some (.iload_n 2) := by decide +kernel
theorem dx_136_19 : mj_at 136 19 = some (.iaload) := by decide +kernel
theorem dx_136_20 : mj_at 136 20 = some (.goto 13) := by decide +kernel
theorem dx_136_23 : mj_at 136 23 = some (.aload_n 0) := by decide +kernel
theorem dx_136_24 : mj_at 136 24 = some (.getfield 7) := by decide +kernel
theorem dx_136_27 : mj_at 136 27 = some (.iload_n 1) := by decide +kernel
theorem dx_136_28 : mj_at 136 28 = some (.iload_n 2) := by decide +kernel
theorem dx_136_29 : mj_at 136 29 = some (.invokestatic 101) := by decide +kernel
theorem dx_136_32 : mj_at 136 32 = some (.iaload) := by decide +kernel
theorem dx_136_33 : mj_at 136 33 = some (.ireturn) := by decide +kernel
set_option maxRecDepth 10000 in
theorem b_X9_formNow {sl d : Nat} {M : mj_M} {x1 : Int32} {x2 : Int32}  : mj_C sl (d + 1) 136 [.ref 45, .int x1, .int x2] M = (mj_C sl d 135 [.int x1, .int x2] M).bind (fun q1 => if mj_inB q1.1 112 = true then (if q1.2 46 (q1.1 : Int32).toNatClampNeg = (-1) then (if mj_inB x2 8 = true then (some ((q1.2 49 (x2 : Int32).toNatClampNeg : Int32), q1.2)) else none) else ((mj_C sl d 135 [.int x1, .int x2] q1.2).bind (fun q2 => if mj_inB q2.1 112 = true then (some ((q2.2 46 (q2.1 : Int32).toNatClampNeg : Int32), q2.2)) else none))) else none) := by
  show mj_E sl (d + 1) 136 0 [.ref 45, .int x1, .int x2] [] M = _
  refine (sx_aload_n dx_136_0 rfl).trans ?_
  refine (sx_gfr dx_136_1 ow_136 fx_7_7 oc_45 rb_45_0).trans ?_
  refine (sx_iload_n dx_136_4 rfl).trans ?_
  refine (sx_iload_n dx_136_5 rfl).trans ?_
  refine (sx_s2i dx_136_6 ow_136 cx_7_101 (Nat.le_of_ble_eq_true rfl)).trans ?_
  refine mj_bnd (fun q1 => ?_)
  refine (sx_ild dx_136_9 (by decide) ia_46).trans ?_
  refine mj_ite ?_ rfl
  refine (sx_iconst (v := (-1)) dx_136_10 rfl).trans ?_
  refine (sx_icmp_ne (tgt := 23) dx_136_11 (by decide)).trans ?_
  refine mj_ite ?_ ?_
  · refine (sx_aload_n dx_136_14 rfl).trans ?_
    refine (sx_gfr dx_136_15 ow_136 fx_7_19 oc_45 rb_45_3).trans ?_
    refine (sx_iload_n dx_136_18 rfl).trans ?_
    refine (sx_ild dx_136_19 (by decide) ia_49).trans ?_
    refine mj_ite ?_ rfl
    refine (sx_goto (tgt := 33) dx_136_20 (by decide)).trans ?_
    exact sx_reti dx_136_33 rt_136
  · refine (sx_aload_n dx_136_23 rfl).trans ?_
    refine (sx_gfr dx_136_24 ow_136 fx_7_7 oc_45 rb_45_0).trans ?_
    refine (sx_iload_n dx_136_27 rfl).trans ?_
    refine (sx_iload_n dx_136_28 rfl).trans ?_
    refine (sx_s2i dx_136_29 ow_136 cx_7_101 (Nat.le_of_ble_eq_true rfl)).trans ?_
    refine mj_bnd (fun q2 => ?_)
    refine (sx_ild dx_136_32 (by decide) ia_46).trans ?_
    refine mj_ite ?_ rfl
    exact sx_reti dx_136_33 rt_136
theorem dx_137_0 : mj_at 137 0 = some (.iconst 0) := by decide +kernel
theorem dx_137_1 : mj_at 137 1 = some (.istore_n 2) := by decide +kernel
theorem dx_137_2 : mj_at 137 2 = some (.iconst 0) := by decide +kernel
theorem dx_137_3 : mj_at 137 3 = some (.istore_n 3) := by decide +kernel
theorem dx_137_4 : mj_at 137 4 = some (.iload_n 3) := by decide +kernel
theorem dx_137_5 : mj_at 137 5 = some (.bipush 8) := by decide +kernel
theorem dx_137_7 : mj_at 137 7 = some (.if_icmp .ge 36) := by decide +kernel
theorem dx_137_10 : mj_at 137 10 = some (.aload_n 0) := by decide +kernel
theorem dx_137_11 : mj_at 137 11 = some (.iload_n 3) := by decide +kernel
theorem dx_137_12 : mj_at 137 12 = some (.invokevirtual 94) := by decide +kernel
theorem dx_137_15 : mj_at 137 15 = some (.ifCond .eq 22) := by decide +kernel
theorem dx_137_18 : mj_at 137 18 = some (.iload_n 2) := by decide +kernel
theorem dx_137_19 : mj_at 137 19 = some (.aload_n 0) := by decide +kernel
theorem dx_137_20 : mj_at 137 20 = some (.iload_n 1) := by decide +kernel
theorem dx_137_21 : mj_at 137 21 = some (.iload_n 3) := by decide +kernel
theorem dx_137_22 : mj_at 137 22 = some (.invokevirtual 105) := by decide +kernel
theorem dx_137_25 : mj_at 137 25 = some (.aload_n 0) := by decide +kernel
theorem dx_137_26 : mj_at 137 26 = some (.getfield 19) := by decide +kernel
theorem dx_137_29 : mj_at 137 29 = some (.iload_n 3) := by decide +kernel
theorem dx_137_30 : mj_at 137 30 = some (.iaload) := by decide +kernel
theorem dx_137_31 : mj_at 137 31 = some (.ixor) := by decide +kernel
theorem dx_137_32 : mj_at 137 32 = some (.invokestatic 108) := by decide +kernel
theorem dx_137_35 : mj_at 137 35 = some (.iadd) := by decide +kernel
theorem dx_137_36 : mj_at 137 36 = some (.istore_n 2) := by decide +kernel
theorem dx_137_37 : mj_at 137 37 = some (.iinc 3 1) := by decide +kernel
theorem dx_137_40 : mj_at 137 40 = some (.goto (-36)) := by decide +kernel
theorem dx_137_43 : mj_at 137 43 = some (.iload_n 2) := by decide +kernel
theorem dx_137_44 : mj_at 137 44 = some (.ireturn) := by decide +kernel
set_option maxRecDepth 10000 in
theorem b_X9_faultsOf {sl d : Nat} {M : mj_M} {x1 : Int32}  : mj_C sl (d + 1) 137 [.ref 45, .int x1] M = mj_E sl (d + 1) 137 4 [.ref 45, .int x1, .int 0, .int 0] [] M := by
  show mj_E sl (d + 1) 137 0 [.ref 45, .int x1, .null, .null] [] M = _
  refine (sx_iconst (v := 0) dx_137_0 rfl).trans ?_
  refine (sx_istore_n dx_137_1 (Nat.le_of_ble_eq_true rfl) rfl).trans ?_
  refine (sx_iconst (v := 0) dx_137_2 rfl).trans ?_
  refine (sx_istore_n dx_137_3 (Nat.le_of_ble_eq_true rfl) rfl).trans ?_
  rfl
set_option maxRecDepth 10000 in
theorem b_X9_faultsOf_4 {sl d : Nat} {M : mj_M} {y1 : Int32} {y2 : Int32} {y3 : Int32}  : mj_E sl (d + 1) 137 4 [.ref 45, .int y1, .int y2, .int y3] [] M = if y3 < 8 then ((mj_C sl d 131 [.ref 45, .int y3] M).bind (fun q1 => if q1.1 = 0 then (mj_E sl (d + 1) 137 4 [.ref 45, .int y1, .int y2, .int (y3 + 1)] [] q1.2) else ((mj_C sl d 136 [.ref 45, .int y1, .int y3] q1.2).bind (fun q2 => if mj_inB y3 8 = true then ((mj_C sl d 128 [.int (q2.1 ^^^ (q2.2 49 (y3 : Int32).toNatClampNeg))] q2.2).bind (fun q3 => mj_E sl (d + 1) 137 4 [.ref 45, .int y1, .int (y2 + q3.1), .int (y3 + 1)] [] q3.2)) else none)))) else (some ((y2 : Int32), M)) := by
  refine (sx_iload_n dx_137_4 rfl).trans ?_
  refine (sx_bipush (v := 8) dx_137_5 rfl).trans ?_
  refine (sx_icmp_ge (tgt := 43) dx_137_7 (by decide)).trans ?_
  refine mj_ite ?_ ?_
  · refine (sx_aload_n dx_137_10 rfl).trans ?_
    refine (sx_iload_n dx_137_11 rfl).trans ?_
    refine (sx_v1i dx_137_12 ow_137 cx_7_94 oc_45 (Nat.le_of_ble_eq_true rfl)).trans ?_
    refine mj_bnd (fun q1 => ?_)
    refine (sx_if_eq (tgt := 37) dx_137_15 (by decide)).trans ?_
    refine mj_ite ?_ ?_
    · refine (sx_iinc (v := 1) dx_137_37 rfl rfl rfl).trans ?_
      refine (sx_goto (tgt := 4) dx_137_40 (by decide)).trans ?_
      rfl
    · refine (sx_iload_n dx_137_18 rfl).trans ?_
      refine (sx_aload_n dx_137_19 rfl).trans ?_
      refine (sx_iload_n dx_137_20 rfl).trans ?_
      refine (sx_iload_n dx_137_21 rfl).trans ?_
      refine (sx_v2i dx_137_22 ow_137 cx_7_105 oc_45 (Nat.le_of_ble_eq_true rfl)).trans ?_
      refine mj_bnd (fun q2 => ?_)
      refine (sx_aload_n dx_137_25 rfl).trans ?_
      refine (sx_gfr dx_137_26 ow_137 fx_7_19 oc_45 rb_45_3).trans ?_
      refine (sx_iload_n dx_137_29 rfl).trans ?_
      refine (sx_ild dx_137_30 (by decide) ia_49).trans ?_
      refine mj_ite ?_ rfl
      refine (sx_ixor dx_137_31).trans ?_
      refine (sx_s1i dx_137_32 ow_137 cx_7_108 (Nat.le_of_ble_eq_true rfl)).trans ?_
      refine mj_bnd (fun q3 => ?_)
      refine (sx_iadd dx_137_35).trans ?_
      refine (sx_istore_n dx_137_36 (Nat.le_of_ble_eq_true rfl) rfl).trans ?_
      refine (sx_iinc (v := 1) dx_137_37 rfl rfl rfl).trans ?_
      refine (sx_goto (tgt := 4) dx_137_40 (by decide)).trans ?_
      rfl
  · refine (sx_iload_n dx_137_43 rfl).trans ?_
    exact sx_reti dx_137_44 rt_137
theorem dx_138_0 : mj_at 138 0 = some (.aload_n 0) := by decide +kernel
theorem dx_138_1 : mj_at 138 1 = some (.iload_n 1) := by decide +kernel
theorem dx_138_2 : mj_at 138 2 = some (.invokevirtual 112) := by decide +kernel
theorem dx_138_5 : mj_at 138 5 = some (.istore_n 3) := by decide +kernel
theorem dx_138_6 : mj_at 138 6 = some (.aload_n 0) := by decide +kernel
theorem dx_138_7 : mj_at 138 7 = some (.iload_n 2) := by decide +kernel
theorem dx_138_8 : mj_at 138 8 = some (.invokevirtual 112) := by decide +kernel
theorem dx_138_11 : mj_at 138 11 = some (.istore 4) := by decide +kernel
theorem dx_138_13 : mj_at 138 13 = some (.iload_n 3) := by decide +kernel
theorem dx_138_14 : mj_at 138 14 = some (.iload 4) := by decide +kernel
theorem dx_138_16 : mj_at 138 16 = some (.if_icmp .eq 15) := by decide +kernel
theorem dx_138_19 : mj_at 138 19 = some (.iload_n 3) := by decide +kernel
theorem dx_138_20 : mj_at 138 20 = some (.iload 4) := by decide +kernel
theorem dx_138_22 : mj_at 138 22 = some (.if_icmp .ge 7) := by decide +kernel
theorem dx_138_25 : mj_at 138 25 = some (.iconst 1) := by decide +kernel
theorem dx_138_26 : mj_at 138 26 = some (.goto 4) := by decide +kernel
theorem dx_138_29 : mj_at 138 29 = some (.iconst 0) := by decide +kernel
theorem dx_138_30 : mj_at 138 30 = some (.ireturn) := by decide +kernel
theorem dx_138_31 : mj_at 138 31 = some (.aload_n 0) := by decide +kernel
theorem dx_138_32 : mj_at 138 32 = some (.getfield 7) := by decide +kernel
theorem dx_138_35 : mj_at 138 35 = some (.bipush 10) := by decide +kernel
theorem dx_138_37 : mj_at 138 37 = some (.iload_n 1) := by decide +kernel
theorem dx_138_38 : mj_at 138 38 = some (.iadd) := by decide +kernel
theorem dx_138_39 : mj_at 138 39 = some (.iaload) := by decide +kernel
theorem dx_138_40 : mj_at 138 40 = some (.aload_n 0) := by decide +kernel
theorem dx_138_41 : mj_at 138 41 = some (.getfield 7) := by decide +kernel
theorem dx_138_44 : mj_at 138 44 = some (.bipush 10) := by decide +kernel
theorem dx_138_46 : mj_at 138 46 = some (.iload_n 2) := by decide +kernel
theorem dx_138_47 : mj_at 138 47 = some (.iadd) := by decide +kernel
theorem dx_138_48 : mj_at 138 48 = some (.iaload) := by decide +kernel
theorem dx_138_49 : mj_at 138 49 = some (.if_icmp .eq 30) := by decide +kernel
theorem dx_138_52 : mj_at 138 52 = some (.aload_n 0) := by decide +kernel
theorem dx_138_53 : mj_at 138 53 = some (.getfield 7) := by decide +kernel
theorem dx_138_56 : mj_at 138 56 = some (.bipush 10) := by decide +kernel
theorem dx_138_58 : mj_at 138 58 = some (.iload_n 1) := by decide +kernel
theorem dx_138_59 : mj_at 138 59 = some (.iadd) := by decide +kernel
theorem dx_138_60 : mj_at 138 60 = some (.iaload) := by decide +kernel
theorem dx_138_61 : mj_at 138 61 = some (.aload_n 0) := by decide +kernel
theorem dx_138_62 : mj_at 138 62 = some (.getfield 7) := by decide +kernel
theorem dx_138_65 : mj_at 138 65 = some (.bipush 10) := by decide +kernel
theorem dx_138_67 : mj_at 138 67 = some (.iload_n 2) := by decide +kernel
theorem dx_138_68 : mj_at 138 68 = some (.iadd) := by decide +kernel
theorem dx_138_69 : mj_at 138 69 = some (.iaload) := by decide +kernel
theorem dx_138_70 : mj_at 138 70 = some (.if_icmp .le 7) := by decide +kernel
theorem dx_138_73 : mj_at 138 73 = some (.iconst 1) := by decide +kernel
theorem dx_138_74 : mj_at 138 74 = some (.goto 4) := by decide +kernel
theorem dx_138_77 : mj_at 138 77 = some (.iconst 0) := by decide +kernel
theorem dx_138_78 : mj_at 138 78 = some (.ireturn) := by decide +kernel
theorem dx_138_79 : mj_at 138 79 = some (.iload_n 1) := by decide +kernel
theorem dx_138_80 : mj_at 138 80 = some (.iload_n 2) := by decide +kernel
theorem dx_138_81 : mj_at 138 81 = some (.if_icmp .ge 7) := by decide +kernel
theorem dx_138_84 : mj_at 138 84 = some (.iconst 1) := by decide +kernel
theorem dx_138_85 : mj_at 138 85 = some (.goto 4) := by decide +kernel
theorem dx_138_88 : mj_at 138 88 = some (.iconst 0) := by decide +kernel
theorem dx_138_89 : mj_at 138 89 = some (.ireturn) := by decide +kernel
set_option maxRecDepth 10000 in
theorem b_X9_isAhead {sl d : Nat} {M : mj_M} {x1 : Int32} {x2 : Int32}  : mj_C sl (d + 1) 138 [.ref 45, .int x1, .int x2] M = (mj_C sl d 137 [.ref 45, .int x1] M).bind (fun q1 => (mj_C sl d 137 [.ref 45, .int x2] q1.2).bind (fun q2 => if q1.1 = q2.1 then (if mj_inB ((10 : Int32) + x1) 112 = true then (if mj_inB ((10 : Int32) + x2) 112 = true then (if q2.2 46 ((10 : Int32) + x1 : Int32).toNatClampNeg = (q2.2 46 ((10 : Int32) + x2 : Int32).toNatClampNeg) then (if x1 < x2 then (some ((1 : Int32), q2.2)) else (some ((0 : Int32), q2.2))) else (if mj_inB ((10 : Int32) + x1) 112 = true then (if mj_inB ((10 : Int32) + x2) 112 = true then (if q2.2 46 ((10 : Int32) + x1 : Int32).toNatClampNeg ≤ (q2.2 46 ((10 : Int32) + x2 : Int32).toNatClampNeg) then (some ((0 : Int32), q2.2)) else (some ((1 : Int32), q2.2))) else none) else none)) else none) else none) else (if q1.1 < q2.1 then (some ((1 : Int32), q2.2)) else (some ((0 : Int32), q2.2))))) := by
  show mj_E sl (d + 1) 138 0 [.ref 45, .int x1, .int x2, .null, .null] [] M = _
  refine (sx_aload_n dx_138_0 rfl).trans ?_
  refine (sx_iload_n dx_138_1 rfl).trans ?_
  refine (sx_v1i dx_138_2 ow_138 cx_7_112 oc_45 (Nat.le_of_ble_eq_true rfl)).trans ?_
  refine mj_bnd (fun q1 => ?_)
  refine (sx_istore_n dx_138_5 (Nat.le_of_ble_eq_true rfl) rfl).trans ?_
  refine (sx_aload_n dx_138_6 rfl).trans ?_
  refine (sx_iload_n dx_138_7 rfl).trans ?_
  refine (sx_v1i dx_138_8 ow_138 cx_7_112 oc_45 (Nat.le_of_ble_eq_true rfl)).trans ?_
  refine mj_bnd (fun q2 => ?_)
  refine (sx_istore dx_138_11 (Nat.le_of_ble_eq_true rfl) rfl).trans ?_
  refine (sx_iload_n dx_138_13 rfl).trans ?_
  refine (sx_iload dx_138_14 rfl).trans ?_
  refine (sx_icmp_eq (tgt := 31) dx_138_16 (by decide)).trans ?_
  refine mj_ite ?_ ?_
  · refine (sx_aload_n dx_138_31 rfl).trans ?_
    refine (sx_gfr dx_138_32 ow_138 fx_7_7 oc_45 rb_45_0).trans ?_
    refine (sx_bipush (v := 10) dx_138_35 rfl).trans ?_
    refine (sx_iload_n dx_138_37 rfl).trans ?_
    refine (sx_iadd dx_138_38).trans ?_
    refine (sx_ild dx_138_39 (by decide) ia_46).trans ?_
    refine mj_ite ?_ rfl
    refine (sx_aload_n dx_138_40 rfl).trans ?_
    refine (sx_gfr dx_138_41 ow_138 fx_7_7 oc_45 rb_45_0).trans ?_
    refine (sx_bipush (v := 10) dx_138_44 rfl).trans ?_
    refine (sx_iload_n dx_138_46 rfl).trans ?_
    refine (sx_iadd dx_138_47).trans ?_
    refine (sx_ild dx_138_48 (by decide) ia_46).trans ?_
    refine mj_ite ?_ rfl
    refine (sx_icmp_eq (tgt := 79) dx_138_49 (by decide)).trans ?_
    refine mj_ite ?_ ?_
    · refine (sx_iload_n dx_138_79 rfl).trans ?_
      refine (sx_iload_n dx_138_80 rfl).trans ?_
      refine (sx_icmp_ge (tgt := 88) dx_138_81 (by decide)).trans ?_
      refine mj_ite ?_ ?_
      · refine (sx_iconst (v := 1) dx_138_84 rfl).trans ?_
        refine (sx_goto (tgt := 89) dx_138_85 (by decide)).trans ?_
        exact sx_retz dx_138_89 rt_138 (by decide)
      · refine (sx_iconst (v := 0) dx_138_88 rfl).trans ?_
        exact sx_retz dx_138_89 rt_138 (by decide)
    · refine (sx_aload_n dx_138_52 rfl).trans ?_
      refine (sx_gfr dx_138_53 ow_138 fx_7_7 oc_45 rb_45_0).trans ?_
      refine (sx_bipush (v := 10) dx_138_56 rfl).trans ?_
      refine (sx_iload_n dx_138_58 rfl).trans ?_
      refine (sx_iadd dx_138_59).trans ?_
      refine (sx_ild dx_138_60 (by decide) ia_46).trans ?_
      refine mj_ite ?_ rfl
      refine (sx_aload_n dx_138_61 rfl).trans ?_
      refine (sx_gfr dx_138_62 ow_138 fx_7_7 oc_45 rb_45_0).trans ?_
      refine (sx_bipush (v := 10) dx_138_65 rfl).trans ?_
      refine (sx_iload_n dx_138_67 rfl).trans ?_
      refine (sx_iadd dx_138_68).trans ?_
      refine (sx_ild dx_138_69 (by decide) ia_46).trans ?_
      refine mj_ite ?_ rfl
      refine (sx_icmp_le (tgt := 77) dx_138_70 (by decide)).trans ?_
      refine mj_ite ?_ ?_
      · refine (sx_iconst (v := 0) dx_138_77 rfl).trans ?_
        exact sx_retz dx_138_78 rt_138 (by decide)
      · refine (sx_iconst (v := 1) dx_138_73 rfl).trans ?_
        refine (sx_goto (tgt := 78) dx_138_74 (by decide)).trans ?_
        exact sx_retz dx_138_78 rt_138 (by decide)
  · refine (sx_iload_n dx_138_19 rfl).trans ?_
    refine (sx_iload dx_138_20 rfl).trans ?_
    refine (sx_icmp_ge (tgt := 29) dx_138_22 (by decide)).trans ?_
    refine mj_ite ?_ ?_
    · refine (sx_iconst (v := 1) dx_138_25 rfl).trans ?_
      refine (sx_goto (tgt := 30) dx_138_26 (by decide)).trans ?_
      exact sx_retz dx_138_30 rt_138 (by decide)
    · refine (sx_iconst (v := 0) dx_138_29 rfl).trans ?_
      exact sx_retz dx_138_30 rt_138 (by decide)
theorem dx_139_0 : mj_at 139 0 = some (.iconst 0) := by decide +kernel
theorem dx_139_1 : mj_at 139 1 = some (.istore_n 2) := by decide +kernel
theorem dx_139_2 : mj_at 139 2 = some (.iconst 0) := by decide +kernel
theorem dx_139_3 : mj_at 139 3 = some (.istore_n 3) := by decide +kernel
theorem dx_139_4 : mj_at 139 4 = some (.iload_n 3) := by decide +kernel
theorem dx_139_5 : mj_at 139 5 = some (.bipush 10) := by decide +kernel
theorem dx_139_7 : mj_at 139 7 = some (.if_icmp .ge 35) := by decide +kernel
theorem dx_139_10 : mj_at 139 10 = some (.iload_n 3) := by decide +kernel
theorem dx_139_11 : mj_at 139 11 = some (.iload_n 1) := by decide +kernel
theorem dx_139_12 : mj_at 139 12 = some (.if_icmp .eq 24) := by decide +kernel
theorem dx_139_15 : mj_at 139 15 = some (.aload_n 0) := by decide +kernel
theorem dx_139_16 : mj_at 139 16 = some (.iload_n 3) := by decide +kernel
theorem dx_139_17 : mj_at 139 17 = some (.invokevirtual 98) := by decide +kernel
theorem dx_139_20 : mj_at 139 20 = some (.ifCond .eq 16) := by decide +kernel
theorem dx_139_23 : mj_at 139 23 = some (.aload_n 0) := by decide +kernel
theorem dx_139_24 : mj_at 139 24 = some (.iload_n 3) := by decide +kernel
theorem dx_139_25 : mj_at 139 25 = some (.iload_n 1) := by decide +kernel
theorem dx_139_26 : mj_at 139 26 = some (.invokevirtual 115) := by decide +kernel
theorem dx_139_29 : mj_at 139 29 = some (.ifCond .eq 7) := by decide +kernel
theorem dx_139_32 : mj_at 139 32 = some (.iload_n 2) := by decide +kernel
theorem dx_139_33 : mj_at 139 33 = some (.iconst 1) := by decide +kernel
theorem dx_139_34 : mj_at 139 34 = some (.iadd) := by decide +kernel
theorem dx_139_35 : mj_at 139 35 = some (.istore_n 2) := by decide +kernel
theorem dx_139_36 : mj_at 139 36 = some (.iinc 3 1) := by decide +kernel
theorem dx_139_39 : mj_at 139 39 = some (.goto (-35)) := by decide +kernel
theorem dx_139_42 : mj_at 139 42 = some (.iload_n 2) := by decide +kernel
theorem dx_139_43 : mj_at 139 43 = some (.ireturn) := by decide +kernel
set_option maxRecDepth 10000 in
theorem b_X9_rankOf {sl d : Nat} {M : mj_M} {x1 : Int32}  : mj_C sl (d + 1) 139 [.ref 45, .int x1] M = mj_E sl (d + 1) 139 4 [.ref 45, .int x1, .int 0, .int 0] [] M := by
  show mj_E sl (d + 1) 139 0 [.ref 45, .int x1, .null, .null] [] M = _
  refine (sx_iconst (v := 0) dx_139_0 rfl).trans ?_
  refine (sx_istore_n dx_139_1 (Nat.le_of_ble_eq_true rfl) rfl).trans ?_
  refine (sx_iconst (v := 0) dx_139_2 rfl).trans ?_
  refine (sx_istore_n dx_139_3 (Nat.le_of_ble_eq_true rfl) rfl).trans ?_
  rfl
set_option maxRecDepth 10000 in
theorem b_X9_rankOf_4 {sl d : Nat} {M : mj_M} {y1 : Int32} {y2 : Int32} {y3 : Int32}  : mj_E sl (d + 1) 139 4 [.ref 45, .int y1, .int y2, .int y3] [] M = if y3 < 10 then (if y3 = y1 then (mj_E sl (d + 1) 139 4 [.ref 45, .int y1, .int y2, .int (y3 + 1)] [] M) else ((mj_C sl d 132 [.ref 45, .int y3] M).bind (fun q1 => if q1.1 = 0 then (mj_E sl (d + 1) 139 4 [.ref 45, .int y1, .int y2, .int (y3 + 1)] [] q1.2) else ((mj_C sl d 138 [.ref 45, .int y3, .int y1] q1.2).bind (fun q2 => if q2.1 = 0 then (mj_E sl (d + 1) 139 4 [.ref 45, .int y1, .int y2, .int (y3 + 1)] [] q2.2) else (mj_E sl (d + 1) 139 4 [.ref 45, .int y1, .int (y2 + 1), .int (y3 + 1)] [] q2.2)))))) else (some ((y2 : Int32), M)) := by
  refine (sx_iload_n dx_139_4 rfl).trans ?_
  refine (sx_bipush (v := 10) dx_139_5 rfl).trans ?_
  refine (sx_icmp_ge (tgt := 42) dx_139_7 (by decide)).trans ?_
  refine mj_ite ?_ ?_
  · refine (sx_iload_n dx_139_10 rfl).trans ?_
    refine (sx_iload_n dx_139_11 rfl).trans ?_
    refine (sx_icmp_eq (tgt := 36) dx_139_12 (by decide)).trans ?_
    refine mj_ite ?_ ?_
    · refine (sx_iinc (v := 1) dx_139_36 rfl rfl rfl).trans ?_
      refine (sx_goto (tgt := 4) dx_139_39 (by decide)).trans ?_
      rfl
    · refine (sx_aload_n dx_139_15 rfl).trans ?_
      refine (sx_iload_n dx_139_16 rfl).trans ?_
      refine (sx_v1i dx_139_17 ow_139 cx_7_98 oc_45 (Nat.le_of_ble_eq_true rfl)).trans ?_
      refine mj_bnd (fun q1 => ?_)
      refine (sx_if_eq (tgt := 36) dx_139_20 (by decide)).trans ?_
      refine mj_ite ?_ ?_
      · refine (sx_iinc (v := 1) dx_139_36 rfl rfl rfl).trans ?_
        refine (sx_goto (tgt := 4) dx_139_39 (by decide)).trans ?_
        rfl
      · refine (sx_aload_n dx_139_23 rfl).trans ?_
        refine (sx_iload_n dx_139_24 rfl).trans ?_
        refine (sx_iload_n dx_139_25 rfl).trans ?_
        refine (sx_v2i dx_139_26 ow_139 cx_7_115 oc_45 (Nat.le_of_ble_eq_true rfl)).trans ?_
        refine mj_bnd (fun q2 => ?_)
        refine (sx_if_eq (tgt := 36) dx_139_29 (by decide)).trans ?_
        refine mj_ite ?_ ?_
        · refine (sx_iinc (v := 1) dx_139_36 rfl rfl rfl).trans ?_
          refine (sx_goto (tgt := 4) dx_139_39 (by decide)).trans ?_
          rfl
        · refine (sx_iload_n dx_139_32 rfl).trans ?_
          refine (sx_iconst (v := 1) dx_139_33 rfl).trans ?_
          refine (sx_iadd dx_139_34).trans ?_
          refine (sx_istore_n dx_139_35 (Nat.le_of_ble_eq_true rfl) rfl).trans ?_
          refine (sx_iinc (v := 1) dx_139_36 rfl rfl rfl).trans ?_
          refine (sx_goto (tgt := 4) dx_139_39 (by decide)).trans ?_
          rfl
  · refine (sx_iload_n dx_139_42 rfl).trans ?_
    exact sx_reti dx_139_43 rt_139
theorem dx_140_0 : mj_at 140 0 = some (.bipush (-2)) := by decide +kernel
theorem dx_140_2 : mj_at 140 2 = some (.istore_n 2) := by decide +kernel
theorem dx_140_3 : mj_at 140 3 = some (.ldc 119) := by decide +kernel
theorem dx_140_5 : mj_at 140 5 = some (.istore_n 3) := by decide +kernel
theorem dx_140_6 : mj_at 140 6 = some (.iconst 0) := by decide +kernel
theorem dx_140_7 : mj_at 140 7 = some (.istore 4) := by decide +kernel
theorem dx_140_9 : mj_at 140 9 = some (.iload 4) := by decide +kernel
theorem dx_140_11 : mj_at 140 11 = some (.bipush 8) := by decide +kernel
theorem dx_140_13 : mj_at 140 13 = some (.if_icmp .ge 61) := by decide +kernel
theorem dx_140_16 : mj_at 140 16 = some (.aload_n 0) := by decide +kernel
theorem dx_140_17 : mj_at 140 17 = some (.iload 4) := by decide +kernel
theorem dx_140_19 : mj_at 140 19 = some (.invokevirtual 94) := by decide +kernel
theorem dx_140_22 : mj_at 140 22 = some (.ifCond .ne 6) := by decide +kernel
theorem dx_140_25 : mj_at 140 25 = some (.goto 43) := by decide +kernel
theorem dx_140_28 : mj_at 140 28 = some (.iload_n 1) := by decide +kernel
theorem dx_140_29 : mj_at 140 29 = some (.aload_n 0) := by decide +kernel
theorem dx_140_30 : mj_at 140 30 = some (.getfield 19) := by decide +kernel
theorem dx_140_33 : mj_at 140 33 = some (.iload 4) := by decide +kernel
theorem dx_140_35 : mj_at 140 35 = some (.iaload) := by decide +kernel
theorem dx_140_36 : mj_at 140 36 = some (.ixor) := by decide +kernel
theorem dx_140_37 : mj_at 140 37 = some (.invokestatic 108) := by decide +kernel
theorem dx_140_40 : mj_at 140 40 = some (.istore 5) := by decide +kernel
theorem dx_140_42 : mj_at 140 42 = some (.iload 5) := by decide +kernel
theorem dx_140_44 : mj_at 140 44 = some (.iload_n 3) := by decide +kernel
theorem dx_140_45 : mj_at 140 45 = some (.if_icmp .le 6) := by decide +kernel
theorem dx_140_48 : mj_at 140 48 = some (.goto 20) := by decide +kernel
theorem dx_140_51 : mj_at 140 51 = some (.iload 5) := by decide +kernel
theorem dx_140_53 : mj_at 140 53 = some (.iload_n 3) := by decide +kernel
theorem dx_140_54 : mj_at 140 54 = some (.if_icmp .ne 8) := by decide +kernel
theorem dx_140_57 : mj_at 140 57 = some (.bipush (-2)) := by decide +kernel
theorem dx_140_59 : mj_at 140 59 = some (.goto 5) := by decide +kernel
theorem dx_140_62 : mj_at 140 62 = some (.iload 4) := by decide +kernel
theorem dx_140_64 : mj_at 140 64 = some (.istore_n 2) := by decide +kernel
theorem dx_140_65 : mj_at 140 65 = some (.iload 5) := by decide +kernel
theorem dx_140_67 : mj_at 140 67 = some (.istore_n 3) := by decide +kernel
theorem dx_140_68 : mj_at 140 68 = some (.iinc 4 1) := by decide +kernel
theorem dx_140_71 : mj_at 140 71 = some (.goto (-62)) := by decide +kernel
theorem dx_140_74 : mj_at 140 74 = some (.iload_n 2) := by decide +kernel
theorem dx_140_75 : mj_at 140 75 = some (.ireturn) := by decide +kernel
set_option maxRecDepth 10000 in
theorem b_X9_readsAs {sl d : Nat} {M : mj_M} {x1 : Int32}  : mj_C sl (d + 1) 140 [.ref 45, .int x1] M = mj_E sl (d + 1) 140 9 [.ref 45, .int x1, .int (-2), .int 1000000, .int 0, .null] [] M := by
  show mj_E sl (d + 1) 140 0 [.ref 45, .int x1, .null, .null, .null, .null] [] M = _
  refine (sx_bipush (v := (-2)) dx_140_0 rfl).trans ?_
  refine (sx_istore_n dx_140_2 (Nat.le_of_ble_eq_true rfl) rfl).trans ?_
  refine (sx_ldc (v := 1000000) dx_140_3 ow_140 kx_7_119).trans ?_
  refine (sx_istore_n dx_140_5 (Nat.le_of_ble_eq_true rfl) rfl).trans ?_
  refine (sx_iconst (v := 0) dx_140_6 rfl).trans ?_
  refine (sx_istore dx_140_7 (Nat.le_of_ble_eq_true rfl) rfl).trans ?_
  rfl
set_option maxRecDepth 10000 in
theorem b_X9_readsAs_9 {sl d : Nat} {M : mj_M} {y1 : Int32} {y2 : Int32} {y3 : Int32} {y4 : Int32} {w5 : Value}  : mj_E sl (d + 1) 140 9 [.ref 45, .int y1, .int y2, .int y3, .int y4, w5] [] M = if y4 < 8 then ((mj_C sl d 131 [.ref 45, .int y4] M).bind (fun q1 => if q1.1 = 0 then (mj_E sl (d + 1) 140 9 [.ref 45, .int y1, .int y2, .int y3, .int (y4 + 1), w5] [] q1.2) else (if mj_inB y4 8 = true then ((mj_C sl d 128 [.int (y1 ^^^ (q1.2 49 (y4 : Int32).toNatClampNeg))] q1.2).bind (fun q2 => if q2.1 ≤ y3 then (if q2.1 = y3 then (mj_E sl (d + 1) 140 9 [.ref 45, .int y1, .int (-2), .int q2.1, .int (y4 + 1), .int q2.1] [] q2.2) else (mj_E sl (d + 1) 140 9 [.ref 45, .int y1, .int y4, .int q2.1, .int (y4 + 1), .int q2.1] [] q2.2)) else (mj_E sl (d + 1) 140 9 [.ref 45, .int y1, .int y2, .int y3, .int (y4 + 1), .int q2.1] [] q2.2))) else none))) else (some ((y2 : Int32), M)) := by
  refine (sx_iload dx_140_9 rfl).trans ?_
  refine (sx_bipush (v := 8) dx_140_11 rfl).trans ?_
  refine (sx_icmp_ge (tgt := 74) dx_140_13 (by decide)).trans ?_
  refine mj_ite ?_ ?_
  · refine (sx_aload_n dx_140_16 rfl).trans ?_
    refine (sx_iload dx_140_17 rfl).trans ?_
    refine (sx_v1i dx_140_19 ow_140 cx_7_94 oc_45 (Nat.le_of_ble_eq_true rfl)).trans ?_
    refine mj_bnd (fun q1 => ?_)
    refine (sx_if_ne (tgt := 28) dx_140_22 (by decide)).trans ?_
    refine mj_ite ?_ ?_
    · refine (sx_goto (tgt := 68) dx_140_25 (by decide)).trans ?_
      refine (sx_iinc (v := 1) dx_140_68 rfl rfl rfl).trans ?_
      refine (sx_goto (tgt := 9) dx_140_71 (by decide)).trans ?_
      rfl
    · refine (sx_iload_n dx_140_28 rfl).trans ?_
      refine (sx_aload_n dx_140_29 rfl).trans ?_
      refine (sx_gfr dx_140_30 ow_140 fx_7_19 oc_45 rb_45_3).trans ?_
      refine (sx_iload dx_140_33 rfl).trans ?_
      refine (sx_ild dx_140_35 (by decide) ia_49).trans ?_
      refine mj_ite ?_ rfl
      refine (sx_ixor dx_140_36).trans ?_
      refine (sx_s1i dx_140_37 ow_140 cx_7_108 (Nat.le_of_ble_eq_true rfl)).trans ?_
      refine mj_bnd (fun q2 => ?_)
      refine (sx_istore dx_140_40 (Nat.le_of_ble_eq_true rfl) rfl).trans ?_
      refine (sx_iload dx_140_42 rfl).trans ?_
      refine (sx_iload_n dx_140_44 rfl).trans ?_
      refine (sx_icmp_le (tgt := 51) dx_140_45 (by decide)).trans ?_
      refine mj_ite ?_ ?_
      · refine (sx_iload dx_140_51 rfl).trans ?_
        refine (sx_iload_n dx_140_53 rfl).trans ?_
        refine (sx_icmp_ne (tgt := 62) dx_140_54 (by decide)).trans ?_
        refine mj_ite ?_ ?_
        · refine (sx_bipush (v := (-2)) dx_140_57 rfl).trans ?_
          refine (sx_goto (tgt := 64) dx_140_59 (by decide)).trans ?_
          refine (sx_istore_n dx_140_64 (Nat.le_of_ble_eq_true rfl) rfl).trans ?_
          refine (sx_iload dx_140_65 rfl).trans ?_
          refine (sx_istore_n dx_140_67 (Nat.le_of_ble_eq_true rfl) rfl).trans ?_
          refine (sx_iinc (v := 1) dx_140_68 rfl rfl rfl).trans ?_
          refine (sx_goto (tgt := 9) dx_140_71 (by decide)).trans ?_
          rfl
        · refine (sx_iload dx_140_62 rfl).trans ?_
          refine (sx_istore_n dx_140_64 (Nat.le_of_ble_eq_true rfl) rfl).trans ?_
          refine (sx_iload dx_140_65 rfl).trans ?_
          refine (sx_istore_n dx_140_67 (Nat.le_of_ble_eq_true rfl) rfl).trans ?_
          refine (sx_iinc (v := 1) dx_140_68 rfl rfl rfl).trans ?_
          refine (sx_goto (tgt := 9) dx_140_71 (by decide)).trans ?_
          rfl
      · refine (sx_goto (tgt := 68) dx_140_48 (by decide)).trans ?_
        refine (sx_iinc (v := 1) dx_140_68 rfl rfl rfl).trans ?_
        refine (sx_goto (tgt := 9) dx_140_71 (by decide)).trans ?_
        rfl
  · refine (sx_iload_n dx_140_74 rfl).trans ?_
    exact sx_reti dx_140_75 rt_140
theorem dx_141_0 : mj_at 141 0 = some (.iload_n 1) := by decide +kernel
theorem dx_141_1 : mj_at 141 1 = some (.iconst 0) := by decide +kernel
theorem dx_141_2 : mj_at 141 2 = some (.bipush 7) := by decide +kernel
theorem dx_141_4 : mj_at 141 4 = some (.invokestatic 90) := by decide +kernel
theorem dx_141_7 : mj_at 141 7 = some (.ifCond .eq 10) := by decide +kernel
theorem dx_141_10 : mj_at 141 10 = some (.iload_n 2) := by decide +kernel
theorem dx_141_11 : mj_at 141 11 = some (.invokestatic 120) := by decide +kernel
theorem dx_141_14 : mj_at 141 14 = some (.ifCond .ne 5) := by decide +kernel
theorem dx_141_17 : mj_at 141 17 = some (.iconst 0) := by decide +kernel
theorem dx_141_18 : mj_at 141 18 = some (.ireturn) := by decide +kernel
theorem dx_141_19 : mj_at 141 19 = some (.aload_n 0) := by decide +kernel
theorem dx_141_20 : mj_at 141 20 = some (.getfield 19) := by decide +kernel
theorem dx_141_23 : mj_at 141 23 = some (.iload_n 1) := by decide +kernel
theorem dx_141_24 : mj_at 141 24 = some (.iload_n 2) := by decide +kernel
theorem dx_141_25 : mj_at 141 25 = some (.iastore) := by decide +kernel
theorem dx_141_26 : mj_at 141 26 = some (.iconst 1) := by decide +kernel
theorem dx_141_27 : mj_at 141 27 = some (.ireturn) := by decide +kernel
set_option maxRecDepth 10000 in
theorem b_X9_model {sl d : Nat} {M : mj_M} {x1 : Int32} {x2 : Int32}  : mj_C sl (d + 1) 141 [.ref 45, .int x1, .int x2] M = (mj_C sl d 124 [.int x1, .int 0, .int 7] M).bind (fun q1 => if q1.1 = 0 then (some ((0 : Int32), q1.2)) else ((mj_C sl d 130 [.int x2] q1.2).bind (fun q2 => if q2.1 = 0 then (some ((0 : Int32), q2.2)) else (if mj_inB x1 8 = true then (some ((1 : Int32), mj_st q2.2 49 (x1 : Int32).toNatClampNeg x2)) else none)))) := by
  show mj_E sl (d + 1) 141 0 [.ref 45, .int x1, .int x2] [] M = _
  refine (sx_iload_n dx_141_0 rfl).trans ?_
  refine (sx_iconst (v := 0) dx_141_1 rfl).trans ?_
  refine (sx_bipush (v := 7) dx_141_2 rfl).trans ?_
  refine (sx_s3i dx_141_4 ow_141 cx_7_90 (Nat.le_of_ble_eq_true rfl)).trans ?_
  refine mj_bnd (fun q1 => ?_)
  refine (sx_if_eq (tgt := 17) dx_141_7 (by decide)).trans ?_
  refine mj_ite ?_ ?_
  · refine (sx_iconst (v := 0) dx_141_17 rfl).trans ?_
    exact sx_retz dx_141_18 rt_141 (by decide)
  · refine (sx_iload_n dx_141_10 rfl).trans ?_
    refine (sx_s1i dx_141_11 ow_141 cx_7_120 (Nat.le_of_ble_eq_true rfl)).trans ?_
    refine mj_bnd (fun q2 => ?_)
    refine (sx_if_ne (tgt := 19) dx_141_14 (by decide)).trans ?_
    refine mj_ite ?_ ?_
    · refine (sx_iconst (v := 0) dx_141_17 rfl).trans ?_
      exact sx_retz dx_141_18 rt_141 (by decide)
    · refine (sx_aload_n dx_141_19 rfl).trans ?_
      refine (sx_gfr dx_141_20 ow_141 fx_7_19 oc_45 rb_45_3).trans ?_
      refine (sx_iload_n dx_141_23 rfl).trans ?_
      refine (sx_iload_n dx_141_24 rfl).trans ?_
      refine (sx_ist dx_141_25 ia_49).trans ?_
      refine mj_ite ?_ rfl
      refine (sx_iconst (v := 1) dx_141_26 rfl).trans ?_
      exact sx_retz dx_141_27 rt_141 (by decide)
theorem dx_142_0 : mj_at 142 0 = some (.iload_n 1) := by decide +kernel
theorem dx_142_1 : mj_at 142 1 = some (.iconst 0) := by decide +kernel
theorem dx_142_2 : mj_at 142 2 = some (.bipush 9) := by decide +kernel
theorem dx_142_4 : mj_at 142 4 = some (.invokestatic 90) := by decide +kernel
theorem dx_142_7 : mj_at 142 7 = some (.ifCond .eq 24) := by decide +kernel
theorem dx_142_10 : mj_at 142 10 = some (.iload_n 2) := by decide +kernel
theorem dx_142_11 : mj_at 142 11 = some (.iconst 0) := by decide +kernel
theorem dx_142_12 : mj_at 142 12 = some (.bipush 99) := by decide +kernel
theorem dx_142_14 : mj_at 142 14 = some (.invokestatic 90) := by decide +kernel
theorem dx_142_17 : mj_at 142 17 = some (.ifCond .eq 14) := by decide +kernel
theorem dx_142_20 : mj_at 142 20 = some (.iload_n 3) := by decide +kernel
theorem dx_142_21 : mj_at 142 21 = some (.iconst 0) := by decide +kernel
theorem dx_142_22 : mj_at 142 22 = some (.sipush 9999) := by decide +kernel
theorem dx_142_25 : mj_at 142 25 = some (.invokestatic 90) := by decide +kernel
theorem dx_142_28 : mj_at 142 28 = some (.ifCond .ne 5) := by decide +kernel
theorem dx_142_31 : mj_at 142 31 = some (.iconst 0) := by decide +kernel
theorem dx_142_32 : mj_at 142 32 = some (.ireturn) := by decide +kernel
theorem dx_142_33 : mj_at 142 33 = some (.aload_n 0) := by decide +kernel
theorem dx_142_34 : mj_at 142 34 = some (.getfield 7) := by decide +kernel
theorem dx_142_37 : mj_at 142 37 = some (.iconst 0) := by decide +kernel
theorem dx_142_38 : mj_at 142 38 = some (.iload_n 1) := by decide +kernel
theorem dx_142_39 : mj_at 142 39 = some (.iadd) := by decide +kernel
theorem dx_142_40 : mj_at 142 40 = some (.iconst 1) := by decide +kernel
theorem dx_142_41 : mj_at 142 41 = some (.iastore) := by decide +kernel
theorem dx_142_42 : mj_at 142 42 = some (.aload_n 0) := by decide +kernel
theorem dx_142_43 : mj_at 142 43 = some (.getfield 7) := by decide +kernel
theorem dx_142_46 : mj_at 142 46 = some (.bipush 10) := by decide +kernel
theorem dx_142_48 : mj_at 142 48 = some (.iload_n 1) := by decide +kernel
theorem dx_142_49 : mj_at 142 49 = some (.iadd) := by decide +kernel
theorem dx_142_50 : mj_at 142 50 = some (.iload_n 2) := by decide +kernel
theorem dx_142_51 : mj_at 142 51 = some (.iastore) := by decide +kernel
theorem dx_142_52 : mj_at 142 52 = some (.aload_n 0) := by decide +kernel
theorem dx_142_53 : mj_at 142 53 = some (.getfield 7) := by decide +kernel
theorem dx_142_56 : mj_at 142 56 = some (.bipush 20) := by decide +kernel
theorem dx_142_58 : mj_at 142 58 = some (.iload_n 1) := by decide +kernel
theorem dx_142_59 : mj_at 142 59 = some (.iadd) := by decide +kernel
theorem dx_142_60 : mj_at 142 60 = some (.iload_n 3) := by decide +kernel
theorem dx_142_61 : mj_at 142 61 = some (.iastore) := by decide +kernel
theorem dx_142_62 : mj_at 142 62 = some (.iconst 0) := by decide +kernel
theorem dx_142_63 : mj_at 142 63 = some (.istore 4) := by decide +kernel
theorem dx_142_65 : mj_at 142 65 = some (.iload 4) := by decide +kernel
theorem dx_142_67 : mj_at 142 67 = some (.bipush 8) := by decide +kernel
theorem dx_142_69 : mj_at 142 69 = some (.if_icmp .ge 21) := by decide +kernel
theorem dx_142_72 : mj_at 142 72 = some (.aload_n 0) := by decide +kernel
theorem dx_142_73 : mj_at 142 73 = some (.getfield 7) := by decide +kernel
theorem dx_142_76 : mj_at 142 76 = some (.iload_n 1) := by decide +kernel
theorem dx_142_77 : mj_at 142 77 = some (.iload 4) := by decide +kernel
theorem dx_142_79 : mj_at 142 79 = some (.invokestatic 101) := by decide +kernel
theorem dx_142_82 : mj_at 142 82 = some (.iconst (-1)) := by decide +kernel
theorem dx_142_83 : mj_at 142 83 = some (.iastore) := by decide +kernel
theorem dx_142_84 : mj_at 142 84 = some (.iinc 4 1) := by decide +kernel
theorem dx_142_87 : mj_at 142 87 = some (.goto (-22)) := by decide +kernel
theorem dx_142_90 : mj_at 142 90 = some (.iconst 1) := by decide +kernel
theorem dx_142_91 : mj_at 142 91 = some (.ireturn) := by decide +kernel
set_option maxRecDepth 10000 in
theorem b_X9_courtier {sl d : Nat} {M : mj_M} {x1 : Int32} {x2 : Int32} {x3 : Int32}  : mj_C sl (d + 1) 142 [.ref 45, .int x1, .int x2, .int x3] M = (mj_C sl d 124 [.int x1, .int 0, .int 9] M).bind (fun q1 => if q1.1 = 0 then (some ((0 : Int32), q1.2)) else ((mj_C sl d 124 [.int x2, .int 0, .int 99] q1.2).bind (fun q2 => if q2.1 = 0 then (some ((0 : Int32), q2.2)) else ((mj_C sl d 124 [.int x3, .int 0, .int 9999] q2.2).bind (fun q3 => if q3.1 = 0 then (some ((0 : Int32), q3.2)) else (if mj_inB ((0 : Int32) + x1) 112 = true then (if mj_inB ((10 : Int32) + x1) 112 = true then (if mj_inB ((20 : Int32) + x1) 112 = true then (mj_E sl (d + 1) 142 65 [.ref 45, .int x1, .int x2, .int x3, .int 0] [] (mj_st (mj_st (mj_st q3.2 46 ((0 : Int32) + x1 : Int32).toNatClampNeg 1) 46 ((10 : Int32) + x1 : Int32).toNatClampNeg x2) 46 ((20 : Int32) + x1 : Int32).toNatClampNeg x3)) else none) else none) else none)))))) := by
  show mj_E sl (d + 1) 142 0 [.ref 45, .int x1, .int x2, .int x3, .null] [] M = _
  refine (sx_iload_n dx_142_0 rfl).trans ?_
  refine (sx_iconst (v := 0) dx_142_1 rfl).trans ?_
  refine (sx_bipush (v := 9) dx_142_2 rfl).trans ?_
  refine (sx_s3i dx_142_4 ow_142 cx_7_90 (Nat.le_of_ble_eq_true rfl)).trans ?_
  refine mj_bnd (fun q1 => ?_)
  refine (sx_if_eq (tgt := 31) dx_142_7 (by decide)).trans ?_
  refine mj_ite ?_ ?_
  · refine (sx_iconst (v := 0) dx_142_31 rfl).trans ?_
    exact sx_retz dx_142_32 rt_142 (by decide)
  · refine (sx_iload_n dx_142_10 rfl).trans ?_
    refine (sx_iconst (v := 0) dx_142_11 rfl).trans ?_
    refine (sx_bipush (v := 99) dx_142_12 rfl).trans ?_
    refine (sx_s3i dx_142_14 ow_142 cx_7_90 (Nat.le_of_ble_eq_true rfl)).trans ?_
    refine mj_bnd (fun q2 => ?_)
    refine (sx_if_eq (tgt := 31) dx_142_17 (by decide)).trans ?_
    refine mj_ite ?_ ?_
    · refine (sx_iconst (v := 0) dx_142_31 rfl).trans ?_
      exact sx_retz dx_142_32 rt_142 (by decide)
    · refine (sx_iload_n dx_142_20 rfl).trans ?_
      refine (sx_iconst (v := 0) dx_142_21 rfl).trans ?_
      refine (sx_sipush (v := 9999) dx_142_22 rfl).trans ?_
      refine (sx_s3i dx_142_25 ow_142 cx_7_90 (Nat.le_of_ble_eq_true rfl)).trans ?_
      refine mj_bnd (fun q3 => ?_)
      refine (sx_if_ne (tgt := 33) dx_142_28 (by decide)).trans ?_
      refine mj_ite ?_ ?_
      · refine (sx_iconst (v := 0) dx_142_31 rfl).trans ?_
        exact sx_retz dx_142_32 rt_142 (by decide)
      · refine (sx_aload_n dx_142_33 rfl).trans ?_
        refine (sx_gfr dx_142_34 ow_142 fx_7_7 oc_45 rb_45_0).trans ?_
        refine (sx_iconst (v := 0) dx_142_37 rfl).trans ?_
        refine (sx_iload_n dx_142_38 rfl).trans ?_
        refine (sx_iadd dx_142_39).trans ?_
        refine (sx_iconst (v := 1) dx_142_40 rfl).trans ?_
        refine (sx_ist dx_142_41 ia_46).trans ?_
        refine mj_ite ?_ rfl
        refine (sx_aload_n dx_142_42 rfl).trans ?_
        refine (sx_gfr dx_142_43 ow_142 fx_7_7 oc_45 rb_45_0).trans ?_
        refine (sx_bipush (v := 10) dx_142_46 rfl).trans ?_
        refine (sx_iload_n dx_142_48 rfl).trans ?_
        refine (sx_iadd dx_142_49).trans ?_
        refine (sx_iload_n dx_142_50 rfl).trans ?_
        refine (sx_ist dx_142_51 ia_46).trans ?_
        refine mj_ite ?_ rfl
        refine (sx_aload_n dx_142_52 rfl).trans ?_
        refine (sx_gfr dx_142_53 ow_142 fx_7_7 oc_45 rb_45_0).trans ?_
        refine (sx_bipush (v := 20) dx_142_56 rfl).trans ?_
        refine (sx_iload_n dx_142_58 rfl).trans ?_
        refine (sx_iadd dx_142_59).trans ?_
        refine (sx_iload_n dx_142_60 rfl).trans ?_
        refine (sx_ist dx_142_61 ia_46).trans ?_
        refine mj_ite ?_ rfl
        refine (sx_iconst (v := 0) dx_142_62 rfl).trans ?_
        refine (sx_istore dx_142_63 (Nat.le_of_ble_eq_true rfl) rfl).trans ?_
        rfl
set_option maxRecDepth 10000 in
theorem b_X9_courtier_65 {sl d : Nat} {M : mj_M} {y1 : Int32} {w2 : Value} {w3 : Value} {y4 : Int32}  : mj_E sl (d + 1) 142 65 [.ref 45, .int y1, w2, w3, .int y4] [] M = if y4 < 8 then ((mj_C sl d 135 [.int y1, .int y4] M).bind (fun q1 => if mj_inB q1.1 112 = true then (mj_E sl (d + 1) 142 65 [.ref 45, .int y1, w2, w3, .int (y4 + 1)] [] (mj_st q1.2 46 (q1.1 : Int32).toNatClampNeg (-1))) else none)) else (some ((1 : Int32), M)) := by
  refine (sx_iload dx_142_65 rfl).trans ?_
  refine (sx_bipush (v := 8) dx_142_67 rfl).trans ?_
  refine (sx_icmp_ge (tgt := 90) dx_142_69 (by decide)).trans ?_
  refine mj_ite ?_ ?_
  · refine (sx_aload_n dx_142_72 rfl).trans ?_
    refine (sx_gfr dx_142_73 ow_142 fx_7_7 oc_45 rb_45_0).trans ?_
    refine (sx_iload_n dx_142_76 rfl).trans ?_
    refine (sx_iload dx_142_77 rfl).trans ?_
    refine (sx_s2i dx_142_79 ow_142 cx_7_101 (Nat.le_of_ble_eq_true rfl)).trans ?_
    refine mj_bnd (fun q1 => ?_)
    refine (sx_iconst (v := (-1)) dx_142_82 rfl).trans ?_
    refine (sx_ist dx_142_83 ia_46).trans ?_
    refine mj_ite ?_ rfl
    refine (sx_iinc (v := 1) dx_142_84 rfl rfl rfl).trans ?_
    refine (sx_goto (tgt := 65) dx_142_87 (by decide)).trans ?_
    rfl
  · refine (sx_iconst (v := 1) dx_142_90 rfl).trans ?_
    exact sx_retz dx_142_91 rt_142 (by decide)
theorem dx_143_0 : mj_at 143 0 = some (.aload_n 0) := by decide +kernel
theorem dx_143_1 : mj_at 143 1 = some (.iload_n 1) := by decide +kernel
theorem dx_143_2 : mj_at 143 2 = some (.invokevirtual 98) := by decide +kernel
theorem dx_143_5 : mj_at 143 5 = some (.ifCond .eq 18) := by decide +kernel
theorem dx_143_8 : mj_at 143 8 = some (.aload_n 0) := by decide +kernel
theorem dx_143_9 : mj_at 143 9 = some (.iload_n 2) := by decide +kernel
theorem dx_143_10 : mj_at 143 10 = some (.invokevirtual 94) := by decide +kernel
theorem dx_143_13 : mj_at 143 13 = some (.ifCond .eq 10) := by decide +kernel
theorem dx_143_16 : mj_at 143 16 = some (.iload_n 3) := by decide +kernel
theorem dx_143_17 : mj_at 143 17 = some (.invokestatic 120) := by decide +kernel
theorem dx_143_20 : mj_at 143 20 = some (.ifCond .ne 5) := by decide +kernel
theorem dx_143_23 : mj_at 143 23 = some (.iconst 0) := by decide +kernel
theorem dx_143_24 : mj_at 143 24 = some (.ireturn) := by decide +kernel
theorem dx_143_25 : mj_at 143 25 = some (.aload_n 0) := by decide +kernel
theorem dx_143_26 : mj_at 143 26 = some (.getfield 7) := by decide +kernel
theorem dx_143_29 : mj_at 143 29 = some (.iload_n 1) := by decide +kernel
theorem dx_143_30 : mj_at 143 30 = some (.iload_n 2) := by decide +kernel
theorem dx_143_31 : mj_at 143 31 = some (.invokestatic 101) := by decide +kernel
theorem dx_143_34 : mj_at 143 34 = some (.iload_n 3) := by decide +kernel
theorem dx_143_35 : mj_at 143 35 = some (.iastore) := by decide +kernel
theorem dx_143_36 : mj_at 143 36 = some (.iconst 1) := by decide +kernel
theorem dx_143_37 : mj_at 143 37 = some (.ireturn) := by decide +kernel
set_option maxRecDepth 10000 in
theorem b_X9_form {sl d : Nat} {M : mj_M} {x1 : Int32} {x2 : Int32} {x3 : Int32}  : mj_C sl (d + 1) 143 [.ref 45, .int x1, .int x2, .int x3] M = (mj_C sl d 132 [.ref 45, .int x1] M).bind (fun q1 => if q1.1 = 0 then (some ((0 : Int32), q1.2)) else ((mj_C sl d 131 [.ref 45, .int x2] q1.2).bind (fun q2 => if q2.1 = 0 then (some ((0 : Int32), q2.2)) else ((mj_C sl d 130 [.int x3] q2.2).bind (fun q3 => if q3.1 = 0 then (some ((0 : Int32), q3.2)) else ((mj_C sl d 135 [.int x1, .int x2] q3.2).bind (fun q4 => if mj_inB q4.1 112 = true then (some ((1 : Int32), mj_st q4.2 46 (q4.1 : Int32).toNatClampNeg x3)) else none))))))) := by
  show mj_E sl (d + 1) 143 0 [.ref 45, .int x1, .int x2, .int x3] [] M = _
  refine (sx_aload_n dx_143_0 rfl).trans ?_
  refine (sx_iload_n dx_143_1 rfl).trans ?_
  refine (sx_v1i dx_143_2 ow_143 cx_7_98 oc_45 (Nat.le_of_ble_eq_true rfl)).trans ?_
  refine mj_bnd (fun q1 => ?_)
  refine (sx_if_eq (tgt := 23) dx_143_5 (by decide)).trans ?_
  refine mj_ite ?_ ?_
  · refine (sx_iconst (v := 0) dx_143_23 rfl).trans ?_
    exact sx_retz dx_143_24 rt_143 (by decide)
  · refine (sx_aload_n dx_143_8 rfl).trans ?_
    refine (sx_iload_n dx_143_9 rfl).trans ?_
    refine (sx_v1i dx_143_10 ow_143 cx_7_94 oc_45 (Nat.le_of_ble_eq_true rfl)).trans ?_
    refine mj_bnd (fun q2 => ?_)
    refine (sx_if_eq (tgt := 23) dx_143_13 (by decide)).trans ?_
    refine mj_ite ?_ ?_
    · refine (sx_iconst (v := 0) dx_143_23 rfl).trans ?_
      exact sx_retz dx_143_24 rt_143 (by decide)
    · refine (sx_iload_n dx_143_16 rfl).trans ?_
      refine (sx_s1i dx_143_17 ow_143 cx_7_120 (Nat.le_of_ble_eq_true rfl)).trans ?_
      refine mj_bnd (fun q3 => ?_)
      refine (sx_if_ne (tgt := 25) dx_143_20 (by decide)).trans ?_
      refine mj_ite ?_ ?_
      · refine (sx_iconst (v := 0) dx_143_23 rfl).trans ?_
        exact sx_retz dx_143_24 rt_143 (by decide)
      · refine (sx_aload_n dx_143_25 rfl).trans ?_
        refine (sx_gfr dx_143_26 ow_143 fx_7_7 oc_45 rb_45_0).trans ?_
        refine (sx_iload_n dx_143_29 rfl).trans ?_
        refine (sx_iload_n dx_143_30 rfl).trans ?_
        refine (sx_s2i dx_143_31 ow_143 cx_7_101 (Nat.le_of_ble_eq_true rfl)).trans ?_
        refine mj_bnd (fun q4 => ?_)
        refine (sx_iload_n dx_143_34 rfl).trans ?_
        refine (sx_ist dx_143_35 ia_46).trans ?_
        refine mj_ite ?_ rfl
        refine (sx_iconst (v := 1) dx_143_36 rfl).trans ?_
        exact sx_retz dx_143_37 rt_143 (by decide)
theorem dx_144_0 : mj_at 144 0 = some (.iconst 3) := by decide +kernel
theorem dx_144_1 : mj_at 144 1 = some (.istore_n 2) := by decide +kernel
theorem dx_144_2 : mj_at 144 2 = some (.iload_n 2) := by decide +kernel
theorem dx_144_3 : mj_at 144 3 = some (.ifCond .lt 35) := by decide +kernel
theorem dx_144_6 : mj_at 144 6 = some (.aload_n 0) := by decide +kernel
theorem dx_144_7 : mj_at 144 7 = some (.getfield 22) := by decide +kernel
theorem dx_144_10 : mj_at 144 10 = some (.aload_n 0) := by decide +kernel
theorem dx_144_11 : mj_at 144 11 = some (.getfield 123) := by decide +kernel
theorem dx_144_14 : mj_at 144 14 = some (.iload_n 1) := by decide +kernel
theorem dx_144_15 : mj_at 144 15 = some (.bipush 8) := by decide +kernel
theorem dx_144_17 : mj_at 144 17 = some (.iload_n 2) := by decide +kernel
theorem dx_144_18 : mj_at 144 18 = some (.imul) := by decide +kernel
theorem dx_144_19 : mj_at 144 19 = some (.ishr) := by decide +kernel
theorem dx_144_20 : mj_at 144 20 = some (.i2b) := by decide +kernel
theorem dx_144_21 : mj_at 144 21 = some (.bastore) := by decide +kernel
theorem dx_144_22 : mj_at 144 22 = some (.aload_n 0) := by decide +kernel
theorem dx_144_23 : mj_at 144 23 = some (.aload_n 0) := by decide +kernel
theorem dx_144_24 : mj_at 144 24 = some (.getfield 123) := by decide +kernel
theorem dx_144_27 : mj_at 144 27 = some (.iconst 1) := by decide +kernel
theorem dx_144_28 : mj_at 144 28 = some (.iadd) := by decide +kernel
theorem dx_144_29 : mj_at 144 29 = some (.putfield 123) := by decide +kernel
theorem dx_144_32 : mj_at 144 32 = some (.iinc 2 (-1)) := by decide +kernel
theorem dx_144_35 : mj_at 144 35 = some (.goto (-33)) := by decide +kernel
theorem dx_144_38 : mj_at 144 38 = some (.return_) := by decide +kernel
set_option maxRecDepth 10000 in
theorem b_X9_types {sl d : Nat} {M : mj_M} {x1 : Int32}  : mj_C sl d 144 [.ref 45, .int x1] M = mj_E sl d 144 2 [.ref 45, .int x1, .int 3] [] M := by
  show mj_E sl d 144 0 [.ref 45, .int x1, .null] [] M = _
  refine (sx_iconst (v := 3) dx_144_0 rfl).trans ?_
  refine (sx_istore_n dx_144_1 (Nat.le_of_ble_eq_true rfl) rfl).trans ?_
  rfl
set_option maxRecDepth 10000 in
theorem b_X9_types_2 {sl d : Nat} {M : mj_M} {y1 : Int32} {y2 : Int32}  : mj_E sl d 144 2 [.ref 45, .int y1, .int y2] [] M = if y2 < 0 then (some ((0 : Int32), M)) else (if mj_inB (M 45 5) 260 = true then (mj_E sl d 144 2 [.ref 45, .int y1, .int (y2 + (-1))] [] (mj_st (mj_st M 50 (M 45 5 : Int32).toNatClampNeg (((y1 >>> (((8 : Int32) * y2) &&& 31) : Int32).toInt8.toInt32 : Int32).toInt8.toInt32)) 45 5 (((mj_st M 50 (M 45 5 : Int32).toNatClampNeg (((y1 >>> (((8 : Int32) * y2) &&& 31) : Int32).toInt8.toInt32 : Int32).toInt8.toInt32)) 45 5) + 1))) else none) := by
  refine (sx_iload_n dx_144_2 rfl).trans ?_
  refine (sx_if_lt (tgt := 38) dx_144_3 (by decide)).trans ?_
  refine mj_ite ?_ ?_
  · exact sx_retv dx_144_38 rt_144
  · refine (sx_aload_n dx_144_6 rfl).trans ?_
    refine (sx_gfr dx_144_7 ow_144 fx_7_22 oc_45 rb_45_4).trans ?_
    refine (sx_aload_n dx_144_10 rfl).trans ?_
    refine (sx_gfi dx_144_11 ow_144 fx_7_123 (by decide) oc_45).trans ?_
    refine (sx_iload_n dx_144_14 rfl).trans ?_
    refine (sx_bipush (v := 8) dx_144_15 rfl).trans ?_
    refine (sx_iload_n dx_144_17 rfl).trans ?_
    refine (sx_imul dx_144_18).trans ?_
    refine (sx_ishr dx_144_19).trans ?_
    refine (sx_i2b dx_144_20).trans ?_
    refine (sx_bst dx_144_21 ba_50).trans ?_
    refine mj_ite ?_ rfl
    refine (sx_aload_n dx_144_22 rfl).trans ?_
    refine (sx_aload_n dx_144_23 rfl).trans ?_
    refine (sx_gfi dx_144_24 ow_144 fx_7_123 (by decide) oc_45).trans ?_
    refine (sx_iconst (v := 1) dx_144_27 rfl).trans ?_
    refine (sx_iadd dx_144_28).trans ?_
    refine (sx_pfi dx_144_29 ow_144 fx_7_123 oc_45).trans ?_
    refine (sx_iinc (v := (-1)) dx_144_32 rfl rfl rfl).trans ?_
    refine (sx_goto (tgt := 2) dx_144_35 (by decide)).trans ?_
    rfl
theorem dx_145_0 : mj_at 145 0 = some (.aload_n 0) := by decide +kernel
theorem dx_145_1 : mj_at 145 1 = some (.getfield 123) := by decide +kernel
theorem dx_145_4 : mj_at 145 4 = some (.bipush 20) := by decide +kernel
theorem dx_145_6 : mj_at 145 6 = some (.iadd) := by decide +kernel
theorem dx_145_7 : mj_at 145 7 = some (.sipush 260) := by decide +kernel
theorem dx_145_10 : mj_at 145 10 = some (.if_icmp .le 5) := by decide +kernel
theorem dx_145_13 : mj_at 145 13 = some (.iconst (-1)) := by decide +kernel
theorem dx_145_14 : mj_at 145 14 = some (.ireturn) := by decide +kernel
theorem dx_145_15 : mj_at 145 15 = some (.aload_n 0) := by decide +kernel
theorem dx_145_16 : mj_at 145 16 = some (.iload_n 1) := by decide +kernel
theorem dx_145_17 : mj_at 145 17 = some (.invokevirtual 127) := by decide +kernel
theorem dx_145_20 : mj_at 145 20 = some (.aload_n 0) := by decide +kernel
theorem dx_145_21 : mj_at 145 21 = some (.iload_n 2) := by decide +kernel
theorem dx_145_22 : mj_at 145 22 = some (.invokevirtual 127) := by decide +kernel
theorem dx_145_25 : mj_at 145 25 = some (.aload_n 0) := by decide +kernel
theorem dx_145_26 : mj_at 145 26 = some (.iload_n 3) := by decide +kernel
theorem dx_145_27 : mj_at 145 27 = some (.invokevirtual 127) := by decide +kernel
theorem dx_145_30 : mj_at 145 30 = some (.aload_n 0) := by decide +kernel
theorem dx_145_31 : mj_at 145 31 = some (.iload 4) := by decide +kernel
theorem dx_145_33 : mj_at 145 33 = some (.invokevirtual 127) := by decide +kernel
theorem dx_145_36 : mj_at 145 36 = some (.aload_n 0) := by decide +kernel
theorem dx_145_37 : mj_at 145 37 = some (.iload 5) := by decide +kernel
theorem dx_145_39 : mj_at 145 39 = some (.invokevirtual 127) := by decide +kernel
theorem dx_145_42 : mj_at 145 42 = some (.aload_n 0) := by decide +kernel
theorem dx_145_43 : mj_at 145 43 = some (.getfield 123) := by decide +kernel
theorem dx_145_46 : mj_at 145 46 = some (.ireturn) := by decide +kernel
set_option maxRecDepth 10000 in
theorem b_X9_feed {sl d : Nat} {M : mj_M} {x1 : Int32} {x2 : Int32} {x3 : Int32} {x4 : Int32} {x5 : Int32}  : mj_C sl (d + 1) 145 [.ref 45, .int x1, .int x2, .int x3, .int x4, .int x5] M = if (M 45 5) + 20 ≤ 260 then ((mj_C sl d 144 [.ref 45, .int x1] M).bind (fun q1 => (mj_C sl d 144 [.ref 45, .int x2] q1.2).bind (fun q2 => (mj_C sl d 144 [.ref 45, .int x3] q2.2).bind (fun q3 => (mj_C sl d 144 [.ref 45, .int x4] q3.2).bind (fun q4 => (mj_C sl d 144 [.ref 45, .int x5] q4.2).bind (fun q5 => some ((q5.2 45 5 : Int32), q5.2))))))) else (some (((-1) : Int32), M)) := by
  show mj_E sl (d + 1) 145 0 [.ref 45, .int x1, .int x2, .int x3, .int x4, .int x5] [] M = _
  refine (sx_aload_n dx_145_0 rfl).trans ?_
  refine (sx_gfi dx_145_1 ow_145 fx_7_123 (by decide) oc_45).trans ?_
  refine (sx_bipush (v := 20) dx_145_4 rfl).trans ?_
  refine (sx_iadd dx_145_6).trans ?_
  refine (sx_sipush (v := 260) dx_145_7 rfl).trans ?_
  refine (sx_icmp_le (tgt := 15) dx_145_10 (by decide)).trans ?_
  refine mj_ite ?_ ?_
  · refine (sx_aload_n dx_145_15 rfl).trans ?_
    refine (sx_iload_n dx_145_16 rfl).trans ?_
    refine (sx_v1v dx_145_17 ow_145 cx_7_127 oc_45 (Nat.le_of_ble_eq_true rfl)).trans ?_
    refine mj_bnd (fun q1 => ?_)
    refine (sx_aload_n dx_145_20 rfl).trans ?_
    refine (sx_iload_n dx_145_21 rfl).trans ?_
    refine (sx_v1v dx_145_22 ow_145 cx_7_127 oc_45 (Nat.le_of_ble_eq_true rfl)).trans ?_
    refine mj_bnd (fun q2 => ?_)
    refine (sx_aload_n dx_145_25 rfl).trans ?_
    refine (sx_iload_n dx_145_26 rfl).trans ?_
    refine (sx_v1v dx_145_27 ow_145 cx_7_127 oc_45 (Nat.le_of_ble_eq_true rfl)).trans ?_
    refine mj_bnd (fun q3 => ?_)
    refine (sx_aload_n dx_145_30 rfl).trans ?_
    refine (sx_iload dx_145_31 rfl).trans ?_
    refine (sx_v1v dx_145_33 ow_145 cx_7_127 oc_45 (Nat.le_of_ble_eq_true rfl)).trans ?_
    refine mj_bnd (fun q4 => ?_)
    refine (sx_aload_n dx_145_36 rfl).trans ?_
    refine (sx_iload dx_145_37 rfl).trans ?_
    refine (sx_v1v dx_145_39 ow_145 cx_7_127 oc_45 (Nat.le_of_ble_eq_true rfl)).trans ?_
    refine mj_bnd (fun q5 => ?_)
    refine (sx_aload_n dx_145_42 rfl).trans ?_
    refine (sx_gfi dx_145_43 ow_145 fx_7_123 (by decide) oc_45).trans ?_
    exact sx_reti dx_145_46 rt_145
  · refine (sx_iconst (v := (-1)) dx_145_13 rfl).trans ?_
    exact sx_reti dx_145_14 rt_145
theorem dx_146_0 : mj_at 146 0 = some (.aload_n 0) := by decide +kernel
theorem dx_146_1 : mj_at 146 1 = some (.getfield 22) := by decide +kernel
theorem dx_146_4 : mj_at 146 4 = some (.iload_n 1) := by decide +kernel
theorem dx_146_5 : mj_at 146 5 = some (.baload) := by decide +kernel
theorem dx_146_6 : mj_at 146 6 = some (.sipush 255) := by decide +kernel
theorem dx_146_9 : mj_at 146 9 = some (.iand) := by decide +kernel
theorem dx_146_10 : mj_at 146 10 = some (.ireturn) := by decide +kernel
set_option maxRecDepth 10000 in
theorem b_X9_octet {sl d : Nat} {M : mj_M} {x1 : Int32}  : mj_C sl d 146 [.ref 45, .int x1] M = if mj_inB x1 260 = true then (some (((M 50 (x1 : Int32).toNatClampNeg) &&& 255 : Int32), M)) else none := by
  show mj_E sl d 146 0 [.ref 45, .int x1] [] M = _
  refine (sx_aload_n dx_146_0 rfl).trans ?_
  refine (sx_gfr dx_146_1 ow_146 fx_7_22 oc_45 rb_45_4).trans ?_
  refine (sx_iload_n dx_146_4 rfl).trans ?_
  refine (sx_bld dx_146_5 bl_50).trans ?_
  refine mj_ite ?_ rfl
  refine (sx_sipush (v := 255) dx_146_6 rfl).trans ?_
  refine (sx_iand dx_146_9).trans ?_
  exact sx_reti dx_146_10 rt_146
theorem dx_147_0 : mj_at 147 0 = some (.aload_n 0) := by decide +kernel
theorem dx_147_1 : mj_at 147 1 = some (.getfield 131) := by decide +kernel
theorem dx_147_4 : mj_at 147 4 = some (.aload_n 0) := by decide +kernel
theorem dx_147_5 : mj_at 147 5 = some (.getfield 134) := by decide +kernel
theorem dx_147_8 : mj_at 147 8 = some (.if_icmp .ge 19) := by decide +kernel
theorem dx_147_11 : mj_at 147 11 = some (.aload_n 0) := by decide +kernel
theorem dx_147_12 : mj_at 147 12 = some (.getfield 22) := by decide +kernel
theorem dx_147_15 : mj_at 147 15 = some (.aload_n 0) := by decide +kernel
theorem dx_147_16 : mj_at 147 16 = some (.getfield 131) := by decide +kernel
theorem dx_147_19 : mj_at 147 19 = some (.baload) := by decide +kernel
theorem dx_147_20 : mj_at 147 20 = some (.sipush 255) := by decide +kernel
theorem dx_147_23 : mj_at 147 23 = some (.iand) := by decide +kernel
theorem dx_147_24 : mj_at 147 24 = some (.goto 4) := by decide +kernel
theorem dx_147_27 : mj_at 147 27 = some (.iconst (-1)) := by decide +kernel
theorem dx_147_28 : mj_at 147 28 = some (.ireturn) := by decide +kernel
set_option maxRecDepth 10000 in
theorem b_X9_here {sl d : Nat} {M : mj_M}   : mj_C sl d 147 [.ref 45] M = if M 45 6 < (M 45 7) then (if mj_inB (M 45 6) 260 = true then (some (((M 50 (M 45 6 : Int32).toNatClampNeg) &&& 255 : Int32), M)) else none) else (some (((-1) : Int32), M)) := by
  show mj_E sl d 147 0 [.ref 45] [] M = _
  refine (sx_aload_n dx_147_0 rfl).trans ?_
  refine (sx_gfi dx_147_1 ow_147 fx_7_131 (by decide) oc_45).trans ?_
  refine (sx_aload_n dx_147_4 rfl).trans ?_
  refine (sx_gfi dx_147_5 ow_147 fx_7_134 (by decide) oc_45).trans ?_
  refine (sx_icmp_ge (tgt := 27) dx_147_8 (by decide)).trans ?_
  refine mj_ite ?_ ?_
  · refine (sx_aload_n dx_147_11 rfl).trans ?_
    refine (sx_gfr dx_147_12 ow_147 fx_7_22 oc_45 rb_45_4).trans ?_
    refine (sx_aload_n dx_147_15 rfl).trans ?_
    refine (sx_gfi dx_147_16 ow_147 fx_7_131 (by decide) oc_45).trans ?_
    refine (sx_bld dx_147_19 bl_50).trans ?_
    refine mj_ite ?_ rfl
    refine (sx_sipush (v := 255) dx_147_20 rfl).trans ?_
    refine (sx_iand dx_147_23).trans ?_
    refine (sx_goto (tgt := 28) dx_147_24 (by decide)).trans ?_
    exact sx_reti dx_147_28 rt_147
  · refine (sx_iconst (v := (-1)) dx_147_27 rfl).trans ?_
    exact sx_reti dx_147_28 rt_147
theorem dx_148_0 : mj_at 148 0 = some (.aload_n 0) := by decide +kernel
theorem dx_148_1 : mj_at 148 1 = some (.invokevirtual 137) := by decide +kernel
theorem dx_148_4 : mj_at 148 4 = some (.bipush 48) := by decide +kernel
theorem dx_148_6 : mj_at 148 6 = some (.if_icmp .lt 16) := by decide +kernel
theorem dx_148_9 : mj_at 148 9 = some (.aload_n 0) := by decide +kernel
theorem dx_148_10 : mj_at 148 10 = some (.invokevirtual 137) := by decide +kernel
theorem dx_148_13 : mj_at 148 13 = some (.bipush 57) := by decide +kernel
theorem dx_148_15 : mj_at 148 15 = some (.if_icmp .gt 7) := by decide +kernel
theorem dx_148_18 : mj_at 148 18 = some (.iconst 1) := by decide +kernel
theorem dx_148_19 : mj_at 148 19 = some (.goto 4) := by decide +kernel
theorem dx_148_22 : mj_at 148 22 = some (.iconst 0) := by decide +kernel
theorem dx_148_23 : mj_at 148 23 = some (.ireturn) := by decide +kernel
set_option maxRecDepth 10000 in
theorem b_X9_isDigit {sl d : Nat} {M : mj_M}   : mj_C sl (d + 1) 148 [.ref 45] M = (mj_C sl d 147 [.ref 45] M).bind (fun q1 => if q1.1 < 48 then (some ((0 : Int32), q1.2)) else ((mj_C sl d 147 [.ref 45] q1.2).bind (fun q2 => if q2.1 ≤ 57 then (some ((1 : Int32), q2.2)) else (some ((0 : Int32), q2.2))))) := by
  show mj_E sl (d + 1) 148 0 [.ref 45] [] M = _
  refine (sx_aload_n dx_148_0 rfl).trans ?_
  refine (sx_v0i dx_148_1 ow_148 cx_7_137 oc_45 (Nat.le_of_ble_eq_true rfl)).trans ?_
  refine mj_bnd (fun q1 => ?_)
  refine (sx_bipush (v := 48) dx_148_4 rfl).trans ?_
  refine (sx_icmp_lt (tgt := 22) dx_148_6 (by decide)).trans ?_
  refine mj_ite ?_ ?_
  · refine (sx_iconst (v := 0) dx_148_22 rfl).trans ?_
    exact sx_retz dx_148_23 rt_148 (by decide)
  · refine (sx_aload_n dx_148_9 rfl).trans ?_
    refine (sx_v0i dx_148_10 ow_148 cx_7_137 oc_45 (Nat.le_of_ble_eq_true rfl)).trans ?_
    refine mj_bnd (fun q2 => ?_)
    refine (sx_bipush (v := 57) dx_148_13 rfl).trans ?_
    refine (sx_icmp_gt (tgt := 22) dx_148_15 (by decide)).trans ?_
    refine mj_ite ?_ ?_
    · refine (sx_iconst (v := 1) dx_148_18 rfl).trans ?_
      refine (sx_goto (tgt := 23) dx_148_19 (by decide)).trans ?_
      exact sx_retz dx_148_23 rt_148 (by decide)
    · refine (sx_iconst (v := 0) dx_148_22 rfl).trans ?_
      exact sx_retz dx_148_23 rt_148 (by decide)
theorem dx_149_0 : mj_at 149 0 = some (.aload_n 0) := by decide +kernel
theorem dx_149_1 : mj_at 149 1 = some (.sipush (-1000)) := by decide +kernel
theorem dx_149_4 : mj_at 149 4 = some (.iload_n 1) := by decide +kernel
theorem dx_149_5 : mj_at 149 5 = some (.imul) := by decide +kernel
theorem dx_149_6 : mj_at 149 6 = some (.iload_n 2) := by decide +kernel
theorem dx_149_7 : mj_at 149 7 = some (.isub) := by decide +kernel
theorem dx_149_8 : mj_at 149 8 = some (.putfield 141) := by decide +kernel
theorem dx_149_11 : mj_at 149 11 = some (.iconst 0) := by decide +kernel
theorem dx_149_12 : mj_at 149 12 = some (.ireturn) := by decide +kernel
set_option maxRecDepth 10000 in
theorem b_X9_wrongAt {sl d : Nat} {M : mj_M} {x1 : Int32} {x2 : Int32}  : mj_C sl d 149 [.ref 45, .int x1, .int x2] M = some ((0 : Int32), mj_st M 45 8 (((-1000 : Int32) * x1) - x2)) := by
  show mj_E sl d 149 0 [.ref 45, .int x1, .int x2] [] M = _
  refine (sx_aload_n dx_149_0 rfl).trans ?_
  refine (sx_sipush (v := (-1000)) dx_149_1 rfl).trans ?_
  refine (sx_iload_n dx_149_4 rfl).trans ?_
  refine (sx_imul dx_149_5).trans ?_
  refine (sx_iload_n dx_149_6 rfl).trans ?_
  refine (sx_isub dx_149_7).trans ?_
  refine (sx_pfi dx_149_8 ow_149 fx_7_141 oc_45).trans ?_
  refine (sx_iconst (v := 0) dx_149_11 rfl).trans ?_
  exact sx_retz dx_149_12 rt_149 (by decide)
theorem dx_150_0 : mj_at 150 0 = some (.aload_n 0) := by decide +kernel
theorem dx_150_1 : mj_at 150 1 = some (.invokevirtual 137) := by decide +kernel
theorem dx_150_4 : mj_at 150 4 = some (.iload_n 1) := by decide +kernel
theorem dx_150_5 : mj_at 150 5 = some (.if_icmp .eq 13) := by decide +kernel
theorem dx_150_8 : mj_at 150 8 = some (.aload_n 0) := by decide +kernel
theorem dx_150_9 : mj_at 150 9 = some (.iconst 1) := by decide +kernel
theorem dx_150_10 : mj_at 150 10 = some (.aload_n 0) := by decide +kernel
theorem dx_150_11 : mj_at 150 11 = some (.getfield 131) := by decide +kernel
theorem dx_150_14 : mj_at 150 14 = some (.invokevirtual 144) := by decide +kernel
theorem dx_150_17 : mj_at 150 17 = some (.ireturn) := by decide +kernel
theorem dx_150_18 : mj_at 150 18 = some (.aload_n 0) := by decide +kernel
theorem dx_150_19 : mj_at 150 19 = some (.aload_n 0) := by decide +kernel
theorem dx_150_20 : mj_at 150 20 = some (.getfield 131) := by decide +kernel
theorem dx_150_23 : mj_at 150 23 = some (.iconst 1) := by decide +kernel
theorem dx_150_24 : mj_at 150 24 = some (.iadd) := by decide +kernel
theorem dx_150_25 : mj_at 150 25 = some (.putfield 131) := by decide +kernel
theorem dx_150_28 : mj_at 150 28 = some (.iconst 1) := by decide +kernel
theorem dx_150_29 : mj_at 150 29 = some (.ireturn) := by decide +kernel
set_option maxRecDepth 10000 in
theorem b_X9_takes {sl d : Nat} {M : mj_M} {x1 : Int32}  : mj_C sl (d + 1) 150 [.ref 45, .int x1] M = (mj_C sl d 147 [.ref 45] M).bind (fun q1 => if q1.1 = x1 then (some ((1 : Int32), mj_st q1.2 45 6 ((q1.2 45 6) + 1))) else ((mj_C sl d 149 [.ref 45, .int 1, .int (q1.2 45 6)] q1.2).bind (fun q2 => if q2.1 &&& 1 = q2.1 then some ((q2.1 : Int32), q2.2) else none))) := by
  show mj_E sl (d + 1) 150 0 [.ref 45, .int x1] [] M = _
  refine (sx_aload_n dx_150_0 rfl).trans ?_
  refine (sx_v0i dx_150_1 ow_150 cx_7_137 oc_45 (Nat.le_of_ble_eq_true rfl)).trans ?_
  refine mj_bnd (fun q1 => ?_)
  refine (sx_iload_n dx_150_4 rfl).trans ?_
  refine (sx_icmp_eq (tgt := 18) dx_150_5 (by decide)).trans ?_
  refine mj_ite ?_ ?_
  · refine (sx_aload_n dx_150_18 rfl).trans ?_
    refine (sx_aload_n dx_150_19 rfl).trans ?_
    refine (sx_gfi dx_150_20 ow_150 fx_7_131 (by decide) oc_45).trans ?_
    refine (sx_iconst (v := 1) dx_150_23 rfl).trans ?_
    refine (sx_iadd dx_150_24).trans ?_
    refine (sx_pfi dx_150_25 ow_150 fx_7_131 oc_45).trans ?_
    refine (sx_iconst (v := 1) dx_150_28 rfl).trans ?_
    exact sx_retz dx_150_29 rt_150 (by decide)
  · refine (sx_aload_n dx_150_8 rfl).trans ?_
    refine (sx_iconst (v := 1) dx_150_9 rfl).trans ?_
    refine (sx_aload_n dx_150_10 rfl).trans ?_
    refine (sx_gfi dx_150_11 ow_150 fx_7_131 (by decide) oc_45).trans ?_
    refine (sx_v2i dx_150_14 ow_150 cx_7_144 oc_45 (Nat.le_of_ble_eq_true rfl)).trans ?_
    refine mj_bnd (fun q2 => ?_)
    exact sx_retg dx_150_17 rt_150
