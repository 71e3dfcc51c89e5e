theorem dx_229_0 : mj_at 229 0 = some (.iload_n 0) := by decide +kernel
theorem dx_229_1 : mj_at 229 1 = some (.iload_n 0) := by decide +kernel
theorem dx_229_2 : mj_at 229 2 = some (.iconst 1) := by decide +kernel
theorem dx_229_3 : mj_at 229 3 = some (.iushr) := by decide +kernel
theorem dx_229_4 : mj_at 229 4 = some (.ldc_w 265) := by decide +kernel
theorem dx_229_7 : mj_at 229 7 = some (.iand) := by decide +kernel
theorem dx_229_8 : mj_at 229 8 = some (.isub) := by decide +kernel
theorem dx_229_9 : mj_at 229 9 = some (.istore_n 0) := by decide +kernel
theorem dx_229_10 : mj_at 229 10 = some (.iload_n 0) := by decide +kernel
theorem dx_229_11 : mj_at 229 11 = some (.ldc_w 266) := by decide +kernel
theorem dx_229_14 : mj_at 229 14 = some (.iand) := by decide +kernel
theorem dx_229_15 : mj_at 229 15 = some (.iload_n 0) := by decide +kernel
theorem dx_229_16 : mj_at 229 16 = some (.iconst 2) := by decide +kernel
theorem dx_229_17 : mj_at 229 17 = some (.iushr) := by decide +kernel
theorem dx_229_18 : mj_at 229 18 = some (.ldc_w 266) := by decide +kernel
theorem dx_229_21 : mj_at 229 21 = some (.iand) := by decide +kernel
theorem dx_229_22 : mj_at 229 22 = some (.iadd) := by decide +kernel
theorem dx_229_23 : mj_at 229 23 = some (.istore_n 0) := by decide +kernel
theorem dx_229_24 : mj_at 229 24 = some (.iload_n 0) := by decide +kernel
theorem dx_229_25 : mj_at 229 25 = some (.iload_n 0) := by decide +kernel
theorem dx_229_26 : mj_at 229 26 = some (.iconst 4) := by decide +kernel
theorem dx_229_27 : mj_at 229 27 = some (.iushr) := by decide +kernel
theorem dx_229_28 : mj_at 229 28 = some (.iadd) := by decide +kernel
theorem dx_229_29 : mj_at 229 29 = some (.ldc_w 267) := by decide +kernel
theorem dx_229_32 : mj_at 229 32 = some (.iand) := by decide +kernel
theorem dx_229_33 : mj_at 229 33 = some (.istore_n 0) := by decide +kernel
theorem dx_229_34 : mj_at 229 34 = some (.iload_n 0) := by decide +kernel
theorem dx_229_35 : mj_at 229 35 = some (.iload_n 0) := by decide +kernel
theorem dx_229_36 : mj_at 229 36 = some (.bipush 8) := by decide +kernel
theorem dx_229_38 : mj_at 229 38 = some (.iushr) := by decide +kernel
theorem dx_229_39 : mj_at 229 39 = some (.iadd) := by decide +kernel
theorem dx_229_40 : mj_at 229 40 = some (.istore_n 0) := by decide +kernel
theorem dx_229_41 : mj_at 229 41 = some (.iload_n 0) := by decide +kernel
theorem dx_229_42 : mj_at 229 42 = some (.iload_n 0) := by decide +kernel
theorem dx_229_43 : mj_at 229 43 = some (.bipush 16) := by decide +kernel
theorem dx_229_45 : mj_at 229 45 = some (.iushr) := by decide +kernel
theorem dx_229_46 : mj_at 229 46 = some (.iadd) := by decide +kernel
theorem dx_229_47 : mj_at 229 47 = some (.istore_n 0) := by decide +kernel
theorem dx_229_48 : mj_at 229 48 = some (.iload_n 0) := by decide +kernel
theorem dx_229_49 : mj_at 229 49 = some (.bipush 63) := by decide +kernel
theorem dx_229_51 : mj_at 229 51 = some (.iand) := by decide +kernel
theorem dx_229_52 : mj_at 229 52 = some (.ireturn) := by decide +kernel
set_option maxRecDepth 10000 in
theorem b_J6_bitCount_0f7a4 {sl d : Nat} {M : mj_M} {x1 : Int32}  : mj_C sl d 229 [.int x1] M = some (((((((((x1 - ((mj_us x1 1) &&& 1431655765)) &&& 858993459) + ((mj_us (x1 - ((mj_us x1 1) &&& 1431655765)) 2) &&& 858993459)) + (mj_us (((x1 - ((mj_us x1 1) &&& 1431655765)) &&& 858993459) + ((mj_us (x1 - ((mj_us x1 1) &&& 1431655765)) 2) &&& 858993459)) 4)) &&& 252645135) + (mj_us (((((x1 - ((mj_us x1 1) &&& 1431655765)) &&& 858993459) + ((mj_us (x1 - ((mj_us x1 1) &&& 1431655765)) 2) &&& 858993459)) + (mj_us (((x1 - ((mj_us x1 1) &&& 1431655765)) &&& 858993459) + ((mj_us (x1 - ((mj_us x1 1) &&& 1431655765)) 2) &&& 858993459)) 4)) &&& 252645135) 8)) + (mj_us ((((((x1 - ((mj_us x1 1) &&& 1431655765)) &&& 858993459) + ((mj_us (x1 - ((mj_us x1 1) &&& 1431655765)) 2) &&& 858993459)) + (mj_us (((x1 - ((mj_us x1 1) &&& 1431655765)) &&& 858993459) + ((mj_us (x1 - ((mj_us x1 1) &&& 1431655765)) 2) &&& 858993459)) 4)) &&& 252645135) + (mj_us (((((x1 - ((mj_us x1 1) &&& 1431655765)) &&& 858993459) + ((mj_us (x1 - ((mj_us x1 1) &&& 1431655765)) 2) &&& 858993459)) + (mj_us (((x1 - ((mj_us x1 1) &&& 1431655765)) &&& 858993459) + ((mj_us (x1 - ((mj_us x1 1) &&& 1431655765)) 2) &&& 858993459)) 4)) &&& 252645135) 8)) 16)) &&& 63 : Int32), M) := by
  show mj_E sl d 229 0 [.int x1] [] M = _
  refine (sx_iload_n dx_229_0 rfl).trans ?_
  refine (sx_iload_n dx_229_1 rfl).trans ?_
  refine (sx_iconst (v := 1) dx_229_2 rfl).trans ?_
  refine (sx_iushr dx_229_3).trans ?_
  refine (sx_ldcw (v := 1431655765) dx_229_4 ow_229 kx_11_265).trans ?_
  refine (sx_iand dx_229_7).trans ?_
  refine (sx_isub dx_229_8).trans ?_
  refine (sx_istore_n dx_229_9 (Nat.le_of_ble_eq_true rfl) rfl).trans ?_
  refine (sx_iload_n dx_229_10 rfl).trans ?_
  refine (sx_ldcw (v := 858993459) dx_229_11 ow_229 kx_11_266).trans ?_
  refine (sx_iand dx_229_14).trans ?_
  refine (sx_iload_n dx_229_15 rfl).trans ?_
  refine (sx_iconst (v := 2) dx_229_16 rfl).trans ?_
  refine (sx_iushr dx_229_17).trans ?_
  refine (sx_ldcw (v := 858993459) dx_229_18 ow_229 kx_11_266).trans ?_
  refine (sx_iand dx_229_21).trans ?_
  refine (sx_iadd dx_229_22).trans ?_
  refine (sx_istore_n dx_229_23 (Nat.le_of_ble_eq_true rfl) rfl).trans ?_
  refine (sx_iload_n dx_229_24 rfl).trans ?_
  refine (sx_iload_n dx_229_25 rfl).trans ?_
  refine (sx_iconst (v := 4) dx_229_26 rfl).trans ?_
  refine (sx_iushr dx_229_27).trans ?_
  refine (sx_iadd dx_229_28).trans ?_
  refine (sx_ldcw (v := 252645135) dx_229_29 ow_229 kx_11_267).trans ?_
  refine (sx_iand dx_229_32).trans ?_
  refine (sx_istore_n dx_229_33 (Nat.le_of_ble_eq_true rfl) rfl).trans ?_
  refine (sx_iload_n dx_229_34 rfl).trans ?_
  refine (sx_iload_n dx_229_35 rfl).trans ?_
  refine (sx_bipush (v := 8) dx_229_36 rfl).trans ?_
  refine (sx_iushr dx_229_38).trans ?_
  refine (sx_iadd dx_229_39).trans ?_
  refine (sx_istore_n dx_229_40 (Nat.le_of_ble_eq_true rfl) rfl).trans ?_
  refine (sx_iload_n dx_229_41 rfl).trans ?_
  refine (sx_iload_n dx_229_42 rfl).trans ?_
  refine (sx_bipush (v := 16) dx_229_43 rfl).trans ?_
  refine (sx_iushr dx_229_45).trans ?_
  refine (sx_iadd dx_229_46).trans ?_
  refine (sx_istore_n dx_229_47 (Nat.le_of_ble_eq_true rfl) rfl).trans ?_
  refine (sx_iload_n dx_229_48 rfl).trans ?_
  refine (sx_bipush (v := 63) dx_229_49 rfl).trans ?_
  refine (sx_iand dx_229_51).trans ?_
  exact sx_reti dx_229_52 rt_229
theorem dx_230_0 : mj_at 230 0 = some (.iload_n 0) := by decide +kernel
theorem dx_230_1 : mj_at 230 1 = some (.iload_n 1) := by decide +kernel
theorem dx_230_2 : mj_at 230 2 = some (.if_icmp .lt 7) := by decide +kernel
theorem dx_230_5 : mj_at 230 5 = some (.iload_n 0) := by decide +kernel
theorem dx_230_6 : mj_at 230 6 = some (.goto 4) := by decide +kernel
theorem dx_230_9 : mj_at 230 9 = some (.iload_n 1) := by decide +kernel
theorem dx_230_10 : mj_at 230 10 = some (.ireturn) := by decide +kernel
set_option maxRecDepth 10000 in
theorem b_J9_max_7cf53 {sl d : Nat} {M : mj_M} {x1 : Int32} {x2 : Int32}  : mj_C sl d 230 [.int x1, .int x2] M = if x1 < x2 then (some ((x2 : Int32), M)) else (some ((x1 : Int32), M)) := by
  show mj_E sl d 230 0 [.int x1, .int x2] [] M = _
  refine (sx_iload_n dx_230_0 rfl).trans ?_
  refine (sx_iload_n dx_230_1 rfl).trans ?_
  refine (sx_icmp_lt (tgt := 9) dx_230_2 (by decide)).trans ?_
  refine mj_ite ?_ ?_
  · refine (sx_iload_n dx_230_9 rfl).trans ?_
    exact sx_reti dx_230_10 rt_230
  · refine (sx_iload_n dx_230_5 rfl).trans ?_
    refine (sx_goto (tgt := 10) dx_230_6 (by decide)).trans ?_
    exact sx_reti dx_230_10 rt_230
theorem dx_231_0 : mj_at 231 0 = some (.iload_n 0) := by decide +kernel
theorem dx_231_1 : mj_at 231 1 = some (.iload_n 1) := by decide +kernel
theorem dx_231_2 : mj_at 231 2 = some (.if_icmp .gt 7) := by decide +kernel
theorem dx_231_5 : mj_at 231 5 = some (.iload_n 0) := by decide +kernel
theorem dx_231_6 : mj_at 231 6 = some (.goto 4) := by decide +kernel
theorem dx_231_9 : mj_at 231 9 = some (.iload_n 1) := by decide +kernel
theorem dx_231_10 : mj_at 231 10 = some (.ireturn) := by decide +kernel
set_option maxRecDepth 10000 in
theorem b_J9_min_7cf53 {sl d : Nat} {M : mj_M} {x1 : Int32} {x2 : Int32}  : mj_C sl d 231 [.int x1, .int x2] M = if x1 ≤ x2 then (some ((x1 : Int32), M)) else (some ((x2 : Int32), M)) := by
  show mj_E sl d 231 0 [.int x1, .int x2] [] M = _
  refine (sx_iload_n dx_231_0 rfl).trans ?_
  refine (sx_iload_n dx_231_1 rfl).trans ?_
  refine (sx_icmp_gt (tgt := 9) dx_231_2 (by decide)).trans ?_
  refine mj_ite ?_ ?_
  · refine (sx_iload_n dx_231_5 rfl).trans ?_
    refine (sx_goto (tgt := 10) dx_231_6 (by decide)).trans ?_
    exact sx_reti dx_231_10 rt_231
  · refine (sx_iload_n dx_231_9 rfl).trans ?_
    exact sx_reti dx_231_10 rt_231
theorem dx_232_0 : mj_at 232 0 = some (.iload_n 1) := by decide +kernel
theorem dx_232_1 : mj_at 232 1 = some (.iload_n 2) := by decide +kernel
theorem dx_232_2 : mj_at 232 2 = some (.if_icmp .le 44) := by decide +kernel
theorem dx_232_5 : mj_at 232 5 = none := by decide +kernel
theorem dx_232_46 : mj_at 232 46 = some (.iload_n 1) := by decide +kernel
theorem dx_232_47 : mj_at 232 47 = some (.ifCond .ge 12) := by decide +kernel
theorem dx_232_50 : mj_at 232 50 = none := by decide +kernel
theorem dx_232_59 : mj_at 232 59 = some (.iload_n 2) := by decide +kernel
theorem dx_232_60 : mj_at 232 60 = some (.iload_n 0) := by decide +kernel
theorem dx_232_61 : mj_at 232 61 = some (.if_icmp .le 12) := by decide +kernel
theorem dx_232_64 : mj_at 232 64 = none := by decide +kernel
theorem dx_232_73 : mj_at 232 73 = some (.return_) := by decide +kernel
set_option maxRecDepth 10000 in
theorem b_J7_rangeCheck_23922 {sl d : Nat} {M : mj_M} {x1 : Int32} {x2 : Int32} {x3 : Int32}  : mj_C sl (d + 1) 232 [.int x1, .int x2, .int x3] M = if x2 ≤ x3 then (if x2 < 0 then (none) else (if x3 ≤ x1 then (some ((0 : Int32), M)) else (none))) else (none) := by
  show mj_E sl (d + 1) 232 0 [.int x1, .int x2, .int x3] [] M = _
  refine (sx_iload_n dx_232_0 rfl).trans ?_
  refine (sx_iload_n dx_232_1 rfl).trans ?_
  refine (sx_icmp_le (tgt := 46) dx_232_2 (by decide)).trans ?_
  refine mj_ite ?_ ?_
  · refine (sx_iload_n dx_232_46 rfl).trans ?_
    refine (sx_if_ge (tgt := 59) dx_232_47 (by decide)).trans ?_
    refine mj_ite ?_ ?_
    · exact mj_En0 dx_232_50
    · refine (sx_iload_n dx_232_59 rfl).trans ?_
      refine (sx_iload_n dx_232_60 rfl).trans ?_
      refine (sx_icmp_le (tgt := 73) dx_232_61 (by decide)).trans ?_
      refine mj_ite ?_ ?_
      · exact sx_retv dx_232_73 rt_232
      · exact mj_En0 dx_232_64
  · exact mj_En0 dx_232_5
theorem dx_233_0 : mj_at 233 0 = some (.aload_n 0) := by decide +kernel
theorem dx_233_1 : mj_at 233 1 = some (.arraylength) := by decide +kernel
theorem dx_233_2 : mj_at 233 2 = some (.iload_n 1) := by decide +kernel
theorem dx_233_3 : mj_at 233 3 = some (.iload_n 2) := by decide +kernel
theorem dx_233_4 : mj_at 233 4 = some (.invokestatic 13) := by decide +kernel
theorem dx_233_7 : mj_at 233 7 = some (.iload_n 1) := by decide +kernel
theorem dx_233_8 : mj_at 233 8 = some (.istore 4) := by decide +kernel
theorem dx_233_10 : mj_at 233 10 = some (.iload 4) := by decide +kernel
theorem dx_233_12 : mj_at 233 12 = some (.iload_n 2) := by decide +kernel
theorem dx_233_13 : mj_at 233 13 = some (.if_icmp .ge 14) := by decide +kernel
theorem dx_233_16 : mj_at 233 16 = some (.aload_n 0) := by decide +kernel
theorem dx_233_17 : mj_at 233 17 = some (.iload 4) := by decide +kernel
theorem dx_233_19 : mj_at 233 19 = some (.iload_n 3) := by decide +kernel
theorem dx_233_20 : mj_at 233 20 = some (.iastore) := by decide +kernel
theorem dx_233_21 : mj_at 233 21 = some (.iinc 4 1) := by decide +kernel
theorem dx_233_24 : mj_at 233 24 = some (.goto (-14)) := by decide +kernel
theorem dx_233_27 : mj_at 233 27 = some (.return_) := by decide +kernel
set_option maxRecDepth 10000 in
theorem b_J7_fill_fda19 {sl d : Nat} {M : mj_M} {a1 n1 : Nat} {x2 : Int32} {x3 : Int32} {x4 : Int32} (ha1 : mj_ial a1 = n1) (hb1 : ¬ a1 = 72) (hn1 : ¬ n1 = 0) : mj_C sl (d + 1) 233 [.ref a1, .int x2, .int x3, .int x4] M = (mj_C sl d 232 [.int (nI n1), .int x2, .int x3] M).bind (fun q1 => mj_E sl (d + 1) 233 10 [.ref a1, .int x2, .int x3, .int x4, .int x2] [] q1.2) := by
  show mj_E sl (d + 1) 233 0 [.ref a1, .int x2, .int x3, .int x4, .null] [] M = _
  refine (sx_aload_n dx_233_0 rfl).trans ?_
  refine (sx_alen dx_233_1 hb1 ha1 hn1).trans ?_
  refine (sx_iload_n dx_233_2 rfl).trans ?_
  refine (sx_iload_n dx_233_3 rfl).trans ?_
  refine (sx_s3v dx_233_4 ow_233 cx_13_13 (Nat.le_of_ble_eq_true rfl)).trans ?_
  refine mj_bnd (fun q1 => ?_)
  refine (sx_iload_n dx_233_7 rfl).trans ?_
  refine (sx_istore dx_233_8 (Nat.le_of_ble_eq_true rfl) rfl).trans ?_
  rfl
set_option maxRecDepth 10000 in
theorem b_J7_fill_fda19_10 {sl d : Nat} {M : mj_M} {a1 n1 : Nat} {w1 : Value} {y2 : Int32} {y3 : Int32} {y4 : Int32} (ha1 : mj_ial a1 = n1) (hb1 : ¬ a1 = 72) (hn1 : ¬ n1 = 0) : mj_E sl (d + 1) 233 10 [.ref a1, w1, .int y2, .int y3, .int y4] [] M = if y4 < y2 then (if mj_inB y4 n1 = true then (mj_E sl (d + 1) 233 10 [.ref a1, w1, .int y2, .int y3, .int (y4 + 1)] [] (mj_st M a1 (y4 : Int32).toNatClampNeg y3)) else none) else (some ((0 : Int32), M)) := by
  refine (sx_iload dx_233_10 rfl).trans ?_
  refine (sx_iload_n dx_233_12 rfl).trans ?_
  refine (sx_icmp_ge (tgt := 27) dx_233_13 (by decide)).trans ?_
  refine mj_ite ?_ ?_
  · refine (sx_aload_n dx_233_16 rfl).trans ?_
    refine (sx_iload dx_233_17 rfl).trans ?_
    refine (sx_iload_n dx_233_19 rfl).trans ?_
    refine (sx_ist dx_233_20 ha1).trans ?_
    refine mj_ite ?_ rfl
    refine (sx_iinc (v := 1) dx_233_21 rfl rfl rfl).trans ?_
    refine (sx_goto (tgt := 10) dx_233_24 (by decide)).trans ?_
    rfl
  · exact sx_retv dx_233_27 rt_233
