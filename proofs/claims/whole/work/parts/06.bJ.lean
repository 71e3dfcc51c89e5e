theorem dx_229_0 : mj_at 229 0 = some (.iload_n 0) := by decide +kernel
theorem dx_229_1 : mj_at 229 1 = some (.iload_n 0) := by decide +kernel
theorem dx_229_2 : mj_at 229 2 = some (.iconst 1) := by decide +kernel
theorem dx_229_3 : mj_at 229 3 = some (.iushr) := by decide +kernel
theorem dx_229_4 : mj_at 229 4 = some (.ldc_w 265) := by decide +kernel
theorem dx_229_7 : mj_at 229 7 = some (.iand) := by decide +kernel
theorem dx_229_8 : mj_at 229 8 = some (.isub) := by decide +kernel
theorem dx_229_9 : mj_at 229 9 = some (.istore_n 0) := by decide +kernel
theorem dx_229_10 : mj_at 229 10 = some (.iload_n 0) := by decide +kernel
theorem dx_229_11 : mj_at 229 11 = some (.ldc_w 266) := by decide +kernel
theorem dx_229_14 : mj_at 229 14 = some (.iand) := by decide +kernel
theorem dx_229_15 : mj_at 229 15 = some (.iload_n 0) := by decide +kernel
theorem dx_229_16 : mj_at 229 16 = some (.iconst 2) := by decide +kernel
theorem dx_229_17 : mj_at 229 17 = some (.iushr) := by decide +kernel
theorem dx_229_18 : mj_at 229 18 = some (.ldc_w 266) := by decide +kernel
theorem dx_229_21 : mj_at 229 21 = some (.iand) := by decide +kernel
theorem dx_229_22 : mj_at 229 22 = some (.iadd) := by decide +kernel
theorem dx_229_23 : mj_at 229 23 = some (.istore_n 0) := by decide +kernel
theorem dx_229_24 : mj_at 229 24 = some (.iload_n 0) := by decide +kernel
theorem dx_229_25 : mj_at 229 25 = some (.iload_n 0) := by decide +kernel
theorem dx_229_26 : mj_at 229 26 = some (.iconst 4) := by decide +kernel
theorem dx_229_27 : mj_at 229 27 = some (.iushr) := by decide +kernel
theorem dx_229_28 : mj_at 229 28 = some (.iadd) := by decide +kernel
theorem dx_229_29 : mj_at 229 29 = some (.ldc_w 267) := by decide +kernel
theorem dx_229_32 : mj_at 229 32 = some (.iand) := by decide +kernel
theorem dx_229_33 : mj_at 229 33 = some (.istore_n 0) := by decide +kernel
theorem dx_229_34 : mj_at 229 34 = some (.iload_n 0) := by decide +kernel
theorem dx_229_35 : mj_at 229 35 = some (.iload_n 0) := by decide +kernel
theorem dx_229_36 : mj_at 229 36 = some (.bipush 8) := by decide +kernel
theorem dx_229_38 : mj_at 229 38 = some (.iushr) := by decide +kernel
theorem dx_229_39 : mj_at 229 39 = some (.iadd) := by decide +kernel
theorem dx_229_40 : mj_at 229 40 = some (.istore_n 0) := by decide +kernel
theorem dx_229_41 : mj_at 229 41 = some (.iload_n 0) := by decide +kernel
theorem dx_229_42 : mj_at 229 42 = some (.iload_n 0) := by decide +kernel
theorem dx_229_43 : mj_at 229 43 = some (.bipush 16) := by decide +kernel
theorem dx_229_45 : mj_at 229 45 = some (.iushr) := by decide +kernel
theorem dx_229_46 : mj_at 229 46 = some (.iadd) := by decide +kernel
theorem dx_229_47 : mj_at 229 47 = some (.istore_n 0) := by decide +kernel
theorem dx_229_48 : mj_at 229 48 = some (.iload_n 0) := by decide +kernel
theorem dx_229_49 : mj_at 229 49 = some (.bipush 63) := by decide +kernel
theorem dx_229_51 : mj_at 229 51 = some (.iand) := by decide +kernel
theorem dx_229_52 : mj_at 229 52 = some (.ireturn) := by decide +kernel
set_option maxRecDepth 10000 in
theorem b_J6_bitCount_0f7a4 {sl d : Nat} {M : mj_M} {x1 : Int32}  : mj_C sl d 229 [.int x1] M = some (((((((((x1 - ((mj_us x1 1) &&& 1431655765)) &&& 858993459) + ((mj_us (x1 - ((mj_us x1 1) &&& 1431655765)) 2) &&& 858993459)) + (mj_us (((x1 - ((mj_us x1 1) &&& 1431655765)) &&& 858993459) + ((mj_us (x1 - ((mj_us x1 1) &&& 1431655765)) 2) &&& 858993459)) 4)) &&& 252645135) + (mj_us (((((x1 - ((mj_us x1 1) &&& 1431655765)) &&& 858993459) + ((mj_us (x1 - ((mj_us x1 1) &&& 1431655765)) 2) &&& 858993459)) + (mj_us (((x1 - ((mj_us x1 1) &&& 1431655765)) &&& 858993459) + ((mj_us (x1 - ((mj_us x1 1) &&& 1431655765)) 2) &&& 858993459)) 4)) &&& 252645135) 8)) + (mj_us ((((((x1 - ((mj_us x1 1) &&& 1431655765)) &&& 858993459) + ((mj_us (x1 - ((mj_us x1 1) &&& 1431655765)) 2) &&& 858993459)) + (mj_us (((x1 - ((mj_us x1 1) &&& 1431655765)) &&& 858993459) + ((mj_us (x1 - ((mj_us x1 1) &&& 1431655765)) 2) &&& 858993459)) 4)) &&& 252645135) + (mj_us (((((x1 - ((mj_us x1 1) &&& 1431655765)) &&& 858993459) + ((mj_us (x1 - ((mj_us x1 1) &&& 1431655765)) 2) &&& 858993459)) + (mj_us (((x1 - ((mj_us x1 1) &&& 1431655765)) &&& 858993459) + ((mj_us (x1 - ((mj_us x1 1) &&& 1431655765)) 2) &&& 858993459)) 4)) &&& 252645135) 8)) 16)) &&& 63 : Int32), M) := by
  show mj_E sl d 229 0 [.int x1] [] M = _
  refine (sx_iload_n dx_229_0 rfl).trans ?_
  refine (sx_iload_n dx_229_1 rfl).trans ?_
  refine (sx_iconst (v := 1) dx_229_2 rfl).trans ?_
  refine (sx_iushr dx_229_3).trans ?_
  refine (sx_ldcw (v := 1431655765) dx_229_4 ow_229 kx_11_265).trans ?_
  refine (sx_iand dx_229_7).trans ?_
  refine (sx_isub dx_229_8).trans ?_
  refine (sx_istore_n dx_229_9 (Nat.le_of_ble_eq_true rfl) rfl).trans ?_
  refine (sx_iload_n dx_229_10 rfl).trans ?_
  refine (sx_ldcw (v := 858993459) dx_229_11 ow_229 kx_11_266).trans ?_
  refine (sx_iand dx_229_14).trans ?_
  refine (sx_iload_n dx_229_15 rfl).trans ?_
  refine (sx_iconst (v := 2) dx_229_16 rfl).trans ?_
  refine (sx_iushr dx_229_17).trans ?_
  refine (sx_ldcw (v := 858993459) dx_229_18 ow_229 kx_11_266).trans ?_
  refine (sx_iand dx_229_21).trans ?_
  refine (sx_iadd dx_229_22).trans ?_
  refine (sx_istore_n dx_229_23 (Nat.le_of_ble_eq_true rfl) rfl).trans ?_
  refine (sx_iload_n dx_229_24 rfl).trans ?_
  refine (sx_iload_n dx_229_25 rfl).trans ?_
  refine (sx_iconst (v := 4) dx_229_26 rfl).trans ?_
  refine (sx_iushr dx_229_27).trans ?_
  refine (sx_iadd dx_229_28).trans ?_
  refine (sx_ldcw (v := 252645135) dx_229_29 ow_229 kx_11_267).trans ?_
  refine (sx_iand dx_229_32).trans ?_
  refine (sx_istore_n dx_229_33 (Nat.le_of_ble_eq_true rfl) rfl).trans ?_
  refine (sx_iload_n dx_229_34 rfl).trans ?_
  refine (sx_iload_n dx_229_35 rfl).trans ?_
  refine (sx_bipush (v := 8) dx_229_36 rfl).trans ?_
  refine (sx_iushr dx_229_38).trans ?_
  refine (sx_iadd dx_229_39).trans ?_
  refine (sx_istore_n dx_229_40 (Nat.le_of_ble_eq_true rfl) rfl).trans ?_
  refine (sx_iload_n dx_229_41 rfl).trans ?_
  refine (sx_iload_n dx_229_42 rfl).trans ?_
  refine (sx_bipush (v := 16) dx_229_43 rfl).trans ?_
  refine (sx_iushr dx_229_45).trans ?_
  refine (sx_iadd dx_229_46).trans ?_
  refine (sx_istore_n dx_229_47 (Nat.le_of_ble_eq_true rfl) rfl).trans ?_
  refine (sx_iload_n dx_229_48 rfl).trans ?_
  refine (sx_bipush (v := 63) dx_229_49 rfl).trans ?_
  refine (sx_iand dx_229_51).trans ?_
  exact sx_reti dx_229_52 rt_229
theorem dx_230_0 : mj_at 230 0 = some (.iload_n 1) := by decide +kernel
theorem dx_230_1 : mj_at 230 1 = some (.iload_n 2) := by decide +kernel
theorem dx_230_2 : mj_at 230 2 = some (.if_icmp .le 44) := by decide +kernel
theorem dx_230_5 : mj_at 230 5 = none := by decide +kernel
theorem dx_230_46 : mj_at 230 46 = some (.iload_n 1) := by decide +kernel
theorem dx_230_47 : mj_at 230 47 = some (.ifCond .ge 12) := by decide +kernel
theorem dx_230_50 : mj_at 230 50 = none := by decide +kernel
theorem dx_230_59 : mj_at 230 59 = some (.iload_n 2) := by decide +kernel
theorem dx_230_60 : mj_at 230 60 = some (.iload_n 0) := by decide +kernel
theorem dx_230_61 : mj_at 230 61 = some (.if_icmp .le 12) := by decide +kernel
theorem dx_230_64 : mj_at 230 64 = none := by decide +kernel
theorem dx_230_73 : mj_at 230 73 = some (.return_) := by decide +kernel
set_option maxRecDepth 10000 in
theorem b_J7_rangeCheck_23922 {sl d : Nat} {M : mj_M} {x1 : Int32} {x2 : Int32} {x3 : Int32}  : mj_C sl (d + 1) 230 [.int x1, .int x2, .int x3] M = if x2 ≤ x3 then (if x2 < 0 then (none) else (if x3 ≤ x1 then (some ((0 : Int32), M)) else (none))) else (none) := by
  show mj_E sl (d + 1) 230 0 [.int x1, .int x2, .int x3] [] M = _
  refine (sx_iload_n dx_230_0 rfl).trans ?_
  refine (sx_iload_n dx_230_1 rfl).trans ?_
  refine (sx_icmp_le (tgt := 46) dx_230_2 (by decide)).trans ?_
  refine mj_ite ?_ ?_
  · refine (sx_iload_n dx_230_46 rfl).trans ?_
    refine (sx_if_ge (tgt := 59) dx_230_47 (by decide)).trans ?_
    refine mj_ite ?_ ?_
    · exact mj_En0 dx_230_50
    · refine (sx_iload_n dx_230_59 rfl).trans ?_
      refine (sx_iload_n dx_230_60 rfl).trans ?_
      refine (sx_icmp_le (tgt := 73) dx_230_61 (by decide)).trans ?_
      refine mj_ite ?_ ?_
      · exact sx_retv dx_230_73 rt_230
      · exact mj_En0 dx_230_64
  · exact mj_En0 dx_230_5
theorem dx_231_0 : mj_at 231 0 = some (.aload_n 0) := by decide +kernel
theorem dx_231_1 : mj_at 231 1 = some (.arraylength) := by decide +kernel
theorem dx_231_2 : mj_at 231 2 = some (.iload_n 1) := by decide +kernel
theorem dx_231_3 : mj_at 231 3 = some (.iload_n 2) := by decide +kernel
theorem dx_231_4 : mj_at 231 4 = some (.invokestatic 13) := by decide +kernel
theorem dx_231_7 : mj_at 231 7 = some (.iload_n 1) := by decide +kernel
theorem dx_231_8 : mj_at 231 8 = some (.istore 4) := by decide +kernel
theorem dx_231_10 : mj_at 231 10 = some (.iload 4) := by decide +kernel
theorem dx_231_12 : mj_at 231 12 = some (.iload_n 2) := by decide +kernel
theorem dx_231_13 : mj_at 231 13 = some (.if_icmp .ge 14) := by decide +kernel
theorem dx_231_16 : mj_at 231 16 = some (.aload_n 0) := by decide +kernel
theorem dx_231_17 : mj_at 231 17 = some (.iload 4) := by decide +kernel
theorem dx_231_19 : mj_at 231 19 = some (.iload_n 3) := by decide +kernel
theorem dx_231_20 : mj_at 231 20 = some (.iastore) := by decide +kernel
theorem dx_231_21 : mj_at 231 21 = some (.iinc 4 1) := by decide +kernel
theorem dx_231_24 : mj_at 231 24 = some (.goto (-14)) := by decide +kernel
theorem dx_231_27 : mj_at 231 27 = some (.return_) := by decide +kernel
set_option maxRecDepth 10000 in
theorem b_J7_fill_fda19 {sl d : Nat} {M : mj_M} {a1 n1 : Nat} {x2 : Int32} {x3 : Int32} {x4 : Int32} (ha1 : mj_ial a1 = n1) (hb1 : ¬ a1 = 72) (hn1 : ¬ n1 = 0) : mj_C sl (d + 1) 231 [.ref a1, .int x2, .int x3, .int x4] M = (mj_C sl d 230 [.int (nI n1), .int x2, .int x3] M).bind (fun q1 => mj_E sl (d + 1) 231 10 [.ref a1, .int x2, .int x3, .int x4, .int x2] [] q1.2) := by
  show mj_E sl (d + 1) 231 0 [.ref a1, .int x2, .int x3, .int x4, .null] [] M = _
  refine (sx_aload_n dx_231_0 rfl).trans ?_
  refine (sx_alen dx_231_1 hb1 ha1 hn1).trans ?_
  refine (sx_iload_n dx_231_2 rfl).trans ?_
  refine (sx_iload_n dx_231_3 rfl).trans ?_
  refine (sx_s3v dx_231_4 ow_231 cx_13_13 (Nat.le_of_ble_eq_true rfl)).trans ?_
  refine mj_bnd (fun q1 => ?_)
  refine (sx_iload_n dx_231_7 rfl).trans ?_
  refine (sx_istore dx_231_8 (Nat.le_of_ble_eq_true rfl) rfl).trans ?_
  rfl
set_option maxRecDepth 10000 in
theorem b_J7_fill_fda19_10 {sl d : Nat} {M : mj_M} {a1 n1 : Nat} {w1 : Value} {y2 : Int32} {y3 : Int32} {y4 : Int32} (ha1 : mj_ial a1 = n1) (hb1 : ¬ a1 = 72) (hn1 : ¬ n1 = 0) : mj_E sl (d + 1) 231 10 [.ref a1, w1, .int y2, .int y3, .int y4] [] M = if y4 < y2 then (if mj_inB y4 n1 = true then (mj_E sl (d + 1) 231 10 [.ref a1, w1, .int y2, .int y3, .int (y4 + 1)] [] (mj_st M a1 (y4 : Int32).toNatClampNeg y3)) else none) else (some ((0 : Int32), M)) := by
  refine (sx_iload dx_231_10 rfl).trans ?_
  refine (sx_iload_n dx_231_12 rfl).trans ?_
  refine (sx_icmp_ge (tgt := 27) dx_231_13 (by decide)).trans ?_
  refine mj_ite ?_ ?_
  · refine (sx_aload_n dx_231_16 rfl).trans ?_
    refine (sx_iload dx_231_17 rfl).trans ?_
    refine (sx_iload_n dx_231_19 rfl).trans ?_
    refine (sx_ist dx_231_20 ha1).trans ?_
    refine mj_ite ?_ rfl
    refine (sx_iinc (v := 1) dx_231_21 rfl rfl rfl).trans ?_
    refine (sx_goto (tgt := 10) dx_231_24 (by decide)).trans ?_
    rfl
  · exact sx_retv dx_231_27 rt_231
theorem dx_233_0 : mj_at 233 0 = some (.aload_n 0) := by decide +kernel
theorem dx_233_1 : mj_at 233 1 = some (.getfield 9) := by decide +kernel
theorem dx_233_4 : mj_at 233 4 = some (.arraylength) := by decide +kernel
theorem dx_233_5 : mj_at 233 5 = some (.aload_n 0) := by decide +kernel
theorem dx_233_6 : mj_at 233 6 = some (.invokevirtual 335) := by decide +kernel
theorem dx_233_9 : mj_at 233 9 = some (.ishr) := by decide +kernel
theorem dx_233_10 : mj_at 233 10 = some (.ireturn) := by decide +kernel
set_option maxRecDepth 10000 in
theorem b_J0_length_8abf5 {sl d : Nat} {M : mj_M}   : mj_C sl (d + 1) 233 [.ref 73] M = (mj_C sl d 236 [.ref 73] M).bind (fun q1 => some (((9 : Int32) >>> (q1.1 &&& 31) : Int32), q1.2)) := by
  show mj_E sl (d + 1) 233 0 [.ref 73] [] M = _
  refine (sx_aload_n dx_233_0 rfl).trans ?_
  refine (sx_gf4 dx_233_1 ow_233 fx_14_9).trans ?_
  refine (sx_alen74 dx_233_4).trans ?_
  refine (sx_aload_n dx_233_5 rfl).trans ?_
  refine (sx_v0i dx_233_6 ow_233 cx_14_335 oc_73 (Nat.le_of_ble_eq_true rfl)).trans ?_
  refine mj_bnd (fun q1 => ?_)
  refine (sx_ishr dx_233_9).trans ?_
  exact sx_reti dx_233_10 rt_233
theorem dx_234_0 : mj_at 234 0 = some (.aload_n 0) := by decide +kernel
theorem dx_234_1 : mj_at 234 1 = some (.iload_n 1) := by decide +kernel
theorem dx_234_2 : mj_at 234 2 = some (.iconst 0) := by decide +kernel
theorem dx_234_3 : mj_at 234 3 = some (.invokevirtual 633) := by decide +kernel
theorem dx_234_6 : mj_at 234 6 = some (.ireturn) := by decide +kernel
set_option maxRecDepth 10000 in
theorem b_J0_indexOf_0f7a4 {sl d : Nat} {M : mj_M} {x1 : Int32}  : mj_C sl (d + 1) 234 [.ref 73, .int x1] M = (mj_C sl d 235 [.ref 73, .int x1, .int 0] M).bind (fun q1 => some ((q1.1 : Int32), q1.2)) := by
  show mj_E sl (d + 1) 234 0 [.ref 73, .int x1] [] M = _
  refine (sx_aload_n dx_234_0 rfl).trans ?_
  refine (sx_iload_n dx_234_1 rfl).trans ?_
  refine (sx_iconst (v := 0) dx_234_2 rfl).trans ?_
  refine (sx_v2i dx_234_3 ow_234 cx_14_633 oc_73 (Nat.le_of_ble_eq_true rfl)).trans ?_
  refine mj_bnd (fun q1 => ?_)
  exact sx_reti dx_234_6 rt_234
theorem dx_235_0 : mj_at 235 0 = some (.aload_n 0) := by decide +kernel
theorem dx_235_1 : mj_at 235 1 = some (.invokevirtual 492) := by decide +kernel
theorem dx_235_4 : mj_at 235 4 = some (.ifCond .eq 19) := by decide +kernel
theorem dx_235_7 : mj_at 235 7 = some (.aload_n 0) := by decide +kernel
theorem dx_235_8 : mj_at 235 8 = some (.getfield 9) := by decide +kernel
theorem dx_235_11 : mj_at 235 11 = some (.iload_n 1) := by decide +kernel
theorem dx_235_12 : mj_at 235 12 = some (.iload_n 2) := by decide +kernel
theorem dx_235_13 : mj_at 235 13 = some (.aload_n 0) := by decide +kernel
theorem dx_235_14 : mj_at 235 14 = some (.invokevirtual 505) := by decide +kernel
theorem dx_235_17 : mj_at 235 17 = some (.invokestatic 637) := by decide +kernel
theorem dx_235_20 : mj_at 235 20 = some (.goto 16) := by decide +kernel
theorem dx_235_23 : mj_at 235 23 = some (.aload_n 0) := by decide +kernel
theorem dx_235_24 : mj_at 235 24 = some (.getfield 9) := by decide +kernel
theorem dx_235_27 : mj_at 235 27 = some (.iload_n 1) := by decide +kernel
theorem dx_235_28 : mj_at 235 28 = some (.iload_n 2) := by decide +kernel
theorem dx_235_29 : mj_at 235 29 = some (.aload_n 0) := by decide +kernel
theorem dx_235_30 : mj_at 235 30 = some (.invokevirtual 505) := by decide +kernel
theorem dx_235_33 : mj_at 235 33 = some (.invokestatic 640) := by decide +kernel
theorem dx_235_36 : mj_at 235 36 = some (.ireturn) := by decide +kernel
set_option maxRecDepth 10000 in
theorem b_J0_indexOf_7cf53 {sl d : Nat} {M : mj_M} {x1 : Int32} {x2 : Int32}  : mj_C sl (d + 1) 235 [.ref 73, .int x1, .int x2] M = (mj_C sl d 237 [.ref 73] M).bind (fun q1 => if q1.1 = 0 then ((mj_C sl d 233 [.ref 73] q1.2).bind (fun q2 => none)) else ((mj_C sl d 233 [.ref 73] q1.2).bind (fun q3 => (mj_C sl d 239 [.ref 74, .int x1, .int x2, .int q3.1] q3.2).bind (fun q4 => some ((q4.1 : Int32), q4.2))))) := by
  show mj_E sl (d + 1) 235 0 [.ref 73, .int x1, .int x2] [] M = _
  refine (sx_aload_n dx_235_0 rfl).trans ?_
  refine (sx_v0i dx_235_1 ow_235 cx_14_492 oc_73 (Nat.le_of_ble_eq_true rfl)).trans ?_
  refine mj_bnd (fun q1 => ?_)
  refine (sx_if_eq (tgt := 23) dx_235_4 (by decide)).trans ?_
  refine mj_ite ?_ ?_
  · refine (sx_aload_n dx_235_23 rfl).trans ?_
    refine (sx_gf4 dx_235_24 ow_235 fx_14_9).trans ?_
    refine (sx_iload_n dx_235_27 rfl).trans ?_
    refine (sx_iload_n dx_235_28 rfl).trans ?_
    refine (sx_aload_n dx_235_29 rfl).trans ?_
    refine (sx_v0i dx_235_30 ow_235 cx_14_505 oc_73 (Nat.le_of_ble_eq_true rfl)).trans ?_
    refine mj_bnd (fun q2 => ?_)
    exact mj_En dx_235_33 (mj_ksn ow_235 cn_14_640)
  · refine (sx_aload_n dx_235_7 rfl).trans ?_
    refine (sx_gf4 dx_235_8 ow_235 fx_14_9).trans ?_
    refine (sx_iload_n dx_235_11 rfl).trans ?_
    refine (sx_iload_n dx_235_12 rfl).trans ?_
    refine (sx_aload_n dx_235_13 rfl).trans ?_
    refine (sx_v0i dx_235_14 ow_235 cx_14_505 oc_73 (Nat.le_of_ble_eq_true rfl)).trans ?_
    refine mj_bnd (fun q3 => ?_)
    refine (sx_s4i dx_235_17 ow_235 cx_14_637 (Nat.le_of_ble_eq_true rfl)).trans ?_
    refine mj_bnd (fun q4 => ?_)
    refine (sx_goto (tgt := 36) dx_235_20 (by decide)).trans ?_
    exact sx_reti dx_235_36 rt_235
theorem dx_236_0 : mj_at 236 0 = some (.getstatic 38) := by decide +kernel
theorem dx_236_3 : mj_at 236 3 = some (.ifCond .eq 10) := by decide +kernel
theorem dx_236_6 : mj_at 236 6 = some (.aload_n 0) := by decide +kernel
theorem dx_236_7 : mj_at 236 7 = some (.getfield 15) := by decide +kernel
theorem dx_236_10 : mj_at 236 10 = some (.goto 4) := by decide +kernel
theorem dx_236_13 : mj_at 236 13 = some (.iconst 1) := by decide +kernel
theorem dx_236_14 : mj_at 236 14 = some (.ireturn) := by decide +kernel
set_option maxRecDepth 10000 in
theorem b_J0_coder_7d493 {sl d : Nat} {M : mj_M}   : mj_C sl d 236 [.ref 73] M = some ((0 : Int32), M) := by
  show mj_E sl d 236 0 [.ref 73] [] M = _
  refine (sx_gs dx_236_0 ow_236 gs_14_38).trans ?_
  refine (sx_if_eq_f (tgt := 13) dx_236_3 (by decide) (by decide)).trans ?_
  refine (sx_aload_n dx_236_6 rfl).trans ?_
  refine (sx_gf5 dx_236_7 ow_236 fx_14_15).trans ?_
  refine (sx_goto (tgt := 14) dx_236_10 (by decide)).trans ?_
  exact sx_retb dx_236_14 rt_236 (by decide)
theorem dx_237_0 : mj_at 237 0 = some (.getstatic 38) := by decide +kernel
theorem dx_237_3 : mj_at 237 3 = some (.ifCond .eq 14) := by decide +kernel
theorem dx_237_6 : mj_at 237 6 = some (.aload_n 0) := by decide +kernel
theorem dx_237_7 : mj_at 237 7 = some (.getfield 15) := by decide +kernel
theorem dx_237_10 : mj_at 237 10 = some (.ifCond .ne 7) := by decide +kernel
theorem dx_237_13 : mj_at 237 13 = some (.iconst 1) := by decide +kernel
theorem dx_237_14 : mj_at 237 14 = some (.goto 4) := by decide +kernel
theorem dx_237_17 : mj_at 237 17 = some (.iconst 0) := by decide +kernel
theorem dx_237_18 : mj_at 237 18 = some (.ireturn) := by decide +kernel
set_option maxRecDepth 10000 in
theorem b_J0_isLatin1_aae02 {sl d : Nat} {M : mj_M}   : mj_C sl d 237 [.ref 73] M = some ((1 : Int32), M) := by
  show mj_E sl d 237 0 [.ref 73] [] M = _
  refine (sx_gs dx_237_0 ow_237 gs_14_38).trans ?_
  refine (sx_if_eq_f (tgt := 17) dx_237_3 (by decide) (by decide)).trans ?_
  refine (sx_aload_n dx_237_6 rfl).trans ?_
  refine (sx_gf5 dx_237_7 ow_237 fx_14_15).trans ?_
  refine (sx_if_ne_t (tgt := 17) dx_237_10 (by decide) (by decide)).trans ?_
  refine (sx_iconst (v := 1) dx_237_13 rfl).trans ?_
  refine (sx_goto (tgt := 18) dx_237_14 (by decide)).trans ?_
  exact sx_retz dx_237_18 rt_237 (by decide)
theorem dx_238_0 : mj_at 238 0 = some (.iload_n 0) := by decide +kernel
theorem dx_238_1 : mj_at 238 1 = some (.ifCond .lt 14) := by decide +kernel
theorem dx_238_4 : mj_at 238 4 = some (.iload_n 0) := by decide +kernel
theorem dx_238_5 : mj_at 238 5 = some (.sipush 255) := by decide +kernel
theorem dx_238_8 : mj_at 238 8 = some (.if_icmp .gt 7) := by decide +kernel
theorem dx_238_11 : mj_at 238 11 = some (.iconst 1) := by decide +kernel
theorem dx_238_12 : mj_at 238 12 = some (.goto 4) := by decide +kernel
theorem dx_238_15 : mj_at 238 15 = some (.iconst 0) := by decide +kernel
theorem dx_238_16 : mj_at 238 16 = some (.ireturn) := by decide +kernel
set_option maxRecDepth 10000 in
theorem b_J1_canEncode_9a6ad {sl d : Nat} {M : mj_M} {x1 : Int32}  : mj_C sl d 238 [.int x1] M = if x1 < 0 then (some ((0 : Int32), M)) else (if x1 ≤ 255 then (some ((1 : Int32), M)) else (some ((0 : Int32), M))) := by
  show mj_E sl d 238 0 [.int x1] [] M = _
  refine (sx_iload_n dx_238_0 rfl).trans ?_
  refine (sx_if_lt (tgt := 15) dx_238_1 (by decide)).trans ?_
  refine mj_ite ?_ ?_
  · refine (sx_iconst (v := 0) dx_238_15 rfl).trans ?_
    exact sx_retz dx_238_16 rt_238 (by decide)
  · refine (sx_iload_n dx_238_4 rfl).trans ?_
    refine (sx_sipush (v := 255) dx_238_5 rfl).trans ?_
    refine (sx_icmp_gt (tgt := 15) dx_238_8 (by decide)).trans ?_
    refine mj_ite ?_ ?_
    · refine (sx_iconst (v := 1) dx_238_11 rfl).trans ?_
      refine (sx_goto (tgt := 16) dx_238_12 (by decide)).trans ?_
      exact sx_retz dx_238_16 rt_238 (by decide)
    · refine (sx_iconst (v := 0) dx_238_15 rfl).trans ?_
      exact sx_retz dx_238_16 rt_238 (by decide)
theorem dx_239_0 : mj_at 239 0 = some (.iload_n 1) := by decide +kernel
theorem dx_239_1 : mj_at 239 1 = some (.invokestatic 88) := by decide +kernel
theorem dx_239_4 : mj_at 239 4 = some (.ifCond .ne 5) := by decide +kernel
theorem dx_239_7 : mj_at 239 7 = some (.iconst (-1)) := by decide +kernel
theorem dx_239_8 : mj_at 239 8 = some (.ireturn) := by decide +kernel
theorem dx_239_9 : mj_at 239 9 = some (.iload_n 2) := by decide +kernel
theorem dx_239_10 : mj_at 239 10 = some (.iconst 0) := by decide +kernel
theorem dx_239_11 : mj_at 239 11 = some (.invokestatic 92) := by decide +kernel
theorem dx_239_14 : mj_at 239 14 = some (.istore_n 2) := by decide +kernel
theorem dx_239_15 : mj_at 239 15 = some (.iload_n 3) := by decide +kernel
theorem dx_239_16 : mj_at 239 16 = some (.aload_n 0) := by decide +kernel
theorem dx_239_17 : mj_at 239 17 = some (.arraylength) := by decide +kernel
theorem dx_239_18 : mj_at 239 18 = some (.invokestatic 38) := by decide +kernel
theorem dx_239_21 : mj_at 239 21 = some (.istore_n 3) := by decide +kernel
theorem dx_239_22 : mj_at 239 22 = some (.iload_n 2) := by decide +kernel
theorem dx_239_23 : mj_at 239 23 = some (.iload_n 3) := by decide +kernel
theorem dx_239_24 : mj_at 239 24 = some (.if_icmp .lt 5) := by decide +kernel
theorem dx_239_27 : mj_at 239 27 = some (.iconst (-1)) := by decide +kernel
theorem dx_239_28 : mj_at 239 28 = some (.ireturn) := by decide +kernel
theorem dx_239_29 : mj_at 239 29 = some (.aload_n 0) := by decide +kernel
theorem dx_239_30 : mj_at 239 30 = some (.iload_n 1) := by decide +kernel
theorem dx_239_31 : mj_at 239 31 = some (.iload_n 2) := by decide +kernel
theorem dx_239_32 : mj_at 239 32 = some (.iload_n 3) := by decide +kernel
theorem dx_239_33 : mj_at 239 33 = some (.invokestatic 95) := by decide +kernel
theorem dx_239_36 : mj_at 239 36 = some (.ireturn) := by decide +kernel
set_option maxRecDepth 10000 in
theorem b_J1_indexOf_4cfef {sl d : Nat} {M : mj_M} {x2 : Int32} {x3 : Int32} {x4 : Int32}  : mj_C sl (d + 1) 239 [.ref 74, .int x2, .int x3, .int x4] M = (mj_C sl d 238 [.int x2] M).bind (fun q1 => if q1.1 = 0 then (some (((-1) : Int32), q1.2)) else (if mj_mx x3 0 < (mj_mn x4 9) then ((mj_C sl d 240 [.ref 74, .int x2, .int (mj_mx x3 0), .int (mj_mn x4 9)] q1.2).bind (fun q2 => some ((q2.1 : Int32), q2.2))) else (some (((-1) : Int32), q1.2)))) := by
  show mj_E sl (d + 1) 239 0 [.ref 74, .int x2, .int x3, .int x4] [] M = _
  refine (sx_iload_n dx_239_0 rfl).trans ?_
  refine (sx_s1i dx_239_1 ow_239 cx_15_88 (Nat.le_of_ble_eq_true rfl)).trans ?_
  refine mj_bnd (fun q1 => ?_)
  refine (sx_if_ne (tgt := 9) dx_239_4 (by decide)).trans ?_
  refine mj_ite ?_ ?_
  · refine (sx_iconst (v := (-1)) dx_239_7 rfl).trans ?_
    exact sx_reti dx_239_8 rt_239
  · refine (sx_iload_n dx_239_9 rfl).trans ?_
    refine (sx_iconst (v := 0) dx_239_10 rfl).trans ?_
    refine (sx_max dx_239_11 ow_239 cx5_15_92 (Nat.le_of_ble_eq_true rfl)).trans ?_
    refine (sx_istore_n dx_239_14 (Nat.le_of_ble_eq_true rfl) rfl).trans ?_
    refine (sx_iload_n dx_239_15 rfl).trans ?_
    refine (sx_aload_n dx_239_16 rfl).trans ?_
    refine (sx_alen74 dx_239_17).trans ?_
    refine (sx_min dx_239_18 ow_239 cx6_15_38 (Nat.le_of_ble_eq_true rfl)).trans ?_
    refine (sx_istore_n dx_239_21 (Nat.le_of_ble_eq_true rfl) rfl).trans ?_
    refine (sx_iload_n dx_239_22 rfl).trans ?_
    refine (sx_iload_n dx_239_23 rfl).trans ?_
    refine (sx_icmp_lt (tgt := 29) dx_239_24 (by decide)).trans ?_
    refine mj_ite ?_ ?_
    · refine (sx_aload_n dx_239_29 rfl).trans ?_
      refine (sx_iload_n dx_239_30 rfl).trans ?_
      refine (sx_iload_n dx_239_31 rfl).trans ?_
      refine (sx_iload_n dx_239_32 rfl).trans ?_
      refine (sx_s4i dx_239_33 ow_239 cx_15_95 (Nat.le_of_ble_eq_true rfl)).trans ?_
      refine mj_bnd (fun q2 => ?_)
      exact sx_reti dx_239_36 rt_239
    · refine (sx_iconst (v := (-1)) dx_239_27 rfl).trans ?_
      exact sx_reti dx_239_28 rt_239
theorem dx_240_0 : mj_at 240 0 = some (.iload_n 1) := by decide +kernel
theorem dx_240_1 : mj_at 240 1 = some (.i2b) := by decide +kernel
theorem dx_240_2 : mj_at 240 2 = some (.istore 4) := by decide +kernel
theorem dx_240_4 : mj_at 240 4 = some (.iload_n 2) := by decide +kernel
theorem dx_240_5 : mj_at 240 5 = some (.istore 5) := by decide +kernel
theorem dx_240_7 : mj_at 240 7 = some (.iload 5) := by decide +kernel
theorem dx_240_9 : mj_at 240 9 = some (.iload_n 3) := by decide +kernel
theorem dx_240_10 : mj_at 240 10 = some (.if_icmp .ge 21) := by decide +kernel
theorem dx_240_13 : mj_at 240 13 = some (.aload_n 0) := by decide +kernel
theorem dx_240_14 : mj_at 240 14 = some (.iload 5) := by decide +kernel
theorem dx_240_16 : mj_at 240 16 = some (.baload) := by decide +kernel
theorem dx_240_17 : mj_at 240 17 = some (.iload 4) := by decide +kernel
theorem dx_240_19 : mj_at 240 19 = some (.if_icmp .ne 6) := by decide +kernel
theorem dx_240_22 : mj_at 240 22 = some (.iload 5) := by decide +kernel
theorem dx_240_24 : mj_at 240 24 = some (.ireturn) := by decide +kernel
theorem dx_240_25 : mj_at 240 25 = some (.iinc 5 1) := by decide +kernel
theorem dx_240_28 : mj_at 240 28 = some (.goto (-21)) := by decide +kernel
theorem dx_240_31 : mj_at 240 31 = some (.iconst (-1)) := by decide +kernel
theorem dx_240_32 : mj_at 240 32 = some (.ireturn) := by decide +kernel
set_option maxRecDepth 10000 in
theorem b_J1_indexOfChar_4cfef {sl d : Nat} {M : mj_M} {x2 : Int32} {x3 : Int32} {x4 : Int32}  : mj_C sl d 240 [.ref 74, .int x2, .int x3, .int x4] M = mj_E sl d 240 7 [.ref 74, .int x2, .int x3, .int x4, .int ((x2 : Int32).toInt8.toInt32), .int x3] [] M := by
  show mj_E sl d 240 0 [.ref 74, .int x2, .int x3, .int x4, .null, .null] [] M = _
  refine (sx_iload_n dx_240_0 rfl).trans ?_
  refine (sx_i2b dx_240_1).trans ?_
  refine (sx_istore dx_240_2 (Nat.le_of_ble_eq_true rfl) rfl).trans ?_
  refine (sx_iload_n dx_240_4 rfl).trans ?_
  refine (sx_istore dx_240_5 (Nat.le_of_ble_eq_true rfl) rfl).trans ?_
  rfl
set_option maxRecDepth 10000 in
theorem b_J1_indexOfChar_4cfef_7 {sl d : Nat} {M : mj_M} {w1 : Value} {w2 : Value} {y3 : Int32} {y4 : Int32} {y5 : Int32}  : mj_E sl d 240 7 [.ref 74, w1, w2, .int y3, .int y4, .int y5] [] M = if y5 < y3 then (if mj_inB y5 9 = true then (if M 74 (y5 : Int32).toNatClampNeg = y4 then (some ((y5 : Int32), M)) else (mj_E sl d 240 7 [.ref 74, w1, w2, .int y3, .int y4, .int (y5 + 1)] [] M)) else none) else (some (((-1) : Int32), M)) := by
  refine (sx_iload dx_240_7 rfl).trans ?_
  refine (sx_iload_n dx_240_9 rfl).trans ?_
  refine (sx_icmp_ge (tgt := 31) dx_240_10 (by decide)).trans ?_
  refine mj_ite ?_ ?_
  · refine (sx_aload_n dx_240_13 rfl).trans ?_
    refine (sx_iload dx_240_14 rfl).trans ?_
    refine (sx_bld dx_240_16 bl_74).trans ?_
    refine mj_ite ?_ rfl
    refine (sx_iload dx_240_17 rfl).trans ?_
    refine (sx_icmp_ne (tgt := 25) dx_240_19 (by decide)).trans ?_
    refine mj_ite ?_ ?_
    · refine (sx_iload dx_240_22 rfl).trans ?_
      exact sx_reti dx_240_24 rt_240
    · refine (sx_iinc (v := 1) dx_240_25 rfl rfl rfl).trans ?_
      refine (sx_goto (tgt := 7) dx_240_28 (by decide)).trans ?_
      rfl
  · refine (sx_iconst (v := (-1)) dx_240_31 rfl).trans ?_
    exact sx_reti dx_240_32 rt_240
