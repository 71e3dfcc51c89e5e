theorem dx_151_0 : mj_at 151 0 = some (.aload_n 0) := by decide +kernel
theorem dx_151_1 : mj_at 151 1 = some (.getfield 131) := by decide +kernel
theorem dx_151_4 : mj_at 151 4 = some (.istore_n 1) := by decide +kernel
theorem dx_151_5 : mj_at 151 5 = some (.aload_n 0) := by decide +kernel
theorem dx_151_6 : mj_at 151 6 = some (.iconst 0) := by decide +kernel
theorem dx_151_7 : mj_at 151 7 = some (.putfield 147) := by decide +kernel
theorem dx_151_10 : mj_at 151 10 = some (.aload_n 0) := by decide +kernel
theorem dx_151_11 : mj_at 151 11 = some (.invokevirtual 150) := by decide +kernel
theorem dx_151_14 : mj_at 151 14 = some (.ifCond .eq 55) := by decide +kernel
theorem dx_151_17 : mj_at 151 17 = some (.aload_n 0) := by decide +kernel
theorem dx_151_18 : mj_at 151 18 = some (.getfield 131) := by decide +kernel
theorem dx_151_21 : mj_at 151 21 = some (.iload_n 1) := by decide +kernel
theorem dx_151_22 : mj_at 151 22 = some (.iconst 5) := by decide +kernel
theorem dx_151_23 : mj_at 151 23 = some (.iadd) := by decide +kernel
theorem dx_151_24 : mj_at 151 24 = some (.if_icmp .ne 13) := by decide +kernel
theorem dx_151_27 : mj_at 151 27 = some (.aload_n 0) := by decide +kernel
theorem dx_151_28 : mj_at 151 28 = some (.iconst 2) := by decide +kernel
theorem dx_151_29 : mj_at 151 29 = some (.aload_n 0) := by decide +kernel
theorem dx_151_30 : mj_at 151 30 = some (.getfield 131) := by decide +kernel
theorem dx_151_33 : mj_at 151 33 = some (.invokevirtual 144) := by decide +kernel
theorem dx_151_36 : mj_at 151 36 = some (.ireturn) := by decide +kernel
theorem dx_151_37 : mj_at 151 37 = some (.aload_n 0) := by decide +kernel
theorem dx_151_38 : mj_at 151 38 = some (.bipush 10) := by decide +kernel
theorem dx_151_40 : mj_at 151 40 = some (.aload_n 0) := by decide +kernel
theorem dx_151_41 : mj_at 151 41 = some (.getfield 147) := by decide +kernel
theorem dx_151_44 : mj_at 151 44 = some (.imul) := by decide +kernel
theorem dx_151_45 : mj_at 151 45 = some (.aload_n 0) := by decide +kernel
theorem dx_151_46 : mj_at 151 46 = some (.invokevirtual 137) := by decide +kernel
theorem dx_151_49 : mj_at 151 49 = some (.iadd) := by decide +kernel
theorem dx_151_50 : mj_at 151 50 = some (.bipush 48) := by decide +kernel
theorem dx_151_52 : mj_at 151 52 = some (.isub) := by decide +kernel
theorem dx_151_53 : mj_at 151 53 = some (.putfield 147) := by decide +kernel
theorem dx_151_56 : mj_at 151 56 = some (.aload_n 0) := by decide +kernel
theorem dx_151_57 : mj_at 151 57 = some (.aload_n 0) := by decide +kernel
theorem dx_151_58 : mj_at 151 58 = some (.getfield 131) := by decide +kernel
theorem dx_151_61 : mj_at 151 61 = some (.iconst 1) := by decide +kernel
theorem dx_151_62 : mj_at 151 62 = some (.iadd) := by decide +kernel
theorem dx_151_63 : mj_at 151 63 = some (.putfield 131) := by decide +kernel
theorem dx_151_66 : mj_at 151 66 = some (.goto (-56)) := by decide +kernel
theorem dx_151_69 : mj_at 151 69 = some (.iconst 1) := by decide +kernel
theorem dx_151_70 : mj_at 151 70 = some (.ireturn) := by decide +kernel
set_option maxRecDepth 10000 in
theorem b_X9_readsNumber {sl d : Nat} {M : mj_M}   : mj_C sl (d + 1) 151 [.ref 45] M = mj_E sl (d + 1) 151 10 [.ref 45, .int (M 45 6)] [] (mj_st M 45 9 0) := by
  show mj_E sl (d + 1) 151 0 [.ref 45, .null] [] M = _
  refine (sx_aload_n dx_151_0 rfl).trans ?_
  refine (sx_gfi dx_151_1 ow_151 fx_7_131 (by decide) oc_45).trans ?_
  refine (sx_istore_n dx_151_4 (Nat.le_of_ble_eq_true rfl) rfl).trans ?_
  refine (sx_aload_n dx_151_5 rfl).trans ?_
  refine (sx_iconst (v := 0) dx_151_6 rfl).trans ?_
  refine (sx_pfi dx_151_7 ow_151 fx_7_147 oc_45).trans ?_
  rfl
set_option maxRecDepth 10000 in
theorem b_X9_readsNumber_10 {sl d : Nat} {M : mj_M} {y1 : Int32}  : mj_E sl (d + 1) 151 10 [.ref 45, .int y1] [] M = (mj_C sl d 148 [.ref 45] M).bind (fun q1 => if q1.1 = 0 then (some ((1 : Int32), q1.2)) else (if q1.2 45 6 = (y1 + 5) then ((mj_C sl d 149 [.ref 45, .int 2, .int (q1.2 45 6)] q1.2).bind (fun q2 => if q2.1 &&& 1 = q2.1 then some ((q2.1 : Int32), q2.2) else none)) else ((mj_C sl d 147 [.ref 45] q1.2).bind (fun q3 => mj_E sl (d + 1) 151 10 [.ref 45, .int y1] [] (mj_st (mj_st q3.2 45 9 ((((10 : Int32) * (q1.2 45 9)) + q3.1) - 48)) 45 6 (((mj_st q3.2 45 9 ((((10 : Int32) * (q1.2 45 9)) + q3.1) - 48)) 45 6) + 1)))))) := by
  refine (sx_aload_n dx_151_10 rfl).trans ?_
  refine (sx_v0i dx_151_11 ow_151 cx_7_150 oc_45 (Nat.le_of_ble_eq_true rfl)).trans ?_
  refine mj_bnd (fun q1 => ?_)
  refine (sx_if_eq (tgt := 69) dx_151_14 (by decide)).trans ?_
  refine mj_ite ?_ ?_
  · refine (sx_iconst (v := 1) dx_151_69 rfl).trans ?_
    exact sx_retz dx_151_70 rt_151 (by decide)
  · refine (sx_aload_n dx_151_17 rfl).trans ?_
    refine (sx_gfi dx_151_18 ow_151 fx_7_131 (by decide) oc_45).trans ?_
    refine (sx_iload_n dx_151_21 rfl).trans ?_
    refine (sx_iconst (v := 5) dx_151_22 rfl).trans ?_
    refine (sx_iadd dx_151_23).trans ?_
    refine (sx_icmp_ne (tgt := 37) dx_151_24 (by decide)).trans ?_
    refine mj_ite ?_ ?_
    · refine (sx_aload_n dx_151_27 rfl).trans ?_
      refine (sx_iconst (v := 2) dx_151_28 rfl).trans ?_
      refine (sx_aload_n dx_151_29 rfl).trans ?_
      refine (sx_gfi dx_151_30 ow_151 fx_7_131 (by decide) oc_45).trans ?_
      refine (sx_v2i dx_151_33 ow_151 cx_7_144 oc_45 (Nat.le_of_ble_eq_true rfl)).trans ?_
      refine mj_bnd (fun q2 => ?_)
      exact sx_retg dx_151_36 rt_151
    · refine (sx_aload_n dx_151_37 rfl).trans ?_
      refine (sx_bipush (v := 10) dx_151_38 rfl).trans ?_
      refine (sx_aload_n dx_151_40 rfl).trans ?_
      refine (sx_gfi dx_151_41 ow_151 fx_7_147 (by decide) oc_45).trans ?_
      refine (sx_imul dx_151_44).trans ?_
      refine (sx_aload_n dx_151_45 rfl).trans ?_
      refine (sx_v0i dx_151_46 ow_151 cx_7_137 oc_45 (Nat.le_of_ble_eq_true rfl)).trans ?_
      refine mj_bnd (fun q3 => ?_)
      refine (sx_iadd dx_151_49).trans ?_
      refine (sx_bipush (v := 48) dx_151_50 rfl).trans ?_
      refine (sx_isub dx_151_52).trans ?_
      refine (sx_pfi dx_151_53 ow_151 fx_7_147 oc_45).trans ?_
      refine (sx_aload_n dx_151_56 rfl).trans ?_
      refine (sx_aload_n dx_151_57 rfl).trans ?_
      refine (sx_gfi dx_151_58 ow_151 fx_7_131 (by decide) oc_45).trans ?_
      refine (sx_iconst (v := 1) dx_151_61 rfl).trans ?_
      refine (sx_iadd dx_151_62).trans ?_
      refine (sx_pfi dx_151_63 ow_151 fx_7_131 oc_45).trans ?_
      refine (sx_goto (tgt := 10) dx_151_66 (by decide)).trans ?_
      rfl
theorem dx_152_0 : mj_at 152 0 = some (.aload_n 0) := by decide +kernel
theorem dx_152_1 : mj_at 152 1 = some (.getfield 26) := by decide +kernel
theorem dx_152_4 : mj_at 152 4 = some (.aload_n 0) := by decide +kernel
theorem dx_152_5 : mj_at 152 5 = some (.getfield 154) := by decide +kernel
theorem dx_152_8 : mj_at 152 8 = some (.ldc 157) := by decide +kernel
theorem dx_152_10 : mj_at 152 10 = some (.iload_n 1) := by decide +kernel
theorem dx_152_11 : mj_at 152 11 = some (.imul) := by decide +kernel
theorem dx_152_12 : mj_at 152 12 = some (.iload_n 2) := by decide +kernel
theorem dx_152_13 : mj_at 152 13 = some (.iadd) := by decide +kernel
theorem dx_152_14 : mj_at 152 14 = some (.iastore) := by decide +kernel
theorem dx_152_15 : mj_at 152 15 = some (.aload_n 0) := by decide +kernel
theorem dx_152_16 : mj_at 152 16 = some (.aload_n 0) := by decide +kernel
theorem dx_152_17 : mj_at 152 17 = some (.getfield 154) := by decide +kernel
theorem dx_152_20 : mj_at 152 20 = some (.iconst 1) := by decide +kernel
theorem dx_152_21 : mj_at 152 21 = some (.iadd) := by decide +kernel
theorem dx_152_22 : mj_at 152 22 = some (.putfield 154) := by decide +kernel
theorem dx_152_25 : mj_at 152 25 = some (.return_) := by decide +kernel
set_option maxRecDepth 10000 in
theorem b_X9_notes {sl d : Nat} {M : mj_M} {x1 : Int32} {x2 : Int32}  : mj_C sl d 152 [.ref 45, .int x1, .int x2] M = if mj_inB (M 45 11) 260 = true then (some ((0 : Int32), mj_st (mj_st M 51 (M 45 11 : Int32).toNatClampNeg (((1048576 : Int32) * x1) + x2)) 45 11 (((mj_st M 51 (M 45 11 : Int32).toNatClampNeg (((1048576 : Int32) * x1) + x2)) 45 11) + 1))) else none := by
  show mj_E sl d 152 0 [.ref 45, .int x1, .int x2] [] M = _
  refine (sx_aload_n dx_152_0 rfl).trans ?_
  refine (sx_gfr dx_152_1 ow_152 fx_7_26 oc_45 rb_45_15).trans ?_
  refine (sx_aload_n dx_152_4 rfl).trans ?_
  refine (sx_gfi dx_152_5 ow_152 fx_7_154 (by decide) oc_45).trans ?_
  refine (sx_ldc (v := 1048576) dx_152_8 ow_152 kx_7_157).trans ?_
  refine (sx_iload_n dx_152_10 rfl).trans ?_
  refine (sx_imul dx_152_11).trans ?_
  refine (sx_iload_n dx_152_12 rfl).trans ?_
  refine (sx_iadd dx_152_13).trans ?_
  refine (sx_ist dx_152_14 ia_51).trans ?_
  refine mj_ite ?_ rfl
  refine (sx_aload_n dx_152_15 rfl).trans ?_
  refine (sx_aload_n dx_152_16 rfl).trans ?_
  refine (sx_gfi dx_152_17 ow_152 fx_7_154 (by decide) oc_45).trans ?_
  refine (sx_iconst (v := 1) dx_152_20 rfl).trans ?_
  refine (sx_iadd dx_152_21).trans ?_
  refine (sx_pfi dx_152_22 ow_152 fx_7_154 oc_45).trans ?_
  exact sx_retv dx_152_25 rt_152
theorem dx_153_0 : mj_at 153 0 = some (.aload_n 0) := by decide +kernel
theorem dx_153_1 : mj_at 153 1 = some (.getfield 158) := by decide +kernel
theorem dx_153_4 : mj_at 153 4 = some (.bipush 6) := by decide +kernel
theorem dx_153_6 : mj_at 153 6 = some (.if_icmp .ne 13) := by decide +kernel
theorem dx_153_9 : mj_at 153 9 = some (.aload_n 0) := by decide +kernel
theorem dx_153_10 : mj_at 153 10 = some (.iconst 5) := by decide +kernel
theorem dx_153_11 : mj_at 153 11 = some (.aload_n 0) := by decide +kernel
theorem dx_153_12 : mj_at 153 12 = some (.getfield 131) := by decide +kernel
theorem dx_153_15 : mj_at 153 15 = some (.invokevirtual 144) := by decide +kernel
theorem dx_153_18 : mj_at 153 18 = some (.ireturn) := by decide +kernel
theorem dx_153_19 : mj_at 153 19 = some (.aload_n 0) := by decide +kernel
theorem dx_153_20 : mj_at 153 20 = some (.aload_n 0) := by decide +kernel
theorem dx_153_21 : mj_at 153 21 = some (.getfield 158) := by decide +kernel
theorem dx_153_24 : mj_at 153 24 = some (.iconst 1) := by decide +kernel
theorem dx_153_25 : mj_at 153 25 = some (.iadd) := by decide +kernel
theorem dx_153_26 : mj_at 153 26 = some (.putfield 158) := by decide +kernel
theorem dx_153_29 : mj_at 153 29 = some (.aload_n 0) := by decide +kernel
theorem dx_153_30 : mj_at 153 30 = some (.getfield 29) := by decide +kernel
theorem dx_153_33 : mj_at 153 33 = some (.aload_n 0) := by decide +kernel
theorem dx_153_34 : mj_at 153 34 = some (.getfield 161) := by decide +kernel
theorem dx_153_37 : mj_at 153 37 = some (.ldc 157) := by decide +kernel
theorem dx_153_39 : mj_at 153 39 = some (.iload_n 1) := by decide +kernel
theorem dx_153_40 : mj_at 153 40 = some (.imul) := by decide +kernel
theorem dx_153_41 : mj_at 153 41 = some (.iastore) := by decide +kernel
theorem dx_153_42 : mj_at 153 42 = some (.aload_n 0) := by decide +kernel
theorem dx_153_43 : mj_at 153 43 = some (.aload_n 0) := by decide +kernel
theorem dx_153_44 : mj_at 153 44 = some (.getfield 161) := by decide +kernel
theorem dx_153_47 : mj_at 153 47 = some (.iconst 1) := by decide +kernel
theorem dx_153_48 : mj_at 153 48 = some (.iadd) := by decide +kernel
theorem dx_153_49 : mj_at 153 49 = some (.putfield 161) := by decide +kernel
theorem dx_153_52 : mj_at 153 52 = some (.aload_n 0) := by decide +kernel
theorem dx_153_53 : mj_at 153 53 = some (.aload_n 0) := by decide +kernel
theorem dx_153_54 : mj_at 153 54 = some (.getfield 131) := by decide +kernel
theorem dx_153_57 : mj_at 153 57 = some (.iconst 1) := by decide +kernel
theorem dx_153_58 : mj_at 153 58 = some (.iadd) := by decide +kernel
theorem dx_153_59 : mj_at 153 59 = some (.putfield 131) := by decide +kernel
theorem dx_153_62 : mj_at 153 62 = some (.iconst 1) := by decide +kernel
theorem dx_153_63 : mj_at 153 63 = some (.ireturn) := by decide +kernel
set_option maxRecDepth 10000 in
theorem b_X9_opens {sl d : Nat} {M : mj_M} {x1 : Int32}  : mj_C sl (d + 1) 153 [.ref 45, .int x1] M = if M 45 10 = 6 then ((mj_C sl d 149 [.ref 45, .int 5, .int (M 45 6)] M).bind (fun q1 => if q1.1 &&& 1 = q1.1 then some ((q1.1 : Int32), q1.2) else none)) else (if mj_inB ((mj_st M 45 10 ((M 45 10) + 1)) 45 12) 260 = true then (some ((1 : Int32), mj_st (mj_st (mj_st (mj_st M 45 10 ((M 45 10) + 1)) 52 ((mj_st M 45 10 ((M 45 10) + 1)) 45 12 : Int32).toNatClampNeg ((1048576 : Int32) * x1)) 45 12 (((mj_st (mj_st M 45 10 ((M 45 10) + 1)) 52 ((mj_st M 45 10 ((M 45 10) + 1)) 45 12 : Int32).toNatClampNeg ((1048576 : Int32) * x1)) 45 12) + 1)) 45 6 (((mj_st (mj_st (mj_st M 45 10 ((M 45 10) + 1)) 52 ((mj_st M 45 10 ((M 45 10) + 1)) 45 12 : Int32).toNatClampNeg ((1048576 : Int32) * x1)) 45 12 (((mj_st (mj_st M 45 10 ((M 45 10) + 1)) 52 ((mj_st M 45 10 ((M 45 10) + 1)) 45 12 : Int32).toNatClampNeg ((1048576 : Int32) * x1)) 45 12) + 1)) 45 6) + 1))) else none) := by
  show mj_E sl (d + 1) 153 0 [.ref 45, .int x1] [] M = _
  refine (sx_aload_n dx_153_0 rfl).trans ?_
  refine (sx_gfi dx_153_1 ow_153 fx_7_158 (by decide) oc_45).trans ?_
  refine (sx_bipush (v := 6) dx_153_4 rfl).trans ?_
  refine (sx_icmp_ne (tgt := 19) dx_153_6 (by decide)).trans ?_
  refine mj_ite ?_ ?_
  · refine (sx_aload_n dx_153_9 rfl).trans ?_
    refine (sx_iconst (v := 5) dx_153_10 rfl).trans ?_
    refine (sx_aload_n dx_153_11 rfl).trans ?_
    refine (sx_gfi dx_153_12 ow_153 fx_7_131 (by decide) oc_45).trans ?_
    refine (sx_v2i dx_153_15 ow_153 cx_7_144 oc_45 (Nat.le_of_ble_eq_true rfl)).trans ?_
    refine mj_bnd (fun q1 => ?_)
    exact sx_retg dx_153_18 rt_153
  · refine (sx_aload_n dx_153_19 rfl).trans ?_
    refine (sx_aload_n dx_153_20 rfl).trans ?_
    refine (sx_gfi dx_153_21 ow_153 fx_7_158 (by decide) oc_45).trans ?_
    refine (sx_iconst (v := 1) dx_153_24 rfl).trans ?_
    refine (sx_iadd dx_153_25).trans ?_
    refine (sx_pfi dx_153_26 ow_153 fx_7_158 oc_45).trans ?_
    refine (sx_aload_n dx_153_29 rfl).trans ?_
    refine (sx_gfr dx_153_30 ow_153 fx_7_29 oc_45 rb_45_16).trans ?_
    refine (sx_aload_n dx_153_33 rfl).trans ?_
    refine (sx_gfi dx_153_34 ow_153 fx_7_161 (by decide) oc_45).trans ?_
    refine (sx_ldc (v := 1048576) dx_153_37 ow_153 kx_7_157).trans ?_
    refine (sx_iload_n dx_153_39 rfl).trans ?_
    refine (sx_imul dx_153_40).trans ?_
    refine (sx_ist dx_153_41 ia_52).trans ?_
    refine mj_ite ?_ rfl
    refine (sx_aload_n dx_153_42 rfl).trans ?_
    refine (sx_aload_n dx_153_43 rfl).trans ?_
    refine (sx_gfi dx_153_44 ow_153 fx_7_161 (by decide) oc_45).trans ?_
    refine (sx_iconst (v := 1) dx_153_47 rfl).trans ?_
    refine (sx_iadd dx_153_48).trans ?_
    refine (sx_pfi dx_153_49 ow_153 fx_7_161 oc_45).trans ?_
    refine (sx_aload_n dx_153_52 rfl).trans ?_
    refine (sx_aload_n dx_153_53 rfl).trans ?_
    refine (sx_gfi dx_153_54 ow_153 fx_7_131 (by decide) oc_45).trans ?_
    refine (sx_iconst (v := 1) dx_153_57 rfl).trans ?_
    refine (sx_iadd dx_153_58).trans ?_
    refine (sx_pfi dx_153_59 ow_153 fx_7_131 oc_45).trans ?_
    refine (sx_iconst (v := 1) dx_153_62 rfl).trans ?_
    exact sx_retz dx_153_63 rt_153 (by decide)
theorem dx_154_0 : mj_at 154 0 = some (.aload_n 0) := by decide +kernel
theorem dx_154_1 : mj_at 154 1 = some (.getfield 161) := by decide +kernel
theorem dx_154_4 : mj_at 154 4 = some (.ifCond .ne 7) := by decide +kernel
theorem dx_154_7 : mj_at 154 7 = some (.iconst (-1)) := by decide +kernel
theorem dx_154_8 : mj_at 154 8 = some (.goto 17) := by decide +kernel
theorem dx_154_11 : mj_at 154 11 = some (.aload_n 0) := by decide +kernel
theorem dx_154_12 : mj_at 154 12 = some (.getfield 29) := by decide +kernel
theorem dx_154_15 : mj_at 154 15 = some (.aload_n 0) := by decide +kernel
theorem dx_154_16 : mj_at 154 16 = some (.getfield 161) := by decide +kernel
theorem dx_154_19 : mj_at 154 19 = some (.iconst 1) := by decide +kernel
theorem dx_154_20 : mj_at 154 20 = some (.isub) := by decide +kernel
theorem dx_154_21 : mj_at 154 21 = some (.iaload) := by decide +kernel
theorem dx_154_22 : mj_at 154 22 = some (.ldc 157) := by decide +kernel
theorem dx_154_24 : mj_at 154 24 = some (.idiv) := by decide +kernel
theorem dx_154_25 : mj_at 154 25 = some (.ireturn) := by decide +kernel
set_option maxRecDepth 10000 in
theorem b_X9_waitTop {sl d : Nat} {M : mj_M}   : mj_C sl d 154 [.ref 45] M = if M 45 12 = 0 then (some (((-1) : Int32), M)) else (if mj_inB ((M 45 12) - 1) 260 = true then (some (((M 52 ((M 45 12) - 1 : Int32).toNatClampNeg) / 1048576 : Int32), M)) else none) := by
  show mj_E sl d 154 0 [.ref 45] [] M = _
  refine (sx_aload_n dx_154_0 rfl).trans ?_
  refine (sx_gfi dx_154_1 ow_154 fx_7_161 (by decide) oc_45).trans ?_
  refine (sx_if_ne (tgt := 11) dx_154_4 (by decide)).trans ?_
  refine mj_ite ?_ ?_
  · refine (sx_iconst (v := (-1)) dx_154_7 rfl).trans ?_
    refine (sx_goto (tgt := 25) dx_154_8 (by decide)).trans ?_
    exact sx_reti dx_154_25 rt_154
  · refine (sx_aload_n dx_154_11 rfl).trans ?_
    refine (sx_gfr dx_154_12 ow_154 fx_7_29 oc_45 rb_45_16).trans ?_
    refine (sx_aload_n dx_154_15 rfl).trans ?_
    refine (sx_gfi dx_154_16 ow_154 fx_7_161 (by decide) oc_45).trans ?_
    refine (sx_iconst (v := 1) dx_154_19 rfl).trans ?_
    refine (sx_isub dx_154_20).trans ?_
    refine (sx_ild dx_154_21 (by decide) ia_52).trans ?_
    refine mj_ite ?_ rfl
    refine (sx_ldc (v := 1048576) dx_154_22 ow_154 kx_7_157).trans ?_
    refine (sx_idiv dx_154_24 (by decide)).trans ?_
    exact sx_reti dx_154_25 rt_154
theorem dx_155_0 : mj_at 155 0 = some (.iload_n 0) := by decide +kernel
theorem dx_155_1 : mj_at 155 1 = some (.tableswitch 112 97 115 #[93, 112, 91, 106, 112, 103, 97, 112, 112, 112, 101, 95, 109, 112, 112, 112, 112, 112, 99]) := by decide +kernel
theorem dx_155_92 : mj_at 155 92 = some (.iconst 0) := by decide +kernel
theorem dx_155_93 : mj_at 155 93 = some (.ireturn) := by decide +kernel
theorem dx_155_94 : mj_at 155 94 = some (.iconst 1) := by decide +kernel
theorem dx_155_95 : mj_at 155 95 = some (.ireturn) := by decide +kernel
theorem dx_155_96 : mj_at 155 96 = some (.iconst 2) := by decide +kernel
theorem dx_155_97 : mj_at 155 97 = some (.ireturn) := by decide +kernel
theorem dx_155_98 : mj_at 155 98 = some (.iconst 3) := by decide +kernel
theorem dx_155_99 : mj_at 155 99 = some (.ireturn) := by decide +kernel
theorem dx_155_100 : mj_at 155 100 = some (.iconst 4) := by decide +kernel
theorem dx_155_101 : mj_at 155 101 = some (.ireturn) := by decide +kernel
theorem dx_155_102 : mj_at 155 102 = some (.iconst 5) := by decide +kernel
theorem dx_155_103 : mj_at 155 103 = some (.ireturn) := by decide +kernel
theorem dx_155_104 : mj_at 155 104 = some (.bipush 6) := by decide +kernel
theorem dx_155_106 : mj_at 155 106 = some (.ireturn) := by decide +kernel
theorem dx_155_107 : mj_at 155 107 = some (.bipush 7) := by decide +kernel
theorem dx_155_109 : mj_at 155 109 = some (.ireturn) := by decide +kernel
theorem dx_155_110 : mj_at 155 110 = some (.bipush 8) := by decide +kernel
theorem dx_155_112 : mj_at 155 112 = some (.ireturn) := by decide +kernel
theorem dx_155_113 : mj_at 155 113 = some (.iconst (-1)) := by decide +kernel
theorem dx_155_114 : mj_at 155 114 = some (.ireturn) := by decide +kernel
set_option maxRecDepth 10000 in
theorem b_X9_factOf {sl d : Nat} {M : mj_M} {x1 : Int32}  : mj_C sl d 155 [.int x1] M = if x1 = 97 then (some ((1 : Int32), M)) else (if x1 = 98 then (some (((-1) : Int32), M)) else (if x1 = 99 then (some ((0 : Int32), M)) else (if x1 = 100 then (some ((7 : Int32), M)) else (if x1 = 101 then (some (((-1) : Int32), M)) else (if x1 = 102 then (some ((6 : Int32), M)) else (if x1 = 103 then (some ((3 : Int32), M)) else (if x1 = 104 then (some (((-1) : Int32), M)) else (if x1 = 105 then (some (((-1) : Int32), M)) else (if x1 = 106 then (some (((-1) : Int32), M)) else (if x1 = 107 then (some ((5 : Int32), M)) else (if x1 = 108 then (some ((2 : Int32), M)) else (if x1 = 109 then (some ((8 : Int32), M)) else (if x1 = 110 then (some (((-1) : Int32), M)) else (if x1 = 111 then (some (((-1) : Int32), M)) else (if x1 = 112 then (some (((-1) : Int32), M)) else (if x1 = 113 then (some (((-1) : Int32), M)) else (if x1 = 114 then (some (((-1) : Int32), M)) else (if x1 = 115 then (some ((4 : Int32), M)) else (some (((-1) : Int32), M)))))))))))))))))))) := by
  show mj_E sl d 155 0 [.int x1] [] M = _
  refine (sx_iload_n dx_155_0 rfl).trans ?_
  refine mj_sel (fun hx1_0 => ?_) (fun hx1_0 => ?_)
  · refine (sx_tsw_in (off := 93) (tgt := 94) dx_155_1 hx1_0 (by decide) (by decide) (by decide)).trans ?_
    refine (sx_iconst (v := 1) dx_155_94 rfl).trans ?_
    exact sx_reti dx_155_95 rt_155
  refine mj_sel (fun hx1_1 => ?_) (fun hx1_1 => ?_)
  · refine (sx_tsw_in (off := 112) (tgt := 113) dx_155_1 hx1_1 (by decide) (by decide) (by decide)).trans ?_
    refine (sx_iconst (v := (-1)) dx_155_113 rfl).trans ?_
    exact sx_reti dx_155_114 rt_155
  refine mj_sel (fun hx1_2 => ?_) (fun hx1_2 => ?_)
  · refine (sx_tsw_in (off := 91) (tgt := 92) dx_155_1 hx1_2 (by decide) (by decide) (by decide)).trans ?_
    refine (sx_iconst (v := 0) dx_155_92 rfl).trans ?_
    exact sx_reti dx_155_93 rt_155
  refine mj_sel (fun hx1_3 => ?_) (fun hx1_3 => ?_)
  · refine (sx_tsw_in (off := 106) (tgt := 107) dx_155_1 hx1_3 (by decide) (by decide) (by decide)).trans ?_
    refine (sx_bipush (v := 7) dx_155_107 rfl).trans ?_
    exact sx_reti dx_155_109 rt_155
  refine mj_sel (fun hx1_4 => ?_) (fun hx1_4 => ?_)
  · refine (sx_tsw_in (off := 112) (tgt := 113) dx_155_1 hx1_4 (by decide) (by decide) (by decide)).trans ?_
    refine (sx_iconst (v := (-1)) dx_155_113 rfl).trans ?_
    exact sx_reti dx_155_114 rt_155
  refine mj_sel (fun hx1_5 => ?_) (fun hx1_5 => ?_)
  · refine (sx_tsw_in (off := 103) (tgt := 104) dx_155_1 hx1_5 (by decide) (by decide) (by decide)).trans ?_
    refine (sx_bipush (v := 6) dx_155_104 rfl).trans ?_
    exact sx_reti dx_155_106 rt_155
  refine mj_sel (fun hx1_6 => ?_) (fun hx1_6 => ?_)
  · refine (sx_tsw_in (off := 97) (tgt := 98) dx_155_1 hx1_6 (by decide) (by decide) (by decide)).trans ?_
    refine (sx_iconst (v := 3) dx_155_98 rfl).trans ?_
    exact sx_reti dx_155_99 rt_155
  refine mj_sel (fun hx1_7 => ?_) (fun hx1_7 => ?_)
  · refine (sx_tsw_in (off := 112) (tgt := 113) dx_155_1 hx1_7 (by decide) (by decide) (by decide)).trans ?_
    refine (sx_iconst (v := (-1)) dx_155_113 rfl).trans ?_
    exact sx_reti dx_155_114 rt_155
  refine mj_sel (fun hx1_8 => ?_) (fun hx1_8 => ?_)
  · refine (sx_tsw_in (off := 112) (tgt := 113) dx_155_1 hx1_8 (by decide) (by decide) (by decide)).trans ?_
    refine (sx_iconst (v := (-1)) dx_155_113 rfl).trans ?_
    exact sx_reti dx_155_114 rt_155
  refine mj_sel (fun hx1_9 => ?_) (fun hx1_9 => ?_)
  · refine (sx_tsw_in (off := 112) (tgt := 113) dx_155_1 hx1_9 (by decide) (by decide) (by decide)).trans ?_
    refine (sx_iconst (v := (-1)) dx_155_113 rfl).trans ?_
    exact sx_reti dx_155_114 rt_155
  refine mj_sel (fun hx1_10 => ?_) (fun hx1_10 => ?_)
  · refine (sx_tsw_in (off := 101) (tgt := 102) dx_155_1 hx1_10 (by decide) (by decide) (by decide)).trans ?_
    refine (sx_iconst (v := 5) dx_155_102 rfl).trans ?_
    exact sx_reti dx_155_103 rt_155
  refine mj_sel (fun hx1_11 => ?_) (fun hx1_11 => ?_)
  · refine (sx_tsw_in (off := 95) (tgt := 96) dx_155_1 hx1_11 (by decide) (by decide) (by decide)).trans ?_
    refine (sx_iconst (v := 2) dx_155_96 rfl).trans ?_
    exact sx_reti dx_155_97 rt_155
  refine mj_sel (fun hx1_12 => ?_) (fun hx1_12 => ?_)
  · refine (sx_tsw_in (off := 109) (tgt := 110) dx_155_1 hx1_12 (by decide) (by decide) (by decide)).trans ?_
    refine (sx_bipush (v := 8) dx_155_110 rfl).trans ?_
    exact sx_reti dx_155_112 rt_155
  refine mj_sel (fun hx1_13 => ?_) (fun hx1_13 => ?_)
  · refine (sx_tsw_in (off := 112) (tgt := 113) dx_155_1 hx1_13 (by decide) (by decide) (by decide)).trans ?_
    refine (sx_iconst (v := (-1)) dx_155_113 rfl).trans ?_
    exact sx_reti dx_155_114 rt_155
  refine mj_sel (fun hx1_14 => ?_) (fun hx1_14 => ?_)
  · refine (sx_tsw_in (off := 112) (tgt := 113) dx_155_1 hx1_14 (by decide) (by decide) (by decide)).trans ?_
    refine (sx_iconst (v := (-1)) dx_155_113 rfl).trans ?_
    exact sx_reti dx_155_114 rt_155
  refine mj_sel (fun hx1_15 => ?_) (fun hx1_15 => ?_)
  · refine (sx_tsw_in (off := 112) (tgt := 113) dx_155_1 hx1_15 (by decide) (by decide) (by decide)).trans ?_
    refine (sx_iconst (v := (-1)) dx_155_113 rfl).trans ?_
    exact sx_reti dx_155_114 rt_155
  refine mj_sel (fun hx1_16 => ?_) (fun hx1_16 => ?_)
  · refine (sx_tsw_in (off := 112) (tgt := 113) dx_155_1 hx1_16 (by decide) (by decide) (by decide)).trans ?_
    refine (sx_iconst (v := (-1)) dx_155_113 rfl).trans ?_
    exact sx_reti dx_155_114 rt_155
  refine mj_sel (fun hx1_17 => ?_) (fun hx1_17 => ?_)
  · refine (sx_tsw_in (off := 112) (tgt := 113) dx_155_1 hx1_17 (by decide) (by decide) (by decide)).trans ?_
    refine (sx_iconst (v := (-1)) dx_155_113 rfl).trans ?_
    exact sx_reti dx_155_114 rt_155
  refine mj_sel (fun hx1_18 => ?_) (fun hx1_18 => ?_)
  · refine (sx_tsw_in (off := 99) (tgt := 100) dx_155_1 hx1_18 (by decide) (by decide) (by decide)).trans ?_
    refine (sx_iconst (v := 4) dx_155_100 rfl).trans ?_
    exact sx_reti dx_155_101 rt_155
  have zhx1_0 := mj_ne hx1_0 (n := 97) (by decide)
  have zhx1_1 := mj_ne hx1_1 (n := 98) (by decide)
  have zhx1_2 := mj_ne hx1_2 (n := 99) (by decide)
  have zhx1_3 := mj_ne hx1_3 (n := 100) (by decide)
  have zhx1_4 := mj_ne hx1_4 (n := 101) (by decide)
  have zhx1_5 := mj_ne hx1_5 (n := 102) (by decide)
  have zhx1_6 := mj_ne hx1_6 (n := 103) (by decide)
  have zhx1_7 := mj_ne hx1_7 (n := 104) (by decide)
  have zhx1_8 := mj_ne hx1_8 (n := 105) (by decide)
  have zhx1_9 := mj_ne hx1_9 (n := 106) (by decide)
  have zhx1_10 := mj_ne hx1_10 (n := 107) (by decide)
  have zhx1_11 := mj_ne hx1_11 (n := 108) (by decide)
  have zhx1_12 := mj_ne hx1_12 (n := 109) (by decide)
  have zhx1_13 := mj_ne hx1_13 (n := 110) (by decide)
  have zhx1_14 := mj_ne hx1_14 (n := 111) (by decide)
  have zhx1_15 := mj_ne hx1_15 (n := 112) (by decide)
  have zhx1_16 := mj_ne hx1_16 (n := 113) (by decide)
  have zhx1_17 := mj_ne hx1_17 (n := 114) (by decide)
  have zhx1_18 := mj_ne hx1_18 (n := 115) (by decide)
  refine (sx_tsw_out (tgt := 113) dx_155_1 (by omega) (by decide)).trans ?_
  refine (sx_iconst (v := (-1)) dx_155_113 rfl).trans ?_
  exact sx_reti dx_155_114 rt_155
theorem dx_156_0 : mj_at 156 0 = some (.iload_n 0) := by decide +kernel
theorem dx_156_1 : mj_at 156 1 = some (.bipush 43) := by decide +kernel
theorem dx_156_3 : mj_at 156 3 = some (.if_icmp .ne 7) := by decide +kernel
theorem dx_156_6 : mj_at 156 6 = some (.iconst 2) := by decide +kernel
theorem dx_156_7 : mj_at 156 7 = some (.goto 45) := by decide +kernel
theorem dx_156_10 : mj_at 156 10 = some (.iload_n 0) := by decide +kernel
theorem dx_156_11 : mj_at 156 11 = some (.bipush 45) := by decide +kernel
theorem dx_156_13 : mj_at 156 13 = some (.if_icmp .ne 7) := by decide +kernel
theorem dx_156_16 : mj_at 156 16 = some (.iconst 3) := by decide +kernel
theorem dx_156_17 : mj_at 156 17 = some (.goto 35) := by decide +kernel
theorem dx_156_20 : mj_at 156 20 = some (.iload_n 0) := by decide +kernel
theorem dx_156_21 : mj_at 156 21 = some (.bipush 42) := by decide +kernel
theorem dx_156_23 : mj_at 156 23 = some (.if_icmp .ne 7) := by decide +kernel
theorem dx_156_26 : mj_at 156 26 = some (.iconst 4) := by decide +kernel
theorem dx_156_27 : mj_at 156 27 = some (.goto 25) := by decide +kernel
theorem dx_156_30 : mj_at 156 30 = some (.iload_n 0) := by decide +kernel
theorem dx_156_31 : mj_at 156 31 = some (.bipush 47) := by decide +kernel
theorem dx_156_33 : mj_at 156 33 = some (.if_icmp .ne 7) := by decide +kernel
theorem dx_156_36 : mj_at 156 36 = some (.iconst 5) := by decide +kernel
theorem dx_156_37 : mj_at 156 37 = some (.goto 15) := by decide +kernel
theorem dx_156_40 : mj_at 156 40 = some (.iload_n 0) := by decide +kernel
theorem dx_156_41 : mj_at 156 41 = some (.bipush 37) := by decide +kernel
theorem dx_156_43 : mj_at 156 43 = some (.if_icmp .ne 8) := by decide +kernel
theorem dx_156_46 : mj_at 156 46 = some (.bipush 6) := by decide +kernel
theorem dx_156_48 : mj_at 156 48 = some (.goto 4) := by decide +kernel
theorem dx_156_51 : mj_at 156 51 = some (.iconst (-1)) := by decide +kernel
theorem dx_156_52 : mj_at 156 52 = some (.ireturn) := by decide +kernel
set_option maxRecDepth 10000 in
theorem b_X9_sumSign {sl d : Nat} {M : mj_M} {x1 : Int32}  : mj_C sl d 156 [.int x1] M = if x1 = 43 then (some ((2 : Int32), M)) else (if x1 = 45 then (some ((3 : Int32), M)) else (if x1 = 42 then (some ((4 : Int32), M)) else (if x1 = 47 then (some ((5 : Int32), M)) else (if x1 = 37 then (some ((6 : Int32), M)) else (some (((-1) : Int32), M)))))) := by
  show mj_E sl d 156 0 [.int x1] [] M = _
  refine (sx_iload_n dx_156_0 rfl).trans ?_
  refine (sx_bipush (v := 43) dx_156_1 rfl).trans ?_
  refine (sx_icmp_ne (tgt := 10) dx_156_3 (by decide)).trans ?_
  refine mj_ite ?_ ?_
  · refine (sx_iconst (v := 2) dx_156_6 rfl).trans ?_
    refine (sx_goto (tgt := 52) dx_156_7 (by decide)).trans ?_
    exact sx_reti dx_156_52 rt_156
  · refine (sx_iload_n dx_156_10 rfl).trans ?_
    refine (sx_bipush (v := 45) dx_156_11 rfl).trans ?_
    refine (sx_icmp_ne (tgt := 20) dx_156_13 (by decide)).trans ?_
    refine mj_ite ?_ ?_
    · refine (sx_iconst (v := 3) dx_156_16 rfl).trans ?_
      refine (sx_goto (tgt := 52) dx_156_17 (by decide)).trans ?_
      exact sx_reti dx_156_52 rt_156
    · refine (sx_iload_n dx_156_20 rfl).trans ?_
      refine (sx_bipush (v := 42) dx_156_21 rfl).trans ?_
      refine (sx_icmp_ne (tgt := 30) dx_156_23 (by decide)).trans ?_
      refine mj_ite ?_ ?_
      · refine (sx_iconst (v := 4) dx_156_26 rfl).trans ?_
        refine (sx_goto (tgt := 52) dx_156_27 (by decide)).trans ?_
        exact sx_reti dx_156_52 rt_156
      · refine (sx_iload_n dx_156_30 rfl).trans ?_
        refine (sx_bipush (v := 47) dx_156_31 rfl).trans ?_
        refine (sx_icmp_ne (tgt := 40) dx_156_33 (by decide)).trans ?_
        refine mj_ite ?_ ?_
        · refine (sx_iconst (v := 5) dx_156_36 rfl).trans ?_
          refine (sx_goto (tgt := 52) dx_156_37 (by decide)).trans ?_
          exact sx_reti dx_156_52 rt_156
        · refine (sx_iload_n dx_156_40 rfl).trans ?_
          refine (sx_bipush (v := 37) dx_156_41 rfl).trans ?_
          refine (sx_icmp_ne (tgt := 51) dx_156_43 (by decide)).trans ?_
          refine mj_ite ?_ ?_
          · refine (sx_bipush (v := 6) dx_156_46 rfl).trans ?_
            refine (sx_goto (tgt := 52) dx_156_48 (by decide)).trans ?_
            exact sx_reti dx_156_52 rt_156
          · refine (sx_iconst (v := (-1)) dx_156_51 rfl).trans ?_
            exact sx_reti dx_156_52 rt_156
theorem dx_157_0 : mj_at 157 0 = some (.aload_n 0) := by decide +kernel
theorem dx_157_1 : mj_at 157 1 = some (.invokevirtual 164) := by decide +kernel
theorem dx_157_4 : mj_at 157 4 = some (.iconst 4) := by decide +kernel
theorem dx_157_5 : mj_at 157 5 = some (.if_icmp .lt 12) := by decide +kernel
theorem dx_157_8 : mj_at 157 8 = some (.aload_n 0) := by decide +kernel
theorem dx_157_9 : mj_at 157 9 = some (.invokevirtual 164) := by decide +kernel
theorem dx_157_12 : mj_at 157 12 = some (.bipush 6) := by decide +kernel
theorem dx_157_14 : mj_at 157 14 = some (.if_icmp .le 23) := by decide +kernel
theorem dx_157_17 : mj_at 157 17 = some (.iload_n 1) := by decide +kernel
theorem dx_157_18 : mj_at 157 18 = some (.ifCond .eq 41) := by decide +kernel
theorem dx_157_21 : mj_at 157 21 = some (.aload_n 0) := by decide +kernel
theorem dx_157_22 : mj_at 157 22 = some (.invokevirtual 164) := by decide +kernel
theorem dx_157_25 : mj_at 157 25 = some (.iconst 2) := by decide +kernel
theorem dx_157_26 : mj_at 157 26 = some (.if_icmp .eq 11) := by decide +kernel
theorem dx_157_29 : mj_at 157 29 = some (.aload_n 0) := by decide +kernel
theorem dx_157_30 : mj_at 157 30 = some (.invokevirtual 164) := by decide +kernel
theorem dx_157_33 : mj_at 157 33 = some (.iconst 3) := by decide +kernel
theorem dx_157_34 : mj_at 157 34 = some (.if_icmp .ne 25) := by decide +kernel
theorem dx_157_37 : mj_at 157 37 = some (.aload_n 0) := by decide +kernel
theorem dx_157_38 : mj_at 157 38 = some (.aload_n 0) := by decide +kernel
theorem dx_157_39 : mj_at 157 39 = some (.invokevirtual 164) := by decide +kernel
theorem dx_157_42 : mj_at 157 42 = some (.iconst 0) := by decide +kernel
theorem dx_157_43 : mj_at 157 43 = some (.invokevirtual 167) := by decide +kernel
theorem dx_157_46 : mj_at 157 46 = some (.aload_n 0) := by decide +kernel
theorem dx_157_47 : mj_at 157 47 = some (.aload_n 0) := by decide +kernel
theorem dx_157_48 : mj_at 157 48 = some (.getfield 161) := by decide +kernel
theorem dx_157_51 : mj_at 157 51 = some (.iconst 1) := by decide +kernel
theorem dx_157_52 : mj_at 157 52 = some (.isub) := by decide +kernel
theorem dx_157_53 : mj_at 157 53 = some (.putfield 161) := by decide +kernel
theorem dx_157_56 : mj_at 157 56 = some (.goto (-56)) := by decide +kernel
theorem dx_157_59 : mj_at 157 59 = some (.return_) := by decide +kernel
set_option maxRecDepth 10000 in
theorem b_X9_closesSums_0 {sl d : Nat} {M : mj_M} {x1 : Int32}  : mj_E sl (d + 1) 157 0 [.ref 45, .int x1] [] M = (mj_C sl d 154 [.ref 45] M).bind (fun q1 => if q1.1 < 4 then (mj_E sl (d + 1) 157 17 [.ref 45, .int x1] [] q1.2) else ((mj_C sl d 154 [.ref 45] q1.2).bind (fun q2 => if q2.1 ≤ 6 then ((mj_C sl d 154 [.ref 45] q2.2).bind (fun q3 => (mj_C sl d 152 [.ref 45, .int q3.1, .int 0] q3.2).bind (fun q4 => mj_E sl (d + 1) 157 0 [.ref 45, .int x1] [] (mj_st q4.2 45 12 ((q4.2 45 12) - 1))))) else (mj_E sl (d + 1) 157 17 [.ref 45, .int x1] [] q2.2)))) := by
  refine (sx_aload_n dx_157_0 rfl).trans ?_
  refine (sx_v0i dx_157_1 ow_157 cx_7_164 oc_45 (Nat.le_of_ble_eq_true rfl)).trans ?_
  refine mj_bnd (fun q1 => ?_)
  refine (sx_iconst (v := 4) dx_157_4 rfl).trans ?_
  refine (sx_icmp_lt (tgt := 17) dx_157_5 (by decide)).trans ?_
  refine mj_ite ?_ ?_
  · rfl
  · refine (sx_aload_n dx_157_8 rfl).trans ?_
    refine (sx_v0i dx_157_9 ow_157 cx_7_164 oc_45 (Nat.le_of_ble_eq_true rfl)).trans ?_
    refine mj_bnd (fun q2 => ?_)
    refine (sx_bipush (v := 6) dx_157_12 rfl).trans ?_
    refine (sx_icmp_le (tgt := 37) dx_157_14 (by decide)).trans ?_
    refine mj_ite ?_ ?_
    · refine (sx_aload_n dx_157_37 rfl).trans ?_
      refine (sx_aload_n dx_157_38 rfl).trans ?_
      refine (sx_v0i dx_157_39 ow_157 cx_7_164 oc_45 (Nat.le_of_ble_eq_true rfl)).trans ?_
      refine mj_bnd (fun q3 => ?_)
      refine (sx_iconst (v := 0) dx_157_42 rfl).trans ?_
      refine (sx_v2v dx_157_43 ow_157 cx_7_167 oc_45 (Nat.le_of_ble_eq_true rfl)).trans ?_
      refine mj_bnd (fun q4 => ?_)
      refine (sx_aload_n dx_157_46 rfl).trans ?_
      refine (sx_aload_n dx_157_47 rfl).trans ?_
      refine (sx_gfi dx_157_48 ow_157 fx_7_161 (by decide) oc_45).trans ?_
      refine (sx_iconst (v := 1) dx_157_51 rfl).trans ?_
      refine (sx_isub dx_157_52).trans ?_
      refine (sx_pfi dx_157_53 ow_157 fx_7_161 oc_45).trans ?_
      refine (sx_goto (tgt := 0) dx_157_56 (by decide)).trans ?_
      rfl
    · rfl
set_option maxRecDepth 10000 in
theorem b_X9_closesSums_17 {sl d : Nat} {M : mj_M} {y1 : Int32}  : mj_E sl (d + 1) 157 17 [.ref 45, .int y1] [] M = if y1 = 0 then (some ((0 : Int32), M)) else ((mj_C sl d 154 [.ref 45] M).bind (fun q1 => if q1.1 = 2 then ((mj_C sl d 154 [.ref 45] q1.2).bind (fun q2 => (mj_C sl d 152 [.ref 45, .int q2.1, .int 0] q2.2).bind (fun q3 => mj_E sl (d + 1) 157 0 [.ref 45, .int y1] [] (mj_st q3.2 45 12 ((q3.2 45 12) - 1))))) else ((mj_C sl d 154 [.ref 45] q1.2).bind (fun q4 => if q4.1 = 3 then ((mj_C sl d 154 [.ref 45] q4.2).bind (fun q5 => (mj_C sl d 152 [.ref 45, .int q5.1, .int 0] q5.2).bind (fun q6 => mj_E sl (d + 1) 157 0 [.ref 45, .int y1] [] (mj_st q6.2 45 12 ((q6.2 45 12) - 1))))) else (some ((0 : Int32), q4.2)))))) := by
  refine (sx_iload_n dx_157_17 rfl).trans ?_
  refine (sx_if_eq (tgt := 59) dx_157_18 (by decide)).trans ?_
  refine mj_ite ?_ ?_
  · exact sx_retv dx_157_59 rt_157
  · refine (sx_aload_n dx_157_21 rfl).trans ?_
    refine (sx_v0i dx_157_22 ow_157 cx_7_164 oc_45 (Nat.le_of_ble_eq_true rfl)).trans ?_
    refine mj_bnd (fun q1 => ?_)
    refine (sx_iconst (v := 2) dx_157_25 rfl).trans ?_
    refine (sx_icmp_eq (tgt := 37) dx_157_26 (by decide)).trans ?_
    refine mj_ite ?_ ?_
    · refine (sx_aload_n dx_157_37 rfl).trans ?_
      refine (sx_aload_n dx_157_38 rfl).trans ?_
      refine (sx_v0i dx_157_39 ow_157 cx_7_164 oc_45 (Nat.le_of_ble_eq_true rfl)).trans ?_
      refine mj_bnd (fun q2 => ?_)
      refine (sx_iconst (v := 0) dx_157_42 rfl).trans ?_
      refine (sx_v2v dx_157_43 ow_157 cx_7_167 oc_45 (Nat.le_of_ble_eq_true rfl)).trans ?_
      refine mj_bnd (fun q3 => ?_)
      refine (sx_aload_n dx_157_46 rfl).trans ?_
      refine (sx_aload_n dx_157_47 rfl).trans ?_
      refine (sx_gfi dx_157_48 ow_157 fx_7_161 (by decide) oc_45).trans ?_
      refine (sx_iconst (v := 1) dx_157_51 rfl).trans ?_
      refine (sx_isub dx_157_52).trans ?_
      refine (sx_pfi dx_157_53 ow_157 fx_7_161 oc_45).trans ?_
      refine (sx_goto (tgt := 0) dx_157_56 (by decide)).trans ?_
      rfl
    · refine (sx_aload_n dx_157_29 rfl).trans ?_
      refine (sx_v0i dx_157_30 ow_157 cx_7_164 oc_45 (Nat.le_of_ble_eq_true rfl)).trans ?_
      refine mj_bnd (fun q4 => ?_)
      refine (sx_iconst (v := 3) dx_157_33 rfl).trans ?_
      refine (sx_icmp_ne (tgt := 59) dx_157_34 (by decide)).trans ?_
      refine mj_ite ?_ ?_
      · refine (sx_aload_n dx_157_37 rfl).trans ?_
        refine (sx_aload_n dx_157_38 rfl).trans ?_
        refine (sx_v0i dx_157_39 ow_157 cx_7_164 oc_45 (Nat.le_of_ble_eq_true rfl)).trans ?_
        refine mj_bnd (fun q5 => ?_)
        refine (sx_iconst (v := 0) dx_157_42 rfl).trans ?_
        refine (sx_v2v dx_157_43 ow_157 cx_7_167 oc_45 (Nat.le_of_ble_eq_true rfl)).trans ?_
        refine mj_bnd (fun q6 => ?_)
        refine (sx_aload_n dx_157_46 rfl).trans ?_
        refine (sx_aload_n dx_157_47 rfl).trans ?_
        refine (sx_gfi dx_157_48 ow_157 fx_7_161 (by decide) oc_45).trans ?_
        refine (sx_iconst (v := 1) dx_157_51 rfl).trans ?_
        refine (sx_isub dx_157_52).trans ?_
        refine (sx_pfi dx_157_53 ow_157 fx_7_161 oc_45).trans ?_
        refine (sx_goto (tgt := 0) dx_157_56 (by decide)).trans ?_
        rfl
      · exact sx_retv dx_157_59 rt_157
theorem dx_158_0 : mj_at 158 0 = some (.aload_n 0) := by decide +kernel
theorem dx_158_1 : mj_at 158 1 = some (.invokevirtual 137) := by decide +kernel
theorem dx_158_4 : mj_at 158 4 = some (.bipush 91) := by decide +kernel
theorem dx_158_6 : mj_at 158 6 = some (.if_icmp .ne 14) := by decide +kernel
theorem dx_158_9 : mj_at 158 9 = some (.aload_n 0) := by decide +kernel
theorem dx_158_10 : mj_at 158 10 = some (.bipush 14) := by decide +kernel
theorem dx_158_12 : mj_at 158 12 = some (.invokevirtual 171) := by decide +kernel
theorem dx_158_15 : mj_at 158 15 = some (.ifCond .ne (-15)) := by decide +kernel
theorem dx_158_18 : mj_at 158 18 = some (.iconst 0) := by decide +kernel
theorem dx_158_19 : mj_at 158 19 = some (.ireturn) := by decide +kernel
theorem dx_158_20 : mj_at 158 20 = some (.aload_n 0) := by decide +kernel
theorem dx_158_21 : mj_at 158 21 = some (.invokevirtual 150) := by decide +kernel
theorem dx_158_24 : mj_at 158 24 = some (.ifCond .eq 23) := by decide +kernel
theorem dx_158_27 : mj_at 158 27 = some (.aload_n 0) := by decide +kernel
theorem dx_158_28 : mj_at 158 28 = some (.invokevirtual 174) := by decide +kernel
theorem dx_158_31 : mj_at 158 31 = some (.ifCond .ne 5) := by decide +kernel
theorem dx_158_34 : mj_at 158 34 = some (.iconst 0) := by decide +kernel
theorem dx_158_35 : mj_at 158 35 = some (.ireturn) := by decide +kernel
theorem dx_158_36 : mj_at 158 36 = some (.aload_n 0) := by decide +kernel
theorem dx_158_37 : mj_at 158 37 = some (.iconst 0) := by decide +kernel
theorem dx_158_38 : mj_at 158 38 = some (.aload_n 0) := by decide +kernel
theorem dx_158_39 : mj_at 158 39 = some (.getfield 147) := by decide +kernel
theorem dx_158_42 : mj_at 158 42 = some (.invokevirtual 167) := by decide +kernel
theorem dx_158_45 : mj_at 158 45 = some (.iconst 1) := by decide +kernel
theorem dx_158_46 : mj_at 158 46 = some (.ireturn) := by decide +kernel
theorem dx_158_47 : mj_at 158 47 = some (.aload_n 0) := by decide +kernel
theorem dx_158_48 : mj_at 158 48 = some (.invokevirtual 137) := by decide +kernel
theorem dx_158_51 : mj_at 158 51 = some (.invokestatic 177) := by decide +kernel
theorem dx_158_54 : mj_at 158 54 = some (.istore_n 1) := by decide +kernel
theorem dx_158_55 : mj_at 158 55 = some (.iload_n 1) := by decide +kernel
theorem dx_158_56 : mj_at 158 56 = some (.iconst (-1)) := by decide +kernel
theorem dx_158_57 : mj_at 158 57 = some (.if_icmp .ne 13) := by decide +kernel
theorem dx_158_60 : mj_at 158 60 = some (.aload_n 0) := by decide +kernel
theorem dx_158_61 : mj_at 158 61 = some (.iconst 1) := by decide +kernel
theorem dx_158_62 : mj_at 158 62 = some (.aload_n 0) := by decide +kernel
theorem dx_158_63 : mj_at 158 63 = some (.getfield 131) := by decide +kernel
theorem dx_158_66 : mj_at 158 66 = some (.invokevirtual 144) := by decide +kernel
theorem dx_158_69 : mj_at 158 69 = some (.ireturn) := by decide +kernel
theorem dx_158_70 : mj_at 158 70 = some (.aload_n 0) := by decide +kernel
theorem dx_158_71 : mj_at 158 71 = some (.iconst 1) := by decide +kernel
theorem dx_158_72 : mj_at 158 72 = some (.iload_n 1) := by decide +kernel
theorem dx_158_73 : mj_at 158 73 = some (.invokevirtual 167) := by decide +kernel
theorem dx_158_76 : mj_at 158 76 = some (.aload_n 0) := by decide +kernel
theorem dx_158_77 : mj_at 158 77 = some (.aload_n 0) := by decide +kernel
theorem dx_158_78 : mj_at 158 78 = some (.getfield 131) := by decide +kernel
theorem dx_158_81 : mj_at 158 81 = some (.iconst 1) := by decide +kernel
theorem dx_158_82 : mj_at 158 82 = some (.iadd) := by decide +kernel
theorem dx_158_83 : mj_at 158 83 = some (.putfield 131) := by decide +kernel
theorem dx_158_86 : mj_at 158 86 = some (.iconst 1) := by decide +kernel
theorem dx_158_87 : mj_at 158 87 = some (.ireturn) := by decide +kernel
set_option maxRecDepth 10000 in
theorem b_X9_readsFactor_0 {sl d : Nat} {M : mj_M}   : mj_E sl (d + 1) 158 0 [.ref 45, .null] [] M = (mj_C sl d 147 [.ref 45] M).bind (fun q1 => if q1.1 = 91 then ((mj_C sl d 153 [.ref 45, .int 14] q1.2).bind (fun q2 => if q2.1 = 0 then (some ((0 : Int32), q2.2)) else (mj_E sl (d + 1) 158 0 [.ref 45, .null] [] q2.2))) else ((mj_C sl d 148 [.ref 45] q1.2).bind (fun q3 => if q3.1 = 0 then ((mj_C sl d 147 [.ref 45] q3.2).bind (fun q4 => (mj_C sl d 155 [.int q4.1] q4.2).bind (fun q5 => if q5.1 = (-1) then ((mj_C sl d 149 [.ref 45, .int 1, .int (q5.2 45 6)] q5.2).bind (fun q6 => if q6.1 &&& 1 = q6.1 then some ((q6.1 : Int32), q6.2) else none)) else ((mj_C sl d 152 [.ref 45, .int 1, .int q5.1] q5.2).bind (fun q7 => some ((1 : Int32), mj_st q7.2 45 6 ((q7.2 45 6) + 1))))))) else ((mj_C sl d 151 [.ref 45] q3.2).bind (fun q8 => if q8.1 = 0 then (some ((0 : Int32), q8.2)) else ((mj_C sl d 152 [.ref 45, .int 0, .int (q8.2 45 9)] q8.2).bind (fun q9 => some ((1 : Int32), q9.2)))))))) := by
  refine (sx_aload_n dx_158_0 rfl).trans ?_
  refine (sx_v0i dx_158_1 ow_158 cx_7_137 oc_45 (Nat.le_of_ble_eq_true rfl)).trans ?_
  refine mj_bnd (fun q1 => ?_)
  refine (sx_bipush (v := 91) dx_158_4 rfl).trans ?_
  refine (sx_icmp_ne (tgt := 20) dx_158_6 (by decide)).trans ?_
  refine mj_ite ?_ ?_
  · refine (sx_aload_n dx_158_9 rfl).trans ?_
    refine (sx_bipush (v := 14) dx_158_10 rfl).trans ?_
    refine (sx_v1i dx_158_12 ow_158 cx_7_171 oc_45 (Nat.le_of_ble_eq_true rfl)).trans ?_
    refine mj_bnd (fun q2 => ?_)
    refine (sx_if_ne (tgt := 0) dx_158_15 (by decide)).trans ?_
    refine mj_ite ?_ ?_
    · refine (sx_iconst (v := 0) dx_158_18 rfl).trans ?_
      exact sx_retz dx_158_19 rt_158 (by decide)
    · rfl
  · refine (sx_aload_n dx_158_20 rfl).trans ?_
    refine (sx_v0i dx_158_21 ow_158 cx_7_150 oc_45 (Nat.le_of_ble_eq_true rfl)).trans ?_
    refine mj_bnd (fun q3 => ?_)
    refine (sx_if_eq (tgt := 47) dx_158_24 (by decide)).trans ?_
    refine mj_ite ?_ ?_
    · refine (sx_aload_n dx_158_47 rfl).trans ?_
      refine (sx_v0i dx_158_48 ow_158 cx_7_137 oc_45 (Nat.le_of_ble_eq_true rfl)).trans ?_
      refine mj_bnd (fun q4 => ?_)
      refine (sx_s1i dx_158_51 ow_158 cx_7_177 (Nat.le_of_ble_eq_true rfl)).trans ?_
      refine mj_bnd (fun q5 => ?_)
      refine (sx_istore_n dx_158_54 (Nat.le_of_ble_eq_true rfl) rfl).trans ?_
      refine (sx_iload_n dx_158_55 rfl).trans ?_
      refine (sx_iconst (v := (-1)) dx_158_56 rfl).trans ?_
      refine (sx_icmp_ne (tgt := 70) dx_158_57 (by decide)).trans ?_
      refine mj_ite ?_ ?_
      · refine (sx_aload_n dx_158_60 rfl).trans ?_
        refine (sx_iconst (v := 1) dx_158_61 rfl).trans ?_
        refine (sx_aload_n dx_158_62 rfl).trans ?_
        refine (sx_gfi dx_158_63 ow_158 fx_7_131 (by decide) oc_45).trans ?_
        refine (sx_v2i dx_158_66 ow_158 cx_7_144 oc_45 (Nat.le_of_ble_eq_true rfl)).trans ?_
        refine mj_bnd (fun q6 => ?_)
        exact sx_retg dx_158_69 rt_158
      · refine (sx_aload_n dx_158_70 rfl).trans ?_
        refine (sx_iconst (v := 1) dx_158_71 rfl).trans ?_
        refine (sx_iload_n dx_158_72 rfl).trans ?_
        refine (sx_v2v dx_158_73 ow_158 cx_7_167 oc_45 (Nat.le_of_ble_eq_true rfl)).trans ?_
        refine mj_bnd (fun q7 => ?_)
        refine (sx_aload_n dx_158_76 rfl).trans ?_
        refine (sx_aload_n dx_158_77 rfl).trans ?_
        refine (sx_gfi dx_158_78 ow_158 fx_7_131 (by decide) oc_45).trans ?_
        refine (sx_iconst (v := 1) dx_158_81 rfl).trans ?_
        refine (sx_iadd dx_158_82).trans ?_
        refine (sx_pfi dx_158_83 ow_158 fx_7_131 oc_45).trans ?_
        refine (sx_iconst (v := 1) dx_158_86 rfl).trans ?_
        exact sx_retz dx_158_87 rt_158 (by decide)
    · refine (sx_aload_n dx_158_27 rfl).trans ?_
      refine (sx_v0i dx_158_28 ow_158 cx_7_174 oc_45 (Nat.le_of_ble_eq_true rfl)).trans ?_
      refine mj_bnd (fun q8 => ?_)
      refine (sx_if_ne (tgt := 36) dx_158_31 (by decide)).trans ?_
      refine mj_ite ?_ ?_
      · refine (sx_iconst (v := 0) dx_158_34 rfl).trans ?_
        exact sx_retz dx_158_35 rt_158 (by decide)
      · refine (sx_aload_n dx_158_36 rfl).trans ?_
        refine (sx_iconst (v := 0) dx_158_37 rfl).trans ?_
        refine (sx_aload_n dx_158_38 rfl).trans ?_
        refine (sx_gfi dx_158_39 ow_158 fx_7_147 (by decide) oc_45).trans ?_
        refine (sx_v2v dx_158_42 ow_158 cx_7_167 oc_45 (Nat.le_of_ble_eq_true rfl)).trans ?_
        refine mj_bnd (fun q9 => ?_)
        refine (sx_iconst (v := 1) dx_158_45 rfl).trans ?_
        exact sx_retz dx_158_46 rt_158 (by decide)
theorem dx_159_0 : mj_at 159 0 = some (.iload_n 1) := by decide +kernel
theorem dx_159_1 : mj_at 159 1 = some (.istore_n 2) := by decide +kernel
theorem dx_159_2 : mj_at 159 2 = some (.iload_n 2) := by decide +kernel
theorem dx_159_3 : mj_at 159 3 = some (.aload_n 0) := by decide +kernel
theorem dx_159_4 : mj_at 159 4 = some (.getfield 161) := by decide +kernel
theorem dx_159_7 : mj_at 159 7 = some (.if_icmp .ge 25) := by decide +kernel
theorem dx_159_10 : mj_at 159 10 = some (.aload_n 0) := by decide +kernel
theorem dx_159_11 : mj_at 159 11 = some (.getfield 29) := by decide +kernel
theorem dx_159_14 : mj_at 159 14 = some (.iload_n 2) := by decide +kernel
theorem dx_159_15 : mj_at 159 15 = some (.iaload) := by decide +kernel
theorem dx_159_16 : mj_at 159 16 = some (.ldc 157) := by decide +kernel
theorem dx_159_18 : mj_at 159 18 = some (.idiv) := by decide +kernel
theorem dx_159_19 : mj_at 159 19 = some (.bipush 14) := by decide +kernel
theorem dx_159_21 : mj_at 159 21 = some (.if_icmp .ne 5) := by decide +kernel
theorem dx_159_24 : mj_at 159 24 = some (.iconst 1) := by decide +kernel
theorem dx_159_25 : mj_at 159 25 = some (.ireturn) := by decide +kernel
theorem dx_159_26 : mj_at 159 26 = some (.iinc 2 1) := by decide +kernel
theorem dx_159_29 : mj_at 159 29 = some (.goto (-27)) := by decide +kernel
theorem dx_159_32 : mj_at 159 32 = some (.iconst 0) := by decide +kernel
theorem dx_159_33 : mj_at 159 33 = some (.ireturn) := by decide +kernel
set_option maxRecDepth 10000 in
theorem b_X9_hasOpenSum {sl d : Nat} {M : mj_M} {x1 : Int32}  : mj_C sl d 159 [.ref 45, .int x1] M = mj_E sl d 159 2 [.ref 45, .int x1, .int x1] [] M := by
  show mj_E sl d 159 0 [.ref 45, .int x1, .null] [] M = _
  refine (sx_iload_n dx_159_0 rfl).trans ?_
  refine (sx_istore_n dx_159_1 (Nat.le_of_ble_eq_true rfl) rfl).trans ?_
  rfl
set_option maxRecDepth 10000 in
theorem b_X9_hasOpenSum_2 {sl d : Nat} {M : mj_M} {w1 : Value} {y2 : Int32}  : mj_E sl d 159 2 [.ref 45, w1, .int y2] [] M = if y2 < (M 45 12) then (if mj_inB y2 260 = true then (if (M 52 (y2 : Int32).toNatClampNeg) / 1048576 = 14 then (some ((1 : Int32), M)) else (mj_E sl d 159 2 [.ref 45, w1, .int (y2 + 1)] [] M)) else none) else (some ((0 : Int32), M)) := by
  refine (sx_iload_n dx_159_2 rfl).trans ?_
  refine (sx_aload_n dx_159_3 rfl).trans ?_
  refine (sx_gfi dx_159_4 ow_159 fx_7_161 (by decide) oc_45).trans ?_
  refine (sx_icmp_ge (tgt := 32) dx_159_7 (by decide)).trans ?_
  refine mj_ite ?_ ?_
  · refine (sx_aload_n dx_159_10 rfl).trans ?_
    refine (sx_gfr dx_159_11 ow_159 fx_7_29 oc_45 rb_45_16).trans ?_
    refine (sx_iload_n dx_159_14 rfl).trans ?_
    refine (sx_ild dx_159_15 (by decide) ia_52).trans ?_
    refine mj_ite ?_ rfl
    refine (sx_ldc (v := 1048576) dx_159_16 ow_159 kx_7_157).trans ?_
    refine (sx_idiv dx_159_18 (by decide)).trans ?_
    refine (sx_bipush (v := 14) dx_159_19 rfl).trans ?_
    refine (sx_icmp_ne (tgt := 26) dx_159_21 (by decide)).trans ?_
    refine mj_ite ?_ ?_
    · refine (sx_iconst (v := 1) dx_159_24 rfl).trans ?_
      exact sx_retz dx_159_25 rt_159 (by decide)
    · refine (sx_iinc (v := 1) dx_159_26 rfl rfl rfl).trans ?_
      refine (sx_goto (tgt := 2) dx_159_29 (by decide)).trans ?_
      rfl
  · refine (sx_iconst (v := 0) dx_159_32 rfl).trans ?_
    exact sx_retz dx_159_33 rt_159 (by decide)
theorem dx_160_0 : mj_at 160 0 = some (.aload_n 0) := by decide +kernel
theorem dx_160_1 : mj_at 160 1 = some (.getfield 161) := by decide +kernel
theorem dx_160_4 : mj_at 160 4 = some (.istore_n 1) := by decide +kernel
theorem dx_160_5 : mj_at 160 5 = some (.aload_n 0) := by decide +kernel
theorem dx_160_6 : mj_at 160 6 = some (.invokevirtual 180) := by decide +kernel
theorem dx_160_9 : mj_at 160 9 = some (.ifCond .ne 5) := by decide +kernel
theorem dx_160_12 : mj_at 160 12 = some (.iconst 0) := by decide +kernel
theorem dx_160_13 : mj_at 160 13 = some (.ireturn) := by decide +kernel
theorem dx_160_14 : mj_at 160 14 = some (.aload_n 0) := by decide +kernel
theorem dx_160_15 : mj_at 160 15 = some (.invokevirtual 137) := by decide +kernel
theorem dx_160_18 : mj_at 160 18 = some (.invokestatic 183) := by decide +kernel
theorem dx_160_21 : mj_at 160 21 = some (.istore_n 2) := by decide +kernel
theorem dx_160_22 : mj_at 160 22 = some (.iload_n 2) := by decide +kernel
theorem dx_160_23 : mj_at 160 23 = some (.iconst (-1)) := by decide +kernel
theorem dx_160_24 : mj_at 160 24 = some (.if_icmp .eq 59) := by decide +kernel
theorem dx_160_27 : mj_at 160 27 = some (.aload_n 0) := by decide +kernel
theorem dx_160_28 : mj_at 160 28 = some (.iload_n 2) := by decide +kernel
theorem dx_160_29 : mj_at 160 29 = some (.iconst 4) := by decide +kernel
theorem dx_160_30 : mj_at 160 30 = some (.if_icmp .ge 7) := by decide +kernel
theorem dx_160_33 : mj_at 160 33 = some (.iconst 1) := by decide +kernel
theorem dx_160_34 : mj_at 160 34 = some (.goto 4) := by decide +kernel
theorem dx_160_37 : mj_at 160 37 = some (.iconst 0) := by decide +kernel
theorem dx_160_38 : mj_at 160 38 = some (.invokevirtual 186) := by decide +kernel
theorem dx_160_41 : mj_at 160 41 = some (.aload_n 0) := by decide +kernel
theorem dx_160_42 : mj_at 160 42 = some (.getfield 29) := by decide +kernel
theorem dx_160_45 : mj_at 160 45 = some (.aload_n 0) := by decide +kernel
theorem dx_160_46 : mj_at 160 46 = some (.getfield 161) := by decide +kernel
theorem dx_160_49 : mj_at 160 49 = some (.ldc 157) := by decide +kernel
theorem dx_160_51 : mj_at 160 51 = some (.iload_n 2) := by decide +kernel
theorem dx_160_52 : mj_at 160 52 = some (.imul) := by decide +kernel
theorem dx_160_53 : mj_at 160 53 = some (.iastore) := by decide +kernel
theorem dx_160_54 : mj_at 160 54 = some (.aload_n 0) := by decide +kernel
theorem dx_160_55 : mj_at 160 55 = some (.aload_n 0) := by decide +kernel
theorem dx_160_56 : mj_at 160 56 = some (.getfield 161) := by decide +kernel
theorem dx_160_59 : mj_at 160 59 = some (.iconst 1) := by decide +kernel
theorem dx_160_60 : mj_at 160 60 = some (.iadd) := by decide +kernel
theorem dx_160_61 : mj_at 160 61 = some (.putfield 161) := by decide +kernel
theorem dx_160_64 : mj_at 160 64 = some (.aload_n 0) := by decide +kernel
theorem dx_160_65 : mj_at 160 65 = some (.aload_n 0) := by decide +kernel
theorem dx_160_66 : mj_at 160 66 = some (.getfield 131) := by decide +kernel
theorem dx_160_69 : mj_at 160 69 = some (.iconst 1) := by decide +kernel
theorem dx_160_70 : mj_at 160 70 = some (.iadd) := by decide +kernel
theorem dx_160_71 : mj_at 160 71 = some (.putfield 131) := by decide +kernel
theorem dx_160_74 : mj_at 160 74 = some (.aload_n 0) := by decide +kernel
theorem dx_160_75 : mj_at 160 75 = some (.invokevirtual 180) := by decide +kernel
theorem dx_160_78 : mj_at 160 78 = some (.ifCond .ne 85) := by decide +kernel
theorem dx_160_81 : mj_at 160 81 = some (.iconst 0) := by decide +kernel
theorem dx_160_82 : mj_at 160 82 = some (.ireturn) := by decide +kernel
theorem dx_160_83 : mj_at 160 83 = some (.aload_n 0) := by decide +kernel
theorem dx_160_84 : mj_at 160 84 = some (.invokevirtual 137) := by decide +kernel
theorem dx_160_87 : mj_at 160 87 = some (.bipush 93) := by decide +kernel
theorem dx_160_89 : mj_at 160 89 = some (.if_icmp .ne 49) := by decide +kernel
theorem dx_160_92 : mj_at 160 92 = some (.aload_n 0) := by decide +kernel
theorem dx_160_93 : mj_at 160 93 = some (.iload_n 1) := by decide +kernel
theorem dx_160_94 : mj_at 160 94 = some (.invokevirtual 190) := by decide +kernel
theorem dx_160_97 : mj_at 160 97 = some (.ifCond .eq 41) := by decide +kernel
theorem dx_160_100 : mj_at 160 100 = some (.aload_n 0) := by decide +kernel
theorem dx_160_101 : mj_at 160 101 = some (.iconst 1) := by decide +kernel
theorem dx_160_102 : mj_at 160 102 = some (.invokevirtual 186) := by decide +kernel
theorem dx_160_105 : mj_at 160 105 = some (.aload_n 0) := by decide +kernel
theorem dx_160_106 : mj_at 160 106 = some (.aload_n 0) := by decide +kernel
theorem dx_160_107 : mj_at 160 107 = some (.getfield 161) := by decide +kernel
theorem dx_160_110 : mj_at 160 110 = some (.iconst 1) := by decide +kernel
theorem dx_160_111 : mj_at 160 111 = some (.isub) := by decide +kernel
theorem dx_160_112 : mj_at 160 112 = some (.putfield 161) := by decide +kernel
theorem dx_160_115 : mj_at 160 115 = some (.aload_n 0) := by decide +kernel
theorem dx_160_116 : mj_at 160 116 = some (.aload_n 0) := by decide +kernel
theorem dx_160_117 : mj_at 160 117 = some (.getfield 158) := by decide +kernel
theorem dx_160_120 : mj_at 160 120 = some (.iconst 1) := by decide +kernel
theorem dx_160_121 : mj_at 160 121 = some (.isub) := by decide +kernel
theorem dx_160_122 : mj_at 160 122 = some (.putfield 158) := by decide +kernel
theorem dx_160_125 : mj_at 160 125 = some (.aload_n 0) := by decide +kernel
theorem dx_160_126 : mj_at 160 126 = some (.aload_n 0) := by decide +kernel
theorem dx_160_127 : mj_at 160 127 = some (.getfield 131) := by decide +kernel
theorem dx_160_130 : mj_at 160 130 = some (.iconst 1) := by decide +kernel
theorem dx_160_131 : mj_at 160 131 = some (.iadd) := by decide +kernel
theorem dx_160_132 : mj_at 160 132 = some (.putfield 131) := by decide +kernel
theorem dx_160_135 : mj_at 160 135 = some (.goto 28) := by decide +kernel
theorem dx_160_138 : mj_at 160 138 = some (.aload_n 0) := by decide +kernel
theorem dx_160_139 : mj_at 160 139 = some (.iload_n 1) := by decide +kernel
theorem dx_160_140 : mj_at 160 140 = some (.invokevirtual 190) := by decide +kernel
theorem dx_160_143 : mj_at 160 143 = some (.ifCond .eq 13) := by decide +kernel
theorem dx_160_146 : mj_at 160 146 = some (.aload_n 0) := by decide +kernel
theorem dx_160_147 : mj_at 160 147 = some (.iconst 1) := by decide +kernel
theorem dx_160_148 : mj_at 160 148 = some (.aload_n 0) := by decide +kernel
theorem dx_160_149 : mj_at 160 149 = some (.getfield 131) := by decide +kernel
theorem dx_160_152 : mj_at 160 152 = some (.invokevirtual 144) := by decide +kernel
theorem dx_160_155 : mj_at 160 155 = some (.ireturn) := by decide +kernel
theorem dx_160_156 : mj_at 160 156 = some (.aload_n 0) := by decide +kernel
theorem dx_160_157 : mj_at 160 157 = some (.iconst 1) := by decide +kernel
theorem dx_160_158 : mj_at 160 158 = some (.invokevirtual 186) := by decide +kernel
theorem dx_160_161 : mj_at 160 161 = some (.iconst 1) := by decide +kernel
theorem dx_160_162 : mj_at 160 162 = some (.ireturn) := by decide +kernel
theorem dx_160_163 : mj_at 160 163 = some (.goto (-149)) := by decide +kernel
set_option maxRecDepth 10000 in
theorem b_X9_readsSum {sl d : Nat} {M : mj_M}   : mj_C sl (d + 1) 160 [.ref 45] M = (mj_C sl d 158 [.ref 45] M).bind (fun q1 => if q1.1 = 0 then (some ((0 : Int32), q1.2)) else (mj_E sl (d + 1) 160 14 [.ref 45, .int (M 45 12), .null] [] q1.2)) := by
  show mj_E sl (d + 1) 160 0 [.ref 45, .null, .null] [] M = _
  refine (sx_aload_n dx_160_0 rfl).trans ?_
  refine (sx_gfi dx_160_1 ow_160 fx_7_161 (by decide) oc_45).trans ?_
  refine (sx_istore_n dx_160_4 (Nat.le_of_ble_eq_true rfl) rfl).trans ?_
  refine (sx_aload_n dx_160_5 rfl).trans ?_
  refine (sx_v0i dx_160_6 ow_160 cx_7_180 oc_45 (Nat.le_of_ble_eq_true rfl)).trans ?_
  refine mj_bnd (fun q1 => ?_)
  refine (sx_if_ne (tgt := 14) dx_160_9 (by decide)).trans ?_
  refine mj_ite ?_ ?_
  · refine (sx_iconst (v := 0) dx_160_12 rfl).trans ?_
    exact sx_retz dx_160_13 rt_160 (by decide)
  · rfl
set_option maxRecDepth 10000 in
theorem b_X9_readsSum_14 {sl d : Nat} {M : mj_M} {y1 : Int32} {w2 : Value}  : mj_E sl (d + 1) 160 14 [.ref 45, .int y1, w2] [] M = (mj_C sl d 147 [.ref 45] M).bind (fun q1 => (mj_C sl d 156 [.int q1.1] q1.2).bind (fun q2 => if q2.1 = (-1) then ((mj_C sl d 147 [.ref 45] q2.2).bind (fun q3 => if q3.1 = 93 then ((mj_C sl d 159 [.ref 45, .int y1] q3.2).bind (fun q4 => if q4.1 = 0 then ((mj_C sl d 159 [.ref 45, .int y1] q4.2).bind (fun q5 => if q5.1 = 0 then ((mj_C sl d 157 [.ref 45, .int 1] q5.2).bind (fun q6 => some ((1 : Int32), q6.2))) else ((mj_C sl d 149 [.ref 45, .int 1, .int (q5.2 45 6)] q5.2).bind (fun q7 => if q7.1 &&& 1 = q7.1 then some ((q7.1 : Int32), q7.2) else none)))) else ((mj_C sl d 157 [.ref 45, .int 1] q4.2).bind (fun q8 => mj_E sl (d + 1) 160 14 [.ref 45, .int y1, .int q2.1] [] (mj_st (mj_st (mj_st q8.2 45 12 ((q8.2 45 12) - 1)) 45 10 (((mj_st q8.2 45 12 ((q8.2 45 12) - 1)) 45 10) - 1)) 45 6 (((mj_st (mj_st q8.2 45 12 ((q8.2 45 12) - 1)) 45 10 (((mj_st q8.2 45 12 ((q8.2 45 12) - 1)) 45 10) - 1)) 45 6) + 1)))))) else ((mj_C sl d 159 [.ref 45, .int y1] q3.2).bind (fun q9 => if q9.1 = 0 then ((mj_C sl d 157 [.ref 45, .int 1] q9.2).bind (fun q10 => some ((1 : Int32), q10.2))) else ((mj_C sl d 149 [.ref 45, .int 1, .int (q9.2 45 6)] q9.2).bind (fun q11 => if q11.1 &&& 1 = q11.1 then some ((q11.1 : Int32), q11.2) else none)))))) else (if q2.1 < 4 then ((mj_C sl d 157 [.ref 45, .int 1] q2.2).bind (fun q12 => if mj_inB (q12.2 45 12) 260 = true then ((mj_C sl d 158 [.ref 45] (mj_st (mj_st (mj_st q12.2 52 (q12.2 45 12 : Int32).toNatClampNeg ((1048576 : Int32) * q2.1)) 45 12 (((mj_st q12.2 52 (q12.2 45 12 : Int32).toNatClampNeg ((1048576 : Int32) * q2.1)) 45 12) + 1)) 45 6 (((mj_st (mj_st q12.2 52 (q12.2 45 12 : Int32).toNatClampNeg ((1048576 : Int32) * q2.1)) 45 12 (((mj_st q12.2 52 (q12.2 45 12 : Int32).toNatClampNeg ((1048576 : Int32) * q2.1)) 45 12) + 1)) 45 6) + 1))).bind (fun q13 => if q13.1 = 0 then (some ((0 : Int32), q13.2)) else (mj_E sl (d + 1) 160 14 [.ref 45, .int y1, .int q2.1] [] q13.2))) else none)) else ((mj_C sl d 157 [.ref 45, .int 0] q2.2).bind (fun q14 => if mj_inB (q14.2 45 12) 260 = true then ((mj_C sl d 158 [.ref 45] (mj_st (mj_st (mj_st q14.2 52 (q14.2 45 12 : Int32).toNatClampNeg ((1048576 : Int32) * q2.1)) 45 12 (((mj_st q14.2 52 (q14.2 45 12 : Int32).toNatClampNeg ((1048576 : Int32) * q2.1)) 45 12) + 1)) 45 6 (((mj_st (mj_st q14.2 52 (q14.2 45 12 : Int32).toNatClampNeg ((1048576 : Int32) * q2.1)) 45 12 (((mj_st q14.2 52 (q14.2 45 12 : Int32).toNatClampNeg ((1048576 : Int32) * q2.1)) 45 12) + 1)) 45 6) + 1))).bind (fun q15 => if q15.1 = 0 then (some ((0 : Int32), q15.2)) else (mj_E sl (d + 1) 160 14 [.ref 45, .int y1, .int q2.1] [] q15.2))) else none))))) := by
  refine (sx_aload_n dx_160_14 rfl).trans ?_
  refine (sx_v0i dx_160_15 ow_160 cx_7_137 oc_45 (Nat.le_of_ble_eq_true rfl)).trans ?_
  refine mj_bnd (fun q1 => ?_)
  refine (sx_s1i dx_160_18 ow_160 cx_7_183 (Nat.le_of_ble_eq_true rfl)).trans ?_
  refine mj_bnd (fun q2 => ?_)
  refine (sx_istore_n dx_160_21 (Nat.le_of_ble_eq_true rfl) rfl).trans ?_
  refine (sx_iload_n dx_160_22 rfl).trans ?_
  refine (sx_iconst (v := (-1)) dx_160_23 rfl).trans ?_
  refine (sx_icmp_eq (tgt := 83) dx_160_24 (by decide)).trans ?_
  refine mj_ite ?_ ?_
  · refine (sx_aload_n dx_160_83 rfl).trans ?_
    refine (sx_v0i dx_160_84 ow_160 cx_7_137 oc_45 (Nat.le_of_ble_eq_true rfl)).trans ?_
    refine mj_bnd (fun q3 => ?_)
    refine (sx_bipush (v := 93) dx_160_87 rfl).trans ?_
    refine (sx_icmp_ne (tgt := 138) dx_160_89 (by decide)).trans ?_
    refine mj_ite ?_ ?_
    · refine (sx_aload_n dx_160_92 rfl).trans ?_
      refine (sx_iload_n dx_160_93 rfl).trans ?_
      refine (sx_v1i dx_160_94 ow_160 cx_7_190 oc_45 (Nat.le_of_ble_eq_true rfl)).trans ?_
      refine mj_bnd (fun q4 => ?_)
      refine (sx_if_eq (tgt := 138) dx_160_97 (by decide)).trans ?_
      refine mj_ite ?_ ?_
      · refine (sx_aload_n dx_160_138 rfl).trans ?_
        refine (sx_iload_n dx_160_139 rfl).trans ?_
        refine (sx_v1i dx_160_140 ow_160 cx_7_190 oc_45 (Nat.le_of_ble_eq_true rfl)).trans ?_
        refine mj_bnd (fun q5 => ?_)
        refine (sx_if_eq (tgt := 156) dx_160_143 (by decide)).trans ?_
        refine mj_ite ?_ ?_
        · refine (sx_aload_n dx_160_156 rfl).trans ?_
          refine (sx_iconst (v := 1) dx_160_157 rfl).trans ?_
          refine (sx_v1v dx_160_158 ow_160 cx_7_186 oc_45 (Nat.le_of_ble_eq_true rfl)).trans ?_
          refine mj_bnd (fun q6 => ?_)
          refine (sx_iconst (v := 1) dx_160_161 rfl).trans ?_
          exact sx_retz dx_160_162 rt_160 (by decide)
        · refine (sx_aload_n dx_160_146 rfl).trans ?_
          refine (sx_iconst (v := 1) dx_160_147 rfl).trans ?_
          refine (sx_aload_n dx_160_148 rfl).trans ?_
          refine (sx_gfi dx_160_149 ow_160 fx_7_131 (by decide) oc_45).trans ?_
          refine (sx_v2i dx_160_152 ow_160 cx_7_144 oc_45 (Nat.le_of_ble_eq_true rfl)).trans ?_
          refine mj_bnd (fun q7 => ?_)
          exact sx_retg dx_160_155 rt_160
      · refine (sx_aload_n dx_160_100 rfl).trans ?_
        refine (sx_iconst (v := 1) dx_160_101 rfl).trans ?_
        refine (sx_v1v dx_160_102 ow_160 cx_7_186 oc_45 (Nat.le_of_ble_eq_true rfl)).trans ?_
        refine mj_bnd (fun q8 => ?_)
        refine (sx_aload_n dx_160_105 rfl).trans ?_
        refine (sx_aload_n dx_160_106 rfl).trans ?_
        refine (sx_gfi dx_160_107 ow_160 fx_7_161 (by decide) oc_45).trans ?_
        refine (sx_iconst (v := 1) dx_160_110 rfl).trans ?_
        refine (sx_isub dx_160_111).trans ?_
        refine (sx_pfi dx_160_112 ow_160 fx_7_161 oc_45).trans ?_
        refine (sx_aload_n dx_160_115 rfl).trans ?_
        refine (sx_aload_n dx_160_116 rfl).trans ?_
        refine (sx_gfi dx_160_117 ow_160 fx_7_158 (by decide) oc_45).trans ?_
        refine (sx_iconst (v := 1) dx_160_120 rfl).trans ?_
        refine (sx_isub dx_160_121).trans ?_
        refine (sx_pfi dx_160_122 ow_160 fx_7_158 oc_45).trans ?_
        refine (sx_aload_n dx_160_125 rfl).trans ?_
        refine (sx_aload_n dx_160_126 rfl).trans ?_
        refine (sx_gfi dx_160_127 ow_160 fx_7_131 (by decide) oc_45).trans ?_
        refine (sx_iconst (v := 1) dx_160_130 rfl).trans ?_
        refine (sx_iadd dx_160_131).trans ?_
        refine (sx_pfi dx_160_132 ow_160 fx_7_131 oc_45).trans ?_
        refine (sx_goto (tgt := 163) dx_160_135 (by decide)).trans ?_
        refine (sx_goto (tgt := 14) dx_160_163 (by decide)).trans ?_
        rfl
    · refine (sx_aload_n dx_160_138 rfl).trans ?_
      refine (sx_iload_n dx_160_139 rfl).trans ?_
      refine (sx_v1i dx_160_140 ow_160 cx_7_190 oc_45 (Nat.le_of_ble_eq_true rfl)).trans ?_
      refine mj_bnd (fun q9 => ?_)
      refine (sx_if_eq (tgt := 156) dx_160_143 (by decide)).trans ?_
      refine mj_ite ?_ ?_
      · refine (sx_aload_n dx_160_156 rfl).trans ?_
        refine (sx_iconst (v := 1) dx_160_157 rfl).trans ?_
        refine (sx_v1v dx_160_158 ow_160 cx_7_186 oc_45 (Nat.le_of_ble_eq_true rfl)).trans ?_
        refine mj_bnd (fun q10 => ?_)
        refine (sx_iconst (v := 1) dx_160_161 rfl).trans ?_
        exact sx_retz dx_160_162 rt_160 (by decide)
      · refine (sx_aload_n dx_160_146 rfl).trans ?_
        refine (sx_iconst (v := 1) dx_160_147 rfl).trans ?_
        refine (sx_aload_n dx_160_148 rfl).trans ?_
        refine (sx_gfi dx_160_149 ow_160 fx_7_131 (by decide) oc_45).trans ?_
        refine (sx_v2i dx_160_152 ow_160 cx_7_144 oc_45 (Nat.le_of_ble_eq_true rfl)).trans ?_
        refine mj_bnd (fun q11 => ?_)
        exact sx_retg dx_160_155 rt_160
  · refine (sx_aload_n dx_160_27 rfl).trans ?_
    refine (sx_iload_n dx_160_28 rfl).trans ?_
    refine (sx_iconst (v := 4) dx_160_29 rfl).trans ?_
    refine (sx_icmp_ge (tgt := 37) dx_160_30 (by decide)).trans ?_
    refine mj_ite ?_ ?_
    · refine (sx_iconst (v := 1) dx_160_33 rfl).trans ?_
      refine (sx_goto (tgt := 38) dx_160_34 (by decide)).trans ?_
      refine (sx_v1v dx_160_38 ow_160 cx_7_186 oc_45 (Nat.le_of_ble_eq_true rfl)).trans ?_
      refine mj_bnd (fun q12 => ?_)
      refine (sx_aload_n dx_160_41 rfl).trans ?_
      refine (sx_gfr dx_160_42 ow_160 fx_7_29 oc_45 rb_45_16).trans ?_
      refine (sx_aload_n dx_160_45 rfl).trans ?_
      refine (sx_gfi dx_160_46 ow_160 fx_7_161 (by decide) oc_45).trans ?_
      refine (sx_ldc (v := 1048576) dx_160_49 ow_160 kx_7_157).trans ?_
      refine (sx_iload_n dx_160_51 rfl).trans ?_
      refine (sx_imul dx_160_52).trans ?_
      refine (sx_ist dx_160_53 ia_52).trans ?_
      refine mj_ite ?_ rfl
      refine (sx_aload_n dx_160_54 rfl).trans ?_
      refine (sx_aload_n dx_160_55 rfl).trans ?_
      refine (sx_gfi dx_160_56 ow_160 fx_7_161 (by decide) oc_45).trans ?_
      refine (sx_iconst (v := 1) dx_160_59 rfl).trans ?_
      refine (sx_iadd dx_160_60).trans ?_
      refine (sx_pfi dx_160_61 ow_160 fx_7_161 oc_45).trans ?_
      refine (sx_aload_n dx_160_64 rfl).trans ?_
      refine (sx_aload_n dx_160_65 rfl).trans ?_
      refine (sx_gfi dx_160_66 ow_160 fx_7_131 (by decide) oc_45).trans ?_
      refine (sx_iconst (v := 1) dx_160_69 rfl).trans ?_
      refine (sx_iadd dx_160_70).trans ?_
      refine (sx_pfi dx_160_71 ow_160 fx_7_131 oc_45).trans ?_
      refine (sx_aload_n dx_160_74 rfl).trans ?_
      refine (sx_v0i dx_160_75 ow_160 cx_7_180 oc_45 (Nat.le_of_ble_eq_true rfl)).trans ?_
      refine mj_bnd (fun q13 => ?_)
      refine (sx_if_ne (tgt := 163) dx_160_78 (by decide)).trans ?_
      refine mj_ite ?_ ?_
      · refine (sx_iconst (v := 0) dx_160_81 rfl).trans ?_
        exact sx_retz dx_160_82 rt_160 (by decide)
      · refine (sx_goto (tgt := 14) dx_160_163 (by decide)).trans ?_
        rfl
    · refine (sx_iconst (v := 0) dx_160_37 rfl).trans ?_
      refine (sx_v1v dx_160_38 ow_160 cx_7_186 oc_45 (Nat.le_of_ble_eq_true rfl)).trans ?_
      refine mj_bnd (fun q14 => ?_)
      refine (sx_aload_n dx_160_41 rfl).trans ?_
      refine (sx_gfr dx_160_42 ow_160 fx_7_29 oc_45 rb_45_16).trans ?_
      refine (sx_aload_n dx_160_45 rfl).trans ?_
      refine (sx_gfi dx_160_46 ow_160 fx_7_161 (by decide) oc_45).trans ?_
      refine (sx_ldc (v := 1048576) dx_160_49 ow_160 kx_7_157).trans ?_
      refine (sx_iload_n dx_160_51 rfl).trans ?_
      refine (sx_imul dx_160_52).trans ?_
      refine (sx_ist dx_160_53 ia_52).trans ?_
      refine mj_ite ?_ rfl
      refine (sx_aload_n dx_160_54 rfl).trans ?_
      refine (sx_aload_n dx_160_55 rfl).trans ?_
      refine (sx_gfi dx_160_56 ow_160 fx_7_161 (by decide) oc_45).trans ?_
      refine (sx_iconst (v := 1) dx_160_59 rfl).trans ?_
      refine (sx_iadd dx_160_60).trans ?_
      refine (sx_pfi dx_160_61 ow_160 fx_7_161 oc_45).trans ?_
      refine (sx_aload_n dx_160_64 rfl).trans ?_
      refine (sx_aload_n dx_160_65 rfl).trans ?_
      refine (sx_gfi dx_160_66 ow_160 fx_7_131 (by decide) oc_45).trans ?_
      refine (sx_iconst (v := 1) dx_160_69 rfl).trans ?_
      refine (sx_iadd dx_160_70).trans ?_
      refine (sx_pfi dx_160_71 ow_160 fx_7_131 oc_45).trans ?_
      refine (sx_aload_n dx_160_74 rfl).trans ?_
      refine (sx_v0i dx_160_75 ow_160 cx_7_180 oc_45 (Nat.le_of_ble_eq_true rfl)).trans ?_
      refine mj_bnd (fun q15 => ?_)
      refine (sx_if_ne (tgt := 163) dx_160_78 (by decide)).trans ?_
      refine mj_ite ?_ ?_
      · refine (sx_iconst (v := 0) dx_160_81 rfl).trans ?_
        exact sx_retz dx_160_82 rt_160 (by decide)
      · refine (sx_goto (tgt := 14) dx_160_163 (by decide)).trans ?_
        rfl
theorem dx_161_0 : mj_at 161 0 = some (.aload_n 0) := by decide +kernel
theorem dx_161_1 : mj_at 161 1 = some (.invokevirtual 164) := by decide +kernel
theorem dx_161_4 : mj_at 161 4 = some (.bipush 10) := by decide +kernel
theorem dx_161_6 : mj_at 161 6 = some (.if_icmp .ne 33) := by decide +kernel
theorem dx_161_9 : mj_at 161 9 = some (.aload_n 0) := by decide +kernel
theorem dx_161_10 : mj_at 161 10 = some (.bipush 10) := by decide +kernel
theorem dx_161_12 : mj_at 161 12 = some (.iconst 0) := by decide +kernel
theorem dx_161_13 : mj_at 161 13 = some (.invokevirtual 167) := by decide +kernel
theorem dx_161_16 : mj_at 161 16 = some (.aload_n 0) := by decide +kernel
theorem dx_161_17 : mj_at 161 17 = some (.aload_n 0) := by decide +kernel
theorem dx_161_18 : mj_at 161 18 = some (.getfield 161) := by decide +kernel
theorem dx_161_21 : mj_at 161 21 = some (.iconst 1) := by decide +kernel
theorem dx_161_22 : mj_at 161 22 = some (.isub) := by decide +kernel
theorem dx_161_23 : mj_at 161 23 = some (.putfield 161) := by decide +kernel
theorem dx_161_26 : mj_at 161 26 = some (.aload_n 0) := by decide +kernel
theorem dx_161_27 : mj_at 161 27 = some (.aload_n 0) := by decide +kernel
theorem dx_161_28 : mj_at 161 28 = some (.getfield 158) := by decide +kernel
theorem dx_161_31 : mj_at 161 31 = some (.iconst 1) := by decide +kernel
theorem dx_161_32 : mj_at 161 32 = some (.isub) := by decide +kernel
theorem dx_161_33 : mj_at 161 33 = some (.putfield 158) := by decide +kernel
theorem dx_161_36 : mj_at 161 36 = some (.goto (-36)) := by decide +kernel
theorem dx_161_39 : mj_at 161 39 = some (.return_) := by decide +kernel
set_option maxRecDepth 10000 in
theorem b_X9_endsPiece_0 {sl d : Nat} {M : mj_M}   : mj_E sl (d + 1) 161 0 [.ref 45] [] M = (mj_C sl d 154 [.ref 45] M).bind (fun q1 => if q1.1 = 10 then ((mj_C sl d 152 [.ref 45, .int 10, .int 0] q1.2).bind (fun q2 => mj_E sl (d + 1) 161 0 [.ref 45] [] (mj_st (mj_st q2.2 45 12 ((q2.2 45 12) - 1)) 45 10 (((mj_st q2.2 45 12 ((q2.2 45 12) - 1)) 45 10) - 1)))) else (some ((0 : Int32), q1.2))) := by
  refine (sx_aload_n dx_161_0 rfl).trans ?_
  refine (sx_v0i dx_161_1 ow_161 cx_7_164 oc_45 (Nat.le_of_ble_eq_true rfl)).trans ?_
  refine mj_bnd (fun q1 => ?_)
  refine (sx_bipush (v := 10) dx_161_4 rfl).trans ?_
  refine (sx_icmp_ne (tgt := 39) dx_161_6 (by decide)).trans ?_
  refine mj_ite ?_ ?_
  · refine (sx_aload_n dx_161_9 rfl).trans ?_
    refine (sx_bipush (v := 10) dx_161_10 rfl).trans ?_
    refine (sx_iconst (v := 0) dx_161_12 rfl).trans ?_
    refine (sx_v2v dx_161_13 ow_161 cx_7_167 oc_45 (Nat.le_of_ble_eq_true rfl)).trans ?_
    refine mj_bnd (fun q2 => ?_)
    refine (sx_aload_n dx_161_16 rfl).trans ?_
    refine (sx_aload_n dx_161_17 rfl).trans ?_
    refine (sx_gfi dx_161_18 ow_161 fx_7_161 (by decide) oc_45).trans ?_
    refine (sx_iconst (v := 1) dx_161_21 rfl).trans ?_
    refine (sx_isub dx_161_22).trans ?_
    refine (sx_pfi dx_161_23 ow_161 fx_7_161 oc_45).trans ?_
    refine (sx_aload_n dx_161_26 rfl).trans ?_
    refine (sx_aload_n dx_161_27 rfl).trans ?_
    refine (sx_gfi dx_161_28 ow_161 fx_7_158 (by decide) oc_45).trans ?_
    refine (sx_iconst (v := 1) dx_161_31 rfl).trans ?_
    refine (sx_isub dx_161_32).trans ?_
    refine (sx_pfi dx_161_33 ow_161 fx_7_158 oc_45).trans ?_
    refine (sx_goto (tgt := 0) dx_161_36 (by decide)).trans ?_
    rfl
  · exact sx_retv dx_161_39 rt_161
theorem dx_162_0 : mj_at 162 0 = some (.aload_n 0) := by decide +kernel
theorem dx_162_1 : mj_at 162 1 = some (.invokevirtual 164) := by decide +kernel
theorem dx_162_4 : mj_at 162 4 = some (.bipush 11) := by decide +kernel
theorem dx_162_6 : mj_at 162 6 = some (.if_icmp .eq 16) := by decide +kernel
theorem dx_162_9 : mj_at 162 9 = some (.iload_n 1) := by decide +kernel
theorem dx_162_10 : mj_at 162 10 = some (.ifCond .eq 63) := by decide +kernel
theorem dx_162_13 : mj_at 162 13 = some (.aload_n 0) := by decide +kernel
theorem dx_162_14 : mj_at 162 14 = some (.invokevirtual 164) := by decide +kernel
theorem dx_162_17 : mj_at 162 17 = some (.bipush 12) := by decide +kernel
theorem dx_162_19 : mj_at 162 19 = some (.if_icmp .ne 54) := by decide +kernel
theorem dx_162_22 : mj_at 162 22 = some (.aload_n 0) := by decide +kernel
theorem dx_162_23 : mj_at 162 23 = some (.getfield 29) := by decide +kernel
theorem dx_162_26 : mj_at 162 26 = some (.aload_n 0) := by decide +kernel
theorem dx_162_27 : mj_at 162 27 = some (.getfield 161) := by decide +kernel
theorem dx_162_30 : mj_at 162 30 = some (.iconst 1) := by decide +kernel
theorem dx_162_31 : mj_at 162 31 = some (.isub) := by decide +kernel
theorem dx_162_32 : mj_at 162 32 = some (.iaload) := by decide +kernel
theorem dx_162_33 : mj_at 162 33 = some (.ldc 157) := by decide +kernel
theorem dx_162_35 : mj_at 162 35 = some (.irem) := by decide +kernel
theorem dx_162_36 : mj_at 162 36 = some (.istore_n 2) := by decide +kernel
theorem dx_162_37 : mj_at 162 37 = some (.aload_n 0) := by decide +kernel
theorem dx_162_38 : mj_at 162 38 = some (.getfield 26) := by decide +kernel
theorem dx_162_41 : mj_at 162 41 = some (.iload_n 2) := by decide +kernel
theorem dx_162_42 : mj_at 162 42 = some (.ldc 157) := by decide +kernel
theorem dx_162_44 : mj_at 162 44 = some (.aload_n 0) := by decide +kernel
theorem dx_162_45 : mj_at 162 45 = some (.getfield 26) := by decide +kernel
theorem dx_162_48 : mj_at 162 48 = some (.iload_n 2) := by decide +kernel
theorem dx_162_49 : mj_at 162 49 = some (.iaload) := by decide +kernel
theorem dx_162_50 : mj_at 162 50 = some (.ldc 157) := by decide +kernel
theorem dx_162_52 : mj_at 162 52 = some (.idiv) := by decide +kernel
theorem dx_162_53 : mj_at 162 53 = some (.imul) := by decide +kernel
theorem dx_162_54 : mj_at 162 54 = some (.aload_n 0) := by decide +kernel
theorem dx_162_55 : mj_at 162 55 = some (.getfield 154) := by decide +kernel
theorem dx_162_58 : mj_at 162 58 = some (.iadd) := by decide +kernel
theorem dx_162_59 : mj_at 162 59 = some (.iastore) := by decide +kernel
theorem dx_162_60 : mj_at 162 60 = some (.aload_n 0) := by decide +kernel
theorem dx_162_61 : mj_at 162 61 = some (.aload_n 0) := by decide +kernel
theorem dx_162_62 : mj_at 162 62 = some (.getfield 161) := by decide +kernel
theorem dx_162_65 : mj_at 162 65 = some (.iconst 1) := by decide +kernel
theorem dx_162_66 : mj_at 162 66 = some (.isub) := by decide +kernel
theorem dx_162_67 : mj_at 162 67 = some (.putfield 161) := by decide +kernel
theorem dx_162_70 : mj_at 162 70 = some (.goto (-70)) := by decide +kernel
theorem dx_162_73 : mj_at 162 73 = some (.return_) := by decide +kernel
set_option maxRecDepth 10000 in
theorem b_X9_lands_0 {sl d : Nat} {M : mj_M} {x1 : Int32}  : mj_E sl (d + 1) 162 0 [.ref 45, .int x1, .null] [] M = (mj_C sl d 154 [.ref 45] M).bind (fun q1 => if q1.1 = 11 then (mj_E sl (d + 1) 162 22 [.ref 45, .int x1, .null] [] q1.2) else (if x1 = 0 then (some ((0 : Int32), q1.2)) else ((mj_C sl d 154 [.ref 45] q1.2).bind (fun q2 => if q2.1 = 12 then (mj_E sl (d + 1) 162 22 [.ref 45, .int x1, .null] [] q2.2) else (some ((0 : Int32), q2.2)))))) := by
  refine (sx_aload_n dx_162_0 rfl).trans ?_
  refine (sx_v0i dx_162_1 ow_162 cx_7_164 oc_45 (Nat.le_of_ble_eq_true rfl)).trans ?_
  refine mj_bnd (fun q1 => ?_)
  refine (sx_bipush (v := 11) dx_162_4 rfl).trans ?_
  refine (sx_icmp_eq (tgt := 22) dx_162_6 (by decide)).trans ?_
  refine mj_ite ?_ ?_
  · rfl
  · refine (sx_iload_n dx_162_9 rfl).trans ?_
    refine (sx_if_eq (tgt := 73) dx_162_10 (by decide)).trans ?_
    refine mj_ite ?_ ?_
    · exact sx_retv dx_162_73 rt_162
    · refine (sx_aload_n dx_162_13 rfl).trans ?_
      refine (sx_v0i dx_162_14 ow_162 cx_7_164 oc_45 (Nat.le_of_ble_eq_true rfl)).trans ?_
      refine mj_bnd (fun q2 => ?_)
      refine (sx_bipush (v := 12) dx_162_17 rfl).trans ?_
      refine (sx_icmp_ne (tgt := 73) dx_162_19 (by decide)).trans ?_
      refine mj_ite ?_ ?_
      · rfl
      · exact sx_retv dx_162_73 rt_162
set_option maxRecDepth 10000 in
theorem b_X9_lands_22 {sl d : Nat} {M : mj_M} {y1 : Int32} {w2 : Value}  : mj_E sl (d + 1) 162 22 [.ref 45, .int y1, w2] [] M = if mj_inB ((M 45 12) - 1) 260 = true then (if mj_inB (mj_rm (M 52 ((M 45 12) - 1 : Int32).toNatClampNeg) 1048576) 260 = true then (if mj_inB (mj_rm (M 52 ((M 45 12) - 1 : Int32).toNatClampNeg) 1048576) 260 = true then (mj_E sl (d + 1) 162 0 [.ref 45, .int y1, .int (mj_rm (M 52 ((M 45 12) - 1 : Int32).toNatClampNeg) 1048576)] [] (mj_st (mj_st M 51 (mj_rm (M 52 ((M 45 12) - 1 : Int32).toNatClampNeg) 1048576 : Int32).toNatClampNeg (((1048576 : Int32) * ((M 51 (mj_rm (M 52 ((M 45 12) - 1 : Int32).toNatClampNeg) 1048576 : Int32).toNatClampNeg) / 1048576)) + (M 45 11))) 45 12 (((mj_st M 51 (mj_rm (M 52 ((M 45 12) - 1 : Int32).toNatClampNeg) 1048576 : Int32).toNatClampNeg (((1048576 : Int32) * ((M 51 (mj_rm (M 52 ((M 45 12) - 1 : Int32).toNatClampNeg) 1048576 : Int32).toNatClampNeg) / 1048576)) + (M 45 11))) 45 12) - 1))) else none) else none) else none := by
  refine (sx_aload_n dx_162_22 rfl).trans ?_
  refine (sx_gfr dx_162_23 ow_162 fx_7_29 oc_45 rb_45_16).trans ?_
  refine (sx_aload_n dx_162_26 rfl).trans ?_
  refine (sx_gfi dx_162_27 ow_162 fx_7_161 (by decide) oc_45).trans ?_
  refine (sx_iconst (v := 1) dx_162_30 rfl).trans ?_
  refine (sx_isub dx_162_31).trans ?_
  refine (sx_ild dx_162_32 (by decide) ia_52).trans ?_
  refine mj_ite ?_ rfl
  refine (sx_ldc (v := 1048576) dx_162_33 ow_162 kx_7_157).trans ?_
  refine (sx_irem dx_162_35 (by decide)).trans ?_
  refine (sx_istore_n dx_162_36 (Nat.le_of_ble_eq_true rfl) rfl).trans ?_
  refine (sx_aload_n dx_162_37 rfl).trans ?_
  refine (sx_gfr dx_162_38 ow_162 fx_7_26 oc_45 rb_45_15).trans ?_
  refine (sx_iload_n dx_162_41 rfl).trans ?_
  refine (sx_ldc (v := 1048576) dx_162_42 ow_162 kx_7_157).trans ?_
  refine (sx_aload_n dx_162_44 rfl).trans ?_
  refine (sx_gfr dx_162_45 ow_162 fx_7_26 oc_45 rb_45_15).trans ?_
  refine (sx_iload_n dx_162_48 rfl).trans ?_
  refine (sx_ild dx_162_49 (by decide) ia_51).trans ?_
  refine mj_ite ?_ rfl
  refine (sx_ldc (v := 1048576) dx_162_50 ow_162 kx_7_157).trans ?_
  refine (sx_idiv dx_162_52 (by decide)).trans ?_
  refine (sx_imul dx_162_53).trans ?_
  refine (sx_aload_n dx_162_54 rfl).trans ?_
  refine (sx_gfi dx_162_55 ow_162 fx_7_154 (by decide) oc_45).trans ?_
  refine (sx_iadd dx_162_58).trans ?_
  refine (sx_ist dx_162_59 ia_51).trans ?_
  refine mj_ite ?_ rfl
  refine (sx_aload_n dx_162_60 rfl).trans ?_
  refine (sx_aload_n dx_162_61 rfl).trans ?_
  refine (sx_gfi dx_162_62 ow_162 fx_7_161 (by decide) oc_45).trans ?_
  refine (sx_iconst (v := 1) dx_162_65 rfl).trans ?_
  refine (sx_isub dx_162_66).trans ?_
  refine (sx_pfi dx_162_67 ow_162 fx_7_161 oc_45).trans ?_
  refine (sx_goto (tgt := 0) dx_162_70 (by decide)).trans ?_
  rfl
theorem dx_163_0 : mj_at 163 0 = some (.aload_n 0) := by decide +kernel
theorem dx_163_1 : mj_at 163 1 = some (.getfield 29) := by decide +kernel
theorem dx_163_4 : mj_at 163 4 = some (.aload_n 0) := by decide +kernel
theorem dx_163_5 : mj_at 163 5 = some (.getfield 161) := by decide +kernel
theorem dx_163_8 : mj_at 163 8 = some (.ldc 157) := by decide +kernel
theorem dx_163_10 : mj_at 163 10 = some (.iload_n 1) := by decide +kernel
theorem dx_163_11 : mj_at 163 11 = some (.imul) := by decide +kernel
theorem dx_163_12 : mj_at 163 12 = some (.aload_n 0) := by decide +kernel
theorem dx_163_13 : mj_at 163 13 = some (.getfield 154) := by decide +kernel
theorem dx_163_16 : mj_at 163 16 = some (.iadd) := by decide +kernel
theorem dx_163_17 : mj_at 163 17 = some (.iastore) := by decide +kernel
theorem dx_163_18 : mj_at 163 18 = some (.aload_n 0) := by decide +kernel
theorem dx_163_19 : mj_at 163 19 = some (.aload_n 0) := by decide +kernel
theorem dx_163_20 : mj_at 163 20 = some (.getfield 161) := by decide +kernel
theorem dx_163_23 : mj_at 163 23 = some (.iconst 1) := by decide +kernel
theorem dx_163_24 : mj_at 163 24 = some (.iadd) := by decide +kernel
theorem dx_163_25 : mj_at 163 25 = some (.putfield 161) := by decide +kernel
theorem dx_163_28 : mj_at 163 28 = some (.aload_n 0) := by decide +kernel
theorem dx_163_29 : mj_at 163 29 = some (.iload_n 1) := by decide +kernel
theorem dx_163_30 : mj_at 163 30 = some (.iconst 0) := by decide +kernel
theorem dx_163_31 : mj_at 163 31 = some (.invokevirtual 167) := by decide +kernel
theorem dx_163_34 : mj_at 163 34 = some (.aload_n 0) := by decide +kernel
theorem dx_163_35 : mj_at 163 35 = some (.aload_n 0) := by decide +kernel
theorem dx_163_36 : mj_at 163 36 = some (.getfield 131) := by decide +kernel
theorem dx_163_39 : mj_at 163 39 = some (.iconst 1) := by decide +kernel
theorem dx_163_40 : mj_at 163 40 = some (.iadd) := by decide +kernel
theorem dx_163_41 : mj_at 163 41 = some (.putfield 131) := by decide +kernel
theorem dx_163_44 : mj_at 163 44 = some (.return_) := by decide +kernel
set_option maxRecDepth 10000 in
theorem b_X9_jumps {sl d : Nat} {M : mj_M} {x1 : Int32}  : mj_C sl (d + 1) 163 [.ref 45, .int x1] M = if mj_inB (M 45 12) 260 = true then ((mj_C sl d 152 [.ref 45, .int x1, .int 0] (mj_st (mj_st M 52 (M 45 12 : Int32).toNatClampNeg (((1048576 : Int32) * x1) + (M 45 11))) 45 12 (((mj_st M 52 (M 45 12 : Int32).toNatClampNeg (((1048576 : Int32) * x1) + (M 45 11))) 45 12) + 1))).bind (fun q1 => some ((0 : Int32), mj_st q1.2 45 6 ((q1.2 45 6) + 1)))) else none := by
  show mj_E sl (d + 1) 163 0 [.ref 45, .int x1] [] M = _
  refine (sx_aload_n dx_163_0 rfl).trans ?_
  refine (sx_gfr dx_163_1 ow_163 fx_7_29 oc_45 rb_45_16).trans ?_
  refine (sx_aload_n dx_163_4 rfl).trans ?_
  refine (sx_gfi dx_163_5 ow_163 fx_7_161 (by decide) oc_45).trans ?_
  refine (sx_ldc (v := 1048576) dx_163_8 ow_163 kx_7_157).trans ?_
  refine (sx_iload_n dx_163_10 rfl).trans ?_
  refine (sx_imul dx_163_11).trans ?_
  refine (sx_aload_n dx_163_12 rfl).trans ?_
  refine (sx_gfi dx_163_13 ow_163 fx_7_154 (by decide) oc_45).trans ?_
  refine (sx_iadd dx_163_16).trans ?_
  refine (sx_ist dx_163_17 ia_52).trans ?_
  refine mj_ite ?_ rfl
  refine (sx_aload_n dx_163_18 rfl).trans ?_
  refine (sx_aload_n dx_163_19 rfl).trans ?_
  refine (sx_gfi dx_163_20 ow_163 fx_7_161 (by decide) oc_45).trans ?_
  refine (sx_iconst (v := 1) dx_163_23 rfl).trans ?_
  refine (sx_iadd dx_163_24).trans ?_
  refine (sx_pfi dx_163_25 ow_163 fx_7_161 oc_45).trans ?_
  refine (sx_aload_n dx_163_28 rfl).trans ?_
  refine (sx_iload_n dx_163_29 rfl).trans ?_
  refine (sx_iconst (v := 0) dx_163_30 rfl).trans ?_
  refine (sx_v2v dx_163_31 ow_163 cx_7_167 oc_45 (Nat.le_of_ble_eq_true rfl)).trans ?_
  refine mj_bnd (fun q1 => ?_)
  refine (sx_aload_n dx_163_34 rfl).trans ?_
  refine (sx_aload_n dx_163_35 rfl).trans ?_
  refine (sx_gfi dx_163_36 ow_163 fx_7_131 (by decide) oc_45).trans ?_
  refine (sx_iconst (v := 1) dx_163_39 rfl).trans ?_
  refine (sx_iadd dx_163_40).trans ?_
  refine (sx_pfi dx_163_41 ow_163 fx_7_131 oc_45).trans ?_
  exact sx_retv dx_163_44 rt_163
theorem dx_164_0 : mj_at 164 0 = some (.aload_n 0) := by decide +kernel
theorem dx_164_1 : mj_at 164 1 = some (.invokevirtual 193) := by decide +kernel
theorem dx_164_4 : mj_at 164 4 = some (.ifCond .ne 5) := by decide +kernel
theorem dx_164_7 : mj_at 164 7 = some (.iconst 0) := by decide +kernel
theorem dx_164_8 : mj_at 164 8 = some (.ireturn) := by decide +kernel
theorem dx_164_9 : mj_at 164 9 = some (.aload_n 0) := by decide +kernel
theorem dx_164_10 : mj_at 164 10 = some (.invokevirtual 137) := by decide +kernel
theorem dx_164_13 : mj_at 164 13 = some (.bipush 60) := by decide +kernel
theorem dx_164_15 : mj_at 164 15 = some (.if_icmp .ne 8) := by decide +kernel
theorem dx_164_18 : mj_at 164 18 = some (.bipush 7) := by decide +kernel
theorem dx_164_20 : mj_at 164 20 = some (.goto 32) := by decide +kernel
theorem dx_164_23 : mj_at 164 23 = some (.aload_n 0) := by decide +kernel
theorem dx_164_24 : mj_at 164 24 = some (.invokevirtual 137) := by decide +kernel
theorem dx_164_27 : mj_at 164 27 = some (.bipush 62) := by decide +kernel
theorem dx_164_29 : mj_at 164 29 = some (.if_icmp .ne 8) := by decide +kernel
theorem dx_164_32 : mj_at 164 32 = some (.bipush 8) := by decide +kernel
theorem dx_164_34 : mj_at 164 34 = some (.goto 18) := by decide +kernel
theorem dx_164_37 : mj_at 164 37 = some (.aload_n 0) := by decide +kernel
theorem dx_164_38 : mj_at 164 38 = some (.invokevirtual 137) := by decide +kernel
theorem dx_164_41 : mj_at 164 41 = some (.bipush 61) := by decide +kernel
theorem dx_164_43 : mj_at 164 43 = some (.if_icmp .ne 8) := by decide +kernel
theorem dx_164_46 : mj_at 164 46 = some (.bipush 9) := by decide +kernel
theorem dx_164_48 : mj_at 164 48 = some (.goto 4) := by decide +kernel
theorem dx_164_51 : mj_at 164 51 = some (.iconst (-1)) := by decide +kernel
theorem dx_164_52 : mj_at 164 52 = some (.istore_n 1) := by decide +kernel
theorem dx_164_53 : mj_at 164 53 = some (.iload_n 1) := by decide +kernel
theorem dx_164_54 : mj_at 164 54 = some (.iconst (-1)) := by decide +kernel
theorem dx_164_55 : mj_at 164 55 = some (.if_icmp .ne 13) := by decide +kernel
theorem dx_164_58 : mj_at 164 58 = some (.aload_n 0) := by decide +kernel
theorem dx_164_59 : mj_at 164 59 = some (.iconst 1) := by decide +kernel
theorem dx_164_60 : mj_at 164 60 = some (.aload_n 0) := by decide +kernel
theorem dx_164_61 : mj_at 164 61 = some (.getfield 131) := by decide +kernel
theorem dx_164_64 : mj_at 164 64 = some (.invokevirtual 144) := by decide +kernel
theorem dx_164_67 : mj_at 164 67 = some (.ireturn) := by decide +kernel
theorem dx_164_68 : mj_at 164 68 = some (.aload_n 0) := by decide +kernel
theorem dx_164_69 : mj_at 164 69 = some (.aload_n 0) := by decide +kernel
theorem dx_164_70 : mj_at 164 70 = some (.getfield 131) := by decide +kernel
theorem dx_164_73 : mj_at 164 73 = some (.iconst 1) := by decide +kernel
theorem dx_164_74 : mj_at 164 74 = some (.iadd) := by decide +kernel
theorem dx_164_75 : mj_at 164 75 = some (.putfield 131) := by decide +kernel
theorem dx_164_78 : mj_at 164 78 = some (.aload_n 0) := by decide +kernel
theorem dx_164_79 : mj_at 164 79 = some (.invokevirtual 193) := by decide +kernel
theorem dx_164_82 : mj_at 164 82 = some (.ifCond .ne 5) := by decide +kernel
theorem dx_164_85 : mj_at 164 85 = some (.iconst 0) := by decide +kernel
theorem dx_164_86 : mj_at 164 86 = some (.ireturn) := by decide +kernel
theorem dx_164_87 : mj_at 164 87 = some (.aload_n 0) := by decide +kernel
theorem dx_164_88 : mj_at 164 88 = some (.iload_n 1) := by decide +kernel
theorem dx_164_89 : mj_at 164 89 = some (.iconst 0) := by decide +kernel
theorem dx_164_90 : mj_at 164 90 = some (.invokevirtual 167) := by decide +kernel
theorem dx_164_93 : mj_at 164 93 = some (.aload_n 0) := by decide +kernel
theorem dx_164_94 : mj_at 164 94 = some (.invokevirtual 196) := by decide +kernel
theorem dx_164_97 : mj_at 164 97 = some (.iconst 1) := by decide +kernel
theorem dx_164_98 : mj_at 164 98 = some (.ireturn) := by decide +kernel
set_option maxRecDepth 10000 in
theorem b_X9_readsCompared {sl d : Nat} {M : mj_M}   : mj_C sl (d + 1) 164 [.ref 45] M = (mj_C sl d 160 [.ref 45] M).bind (fun q1 => if q1.1 = 0 then (some ((0 : Int32), q1.2)) else ((mj_C sl d 147 [.ref 45] q1.2).bind (fun q2 => if q2.1 = 60 then ((mj_C sl d 160 [.ref 45] (mj_st q2.2 45 6 ((q2.2 45 6) + 1))).bind (fun q3 => if q3.1 = 0 then (some ((0 : Int32), q3.2)) else ((mj_C sl d 152 [.ref 45, .int 7, .int 0] q3.2).bind (fun q4 => (mj_C sl d 161 [.ref 45] q4.2).bind (fun q5 => some ((1 : Int32), q5.2)))))) else ((mj_C sl d 147 [.ref 45] q2.2).bind (fun q6 => if q6.1 = 62 then ((mj_C sl d 160 [.ref 45] (mj_st q6.2 45 6 ((q6.2 45 6) + 1))).bind (fun q7 => if q7.1 = 0 then (some ((0 : Int32), q7.2)) else ((mj_C sl d 152 [.ref 45, .int 8, .int 0] q7.2).bind (fun q8 => (mj_C sl d 161 [.ref 45] q8.2).bind (fun q9 => some ((1 : Int32), q9.2)))))) else ((mj_C sl d 147 [.ref 45] q6.2).bind (fun q10 => if q10.1 = 61 then ((mj_C sl d 160 [.ref 45] (mj_st q10.2 45 6 ((q10.2 45 6) + 1))).bind (fun q11 => if q11.1 = 0 then (some ((0 : Int32), q11.2)) else ((mj_C sl d 152 [.ref 45, .int 9, .int 0] q11.2).bind (fun q12 => (mj_C sl d 161 [.ref 45] q12.2).bind (fun q13 => some ((1 : Int32), q13.2)))))) else ((mj_C sl d 149 [.ref 45, .int 1, .int (q10.2 45 6)] q10.2).bind (fun q14 => if q14.1 &&& 1 = q14.1 then some ((q14.1 : Int32), q14.2) else none))))))))) := by
  show mj_E sl (d + 1) 164 0 [.ref 45, .null] [] M = _
  refine (sx_aload_n dx_164_0 rfl).trans ?_
  refine (sx_v0i dx_164_1 ow_164 cx_7_193 oc_45 (Nat.le_of_ble_eq_true rfl)).trans ?_
  refine mj_bnd (fun q1 => ?_)
  refine (sx_if_ne (tgt := 9) dx_164_4 (by decide)).trans ?_
  refine mj_ite ?_ ?_
  · refine (sx_iconst (v := 0) dx_164_7 rfl).trans ?_
    exact sx_retz dx_164_8 rt_164 (by decide)
  · refine (sx_aload_n dx_164_9 rfl).trans ?_
    refine (sx_v0i dx_164_10 ow_164 cx_7_137 oc_45 (Nat.le_of_ble_eq_true rfl)).trans ?_
    refine mj_bnd (fun q2 => ?_)
    refine (sx_bipush (v := 60) dx_164_13 rfl).trans ?_
    refine (sx_icmp_ne (tgt := 23) dx_164_15 (by decide)).trans ?_
    refine mj_ite ?_ ?_
    · refine (sx_bipush (v := 7) dx_164_18 rfl).trans ?_
      refine (sx_goto (tgt := 52) dx_164_20 (by decide)).trans ?_
      refine (sx_istore_n dx_164_52 (Nat.le_of_ble_eq_true rfl) rfl).trans ?_
      refine (sx_iload_n dx_164_53 rfl).trans ?_
      refine (sx_iconst (v := (-1)) dx_164_54 rfl).trans ?_
      refine (sx_icmp_ne_f (tgt := 68) dx_164_55 (by decide) (by decide)).trans ?_
      refine (sx_aload_n dx_164_68 rfl).trans ?_
      refine (sx_aload_n dx_164_69 rfl).trans ?_
      refine (sx_gfi dx_164_70 ow_164 fx_7_131 (by decide) oc_45).trans ?_
      refine (sx_iconst (v := 1) dx_164_73 rfl).trans ?_
      refine (sx_iadd dx_164_74).trans ?_
      refine (sx_pfi dx_164_75 ow_164 fx_7_131 oc_45).trans ?_
      refine (sx_aload_n dx_164_78 rfl).trans ?_
      refine (sx_v0i dx_164_79 ow_164 cx_7_193 oc_45 (Nat.le_of_ble_eq_true rfl)).trans ?_
      refine mj_bnd (fun q3 => ?_)
      refine (sx_if_ne (tgt := 87) dx_164_82 (by decide)).trans ?_
      refine mj_ite ?_ ?_
      · refine (sx_iconst (v := 0) dx_164_85 rfl).trans ?_
        exact sx_retz dx_164_86 rt_164 (by decide)
      · refine (sx_aload_n dx_164_87 rfl).trans ?_
        refine (sx_iload_n dx_164_88 rfl).trans ?_
        refine (sx_iconst (v := 0) dx_164_89 rfl).trans ?_
        refine (sx_v2v dx_164_90 ow_164 cx_7_167 oc_45 (Nat.le_of_ble_eq_true rfl)).trans ?_
        refine mj_bnd (fun q4 => ?_)
        refine (sx_aload_n dx_164_93 rfl).trans ?_
        refine (sx_v0v dx_164_94 ow_164 cx_7_196 oc_45 (Nat.le_of_ble_eq_true rfl)).trans ?_
        refine mj_bnd (fun q5 => ?_)
        refine (sx_iconst (v := 1) dx_164_97 rfl).trans ?_
        exact sx_retz dx_164_98 rt_164 (by decide)
    · refine (sx_aload_n dx_164_23 rfl).trans ?_
      refine (sx_v0i dx_164_24 ow_164 cx_7_137 oc_45 (Nat.le_of_ble_eq_true rfl)).trans ?_
      refine mj_bnd (fun q6 => ?_)
      refine (sx_bipush (v := 62) dx_164_27 rfl).trans ?_
      refine (sx_icmp_ne (tgt := 37) dx_164_29 (by decide)).trans ?_
      refine mj_ite ?_ ?_
      · refine (sx_bipush (v := 8) dx_164_32 rfl).trans ?_
        refine (sx_goto (tgt := 52) dx_164_34 (by decide)).trans ?_
        refine (sx_istore_n dx_164_52 (Nat.le_of_ble_eq_true rfl) rfl).trans ?_
        refine (sx_iload_n dx_164_53 rfl).trans ?_
        refine (sx_iconst (v := (-1)) dx_164_54 rfl).trans ?_
        refine (sx_icmp_ne_f (tgt := 68) dx_164_55 (by decide) (by decide)).trans ?_
        refine (sx_aload_n dx_164_68 rfl).trans ?_
        refine (sx_aload_n dx_164_69 rfl).trans ?_
        refine (sx_gfi dx_164_70 ow_164 fx_7_131 (by decide) oc_45).trans ?_
        refine (sx_iconst (v := 1) dx_164_73 rfl).trans ?_
        refine (sx_iadd dx_164_74).trans ?_
        refine (sx_pfi dx_164_75 ow_164 fx_7_131 oc_45).trans ?_
        refine (sx_aload_n dx_164_78 rfl).trans ?_
        refine (sx_v0i dx_164_79 ow_164 cx_7_193 oc_45 (Nat.le_of_ble_eq_true rfl)).trans ?_
        refine mj_bnd (fun q7 => ?_)
        refine (sx_if_ne (tgt := 87) dx_164_82 (by decide)).trans ?_
        refine mj_ite ?_ ?_
        · refine (sx_iconst (v := 0) dx_164_85 rfl).trans ?_
          exact sx_retz dx_164_86 rt_164 (by decide)
        · refine (sx_aload_n dx_164_87 rfl).trans ?_
          refine (sx_iload_n dx_164_88 rfl).trans ?_
          refine (sx_iconst (v := 0) dx_164_89 rfl).trans ?_
          refine (sx_v2v dx_164_90 ow_164 cx_7_167 oc_45 (Nat.le_of_ble_eq_true rfl)).trans ?_
          refine mj_bnd (fun q8 => ?_)
          refine (sx_aload_n dx_164_93 rfl).trans ?_
          refine (sx_v0v dx_164_94 ow_164 cx_7_196 oc_45 (Nat.le_of_ble_eq_true rfl)).trans ?_
          refine mj_bnd (fun q9 => ?_)
          refine (sx_iconst (v := 1) dx_164_97 rfl).trans ?_
          exact sx_retz dx_164_98 rt_164 (by decide)
      · refine (sx_aload_n dx_164_37 rfl).trans ?_
        refine (sx_v0i dx_164_38 ow_164 cx_7_137 oc_45 (Nat.le_of_ble_eq_true rfl)).trans ?_
        refine mj_bnd (fun q10 => ?_)
        refine (sx_bipush (v := 61) dx_164_41 rfl).trans ?_
        refine (sx_icmp_ne (tgt := 51) dx_164_43 (by decide)).trans ?_
        refine mj_ite ?_ ?_
        · refine (sx_bipush (v := 9) dx_164_46 rfl).trans ?_
          refine (sx_goto (tgt := 52) dx_164_48 (by decide)).trans ?_
          refine (sx_istore_n dx_164_52 (Nat.le_of_ble_eq_true rfl) rfl).trans ?_
          refine (sx_iload_n dx_164_53 rfl).trans ?_
          refine (sx_iconst (v := (-1)) dx_164_54 rfl).trans ?_
          refine (sx_icmp_ne_f (tgt := 68) dx_164_55 (by decide) (by decide)).trans ?_
          refine (sx_aload_n dx_164_68 rfl).trans ?_
          refine (sx_aload_n dx_164_69 rfl).trans ?_
          refine (sx_gfi dx_164_70 ow_164 fx_7_131 (by decide) oc_45).trans ?_
          refine (sx_iconst (v := 1) dx_164_73 rfl).trans ?_
          refine (sx_iadd dx_164_74).trans ?_
          refine (sx_pfi dx_164_75 ow_164 fx_7_131 oc_45).trans ?_
          refine (sx_aload_n dx_164_78 rfl).trans ?_
          refine (sx_v0i dx_164_79 ow_164 cx_7_193 oc_45 (Nat.le_of_ble_eq_true rfl)).trans ?_
          refine mj_bnd (fun q11 => ?_)
          refine (sx_if_ne (tgt := 87) dx_164_82 (by decide)).trans ?_
          refine mj_ite ?_ ?_
          · refine (sx_iconst (v := 0) dx_164_85 rfl).trans ?_
            exact sx_retz dx_164_86 rt_164 (by decide)
          · refine (sx_aload_n dx_164_87 rfl).trans ?_
            refine (sx_iload_n dx_164_88 rfl).trans ?_
            refine (sx_iconst (v := 0) dx_164_89 rfl).trans ?_
            refine (sx_v2v dx_164_90 ow_164 cx_7_167 oc_45 (Nat.le_of_ble_eq_true rfl)).trans ?_
            refine mj_bnd (fun q12 => ?_)
            refine (sx_aload_n dx_164_93 rfl).trans ?_
            refine (sx_v0v dx_164_94 ow_164 cx_7_196 oc_45 (Nat.le_of_ble_eq_true rfl)).trans ?_
            refine mj_bnd (fun q13 => ?_)
            refine (sx_iconst (v := 1) dx_164_97 rfl).trans ?_
            exact sx_retz dx_164_98 rt_164 (by decide)
        · refine (sx_iconst (v := (-1)) dx_164_51 rfl).trans ?_
          refine (sx_istore_n dx_164_52 (Nat.le_of_ble_eq_true rfl) rfl).trans ?_
          refine (sx_iload_n dx_164_53 rfl).trans ?_
          refine (sx_iconst (v := (-1)) dx_164_54 rfl).trans ?_
          refine (sx_icmp_ne_t (tgt := 68) dx_164_55 (by decide) (by decide)).trans ?_
          refine (sx_aload_n dx_164_58 rfl).trans ?_
          refine (sx_iconst (v := 1) dx_164_59 rfl).trans ?_
          refine (sx_aload_n dx_164_60 rfl).trans ?_
          refine (sx_gfi dx_164_61 ow_164 fx_7_131 (by decide) oc_45).trans ?_
          refine (sx_v2i dx_164_64 ow_164 cx_7_144 oc_45 (Nat.le_of_ble_eq_true rfl)).trans ?_
          refine mj_bnd (fun q14 => ?_)
          exact sx_retg dx_164_67 rt_164
theorem dx_165_0 : mj_at 165 0 = some (.aload_n 0) := by decide +kernel
theorem dx_165_1 : mj_at 165 1 = some (.invokevirtual 137) := by decide +kernel
theorem dx_165_4 : mj_at 165 4 = some (.bipush 40) := by decide +kernel
theorem dx_165_6 : mj_at 165 6 = some (.if_icmp .eq 13) := by decide +kernel
theorem dx_165_9 : mj_at 165 9 = some (.aload_n 0) := by decide +kernel
theorem dx_165_10 : mj_at 165 10 = some (.iconst 1) := by decide +kernel
theorem dx_165_11 : mj_at 165 11 = some (.aload_n 0) := by decide +kernel
theorem dx_165_12 : mj_at 165 12 = some (.getfield 131) := by decide +kernel
theorem dx_165_15 : mj_at 165 15 = some (.invokevirtual 144) := by decide +kernel
theorem dx_165_18 : mj_at 165 18 = some (.ireturn) := by decide +kernel
theorem dx_165_19 : mj_at 165 19 = some (.aload_n 0) := by decide +kernel
theorem dx_165_20 : mj_at 165 20 = some (.iconst 0) := by decide +kernel
theorem dx_165_21 : mj_at 165 21 = some (.putfield 158) := by decide +kernel
theorem dx_165_24 : mj_at 165 24 = some (.aload_n 0) := by decide +kernel
theorem dx_165_25 : mj_at 165 25 = some (.iconst 0) := by decide +kernel
theorem dx_165_26 : mj_at 165 26 = some (.putfield 161) := by decide +kernel
theorem dx_165_29 : mj_at 165 29 = some (.aload_n 0) := by decide +kernel
theorem dx_165_30 : mj_at 165 30 = some (.bipush 13) := by decide +kernel
theorem dx_165_32 : mj_at 165 32 = some (.invokevirtual 171) := by decide +kernel
theorem dx_165_35 : mj_at 165 35 = some (.ifCond .ne 5) := by decide +kernel
theorem dx_165_38 : mj_at 165 38 = some (.iconst 0) := by decide +kernel
theorem dx_165_39 : mj_at 165 39 = some (.ireturn) := by decide +kernel
theorem dx_165_40 : mj_at 165 40 = some (.aload_n 0) := by decide +kernel
theorem dx_165_41 : mj_at 165 41 = some (.invokevirtual 137) := by decide +kernel
theorem dx_165_44 : mj_at 165 44 = some (.bipush 33) := by decide +kernel
theorem dx_165_46 : mj_at 165 46 = some (.if_icmp .eq 12) := by decide +kernel
theorem dx_165_49 : mj_at 165 49 = some (.aload_n 0) := by decide +kernel
theorem dx_165_50 : mj_at 165 50 = some (.invokevirtual 137) := by decide +kernel
theorem dx_165_53 : mj_at 165 53 = some (.bipush 40) := by decide +kernel
theorem dx_165_55 : mj_at 165 55 = some (.if_icmp .ne 28) := by decide +kernel
theorem dx_165_58 : mj_at 165 58 = some (.aload_n 0) := by decide +kernel
theorem dx_165_59 : mj_at 165 59 = some (.aload_n 0) := by decide +kernel
theorem dx_165_60 : mj_at 165 60 = some (.invokevirtual 137) := by decide +kernel
theorem dx_165_63 : mj_at 165 63 = some (.bipush 33) := by decide +kernel
theorem dx_165_65 : mj_at 165 65 = some (.if_icmp .ne 8) := by decide +kernel
theorem dx_165_68 : mj_at 165 68 = some (.bipush 10) := by decide +kernel
theorem dx_165_70 : mj_at 165 70 = some (.goto 5) := by decide +kernel
theorem dx_165_73 : mj_at 165 73 = some (.bipush 13) := by decide +kernel
theorem dx_165_75 : mj_at 165 75 = some (.invokevirtual 171) := by decide +kernel
theorem dx_165_78 : mj_at 165 78 = some (.ifCond .ne (-38)) := by decide +kernel
theorem dx_165_81 : mj_at 165 81 = some (.iconst 0) := by decide +kernel
theorem dx_165_82 : mj_at 165 82 = some (.ireturn) := by decide +kernel
theorem dx_165_83 : mj_at 165 83 = some (.aload_n 0) := by decide +kernel
theorem dx_165_84 : mj_at 165 84 = some (.invokevirtual 199) := by decide +kernel
theorem dx_165_87 : mj_at 165 87 = some (.ifCond .ne 5) := by decide +kernel
theorem dx_165_90 : mj_at 165 90 = some (.iconst 0) := by decide +kernel
theorem dx_165_91 : mj_at 165 91 = some (.ireturn) := by decide +kernel
theorem dx_165_92 : mj_at 165 92 = some (.aload_n 0) := by decide +kernel
theorem dx_165_93 : mj_at 165 93 = some (.invokevirtual 137) := by decide +kernel
theorem dx_165_96 : mj_at 165 96 = some (.bipush 41) := by decide +kernel
theorem dx_165_98 : mj_at 165 98 = some (.if_icmp .ne 54) := by decide +kernel
theorem dx_165_101 : mj_at 165 101 = some (.aload_n 0) := by decide +kernel
theorem dx_165_102 : mj_at 165 102 = some (.iconst 1) := by decide +kernel
theorem dx_165_103 : mj_at 165 103 = some (.invokevirtual 202) := by decide +kernel
theorem dx_165_106 : mj_at 165 106 = some (.aload_n 0) := by decide +kernel
theorem dx_165_107 : mj_at 165 107 = some (.aload_n 0) := by decide +kernel
theorem dx_165_108 : mj_at 165 108 = some (.getfield 161) := by decide +kernel
theorem dx_165_111 : mj_at 165 111 = some (.iconst 1) := by decide +kernel
theorem dx_165_112 : mj_at 165 112 = some (.isub) := by decide +kernel
theorem dx_165_113 : mj_at 165 113 = some (.putfield 161) := by decide +kernel
theorem dx_165_116 : mj_at 165 116 = some (.aload_n 0) := by decide +kernel
theorem dx_165_117 : mj_at 165 117 = some (.aload_n 0) := by decide +kernel
theorem dx_165_118 : mj_at 165 118 = some (.getfield 158) := by decide +kernel
theorem dx_165_121 : mj_at 165 121 = some (.iconst 1) := by decide +kernel
theorem dx_165_122 : mj_at 165 122 = some (.isub) := by decide +kernel
theorem dx_165_123 : mj_at 165 123 = some (.putfield 158) := by decide +kernel
theorem dx_165_126 : mj_at 165 126 = some (.aload_n 0) := by decide +kernel
theorem dx_165_127 : mj_at 165 127 = some (.aload_n 0) := by decide +kernel
theorem dx_165_128 : mj_at 165 128 = some (.getfield 131) := by decide +kernel
theorem dx_165_131 : mj_at 165 131 = some (.iconst 1) := by decide +kernel
theorem dx_165_132 : mj_at 165 132 = some (.iadd) := by decide +kernel
theorem dx_165_133 : mj_at 165 133 = some (.putfield 131) := by decide +kernel
theorem dx_165_136 : mj_at 165 136 = some (.aload_n 0) := by decide +kernel
theorem dx_165_137 : mj_at 165 137 = some (.getfield 161) := by decide +kernel
theorem dx_165_140 : mj_at 165 140 = some (.ifCond .ne 5) := by decide +kernel
theorem dx_165_143 : mj_at 165 143 = some (.iconst 1) := by decide +kernel
theorem dx_165_144 : mj_at 165 144 = some (.ireturn) := by decide +kernel
theorem dx_165_145 : mj_at 165 145 = some (.aload_n 0) := by decide +kernel
theorem dx_165_146 : mj_at 165 146 = some (.invokevirtual 196) := by decide +kernel
theorem dx_165_149 : mj_at 165 149 = some (.goto (-57)) := by decide +kernel
theorem dx_165_152 : mj_at 165 152 = some (.aload_n 0) := by decide +kernel
theorem dx_165_153 : mj_at 165 153 = some (.invokevirtual 137) := by decide +kernel
theorem dx_165_156 : mj_at 165 156 = some (.bipush 38) := by decide +kernel
theorem dx_165_158 : mj_at 165 158 = some (.if_icmp .eq 22) := by decide +kernel
theorem dx_165_161 : mj_at 165 161 = some (.aload_n 0) := by decide +kernel
theorem dx_165_162 : mj_at 165 162 = some (.invokevirtual 137) := by decide +kernel
theorem dx_165_165 : mj_at 165 165 = some (.bipush 124) := by decide +kernel
theorem dx_165_167 : mj_at 165 167 = some (.if_icmp .eq 13) := by decide +kernel
theorem dx_165_170 : mj_at 165 170 = some (.aload_n 0) := by decide +kernel
theorem dx_165_171 : mj_at 165 171 = some (.iconst 1) := by decide +kernel
theorem dx_165_172 : mj_at 165 172 = some (.aload_n 0) := by decide +kernel
theorem dx_165_173 : mj_at 165 173 = some (.getfield 131) := by decide +kernel
theorem dx_165_176 : mj_at 165 176 = some (.invokevirtual 144) := by decide +kernel
theorem dx_165_179 : mj_at 165 179 = some (.ireturn) := by decide +kernel
theorem dx_165_180 : mj_at 165 180 = some (.aload_n 0) := by decide +kernel
theorem dx_165_181 : mj_at 165 181 = some (.aload_n 0) := by decide +kernel
theorem dx_165_182 : mj_at 165 182 = some (.invokevirtual 137) := by decide +kernel
theorem dx_165_185 : mj_at 165 185 = some (.bipush 124) := by decide +kernel
theorem dx_165_187 : mj_at 165 187 = some (.if_icmp .ne 7) := by decide +kernel
theorem dx_165_190 : mj_at 165 190 = some (.iconst 1) := by decide +kernel
theorem dx_165_191 : mj_at 165 191 = some (.goto 4) := by decide +kernel
theorem dx_165_194 : mj_at 165 194 = some (.iconst 0) := by decide +kernel
theorem dx_165_195 : mj_at 165 195 = some (.invokevirtual 202) := by decide +kernel
theorem dx_165_198 : mj_at 165 198 = some (.aload_n 0) := by decide +kernel
theorem dx_165_199 : mj_at 165 199 = some (.aload_n 0) := by decide +kernel
theorem dx_165_200 : mj_at 165 200 = some (.invokevirtual 137) := by decide +kernel
theorem dx_165_203 : mj_at 165 203 = some (.bipush 38) := by decide +kernel
theorem dx_165_205 : mj_at 165 205 = some (.if_icmp .ne 8) := by decide +kernel
theorem dx_165_208 : mj_at 165 208 = some (.bipush 11) := by decide +kernel
theorem dx_165_210 : mj_at 165 210 = some (.goto 5) := by decide +kernel
theorem dx_165_213 : mj_at 165 213 = some (.bipush 12) := by decide +kernel
theorem dx_165_215 : mj_at 165 215 = some (.invokevirtual 205) := by decide +kernel
theorem dx_165_218 : mj_at 165 218 = some (.goto (-178)) := by decide +kernel
set_option maxRecDepth 10000 in
theorem b_X9_readsCondition {sl d : Nat} {M : mj_M}   : mj_C sl (d + 1) 165 [.ref 45] M = (mj_C sl d 147 [.ref 45] M).bind (fun q1 => if q1.1 = 40 then ((mj_C sl d 153 [.ref 45, .int 13] (mj_st (mj_st q1.2 45 10 0) 45 12 0)).bind (fun q2 => if q2.1 = 0 then (some ((0 : Int32), q2.2)) else (mj_E sl (d + 1) 165 40 [.ref 45] [] q2.2))) else ((mj_C sl d 149 [.ref 45, .int 1, .int (q1.2 45 6)] q1.2).bind (fun q3 => if q3.1 &&& 1 = q3.1 then some ((q3.1 : Int32), q3.2) else none))) := by
  show mj_E sl (d + 1) 165 0 [.ref 45] [] M = _
  refine (sx_aload_n dx_165_0 rfl).trans ?_
  refine (sx_v0i dx_165_1 ow_165 cx_7_137 oc_45 (Nat.le_of_ble_eq_true rfl)).trans ?_
  refine mj_bnd (fun q1 => ?_)
  refine (sx_bipush (v := 40) dx_165_4 rfl).trans ?_
  refine (sx_icmp_eq (tgt := 19) dx_165_6 (by decide)).trans ?_
  refine mj_ite ?_ ?_
  · refine (sx_aload_n dx_165_19 rfl).trans ?_
    refine (sx_iconst (v := 0) dx_165_20 rfl).trans ?_
    refine (sx_pfi dx_165_21 ow_165 fx_7_158 oc_45).trans ?_
    refine (sx_aload_n dx_165_24 rfl).trans ?_
    refine (sx_iconst (v := 0) dx_165_25 rfl).trans ?_
    refine (sx_pfi dx_165_26 ow_165 fx_7_161 oc_45).trans ?_
    refine (sx_aload_n dx_165_29 rfl).trans ?_
    refine (sx_bipush (v := 13) dx_165_30 rfl).trans ?_
    refine (sx_v1i dx_165_32 ow_165 cx_7_171 oc_45 (Nat.le_of_ble_eq_true rfl)).trans ?_
    refine mj_bnd (fun q2 => ?_)
    refine (sx_if_ne (tgt := 40) dx_165_35 (by decide)).trans ?_
    refine mj_ite ?_ ?_
    · refine (sx_iconst (v := 0) dx_165_38 rfl).trans ?_
      exact sx_retz dx_165_39 rt_165 (by decide)
    · rfl
  · refine (sx_aload_n dx_165_9 rfl).trans ?_
    refine (sx_iconst (v := 1) dx_165_10 rfl).trans ?_
    refine (sx_aload_n dx_165_11 rfl).trans ?_
    refine (sx_gfi dx_165_12 ow_165 fx_7_131 (by decide) oc_45).trans ?_
    refine (sx_v2i dx_165_15 ow_165 cx_7_144 oc_45 (Nat.le_of_ble_eq_true rfl)).trans ?_
    refine mj_bnd (fun q3 => ?_)
    exact sx_retg dx_165_18 rt_165
set_option maxRecDepth 10000 in
theorem b_X9_readsCondition_40 {sl d : Nat} {M : mj_M}   : mj_E sl (d + 1) 165 40 [.ref 45] [] M = (mj_C sl d 147 [.ref 45] M).bind (fun q1 => if q1.1 = 33 then ((mj_C sl d 147 [.ref 45] q1.2).bind (fun q2 => if q2.1 = 33 then ((mj_C sl d 153 [.ref 45, .int 10] q2.2).bind (fun q3 => if q3.1 = 0 then (some ((0 : Int32), q3.2)) else (mj_E sl (d + 1) 165 40 [.ref 45] [] q3.2))) else ((mj_C sl d 153 [.ref 45, .int 13] q2.2).bind (fun q4 => if q4.1 = 0 then (some ((0 : Int32), q4.2)) else (mj_E sl (d + 1) 165 40 [.ref 45] [] q4.2))))) else ((mj_C sl d 147 [.ref 45] q1.2).bind (fun q5 => if q5.1 = 40 then ((mj_C sl d 147 [.ref 45] q5.2).bind (fun q6 => if q6.1 = 33 then ((mj_C sl d 153 [.ref 45, .int 10] q6.2).bind (fun q7 => if q7.1 = 0 then (some ((0 : Int32), q7.2)) else (mj_E sl (d + 1) 165 40 [.ref 45] [] q7.2))) else ((mj_C sl d 153 [.ref 45, .int 13] q6.2).bind (fun q8 => if q8.1 = 0 then (some ((0 : Int32), q8.2)) else (mj_E sl (d + 1) 165 40 [.ref 45] [] q8.2))))) else ((mj_C sl d 164 [.ref 45] q5.2).bind (fun q9 => if q9.1 = 0 then (some ((0 : Int32), q9.2)) else (mj_E sl (d + 1) 165 92 [.ref 45] [] q9.2)))))) := by
  refine (sx_aload_n dx_165_40 rfl).trans ?_
  refine (sx_v0i dx_165_41 ow_165 cx_7_137 oc_45 (Nat.le_of_ble_eq_true rfl)).trans ?_
  refine mj_bnd (fun q1 => ?_)
  refine (sx_bipush (v := 33) dx_165_44 rfl).trans ?_
  refine (sx_icmp_eq (tgt := 58) dx_165_46 (by decide)).trans ?_
  refine mj_ite ?_ ?_
  · refine (sx_aload_n dx_165_58 rfl).trans ?_
    refine (sx_aload_n dx_165_59 rfl).trans ?_
    refine (sx_v0i dx_165_60 ow_165 cx_7_137 oc_45 (Nat.le_of_ble_eq_true rfl)).trans ?_
    refine mj_bnd (fun q2 => ?_)
    refine (sx_bipush (v := 33) dx_165_63 rfl).trans ?_
    refine (sx_icmp_ne (tgt := 73) dx_165_65 (by decide)).trans ?_
    refine mj_ite ?_ ?_
    · refine (sx_bipush (v := 10) dx_165_68 rfl).trans ?_
      refine (sx_goto (tgt := 75) dx_165_70 (by decide)).trans ?_
      refine (sx_v1i dx_165_75 ow_165 cx_7_171 oc_45 (Nat.le_of_ble_eq_true rfl)).trans ?_
      refine mj_bnd (fun q3 => ?_)
      refine (sx_if_ne (tgt := 40) dx_165_78 (by decide)).trans ?_
      refine mj_ite ?_ ?_
      · refine (sx_iconst (v := 0) dx_165_81 rfl).trans ?_
        exact sx_retz dx_165_82 rt_165 (by decide)
      · rfl
    · refine (sx_bipush (v := 13) dx_165_73 rfl).trans ?_
      refine (sx_v1i dx_165_75 ow_165 cx_7_171 oc_45 (Nat.le_of_ble_eq_true rfl)).trans ?_
      refine mj_bnd (fun q4 => ?_)
      refine (sx_if_ne (tgt := 40) dx_165_78 (by decide)).trans ?_
      refine mj_ite ?_ ?_
      · refine (sx_iconst (v := 0) dx_165_81 rfl).trans ?_
        exact sx_retz dx_165_82 rt_165 (by decide)
      · rfl
  · refine (sx_aload_n dx_165_49 rfl).trans ?_
    refine (sx_v0i dx_165_50 ow_165 cx_7_137 oc_45 (Nat.le_of_ble_eq_true rfl)).trans ?_
    refine mj_bnd (fun q5 => ?_)
    refine (sx_bipush (v := 40) dx_165_53 rfl).trans ?_
    refine (sx_icmp_ne (tgt := 83) dx_165_55 (by decide)).trans ?_
    refine mj_ite ?_ ?_
    · refine (sx_aload_n dx_165_58 rfl).trans ?_
      refine (sx_aload_n dx_165_59 rfl).trans ?_
      refine (sx_v0i dx_165_60 ow_165 cx_7_137 oc_45 (Nat.le_of_ble_eq_true rfl)).trans ?_
      refine mj_bnd (fun q6 => ?_)
      refine (sx_bipush (v := 33) dx_165_63 rfl).trans ?_
      refine (sx_icmp_ne (tgt := 73) dx_165_65 (by decide)).trans ?_
      refine mj_ite ?_ ?_
      · refine (sx_bipush (v := 10) dx_165_68 rfl).trans ?_
        refine (sx_goto (tgt := 75) dx_165_70 (by decide)).trans ?_
        refine (sx_v1i dx_165_75 ow_165 cx_7_171 oc_45 (Nat.le_of_ble_eq_true rfl)).trans ?_
        refine mj_bnd (fun q7 => ?_)
        refine (sx_if_ne (tgt := 40) dx_165_78 (by decide)).trans ?_
        refine mj_ite ?_ ?_
        · refine (sx_iconst (v := 0) dx_165_81 rfl).trans ?_
          exact sx_retz dx_165_82 rt_165 (by decide)
        · rfl
      · refine (sx_bipush (v := 13) dx_165_73 rfl).trans ?_
        refine (sx_v1i dx_165_75 ow_165 cx_7_171 oc_45 (Nat.le_of_ble_eq_true rfl)).trans ?_
        refine mj_bnd (fun q8 => ?_)
        refine (sx_if_ne (tgt := 40) dx_165_78 (by decide)).trans ?_
        refine mj_ite ?_ ?_
        · refine (sx_iconst (v := 0) dx_165_81 rfl).trans ?_
          exact sx_retz dx_165_82 rt_165 (by decide)
        · rfl
    · refine (sx_aload_n dx_165_83 rfl).trans ?_
      refine (sx_v0i dx_165_84 ow_165 cx_7_199 oc_45 (Nat.le_of_ble_eq_true rfl)).trans ?_
      refine mj_bnd (fun q9 => ?_)
      refine (sx_if_ne (tgt := 92) dx_165_87 (by decide)).trans ?_
      refine mj_ite ?_ ?_
      · refine (sx_iconst (v := 0) dx_165_90 rfl).trans ?_
        exact sx_retz dx_165_91 rt_165 (by decide)
      · rfl
set_option maxRecDepth 10000 in
theorem b_X9_readsCondition_92 {sl d : Nat} {M : mj_M}   : mj_E sl (d + 1) 165 92 [.ref 45] [] M = (mj_C sl d 147 [.ref 45] M).bind (fun q1 => if q1.1 = 41 then ((mj_C sl d 162 [.ref 45, .int 1] q1.2).bind (fun q2 => if (mj_st (mj_st (mj_st q2.2 45 12 ((q2.2 45 12) - 1)) 45 10 (((mj_st q2.2 45 12 ((q2.2 45 12) - 1)) 45 10) - 1)) 45 6 (((mj_st (mj_st q2.2 45 12 ((q2.2 45 12) - 1)) 45 10 (((mj_st q2.2 45 12 ((q2.2 45 12) - 1)) 45 10) - 1)) 45 6) + 1)) 45 12 = 0 then (some ((1 : Int32), mj_st (mj_st (mj_st q2.2 45 12 ((q2.2 45 12) - 1)) 45 10 (((mj_st q2.2 45 12 ((q2.2 45 12) - 1)) 45 10) - 1)) 45 6 (((mj_st (mj_st q2.2 45 12 ((q2.2 45 12) - 1)) 45 10 (((mj_st q2.2 45 12 ((q2.2 45 12) - 1)) 45 10) - 1)) 45 6) + 1))) else ((mj_C sl d 161 [.ref 45] (mj_st (mj_st (mj_st q2.2 45 12 ((q2.2 45 12) - 1)) 45 10 (((mj_st q2.2 45 12 ((q2.2 45 12) - 1)) 45 10) - 1)) 45 6 (((mj_st (mj_st q2.2 45 12 ((q2.2 45 12) - 1)) 45 10 (((mj_st q2.2 45 12 ((q2.2 45 12) - 1)) 45 10) - 1)) 45 6) + 1))).bind (fun q3 => mj_E sl (d + 1) 165 92 [.ref 45] [] q3.2)))) else ((mj_C sl d 147 [.ref 45] q1.2).bind (fun q4 => if q4.1 = 38 then (mj_E sl (d + 1) 165 180 [.ref 45] [] q4.2) else ((mj_C sl d 147 [.ref 45] q4.2).bind (fun q5 => if q5.1 = 124 then (mj_E sl (d + 1) 165 180 [.ref 45] [] q5.2) else ((mj_C sl d 149 [.ref 45, .int 1, .int (q5.2 45 6)] q5.2).bind (fun q6 => if q6.1 &&& 1 = q6.1 then some ((q6.1 : Int32), q6.2) else none))))))) := by
  refine (sx_aload_n dx_165_92 rfl).trans ?_
  refine (sx_v0i dx_165_93 ow_165 cx_7_137 oc_45 (Nat.le_of_ble_eq_true rfl)).trans ?_
  refine mj_bnd (fun q1 => ?_)
  refine (sx_bipush (v := 41) dx_165_96 rfl).trans ?_
  refine (sx_icmp_ne (tgt := 152) dx_165_98 (by decide)).trans ?_
  refine mj_ite ?_ ?_
  · refine (sx_aload_n dx_165_101 rfl).trans ?_
    refine (sx_iconst (v := 1) dx_165_102 rfl).trans ?_
    refine (sx_v1v dx_165_103 ow_165 cx_7_202 oc_45 (Nat.le_of_ble_eq_true rfl)).trans ?_
    refine mj_bnd (fun q2 => ?_)
    refine (sx_aload_n dx_165_106 rfl).trans ?_
    refine (sx_aload_n dx_165_107 rfl).trans ?_
    refine (sx_gfi dx_165_108 ow_165 fx_7_161 (by decide) oc_45).trans ?_
    refine (sx_iconst (v := 1) dx_165_111 rfl).trans ?_
    refine (sx_isub dx_165_112).trans ?_
    refine (sx_pfi dx_165_113 ow_165 fx_7_161 oc_45).trans ?_
    refine (sx_aload_n dx_165_116 rfl).trans ?_
    refine (sx_aload_n dx_165_117 rfl).trans ?_
    refine (sx_gfi dx_165_118 ow_165 fx_7_158 (by decide) oc_45).trans ?_
    refine (sx_iconst (v := 1) dx_165_121 rfl).trans ?_
    refine (sx_isub dx_165_122).trans ?_
    refine (sx_pfi dx_165_123 ow_165 fx_7_158 oc_45).trans ?_
    refine (sx_aload_n dx_165_126 rfl).trans ?_
    refine (sx_aload_n dx_165_127 rfl).trans ?_
    refine (sx_gfi dx_165_128 ow_165 fx_7_131 (by decide) oc_45).trans ?_
    refine (sx_iconst (v := 1) dx_165_131 rfl).trans ?_
    refine (sx_iadd dx_165_132).trans ?_
    refine (sx_pfi dx_165_133 ow_165 fx_7_131 oc_45).trans ?_
    refine (sx_aload_n dx_165_136 rfl).trans ?_
    refine (sx_gfi dx_165_137 ow_165 fx_7_161 (by decide) oc_45).trans ?_
    refine (sx_if_ne (tgt := 145) dx_165_140 (by decide)).trans ?_
    refine mj_ite ?_ ?_
    · refine (sx_iconst (v := 1) dx_165_143 rfl).trans ?_
      exact sx_retz dx_165_144 rt_165 (by decide)
    · refine (sx_aload_n dx_165_145 rfl).trans ?_
      refine (sx_v0v dx_165_146 ow_165 cx_7_196 oc_45 (Nat.le_of_ble_eq_true rfl)).trans ?_
      refine mj_bnd (fun q3 => ?_)
      refine (sx_goto (tgt := 92) dx_165_149 (by decide)).trans ?_
      rfl
  · refine (sx_aload_n dx_165_152 rfl).trans ?_
    refine (sx_v0i dx_165_153 ow_165 cx_7_137 oc_45 (Nat.le_of_ble_eq_true rfl)).trans ?_
    refine mj_bnd (fun q4 => ?_)
    refine (sx_bipush (v := 38) dx_165_156 rfl).trans ?_
    refine (sx_icmp_eq (tgt := 180) dx_165_158 (by decide)).trans ?_
    refine mj_ite ?_ ?_
    · rfl
    · refine (sx_aload_n dx_165_161 rfl).trans ?_
      refine (sx_v0i dx_165_162 ow_165 cx_7_137 oc_45 (Nat.le_of_ble_eq_true rfl)).trans ?_
      refine mj_bnd (fun q5 => ?_)
      refine (sx_bipush (v := 124) dx_165_165 rfl).trans ?_
      refine (sx_icmp_eq (tgt := 180) dx_165_167 (by decide)).trans ?_
      refine mj_ite ?_ ?_
      · rfl
      · refine (sx_aload_n dx_165_170 rfl).trans ?_
        refine (sx_iconst (v := 1) dx_165_171 rfl).trans ?_
        refine (sx_aload_n dx_165_172 rfl).trans ?_
        refine (sx_gfi dx_165_173 ow_165 fx_7_131 (by decide) oc_45).trans ?_
        refine (sx_v2i dx_165_176 ow_165 cx_7_144 oc_45 (Nat.le_of_ble_eq_true rfl)).trans ?_
        refine mj_bnd (fun q6 => ?_)
        exact sx_retg dx_165_179 rt_165
set_option maxRecDepth 10000 in
theorem b_X9_readsCondition_180 {sl d : Nat} {M : mj_M}   : mj_E sl (d + 1) 165 180 [.ref 45] [] M = (mj_C sl d 147 [.ref 45] M).bind (fun q1 => if q1.1 = 124 then ((mj_C sl d 162 [.ref 45, .int 1] q1.2).bind (fun q2 => (mj_C sl d 147 [.ref 45] q2.2).bind (fun q3 => if q3.1 = 38 then ((mj_C sl d 163 [.ref 45, .int 11] q3.2).bind (fun q4 => mj_E sl (d + 1) 165 40 [.ref 45] [] q4.2)) else ((mj_C sl d 163 [.ref 45, .int 12] q3.2).bind (fun q5 => mj_E sl (d + 1) 165 40 [.ref 45] [] q5.2))))) else ((mj_C sl d 162 [.ref 45, .int 0] q1.2).bind (fun q6 => (mj_C sl d 147 [.ref 45] q6.2).bind (fun q7 => if q7.1 = 38 then ((mj_C sl d 163 [.ref 45, .int 11] q7.2).bind (fun q8 => mj_E sl (d + 1) 165 40 [.ref 45] [] q8.2)) else ((mj_C sl d 163 [.ref 45, .int 12] q7.2).bind (fun q9 => mj_E sl (d + 1) 165 40 [.ref 45] [] q9.2)))))) := by
  refine (sx_aload_n dx_165_180 rfl).trans ?_
  refine (sx_aload_n dx_165_181 rfl).trans ?_
  refine (sx_v0i dx_165_182 ow_165 cx_7_137 oc_45 (Nat.le_of_ble_eq_true rfl)).trans ?_
  refine mj_bnd (fun q1 => ?_)
  refine (sx_bipush (v := 124) dx_165_185 rfl).trans ?_
  refine (sx_icmp_ne (tgt := 194) dx_165_187 (by decide)).trans ?_
  refine mj_ite ?_ ?_
  · refine (sx_iconst (v := 1) dx_165_190 rfl).trans ?_
    refine (sx_goto (tgt := 195) dx_165_191 (by decide)).trans ?_
    refine (sx_v1v dx_165_195 ow_165 cx_7_202 oc_45 (Nat.le_of_ble_eq_true rfl)).trans ?_
    refine mj_bnd (fun q2 => ?_)
    refine (sx_aload_n dx_165_198 rfl).trans ?_
    refine (sx_aload_n dx_165_199 rfl).trans ?_
    refine (sx_v0i dx_165_200 ow_165 cx_7_137 oc_45 (Nat.le_of_ble_eq_true rfl)).trans ?_
    refine mj_bnd (fun q3 => ?_)
    refine (sx_bipush (v := 38) dx_165_203 rfl).trans ?_
    refine (sx_icmp_ne (tgt := 213) dx_165_205 (by decide)).trans ?_
    refine mj_ite ?_ ?_
    · refine (sx_bipush (v := 11) dx_165_208 rfl).trans ?_
      refine (sx_goto (tgt := 215) dx_165_210 (by decide)).trans ?_
      refine (sx_v1v dx_165_215 ow_165 cx_7_205 oc_45 (Nat.le_of_ble_eq_true rfl)).trans ?_
      refine mj_bnd (fun q4 => ?_)
      refine (sx_goto (tgt := 40) dx_165_218 (by decide)).trans ?_
      rfl
    · refine (sx_bipush (v := 12) dx_165_213 rfl).trans ?_
      refine (sx_v1v dx_165_215 ow_165 cx_7_205 oc_45 (Nat.le_of_ble_eq_true rfl)).trans ?_
      refine mj_bnd (fun q5 => ?_)
      refine (sx_goto (tgt := 40) dx_165_218 (by decide)).trans ?_
      rfl
  · refine (sx_iconst (v := 0) dx_165_194 rfl).trans ?_
    refine (sx_v1v dx_165_195 ow_165 cx_7_202 oc_45 (Nat.le_of_ble_eq_true rfl)).trans ?_
    refine mj_bnd (fun q6 => ?_)
    refine (sx_aload_n dx_165_198 rfl).trans ?_
    refine (sx_aload_n dx_165_199 rfl).trans ?_
    refine (sx_v0i dx_165_200 ow_165 cx_7_137 oc_45 (Nat.le_of_ble_eq_true rfl)).trans ?_
    refine mj_bnd (fun q7 => ?_)
    refine (sx_bipush (v := 38) dx_165_203 rfl).trans ?_
    refine (sx_icmp_ne (tgt := 213) dx_165_205 (by decide)).trans ?_
    refine mj_ite ?_ ?_
    · refine (sx_bipush (v := 11) dx_165_208 rfl).trans ?_
      refine (sx_goto (tgt := 215) dx_165_210 (by decide)).trans ?_
      refine (sx_v1v dx_165_215 ow_165 cx_7_205 oc_45 (Nat.le_of_ble_eq_true rfl)).trans ?_
      refine mj_bnd (fun q8 => ?_)
      refine (sx_goto (tgt := 40) dx_165_218 (by decide)).trans ?_
      rfl
    · refine (sx_bipush (v := 12) dx_165_213 rfl).trans ?_
      refine (sx_v1v dx_165_215 ow_165 cx_7_205 oc_45 (Nat.le_of_ble_eq_true rfl)).trans ?_
      refine mj_bnd (fun q9 => ?_)
      refine (sx_goto (tgt := 40) dx_165_218 (by decide)).trans ?_
      rfl
theorem dx_166_0 : mj_at 166 0 = some (.aload_n 0) := by decide +kernel
theorem dx_166_1 : mj_at 166 1 = some (.invokevirtual 137) := by decide +kernel
theorem dx_166_4 : mj_at 166 4 = some (.istore_n 1) := by decide +kernel
theorem dx_166_5 : mj_at 166 5 = some (.iload_n 1) := by decide +kernel
theorem dx_166_6 : mj_at 166 6 = some (.bipush 112) := by decide +kernel
theorem dx_166_8 : mj_at 166 8 = some (.if_icmp .eq 31) := by decide +kernel
theorem dx_166_11 : mj_at 166 11 = some (.iload_n 1) := by decide +kernel
theorem dx_166_12 : mj_at 166 12 = some (.bipush 119) := by decide +kernel
theorem dx_166_14 : mj_at 166 14 = some (.if_icmp .eq 25) := by decide +kernel
theorem dx_166_17 : mj_at 166 17 = some (.iload_n 1) := by decide +kernel
theorem dx_166_18 : mj_at 166 18 = some (.bipush 105) := by decide +kernel
theorem dx_166_20 : mj_at 166 20 = some (.if_icmp .eq 19) := by decide +kernel
theorem dx_166_23 : mj_at 166 23 = some (.iload_n 1) := by decide +kernel
theorem dx_166_24 : mj_at 166 24 = some (.bipush 120) := by decide +kernel
theorem dx_166_26 : mj_at 166 26 = some (.if_icmp .eq 13) := by decide +kernel
theorem dx_166_29 : mj_at 166 29 = some (.aload_n 0) := by decide +kernel
theorem dx_166_30 : mj_at 166 30 = some (.iconst 1) := by decide +kernel
theorem dx_166_31 : mj_at 166 31 = some (.aload_n 0) := by decide +kernel
theorem dx_166_32 : mj_at 166 32 = some (.getfield 131) := by decide +kernel
theorem dx_166_35 : mj_at 166 35 = some (.invokevirtual 144) := by decide +kernel
theorem dx_166_38 : mj_at 166 38 = some (.ireturn) := by decide +kernel
theorem dx_166_39 : mj_at 166 39 = some (.aload_n 0) := by decide +kernel
theorem dx_166_40 : mj_at 166 40 = some (.getfield 208) := by decide +kernel
theorem dx_166_43 : mj_at 166 43 = some (.bipush 16) := by decide +kernel
theorem dx_166_45 : mj_at 166 45 = some (.if_icmp .ne 13) := by decide +kernel
theorem dx_166_48 : mj_at 166 48 = some (.aload_n 0) := by decide +kernel
theorem dx_166_49 : mj_at 166 49 = some (.iconst 4) := by decide +kernel
theorem dx_166_50 : mj_at 166 50 = some (.aload_n 0) := by decide +kernel
theorem dx_166_51 : mj_at 166 51 = some (.getfield 131) := by decide +kernel
theorem dx_166_54 : mj_at 166 54 = some (.invokevirtual 144) := by decide +kernel
theorem dx_166_57 : mj_at 166 57 = some (.ireturn) := by decide +kernel
theorem dx_166_58 : mj_at 166 58 = some (.aload_n 0) := by decide +kernel
theorem dx_166_59 : mj_at 166 59 = some (.getfield 32) := by decide +kernel
theorem dx_166_62 : mj_at 166 62 = some (.aload_n 0) := by decide +kernel
theorem dx_166_63 : mj_at 166 63 = some (.getfield 208) := by decide +kernel
theorem dx_166_66 : mj_at 166 66 = some (.iload_n 1) := by decide +kernel
theorem dx_166_67 : mj_at 166 67 = some (.iastore) := by decide +kernel
theorem dx_166_68 : mj_at 166 68 = some (.aload_n 0) := by decide +kernel
theorem dx_166_69 : mj_at 166 69 = some (.aload_n 0) := by decide +kernel
theorem dx_166_70 : mj_at 166 70 = some (.getfield 131) := by decide +kernel
theorem dx_166_73 : mj_at 166 73 = some (.iconst 1) := by decide +kernel
theorem dx_166_74 : mj_at 166 74 = some (.iadd) := by decide +kernel
theorem dx_166_75 : mj_at 166 75 = some (.putfield 131) := by decide +kernel
theorem dx_166_78 : mj_at 166 78 = some (.aload_n 0) := by decide +kernel
theorem dx_166_79 : mj_at 166 79 = some (.getfield 35) := by decide +kernel
theorem dx_166_82 : mj_at 166 82 = some (.aload_n 0) := by decide +kernel
theorem dx_166_83 : mj_at 166 83 = some (.getfield 208) := by decide +kernel
theorem dx_166_86 : mj_at 166 86 = some (.aload_n 0) := by decide +kernel
theorem dx_166_87 : mj_at 166 87 = some (.getfield 154) := by decide +kernel
theorem dx_166_90 : mj_at 166 90 = some (.iastore) := by decide +kernel
theorem dx_166_91 : mj_at 166 91 = some (.aload_n 0) := by decide +kernel
theorem dx_166_92 : mj_at 166 92 = some (.iconst 0) := by decide +kernel
theorem dx_166_93 : mj_at 166 93 = some (.putfield 158) := by decide +kernel
theorem dx_166_96 : mj_at 166 96 = some (.aload_n 0) := by decide +kernel
theorem dx_166_97 : mj_at 166 97 = some (.iconst 0) := by decide +kernel
theorem dx_166_98 : mj_at 166 98 = some (.putfield 161) := by decide +kernel
theorem dx_166_101 : mj_at 166 101 = some (.iload_n 1) := by decide +kernel
theorem dx_166_102 : mj_at 166 102 = some (.bipush 120) := by decide +kernel
theorem dx_166_104 : mj_at 166 104 = some (.if_icmp .eq 12) := by decide +kernel
theorem dx_166_107 : mj_at 166 107 = some (.aload_n 0) := by decide +kernel
theorem dx_166_108 : mj_at 166 108 = some (.invokevirtual 193) := by decide +kernel
theorem dx_166_111 : mj_at 166 111 = some (.ifCond .ne 5) := by decide +kernel
theorem dx_166_114 : mj_at 166 114 = some (.iconst 0) := by decide +kernel
theorem dx_166_115 : mj_at 166 115 = some (.ireturn) := by decide +kernel
theorem dx_166_116 : mj_at 166 116 = some (.aload_n 0) := by decide +kernel
theorem dx_166_117 : mj_at 166 117 = some (.getfield 38) := by decide +kernel
theorem dx_166_120 : mj_at 166 120 = some (.aload_n 0) := by decide +kernel
theorem dx_166_121 : mj_at 166 121 = some (.getfield 208) := by decide +kernel
theorem dx_166_124 : mj_at 166 124 = some (.aload_n 0) := by decide +kernel
theorem dx_166_125 : mj_at 166 125 = some (.getfield 154) := by decide +kernel
theorem dx_166_128 : mj_at 166 128 = some (.iastore) := by decide +kernel
theorem dx_166_129 : mj_at 166 129 = some (.aload_n 0) := by decide +kernel
theorem dx_166_130 : mj_at 166 130 = some (.invokevirtual 211) := by decide +kernel
theorem dx_166_133 : mj_at 166 133 = some (.ifCond .ne 5) := by decide +kernel
theorem dx_166_136 : mj_at 166 136 = some (.iconst 0) := by decide +kernel
theorem dx_166_137 : mj_at 166 137 = some (.ireturn) := by decide +kernel
theorem dx_166_138 : mj_at 166 138 = some (.aload_n 0) := by decide +kernel
theorem dx_166_139 : mj_at 166 139 = some (.getfield 41) := by decide +kernel
theorem dx_166_142 : mj_at 166 142 = some (.aload_n 0) := by decide +kernel
theorem dx_166_143 : mj_at 166 143 = some (.getfield 208) := by decide +kernel
theorem dx_166_146 : mj_at 166 146 = some (.aload_n 0) := by decide +kernel
theorem dx_166_147 : mj_at 166 147 = some (.getfield 154) := by decide +kernel
theorem dx_166_150 : mj_at 166 150 = some (.iastore) := by decide +kernel
theorem dx_166_151 : mj_at 166 151 = some (.aload_n 0) := by decide +kernel
theorem dx_166_152 : mj_at 166 152 = some (.aload_n 0) := by decide +kernel
theorem dx_166_153 : mj_at 166 153 = some (.getfield 208) := by decide +kernel
theorem dx_166_156 : mj_at 166 156 = some (.iconst 1) := by decide +kernel
theorem dx_166_157 : mj_at 166 157 = some (.iadd) := by decide +kernel
theorem dx_166_158 : mj_at 166 158 = some (.putfield 208) := by decide +kernel
theorem dx_166_161 : mj_at 166 161 = some (.iconst 1) := by decide +kernel
theorem dx_166_162 : mj_at 166 162 = some (.ireturn) := by decide +kernel
set_option maxRecDepth 10000 in
theorem b_X9_readsRule {sl d : Nat} {M : mj_M}   : mj_C sl (d + 1) 166 [.ref 45] M = (mj_C sl d 147 [.ref 45] M).bind (fun q1 => if q1.1 = 112 then (mj_E sl (d + 1) 166 39 [.ref 45, .int q1.1] [] q1.2) else (if q1.1 = 119 then (mj_E sl (d + 1) 166 39 [.ref 45, .int q1.1] [] q1.2) else (if q1.1 = 105 then (mj_E sl (d + 1) 166 39 [.ref 45, .int q1.1] [] q1.2) else (if q1.1 = 120 then (mj_E sl (d + 1) 166 39 [.ref 45, .int q1.1] [] q1.2) else ((mj_C sl d 149 [.ref 45, .int 1, .int (q1.2 45 6)] q1.2).bind (fun q2 => if q2.1 &&& 1 = q2.1 then some ((q2.1 : Int32), q2.2) else none)))))) := by
  show mj_E sl (d + 1) 166 0 [.ref 45, .null] [] M = _
  refine (sx_aload_n dx_166_0 rfl).trans ?_
  refine (sx_v0i dx_166_1 ow_166 cx_7_137 oc_45 (Nat.le_of_ble_eq_true rfl)).trans ?_
  refine mj_bnd (fun q1 => ?_)
  refine (sx_istore_n dx_166_4 (Nat.le_of_ble_eq_true rfl) rfl).trans ?_
  refine (sx_iload_n dx_166_5 rfl).trans ?_
  refine (sx_bipush (v := 112) dx_166_6 rfl).trans ?_
  refine (sx_icmp_eq (tgt := 39) dx_166_8 (by decide)).trans ?_
  refine mj_ite ?_ ?_
  · rfl
  · refine (sx_iload_n dx_166_11 rfl).trans ?_
    refine (sx_bipush (v := 119) dx_166_12 rfl).trans ?_
    refine (sx_icmp_eq (tgt := 39) dx_166_14 (by decide)).trans ?_
    refine mj_ite ?_ ?_
    · rfl
    · refine (sx_iload_n dx_166_17 rfl).trans ?_
      refine (sx_bipush (v := 105) dx_166_18 rfl).trans ?_
      refine (sx_icmp_eq (tgt := 39) dx_166_20 (by decide)).trans ?_
      refine mj_ite ?_ ?_
      · rfl
      · refine (sx_iload_n dx_166_23 rfl).trans ?_
        refine (sx_bipush (v := 120) dx_166_24 rfl).trans ?_
        refine (sx_icmp_eq (tgt := 39) dx_166_26 (by decide)).trans ?_
        refine mj_ite ?_ ?_
        · rfl
        · refine (sx_aload_n dx_166_29 rfl).trans ?_
          refine (sx_iconst (v := 1) dx_166_30 rfl).trans ?_
          refine (sx_aload_n dx_166_31 rfl).trans ?_
          refine (sx_gfi dx_166_32 ow_166 fx_7_131 (by decide) oc_45).trans ?_
          refine (sx_v2i dx_166_35 ow_166 cx_7_144 oc_45 (Nat.le_of_ble_eq_true rfl)).trans ?_
          refine mj_bnd (fun q2 => ?_)
          exact sx_retg dx_166_38 rt_166
set_option maxRecDepth 10000 in
theorem b_X9_readsRule_39 {sl d : Nat} {M : mj_M} {y1 : Int32}  : mj_E sl (d + 1) 166 39 [.ref 45, .int y1] [] M = if M 45 13 = 16 then ((mj_C sl d 149 [.ref 45, .int 4, .int (M 45 6)] M).bind (fun q1 => if q1.1 &&& 1 = q1.1 then some ((q1.1 : Int32), q1.2) else none)) else (if mj_inB (M 45 13) 16 = true then (if mj_inB ((mj_st (mj_st M 53 (M 45 13 : Int32).toNatClampNeg y1) 45 6 (((mj_st M 53 (M 45 13 : Int32).toNatClampNeg y1) 45 6) + 1)) 45 13) 16 = true then (if y1 = 120 then (mj_E sl (d + 1) 166 116 [.ref 45, .int y1] [] (mj_st (mj_st (mj_st (mj_st (mj_st M 53 (M 45 13 : Int32).toNatClampNeg y1) 45 6 (((mj_st M 53 (M 45 13 : Int32).toNatClampNeg y1) 45 6) + 1)) 54 ((mj_st (mj_st M 53 (M 45 13 : Int32).toNatClampNeg y1) 45 6 (((mj_st M 53 (M 45 13 : Int32).toNatClampNeg y1) 45 6) + 1)) 45 13 : Int32).toNatClampNeg ((mj_st (mj_st M 53 (M 45 13 : Int32).toNatClampNeg y1) 45 6 (((mj_st M 53 (M 45 13 : Int32).toNatClampNeg y1) 45 6) + 1)) 45 11)) 45 10 0) 45 12 0)) else ((mj_C sl d 160 [.ref 45] (mj_st (mj_st (mj_st (mj_st (mj_st M 53 (M 45 13 : Int32).toNatClampNeg y1) 45 6 (((mj_st M 53 (M 45 13 : Int32).toNatClampNeg y1) 45 6) + 1)) 54 ((mj_st (mj_st M 53 (M 45 13 : Int32).toNatClampNeg y1) 45 6 (((mj_st M 53 (M 45 13 : Int32).toNatClampNeg y1) 45 6) + 1)) 45 13 : Int32).toNatClampNeg ((mj_st (mj_st M 53 (M 45 13 : Int32).toNatClampNeg y1) 45 6 (((mj_st M 53 (M 45 13 : Int32).toNatClampNeg y1) 45 6) + 1)) 45 11)) 45 10 0) 45 12 0)).bind (fun q2 => if q2.1 = 0 then (some ((0 : Int32), q2.2)) else (mj_E sl (d + 1) 166 116 [.ref 45, .int y1] [] q2.2)))) else none) else none) := by
  refine (sx_aload_n dx_166_39 rfl).trans ?_
  refine (sx_gfi dx_166_40 ow_166 fx_7_208 (by decide) oc_45).trans ?_
  refine (sx_bipush (v := 16) dx_166_43 rfl).trans ?_
  refine (sx_icmp_ne (tgt := 58) dx_166_45 (by decide)).trans ?_
  refine mj_ite ?_ ?_
  · refine (sx_aload_n dx_166_48 rfl).trans ?_
    refine (sx_iconst (v := 4) dx_166_49 rfl).trans ?_
    refine (sx_aload_n dx_166_50 rfl).trans ?_
    refine (sx_gfi dx_166_51 ow_166 fx_7_131 (by decide) oc_45).trans ?_
    refine (sx_v2i dx_166_54 ow_166 cx_7_144 oc_45 (Nat.le_of_ble_eq_true rfl)).trans ?_
    refine mj_bnd (fun q1 => ?_)
    exact sx_retg dx_166_57 rt_166
  · refine (sx_aload_n dx_166_58 rfl).trans ?_
    refine (sx_gfr dx_166_59 ow_166 fx_7_32 oc_45 rb_45_17).trans ?_
    refine (sx_aload_n dx_166_62 rfl).trans ?_
    refine (sx_gfi dx_166_63 ow_166 fx_7_208 (by decide) oc_45).trans ?_
    refine (sx_iload_n dx_166_66 rfl).trans ?_
    refine (sx_ist dx_166_67 ia_53).trans ?_
    refine mj_ite ?_ rfl
    refine (sx_aload_n dx_166_68 rfl).trans ?_
    refine (sx_aload_n dx_166_69 rfl).trans ?_
    refine (sx_gfi dx_166_70 ow_166 fx_7_131 (by decide) oc_45).trans ?_
    refine (sx_iconst (v := 1) dx_166_73 rfl).trans ?_
    refine (sx_iadd dx_166_74).trans ?_
    refine (sx_pfi dx_166_75 ow_166 fx_7_131 oc_45).trans ?_
    refine (sx_aload_n dx_166_78 rfl).trans ?_
    refine (sx_gfr dx_166_79 ow_166 fx_7_35 oc_45 rb_45_18).trans ?_
    refine (sx_aload_n dx_166_82 rfl).trans ?_
    refine (sx_gfi dx_166_83 ow_166 fx_7_208 (by decide) oc_45).trans ?_
    refine (sx_aload_n dx_166_86 rfl).trans ?_
    refine (sx_gfi dx_166_87 ow_166 fx_7_154 (by decide) oc_45).trans ?_
    refine (sx_ist dx_166_90 ia_54).trans ?_
    refine mj_ite ?_ rfl
    refine (sx_aload_n dx_166_91 rfl).trans ?_
    refine (sx_iconst (v := 0) dx_166_92 rfl).trans ?_
    refine (sx_pfi dx_166_93 ow_166 fx_7_158 oc_45).trans ?_
    refine (sx_aload_n dx_166_96 rfl).trans ?_
    refine (sx_iconst (v := 0) dx_166_97 rfl).trans ?_
    refine (sx_pfi dx_166_98 ow_166 fx_7_161 oc_45).trans ?_
    refine (sx_iload_n dx_166_101 rfl).trans ?_
    refine (sx_bipush (v := 120) dx_166_102 rfl).trans ?_
    refine (sx_icmp_eq (tgt := 116) dx_166_104 (by decide)).trans ?_
    refine mj_ite ?_ ?_
    · rfl
    · refine (sx_aload_n dx_166_107 rfl).trans ?_
      refine (sx_v0i dx_166_108 ow_166 cx_7_193 oc_45 (Nat.le_of_ble_eq_true rfl)).trans ?_
      refine mj_bnd (fun q2 => ?_)
      refine (sx_if_ne (tgt := 116) dx_166_111 (by decide)).trans ?_
      refine mj_ite ?_ ?_
      · refine (sx_iconst (v := 0) dx_166_114 rfl).trans ?_
        exact sx_retz dx_166_115 rt_166 (by decide)
      · rfl
set_option maxRecDepth 10000 in
theorem b_X9_readsRule_116 {sl d : Nat} {M : mj_M} {w1 : Value}  : mj_E sl (d + 1) 166 116 [.ref 45, w1] [] M = if mj_inB (M 45 13) 16 = true then ((mj_C sl d 165 [.ref 45] (mj_st M 55 (M 45 13 : Int32).toNatClampNeg (M 45 11))).bind (fun q1 => if q1.1 = 0 then (some ((0 : Int32), q1.2)) else (if mj_inB (q1.2 45 13) 16 = true then (some ((1 : Int32), mj_st (mj_st q1.2 56 (q1.2 45 13 : Int32).toNatClampNeg (q1.2 45 11)) 45 13 (((mj_st q1.2 56 (q1.2 45 13 : Int32).toNatClampNeg (q1.2 45 11)) 45 13) + 1))) else none))) else none := by
  refine (sx_aload_n dx_166_116 rfl).trans ?_
  refine (sx_gfr dx_166_117 ow_166 fx_7_38 oc_45 rb_45_19).trans ?_
  refine (sx_aload_n dx_166_120 rfl).trans ?_
  refine (sx_gfi dx_166_121 ow_166 fx_7_208 (by decide) oc_45).trans ?_
  refine (sx_aload_n dx_166_124 rfl).trans ?_
  refine (sx_gfi dx_166_125 ow_166 fx_7_154 (by decide) oc_45).trans ?_
  refine (sx_ist dx_166_128 ia_55).trans ?_
  refine mj_ite ?_ rfl
  refine (sx_aload_n dx_166_129 rfl).trans ?_
  refine (sx_v0i dx_166_130 ow_166 cx_7_211 oc_45 (Nat.le_of_ble_eq_true rfl)).trans ?_
  refine mj_bnd (fun q1 => ?_)
  refine (sx_if_ne (tgt := 138) dx_166_133 (by decide)).trans ?_
  refine mj_ite ?_ ?_
  · refine (sx_iconst (v := 0) dx_166_136 rfl).trans ?_
    exact sx_retz dx_166_137 rt_166 (by decide)
  · refine (sx_aload_n dx_166_138 rfl).trans ?_
    refine (sx_gfr dx_166_139 ow_166 fx_7_41 oc_45 rb_45_20).trans ?_
    refine (sx_aload_n dx_166_142 rfl).trans ?_
    refine (sx_gfi dx_166_143 ow_166 fx_7_208 (by decide) oc_45).trans ?_
    refine (sx_aload_n dx_166_146 rfl).trans ?_
    refine (sx_gfi dx_166_147 ow_166 fx_7_154 (by decide) oc_45).trans ?_
    refine (sx_ist dx_166_150 ia_56).trans ?_
    refine mj_ite ?_ rfl
    refine (sx_aload_n dx_166_151 rfl).trans ?_
    refine (sx_aload_n dx_166_152 rfl).trans ?_
    refine (sx_gfi dx_166_153 ow_166 fx_7_208 (by decide) oc_45).trans ?_
    refine (sx_iconst (v := 1) dx_166_156 rfl).trans ?_
    refine (sx_iadd dx_166_157).trans ?_
    refine (sx_pfi dx_166_158 ow_166 fx_7_208 oc_45).trans ?_
    refine (sx_iconst (v := 1) dx_166_161 rfl).trans ?_
    exact sx_retz dx_166_162 rt_166 (by decide)
theorem dx_167_0 : mj_at 167 0 = some (.aload_n 0) := by decide +kernel
theorem dx_167_1 : mj_at 167 1 = some (.iconst 0) := by decide +kernel
theorem dx_167_2 : mj_at 167 2 = some (.putfield 131) := by decide +kernel
theorem dx_167_5 : mj_at 167 5 = some (.aload_n 0) := by decide +kernel
theorem dx_167_6 : mj_at 167 6 = some (.iload_n 1) := by decide +kernel
theorem dx_167_7 : mj_at 167 7 = some (.putfield 134) := by decide +kernel
theorem dx_167_10 : mj_at 167 10 = some (.aload_n 0) := by decide +kernel
theorem dx_167_11 : mj_at 167 11 = some (.iconst 0) := by decide +kernel
theorem dx_167_12 : mj_at 167 12 = some (.putfield 154) := by decide +kernel
theorem dx_167_15 : mj_at 167 15 = some (.aload_n 0) := by decide +kernel
theorem dx_167_16 : mj_at 167 16 = some (.iconst 0) := by decide +kernel
theorem dx_167_17 : mj_at 167 17 = some (.putfield 208) := by decide +kernel
theorem dx_167_20 : mj_at 167 20 = some (.return_) := by decide +kernel
set_option maxRecDepth 10000 in
theorem b_X9_beginsText {sl d : Nat} {M : mj_M} {x1 : Int32}  : mj_C sl d 167 [.ref 45, .int x1] M = some ((0 : Int32), mj_st (mj_st (mj_st (mj_st M 45 6 0) 45 7 x1) 45 11 0) 45 13 0) := by
  show mj_E sl d 167 0 [.ref 45, .int x1] [] M = _
  refine (sx_aload_n dx_167_0 rfl).trans ?_
  refine (sx_iconst (v := 0) dx_167_1 rfl).trans ?_
  refine (sx_pfi dx_167_2 ow_167 fx_7_131 oc_45).trans ?_
  refine (sx_aload_n dx_167_5 rfl).trans ?_
  refine (sx_iload_n dx_167_6 rfl).trans ?_
  refine (sx_pfi dx_167_7 ow_167 fx_7_134 oc_45).trans ?_
  refine (sx_aload_n dx_167_10 rfl).trans ?_
  refine (sx_iconst (v := 0) dx_167_11 rfl).trans ?_
  refine (sx_pfi dx_167_12 ow_167 fx_7_154 oc_45).trans ?_
  refine (sx_aload_n dx_167_15 rfl).trans ?_
  refine (sx_iconst (v := 0) dx_167_16 rfl).trans ?_
  refine (sx_pfi dx_167_17 ow_167 fx_7_208 oc_45).trans ?_
  exact sx_retv dx_167_20 rt_167
theorem dx_168_0 : mj_at 168 0 = some (.iload_n 1) := by decide +kernel
theorem dx_168_1 : mj_at 168 1 = some (.iconst 1) := by decide +kernel
theorem dx_168_2 : mj_at 168 2 = some (.sipush 240) := by decide +kernel
theorem dx_168_5 : mj_at 168 5 = some (.invokestatic 90) := by decide +kernel
theorem dx_168_8 : mj_at 168 8 = some (.ifCond .eq 11) := by decide +kernel
theorem dx_168_11 : mj_at 168 11 = some (.iload_n 1) := by decide +kernel
theorem dx_168_12 : mj_at 168 12 = some (.aload_n 0) := by decide +kernel
theorem dx_168_13 : mj_at 168 13 = some (.getfield 123) := by decide +kernel
theorem dx_168_16 : mj_at 168 16 = some (.if_icmp .le 5) := by decide +kernel
theorem dx_168_19 : mj_at 168 19 = some (.iconst (-1)) := by decide +kernel
theorem dx_168_20 : mj_at 168 20 = some (.ireturn) := by decide +kernel
theorem dx_168_21 : mj_at 168 21 = some (.aload_n 0) := by decide +kernel
theorem dx_168_22 : mj_at 168 22 = some (.iload_n 1) := by decide +kernel
theorem dx_168_23 : mj_at 168 23 = some (.invokevirtual 214) := by decide +kernel
theorem dx_168_26 : mj_at 168 26 = some (.aload_n 0) := by decide +kernel
theorem dx_168_27 : mj_at 168 27 = some (.invokevirtual 217) := by decide +kernel
theorem dx_168_30 : mj_at 168 30 = some (.istore_n 2) := by decide +kernel
theorem dx_168_31 : mj_at 168 31 = some (.iload_n 2) := by decide +kernel
theorem dx_168_32 : mj_at 168 32 = some (.ifCond .eq 39) := by decide +kernel
theorem dx_168_35 : mj_at 168 35 = some (.aload_n 0) := by decide +kernel
theorem dx_168_36 : mj_at 168 36 = some (.getfield 131) := by decide +kernel
theorem dx_168_39 : mj_at 168 39 = some (.aload_n 0) := by decide +kernel
theorem dx_168_40 : mj_at 168 40 = some (.getfield 134) := by decide +kernel
theorem dx_168_43 : mj_at 168 43 = some (.if_icmp .ge 28) := by decide +kernel
theorem dx_168_46 : mj_at 168 46 = some (.aload_n 0) := by decide +kernel
theorem dx_168_47 : mj_at 168 47 = some (.bipush 59) := by decide +kernel
theorem dx_168_49 : mj_at 168 49 = some (.invokevirtual 220) := by decide +kernel
theorem dx_168_52 : mj_at 168 52 = some (.ifCond .eq 14) := by decide +kernel
theorem dx_168_55 : mj_at 168 55 = some (.aload_n 0) := by decide +kernel
theorem dx_168_56 : mj_at 168 56 = some (.invokevirtual 217) := by decide +kernel
theorem dx_168_59 : mj_at 168 59 = some (.ifCond .eq 7) := by decide +kernel
theorem dx_168_62 : mj_at 168 62 = some (.iconst 1) := by decide +kernel
theorem dx_168_63 : mj_at 168 63 = some (.goto 4) := by decide +kernel
theorem dx_168_66 : mj_at 168 66 = some (.iconst 0) := by decide +kernel
theorem dx_168_67 : mj_at 168 67 = some (.istore_n 2) := by decide +kernel
theorem dx_168_68 : mj_at 168 68 = some (.goto (-37)) := by decide +kernel
theorem dx_168_71 : mj_at 168 71 = some (.aload_n 0) := by decide +kernel
theorem dx_168_72 : mj_at 168 72 = some (.iconst 0) := by decide +kernel
theorem dx_168_73 : mj_at 168 73 = some (.putfield 123) := by decide +kernel
theorem dx_168_76 : mj_at 168 76 = some (.iload_n 2) := by decide +kernel
theorem dx_168_77 : mj_at 168 77 = some (.ifCond .ne 8) := by decide +kernel
theorem dx_168_80 : mj_at 168 80 = some (.aload_n 0) := by decide +kernel
theorem dx_168_81 : mj_at 168 81 = some (.getfield 141) := by decide +kernel
theorem dx_168_84 : mj_at 168 84 = some (.ireturn) := by decide +kernel
theorem dx_168_85 : mj_at 168 85 = some (.aload_n 0) := by decide +kernel
theorem dx_168_86 : mj_at 168 86 = some (.aload_n 0) := by decide +kernel
theorem dx_168_87 : mj_at 168 87 = some (.getfield 208) := by decide +kernel
theorem dx_168_90 : mj_at 168 90 = some (.putfield 223) := by decide +kernel
theorem dx_168_93 : mj_at 168 93 = some (.iconst 0) := by decide +kernel
theorem dx_168_94 : mj_at 168 94 = some (.istore_n 3) := by decide +kernel
theorem dx_168_95 : mj_at 168 95 = some (.iload_n 3) := by decide +kernel
theorem dx_168_96 : mj_at 168 96 = some (.aload_n 0) := by decide +kernel
theorem dx_168_97 : mj_at 168 97 = some (.getfield 154) := by decide +kernel
theorem dx_168_100 : mj_at 168 100 = some (.if_icmp .ge 21) := by decide +kernel
theorem dx_168_103 : mj_at 168 103 = some (.aload_n 0) := by decide +kernel
theorem dx_168_104 : mj_at 168 104 = some (.getfield 44) := by decide +kernel
theorem dx_168_107 : mj_at 168 107 = some (.iload_n 3) := by decide +kernel
theorem dx_168_108 : mj_at 168 108 = some (.aload_n 0) := by decide +kernel
theorem dx_168_109 : mj_at 168 109 = some (.getfield 26) := by decide +kernel
theorem dx_168_112 : mj_at 168 112 = some (.iload_n 3) := by decide +kernel
theorem dx_168_113 : mj_at 168 113 = some (.iaload) := by decide +kernel
theorem dx_168_114 : mj_at 168 114 = some (.iastore) := by decide +kernel
theorem dx_168_115 : mj_at 168 115 = some (.iinc 3 1) := by decide +kernel
theorem dx_168_118 : mj_at 168 118 = some (.goto (-23)) := by decide +kernel
theorem dx_168_121 : mj_at 168 121 = some (.iconst 0) := by decide +kernel
theorem dx_168_122 : mj_at 168 122 = some (.istore_n 3) := by decide +kernel
theorem dx_168_123 : mj_at 168 123 = some (.iload_n 3) := by decide +kernel
theorem dx_168_124 : mj_at 168 124 = some (.aload_n 0) := by decide +kernel
theorem dx_168_125 : mj_at 168 125 = some (.getfield 208) := by decide +kernel
theorem dx_168_128 : mj_at 168 128 = some (.if_icmp .ge 57) := by decide +kernel
theorem dx_168_131 : mj_at 168 131 = some (.aload_n 0) := by decide +kernel
theorem dx_168_132 : mj_at 168 132 = some (.getfield 47) := by decide +kernel
theorem dx_168_135 : mj_at 168 135 = some (.iload_n 3) := by decide +kernel
theorem dx_168_136 : mj_at 168 136 = some (.aload_n 0) := by decide +kernel
theorem dx_168_137 : mj_at 168 137 = some (.getfield 32) := by decide +kernel
theorem dx_168_140 : mj_at 168 140 = some (.iload_n 3) := by decide +kernel
theorem dx_168_141 : mj_at 168 141 = some (.iaload) := by decide +kernel
theorem dx_168_142 : mj_at 168 142 = some (.iastore) := by decide +kernel
theorem dx_168_143 : mj_at 168 143 = some (.aload_n 0) := by decide +kernel
theorem dx_168_144 : mj_at 168 144 = some (.getfield 50) := by decide +kernel
theorem dx_168_147 : mj_at 168 147 = some (.iload_n 3) := by decide +kernel
theorem dx_168_148 : mj_at 168 148 = some (.aload_n 0) := by decide +kernel
theorem dx_168_149 : mj_at 168 149 = some (.getfield 35) := by decide +kernel
theorem dx_168_152 : mj_at 168 152 = some (.iload_n 3) := by decide +kernel
theorem dx_168_153 : mj_at 168 153 = some (.iaload) := by decide +kernel
theorem dx_168_154 : mj_at 168 154 = some (.iastore) := by decide +kernel
theorem dx_168_155 : mj_at 168 155 = some (.aload_n 0) := by decide +kernel
theorem dx_168_156 : mj_at 168 156 = some (.getfield 53) := by decide +kernel
theorem dx_168_159 : mj_at 168 159 = some (.iload_n 3) := by decide +kernel
theorem dx_168_160 : mj_at 168 160 = some (.aload_n 0) := by decide +kernel
theorem dx_168_161 : mj_at 168 161 = some (.getfield 38) := by decide +kernel
theorem dx_168_164 : mj_at 168 164 = some (.iload_n 3) := by decide +kernel
theorem dx_168_165 : mj_at 168 165 = some (.iaload) := by decide +kernel
theorem dx_168_166 : mj_at 168 166 = some (.iastore) := by decide +kernel
theorem dx_168_167 : mj_at 168 167 = some (.aload_n 0) := by decide +kernel
theorem dx_168_168 : mj_at 168 168 = some (.getfield 56) := by decide +kernel
theorem dx_168_171 : mj_at 168 171 = some (.iload_n 3) := by decide +kernel
theorem dx_168_172 : mj_at 168 172 = some (.aload_n 0) := by decide +kernel
theorem dx_168_173 : mj_at 168 173 = some (.getfield 41) := by decide +kernel
theorem dx_168_176 : mj_at 168 176 = some (.iload_n 3) := by decide +kernel
theorem dx_168_177 : mj_at 168 177 = some (.iaload) := by decide +kernel
theorem dx_168_178 : mj_at 168 178 = some (.iastore) := by decide +kernel
theorem dx_168_179 : mj_at 168 179 = some (.iinc 3 1) := by decide +kernel
theorem dx_168_182 : mj_at 168 182 = some (.goto (-59)) := by decide +kernel
theorem dx_168_185 : mj_at 168 185 = some (.aload_n 0) := by decide +kernel
theorem dx_168_186 : mj_at 168 186 = some (.getfield 208) := by decide +kernel
theorem dx_168_189 : mj_at 168 189 = some (.ireturn) := by decide +kernel
set_option maxRecDepth 10000 in
theorem b_X9_law {sl d : Nat} {M : mj_M} {x1 : Int32}  : mj_C sl (d + 1) 168 [.ref 45, .int x1] M = (mj_C sl d 124 [.int x1, .int 1, .int 240] M).bind (fun q1 => if q1.1 = 0 then (some (((-1) : Int32), q1.2)) else (if x1 ≤ (q1.2 45 5) then ((mj_C sl d 167 [.ref 45, .int x1] q1.2).bind (fun q2 => (mj_C sl d 166 [.ref 45] q2.2).bind (fun q3 => mj_E sl (d + 1) 168 31 [.ref 45, .int x1, .int q3.1, .null] [] q3.2))) else (some (((-1) : Int32), q1.2)))) := by
  show mj_E sl (d + 1) 168 0 [.ref 45, .int x1, .null, .null] [] M = _
  refine (sx_iload_n dx_168_0 rfl).trans ?_
  refine (sx_iconst (v := 1) dx_168_1 rfl).trans ?_
  refine (sx_sipush (v := 240) dx_168_2 rfl).trans ?_
  refine (sx_s3i dx_168_5 ow_168 cx_7_90 (Nat.le_of_ble_eq_true rfl)).trans ?_
  refine mj_bnd (fun q1 => ?_)
  refine (sx_if_eq (tgt := 19) dx_168_8 (by decide)).trans ?_
  refine mj_ite ?_ ?_
  · refine (sx_iconst (v := (-1)) dx_168_19 rfl).trans ?_
    exact sx_reti dx_168_20 rt_168
  · refine (sx_iload_n dx_168_11 rfl).trans ?_
    refine (sx_aload_n dx_168_12 rfl).trans ?_
    refine (sx_gfi dx_168_13 ow_168 fx_7_123 (by decide) oc_45).trans ?_
    refine (sx_icmp_le (tgt := 21) dx_168_16 (by decide)).trans ?_
    refine mj_ite ?_ ?_
    · refine (sx_aload_n dx_168_21 rfl).trans ?_
      refine (sx_iload_n dx_168_22 rfl).trans ?_
      refine (sx_v1v dx_168_23 ow_168 cx_7_214 oc_45 (Nat.le_of_ble_eq_true rfl)).trans ?_
      refine mj_bnd (fun q2 => ?_)
      refine (sx_aload_n dx_168_26 rfl).trans ?_
      refine (sx_v0i dx_168_27 ow_168 cx_7_217 oc_45 (Nat.le_of_ble_eq_true rfl)).trans ?_
      refine mj_bnd (fun q3 => ?_)
      refine (sx_istore_n dx_168_30 (Nat.le_of_ble_eq_true rfl) rfl).trans ?_
      rfl
    · refine (sx_iconst (v := (-1)) dx_168_19 rfl).trans ?_
      exact sx_reti dx_168_20 rt_168
set_option maxRecDepth 10000 in
theorem b_X9_law_31 {sl d : Nat} {M : mj_M} {w1 : Value} {y2 : Int32} {w3 : Value}  : mj_E sl (d + 1) 168 31 [.ref 45, w1, .int y2, w3] [] M = if y2 = 0 then (if y2 = 0 then (some (((mj_st M 45 5 0) 45 8 : Int32), mj_st M 45 5 0)) else (mj_E sl (d + 1) 168 95 [.ref 45, w1, .int y2, .int 0] [] (mj_st (mj_st M 45 5 0) 45 14 ((mj_st M 45 5 0) 45 13)))) else (if M 45 6 < (M 45 7) then ((mj_C sl d 150 [.ref 45, .int 59] M).bind (fun q1 => if q1.1 = 0 then (mj_E sl (d + 1) 168 31 [.ref 45, w1, .int 0, w3] [] q1.2) else ((mj_C sl d 166 [.ref 45] q1.2).bind (fun q2 => if q2.1 = 0 then (mj_E sl (d + 1) 168 31 [.ref 45, w1, .int 0, w3] [] q2.2) else (mj_E sl (d + 1) 168 31 [.ref 45, w1, .int 1, w3] [] q2.2))))) else (if y2 = 0 then (some (((mj_st M 45 5 0) 45 8 : Int32), mj_st M 45 5 0)) else (mj_E sl (d + 1) 168 95 [.ref 45, w1, .int y2, .int 0] [] (mj_st (mj_st M 45 5 0) 45 14 ((mj_st M 45 5 0) 45 13))))) := by
  refine (sx_iload_n dx_168_31 rfl).trans ?_
  refine (sx_if_eq (tgt := 71) dx_168_32 (by decide)).trans ?_
  refine mj_ite ?_ ?_
  · refine (sx_aload_n dx_168_71 rfl).trans ?_
    refine (sx_iconst (v := 0) dx_168_72 rfl).trans ?_
    refine (sx_pfi dx_168_73 ow_168 fx_7_123 oc_45).trans ?_
    refine (sx_iload_n dx_168_76 rfl).trans ?_
    refine (sx_if_ne (tgt := 85) dx_168_77 (by decide)).trans ?_
    refine mj_ite ?_ ?_
    · refine (sx_aload_n dx_168_80 rfl).trans ?_
      refine (sx_gfi dx_168_81 ow_168 fx_7_141 (by decide) oc_45).trans ?_
      exact sx_reti dx_168_84 rt_168
    · refine (sx_aload_n dx_168_85 rfl).trans ?_
      refine (sx_aload_n dx_168_86 rfl).trans ?_
      refine (sx_gfi dx_168_87 ow_168 fx_7_208 (by decide) oc_45).trans ?_
      refine (sx_pfi dx_168_90 ow_168 fx_7_223 oc_45).trans ?_
      refine (sx_iconst (v := 0) dx_168_93 rfl).trans ?_
      refine (sx_istore_n dx_168_94 (Nat.le_of_ble_eq_true rfl) rfl).trans ?_
      rfl
  · refine (sx_aload_n dx_168_35 rfl).trans ?_
    refine (sx_gfi dx_168_36 ow_168 fx_7_131 (by decide) oc_45).trans ?_
    refine (sx_aload_n dx_168_39 rfl).trans ?_
    refine (sx_gfi dx_168_40 ow_168 fx_7_134 (by decide) oc_45).trans ?_
    refine (sx_icmp_ge (tgt := 71) dx_168_43 (by decide)).trans ?_
    refine mj_ite ?_ ?_
    · refine (sx_aload_n dx_168_46 rfl).trans ?_
      refine (sx_bipush (v := 59) dx_168_47 rfl).trans ?_
      refine (sx_v1i dx_168_49 ow_168 cx_7_220 oc_45 (Nat.le_of_ble_eq_true rfl)).trans ?_
      refine mj_bnd (fun q1 => ?_)
      refine (sx_if_eq (tgt := 66) dx_168_52 (by decide)).trans ?_
      refine mj_ite ?_ ?_
      · refine (sx_iconst (v := 0) dx_168_66 rfl).trans ?_
        refine (sx_istore_n dx_168_67 (Nat.le_of_ble_eq_true rfl) rfl).trans ?_
        refine (sx_goto (tgt := 31) dx_168_68 (by decide)).trans ?_
        rfl
      · refine (sx_aload_n dx_168_55 rfl).trans ?_
        refine (sx_v0i dx_168_56 ow_168 cx_7_217 oc_45 (Nat.le_of_ble_eq_true rfl)).trans ?_
        refine mj_bnd (fun q2 => ?_)
        refine (sx_if_eq (tgt := 66) dx_168_59 (by decide)).trans ?_
        refine mj_ite ?_ ?_
        · refine (sx_iconst (v := 0) dx_168_66 rfl).trans ?_
          refine (sx_istore_n dx_168_67 (Nat.le_of_ble_eq_true rfl) rfl).trans ?_
          refine (sx_goto (tgt := 31) dx_168_68 (by decide)).trans ?_
          rfl
        · refine (sx_iconst (v := 1) dx_168_62 rfl).trans ?_
          refine (sx_goto (tgt := 67) dx_168_63 (by decide)).trans ?_
          refine (sx_istore_n dx_168_67 (Nat.le_of_ble_eq_true rfl) rfl).trans ?_
          refine (sx_goto (tgt := 31) dx_168_68 (by decide)).trans ?_
          rfl
    · refine (sx_aload_n dx_168_71 rfl).trans ?_
      refine (sx_iconst (v := 0) dx_168_72 rfl).trans ?_
      refine (sx_pfi dx_168_73 ow_168 fx_7_123 oc_45).trans ?_
      refine (sx_iload_n dx_168_76 rfl).trans ?_
      refine (sx_if_ne (tgt := 85) dx_168_77 (by decide)).trans ?_
      refine mj_ite ?_ ?_
      · refine (sx_aload_n dx_168_80 rfl).trans ?_
        refine (sx_gfi dx_168_81 ow_168 fx_7_141 (by decide) oc_45).trans ?_
        exact sx_reti dx_168_84 rt_168
      · refine (sx_aload_n dx_168_85 rfl).trans ?_
        refine (sx_aload_n dx_168_86 rfl).trans ?_
        refine (sx_gfi dx_168_87 ow_168 fx_7_208 (by decide) oc_45).trans ?_
        refine (sx_pfi dx_168_90 ow_168 fx_7_223 oc_45).trans ?_
        refine (sx_iconst (v := 0) dx_168_93 rfl).trans ?_
        refine (sx_istore_n dx_168_94 (Nat.le_of_ble_eq_true rfl) rfl).trans ?_
        rfl
set_option maxRecDepth 10000 in
theorem b_X9_law_95 {sl d : Nat} {M : mj_M} {w1 : Value} {w2 : Value} {y3 : Int32}  : mj_E sl (d + 1) 168 95 [.ref 45, w1, w2, .int y3] [] M = if y3 < (M 45 11) then (if mj_inB y3 260 = true then (if mj_inB y3 260 = true then (mj_E sl (d + 1) 168 95 [.ref 45, w1, w2, .int (y3 + 1)] [] (mj_st M 57 (y3 : Int32).toNatClampNeg (M 51 (y3 : Int32).toNatClampNeg))) else none) else none) else (mj_E sl (d + 1) 168 123 [.ref 45, w1, w2, .int 0] [] M) := by
  refine (sx_iload_n dx_168_95 rfl).trans ?_
  refine (sx_aload_n dx_168_96 rfl).trans ?_
  refine (sx_gfi dx_168_97 ow_168 fx_7_154 (by decide) oc_45).trans ?_
  refine (sx_icmp_ge (tgt := 121) dx_168_100 (by decide)).trans ?_
  refine mj_ite ?_ ?_
  · refine (sx_aload_n dx_168_103 rfl).trans ?_
    refine (sx_gfr dx_168_104 ow_168 fx_7_44 oc_45 rb_45_21).trans ?_
    refine (sx_iload_n dx_168_107 rfl).trans ?_
    refine (sx_aload_n dx_168_108 rfl).trans ?_
    refine (sx_gfr dx_168_109 ow_168 fx_7_26 oc_45 rb_45_15).trans ?_
    refine (sx_iload_n dx_168_112 rfl).trans ?_
    refine (sx_ild dx_168_113 (by decide) ia_51).trans ?_
    refine mj_ite ?_ rfl
    refine (sx_ist dx_168_114 ia_57).trans ?_
    refine mj_ite ?_ rfl
    refine (sx_iinc (v := 1) dx_168_115 rfl rfl rfl).trans ?_
    refine (sx_goto (tgt := 95) dx_168_118 (by decide)).trans ?_
    rfl
  · refine (sx_iconst (v := 0) dx_168_121 rfl).trans ?_
    refine (sx_istore_n dx_168_122 (Nat.le_of_ble_eq_true rfl) rfl).trans ?_
    rfl
set_option maxRecDepth 10000 in
theorem b_X9_law_123 {sl d : Nat} {M : mj_M} {w1 : Value} {w2 : Value} {y3 : Int32}  : mj_E sl (d + 1) 168 123 [.ref 45, w1, w2, .int y3] [] M = if y3 < (M 45 13) then (if mj_inB y3 16 = true then (if mj_inB y3 16 = true then (if mj_inB y3 16 = true then (if mj_inB y3 16 = true then (if mj_inB y3 16 = true then (if mj_inB y3 16 = true then (if mj_inB y3 16 = true then (if mj_inB y3 16 = true then (mj_E sl (d + 1) 168 123 [.ref 45, w1, w2, .int (y3 + 1)] [] (mj_st (mj_st (mj_st (mj_st M 58 (y3 : Int32).toNatClampNeg (M 53 (y3 : Int32).toNatClampNeg)) 59 (y3 : Int32).toNatClampNeg ((mj_st M 58 (y3 : Int32).toNatClampNeg (M 53 (y3 : Int32).toNatClampNeg)) 54 (y3 : Int32).toNatClampNeg)) 60 (y3 : Int32).toNatClampNeg ((mj_st (mj_st M 58 (y3 : Int32).toNatClampNeg (M 53 (y3 : Int32).toNatClampNeg)) 59 (y3 : Int32).toNatClampNeg ((mj_st M 58 (y3 : Int32).toNatClampNeg (M 53 (y3 : Int32).toNatClampNeg)) 54 (y3 : Int32).toNatClampNeg)) 55 (y3 : Int32).toNatClampNeg)) 61 (y3 : Int32).toNatClampNeg ((mj_st (mj_st (mj_st M 58 (y3 : Int32).toNatClampNeg (M 53 (y3 : Int32).toNatClampNeg)) 59 (y3 : Int32).toNatClampNeg ((mj_st M 58 (y3 : Int32).toNatClampNeg (M 53 (y3 : Int32).toNatClampNeg)) 54 (y3 : Int32).toNatClampNeg)) 60 (y3 : Int32).toNatClampNeg ((mj_st (mj_st M 58 (y3 : Int32).toNatClampNeg (M 53 (y3 : Int32).toNatClampNeg)) 59 (y3 : Int32).toNatClampNeg ((mj_st M 58 (y3 : Int32).toNatClampNeg (M 53 (y3 : Int32).toNatClampNeg)) 54 (y3 : Int32).toNatClampNeg)) 55 (y3 : Int32).toNatClampNeg)) 56 (y3 : Int32).toNatClampNeg))) else none) else none) else none) else none) else none) else none) else none) else none) else (some ((M 45 13 : Int32), M)) := by
  refine (sx_iload_n dx_168_123 rfl).trans ?_
  refine (sx_aload_n dx_168_124 rfl).trans ?_
  refine (sx_gfi dx_168_125 ow_168 fx_7_208 (by decide) oc_45).trans ?_
  refine (sx_icmp_ge (tgt := 185) dx_168_128 (by decide)).trans ?_
  refine mj_ite ?_ ?_
  · refine (sx_aload_n dx_168_131 rfl).trans ?_
    refine (sx_gfr dx_168_132 ow_168 fx_7_47 oc_45 rb_45_22).trans ?_
    refine (sx_iload_n dx_168_135 rfl).trans ?_
    refine (sx_aload_n dx_168_136 rfl).trans ?_
    refine (sx_gfr dx_168_137 ow_168 fx_7_32 oc_45 rb_45_17).trans ?_
    refine (sx_iload_n dx_168_140 rfl).trans ?_
    refine (sx_ild dx_168_141 (by decide) ia_53).trans ?_
    refine mj_ite ?_ rfl
    refine (sx_ist dx_168_142 ia_58).trans ?_
    refine mj_ite ?_ rfl
    refine (sx_aload_n dx_168_143 rfl).trans ?_
    refine (sx_gfr dx_168_144 ow_168 fx_7_50 oc_45 rb_45_23).trans ?_
    refine (sx_iload_n dx_168_147 rfl).trans ?_
    refine (sx_aload_n dx_168_148 rfl).trans ?_
    refine (sx_gfr dx_168_149 ow_168 fx_7_35 oc_45 rb_45_18).trans ?_
    refine (sx_iload_n dx_168_152 rfl).trans ?_
    refine (sx_ild dx_168_153 (by decide) ia_54).trans ?_
    refine mj_ite ?_ rfl
    refine (sx_ist dx_168_154 ia_59).trans ?_
    refine mj_ite ?_ rfl
    refine (sx_aload_n dx_168_155 rfl).trans ?_
    refine (sx_gfr dx_168_156 ow_168 fx_7_53 oc_45 rb_45_24).trans ?_
    refine (sx_iload_n dx_168_159 rfl).trans ?_
    refine (sx_aload_n dx_168_160 rfl).trans ?_
    refine (sx_gfr dx_168_161 ow_168 fx_7_38 oc_45 rb_45_19).trans ?_
    refine (sx_iload_n dx_168_164 rfl).trans ?_
    refine (sx_ild dx_168_165 (by decide) ia_55).trans ?_
    refine mj_ite ?_ rfl
    refine (sx_ist dx_168_166 ia_60).trans ?_
    refine mj_ite ?_ rfl
    refine (sx_aload_n dx_168_167 rfl).trans ?_
    refine (sx_gfr dx_168_168 ow_168 fx_7_56 oc_45 rb_45_25).trans ?_
    refine (sx_iload_n dx_168_171 rfl).trans ?_
    refine (sx_aload_n dx_168_172 rfl).trans ?_
    refine (sx_gfr dx_168_173 ow_168 fx_7_41 oc_45 rb_45_20).trans ?_
    refine (sx_iload_n dx_168_176 rfl).trans ?_
    refine (sx_ild dx_168_177 (by decide) ia_56).trans ?_
    refine mj_ite ?_ rfl
    refine (sx_ist dx_168_178 ia_61).trans ?_
    refine mj_ite ?_ rfl
    refine (sx_iinc (v := 1) dx_168_179 rfl rfl rfl).trans ?_
    refine (sx_goto (tgt := 123) dx_168_182 (by decide)).trans ?_
    rfl
  · refine (sx_aload_n dx_168_185 rfl).trans ?_
    refine (sx_gfi dx_168_186 ow_168 fx_7_208 (by decide) oc_45).trans ?_
    exact sx_reti dx_168_189 rt_168
theorem dx_169_0 : mj_at 169 0 = some (.iload_n 0) := by decide +kernel
theorem dx_169_1 : mj_at 169 1 = some (.tableswitch 85 2 8 #[43, 47, 51, 55, 59, 63, 74]) := by decide +kernel
theorem dx_169_44 : mj_at 169 44 = some (.iload_n 1) := by decide +kernel
theorem dx_169_45 : mj_at 169 45 = some (.iload_n 2) := by decide +kernel
theorem dx_169_46 : mj_at 169 46 = some (.iadd) := by decide +kernel
theorem dx_169_47 : mj_at 169 47 = some (.ireturn) := by decide +kernel
theorem dx_169_48 : mj_at 169 48 = some (.iload_n 1) := by decide +kernel
theorem dx_169_49 : mj_at 169 49 = some (.iload_n 2) := by decide +kernel
theorem dx_169_50 : mj_at 169 50 = some (.isub) := by decide +kernel
theorem dx_169_51 : mj_at 169 51 = some (.ireturn) := by decide +kernel
theorem dx_169_52 : mj_at 169 52 = some (.iload_n 1) := by decide +kernel
theorem dx_169_53 : mj_at 169 53 = some (.iload_n 2) := by decide +kernel
theorem dx_169_54 : mj_at 169 54 = some (.imul) := by decide +kernel
theorem dx_169_55 : mj_at 169 55 = some (.ireturn) := by decide +kernel
theorem dx_169_56 : mj_at 169 56 = some (.iload_n 1) := by decide +kernel
theorem dx_169_57 : mj_at 169 57 = some (.iload_n 2) := by decide +kernel
theorem dx_169_58 : mj_at 169 58 = some (.idiv) := by decide +kernel
theorem dx_169_59 : mj_at 169 59 = some (.ireturn) := by decide +kernel
theorem dx_169_60 : mj_at 169 60 = some (.iload_n 1) := by decide +kernel
theorem dx_169_61 : mj_at 169 61 = some (.iload_n 2) := by decide +kernel
theorem dx_169_62 : mj_at 169 62 = some (.irem) := by decide +kernel
theorem dx_169_63 : mj_at 169 63 = some (.ireturn) := by decide +kernel
theorem dx_169_64 : mj_at 169 64 = some (.iload_n 1) := by decide +kernel
theorem dx_169_65 : mj_at 169 65 = some (.iload_n 2) := by decide +kernel
theorem dx_169_66 : mj_at 169 66 = some (.if_icmp .ge 7) := by decide +kernel
theorem dx_169_69 : mj_at 169 69 = some (.iconst 1) := by decide +kernel
theorem dx_169_70 : mj_at 169 70 = some (.goto 4) := by decide +kernel
theorem dx_169_73 : mj_at 169 73 = some (.iconst 0) := by decide +kernel
theorem dx_169_74 : mj_at 169 74 = some (.ireturn) := by decide +kernel
theorem dx_169_75 : mj_at 169 75 = some (.iload_n 1) := by decide +kernel
theorem dx_169_76 : mj_at 169 76 = some (.iload_n 2) := by decide +kernel
theorem dx_169_77 : mj_at 169 77 = some (.if_icmp .le 7) := by decide +kernel
theorem dx_169_80 : mj_at 169 80 = some (.iconst 1) := by decide +kernel
theorem dx_169_81 : mj_at 169 81 = some (.goto 4) := by decide +kernel
theorem dx_169_84 : mj_at 169 84 = some (.iconst 0) := by decide +kernel
theorem dx_169_85 : mj_at 169 85 = some (.ireturn) := by decide +kernel
theorem dx_169_86 : mj_at 169 86 = some (.iload_n 1) := by decide +kernel
theorem dx_169_87 : mj_at 169 87 = some (.iload_n 2) := by decide +kernel
theorem dx_169_88 : mj_at 169 88 = some (.if_icmp .ne 7) := by decide +kernel
theorem dx_169_91 : mj_at 169 91 = some (.iconst 1) := by decide +kernel
theorem dx_169_92 : mj_at 169 92 = some (.goto 4) := by decide +kernel
theorem dx_169_95 : mj_at 169 95 = some (.iconst 0) := by decide +kernel
theorem dx_169_96 : mj_at 169 96 = some (.ireturn) := by decide +kernel
set_option maxRecDepth 10000 in
theorem b_X9_reckon {sl d : Nat} {M : mj_M} {x1 : Int32} {x2 : Int32} {x3 : Int32}  : mj_C sl d 169 [.int x1, .int x2, .int x3] M = if x1 = 2 then (some ((x2 + x3 : Int32), M)) else (if x1 = 3 then (some ((x2 - x3 : Int32), M)) else (if x1 = 4 then (some ((x2 * x3 : Int32), M)) else (if x1 = 5 then (if x3 = 0 then none else (some ((x2 / x3 : Int32), M))) else (if x1 = 6 then (if x3 = 0 then none else (some ((mj_rm x2 x3 : Int32), M))) else (if x1 = 7 then (if x2 < x3 then (some ((1 : Int32), M)) else (some ((0 : Int32), M))) else (if x1 = 8 then (if x2 ≤ x3 then (some ((0 : Int32), M)) else (some ((1 : Int32), M))) else (if x2 = x3 then (some ((1 : Int32), M)) else (some ((0 : Int32), M))))))))) := by
  show mj_E sl d 169 0 [.int x1, .int x2, .int x3] [] M = _
  refine (sx_iload_n dx_169_0 rfl).trans ?_
  refine mj_sel (fun hx1_0 => ?_) (fun hx1_0 => ?_)
  · refine (sx_tsw_in (off := 43) (tgt := 44) dx_169_1 hx1_0 (by decide) (by decide) (by decide)).trans ?_
    refine (sx_iload_n dx_169_44 rfl).trans ?_
    refine (sx_iload_n dx_169_45 rfl).trans ?_
    refine (sx_iadd dx_169_46).trans ?_
    exact sx_reti dx_169_47 rt_169
  refine mj_sel (fun hx1_1 => ?_) (fun hx1_1 => ?_)
  · refine (sx_tsw_in (off := 47) (tgt := 48) dx_169_1 hx1_1 (by decide) (by decide) (by decide)).trans ?_
    refine (sx_iload_n dx_169_48 rfl).trans ?_
    refine (sx_iload_n dx_169_49 rfl).trans ?_
    refine (sx_isub dx_169_50).trans ?_
    exact sx_reti dx_169_51 rt_169
  refine mj_sel (fun hx1_2 => ?_) (fun hx1_2 => ?_)
  · refine (sx_tsw_in (off := 51) (tgt := 52) dx_169_1 hx1_2 (by decide) (by decide) (by decide)).trans ?_
    refine (sx_iload_n dx_169_52 rfl).trans ?_
    refine (sx_iload_n dx_169_53 rfl).trans ?_
    refine (sx_imul dx_169_54).trans ?_
    exact sx_reti dx_169_55 rt_169
  refine mj_sel (fun hx1_3 => ?_) (fun hx1_3 => ?_)
  · refine (sx_tsw_in (off := 55) (tgt := 56) dx_169_1 hx1_3 (by decide) (by decide) (by decide)).trans ?_
    refine (sx_iload_n dx_169_56 rfl).trans ?_
    refine (sx_iload_n dx_169_57 rfl).trans ?_
    refine (sx_idivg dx_169_58).trans ?_
    refine mj_ite rfl ?_
    exact sx_reti dx_169_59 rt_169
  refine mj_sel (fun hx1_4 => ?_) (fun hx1_4 => ?_)
  · refine (sx_tsw_in (off := 59) (tgt := 60) dx_169_1 hx1_4 (by decide) (by decide) (by decide)).trans ?_
    refine (sx_iload_n dx_169_60 rfl).trans ?_
    refine (sx_iload_n dx_169_61 rfl).trans ?_
    refine (sx_iremg dx_169_62).trans ?_
    refine mj_ite rfl ?_
    exact sx_reti dx_169_63 rt_169
  refine mj_sel (fun hx1_5 => ?_) (fun hx1_5 => ?_)
  · refine (sx_tsw_in (off := 63) (tgt := 64) dx_169_1 hx1_5 (by decide) (by decide) (by decide)).trans ?_
    refine (sx_iload_n dx_169_64 rfl).trans ?_
    refine (sx_iload_n dx_169_65 rfl).trans ?_
    refine (sx_icmp_ge (tgt := 73) dx_169_66 (by decide)).trans ?_
    refine mj_ite ?_ ?_
    · refine (sx_iconst (v := 1) dx_169_69 rfl).trans ?_
      refine (sx_goto (tgt := 74) dx_169_70 (by decide)).trans ?_
      exact sx_reti dx_169_74 rt_169
    · refine (sx_iconst (v := 0) dx_169_73 rfl).trans ?_
      exact sx_reti dx_169_74 rt_169
  refine mj_sel (fun hx1_6 => ?_) (fun hx1_6 => ?_)
  · refine (sx_tsw_in (off := 74) (tgt := 75) dx_169_1 hx1_6 (by decide) (by decide) (by decide)).trans ?_
    refine (sx_iload_n dx_169_75 rfl).trans ?_
    refine (sx_iload_n dx_169_76 rfl).trans ?_
    refine (sx_icmp_le (tgt := 84) dx_169_77 (by decide)).trans ?_
    refine mj_ite ?_ ?_
    · refine (sx_iconst (v := 0) dx_169_84 rfl).trans ?_
      exact sx_reti dx_169_85 rt_169
    · refine (sx_iconst (v := 1) dx_169_80 rfl).trans ?_
      refine (sx_goto (tgt := 85) dx_169_81 (by decide)).trans ?_
      exact sx_reti dx_169_85 rt_169
  have zhx1_0 := mj_ne hx1_0 (n := 2) (by decide)
  have zhx1_1 := mj_ne hx1_1 (n := 3) (by decide)
  have zhx1_2 := mj_ne hx1_2 (n := 4) (by decide)
  have zhx1_3 := mj_ne hx1_3 (n := 5) (by decide)
  have zhx1_4 := mj_ne hx1_4 (n := 6) (by decide)
  have zhx1_5 := mj_ne hx1_5 (n := 7) (by decide)
  have zhx1_6 := mj_ne hx1_6 (n := 8) (by decide)
  refine (sx_tsw_out (tgt := 86) dx_169_1 (by omega) (by decide)).trans ?_
  refine (sx_iload_n dx_169_86 rfl).trans ?_
  refine (sx_iload_n dx_169_87 rfl).trans ?_
  refine (sx_icmp_ne (tgt := 95) dx_169_88 (by decide)).trans ?_
  refine mj_ite ?_ ?_
  · refine (sx_iconst (v := 1) dx_169_91 rfl).trans ?_
    refine (sx_goto (tgt := 96) dx_169_92 (by decide)).trans ?_
    exact sx_reti dx_169_96 rt_169
  · refine (sx_iconst (v := 0) dx_169_95 rfl).trans ?_
    exact sx_reti dx_169_96 rt_169
theorem dx_170_0 : mj_at 170 0 = some (.iconst 0) := by decide +kernel
theorem dx_170_1 : mj_at 170 1 = some (.istore_n 3) := by decide +kernel
theorem dx_170_2 : mj_at 170 2 = some (.sipush 260) := by decide +kernel
theorem dx_170_5 : mj_at 170 5 = some (.iload_n 1) := by decide +kernel
theorem dx_170_6 : mj_at 170 6 = some (.sipush 260) := by decide +kernel
theorem dx_170_9 : mj_at 170 9 = some (.idiv) := by decide +kernel
theorem dx_170_10 : mj_at 170 10 = some (.imul) := by decide +kernel
theorem dx_170_11 : mj_at 170 11 = some (.istore 4) := by decide +kernel
theorem dx_170_13 : mj_at 170 13 = some (.iload_n 1) := by decide +kernel
theorem dx_170_14 : mj_at 170 14 = some (.istore 5) := by decide +kernel
theorem dx_170_16 : mj_at 170 16 = some (.iload 5) := by decide +kernel
theorem dx_170_18 : mj_at 170 18 = some (.iload_n 2) := by decide +kernel
theorem dx_170_19 : mj_at 170 19 = some (.if_icmp .ge 214) := by decide +kernel
theorem dx_170_22 : mj_at 170 22 = some (.aload_n 0) := by decide +kernel
theorem dx_170_23 : mj_at 170 23 = some (.getfield 44) := by decide +kernel
theorem dx_170_26 : mj_at 170 26 = some (.iload 5) := by decide +kernel
theorem dx_170_28 : mj_at 170 28 = some (.iaload) := by decide +kernel
theorem dx_170_29 : mj_at 170 29 = some (.ldc 157) := by decide +kernel
theorem dx_170_31 : mj_at 170 31 = some (.idiv) := by decide +kernel
theorem dx_170_32 : mj_at 170 32 = some (.istore 6) := by decide +kernel
theorem dx_170_34 : mj_at 170 34 = some (.aload_n 0) := by decide +kernel
theorem dx_170_35 : mj_at 170 35 = some (.getfield 44) := by decide +kernel
theorem dx_170_38 : mj_at 170 38 = some (.iload 5) := by decide +kernel
theorem dx_170_40 : mj_at 170 40 = some (.iaload) := by decide +kernel
theorem dx_170_41 : mj_at 170 41 = some (.ldc 157) := by decide +kernel
theorem dx_170_43 : mj_at 170 43 = some (.irem) := by decide +kernel
theorem dx_170_44 : mj_at 170 44 = some (.istore 7) := by decide +kernel
theorem dx_170_46 : mj_at 170 46 = some (.iload 5) := by decide +kernel
theorem dx_170_48 : mj_at 170 48 = some (.iconst 1) := by decide +kernel
theorem dx_170_49 : mj_at 170 49 = some (.iadd) := by decide +kernel
theorem dx_170_50 : mj_at 170 50 = some (.istore 5) := by decide +kernel
theorem dx_170_52 : mj_at 170 52 = some (.iload 6) := by decide +kernel
theorem dx_170_54 : mj_at 170 54 = some (.ifCond .eq 9) := by decide +kernel
theorem dx_170_57 : mj_at 170 57 = some (.iload 6) := by decide +kernel
theorem dx_170_59 : mj_at 170 59 = some (.iconst 1) := by decide +kernel
theorem dx_170_60 : mj_at 170 60 = some (.if_icmp .ne 33) := by decide +kernel
theorem dx_170_63 : mj_at 170 63 = some (.aload_n 0) := by decide +kernel
theorem dx_170_64 : mj_at 170 64 = some (.getfield 59) := by decide +kernel
theorem dx_170_67 : mj_at 170 67 = some (.iload_n 3) := by decide +kernel
theorem dx_170_68 : mj_at 170 68 = some (.iload 6) := by decide +kernel
theorem dx_170_70 : mj_at 170 70 = some (.ifCond .ne 8) := by decide +kernel
theorem dx_170_73 : mj_at 170 73 = some (.iload 7) := by decide +kernel
theorem dx_170_75 : mj_at 170 75 = some (.goto 10) := by decide +kernel
theorem dx_170_78 : mj_at 170 78 = some (.aload_n 0) := by decide +kernel
theorem dx_170_79 : mj_at 170 79 = some (.getfield 62) := by decide +kernel
theorem dx_170_82 : mj_at 170 82 = some (.iload 7) := by decide +kernel
theorem dx_170_84 : mj_at 170 84 = some (.iaload) := by decide +kernel
theorem dx_170_85 : mj_at 170 85 = some (.iastore) := by decide +kernel
theorem dx_170_86 : mj_at 170 86 = some (.iload_n 3) := by decide +kernel
theorem dx_170_87 : mj_at 170 87 = some (.iconst 1) := by decide +kernel
theorem dx_170_88 : mj_at 170 88 = some (.iadd) := by decide +kernel
theorem dx_170_89 : mj_at 170 89 = some (.istore_n 3) := by decide +kernel
theorem dx_170_90 : mj_at 170 90 = some (.goto 140) := by decide +kernel
theorem dx_170_93 : mj_at 170 93 = some (.iload 6) := by decide +kernel
theorem dx_170_95 : mj_at 170 95 = some (.bipush 10) := by decide +kernel
theorem dx_170_97 : mj_at 170 97 = some (.if_icmp .ne 24) := by decide +kernel
theorem dx_170_100 : mj_at 170 100 = some (.aload_n 0) := by decide +kernel
theorem dx_170_101 : mj_at 170 101 = some (.getfield 59) := by decide +kernel
theorem dx_170_104 : mj_at 170 104 = some (.iload_n 3) := by decide +kernel
theorem dx_170_105 : mj_at 170 105 = some (.iconst 1) := by decide +kernel
theorem dx_170_106 : mj_at 170 106 = some (.isub) := by decide +kernel
theorem dx_170_107 : mj_at 170 107 = some (.iconst 1) := by decide +kernel
theorem dx_170_108 : mj_at 170 108 = some (.aload_n 0) := by decide +kernel
theorem dx_170_109 : mj_at 170 109 = some (.getfield 59) := by decide +kernel
theorem dx_170_112 : mj_at 170 112 = some (.iload_n 3) := by decide +kernel
theorem dx_170_113 : mj_at 170 113 = some (.iconst 1) := by decide +kernel
theorem dx_170_114 : mj_at 170 114 = some (.isub) := by decide +kernel
theorem dx_170_115 : mj_at 170 115 = some (.iaload) := by decide +kernel
theorem dx_170_116 : mj_at 170 116 = some (.isub) := by decide +kernel
theorem dx_170_117 : mj_at 170 117 = some (.iastore) := by decide +kernel
theorem dx_170_118 : mj_at 170 118 = some (.goto 112) := by decide +kernel
theorem dx_170_121 : mj_at 170 121 = some (.iload 6) := by decide +kernel
theorem dx_170_123 : mj_at 170 123 = some (.bipush 11) := by decide +kernel
theorem dx_170_125 : mj_at 170 125 = some (.if_icmp .eq 10) := by decide +kernel
theorem dx_170_128 : mj_at 170 128 = some (.iload 6) := by decide +kernel
theorem dx_170_130 : mj_at 170 130 = some (.bipush 12) := by decide +kernel
theorem dx_170_132 : mj_at 170 132 = some (.if_icmp .ne 43) := by decide +kernel
theorem dx_170_135 : mj_at 170 135 = some (.aload_n 0) := by decide +kernel
theorem dx_170_136 : mj_at 170 136 = some (.getfield 59) := by decide +kernel
theorem dx_170_139 : mj_at 170 139 = some (.iload_n 3) := by decide +kernel
theorem dx_170_140 : mj_at 170 140 = some (.iconst 1) := by decide +kernel
theorem dx_170_141 : mj_at 170 141 = some (.isub) := by decide +kernel
theorem dx_170_142 : mj_at 170 142 = some (.iaload) := by decide +kernel
theorem dx_170_143 : mj_at 170 143 = some (.iload 6) := by decide +kernel
theorem dx_170_145 : mj_at 170 145 = some (.bipush 12) := by decide +kernel
theorem dx_170_147 : mj_at 170 147 = some (.if_icmp .ne 7) := by decide +kernel
theorem dx_170_150 : mj_at 170 150 = some (.iconst 1) := by decide +kernel
theorem dx_170_151 : mj_at 170 151 = some (.goto 4) := by decide +kernel
theorem dx_170_154 : mj_at 170 154 = some (.iconst 0) := by decide +kernel
theorem dx_170_155 : mj_at 170 155 = some (.if_icmp .ne 13) := by decide +kernel
theorem dx_170_158 : mj_at 170 158 = some (.iload 4) := by decide +kernel
theorem dx_170_160 : mj_at 170 160 = some (.iload 7) := by decide +kernel
theorem dx_170_162 : mj_at 170 162 = some (.iadd) := by decide +kernel
theorem dx_170_163 : mj_at 170 163 = some (.istore 5) := by decide +kernel
theorem dx_170_165 : mj_at 170 165 = some (.goto 65) := by decide +kernel
theorem dx_170_168 : mj_at 170 168 = some (.iload_n 3) := by decide +kernel
theorem dx_170_169 : mj_at 170 169 = some (.iconst 1) := by decide +kernel
theorem dx_170_170 : mj_at 170 170 = some (.isub) := by decide +kernel
theorem dx_170_171 : mj_at 170 171 = some (.istore_n 3) := by decide +kernel
theorem dx_170_172 : mj_at 170 172 = some (.goto 58) := by decide +kernel
theorem dx_170_175 : mj_at 170 175 = some (.iload_n 3) := by decide +kernel
theorem dx_170_176 : mj_at 170 176 = some (.iconst 1) := by decide +kernel
theorem dx_170_177 : mj_at 170 177 = some (.isub) := by decide +kernel
theorem dx_170_178 : mj_at 170 178 = some (.istore_n 3) := by decide +kernel
theorem dx_170_179 : mj_at 170 179 = some (.iload 6) := by decide +kernel
theorem dx_170_181 : mj_at 170 181 = some (.iconst 5) := by decide +kernel
theorem dx_170_182 : mj_at 170 182 = some (.if_icmp .eq 10) := by decide +kernel
theorem dx_170_185 : mj_at 170 185 = some (.iload 6) := by decide +kernel
theorem dx_170_187 : mj_at 170 187 = some (.bipush 6) := by decide +kernel
theorem dx_170_189 : mj_at 170 189 = some (.if_icmp .ne 14) := by decide +kernel
theorem dx_170_192 : mj_at 170 192 = some (.aload_n 0) := by decide +kernel
theorem dx_170_193 : mj_at 170 193 = some (.getfield 59) := by decide +kernel
theorem dx_170_196 : mj_at 170 196 = some (.iload_n 3) := by decide +kernel
theorem dx_170_197 : mj_at 170 197 = some (.iaload) := by decide +kernel
theorem dx_170_198 : mj_at 170 198 = some (.ifCond .ne 5) := by decide +kernel
theorem dx_170_201 : mj_at 170 201 = some (.iconst 0) := by decide +kernel
theorem dx_170_202 : mj_at 170 202 = some (.ireturn) := by decide +kernel
theorem dx_170_203 : mj_at 170 203 = some (.aload_n 0) := by decide +kernel
theorem dx_170_204 : mj_at 170 204 = some (.getfield 59) := by decide +kernel
theorem dx_170_207 : mj_at 170 207 = some (.iload_n 3) := by decide +kernel
theorem dx_170_208 : mj_at 170 208 = some (.iconst 1) := by decide +kernel
theorem dx_170_209 : mj_at 170 209 = some (.isub) := by decide +kernel
theorem dx_170_210 : mj_at 170 210 = some (.iload 6) := by decide +kernel
theorem dx_170_212 : mj_at 170 212 = some (.aload_n 0) := by decide +kernel
theorem dx_170_213 : mj_at 170 213 = some (.getfield 59) := by decide +kernel
theorem dx_170_216 : mj_at 170 216 = some (.iload_n 3) := by decide +kernel
theorem dx_170_217 : mj_at 170 217 = some (.iconst 1) := by decide +kernel
theorem dx_170_218 : mj_at 170 218 = some (.isub) := by decide +kernel
theorem dx_170_219 : mj_at 170 219 = some (.iaload) := by decide +kernel
theorem dx_170_220 : mj_at 170 220 = some (.aload_n 0) := by decide +kernel
theorem dx_170_221 : mj_at 170 221 = some (.getfield 59) := by decide +kernel
theorem dx_170_224 : mj_at 170 224 = some (.iload_n 3) := by decide +kernel
theorem dx_170_225 : mj_at 170 225 = some (.iaload) := by decide +kernel
theorem dx_170_226 : mj_at 170 226 = some (.invokestatic 226) := by decide +kernel
theorem dx_170_229 : mj_at 170 229 = some (.iastore) := by decide +kernel
theorem dx_170_230 : mj_at 170 230 = some (.goto (-214)) := by decide +kernel
theorem dx_170_233 : mj_at 170 233 = some (.aload_n 0) := by decide +kernel
theorem dx_170_234 : mj_at 170 234 = some (.getfield 59) := by decide +kernel
theorem dx_170_237 : mj_at 170 237 = some (.iconst 0) := by decide +kernel
theorem dx_170_238 : mj_at 170 238 = some (.iaload) := by decide +kernel
theorem dx_170_239 : mj_at 170 239 = some (.ireturn) := by decide +kernel
set_option maxRecDepth 10000 in
theorem b_X9_comesTo {sl d : Nat} {M : mj_M} {x1 : Int32} {x2 : Int32}  : mj_C sl (d + 1) 170 [.ref 45, .int x1, .int x2] M = mj_E sl (d + 1) 170 16 [.ref 45, .int x1, .int x2, .int 0, .int ((260 : Int32) * (x1 / 260)), .int x1, .null, .null] [] M := by
  show mj_E sl (d + 1) 170 0 [.ref 45, .int x1, .int x2, .null, .null, .null, .null, .null] [] M = _
  refine (sx_iconst (v := 0) dx_170_0 rfl).trans ?_
  refine (sx_istore_n dx_170_1 (Nat.le_of_ble_eq_true rfl) rfl).trans ?_
  refine (sx_sipush (v := 260) dx_170_2 rfl).trans ?_
  refine (sx_iload_n dx_170_5 rfl).trans ?_
  refine (sx_sipush (v := 260) dx_170_6 rfl).trans ?_
  refine (sx_idiv dx_170_9 (by decide)).trans ?_
  refine (sx_imul dx_170_10).trans ?_
  refine (sx_istore dx_170_11 (Nat.le_of_ble_eq_true rfl) rfl).trans ?_
  refine (sx_iload_n dx_170_13 rfl).trans ?_
  refine (sx_istore dx_170_14 (Nat.le_of_ble_eq_true rfl) rfl).trans ?_
  rfl
set_option maxRecDepth 10000 in
theorem b_X9_comesTo_16 {sl d : Nat} {M : mj_M} {w1 : Value} {y2 : Int32} {y3 : Int32} {y4 : Int32} {y5 : Int32} {w6 : Value} {w7 : Value}  : mj_E sl (d + 1) 170 16 [.ref 45, w1, .int y2, .int y3, .int y4, .int y5, w6, w7] [] M = if y5 < y2 then (if mj_inB y5 260 = true then (if mj_inB y5 260 = true then (if (M 57 (y5 : Int32).toNatClampNeg) / 1048576 = 0 then (mj_E sl (d + 1) 170 63 [.ref 45, w1, .int y2, .int y3, .int y4, .int (y5 + 1), .int ((M 57 (y5 : Int32).toNatClampNeg) / 1048576), .int (mj_rm (M 57 (y5 : Int32).toNatClampNeg) 1048576)] [] M) else (if (M 57 (y5 : Int32).toNatClampNeg) / 1048576 = 1 then (mj_E sl (d + 1) 170 63 [.ref 45, w1, .int y2, .int y3, .int y4, .int (y5 + 1), .int ((M 57 (y5 : Int32).toNatClampNeg) / 1048576), .int (mj_rm (M 57 (y5 : Int32).toNatClampNeg) 1048576)] [] M) else (if (M 57 (y5 : Int32).toNatClampNeg) / 1048576 = 10 then (if mj_inB (y3 - 1) 260 = true then (if mj_inB (y3 - 1) 260 = true then (mj_E sl (d + 1) 170 16 [.ref 45, w1, .int y2, .int y3, .int y4, .int (y5 + 1), .int ((M 57 (y5 : Int32).toNatClampNeg) / 1048576), .int (mj_rm (M 57 (y5 : Int32).toNatClampNeg) 1048576)] [] (mj_st M 62 (y3 - 1 : Int32).toNatClampNeg ((1 : Int32) - (M 62 (y3 - 1 : Int32).toNatClampNeg)))) else none) else none) else (if (M 57 (y5 : Int32).toNatClampNeg) / 1048576 = 11 then (mj_E sl (d + 1) 170 135 [.ref 45, w1, .int y2, .int y3, .int y4, .int (y5 + 1), .int ((M 57 (y5 : Int32).toNatClampNeg) / 1048576), .int (mj_rm (M 57 (y5 : Int32).toNatClampNeg) 1048576)] [] M) else (if (M 57 (y5 : Int32).toNatClampNeg) / 1048576 = 12 then (mj_E sl (d + 1) 170 135 [.ref 45, w1, .int y2, .int y3, .int y4, .int (y5 + 1), .int ((M 57 (y5 : Int32).toNatClampNeg) / 1048576), .int (mj_rm (M 57 (y5 : Int32).toNatClampNeg) 1048576)] [] M) else (if (M 57 (y5 : Int32).toNatClampNeg) / 1048576 = 5 then (mj_E sl (d + 1) 170 192 [.ref 45, w1, .int y2, .int (y3 - 1), .int y4, .int (y5 + 1), .int ((M 57 (y5 : Int32).toNatClampNeg) / 1048576), .int (mj_rm (M 57 (y5 : Int32).toNatClampNeg) 1048576)] [] M) else (if (M 57 (y5 : Int32).toNatClampNeg) / 1048576 = 6 then (mj_E sl (d + 1) 170 192 [.ref 45, w1, .int y2, .int (y3 - 1), .int y4, .int (y5 + 1), .int ((M 57 (y5 : Int32).toNatClampNeg) / 1048576), .int (mj_rm (M 57 (y5 : Int32).toNatClampNeg) 1048576)] [] M) else (if mj_inB ((y3 - 1) - 1) 260 = true then (if mj_inB (y3 - 1) 260 = true then ((mj_C sl d 169 [.int ((M 57 (y5 : Int32).toNatClampNeg) / 1048576), .int (M 62 ((y3 - 1) - 1 : Int32).toNatClampNeg), .int (M 62 (y3 - 1 : Int32).toNatClampNeg)] M).bind (fun q1 => if mj_inB ((y3 - 1) - 1) 260 = true then (mj_E sl (d + 1) 170 16 [.ref 45, w1, .int y2, .int (y3 - 1), .int y4, .int (y5 + 1), .int ((M 57 (y5 : Int32).toNatClampNeg) / 1048576), .int (mj_rm (M 57 (y5 : Int32).toNatClampNeg) 1048576)] [] (mj_st q1.2 62 ((y3 - 1) - 1 : Int32).toNatClampNeg q1.1)) else none)) else none) else none)))))))) else none) else none) else (some ((M 62 0 : Int32), M)) := by
  refine (sx_iload dx_170_16 rfl).trans ?_
  refine (sx_iload_n dx_170_18 rfl).trans ?_
  refine (sx_icmp_ge (tgt := 233) dx_170_19 (by decide)).trans ?_
  refine mj_ite ?_ ?_
  · refine (sx_aload_n dx_170_22 rfl).trans ?_
    refine (sx_gfr dx_170_23 ow_170 fx_7_44 oc_45 rb_45_21).trans ?_
    refine (sx_iload dx_170_26 rfl).trans ?_
    refine (sx_ild dx_170_28 (by decide) ia_57).trans ?_
    refine mj_ite ?_ rfl
    refine (sx_ldc (v := 1048576) dx_170_29 ow_170 kx_7_157).trans ?_
    refine (sx_idiv dx_170_31 (by decide)).trans ?_
    refine (sx_istore dx_170_32 (Nat.le_of_ble_eq_true rfl) rfl).trans ?_
    refine (sx_aload_n dx_170_34 rfl).trans ?_
    refine (sx_gfr dx_170_35 ow_170 fx_7_44 oc_45 rb_45_21).trans ?_
    refine (sx_iload dx_170_38 rfl).trans ?_
    refine (sx_ild dx_170_40 (by decide) ia_57).trans ?_
    refine mj_ite ?_ rfl
    refine (sx_ldc (v := 1048576) dx_170_41 ow_170 kx_7_157).trans ?_
    refine (sx_irem dx_170_43 (by decide)).trans ?_
    refine (sx_istore dx_170_44 (Nat.le_of_ble_eq_true rfl) rfl).trans ?_
    refine (sx_iload dx_170_46 rfl).trans ?_
    refine (sx_iconst (v := 1) dx_170_48 rfl).trans ?_
    refine (sx_iadd dx_170_49).trans ?_
    refine (sx_istore dx_170_50 (Nat.le_of_ble_eq_true rfl) rfl).trans ?_
    refine (sx_iload dx_170_52 rfl).trans ?_
    refine (sx_if_eq (tgt := 63) dx_170_54 (by decide)).trans ?_
    refine mj_ite ?_ ?_
    · rfl
    · refine (sx_iload dx_170_57 rfl).trans ?_
      refine (sx_iconst (v := 1) dx_170_59 rfl).trans ?_
      refine (sx_icmp_ne (tgt := 93) dx_170_60 (by decide)).trans ?_
      refine mj_ite ?_ ?_
      · rfl
      · refine (sx_iload dx_170_93 rfl).trans ?_
        refine (sx_bipush (v := 10) dx_170_95 rfl).trans ?_
        refine (sx_icmp_ne (tgt := 121) dx_170_97 (by decide)).trans ?_
        refine mj_ite ?_ ?_
        · refine (sx_aload_n dx_170_100 rfl).trans ?_
          refine (sx_gfr dx_170_101 ow_170 fx_7_59 oc_45 rb_45_26).trans ?_
          refine (sx_iload_n dx_170_104 rfl).trans ?_
          refine (sx_iconst (v := 1) dx_170_105 rfl).trans ?_
          refine (sx_isub dx_170_106).trans ?_
          refine (sx_iconst (v := 1) dx_170_107 rfl).trans ?_
          refine (sx_aload_n dx_170_108 rfl).trans ?_
          refine (sx_gfr dx_170_109 ow_170 fx_7_59 oc_45 rb_45_26).trans ?_
          refine (sx_iload_n dx_170_112 rfl).trans ?_
          refine (sx_iconst (v := 1) dx_170_113 rfl).trans ?_
          refine (sx_isub dx_170_114).trans ?_
          refine (sx_ild dx_170_115 (by decide) ia_62).trans ?_
          refine mj_ite ?_ rfl
          refine (sx_isub dx_170_116).trans ?_
          refine (sx_ist dx_170_117 ia_62).trans ?_
          refine mj_ite ?_ rfl
          refine (sx_goto (tgt := 230) dx_170_118 (by decide)).trans ?_
          refine (sx_goto (tgt := 16) dx_170_230 (by decide)).trans ?_
          rfl
        · refine (sx_iload dx_170_121 rfl).trans ?_
          refine (sx_bipush (v := 11) dx_170_123 rfl).trans ?_
          refine (sx_icmp_eq (tgt := 135) dx_170_125 (by decide)).trans ?_
          refine mj_ite ?_ ?_
          · rfl
          · refine (sx_iload dx_170_128 rfl).trans ?_
            refine (sx_bipush (v := 12) dx_170_130 rfl).trans ?_
            refine (sx_icmp_ne (tgt := 175) dx_170_132 (by decide)).trans ?_
            refine mj_ite ?_ ?_
            · rfl
            · refine (sx_iload_n dx_170_175 rfl).trans ?_
              refine (sx_iconst (v := 1) dx_170_176 rfl).trans ?_
              refine (sx_isub dx_170_177).trans ?_
              refine (sx_istore_n dx_170_178 (Nat.le_of_ble_eq_true rfl) rfl).trans ?_
              refine (sx_iload dx_170_179 rfl).trans ?_
              refine (sx_iconst (v := 5) dx_170_181 rfl).trans ?_
              refine (sx_icmp_eq (tgt := 192) dx_170_182 (by decide)).trans ?_
              refine mj_ite ?_ ?_
              · rfl
              · refine (sx_iload dx_170_185 rfl).trans ?_
                refine (sx_bipush (v := 6) dx_170_187 rfl).trans ?_
                refine (sx_icmp_ne (tgt := 203) dx_170_189 (by decide)).trans ?_
                refine mj_ite ?_ ?_
                · rfl
                · refine (sx_aload_n dx_170_203 rfl).trans ?_
                  refine (sx_gfr dx_170_204 ow_170 fx_7_59 oc_45 rb_45_26).trans ?_
                  refine (sx_iload_n dx_170_207 rfl).trans ?_
                  refine (sx_iconst (v := 1) dx_170_208 rfl).trans ?_
                  refine (sx_isub dx_170_209).trans ?_
                  refine (sx_iload dx_170_210 rfl).trans ?_
                  refine (sx_aload_n dx_170_212 rfl).trans ?_
                  refine (sx_gfr dx_170_213 ow_170 fx_7_59 oc_45 rb_45_26).trans ?_
                  refine (sx_iload_n dx_170_216 rfl).trans ?_
                  refine (sx_iconst (v := 1) dx_170_217 rfl).trans ?_
                  refine (sx_isub dx_170_218).trans ?_
                  refine (sx_ild dx_170_219 (by decide) ia_62).trans ?_
                  refine mj_ite ?_ rfl
                  refine (sx_aload_n dx_170_220 rfl).trans ?_
                  refine (sx_gfr dx_170_221 ow_170 fx_7_59 oc_45 rb_45_26).trans ?_
                  refine (sx_iload_n dx_170_224 rfl).trans ?_
                  refine (sx_ild dx_170_225 (by decide) ia_62).trans ?_
                  refine mj_ite ?_ rfl
                  refine (sx_s3i dx_170_226 ow_170 cx_7_226 (Nat.le_of_ble_eq_true rfl)).trans ?_
                  refine mj_bnd (fun q1 => ?_)
                  refine (sx_ist dx_170_229 ia_62).trans ?_
                  refine mj_ite ?_ rfl
                  refine (sx_goto (tgt := 16) dx_170_230 (by decide)).trans ?_
                  rfl
  · refine (sx_aload_n dx_170_233 rfl).trans ?_
    refine (sx_gfr dx_170_234 ow_170 fx_7_59 oc_45 rb_45_26).trans ?_
    refine (sx_iconst (v := 0) dx_170_237 rfl).trans ?_
    refine (sx_ildk (k := 0) dx_170_238 (by decide) ia_62 (by decide) (by decide)).trans ?_
    exact sx_reti dx_170_239 rt_170
set_option maxRecDepth 10000 in
theorem b_X9_comesTo_63 {sl d : Nat} {M : mj_M} {w1 : Value} {y2 : Int32} {y3 : Int32} {y4 : Int32} {y5 : Int32} {y6 : Int32} {y7 : Int32}  : mj_E sl (d + 1) 170 63 [.ref 45, w1, .int y2, .int y3, .int y4, .int y5, .int y6, .int y7] [] M = if y6 = 0 then (if mj_inB y3 260 = true then (mj_E sl (d + 1) 170 16 [.ref 45, w1, .int y2, .int (y3 + 1), .int y4, .int y5, .int y6, .int y7] [] (mj_st M 62 (y3 : Int32).toNatClampNeg y7)) else none) else (if mj_inB y7 9 = true then (if mj_inB y3 260 = true then (mj_E sl (d + 1) 170 16 [.ref 45, w1, .int y2, .int (y3 + 1), .int y4, .int y5, .int y6, .int y7] [] (mj_st M 62 (y3 : Int32).toNatClampNeg (M 63 (y7 : Int32).toNatClampNeg))) else none) else none) := by
  refine (sx_aload_n dx_170_63 rfl).trans ?_
  refine (sx_gfr dx_170_64 ow_170 fx_7_59 oc_45 rb_45_26).trans ?_
  refine (sx_iload_n dx_170_67 rfl).trans ?_
  refine (sx_iload dx_170_68 rfl).trans ?_
  refine (sx_if_ne (tgt := 78) dx_170_70 (by decide)).trans ?_
  refine mj_ite ?_ ?_
  · refine (sx_iload dx_170_73 rfl).trans ?_
    refine (sx_goto (tgt := 85) dx_170_75 (by decide)).trans ?_
    refine (sx_ist dx_170_85 ia_62).trans ?_
    refine mj_ite ?_ rfl
    refine (sx_iload_n dx_170_86 rfl).trans ?_
    refine (sx_iconst (v := 1) dx_170_87 rfl).trans ?_
    refine (sx_iadd dx_170_88).trans ?_
    refine (sx_istore_n dx_170_89 (Nat.le_of_ble_eq_true rfl) rfl).trans ?_
    refine (sx_goto (tgt := 230) dx_170_90 (by decide)).trans ?_
    refine (sx_goto (tgt := 16) dx_170_230 (by decide)).trans ?_
    rfl
  · refine (sx_aload_n dx_170_78 rfl).trans ?_
    refine (sx_gfr dx_170_79 ow_170 fx_7_62 oc_45 rb_45_27).trans ?_
    refine (sx_iload dx_170_82 rfl).trans ?_
    refine (sx_ild dx_170_84 (by decide) ia_63).trans ?_
    refine mj_ite ?_ rfl
    refine (sx_ist dx_170_85 ia_62).trans ?_
    refine mj_ite ?_ rfl
    refine (sx_iload_n dx_170_86 rfl).trans ?_
    refine (sx_iconst (v := 1) dx_170_87 rfl).trans ?_
    refine (sx_iadd dx_170_88).trans ?_
    refine (sx_istore_n dx_170_89 (Nat.le_of_ble_eq_true rfl) rfl).trans ?_
    refine (sx_goto (tgt := 230) dx_170_90 (by decide)).trans ?_
    refine (sx_goto (tgt := 16) dx_170_230 (by decide)).trans ?_
    rfl
set_option maxRecDepth 10000 in
theorem b_X9_comesTo_135 {sl d : Nat} {M : mj_M} {w1 : Value} {y2 : Int32} {y3 : Int32} {y4 : Int32} {y5 : Int32} {y6 : Int32} {y7 : Int32}  : mj_E sl (d + 1) 170 135 [.ref 45, w1, .int y2, .int y3, .int y4, .int y5, .int y6, .int y7] [] M = if mj_inB (y3 - 1) 260 = true then (if y6 = 12 then (if M 62 (y3 - 1 : Int32).toNatClampNeg = 1 then (mj_E sl (d + 1) 170 16 [.ref 45, w1, .int y2, .int y3, .int y4, .int (y4 + y7), .int y6, .int y7] [] M) else (mj_E sl (d + 1) 170 16 [.ref 45, w1, .int y2, .int (y3 - 1), .int y4, .int y5, .int y6, .int y7] [] M)) else (if M 62 (y3 - 1 : Int32).toNatClampNeg = 0 then (mj_E sl (d + 1) 170 16 [.ref 45, w1, .int y2, .int y3, .int y4, .int (y4 + y7), .int y6, .int y7] [] M) else (mj_E sl (d + 1) 170 16 [.ref 45, w1, .int y2, .int (y3 - 1), .int y4, .int y5, .int y6, .int y7] [] M))) else none := by
  refine (sx_aload_n dx_170_135 rfl).trans ?_
  refine (sx_gfr dx_170_136 ow_170 fx_7_59 oc_45 rb_45_26).trans ?_
  refine (sx_iload_n dx_170_139 rfl).trans ?_
  refine (sx_iconst (v := 1) dx_170_140 rfl).trans ?_
  refine (sx_isub dx_170_141).trans ?_
  refine (sx_ild dx_170_142 (by decide) ia_62).trans ?_
  refine mj_ite ?_ rfl
  refine (sx_iload dx_170_143 rfl).trans ?_
  refine (sx_bipush (v := 12) dx_170_145 rfl).trans ?_
  refine (sx_icmp_ne (tgt := 154) dx_170_147 (by decide)).trans ?_
  refine mj_ite ?_ ?_
  · refine (sx_iconst (v := 1) dx_170_150 rfl).trans ?_
    refine (sx_goto (tgt := 155) dx_170_151 (by decide)).trans ?_
    refine (sx_icmp_ne (tgt := 168) dx_170_155 (by decide)).trans ?_
    refine mj_ite ?_ ?_
    · refine (sx_iload dx_170_158 rfl).trans ?_
      refine (sx_iload dx_170_160 rfl).trans ?_
      refine (sx_iadd dx_170_162).trans ?_
      refine (sx_istore dx_170_163 (Nat.le_of_ble_eq_true rfl) rfl).trans ?_
      refine (sx_goto (tgt := 230) dx_170_165 (by decide)).trans ?_
      refine (sx_goto (tgt := 16) dx_170_230 (by decide)).trans ?_
      rfl
    · refine (sx_iload_n dx_170_168 rfl).trans ?_
      refine (sx_iconst (v := 1) dx_170_169 rfl).trans ?_
      refine (sx_isub dx_170_170).trans ?_
      refine (sx_istore_n dx_170_171 (Nat.le_of_ble_eq_true rfl) rfl).trans ?_
      refine (sx_goto (tgt := 230) dx_170_172 (by decide)).trans ?_
      refine (sx_goto (tgt := 16) dx_170_230 (by decide)).trans ?_
      rfl
  · refine (sx_iconst (v := 0) dx_170_154 rfl).trans ?_
    refine (sx_icmp_ne (tgt := 168) dx_170_155 (by decide)).trans ?_
    refine mj_ite ?_ ?_
    · refine (sx_iload dx_170_158 rfl).trans ?_
      refine (sx_iload dx_170_160 rfl).trans ?_
      refine (sx_iadd dx_170_162).trans ?_
      refine (sx_istore dx_170_163 (Nat.le_of_ble_eq_true rfl) rfl).trans ?_
      refine (sx_goto (tgt := 230) dx_170_165 (by decide)).trans ?_
      refine (sx_goto (tgt := 16) dx_170_230 (by decide)).trans ?_
      rfl
    · refine (sx_iload_n dx_170_168 rfl).trans ?_
      refine (sx_iconst (v := 1) dx_170_169 rfl).trans ?_
      refine (sx_isub dx_170_170).trans ?_
      refine (sx_istore_n dx_170_171 (Nat.le_of_ble_eq_true rfl) rfl).trans ?_
      refine (sx_goto (tgt := 230) dx_170_172 (by decide)).trans ?_
      refine (sx_goto (tgt := 16) dx_170_230 (by decide)).trans ?_
      rfl
set_option maxRecDepth 10000 in
theorem b_X9_comesTo_192 {sl d : Nat} {M : mj_M} {w1 : Value} {y2 : Int32} {y3 : Int32} {y4 : Int32} {y5 : Int32} {y6 : Int32} {w7 : Value}  : mj_E sl (d + 1) 170 192 [.ref 45, w1, .int y2, .int y3, .int y4, .int y5, .int y6, w7] [] M = if mj_inB y3 260 = true then (if M 62 (y3 : Int32).toNatClampNeg = 0 then (some ((0 : Int32), M)) else (if mj_inB (y3 - 1) 260 = true then (if mj_inB y3 260 = true then ((mj_C sl d 169 [.int y6, .int (M 62 (y3 - 1 : Int32).toNatClampNeg), .int (M 62 (y3 : Int32).toNatClampNeg)] M).bind (fun q1 => if mj_inB (y3 - 1) 260 = true then (mj_E sl (d + 1) 170 16 [.ref 45, w1, .int y2, .int y3, .int y4, .int y5, .int y6, w7] [] (mj_st q1.2 62 (y3 - 1 : Int32).toNatClampNeg q1.1)) else none)) else none) else none)) else none := by
  refine (sx_aload_n dx_170_192 rfl).trans ?_
  refine (sx_gfr dx_170_193 ow_170 fx_7_59 oc_45 rb_45_26).trans ?_
  refine (sx_iload_n dx_170_196 rfl).trans ?_
  refine (sx_ild dx_170_197 (by decide) ia_62).trans ?_
  refine mj_ite ?_ rfl
  refine (sx_if_ne (tgt := 203) dx_170_198 (by decide)).trans ?_
  refine mj_ite ?_ ?_
  · refine (sx_iconst (v := 0) dx_170_201 rfl).trans ?_
    exact sx_reti dx_170_202 rt_170
  · refine (sx_aload_n dx_170_203 rfl).trans ?_
    refine (sx_gfr dx_170_204 ow_170 fx_7_59 oc_45 rb_45_26).trans ?_
    refine (sx_iload_n dx_170_207 rfl).trans ?_
    refine (sx_iconst (v := 1) dx_170_208 rfl).trans ?_
    refine (sx_isub dx_170_209).trans ?_
    refine (sx_iload dx_170_210 rfl).trans ?_
    refine (sx_aload_n dx_170_212 rfl).trans ?_
    refine (sx_gfr dx_170_213 ow_170 fx_7_59 oc_45 rb_45_26).trans ?_
    refine (sx_iload_n dx_170_216 rfl).trans ?_
    refine (sx_iconst (v := 1) dx_170_217 rfl).trans ?_
    refine (sx_isub dx_170_218).trans ?_
    refine (sx_ild dx_170_219 (by decide) ia_62).trans ?_
    refine mj_ite ?_ rfl
    refine (sx_aload_n dx_170_220 rfl).trans ?_
    refine (sx_gfr dx_170_221 ow_170 fx_7_59 oc_45 rb_45_26).trans ?_
    refine (sx_iload_n dx_170_224 rfl).trans ?_
    refine (sx_ild dx_170_225 (by decide) ia_62).trans ?_
    refine mj_ite ?_ rfl
    refine (sx_s3i dx_170_226 ow_170 cx_7_226 (Nat.le_of_ble_eq_true rfl)).trans ?_
    refine mj_bnd (fun q1 => ?_)
    refine (sx_ist dx_170_229 ia_62).trans ?_
    refine mj_ite ?_ rfl
    refine (sx_goto (tgt := 16) dx_170_230 (by decide)).trans ?_
    rfl
theorem dx_171_0 : mj_at 171 0 = some (.iconst 0) := by decide +kernel
theorem dx_171_1 : mj_at 171 1 = some (.istore_n 3) := by decide +kernel
theorem dx_171_2 : mj_at 171 2 = some (.iload_n 3) := by decide +kernel
theorem dx_171_3 : mj_at 171 3 = some (.aload_n 0) := by decide +kernel
theorem dx_171_4 : mj_at 171 4 = some (.getfield 223) := by decide +kernel
theorem dx_171_7 : mj_at 171 7 = some (.if_icmp .ge 82) := by decide +kernel
theorem dx_171_10 : mj_at 171 10 = some (.aload_n 0) := by decide +kernel
theorem dx_171_11 : mj_at 171 11 = some (.getfield 47) := by decide +kernel
theorem dx_171_14 : mj_at 171 14 = some (.iload_n 3) := by decide +kernel
theorem dx_171_15 : mj_at 171 15 = some (.iaload) := by decide +kernel
theorem dx_171_16 : mj_at 171 16 = some (.iload_n 1) := by decide +kernel
theorem dx_171_17 : mj_at 171 17 = some (.if_icmp .ne 66) := by decide +kernel
theorem dx_171_20 : mj_at 171 20 = some (.aload_n 0) := by decide +kernel
theorem dx_171_21 : mj_at 171 21 = some (.aload_n 0) := by decide +kernel
theorem dx_171_22 : mj_at 171 22 = some (.getfield 53) := by decide +kernel
theorem dx_171_25 : mj_at 171 25 = some (.iload_n 3) := by decide +kernel
theorem dx_171_26 : mj_at 171 26 = some (.iaload) := by decide +kernel
theorem dx_171_27 : mj_at 171 27 = some (.aload_n 0) := by decide +kernel
theorem dx_171_28 : mj_at 171 28 = some (.getfield 56) := by decide +kernel
theorem dx_171_31 : mj_at 171 31 = some (.iload_n 3) := by decide +kernel
theorem dx_171_32 : mj_at 171 32 = some (.iaload) := by decide +kernel
theorem dx_171_33 : mj_at 171 33 = some (.invokevirtual 230) := by decide +kernel
theorem dx_171_36 : mj_at 171 36 = some (.iconst 1) := by decide +kernel
theorem dx_171_37 : mj_at 171 37 = some (.if_icmp .eq 6) := by decide +kernel
theorem dx_171_40 : mj_at 171 40 = some (.goto 43) := by decide +kernel
theorem dx_171_43 : mj_at 171 43 = some (.aload_n 0) := by decide +kernel
theorem dx_171_44 : mj_at 171 44 = some (.aload_n 0) := by decide +kernel
theorem dx_171_45 : mj_at 171 45 = some (.getfield 50) := by decide +kernel
theorem dx_171_48 : mj_at 171 48 = some (.iload_n 3) := by decide +kernel
theorem dx_171_49 : mj_at 171 49 = some (.iaload) := by decide +kernel
theorem dx_171_50 : mj_at 171 50 = some (.aload_n 0) := by decide +kernel
theorem dx_171_51 : mj_at 171 51 = some (.getfield 53) := by decide +kernel
theorem dx_171_54 : mj_at 171 54 = some (.iload_n 3) := by decide +kernel
theorem dx_171_55 : mj_at 171 55 = some (.iaload) := by decide +kernel
theorem dx_171_56 : mj_at 171 56 = some (.invokevirtual 230) := by decide +kernel
theorem dx_171_59 : mj_at 171 59 = some (.istore 4) := by decide +kernel
theorem dx_171_61 : mj_at 171 61 = some (.iload 4) := by decide +kernel
theorem dx_171_63 : mj_at 171 63 = some (.ifCond .ge 7) := by decide +kernel
theorem dx_171_66 : mj_at 171 66 = some (.iconst 0) := by decide +kernel
theorem dx_171_67 : mj_at 171 67 = some (.goto 15) := by decide +kernel
theorem dx_171_70 : mj_at 171 70 = some (.iload 4) := by decide +kernel
theorem dx_171_72 : mj_at 171 72 = some (.iload_n 2) := by decide +kernel
theorem dx_171_73 : mj_at 171 73 = some (.if_icmp .le 7) := by decide +kernel
theorem dx_171_76 : mj_at 171 76 = some (.iload_n 2) := by decide +kernel
theorem dx_171_77 : mj_at 171 77 = some (.goto 5) := by decide +kernel
theorem dx_171_80 : mj_at 171 80 = some (.iload 4) := by decide +kernel
theorem dx_171_82 : mj_at 171 82 = some (.ireturn) := by decide +kernel
theorem dx_171_83 : mj_at 171 83 = some (.iinc 3 1) := by decide +kernel
theorem dx_171_86 : mj_at 171 86 = some (.goto (-84)) := by decide +kernel
theorem dx_171_89 : mj_at 171 89 = some (.iconst 0) := by decide +kernel
theorem dx_171_90 : mj_at 171 90 = some (.ireturn) := by decide +kernel
set_option maxRecDepth 10000 in
theorem b_X9_byLaw {sl d : Nat} {M : mj_M} {x1 : Int32} {x2 : Int32}  : mj_C sl (d + 1) 171 [.ref 45, .int x1, .int x2] M = mj_E sl (d + 1) 171 2 [.ref 45, .int x1, .int x2, .int 0, .null] [] M := by
  show mj_E sl (d + 1) 171 0 [.ref 45, .int x1, .int x2, .null, .null] [] M = _
  refine (sx_iconst (v := 0) dx_171_0 rfl).trans ?_
  refine (sx_istore_n dx_171_1 (Nat.le_of_ble_eq_true rfl) rfl).trans ?_
  rfl
set_option maxRecDepth 10000 in
theorem b_X9_byLaw_2 {sl d : Nat} {M : mj_M} {y1 : Int32} {y2 : Int32} {y3 : Int32} {w4 : Value}  : mj_E sl (d + 1) 171 2 [.ref 45, .int y1, .int y2, .int y3, w4] [] M = if y3 < (M 45 14) then (if mj_inB y3 16 = true then (if M 58 (y3 : Int32).toNatClampNeg = y1 then (if mj_inB y3 16 = true then (if mj_inB y3 16 = true then ((mj_C sl d 170 [.ref 45, .int (M 60 (y3 : Int32).toNatClampNeg), .int (M 61 (y3 : Int32).toNatClampNeg)] M).bind (fun q1 => if q1.1 = 1 then (if mj_inB y3 16 = true then (if mj_inB y3 16 = true then ((mj_C sl d 170 [.ref 45, .int (q1.2 59 (y3 : Int32).toNatClampNeg), .int (q1.2 60 (y3 : Int32).toNatClampNeg)] q1.2).bind (fun q2 => if q2.1 < 0 then (some ((0 : Int32), q2.2)) else (if q2.1 ≤ y2 then (some ((q2.1 : Int32), q2.2)) else (some ((y2 : Int32), q2.2))))) else none) else none) else (mj_E sl (d + 1) 171 2 [.ref 45, .int y1, .int y2, .int (y3 + 1), w4] [] q1.2))) else none) else none) else (mj_E sl (d + 1) 171 2 [.ref 45, .int y1, .int y2, .int (y3 + 1), w4] [] M)) else none) else (some ((0 : Int32), M)) := by
  refine (sx_iload_n dx_171_2 rfl).trans ?_
  refine (sx_aload_n dx_171_3 rfl).trans ?_
  refine (sx_gfi dx_171_4 ow_171 fx_7_223 (by decide) oc_45).trans ?_
  refine (sx_icmp_ge (tgt := 89) dx_171_7 (by decide)).trans ?_
  refine mj_ite ?_ ?_
  · refine (sx_aload_n dx_171_10 rfl).trans ?_
    refine (sx_gfr dx_171_11 ow_171 fx_7_47 oc_45 rb_45_22).trans ?_
    refine (sx_iload_n dx_171_14 rfl).trans ?_
    refine (sx_ild dx_171_15 (by decide) ia_58).trans ?_
    refine mj_ite ?_ rfl
    refine (sx_iload_n dx_171_16 rfl).trans ?_
    refine (sx_icmp_ne (tgt := 83) dx_171_17 (by decide)).trans ?_
    refine mj_ite ?_ ?_
    · refine (sx_aload_n dx_171_20 rfl).trans ?_
      refine (sx_aload_n dx_171_21 rfl).trans ?_
      refine (sx_gfr dx_171_22 ow_171 fx_7_53 oc_45 rb_45_24).trans ?_
      refine (sx_iload_n dx_171_25 rfl).trans ?_
      refine (sx_ild dx_171_26 (by decide) ia_60).trans ?_
      refine mj_ite ?_ rfl
      refine (sx_aload_n dx_171_27 rfl).trans ?_
      refine (sx_gfr dx_171_28 ow_171 fx_7_56 oc_45 rb_45_25).trans ?_
      refine (sx_iload_n dx_171_31 rfl).trans ?_
      refine (sx_ild dx_171_32 (by decide) ia_61).trans ?_
      refine mj_ite ?_ rfl
      refine (sx_v2i dx_171_33 ow_171 cx_7_230 oc_45 (Nat.le_of_ble_eq_true rfl)).trans ?_
      refine mj_bnd (fun q1 => ?_)
      refine (sx_iconst (v := 1) dx_171_36 rfl).trans ?_
      refine (sx_icmp_eq (tgt := 43) dx_171_37 (by decide)).trans ?_
      refine mj_ite ?_ ?_
      · refine (sx_aload_n dx_171_43 rfl).trans ?_
        refine (sx_aload_n dx_171_44 rfl).trans ?_
        refine (sx_gfr dx_171_45 ow_171 fx_7_50 oc_45 rb_45_23).trans ?_
        refine (sx_iload_n dx_171_48 rfl).trans ?_
        refine (sx_ild dx_171_49 (by decide) ia_59).trans ?_
        refine mj_ite ?_ rfl
        refine (sx_aload_n dx_171_50 rfl).trans ?_
        refine (sx_gfr dx_171_51 ow_171 fx_7_53 oc_45 rb_45_24).trans ?_
        refine (sx_iload_n dx_171_54 rfl).trans ?_
        refine (sx_ild dx_171_55 (by decide) ia_60).trans ?_
        refine mj_ite ?_ rfl
        refine (sx_v2i dx_171_56 ow_171 cx_7_230 oc_45 (Nat.le_of_ble_eq_true rfl)).trans ?_
        refine mj_bnd (fun q2 => ?_)
        refine (sx_istore dx_171_59 (Nat.le_of_ble_eq_true rfl) rfl).trans ?_
        refine (sx_iload dx_171_61 rfl).trans ?_
        refine (sx_if_ge (tgt := 70) dx_171_63 (by decide)).trans ?_
        refine mj_ite ?_ ?_
        · refine (sx_iconst (v := 0) dx_171_66 rfl).trans ?_
          refine (sx_goto (tgt := 82) dx_171_67 (by decide)).trans ?_
          exact sx_reti dx_171_82 rt_171
        · refine (sx_iload dx_171_70 rfl).trans ?_
          refine (sx_iload_n dx_171_72 rfl).trans ?_
          refine (sx_icmp_le (tgt := 80) dx_171_73 (by decide)).trans ?_
          refine mj_ite ?_ ?_
          · refine (sx_iload dx_171_80 rfl).trans ?_
            exact sx_reti dx_171_82 rt_171
          · refine (sx_iload_n dx_171_76 rfl).trans ?_
            refine (sx_goto (tgt := 82) dx_171_77 (by decide)).trans ?_
            exact sx_reti dx_171_82 rt_171
      · refine (sx_goto (tgt := 83) dx_171_40 (by decide)).trans ?_
        refine (sx_iinc (v := 1) dx_171_83 rfl rfl rfl).trans ?_
        refine (sx_goto (tgt := 2) dx_171_86 (by decide)).trans ?_
        rfl
    · refine (sx_iinc (v := 1) dx_171_83 rfl rfl rfl).trans ?_
      refine (sx_goto (tgt := 2) dx_171_86 (by decide)).trans ?_
      rfl
  · refine (sx_iconst (v := 0) dx_171_89 rfl).trans ?_
    exact sx_reti dx_171_90 rt_171
theorem dx_172_0 : mj_at 172 0 = some (.iconst 0) := by decide +kernel
theorem dx_172_1 : mj_at 172 1 = some (.istore_n 2) := by decide +kernel
theorem dx_172_2 : mj_at 172 2 = some (.iload_n 2) := by decide +kernel
theorem dx_172_3 : mj_at 172 3 = some (.aload_n 0) := by decide +kernel
theorem dx_172_4 : mj_at 172 4 = some (.getfield 223) := by decide +kernel
theorem dx_172_7 : mj_at 172 7 = some (.if_icmp .ge 41) := by decide +kernel
theorem dx_172_10 : mj_at 172 10 = some (.aload_n 0) := by decide +kernel
theorem dx_172_11 : mj_at 172 11 = some (.getfield 47) := by decide +kernel
theorem dx_172_14 : mj_at 172 14 = some (.iload_n 2) := by decide +kernel
theorem dx_172_15 : mj_at 172 15 = some (.iaload) := by decide +kernel
theorem dx_172_16 : mj_at 172 16 = some (.iload_n 1) := by decide +kernel
theorem dx_172_17 : mj_at 172 17 = some (.if_icmp .ne 25) := by decide +kernel
theorem dx_172_20 : mj_at 172 20 = some (.aload_n 0) := by decide +kernel
theorem dx_172_21 : mj_at 172 21 = some (.aload_n 0) := by decide +kernel
theorem dx_172_22 : mj_at 172 22 = some (.getfield 53) := by decide +kernel
theorem dx_172_25 : mj_at 172 25 = some (.iload_n 2) := by decide +kernel
theorem dx_172_26 : mj_at 172 26 = some (.iaload) := by decide +kernel
theorem dx_172_27 : mj_at 172 27 = some (.aload_n 0) := by decide +kernel
theorem dx_172_28 : mj_at 172 28 = some (.getfield 56) := by decide +kernel
theorem dx_172_31 : mj_at 172 31 = some (.iload_n 2) := by decide +kernel
theorem dx_172_32 : mj_at 172 32 = some (.iaload) := by decide +kernel
theorem dx_172_33 : mj_at 172 33 = some (.invokevirtual 230) := by decide +kernel
theorem dx_172_36 : mj_at 172 36 = some (.iconst 1) := by decide +kernel
theorem dx_172_37 : mj_at 172 37 = some (.if_icmp .ne 5) := by decide +kernel
theorem dx_172_40 : mj_at 172 40 = some (.iconst 1) := by decide +kernel
theorem dx_172_41 : mj_at 172 41 = some (.ireturn) := by decide +kernel
theorem dx_172_42 : mj_at 172 42 = some (.iinc 2 1) := by decide +kernel
theorem dx_172_45 : mj_at 172 45 = some (.goto (-43)) := by decide +kernel
theorem dx_172_48 : mj_at 172 48 = some (.iconst 0) := by decide +kernel
theorem dx_172_49 : mj_at 172 49 = some (.ireturn) := by decide +kernel
set_option maxRecDepth 10000 in
theorem b_X9_holdsAny {sl d : Nat} {M : mj_M} {x1 : Int32}  : mj_C sl (d + 1) 172 [.ref 45, .int x1] M = mj_E sl (d + 1) 172 2 [.ref 45, .int x1, .int 0] [] M := by
  show mj_E sl (d + 1) 172 0 [.ref 45, .int x1, .null] [] M = _
  refine (sx_iconst (v := 0) dx_172_0 rfl).trans ?_
  refine (sx_istore_n dx_172_1 (Nat.le_of_ble_eq_true rfl) rfl).trans ?_
  rfl
set_option maxRecDepth 10000 in
theorem b_X9_holdsAny_2 {sl d : Nat} {M : mj_M} {y1 : Int32} {y2 : Int32}  : mj_E sl (d + 1) 172 2 [.ref 45, .int y1, .int y2] [] M = if y2 < (M 45 14) then (if mj_inB y2 16 = true then (if M 58 (y2 : Int32).toNatClampNeg = y1 then (if mj_inB y2 16 = true then (if mj_inB y2 16 = true then ((mj_C sl d 170 [.ref 45, .int (M 60 (y2 : Int32).toNatClampNeg), .int (M 61 (y2 : Int32).toNatClampNeg)] M).bind (fun q1 => if q1.1 = 1 then (some ((1 : Int32), q1.2)) else (mj_E sl (d + 1) 172 2 [.ref 45, .int y1, .int (y2 + 1)] [] q1.2))) else none) else none) else (mj_E sl (d + 1) 172 2 [.ref 45, .int y1, .int (y2 + 1)] [] M)) else none) else (some ((0 : Int32), M)) := by
  refine (sx_iload_n dx_172_2 rfl).trans ?_
  refine (sx_aload_n dx_172_3 rfl).trans ?_
  refine (sx_gfi dx_172_4 ow_172 fx_7_223 (by decide) oc_45).trans ?_
  refine (sx_icmp_ge (tgt := 48) dx_172_7 (by decide)).trans ?_
  refine mj_ite ?_ ?_
  · refine (sx_aload_n dx_172_10 rfl).trans ?_
    refine (sx_gfr dx_172_11 ow_172 fx_7_47 oc_45 rb_45_22).trans ?_
    refine (sx_iload_n dx_172_14 rfl).trans ?_
    refine (sx_ild dx_172_15 (by decide) ia_58).trans ?_
    refine mj_ite ?_ rfl
    refine (sx_iload_n dx_172_16 rfl).trans ?_
    refine (sx_icmp_ne (tgt := 42) dx_172_17 (by decide)).trans ?_
    refine mj_ite ?_ ?_
    · refine (sx_aload_n dx_172_20 rfl).trans ?_
      refine (sx_aload_n dx_172_21 rfl).trans ?_
      refine (sx_gfr dx_172_22 ow_172 fx_7_53 oc_45 rb_45_24).trans ?_
      refine (sx_iload_n dx_172_25 rfl).trans ?_
      refine (sx_ild dx_172_26 (by decide) ia_60).trans ?_
      refine mj_ite ?_ rfl
      refine (sx_aload_n dx_172_27 rfl).trans ?_
      refine (sx_gfr dx_172_28 ow_172 fx_7_56 oc_45 rb_45_25).trans ?_
      refine (sx_iload_n dx_172_31 rfl).trans ?_
      refine (sx_ild dx_172_32 (by decide) ia_61).trans ?_
      refine mj_ite ?_ rfl
      refine (sx_v2i dx_172_33 ow_172 cx_7_230 oc_45 (Nat.le_of_ble_eq_true rfl)).trans ?_
      refine mj_bnd (fun q1 => ?_)
      refine (sx_iconst (v := 1) dx_172_36 rfl).trans ?_
      refine (sx_icmp_ne (tgt := 42) dx_172_37 (by decide)).trans ?_
      refine mj_ite ?_ ?_
      · refine (sx_iconst (v := 1) dx_172_40 rfl).trans ?_
        exact sx_retz dx_172_41 rt_172 (by decide)
      · refine (sx_iinc (v := 1) dx_172_42 rfl rfl rfl).trans ?_
        refine (sx_goto (tgt := 2) dx_172_45 (by decide)).trans ?_
        rfl
    · refine (sx_iinc (v := 1) dx_172_42 rfl rfl rfl).trans ?_
      refine (sx_goto (tgt := 2) dx_172_45 (by decide)).trans ?_
      rfl
  · refine (sx_iconst (v := 0) dx_172_48 rfl).trans ?_
    exact sx_retz dx_172_49 rt_172 (by decide)
theorem dx_173_0 : mj_at 173 0 = some (.aload_n 0) := by decide +kernel
theorem dx_173_1 : mj_at 173 1 = some (.invokevirtual 137) := by decide +kernel
theorem dx_173_4 : mj_at 173 4 = some (.bipush 50) := by decide +kernel
theorem dx_173_6 : mj_at 173 6 = some (.bipush 57) := by decide +kernel
theorem dx_173_8 : mj_at 173 8 = some (.invokestatic 90) := by decide +kernel
theorem dx_173_11 : mj_at 173 11 = some (.ifCond .ne 5) := by decide +kernel
theorem dx_173_14 : mj_at 173 14 = some (.iconst 1) := by decide +kernel
theorem dx_173_15 : mj_at 173 15 = some (.ireturn) := by decide +kernel
theorem dx_173_16 : mj_at 173 16 = some (.aload_n 0) := by decide +kernel
theorem dx_173_17 : mj_at 173 17 = some (.aload_n 0) := by decide +kernel
theorem dx_173_18 : mj_at 173 18 = some (.getfield 131) := by decide +kernel
theorem dx_173_21 : mj_at 173 21 = some (.iconst 1) := by decide +kernel
theorem dx_173_22 : mj_at 173 22 = some (.iadd) := by decide +kernel
theorem dx_173_23 : mj_at 173 23 = some (.putfield 131) := by decide +kernel
theorem dx_173_26 : mj_at 173 26 = some (.aload_n 0) := by decide +kernel
theorem dx_173_27 : mj_at 173 27 = some (.aload_n 0) := by decide +kernel
theorem dx_173_28 : mj_at 173 28 = some (.getfield 131) := by decide +kernel
theorem dx_173_31 : mj_at 173 31 = some (.iconst 1) := by decide +kernel
theorem dx_173_32 : mj_at 173 32 = some (.isub) := by decide +kernel
theorem dx_173_33 : mj_at 173 33 = some (.invokevirtual 233) := by decide +kernel
theorem dx_173_36 : mj_at 173 36 = some (.bipush 48) := by decide +kernel
theorem dx_173_38 : mj_at 173 38 = some (.isub) := by decide +kernel
theorem dx_173_39 : mj_at 173 39 = some (.ireturn) := by decide +kernel
set_option maxRecDepth 10000 in
theorem b_X9_readsTimes {sl d : Nat} {M : mj_M}   : mj_C sl (d + 1) 173 [.ref 45] M = (mj_C sl d 147 [.ref 45] M).bind (fun q1 => (mj_C sl d 124 [.int q1.1, .int 50, .int 57] q1.2).bind (fun q2 => if q2.1 = 0 then (some ((1 : Int32), q2.2)) else ((mj_C sl d 146 [.ref 45, .int (((mj_st q2.2 45 6 ((q2.2 45 6) + 1)) 45 6) - 1)] (mj_st q2.2 45 6 ((q2.2 45 6) + 1))).bind (fun q3 => some ((q3.1 - 48 : Int32), q3.2))))) := by
  show mj_E sl (d + 1) 173 0 [.ref 45] [] M = _
  refine (sx_aload_n dx_173_0 rfl).trans ?_
  refine (sx_v0i dx_173_1 ow_173 cx_7_137 oc_45 (Nat.le_of_ble_eq_true rfl)).trans ?_
  refine mj_bnd (fun q1 => ?_)
  refine (sx_bipush (v := 50) dx_173_4 rfl).trans ?_
  refine (sx_bipush (v := 57) dx_173_6 rfl).trans ?_
  refine (sx_s3i dx_173_8 ow_173 cx_7_90 (Nat.le_of_ble_eq_true rfl)).trans ?_
  refine mj_bnd (fun q2 => ?_)
  refine (sx_if_ne (tgt := 16) dx_173_11 (by decide)).trans ?_
  refine mj_ite ?_ ?_
  · refine (sx_iconst (v := 1) dx_173_14 rfl).trans ?_
    exact sx_reti dx_173_15 rt_173
  · refine (sx_aload_n dx_173_16 rfl).trans ?_
    refine (sx_aload_n dx_173_17 rfl).trans ?_
    refine (sx_gfi dx_173_18 ow_173 fx_7_131 (by decide) oc_45).trans ?_
    refine (sx_iconst (v := 1) dx_173_21 rfl).trans ?_
    refine (sx_iadd dx_173_22).trans ?_
    refine (sx_pfi dx_173_23 ow_173 fx_7_131 oc_45).trans ?_
    refine (sx_aload_n dx_173_26 rfl).trans ?_
    refine (sx_aload_n dx_173_27 rfl).trans ?_
    refine (sx_gfi dx_173_28 ow_173 fx_7_131 (by decide) oc_45).trans ?_
    refine (sx_iconst (v := 1) dx_173_31 rfl).trans ?_
    refine (sx_isub dx_173_32).trans ?_
    refine (sx_v1i dx_173_33 ow_173 cx_7_233 oc_45 (Nat.le_of_ble_eq_true rfl)).trans ?_
    refine mj_bnd (fun q3 => ?_)
    refine (sx_bipush (v := 48) dx_173_36 rfl).trans ?_
    refine (sx_isub dx_173_38).trans ?_
    exact sx_reti dx_173_39 rt_173
theorem dx_174_0 : mj_at 174 0 = some (.aload_n 0) := by decide +kernel
theorem dx_174_1 : mj_at 174 1 = some (.getfield 236) := by decide +kernel
theorem dx_174_4 : mj_at 174 4 = some (.iload_n 1) := by decide +kernel
theorem dx_174_5 : mj_at 174 5 = some (.isub) := by decide +kernel
theorem dx_174_6 : mj_at 174 6 = some (.istore 4) := by decide +kernel
theorem dx_174_8 : mj_at 174 8 = some (.iload_n 1) := by decide +kernel
theorem dx_174_9 : mj_at 174 9 = some (.iload 4) := by decide +kernel
theorem dx_174_11 : mj_at 174 11 = some (.iload_n 2) := by decide +kernel
theorem dx_174_12 : mj_at 174 12 = some (.imul) := by decide +kernel
theorem dx_174_13 : mj_at 174 13 = some (.iadd) := by decide +kernel
theorem dx_174_14 : mj_at 174 14 = some (.bipush 60) := by decide +kernel
theorem dx_174_16 : mj_at 174 16 = some (.if_icmp .le 11) := by decide +kernel
theorem dx_174_19 : mj_at 174 19 = some (.aload_n 0) := by decide +kernel
theorem dx_174_20 : mj_at 174 20 = some (.bipush 6) := by decide +kernel
theorem dx_174_22 : mj_at 174 22 = some (.iload_n 3) := by decide +kernel
theorem dx_174_23 : mj_at 174 23 = some (.invokevirtual 144) := by decide +kernel
theorem dx_174_26 : mj_at 174 26 = some (.ireturn) := by decide +kernel
theorem dx_174_27 : mj_at 174 27 = some (.iload 4) := by decide +kernel
theorem dx_174_29 : mj_at 174 29 = some (.istore 5) := by decide +kernel
theorem dx_174_31 : mj_at 174 31 = some (.iload 5) := by decide +kernel
theorem dx_174_33 : mj_at 174 33 = some (.iload 4) := by decide +kernel
theorem dx_174_35 : mj_at 174 35 = some (.iload_n 2) := by decide +kernel
theorem dx_174_36 : mj_at 174 36 = some (.imul) := by decide +kernel
theorem dx_174_37 : mj_at 174 37 = some (.if_icmp .ge 30) := by decide +kernel
theorem dx_174_40 : mj_at 174 40 = some (.aload_n 0) := by decide +kernel
theorem dx_174_41 : mj_at 174 41 = some (.getfield 68) := by decide +kernel
theorem dx_174_44 : mj_at 174 44 = some (.iload_n 1) := by decide +kernel
theorem dx_174_45 : mj_at 174 45 = some (.iload 5) := by decide +kernel
theorem dx_174_47 : mj_at 174 47 = some (.iadd) := by decide +kernel
theorem dx_174_48 : mj_at 174 48 = some (.aload_n 0) := by decide +kernel
theorem dx_174_49 : mj_at 174 49 = some (.getfield 68) := by decide +kernel
theorem dx_174_52 : mj_at 174 52 = some (.iload_n 1) := by decide +kernel
theorem dx_174_53 : mj_at 174 53 = some (.iload 5) := by decide +kernel
theorem dx_174_55 : mj_at 174 55 = some (.iadd) := by decide +kernel
theorem dx_174_56 : mj_at 174 56 = some (.iload 4) := by decide +kernel
theorem dx_174_58 : mj_at 174 58 = some (.isub) := by decide +kernel
theorem dx_174_59 : mj_at 174 59 = some (.iaload) := by decide +kernel
theorem dx_174_60 : mj_at 174 60 = some (.iastore) := by decide +kernel
theorem dx_174_61 : mj_at 174 61 = some (.iinc 5 1) := by decide +kernel
theorem dx_174_64 : mj_at 174 64 = some (.goto (-33)) := by decide +kernel
theorem dx_174_67 : mj_at 174 67 = some (.aload_n 0) := by decide +kernel
theorem dx_174_68 : mj_at 174 68 = some (.iload_n 1) := by decide +kernel
theorem dx_174_69 : mj_at 174 69 = some (.iload 4) := by decide +kernel
theorem dx_174_71 : mj_at 174 71 = some (.iload_n 2) := by decide +kernel
theorem dx_174_72 : mj_at 174 72 = some (.imul) := by decide +kernel
theorem dx_174_73 : mj_at 174 73 = some (.iadd) := by decide +kernel
theorem dx_174_74 : mj_at 174 74 = some (.putfield 236) := by decide +kernel
theorem dx_174_77 : mj_at 174 77 = some (.iconst 1) := by decide +kernel
theorem dx_174_78 : mj_at 174 78 = some (.ireturn) := by decide +kernel
set_option maxRecDepth 10000 in
theorem b_X9_repeats {sl d : Nat} {M : mj_M} {x1 : Int32} {x2 : Int32} {x3 : Int32}  : mj_C sl (d + 1) 174 [.ref 45, .int x1, .int x2, .int x3] M = if x1 + (((M 45 33) - x1) * x2) ≤ 60 then (mj_E sl (d + 1) 174 31 [.ref 45, .int x1, .int x2, .int x3, .int ((M 45 33) - x1), .int ((M 45 33) - x1)] [] M) else ((mj_C sl d 149 [.ref 45, .int 6, .int x3] M).bind (fun q1 => if q1.1 &&& 1 = q1.1 then some ((q1.1 : Int32), q1.2) else none)) := by
  show mj_E sl (d + 1) 174 0 [.ref 45, .int x1, .int x2, .int x3, .null, .null] [] M = _
  refine (sx_aload_n dx_174_0 rfl).trans ?_
  refine (sx_gfi dx_174_1 ow_174 fx_7_236 (by decide) oc_45).trans ?_
  refine (sx_iload_n dx_174_4 rfl).trans ?_
  refine (sx_isub dx_174_5).trans ?_
  refine (sx_istore dx_174_6 (Nat.le_of_ble_eq_true rfl) rfl).trans ?_
  refine (sx_iload_n dx_174_8 rfl).trans ?_
  refine (sx_iload dx_174_9 rfl).trans ?_
  refine (sx_iload_n dx_174_11 rfl).trans ?_
  refine (sx_imul dx_174_12).trans ?_
  refine (sx_iadd dx_174_13).trans ?_
  refine (sx_bipush (v := 60) dx_174_14 rfl).trans ?_
  refine (sx_icmp_le (tgt := 27) dx_174_16 (by decide)).trans ?_
  refine mj_ite ?_ ?_
  · refine (sx_iload dx_174_27 rfl).trans ?_
    refine (sx_istore dx_174_29 (Nat.le_of_ble_eq_true rfl) rfl).trans ?_
    rfl
  · refine (sx_aload_n dx_174_19 rfl).trans ?_
    refine (sx_bipush (v := 6) dx_174_20 rfl).trans ?_
    refine (sx_iload_n dx_174_22 rfl).trans ?_
    refine (sx_v2i dx_174_23 ow_174 cx_7_144 oc_45 (Nat.le_of_ble_eq_true rfl)).trans ?_
    refine mj_bnd (fun q1 => ?_)
    exact sx_retg dx_174_26 rt_174
set_option maxRecDepth 10000 in
theorem b_X9_repeats_31 {sl d : Nat} {M : mj_M} {y1 : Int32} {y2 : Int32} {w3 : Value} {y4 : Int32} {y5 : Int32}  : mj_E sl (d + 1) 174 31 [.ref 45, .int y1, .int y2, w3, .int y4, .int y5] [] M = if y5 < (y4 * y2) then (if mj_inB ((y1 + y5) - y4) 60 = true then (if mj_inB (y1 + y5) 60 = true then (mj_E sl (d + 1) 174 31 [.ref 45, .int y1, .int y2, w3, .int y4, .int (y5 + 1)] [] (mj_st M 65 (y1 + y5 : Int32).toNatClampNeg (M 65 ((y1 + y5) - y4 : Int32).toNatClampNeg))) else none) else none) else (some ((1 : Int32), mj_st M 45 33 (y1 + (y4 * y2)))) := by
  refine (sx_iload dx_174_31 rfl).trans ?_
  refine (sx_iload dx_174_33 rfl).trans ?_
  refine (sx_iload_n dx_174_35 rfl).trans ?_
  refine (sx_imul dx_174_36).trans ?_
  refine (sx_icmp_ge (tgt := 67) dx_174_37 (by decide)).trans ?_
  refine mj_ite ?_ ?_
  · refine (sx_aload_n dx_174_40 rfl).trans ?_
    refine (sx_gfr dx_174_41 ow_174 fx_7_68 oc_45 rb_45_29).trans ?_
    refine (sx_iload_n dx_174_44 rfl).trans ?_
    refine (sx_iload dx_174_45 rfl).trans ?_
    refine (sx_iadd dx_174_47).trans ?_
    refine (sx_aload_n dx_174_48 rfl).trans ?_
    refine (sx_gfr dx_174_49 ow_174 fx_7_68 oc_45 rb_45_29).trans ?_
    refine (sx_iload_n dx_174_52 rfl).trans ?_
    refine (sx_iload dx_174_53 rfl).trans ?_
    refine (sx_iadd dx_174_55).trans ?_
    refine (sx_iload dx_174_56 rfl).trans ?_
    refine (sx_isub dx_174_58).trans ?_
    refine (sx_ild dx_174_59 (by decide) ia_65).trans ?_
    refine mj_ite ?_ rfl
    refine (sx_ist dx_174_60 ia_65).trans ?_
    refine mj_ite ?_ rfl
    refine (sx_iinc (v := 1) dx_174_61 rfl rfl rfl).trans ?_
    refine (sx_goto (tgt := 31) dx_174_64 (by decide)).trans ?_
    rfl
  · refine (sx_aload_n dx_174_67 rfl).trans ?_
    refine (sx_iload_n dx_174_68 rfl).trans ?_
    refine (sx_iload dx_174_69 rfl).trans ?_
    refine (sx_iload_n dx_174_71 rfl).trans ?_
    refine (sx_imul dx_174_72).trans ?_
    refine (sx_iadd dx_174_73).trans ?_
    refine (sx_pfi dx_174_74 ow_174 fx_7_236 oc_45).trans ?_
    refine (sx_iconst (v := 1) dx_174_77 rfl).trans ?_
    exact sx_retz dx_174_78 rt_174 (by decide)
theorem dx_175_0 : mj_at 175 0 = some (.aload_n 0) := by decide +kernel
theorem dx_175_1 : mj_at 175 1 = some (.invokevirtual 137) := by decide +kernel
theorem dx_175_4 : mj_at 175 4 = some (.bipush 40) := by decide +kernel
theorem dx_175_6 : mj_at 175 6 = some (.if_icmp .ne 70) := by decide +kernel
theorem dx_175_9 : mj_at 175 9 = some (.aload_n 0) := by decide +kernel
theorem dx_175_10 : mj_at 175 10 = some (.getfield 239) := by decide +kernel
theorem dx_175_13 : mj_at 175 13 = some (.iconst 2) := by decide +kernel
theorem dx_175_14 : mj_at 175 14 = some (.if_icmp .ne 13) := by decide +kernel
theorem dx_175_17 : mj_at 175 17 = some (.aload_n 0) := by decide +kernel
theorem dx_175_18 : mj_at 175 18 = some (.iconst 5) := by decide +kernel
theorem dx_175_19 : mj_at 175 19 = some (.aload_n 0) := by decide +kernel
theorem dx_175_20 : mj_at 175 20 = some (.getfield 131) := by decide +kernel
theorem dx_175_23 : mj_at 175 23 = some (.invokevirtual 144) := by decide +kernel
theorem dx_175_26 : mj_at 175 26 = some (.ireturn) := by decide +kernel
theorem dx_175_27 : mj_at 175 27 = some (.aload_n 0) := by decide +kernel
theorem dx_175_28 : mj_at 175 28 = some (.getfield 71) := by decide +kernel
theorem dx_175_31 : mj_at 175 31 = some (.aload_n 0) := by decide +kernel
theorem dx_175_32 : mj_at 175 32 = some (.getfield 239) := by decide +kernel
theorem dx_175_35 : mj_at 175 35 = some (.aload_n 0) := by decide +kernel
theorem dx_175_36 : mj_at 175 36 = some (.getfield 131) := by decide +kernel
theorem dx_175_39 : mj_at 175 39 = some (.iastore) := by decide +kernel
theorem dx_175_40 : mj_at 175 40 = some (.aload_n 0) := by decide +kernel
theorem dx_175_41 : mj_at 175 41 = some (.getfield 74) := by decide +kernel
theorem dx_175_44 : mj_at 175 44 = some (.aload_n 0) := by decide +kernel
theorem dx_175_45 : mj_at 175 45 = some (.getfield 239) := by decide +kernel
theorem dx_175_48 : mj_at 175 48 = some (.aload_n 0) := by decide +kernel
theorem dx_175_49 : mj_at 175 49 = some (.getfield 236) := by decide +kernel
theorem dx_175_52 : mj_at 175 52 = some (.iastore) := by decide +kernel
theorem dx_175_53 : mj_at 175 53 = some (.aload_n 0) := by decide +kernel
theorem dx_175_54 : mj_at 175 54 = some (.aload_n 0) := by decide +kernel
theorem dx_175_55 : mj_at 175 55 = some (.getfield 239) := by decide +kernel
theorem dx_175_58 : mj_at 175 58 = some (.iconst 1) := by decide +kernel
theorem dx_175_59 : mj_at 175 59 = some (.iadd) := by decide +kernel
theorem dx_175_60 : mj_at 175 60 = some (.putfield 239) := by decide +kernel
theorem dx_175_63 : mj_at 175 63 = some (.aload_n 0) := by decide +kernel
theorem dx_175_64 : mj_at 175 64 = some (.aload_n 0) := by decide +kernel
theorem dx_175_65 : mj_at 175 65 = some (.getfield 131) := by decide +kernel
theorem dx_175_68 : mj_at 175 68 = some (.iconst 1) := by decide +kernel
theorem dx_175_69 : mj_at 175 69 = some (.iadd) := by decide +kernel
theorem dx_175_70 : mj_at 175 70 = some (.putfield 131) := by decide +kernel
theorem dx_175_73 : mj_at 175 73 = some (.goto (-73)) := by decide +kernel
theorem dx_175_76 : mj_at 175 76 = some (.aload_n 0) := by decide +kernel
theorem dx_175_77 : mj_at 175 77 = some (.getfield 131) := by decide +kernel
theorem dx_175_80 : mj_at 175 80 = some (.istore_n 1) := by decide +kernel
theorem dx_175_81 : mj_at 175 81 = some (.aload_n 0) := by decide +kernel
theorem dx_175_82 : mj_at 175 82 = some (.invokevirtual 137) := by decide +kernel
theorem dx_175_85 : mj_at 175 85 = some (.bipush 65) := by decide +kernel
theorem dx_175_87 : mj_at 175 87 = some (.isub) := by decide +kernel
theorem dx_175_88 : mj_at 175 88 = some (.istore_n 2) := by decide +kernel
theorem dx_175_89 : mj_at 175 89 = some (.iload_n 2) := by decide +kernel
theorem dx_175_90 : mj_at 175 90 = some (.iconst 0) := by decide +kernel
theorem dx_175_91 : mj_at 175 91 = some (.bipush 7) := by decide +kernel
theorem dx_175_93 : mj_at 175 93 = some (.invokestatic 90) := by decide +kernel
theorem dx_175_96 : mj_at 175 96 = some (.ifCond .ne 13) := by decide +kernel
theorem dx_175_99 : mj_at 175 99 = some (.aload_n 0) := by decide +kernel
theorem dx_175_100 : mj_at 175 100 = some (.iconst 1) := by decide +kernel
theorem dx_175_101 : mj_at 175 101 = some (.aload_n 0) := by decide +kernel
theorem dx_175_102 : mj_at 175 102 = some (.getfield 131) := by decide +kernel
theorem dx_175_105 : mj_at 175 105 = some (.invokevirtual 144) := by decide +kernel
theorem dx_175_108 : mj_at 175 108 = some (.ireturn) := by decide +kernel
theorem dx_175_109 : mj_at 175 109 = some (.aload_n 0) := by decide +kernel
theorem dx_175_110 : mj_at 175 110 = some (.aload_n 0) := by decide +kernel
theorem dx_175_111 : mj_at 175 111 = some (.getfield 131) := by decide +kernel
theorem dx_175_114 : mj_at 175 114 = some (.iconst 1) := by decide +kernel
theorem dx_175_115 : mj_at 175 115 = some (.iadd) := by decide +kernel
theorem dx_175_116 : mj_at 175 116 = some (.putfield 131) := by decide +kernel
theorem dx_175_119 : mj_at 175 119 = some (.aload_n 0) := by decide +kernel
theorem dx_175_120 : mj_at 175 120 = some (.invokevirtual 242) := by decide +kernel
theorem dx_175_123 : mj_at 175 123 = some (.istore_n 3) := by decide +kernel
theorem dx_175_124 : mj_at 175 124 = some (.aload_n 0) := by decide +kernel
theorem dx_175_125 : mj_at 175 125 = some (.getfield 236) := by decide +kernel
theorem dx_175_128 : mj_at 175 128 = some (.iload_n 3) := by decide +kernel
theorem dx_175_129 : mj_at 175 129 = some (.iadd) := by decide +kernel
theorem dx_175_130 : mj_at 175 130 = some (.bipush 60) := by decide +kernel
theorem dx_175_132 : mj_at 175 132 = some (.if_icmp .le 11) := by decide +kernel
theorem dx_175_135 : mj_at 175 135 = some (.aload_n 0) := by decide +kernel
theorem dx_175_136 : mj_at 175 136 = some (.bipush 6) := by decide +kernel
theorem dx_175_138 : mj_at 175 138 = some (.iload_n 1) := by decide +kernel
theorem dx_175_139 : mj_at 175 139 = some (.invokevirtual 144) := by decide +kernel
theorem dx_175_142 : mj_at 175 142 = some (.ireturn) := by decide +kernel
theorem dx_175_143 : mj_at 175 143 = some (.aload_n 0) := by decide +kernel
theorem dx_175_144 : mj_at 175 144 = some (.getfield 68) := by decide +kernel
theorem dx_175_147 : mj_at 175 147 = some (.aload_n 0) := by decide +kernel
theorem dx_175_148 : mj_at 175 148 = some (.getfield 236) := by decide +kernel
theorem dx_175_151 : mj_at 175 151 = some (.iload_n 2) := by decide +kernel
theorem dx_175_152 : mj_at 175 152 = some (.iastore) := by decide +kernel
theorem dx_175_153 : mj_at 175 153 = some (.aload_n 0) := by decide +kernel
theorem dx_175_154 : mj_at 175 154 = some (.aload_n 0) := by decide +kernel
theorem dx_175_155 : mj_at 175 155 = some (.getfield 236) := by decide +kernel
theorem dx_175_158 : mj_at 175 158 = some (.iconst 1) := by decide +kernel
theorem dx_175_159 : mj_at 175 159 = some (.iadd) := by decide +kernel
theorem dx_175_160 : mj_at 175 160 = some (.putfield 236) := by decide +kernel
theorem dx_175_163 : mj_at 175 163 = some (.aload_n 0) := by decide +kernel
theorem dx_175_164 : mj_at 175 164 = some (.aload_n 0) := by decide +kernel
theorem dx_175_165 : mj_at 175 165 = some (.getfield 236) := by decide +kernel
theorem dx_175_168 : mj_at 175 168 = some (.iconst 1) := by decide +kernel
theorem dx_175_169 : mj_at 175 169 = some (.isub) := by decide +kernel
theorem dx_175_170 : mj_at 175 170 = some (.iload_n 3) := by decide +kernel
theorem dx_175_171 : mj_at 175 171 = some (.iload_n 1) := by decide +kernel
theorem dx_175_172 : mj_at 175 172 = some (.invokevirtual 245) := by decide +kernel
theorem dx_175_175 : mj_at 175 175 = some (.ifCond .ne 5) := by decide +kernel
theorem dx_175_178 : mj_at 175 178 = some (.iconst 0) := by decide +kernel
theorem dx_175_179 : mj_at 175 179 = some (.ireturn) := by decide +kernel
theorem dx_175_180 : mj_at 175 180 = some (.aload_n 0) := by decide +kernel
theorem dx_175_181 : mj_at 175 181 = some (.invokevirtual 137) := by decide +kernel
theorem dx_175_184 : mj_at 175 184 = some (.bipush 41) := by decide +kernel
theorem dx_175_186 : mj_at 175 186 = some (.if_icmp .ne 61) := by decide +kernel
theorem dx_175_189 : mj_at 175 189 = some (.aload_n 0) := by decide +kernel
theorem dx_175_190 : mj_at 175 190 = some (.getfield 239) := by decide +kernel
theorem dx_175_193 : mj_at 175 193 = some (.ifCond .le 54) := by decide +kernel
theorem dx_175_196 : mj_at 175 196 = some (.aload_n 0) := by decide +kernel
theorem dx_175_197 : mj_at 175 197 = some (.aload_n 0) := by decide +kernel
theorem dx_175_198 : mj_at 175 198 = some (.getfield 131) := by decide +kernel
theorem dx_175_201 : mj_at 175 201 = some (.iconst 1) := by decide +kernel
theorem dx_175_202 : mj_at 175 202 = some (.iadd) := by decide +kernel
theorem dx_175_203 : mj_at 175 203 = some (.putfield 131) := by decide +kernel
theorem dx_175_206 : mj_at 175 206 = some (.aload_n 0) := by decide +kernel
theorem dx_175_207 : mj_at 175 207 = some (.aload_n 0) := by decide +kernel
theorem dx_175_208 : mj_at 175 208 = some (.getfield 239) := by decide +kernel
theorem dx_175_211 : mj_at 175 211 = some (.iconst 1) := by decide +kernel
theorem dx_175_212 : mj_at 175 212 = some (.isub) := by decide +kernel
theorem dx_175_213 : mj_at 175 213 = some (.putfield 239) := by decide +kernel
theorem dx_175_216 : mj_at 175 216 = some (.aload_n 0) := by decide +kernel
theorem dx_175_217 : mj_at 175 217 = some (.aload_n 0) := by decide +kernel
theorem dx_175_218 : mj_at 175 218 = some (.getfield 74) := by decide +kernel
theorem dx_175_221 : mj_at 175 221 = some (.aload_n 0) := by decide +kernel
theorem dx_175_222 : mj_at 175 222 = some (.getfield 239) := by decide +kernel
theorem dx_175_225 : mj_at 175 225 = some (.iaload) := by decide +kernel
theorem dx_175_226 : mj_at 175 226 = some (.aload_n 0) := by decide +kernel
theorem dx_175_227 : mj_at 175 227 = some (.invokevirtual 242) := by decide +kernel
theorem dx_175_230 : mj_at 175 230 = some (.aload_n 0) := by decide +kernel
theorem dx_175_231 : mj_at 175 231 = some (.getfield 71) := by decide +kernel
theorem dx_175_234 : mj_at 175 234 = some (.aload_n 0) := by decide +kernel
theorem dx_175_235 : mj_at 175 235 = some (.getfield 239) := by decide +kernel
theorem dx_175_238 : mj_at 175 238 = some (.iaload) := by decide +kernel
theorem dx_175_239 : mj_at 175 239 = some (.invokevirtual 245) := by decide +kernel
theorem dx_175_242 : mj_at 175 242 = some (.ifCond .ne (-62)) := by decide +kernel
theorem dx_175_245 : mj_at 175 245 = some (.iconst 0) := by decide +kernel
theorem dx_175_246 : mj_at 175 246 = some (.ireturn) := by decide +kernel
theorem dx_175_247 : mj_at 175 247 = some (.iconst 1) := by decide +kernel
theorem dx_175_248 : mj_at 175 248 = some (.ireturn) := by decide +kernel
set_option maxRecDepth 10000 in
theorem b_X9_readsItem_0 {sl d : Nat} {M : mj_M}   : mj_E sl (d + 1) 175 0 [.ref 45, .null, .null, .null] [] M = (mj_C sl d 147 [.ref 45] M).bind (fun q1 => if q1.1 = 40 then (if q1.2 45 34 = 2 then ((mj_C sl d 149 [.ref 45, .int 5, .int (q1.2 45 6)] q1.2).bind (fun q2 => if q2.1 &&& 1 = q2.1 then some ((q2.1 : Int32), q2.2) else none)) else (if mj_inB (q1.2 45 34) 2 = true then (if mj_inB ((mj_st q1.2 66 (q1.2 45 34 : Int32).toNatClampNeg (q1.2 45 6)) 45 34) 2 = true then (mj_E sl (d + 1) 175 0 [.ref 45, .null, .null, .null] [] (mj_st (mj_st (mj_st (mj_st q1.2 66 (q1.2 45 34 : Int32).toNatClampNeg (q1.2 45 6)) 67 ((mj_st q1.2 66 (q1.2 45 34 : Int32).toNatClampNeg (q1.2 45 6)) 45 34 : Int32).toNatClampNeg ((mj_st q1.2 66 (q1.2 45 34 : Int32).toNatClampNeg (q1.2 45 6)) 45 33)) 45 34 (((mj_st (mj_st q1.2 66 (q1.2 45 34 : Int32).toNatClampNeg (q1.2 45 6)) 67 ((mj_st q1.2 66 (q1.2 45 34 : Int32).toNatClampNeg (q1.2 45 6)) 45 34 : Int32).toNatClampNeg ((mj_st q1.2 66 (q1.2 45 34 : Int32).toNatClampNeg (q1.2 45 6)) 45 33)) 45 34) + 1)) 45 6 (((mj_st (mj_st (mj_st q1.2 66 (q1.2 45 34 : Int32).toNatClampNeg (q1.2 45 6)) 67 ((mj_st q1.2 66 (q1.2 45 34 : Int32).toNatClampNeg (q1.2 45 6)) 45 34 : Int32).toNatClampNeg ((mj_st q1.2 66 (q1.2 45 34 : Int32).toNatClampNeg (q1.2 45 6)) 45 33)) 45 34 (((mj_st (mj_st q1.2 66 (q1.2 45 34 : Int32).toNatClampNeg (q1.2 45 6)) 67 ((mj_st q1.2 66 (q1.2 45 34 : Int32).toNatClampNeg (q1.2 45 6)) 45 34 : Int32).toNatClampNeg ((mj_st q1.2 66 (q1.2 45 34 : Int32).toNatClampNeg (q1.2 45 6)) 45 33)) 45 34) + 1)) 45 6) + 1))) else none) else none)) else ((mj_C sl d 147 [.ref 45] q1.2).bind (fun q3 => (mj_C sl d 124 [.int (q3.1 - 65), .int 0, .int 7] q3.2).bind (fun q4 => if q4.1 = 0 then ((mj_C sl d 149 [.ref 45, .int 1, .int (q4.2 45 6)] q4.2).bind (fun q5 => if q5.1 &&& 1 = q5.1 then some ((q5.1 : Int32), q5.2) else none)) else ((mj_C sl d 173 [.ref 45] (mj_st q4.2 45 6 ((q4.2 45 6) + 1))).bind (fun q6 => if (q6.2 45 33) + q6.1 ≤ 60 then (if mj_inB (q6.2 45 33) 60 = true then ((mj_C sl d 174 [.ref 45, .int (((mj_st (mj_st q6.2 65 (q6.2 45 33 : Int32).toNatClampNeg (q3.1 - 65)) 45 33 (((mj_st q6.2 65 (q6.2 45 33 : Int32).toNatClampNeg (q3.1 - 65)) 45 33) + 1)) 45 33) - 1), .int q6.1, .int (q1.2 45 6)] (mj_st (mj_st q6.2 65 (q6.2 45 33 : Int32).toNatClampNeg (q3.1 - 65)) 45 33 (((mj_st q6.2 65 (q6.2 45 33 : Int32).toNatClampNeg (q3.1 - 65)) 45 33) + 1))).bind (fun q7 => if q7.1 = 0 then (some ((0 : Int32), q7.2)) else (mj_E sl (d + 1) 175 180 [.ref 45, .int (q1.2 45 6), .int (q3.1 - 65), .int q6.1] [] q7.2))) else none) else ((mj_C sl d 149 [.ref 45, .int 6, .int (q1.2 45 6)] q6.2).bind (fun q8 => if q8.1 &&& 1 = q8.1 then some ((q8.1 : Int32), q8.2) else none)))))))) := by
  refine (sx_aload_n dx_175_0 rfl).trans ?_
  refine (sx_v0i dx_175_1 ow_175 cx_7_137 oc_45 (Nat.le_of_ble_eq_true rfl)).trans ?_
  refine mj_bnd (fun q1 => ?_)
  refine (sx_bipush (v := 40) dx_175_4 rfl).trans ?_
  refine (sx_icmp_ne (tgt := 76) dx_175_6 (by decide)).trans ?_
  refine mj_ite ?_ ?_
  · refine (sx_aload_n dx_175_9 rfl).trans ?_
    refine (sx_gfi dx_175_10 ow_175 fx_7_239 (by decide) oc_45).trans ?_
    refine (sx_iconst (v := 2) dx_175_13 rfl).trans ?_
    refine (sx_icmp_ne (tgt := 27) dx_175_14 (by decide)).trans ?_
    refine mj_ite ?_ ?_
    · refine (sx_aload_n dx_175_17 rfl).trans ?_
      refine (sx_iconst (v := 5) dx_175_18 rfl).trans ?_
      refine (sx_aload_n dx_175_19 rfl).trans ?_
      refine (sx_gfi dx_175_20 ow_175 fx_7_131 (by decide) oc_45).trans ?_
      refine (sx_v2i dx_175_23 ow_175 cx_7_144 oc_45 (Nat.le_of_ble_eq_true rfl)).trans ?_
      refine mj_bnd (fun q2 => ?_)
      exact sx_retg dx_175_26 rt_175
    · refine (sx_aload_n dx_175_27 rfl).trans ?_
      refine (sx_gfr dx_175_28 ow_175 fx_7_71 oc_45 rb_45_30).trans ?_
      refine (sx_aload_n dx_175_31 rfl).trans ?_
      refine (sx_gfi dx_175_32 ow_175 fx_7_239 (by decide) oc_45).trans ?_
      refine (sx_aload_n dx_175_35 rfl).trans ?_
      refine (sx_gfi dx_175_36 ow_175 fx_7_131 (by decide) oc_45).trans ?_
      refine (sx_ist dx_175_39 ia_66).trans ?_
      refine mj_ite ?_ rfl
      refine (sx_aload_n dx_175_40 rfl).trans ?_
      refine (sx_gfr dx_175_41 ow_175 fx_7_74 oc_45 rb_45_31).trans ?_
      refine (sx_aload_n dx_175_44 rfl).trans ?_
      refine (sx_gfi dx_175_45 ow_175 fx_7_239 (by decide) oc_45).trans ?_
      refine (sx_aload_n dx_175_48 rfl).trans ?_
      refine (sx_gfi dx_175_49 ow_175 fx_7_236 (by decide) oc_45).trans ?_
      refine (sx_ist dx_175_52 ia_67).trans ?_
      refine mj_ite ?_ rfl
      refine (sx_aload_n dx_175_53 rfl).trans ?_
      refine (sx_aload_n dx_175_54 rfl).trans ?_
      refine (sx_gfi dx_175_55 ow_175 fx_7_239 (by decide) oc_45).trans ?_
      refine (sx_iconst (v := 1) dx_175_58 rfl).trans ?_
      refine (sx_iadd dx_175_59).trans ?_
      refine (sx_pfi dx_175_60 ow_175 fx_7_239 oc_45).trans ?_
      refine (sx_aload_n dx_175_63 rfl).trans ?_
      refine (sx_aload_n dx_175_64 rfl).trans ?_
      refine (sx_gfi dx_175_65 ow_175 fx_7_131 (by decide) oc_45).trans ?_
      refine (sx_iconst (v := 1) dx_175_68 rfl).trans ?_
      refine (sx_iadd dx_175_69).trans ?_
      refine (sx_pfi dx_175_70 ow_175 fx_7_131 oc_45).trans ?_
      refine (sx_goto (tgt := 0) dx_175_73 (by decide)).trans ?_
      rfl
  · refine (sx_aload_n dx_175_76 rfl).trans ?_
    refine (sx_gfi dx_175_77 ow_175 fx_7_131 (by decide) oc_45).trans ?_
    refine (sx_istore_n dx_175_80 (Nat.le_of_ble_eq_true rfl) rfl).trans ?_
    refine (sx_aload_n dx_175_81 rfl).trans ?_
    refine (sx_v0i dx_175_82 ow_175 cx_7_137 oc_45 (Nat.le_of_ble_eq_true rfl)).trans ?_
    refine mj_bnd (fun q3 => ?_)
    refine (sx_bipush (v := 65) dx_175_85 rfl).trans ?_
    refine (sx_isub dx_175_87).trans ?_
    refine (sx_istore_n dx_175_88 (Nat.le_of_ble_eq_true rfl) rfl).trans ?_
    refine (sx_iload_n dx_175_89 rfl).trans ?_
    refine (sx_iconst (v := 0) dx_175_90 rfl).trans ?_
    refine (sx_bipush (v := 7) dx_175_91 rfl).trans ?_
    refine (sx_s3i dx_175_93 ow_175 cx_7_90 (Nat.le_of_ble_eq_true rfl)).trans ?_
    refine mj_bnd (fun q4 => ?_)
    refine (sx_if_ne (tgt := 109) dx_175_96 (by decide)).trans ?_
    refine mj_ite ?_ ?_
    · refine (sx_aload_n dx_175_99 rfl).trans ?_
      refine (sx_iconst (v := 1) dx_175_100 rfl).trans ?_
      refine (sx_aload_n dx_175_101 rfl).trans ?_
      refine (sx_gfi dx_175_102 ow_175 fx_7_131 (by decide) oc_45).trans ?_
      refine (sx_v2i dx_175_105 ow_175 cx_7_144 oc_45 (Nat.le_of_ble_eq_true rfl)).trans ?_
      refine mj_bnd (fun q5 => ?_)
      exact sx_retg dx_175_108 rt_175
    · refine (sx_aload_n dx_175_109 rfl).trans ?_
      refine (sx_aload_n dx_175_110 rfl).trans ?_
      refine (sx_gfi dx_175_111 ow_175 fx_7_131 (by decide) oc_45).trans ?_
      refine (sx_iconst (v := 1) dx_175_114 rfl).trans ?_
      refine (sx_iadd dx_175_115).trans ?_
      refine (sx_pfi dx_175_116 ow_175 fx_7_131 oc_45).trans ?_
      refine (sx_aload_n dx_175_119 rfl).trans ?_
      refine (sx_v0i dx_175_120 ow_175 cx_7_242 oc_45 (Nat.le_of_ble_eq_true rfl)).trans ?_
      refine mj_bnd (fun q6 => ?_)
      refine (sx_istore_n dx_175_123 (Nat.le_of_ble_eq_true rfl) rfl).trans ?_
      refine (sx_aload_n dx_175_124 rfl).trans ?_
      refine (sx_gfi dx_175_125 ow_175 fx_7_236 (by decide) oc_45).trans ?_
      refine (sx_iload_n dx_175_128 rfl).trans ?_
      refine (sx_iadd dx_175_129).trans ?_
      refine (sx_bipush (v := 60) dx_175_130 rfl).trans ?_
      refine (sx_icmp_le (tgt := 143) dx_175_132 (by decide)).trans ?_
      refine mj_ite ?_ ?_
      · refine (sx_aload_n dx_175_143 rfl).trans ?_
        refine (sx_gfr dx_175_144 ow_175 fx_7_68 oc_45 rb_45_29).trans ?_
        refine (sx_aload_n dx_175_147 rfl).trans ?_
        refine (sx_gfi dx_175_148 ow_175 fx_7_236 (by decide) oc_45).trans ?_
        refine (sx_iload_n dx_175_151 rfl).trans ?_
        refine (sx_ist dx_175_152 ia_65).trans ?_
        refine mj_ite ?_ rfl
        refine (sx_aload_n dx_175_153 rfl).trans ?_
        refine (sx_aload_n dx_175_154 rfl).trans ?_
        refine (sx_gfi dx_175_155 ow_175 fx_7_236 (by decide) oc_45).trans ?_
        refine (sx_iconst (v := 1) dx_175_158 rfl).trans ?_
        refine (sx_iadd dx_175_159).trans ?_
        refine (sx_pfi dx_175_160 ow_175 fx_7_236 oc_45).trans ?_
        refine (sx_aload_n dx_175_163 rfl).trans ?_
        refine (sx_aload_n dx_175_164 rfl).trans ?_
        refine (sx_gfi dx_175_165 ow_175 fx_7_236 (by decide) oc_45).trans ?_
        refine (sx_iconst (v := 1) dx_175_168 rfl).trans ?_
        refine (sx_isub dx_175_169).trans ?_
        refine (sx_iload_n dx_175_170 rfl).trans ?_
        refine (sx_iload_n dx_175_171 rfl).trans ?_
        refine (sx_v3i dx_175_172 ow_175 cx_7_245 oc_45 (Nat.le_of_ble_eq_true rfl)).trans ?_
        refine mj_bnd (fun q7 => ?_)
        refine (sx_if_ne (tgt := 180) dx_175_175 (by decide)).trans ?_
        refine mj_ite ?_ ?_
        · refine (sx_iconst (v := 0) dx_175_178 rfl).trans ?_
          exact sx_retz dx_175_179 rt_175 (by decide)
        · rfl
      · refine (sx_aload_n dx_175_135 rfl).trans ?_
        refine (sx_bipush (v := 6) dx_175_136 rfl).trans ?_
        refine (sx_iload_n dx_175_138 rfl).trans ?_
        refine (sx_v2i dx_175_139 ow_175 cx_7_144 oc_45 (Nat.le_of_ble_eq_true rfl)).trans ?_
        refine mj_bnd (fun q8 => ?_)
        exact sx_retg dx_175_142 rt_175
set_option maxRecDepth 10000 in
theorem b_X9_readsItem_180 {sl d : Nat} {M : mj_M} {w1 : Value} {w2 : Value} {w3 : Value}  : mj_E sl (d + 1) 175 180 [.ref 45, w1, w2, w3] [] M = (mj_C sl d 147 [.ref 45] M).bind (fun q1 => if q1.1 = 41 then (if q1.2 45 34 ≤ 0 then (some ((1 : Int32), q1.2)) else (if mj_inB ((mj_st (mj_st q1.2 45 6 ((q1.2 45 6) + 1)) 45 34 (((mj_st q1.2 45 6 ((q1.2 45 6) + 1)) 45 34) - 1)) 45 34) 2 = true then ((mj_C sl d 173 [.ref 45] (mj_st (mj_st q1.2 45 6 ((q1.2 45 6) + 1)) 45 34 (((mj_st q1.2 45 6 ((q1.2 45 6) + 1)) 45 34) - 1))).bind (fun q2 => if mj_inB (q2.2 45 34) 2 = true then ((mj_C sl d 174 [.ref 45, .int ((mj_st (mj_st q1.2 45 6 ((q1.2 45 6) + 1)) 45 34 (((mj_st q1.2 45 6 ((q1.2 45 6) + 1)) 45 34) - 1)) 67 ((mj_st (mj_st q1.2 45 6 ((q1.2 45 6) + 1)) 45 34 (((mj_st q1.2 45 6 ((q1.2 45 6) + 1)) 45 34) - 1)) 45 34 : Int32).toNatClampNeg), .int q2.1, .int (q2.2 66 (q2.2 45 34 : Int32).toNatClampNeg)] q2.2).bind (fun q3 => if q3.1 = 0 then (some ((0 : Int32), q3.2)) else (mj_E sl (d + 1) 175 180 [.ref 45, w1, w2, w3] [] q3.2))) else none)) else none)) else (some ((1 : Int32), q1.2))) := by
  refine (sx_aload_n dx_175_180 rfl).trans ?_
  refine (sx_v0i dx_175_181 ow_175 cx_7_137 oc_45 (Nat.le_of_ble_eq_true rfl)).trans ?_
  refine mj_bnd (fun q1 => ?_)
  refine (sx_bipush (v := 41) dx_175_184 rfl).trans ?_
  refine (sx_icmp_ne (tgt := 247) dx_175_186 (by decide)).trans ?_
  refine mj_ite ?_ ?_
  · refine (sx_aload_n dx_175_189 rfl).trans ?_
    refine (sx_gfi dx_175_190 ow_175 fx_7_239 (by decide) oc_45).trans ?_
    refine (sx_if_le (tgt := 247) dx_175_193 (by decide)).trans ?_
    refine mj_ite ?_ ?_
    · refine (sx_iconst (v := 1) dx_175_247 rfl).trans ?_
      exact sx_retz dx_175_248 rt_175 (by decide)
    · refine (sx_aload_n dx_175_196 rfl).trans ?_
      refine (sx_aload_n dx_175_197 rfl).trans ?_
      refine (sx_gfi dx_175_198 ow_175 fx_7_131 (by decide) oc_45).trans ?_
      refine (sx_iconst (v := 1) dx_175_201 rfl).trans ?_
      refine (sx_iadd dx_175_202).trans ?_
      refine (sx_pfi dx_175_203 ow_175 fx_7_131 oc_45).trans ?_
      refine (sx_aload_n dx_175_206 rfl).trans ?_
      refine (sx_aload_n dx_175_207 rfl).trans ?_
      refine (sx_gfi dx_175_208 ow_175 fx_7_239 (by decide) oc_45).trans ?_
      refine (sx_iconst (v := 1) dx_175_211 rfl).trans ?_
      refine (sx_isub dx_175_212).trans ?_
      refine (sx_pfi dx_175_213 ow_175 fx_7_239 oc_45).trans ?_
      refine (sx_aload_n dx_175_216 rfl).trans ?_
      refine (sx_aload_n dx_175_217 rfl).trans ?_
      refine (sx_gfr dx_175_218 ow_175 fx_7_74 oc_45 rb_45_31).trans ?_
      refine (sx_aload_n dx_175_221 rfl).trans ?_
      refine (sx_gfi dx_175_222 ow_175 fx_7_239 (by decide) oc_45).trans ?_
      refine (sx_ild dx_175_225 (by decide) ia_67).trans ?_
      refine mj_ite ?_ rfl
      refine (sx_aload_n dx_175_226 rfl).trans ?_
      refine (sx_v0i dx_175_227 ow_175 cx_7_242 oc_45 (Nat.le_of_ble_eq_true rfl)).trans ?_
      refine mj_bnd (fun q2 => ?_)
      refine (sx_aload_n dx_175_230 rfl).trans ?_
      refine (sx_gfr dx_175_231 ow_175 fx_7_71 oc_45 rb_45_30).trans ?_
      refine (sx_aload_n dx_175_234 rfl).trans ?_
      refine (sx_gfi dx_175_235 ow_175 fx_7_239 (by decide) oc_45).trans ?_
      refine (sx_ild dx_175_238 (by decide) ia_66).trans ?_
      refine mj_ite ?_ rfl
      refine (sx_v3i dx_175_239 ow_175 cx_7_245 oc_45 (Nat.le_of_ble_eq_true rfl)).trans ?_
      refine mj_bnd (fun q3 => ?_)
      refine (sx_if_ne (tgt := 180) dx_175_242 (by decide)).trans ?_
      refine mj_ite ?_ ?_
      · refine (sx_iconst (v := 0) dx_175_245 rfl).trans ?_
        exact sx_retz dx_175_246 rt_175 (by decide)
      · rfl
  · refine (sx_iconst (v := 1) dx_175_247 rfl).trans ?_
    exact sx_retz dx_175_248 rt_175 (by decide)
theorem dx_176_0 : mj_at 176 0 = some (.iload_n 1) := by decide +kernel
theorem dx_176_1 : mj_at 176 1 = some (.iconst 1) := by decide +kernel
theorem dx_176_2 : mj_at 176 2 = some (.bipush 60) := by decide +kernel
theorem dx_176_4 : mj_at 176 4 = some (.invokestatic 90) := by decide +kernel
theorem dx_176_7 : mj_at 176 7 = some (.ifCond .eq 11) := by decide +kernel
theorem dx_176_10 : mj_at 176 10 = some (.iload_n 1) := by decide +kernel
theorem dx_176_11 : mj_at 176 11 = some (.aload_n 0) := by decide +kernel
theorem dx_176_12 : mj_at 176 12 = some (.getfield 123) := by decide +kernel
theorem dx_176_15 : mj_at 176 15 = some (.if_icmp .le 5) := by decide +kernel
theorem dx_176_18 : mj_at 176 18 = some (.iconst (-1)) := by decide +kernel
theorem dx_176_19 : mj_at 176 19 = some (.ireturn) := by decide +kernel
theorem dx_176_20 : mj_at 176 20 = some (.aload_n 0) := by decide +kernel
theorem dx_176_21 : mj_at 176 21 = some (.iload_n 1) := by decide +kernel
theorem dx_176_22 : mj_at 176 22 = some (.invokevirtual 214) := by decide +kernel
theorem dx_176_25 : mj_at 176 25 = some (.aload_n 0) := by decide +kernel
theorem dx_176_26 : mj_at 176 26 = some (.iconst 0) := by decide +kernel
theorem dx_176_27 : mj_at 176 27 = some (.putfield 236) := by decide +kernel
theorem dx_176_30 : mj_at 176 30 = some (.aload_n 0) := by decide +kernel
theorem dx_176_31 : mj_at 176 31 = some (.iconst 0) := by decide +kernel
theorem dx_176_32 : mj_at 176 32 = some (.putfield 239) := by decide +kernel
theorem dx_176_35 : mj_at 176 35 = some (.aload_n 0) := by decide +kernel
theorem dx_176_36 : mj_at 176 36 = some (.invokevirtual 248) := by decide +kernel
theorem dx_176_39 : mj_at 176 39 = some (.istore_n 2) := by decide +kernel
theorem dx_176_40 : mj_at 176 40 = some (.iload_n 2) := by decide +kernel
theorem dx_176_41 : mj_at 176 41 = some (.ifCond .eq 29) := by decide +kernel
theorem dx_176_44 : mj_at 176 44 = some (.aload_n 0) := by decide +kernel
theorem dx_176_45 : mj_at 176 45 = some (.getfield 131) := by decide +kernel
theorem dx_176_48 : mj_at 176 48 = some (.aload_n 0) := by decide +kernel
theorem dx_176_49 : mj_at 176 49 = some (.getfield 134) := by decide +kernel
theorem dx_176_52 : mj_at 176 52 = some (.if_icmp .lt 10) := by decide +kernel
theorem dx_176_55 : mj_at 176 55 = some (.aload_n 0) := by decide +kernel
theorem dx_176_56 : mj_at 176 56 = some (.getfield 239) := by decide +kernel
theorem dx_176_59 : mj_at 176 59 = some (.ifCond .le 11) := by decide +kernel
theorem dx_176_62 : mj_at 176 62 = some (.aload_n 0) := by decide +kernel
theorem dx_176_63 : mj_at 176 63 = some (.invokevirtual 248) := by decide +kernel
theorem dx_176_66 : mj_at 176 66 = some (.istore_n 2) := by decide +kernel
theorem dx_176_67 : mj_at 176 67 = some (.goto (-27)) := by decide +kernel
theorem dx_176_70 : mj_at 176 70 = some (.aload_n 0) := by decide +kernel
theorem dx_176_71 : mj_at 176 71 = some (.iconst 0) := by decide +kernel
theorem dx_176_72 : mj_at 176 72 = some (.putfield 123) := by decide +kernel
theorem dx_176_75 : mj_at 176 75 = some (.iload_n 2) := by decide +kernel
theorem dx_176_76 : mj_at 176 76 = some (.ifCond .ne 8) := by decide +kernel
theorem dx_176_79 : mj_at 176 79 = some (.aload_n 0) := by decide +kernel
theorem dx_176_80 : mj_at 176 80 = some (.getfield 141) := by decide +kernel
theorem dx_176_83 : mj_at 176 83 = some (.ireturn) := by decide +kernel
theorem dx_176_84 : mj_at 176 84 = some (.aload_n 0) := by decide +kernel
theorem dx_176_85 : mj_at 176 85 = some (.aload_n 0) := by decide +kernel
theorem dx_176_86 : mj_at 176 86 = some (.getfield 236) := by decide +kernel
theorem dx_176_89 : mj_at 176 89 = some (.putfield 251) := by decide +kernel
theorem dx_176_92 : mj_at 176 92 = some (.iconst 0) := by decide +kernel
theorem dx_176_93 : mj_at 176 93 = some (.istore_n 3) := by decide +kernel
theorem dx_176_94 : mj_at 176 94 = some (.iload_n 3) := by decide +kernel
theorem dx_176_95 : mj_at 176 95 = some (.aload_n 0) := by decide +kernel
theorem dx_176_96 : mj_at 176 96 = some (.getfield 236) := by decide +kernel
theorem dx_176_99 : mj_at 176 99 = some (.if_icmp .ge 21) := by decide +kernel
theorem dx_176_102 : mj_at 176 102 = some (.aload_n 0) := by decide +kernel
theorem dx_176_103 : mj_at 176 103 = some (.getfield 65) := by decide +kernel
theorem dx_176_106 : mj_at 176 106 = some (.iload_n 3) := by decide +kernel
theorem dx_176_107 : mj_at 176 107 = some (.aload_n 0) := by decide +kernel
theorem dx_176_108 : mj_at 176 108 = some (.getfield 68) := by decide +kernel
theorem dx_176_111 : mj_at 176 111 = some (.iload_n 3) := by decide +kernel
theorem dx_176_112 : mj_at 176 112 = some (.iaload) := by decide +kernel
theorem dx_176_113 : mj_at 176 113 = some (.iastore) := by decide +kernel
theorem dx_176_114 : mj_at 176 114 = some (.iinc 3 1) := by decide +kernel
theorem dx_176_117 : mj_at 176 117 = some (.goto (-23)) := by decide +kernel
theorem dx_176_120 : mj_at 176 120 = some (.aload_n 0) := by decide +kernel
theorem dx_176_121 : mj_at 176 121 = some (.getfield 236) := by decide +kernel
theorem dx_176_124 : mj_at 176 124 = some (.ireturn) := by decide +kernel
set_option maxRecDepth 10000 in
theorem b_X9_order {sl d : Nat} {M : mj_M} {x1 : Int32}  : mj_C sl (d + 1) 176 [.ref 45, .int x1] M = (mj_C sl d 124 [.int x1, .int 1, .int 60] M).bind (fun q1 => if q1.1 = 0 then (some (((-1) : Int32), q1.2)) else (if x1 ≤ (q1.2 45 5) then ((mj_C sl d 167 [.ref 45, .int x1] q1.2).bind (fun q2 => (mj_C sl d 175 [.ref 45] (mj_st (mj_st q2.2 45 33 0) 45 34 0)).bind (fun q3 => mj_E sl (d + 1) 176 40 [.ref 45, .int x1, .int q3.1, .null] [] q3.2))) else (some (((-1) : Int32), q1.2)))) := by
  show mj_E sl (d + 1) 176 0 [.ref 45, .int x1, .null, .null] [] M = _
  refine (sx_iload_n dx_176_0 rfl).trans ?_
  refine (sx_iconst (v := 1) dx_176_1 rfl).trans ?_
  refine (sx_bipush (v := 60) dx_176_2 rfl).trans ?_
  refine (sx_s3i dx_176_4 ow_176 cx_7_90 (Nat.le_of_ble_eq_true rfl)).trans ?_
  refine mj_bnd (fun q1 => ?_)
  refine (sx_if_eq (tgt := 18) dx_176_7 (by decide)).trans ?_
  refine mj_ite ?_ ?_
  · refine (sx_iconst (v := (-1)) dx_176_18 rfl).trans ?_
    exact sx_reti dx_176_19 rt_176
  · refine (sx_iload_n dx_176_10 rfl).trans ?_
    refine (sx_aload_n dx_176_11 rfl).trans ?_
    refine (sx_gfi dx_176_12 ow_176 fx_7_123 (by decide) oc_45).trans ?_
    refine (sx_icmp_le (tgt := 20) dx_176_15 (by decide)).trans ?_
    refine mj_ite ?_ ?_
    · refine (sx_aload_n dx_176_20 rfl).trans ?_
      refine (sx_iload_n dx_176_21 rfl).trans ?_
      refine (sx_v1v dx_176_22 ow_176 cx_7_214 oc_45 (Nat.le_of_ble_eq_true rfl)).trans ?_
      refine mj_bnd (fun q2 => ?_)
      refine (sx_aload_n dx_176_25 rfl).trans ?_
      refine (sx_iconst (v := 0) dx_176_26 rfl).trans ?_
      refine (sx_pfi dx_176_27 ow_176 fx_7_236 oc_45).trans ?_
      refine (sx_aload_n dx_176_30 rfl).trans ?_
      refine (sx_iconst (v := 0) dx_176_31 rfl).trans ?_
      refine (sx_pfi dx_176_32 ow_176 fx_7_239 oc_45).trans ?_
      refine (sx_aload_n dx_176_35 rfl).trans ?_
      refine (sx_v0i dx_176_36 ow_176 cx_7_248 oc_45 (Nat.le_of_ble_eq_true rfl)).trans ?_
      refine mj_bnd (fun q3 => ?_)
      refine (sx_istore_n dx_176_39 (Nat.le_of_ble_eq_true rfl) rfl).trans ?_
      rfl
    · refine (sx_iconst (v := (-1)) dx_176_18 rfl).trans ?_
      exact sx_reti dx_176_19 rt_176
set_option maxRecDepth 10000 in
theorem b_X9_order_40 {sl d : Nat} {M : mj_M} {w1 : Value} {y2 : Int32} {w3 : Value}  : mj_E sl (d + 1) 176 40 [.ref 45, w1, .int y2, w3] [] M = if y2 = 0 then (if y2 = 0 then (some (((mj_st M 45 5 0) 45 8 : Int32), mj_st M 45 5 0)) else (mj_E sl (d + 1) 176 94 [.ref 45, w1, .int y2, .int 0] [] (mj_st (mj_st M 45 5 0) 45 32 ((mj_st M 45 5 0) 45 33)))) else (if M 45 6 < (M 45 7) then ((mj_C sl d 175 [.ref 45] M).bind (fun q1 => mj_E sl (d + 1) 176 40 [.ref 45, w1, .int q1.1, w3] [] q1.2)) else (if M 45 34 ≤ 0 then (if y2 = 0 then (some (((mj_st M 45 5 0) 45 8 : Int32), mj_st M 45 5 0)) else (mj_E sl (d + 1) 176 94 [.ref 45, w1, .int y2, .int 0] [] (mj_st (mj_st M 45 5 0) 45 32 ((mj_st M 45 5 0) 45 33)))) else ((mj_C sl d 175 [.ref 45] M).bind (fun q2 => mj_E sl (d + 1) 176 40 [.ref 45, w1, .int q2.1, w3] [] q2.2)))) := by
  refine (sx_iload_n dx_176_40 rfl).trans ?_
  refine (sx_if_eq (tgt := 70) dx_176_41 (by decide)).trans ?_
  refine mj_ite ?_ ?_
  · refine (sx_aload_n dx_176_70 rfl).trans ?_
    refine (sx_iconst (v := 0) dx_176_71 rfl).trans ?_
    refine (sx_pfi dx_176_72 ow_176 fx_7_123 oc_45).trans ?_
    refine (sx_iload_n dx_176_75 rfl).trans ?_
    refine (sx_if_ne (tgt := 84) dx_176_76 (by decide)).trans ?_
    refine mj_ite ?_ ?_
    · refine (sx_aload_n dx_176_79 rfl).trans ?_
      refine (sx_gfi dx_176_80 ow_176 fx_7_141 (by decide) oc_45).trans ?_
      exact sx_reti dx_176_83 rt_176
    · refine (sx_aload_n dx_176_84 rfl).trans ?_
      refine (sx_aload_n dx_176_85 rfl).trans ?_
      refine (sx_gfi dx_176_86 ow_176 fx_7_236 (by decide) oc_45).trans ?_
      refine (sx_pfi dx_176_89 ow_176 fx_7_251 oc_45).trans ?_
      refine (sx_iconst (v := 0) dx_176_92 rfl).trans ?_
      refine (sx_istore_n dx_176_93 (Nat.le_of_ble_eq_true rfl) rfl).trans ?_
      rfl
  · refine (sx_aload_n dx_176_44 rfl).trans ?_
    refine (sx_gfi dx_176_45 ow_176 fx_7_131 (by decide) oc_45).trans ?_
    refine (sx_aload_n dx_176_48 rfl).trans ?_
    refine (sx_gfi dx_176_49 ow_176 fx_7_134 (by decide) oc_45).trans ?_
    refine (sx_icmp_lt (tgt := 62) dx_176_52 (by decide)).trans ?_
    refine mj_ite ?_ ?_
    · refine (sx_aload_n dx_176_62 rfl).trans ?_
      refine (sx_v0i dx_176_63 ow_176 cx_7_248 oc_45 (Nat.le_of_ble_eq_true rfl)).trans ?_
      refine mj_bnd (fun q1 => ?_)
      refine (sx_istore_n dx_176_66 (Nat.le_of_ble_eq_true rfl) rfl).trans ?_
      refine (sx_goto (tgt := 40) dx_176_67 (by decide)).trans ?_
      rfl
    · refine (sx_aload_n dx_176_55 rfl).trans ?_
      refine (sx_gfi dx_176_56 ow_176 fx_7_239 (by decide) oc_45).trans ?_
      refine (sx_if_le (tgt := 70) dx_176_59 (by decide)).trans ?_
      refine mj_ite ?_ ?_
      · refine (sx_aload_n dx_176_70 rfl).trans ?_
        refine (sx_iconst (v := 0) dx_176_71 rfl).trans ?_
        refine (sx_pfi dx_176_72 ow_176 fx_7_123 oc_45).trans ?_
        refine (sx_iload_n dx_176_75 rfl).trans ?_
        refine (sx_if_ne (tgt := 84) dx_176_76 (by decide)).trans ?_
        refine mj_ite ?_ ?_
        · refine (sx_aload_n dx_176_79 rfl).trans ?_
          refine (sx_gfi dx_176_80 ow_176 fx_7_141 (by decide) oc_45).trans ?_
          exact sx_reti dx_176_83 rt_176
        · refine (sx_aload_n dx_176_84 rfl).trans ?_
          refine (sx_aload_n dx_176_85 rfl).trans ?_
          refine (sx_gfi dx_176_86 ow_176 fx_7_236 (by decide) oc_45).trans ?_
          refine (sx_pfi dx_176_89 ow_176 fx_7_251 oc_45).trans ?_
          refine (sx_iconst (v := 0) dx_176_92 rfl).trans ?_
          refine (sx_istore_n dx_176_93 (Nat.le_of_ble_eq_true rfl) rfl).trans ?_
          rfl
      · refine (sx_aload_n dx_176_62 rfl).trans ?_
        refine (sx_v0i dx_176_63 ow_176 cx_7_248 oc_45 (Nat.le_of_ble_eq_true rfl)).trans ?_
        refine mj_bnd (fun q2 => ?_)
        refine (sx_istore_n dx_176_66 (Nat.le_of_ble_eq_true rfl) rfl).trans ?_
        refine (sx_goto (tgt := 40) dx_176_67 (by decide)).trans ?_
        rfl
set_option maxRecDepth 10000 in
theorem b_X9_order_94 {sl d : Nat} {M : mj_M} {w1 : Value} {w2 : Value} {y3 : Int32}  : mj_E sl (d + 1) 176 94 [.ref 45, w1, w2, .int y3] [] M = if y3 < (M 45 33) then (if mj_inB y3 60 = true then (if mj_inB y3 60 = true then (mj_E sl (d + 1) 176 94 [.ref 45, w1, w2, .int (y3 + 1)] [] (mj_st M 64 (y3 : Int32).toNatClampNeg (M 65 (y3 : Int32).toNatClampNeg))) else none) else none) else (some ((M 45 33 : Int32), M)) := by
  refine (sx_iload_n dx_176_94 rfl).trans ?_
  refine (sx_aload_n dx_176_95 rfl).trans ?_
  refine (sx_gfi dx_176_96 ow_176 fx_7_236 (by decide) oc_45).trans ?_
  refine (sx_icmp_ge (tgt := 120) dx_176_99 (by decide)).trans ?_
  refine mj_ite ?_ ?_
  · refine (sx_aload_n dx_176_102 rfl).trans ?_
    refine (sx_gfr dx_176_103 ow_176 fx_7_65 oc_45 rb_45_28).trans ?_
    refine (sx_iload_n dx_176_106 rfl).trans ?_
    refine (sx_aload_n dx_176_107 rfl).trans ?_
    refine (sx_gfr dx_176_108 ow_176 fx_7_68 oc_45 rb_45_29).trans ?_
    refine (sx_iload_n dx_176_111 rfl).trans ?_
    refine (sx_ild dx_176_112 (by decide) ia_65).trans ?_
    refine mj_ite ?_ rfl
    refine (sx_ist dx_176_113 ia_64).trans ?_
    refine mj_ite ?_ rfl
    refine (sx_iinc (v := 1) dx_176_114 rfl rfl rfl).trans ?_
    refine (sx_goto (tgt := 94) dx_176_117 (by decide)).trans ?_
    rfl
  · refine (sx_aload_n dx_176_120 rfl).trans ?_
    refine (sx_gfi dx_176_121 ow_176 fx_7_236 (by decide) oc_45).trans ?_
    exact sx_reti dx_176_124 rt_176
theorem dx_177_0 : mj_at 177 0 = some (.iconst 5) := by decide +kernel
theorem dx_177_1 : mj_at 177 1 = some (.iload_n 1) := by decide +kernel
theorem dx_177_2 : mj_at 177 2 = some (.imul) := by decide +kernel
theorem dx_177_3 : mj_at 177 3 = some (.iload_n 0) := by decide +kernel
theorem dx_177_4 : mj_at 177 4 = some (.iadd) := by decide +kernel
theorem dx_177_5 : mj_at 177 5 = some (.ireturn) := by decide +kernel
set_option maxRecDepth 10000 in
theorem b_X9_dot {sl d : Nat} {M : mj_M} {x1 : Int32} {x2 : Int32}  : mj_C sl d 177 [.int x1, .int x2] M = some ((((5 : Int32) * x2) + x1 : Int32), M) := by
  show mj_E sl d 177 0 [.int x1, .int x2] [] M = _
  refine (sx_iconst (v := 5) dx_177_0 rfl).trans ?_
  refine (sx_iload_n dx_177_1 rfl).trans ?_
  refine (sx_imul dx_177_2).trans ?_
  refine (sx_iload_n dx_177_3 rfl).trans ?_
  refine (sx_iadd dx_177_4).trans ?_
  exact sx_reti dx_177_5 rt_177
theorem dx_178_0 : mj_at 178 0 = some (.iconst 0) := by decide +kernel
theorem dx_178_1 : mj_at 178 1 = some (.istore_n 1) := by decide +kernel
theorem dx_178_2 : mj_at 178 2 = some (.iconst 0) := by decide +kernel
theorem dx_178_3 : mj_at 178 3 = some (.istore_n 2) := by decide +kernel
theorem dx_178_4 : mj_at 178 4 = some (.iload_n 2) := by decide +kernel
theorem dx_178_5 : mj_at 178 5 = some (.bipush 25) := by decide +kernel
theorem dx_178_7 : mj_at 178 7 = some (.if_icmp .ge 33) := by decide +kernel
theorem dx_178_10 : mj_at 178 10 = some (.iload_n 0) := by decide +kernel
theorem dx_178_11 : mj_at 178 11 = some (.iload_n 2) := by decide +kernel
theorem dx_178_12 : mj_at 178 12 = some (.invokestatic 254) := by decide +kernel
theorem dx_178_15 : mj_at 178 15 = some (.ifCond .eq 19) := by decide +kernel
theorem dx_178_18 : mj_at 178 18 = some (.iload_n 1) := by decide +kernel
theorem dx_178_19 : mj_at 178 19 = some (.iconst 1) := by decide +kernel
theorem dx_178_20 : mj_at 178 20 = some (.iconst 4) := by decide +kernel
theorem dx_178_21 : mj_at 178 21 = some (.iload_n 2) := by decide +kernel
theorem dx_178_22 : mj_at 178 22 = some (.iconst 5) := by decide +kernel
theorem dx_178_23 : mj_at 178 23 = some (.irem) := by decide +kernel
theorem dx_178_24 : mj_at 178 24 = some (.isub) := by decide +kernel
theorem dx_178_25 : mj_at 178 25 = some (.iload_n 2) := by decide +kernel
theorem dx_178_26 : mj_at 178 26 = some (.iconst 5) := by decide +kernel
theorem dx_178_27 : mj_at 178 27 = some (.idiv) := by decide +kernel
theorem dx_178_28 : mj_at 178 28 = some (.invokestatic 257) := by decide +kernel
theorem dx_178_31 : mj_at 178 31 = some (.ishl) := by decide +kernel
theorem dx_178_32 : mj_at 178 32 = some (.ior) := by decide +kernel
theorem dx_178_33 : mj_at 178 33 = some (.istore_n 1) := by decide +kernel
theorem dx_178_34 : mj_at 178 34 = some (.iinc 2 1) := by decide +kernel
theorem dx_178_37 : mj_at 178 37 = some (.goto (-33)) := by decide +kernel
theorem dx_178_40 : mj_at 178 40 = some (.iload_n 1) := by decide +kernel
theorem dx_178_41 : mj_at 178 41 = some (.ireturn) := by decide +kernel
set_option maxRecDepth 10000 in
theorem b_X9_mirroredOf {sl d : Nat} {M : mj_M} {x1 : Int32}  : mj_C sl (d + 1) 178 [.int x1] M = mj_E sl (d + 1) 178 4 [.int x1, .int 0, .int 0] [] M := by
  show mj_E sl (d + 1) 178 0 [.int x1, .null, .null] [] M = _
  refine (sx_iconst (v := 0) dx_178_0 rfl).trans ?_
  refine (sx_istore_n dx_178_1 (Nat.le_of_ble_eq_true rfl) rfl).trans ?_
  refine (sx_iconst (v := 0) dx_178_2 rfl).trans ?_
  refine (sx_istore_n dx_178_3 (Nat.le_of_ble_eq_true rfl) rfl).trans ?_
  rfl
set_option maxRecDepth 10000 in
theorem b_X9_mirroredOf_4 {sl d : Nat} {M : mj_M} {y0 : Int32} {y1 : Int32} {y2 : Int32}  : mj_E sl (d + 1) 178 4 [.int y0, .int y1, .int y2] [] M = if y2 < 25 then ((mj_C sl d 127 [.int y0, .int y2] M).bind (fun q1 => if q1.1 = 0 then (mj_E sl (d + 1) 178 4 [.int y0, .int y1, .int (y2 + 1)] [] q1.2) else ((mj_C sl d 177 [.int ((4 : Int32) - (mj_rm y2 5)), .int (y2 / 5)] q1.2).bind (fun q2 => mj_E sl (d + 1) 178 4 [.int y0, .int (y1 ||| ((1 : Int32) <<< (q2.1 &&& 31))), .int (y2 + 1)] [] q2.2)))) else (some ((y1 : Int32), M)) := by
  refine (sx_iload_n dx_178_4 rfl).trans ?_
  refine (sx_bipush (v := 25) dx_178_5 rfl).trans ?_
  refine (sx_icmp_ge (tgt := 40) dx_178_7 (by decide)).trans ?_
  refine mj_ite ?_ ?_
  · refine (sx_iload_n dx_178_10 rfl).trans ?_
    refine (sx_iload_n dx_178_11 rfl).trans ?_
    refine (sx_s2i dx_178_12 ow_178 cx_7_254 (Nat.le_of_ble_eq_true rfl)).trans ?_
    refine mj_bnd (fun q1 => ?_)
    refine (sx_if_eq (tgt := 34) dx_178_15 (by decide)).trans ?_
    refine mj_ite ?_ ?_
    · refine (sx_iinc (v := 1) dx_178_34 rfl rfl rfl).trans ?_
      refine (sx_goto (tgt := 4) dx_178_37 (by decide)).trans ?_
      rfl
    · refine (sx_iload_n dx_178_18 rfl).trans ?_
      refine (sx_iconst (v := 1) dx_178_19 rfl).trans ?_
      refine (sx_iconst (v := 4) dx_178_20 rfl).trans ?_
      refine (sx_iload_n dx_178_21 rfl).trans ?_
      refine (sx_iconst (v := 5) dx_178_22 rfl).trans ?_
      refine (sx_irem dx_178_23 (by decide)).trans ?_
      refine (sx_isub dx_178_24).trans ?_
      refine (sx_iload_n dx_178_25 rfl).trans ?_
      refine (sx_iconst (v := 5) dx_178_26 rfl).trans ?_
      refine (sx_idiv dx_178_27 (by decide)).trans ?_
      refine (sx_s2i dx_178_28 ow_178 cx_7_257 (Nat.le_of_ble_eq_true rfl)).trans ?_
      refine mj_bnd (fun q2 => ?_)
      refine (sx_ishl dx_178_31).trans ?_
      refine (sx_ior dx_178_32).trans ?_
      refine (sx_istore_n dx_178_33 (Nat.le_of_ble_eq_true rfl) rfl).trans ?_
      refine (sx_iinc (v := 1) dx_178_34 rfl rfl rfl).trans ?_
      refine (sx_goto (tgt := 4) dx_178_37 (by decide)).trans ?_
      rfl
  · refine (sx_iload_n dx_178_40 rfl).trans ?_
    exact sx_reti dx_178_41 rt_178
theorem dx_179_0 : mj_at 179 0 = some (.iconst 0) := by decide +kernel
theorem dx_179_1 : mj_at 179 1 = some (.istore_n 1) := by decide +kernel
theorem dx_179_2 : mj_at 179 2 = some (.iconst 0) := by decide +kernel
theorem dx_179_3 : mj_at 179 3 = some (.istore_n 2) := by decide +kernel
theorem dx_179_4 : mj_at 179 4 = some (.iload_n 2) := by decide +kernel
theorem dx_179_5 : mj_at 179 5 = some (.bipush 25) := by decide +kernel
theorem dx_179_7 : mj_at 179 7 = some (.if_icmp .ge 33) := by decide +kernel
theorem dx_179_10 : mj_at 179 10 = some (.iload_n 0) := by decide +kernel
theorem dx_179_11 : mj_at 179 11 = some (.iload_n 2) := by decide +kernel
theorem dx_179_12 : mj_at 179 12 = some (.invokestatic 254) := by decide +kernel
theorem dx_179_15 : mj_at 179 15 = some (.ifCond .eq 19) := by decide +kernel
theorem dx_179_18 : mj_at 179 18 = some (.iload_n 1) := by decide +kernel
theorem dx_179_19 : mj_at 179 19 = some (.iconst 1) := by decide +kernel
theorem dx_179_20 : mj_at 179 20 = some (.iconst 4) := by decide +kernel
theorem dx_179_21 : mj_at 179 21 = some (.iload_n 2) := by decide +kernel
theorem dx_179_22 : mj_at 179 22 = some (.iconst 5) := by decide +kernel
theorem dx_179_23 : mj_at 179 23 = some (.idiv) := by decide +kernel
theorem dx_179_24 : mj_at 179 24 = some (.isub) := by decide +kernel
theorem dx_179_25 : mj_at 179 25 = some (.iload_n 2) := by decide +kernel
theorem dx_179_26 : mj_at 179 26 = some (.iconst 5) := by decide +kernel
theorem dx_179_27 : mj_at 179 27 = some (.irem) := by decide +kernel
theorem dx_179_28 : mj_at 179 28 = some (.invokestatic 257) := by decide +kernel
theorem dx_179_31 : mj_at 179 31 = some (.ishl) := by decide +kernel
theorem dx_179_32 : mj_at 179 32 = some (.ior) := by decide +kernel
theorem dx_179_33 : mj_at 179 33 = some (.istore_n 1) := by decide +kernel
theorem dx_179_34 : mj_at 179 34 = some (.iinc 2 1) := by decide +kernel
theorem dx_179_37 : mj_at 179 37 = some (.goto (-33)) := by decide +kernel
theorem dx_179_40 : mj_at 179 40 = some (.iload_n 1) := by decide +kernel
theorem dx_179_41 : mj_at 179 41 = some (.ireturn) := by decide +kernel
set_option maxRecDepth 10000 in
theorem b_X9_turnedOf {sl d : Nat} {M : mj_M} {x1 : Int32}  : mj_C sl (d + 1) 179 [.int x1] M = mj_E sl (d + 1) 179 4 [.int x1, .int 0, .int 0] [] M := by
  show mj_E sl (d + 1) 179 0 [.int x1, .null, .null] [] M = _
  refine (sx_iconst (v := 0) dx_179_0 rfl).trans ?_
  refine (sx_istore_n dx_179_1 (Nat.le_of_ble_eq_true rfl) rfl).trans ?_
  refine (sx_iconst (v := 0) dx_179_2 rfl).trans ?_
  refine (sx_istore_n dx_179_3 (Nat.le_of_ble_eq_true rfl) rfl).trans ?_
  rfl
set_option maxRecDepth 10000 in
theorem b_X9_turnedOf_4 {sl d : Nat} {M : mj_M} {y0 : Int32} {y1 : Int32} {y2 : Int32}  : mj_E sl (d + 1) 179 4 [.int y0, .int y1, .int y2] [] M = if y2 < 25 then ((mj_C sl d 127 [.int y0, .int y2] M).bind (fun q1 => if q1.1 = 0 then (mj_E sl (d + 1) 179 4 [.int y0, .int y1, .int (y2 + 1)] [] q1.2) else ((mj_C sl d 177 [.int ((4 : Int32) - (y2 / 5)), .int (mj_rm y2 5)] q1.2).bind (fun q2 => mj_E sl (d + 1) 179 4 [.int y0, .int (y1 ||| ((1 : Int32) <<< (q2.1 &&& 31))), .int (y2 + 1)] [] q2.2)))) else (some ((y1 : Int32), M)) := by
  refine (sx_iload_n dx_179_4 rfl).trans ?_
  refine (sx_bipush (v := 25) dx_179_5 rfl).trans ?_
  refine (sx_icmp_ge (tgt := 40) dx_179_7 (by decide)).trans ?_
  refine mj_ite ?_ ?_
  · refine (sx_iload_n dx_179_10 rfl).trans ?_
    refine (sx_iload_n dx_179_11 rfl).trans ?_
    refine (sx_s2i dx_179_12 ow_179 cx_7_254 (Nat.le_of_ble_eq_true rfl)).trans ?_
    refine mj_bnd (fun q1 => ?_)
    refine (sx_if_eq (tgt := 34) dx_179_15 (by decide)).trans ?_
    refine mj_ite ?_ ?_
    · refine (sx_iinc (v := 1) dx_179_34 rfl rfl rfl).trans ?_
      refine (sx_goto (tgt := 4) dx_179_37 (by decide)).trans ?_
      rfl
    · refine (sx_iload_n dx_179_18 rfl).trans ?_
      refine (sx_iconst (v := 1) dx_179_19 rfl).trans ?_
      refine (sx_iconst (v := 4) dx_179_20 rfl).trans ?_
      refine (sx_iload_n dx_179_21 rfl).trans ?_
      refine (sx_iconst (v := 5) dx_179_22 rfl).trans ?_
      refine (sx_idiv dx_179_23 (by decide)).trans ?_
      refine (sx_isub dx_179_24).trans ?_
      refine (sx_iload_n dx_179_25 rfl).trans ?_
      refine (sx_iconst (v := 5) dx_179_26 rfl).trans ?_
      refine (sx_irem dx_179_27 (by decide)).trans ?_
      refine (sx_s2i dx_179_28 ow_179 cx_7_257 (Nat.le_of_ble_eq_true rfl)).trans ?_
      refine mj_bnd (fun q2 => ?_)
      refine (sx_ishl dx_179_31).trans ?_
      refine (sx_ior dx_179_32).trans ?_
      refine (sx_istore_n dx_179_33 (Nat.le_of_ble_eq_true rfl) rfl).trans ?_
      refine (sx_iinc (v := 1) dx_179_34 rfl rfl rfl).trans ?_
      refine (sx_goto (tgt := 4) dx_179_37 (by decide)).trans ?_
      rfl
  · refine (sx_iload_n dx_179_40 rfl).trans ?_
    exact sx_reti dx_179_41 rt_179
