theorem dx_180_0 : mj_at 180 0 = some (.iconst 0) := by decide +kernel
theorem dx_180_1 : mj_at 180 1 = some (.istore_n 2) := by decide +kernel
theorem dx_180_2 : mj_at 180 2 = some (.iconst 0) := by decide +kernel
theorem dx_180_3 : mj_at 180 3 = some (.istore_n 3) := by decide +kernel
theorem dx_180_4 : mj_at 180 4 = some (.iload_n 3) := by decide +kernel
theorem dx_180_5 : mj_at 180 5 = some (.bipush 25) := by decide +kernel
theorem dx_180_7 : mj_at 180 7 = some (.if_icmp .ge 38) := by decide +kernel
theorem dx_180_10 : mj_at 180 10 = some (.iload_n 0) := by decide +kernel
theorem dx_180_11 : mj_at 180 11 = some (.iload_n 3) := by decide +kernel
theorem dx_180_12 : mj_at 180 12 = some (.invokestatic 254) := by decide +kernel
theorem dx_180_15 : mj_at 180 15 = some (.ifCond .eq 24) := by decide +kernel
theorem dx_180_18 : mj_at 180 18 = some (.iload_n 3) := by decide +kernel
theorem dx_180_19 : mj_at 180 19 = some (.iconst 5) := by decide +kernel
theorem dx_180_20 : mj_at 180 20 = some (.irem) := by decide +kernel
theorem dx_180_21 : mj_at 180 21 = some (.iload_n 1) := by decide +kernel
theorem dx_180_22 : mj_at 180 22 = some (.iadd) := by decide +kernel
theorem dx_180_23 : mj_at 180 23 = some (.iconst 0) := by decide +kernel
theorem dx_180_24 : mj_at 180 24 = some (.iconst 4) := by decide +kernel
theorem dx_180_25 : mj_at 180 25 = some (.invokestatic 90) := by decide +kernel
theorem dx_180_28 : mj_at 180 28 = some (.ifCond .eq 11) := by decide +kernel
theorem dx_180_31 : mj_at 180 31 = some (.iload_n 2) := by decide +kernel
theorem dx_180_32 : mj_at 180 32 = some (.iconst 1) := by decide +kernel
theorem dx_180_33 : mj_at 180 33 = some (.iload_n 3) := by decide +kernel
theorem dx_180_34 : mj_at 180 34 = some (.iload_n 1) := by decide +kernel
theorem dx_180_35 : mj_at 180 35 = some (.iadd) := by decide +kernel
theorem dx_180_36 : mj_at 180 36 = some (.ishl) := by decide +kernel
theorem dx_180_37 : mj_at 180 37 = some (.ior) := by decide +kernel
theorem dx_180_38 : mj_at 180 38 = some (.istore_n 2) := by decide +kernel
theorem dx_180_39 : mj_at 180 39 = some (.iinc 3 1) := by decide +kernel
theorem dx_180_42 : mj_at 180 42 = some (.goto (-38)) := by decide +kernel
theorem dx_180_45 : mj_at 180 45 = some (.iload_n 2) := by decide +kernel
theorem dx_180_46 : mj_at 180 46 = some (.ireturn) := by decide +kernel
set_option maxRecDepth 10000 in
theorem b_X9_movedOf {sl d : Nat} {M : mj_M} {x1 : Int32} {x2 : Int32}  : mj_C sl (d + 1) 180 [.int x1, .int x2] M = mj_E sl (d + 1) 180 4 [.int x1, .int x2, .int 0, .int 0] [] M := by
  show mj_E sl (d + 1) 180 0 [.int x1, .int x2, .null, .null] [] M = _
  refine (sx_iconst (v := 0) dx_180_0 rfl).trans ?_
  refine (sx_istore_n dx_180_1 (Nat.le_of_ble_eq_true rfl) rfl).trans ?_
  refine (sx_iconst (v := 0) dx_180_2 rfl).trans ?_
  refine (sx_istore_n dx_180_3 (Nat.le_of_ble_eq_true rfl) rfl).trans ?_
  rfl
set_option maxRecDepth 10000 in
theorem b_X9_movedOf_4 {sl d : Nat} {M : mj_M} {y0 : Int32} {y1 : Int32} {y2 : Int32} {y3 : Int32}  : mj_E sl (d + 1) 180 4 [.int y0, .int y1, .int y2, .int y3] [] M = if y3 < 25 then ((mj_C sl d 127 [.int y0, .int y3] M).bind (fun q1 => if q1.1 = 0 then (mj_E sl (d + 1) 180 4 [.int y0, .int y1, .int y2, .int (y3 + 1)] [] q1.2) else ((mj_C sl d 124 [.int ((mj_rm y3 5) + y1), .int 0, .int 4] q1.2).bind (fun q2 => if q2.1 = 0 then (mj_E sl (d + 1) 180 4 [.int y0, .int y1, .int y2, .int (y3 + 1)] [] q2.2) else (mj_E sl (d + 1) 180 4 [.int y0, .int y1, .int (y2 ||| ((1 : Int32) <<< ((y3 + y1) &&& 31))), .int (y3 + 1)] [] q2.2))))) else (some ((y2 : Int32), M)) := by
  refine (sx_iload_n dx_180_4 rfl).trans ?_
  refine (sx_bipush (v := 25) dx_180_5 rfl).trans ?_
  refine (sx_icmp_ge (tgt := 45) dx_180_7 (by decide)).trans ?_
  refine mj_ite ?_ ?_
  · refine (sx_iload_n dx_180_10 rfl).trans ?_
    refine (sx_iload_n dx_180_11 rfl).trans ?_
    refine (sx_s2i dx_180_12 ow_180 cx_7_254 (Nat.le_of_ble_eq_true rfl)).trans ?_
    refine mj_bnd (fun q1 => ?_)
    refine (sx_if_eq (tgt := 39) dx_180_15 (by decide)).trans ?_
    refine mj_ite ?_ ?_
    · refine (sx_iinc (v := 1) dx_180_39 rfl rfl rfl).trans ?_
      refine (sx_goto (tgt := 4) dx_180_42 (by decide)).trans ?_
      rfl
    · refine (sx_iload_n dx_180_18 rfl).trans ?_
      refine (sx_iconst (v := 5) dx_180_19 rfl).trans ?_
      refine (sx_irem dx_180_20 (by decide)).trans ?_
      refine (sx_iload_n dx_180_21 rfl).trans ?_
      refine (sx_iadd dx_180_22).trans ?_
      refine (sx_iconst (v := 0) dx_180_23 rfl).trans ?_
      refine (sx_iconst (v := 4) dx_180_24 rfl).trans ?_
      refine (sx_s3i dx_180_25 ow_180 cx_7_90 (Nat.le_of_ble_eq_true rfl)).trans ?_
      refine mj_bnd (fun q2 => ?_)
      refine (sx_if_eq (tgt := 39) dx_180_28 (by decide)).trans ?_
      refine mj_ite ?_ ?_
      · refine (sx_iinc (v := 1) dx_180_39 rfl rfl rfl).trans ?_
        refine (sx_goto (tgt := 4) dx_180_42 (by decide)).trans ?_
        rfl
      · refine (sx_iload_n dx_180_31 rfl).trans ?_
        refine (sx_iconst (v := 1) dx_180_32 rfl).trans ?_
        refine (sx_iload_n dx_180_33 rfl).trans ?_
        refine (sx_iload_n dx_180_34 rfl).trans ?_
        refine (sx_iadd dx_180_35).trans ?_
        refine (sx_ishl dx_180_36).trans ?_
        refine (sx_ior dx_180_37).trans ?_
        refine (sx_istore_n dx_180_38 (Nat.le_of_ble_eq_true rfl) rfl).trans ?_
        refine (sx_iinc (v := 1) dx_180_39 rfl rfl rfl).trans ?_
        refine (sx_goto (tgt := 4) dx_180_42 (by decide)).trans ?_
        rfl
  · refine (sx_iload_n dx_180_45 rfl).trans ?_
    exact sx_reti dx_180_46 rt_180
theorem dx_181_0 : mj_at 181 0 = some (.iload_n 1) := by decide +kernel
theorem dx_181_1 : mj_at 181 1 = some (.lookupswitch 62 #[(33, 43), (60, 50), (62, 56), (126, 45)]) := by decide +kernel
theorem dx_181_44 : mj_at 181 44 = some (.iconst 0) := by decide +kernel
theorem dx_181_45 : mj_at 181 45 = some (.ireturn) := by decide +kernel
theorem dx_181_46 : mj_at 181 46 = some (.iload_n 0) := by decide +kernel
theorem dx_181_47 : mj_at 181 47 = some (.ldc 89) := by decide +kernel
theorem dx_181_49 : mj_at 181 49 = some (.ixor) := by decide +kernel
theorem dx_181_50 : mj_at 181 50 = some (.ireturn) := by decide +kernel
theorem dx_181_51 : mj_at 181 51 = some (.iload_n 0) := by decide +kernel
theorem dx_181_52 : mj_at 181 52 = some (.iconst (-1)) := by decide +kernel
theorem dx_181_53 : mj_at 181 53 = some (.invokestatic 260) := by decide +kernel
theorem dx_181_56 : mj_at 181 56 = some (.ireturn) := by decide +kernel
theorem dx_181_57 : mj_at 181 57 = some (.iload_n 0) := by decide +kernel
theorem dx_181_58 : mj_at 181 58 = some (.iconst 1) := by decide +kernel
theorem dx_181_59 : mj_at 181 59 = some (.invokestatic 260) := by decide +kernel
theorem dx_181_62 : mj_at 181 62 = some (.ireturn) := by decide +kernel
theorem dx_181_63 : mj_at 181 63 = some (.iload_n 0) := by decide +kernel
theorem dx_181_64 : mj_at 181 64 = some (.invokestatic 263) := by decide +kernel
theorem dx_181_67 : mj_at 181 67 = some (.ireturn) := by decide +kernel
set_option maxRecDepth 10000 in
theorem b_X9_blotted {sl d : Nat} {M : mj_M} {x1 : Int32} {x2 : Int32}  : mj_C sl (d + 1) 181 [.int x1, .int x2] M = if x2 = 33 then (some ((0 : Int32), M)) else (if x2 = 60 then ((mj_C sl d 180 [.int x1, .int (-1)] M).bind (fun q1 => some ((q1.1 : Int32), q1.2))) else (if x2 = 62 then ((mj_C sl d 180 [.int x1, .int 1] M).bind (fun q2 => some ((q2.1 : Int32), q2.2))) else (if x2 = 126 then (some ((x1 ^^^ 33554431 : Int32), M)) else ((mj_C sl d 178 [.int x1] M).bind (fun q3 => some ((q3.1 : Int32), q3.2)))))) := by
  show mj_E sl (d + 1) 181 0 [.int x1, .int x2] [] M = _
  refine (sx_iload_n dx_181_0 rfl).trans ?_
  refine mj_sel (fun hx1_0 => ?_) (fun hx1_0 => ?_)
  · refine (sx_lsw (off := 43) (tgt := 44) dx_181_1 (by decide) (by rw [hx1_0]; decide) (by decide)).trans ?_
    refine (sx_iconst (v := 0) dx_181_44 rfl).trans ?_
    exact sx_reti dx_181_45 rt_181
  refine mj_sel (fun hx1_1 => ?_) (fun hx1_1 => ?_)
  · refine (sx_lsw (off := 50) (tgt := 51) dx_181_1 (by decide) (by rw [hx1_1]; decide) (by decide)).trans ?_
    refine (sx_iload_n dx_181_51 rfl).trans ?_
    refine (sx_iconst (v := (-1)) dx_181_52 rfl).trans ?_
    refine (sx_s2i dx_181_53 ow_181 cx_7_260 (Nat.le_of_ble_eq_true rfl)).trans ?_
    refine mj_bnd (fun q1 => ?_)
    exact sx_reti dx_181_56 rt_181
  refine mj_sel (fun hx1_2 => ?_) (fun hx1_2 => ?_)
  · refine (sx_lsw (off := 56) (tgt := 57) dx_181_1 (by decide) (by rw [hx1_2]; decide) (by decide)).trans ?_
    refine (sx_iload_n dx_181_57 rfl).trans ?_
    refine (sx_iconst (v := 1) dx_181_58 rfl).trans ?_
    refine (sx_s2i dx_181_59 ow_181 cx_7_260 (Nat.le_of_ble_eq_true rfl)).trans ?_
    refine mj_bnd (fun q2 => ?_)
    exact sx_reti dx_181_62 rt_181
  refine mj_sel (fun hx1_3 => ?_) (fun hx1_3 => ?_)
  · refine (sx_lsw (off := 45) (tgt := 46) dx_181_1 (by decide) (by rw [hx1_3]; decide) (by decide)).trans ?_
    refine (sx_iload_n dx_181_46 rfl).trans ?_
    refine (sx_ldc (v := 33554431) dx_181_47 ow_181 kx_7_89).trans ?_
    refine (sx_ixor dx_181_49).trans ?_
    exact sx_reti dx_181_50 rt_181
  have zhx1_0 := mj_ne hx1_0 (n := 33) (by decide)
  have zhx1_1 := mj_ne hx1_1 (n := 60) (by decide)
  have zhx1_2 := mj_ne hx1_2 (n := 62) (by decide)
  have zhx1_3 := mj_ne hx1_3 (n := 126) (by decide)
  refine (sx_lsw (off := 62) (tgt := 63) dx_181_1 (by decide) (by simp [Op.lookupswitch.offset, mj_nes zhx1_0, mj_nes zhx1_1, mj_nes zhx1_2, mj_nes zhx1_3]) (by decide)).trans ?_
  refine (sx_iload_n dx_181_63 rfl).trans ?_
  refine (sx_s1i dx_181_64 ow_181 cx_7_263 (Nat.le_of_ble_eq_true rfl)).trans ?_
  refine mj_bnd (fun q3 => ?_)
  exact sx_reti dx_181_67 rt_181
theorem dx_182_0 : mj_at 182 0 = some (.iload_n 0) := by decide +kernel
theorem dx_182_1 : mj_at 182 1 = some (.bipush 33) := by decide +kernel
theorem dx_182_3 : mj_at 182 3 = some (.if_icmp .eq 27) := by decide +kernel
theorem dx_182_6 : mj_at 182 6 = some (.iload_n 0) := by decide +kernel
theorem dx_182_7 : mj_at 182 7 = some (.bipush 126) := by decide +kernel
theorem dx_182_9 : mj_at 182 9 = some (.if_icmp .eq 21) := by decide +kernel
theorem dx_182_12 : mj_at 182 12 = some (.iload_n 0) := by decide +kernel
theorem dx_182_13 : mj_at 182 13 = some (.bipush 60) := by decide +kernel
theorem dx_182_15 : mj_at 182 15 = some (.if_icmp .eq 15) := by decide +kernel
theorem dx_182_18 : mj_at 182 18 = some (.iload_n 0) := by decide +kernel
theorem dx_182_19 : mj_at 182 19 = some (.bipush 62) := by decide +kernel
theorem dx_182_21 : mj_at 182 21 = some (.if_icmp .eq 9) := by decide +kernel
theorem dx_182_24 : mj_at 182 24 = some (.iload_n 0) := by decide +kernel
theorem dx_182_25 : mj_at 182 25 = some (.bipush 124) := by decide +kernel
theorem dx_182_27 : mj_at 182 27 = some (.if_icmp .ne 7) := by decide +kernel
theorem dx_182_30 : mj_at 182 30 = some (.iconst 1) := by decide +kernel
theorem dx_182_31 : mj_at 182 31 = some (.goto 4) := by decide +kernel
theorem dx_182_34 : mj_at 182 34 = some (.iconst 0) := by decide +kernel
theorem dx_182_35 : mj_at 182 35 = some (.ireturn) := by decide +kernel
set_option maxRecDepth 10000 in
theorem b_X9_isSign {sl d : Nat} {M : mj_M} {x1 : Int32}  : mj_C sl d 182 [.int x1] M = if x1 = 33 then (some ((1 : Int32), M)) else (if x1 = 126 then (some ((1 : Int32), M)) else (if x1 = 60 then (some ((1 : Int32), M)) else (if x1 = 62 then (some ((1 : Int32), M)) else (if x1 = 124 then (some ((1 : Int32), M)) else (some ((0 : Int32), M)))))) := by
  show mj_E sl d 182 0 [.int x1] [] M = _
  refine (sx_iload_n dx_182_0 rfl).trans ?_
  refine (sx_bipush (v := 33) dx_182_1 rfl).trans ?_
  refine (sx_icmp_eq (tgt := 30) dx_182_3 (by decide)).trans ?_
  refine mj_ite ?_ ?_
  · refine (sx_iconst (v := 1) dx_182_30 rfl).trans ?_
    refine (sx_goto (tgt := 35) dx_182_31 (by decide)).trans ?_
    exact sx_retz dx_182_35 rt_182 (by decide)
  · refine (sx_iload_n dx_182_6 rfl).trans ?_
    refine (sx_bipush (v := 126) dx_182_7 rfl).trans ?_
    refine (sx_icmp_eq (tgt := 30) dx_182_9 (by decide)).trans ?_
    refine mj_ite ?_ ?_
    · refine (sx_iconst (v := 1) dx_182_30 rfl).trans ?_
      refine (sx_goto (tgt := 35) dx_182_31 (by decide)).trans ?_
      exact sx_retz dx_182_35 rt_182 (by decide)
    · refine (sx_iload_n dx_182_12 rfl).trans ?_
      refine (sx_bipush (v := 60) dx_182_13 rfl).trans ?_
      refine (sx_icmp_eq (tgt := 30) dx_182_15 (by decide)).trans ?_
      refine mj_ite ?_ ?_
      · refine (sx_iconst (v := 1) dx_182_30 rfl).trans ?_
        refine (sx_goto (tgt := 35) dx_182_31 (by decide)).trans ?_
        exact sx_retz dx_182_35 rt_182 (by decide)
      · refine (sx_iload_n dx_182_18 rfl).trans ?_
        refine (sx_bipush (v := 62) dx_182_19 rfl).trans ?_
        refine (sx_icmp_eq (tgt := 30) dx_182_21 (by decide)).trans ?_
        refine mj_ite ?_ ?_
        · refine (sx_iconst (v := 1) dx_182_30 rfl).trans ?_
          refine (sx_goto (tgt := 35) dx_182_31 (by decide)).trans ?_
          exact sx_retz dx_182_35 rt_182 (by decide)
        · refine (sx_iload_n dx_182_24 rfl).trans ?_
          refine (sx_bipush (v := 124) dx_182_25 rfl).trans ?_
          refine (sx_icmp_ne (tgt := 34) dx_182_27 (by decide)).trans ?_
          refine mj_ite ?_ ?_
          · refine (sx_iconst (v := 1) dx_182_30 rfl).trans ?_
            refine (sx_goto (tgt := 35) dx_182_31 (by decide)).trans ?_
            exact sx_retz dx_182_35 rt_182 (by decide)
          · refine (sx_iconst (v := 0) dx_182_34 rfl).trans ?_
            exact sx_retz dx_182_35 rt_182 (by decide)
theorem dx_183_0 : mj_at 183 0 = some (.aload_n 0) := by decide +kernel
theorem dx_183_1 : mj_at 183 1 = some (.invokevirtual 137) := by decide +kernel
theorem dx_183_4 : mj_at 183 4 = some (.bipush 48) := by decide +kernel
theorem dx_183_6 : mj_at 183 6 = some (.isub) := by decide +kernel
theorem dx_183_7 : mj_at 183 7 = some (.istore_n 1) := by decide +kernel
theorem dx_183_8 : mj_at 183 8 = some (.iload_n 1) := by decide +kernel
theorem dx_183_9 : mj_at 183 9 = some (.iconst 0) := by decide +kernel
theorem dx_183_10 : mj_at 183 10 = some (.bipush 9) := by decide +kernel
theorem dx_183_12 : mj_at 183 12 = some (.invokestatic 90) := by decide +kernel
theorem dx_183_15 : mj_at 183 15 = some (.ifCond .ne 13) := by decide +kernel
theorem dx_183_18 : mj_at 183 18 = some (.aload_n 0) := by decide +kernel
theorem dx_183_19 : mj_at 183 19 = some (.iconst 1) := by decide +kernel
theorem dx_183_20 : mj_at 183 20 = some (.aload_n 0) := by decide +kernel
theorem dx_183_21 : mj_at 183 21 = some (.getfield 131) := by decide +kernel
theorem dx_183_24 : mj_at 183 24 = some (.invokevirtual 144) := by decide +kernel
theorem dx_183_27 : mj_at 183 27 = some (.ireturn) := by decide +kernel
theorem dx_183_28 : mj_at 183 28 = some (.aload_n 0) := by decide +kernel
theorem dx_183_29 : mj_at 183 29 = some (.getfield 266) := by decide +kernel
theorem dx_183_32 : mj_at 183 32 = some (.bipush 20) := by decide +kernel
theorem dx_183_34 : mj_at 183 34 = some (.if_icmp .ne 13) := by decide +kernel
theorem dx_183_37 : mj_at 183 37 = some (.aload_n 0) := by decide +kernel
theorem dx_183_38 : mj_at 183 38 = some (.iconst 4) := by decide +kernel
theorem dx_183_39 : mj_at 183 39 = some (.aload_n 0) := by decide +kernel
theorem dx_183_40 : mj_at 183 40 = some (.getfield 131) := by decide +kernel
theorem dx_183_43 : mj_at 183 43 = some (.invokevirtual 144) := by decide +kernel
theorem dx_183_46 : mj_at 183 46 = some (.ireturn) := by decide +kernel
theorem dx_183_47 : mj_at 183 47 = some (.aload_n 0) := by decide +kernel
theorem dx_183_48 : mj_at 183 48 = some (.iload_n 1) := by decide +kernel
theorem dx_183_49 : mj_at 183 49 = some (.invokevirtual 98) := by decide +kernel
theorem dx_183_52 : mj_at 183 52 = some (.ifCond .ne 14) := by decide +kernel
theorem dx_183_55 : mj_at 183 55 = some (.aload_n 0) := by decide +kernel
theorem dx_183_56 : mj_at 183 56 = some (.bipush 7) := by decide +kernel
theorem dx_183_58 : mj_at 183 58 = some (.aload_n 0) := by decide +kernel
theorem dx_183_59 : mj_at 183 59 = some (.getfield 131) := by decide +kernel
theorem dx_183_62 : mj_at 183 62 = some (.invokevirtual 144) := by decide +kernel
theorem dx_183_65 : mj_at 183 65 = some (.ireturn) := by decide +kernel
theorem dx_183_66 : mj_at 183 66 = some (.aload_n 0) := by decide +kernel
theorem dx_183_67 : mj_at 183 67 = some (.aload_n 0) := by decide +kernel
theorem dx_183_68 : mj_at 183 68 = some (.getfield 131) := by decide +kernel
theorem dx_183_71 : mj_at 183 71 = some (.iconst 1) := by decide +kernel
theorem dx_183_72 : mj_at 183 72 = some (.iadd) := by decide +kernel
theorem dx_183_73 : mj_at 183 73 = some (.putfield 131) := by decide +kernel
theorem dx_183_76 : mj_at 183 76 = some (.aload_n 0) := by decide +kernel
theorem dx_183_77 : mj_at 183 77 = some (.invokevirtual 137) := by decide +kernel
theorem dx_183_80 : mj_at 183 80 = some (.bipush 65) := by decide +kernel
theorem dx_183_82 : mj_at 183 82 = some (.isub) := by decide +kernel
theorem dx_183_83 : mj_at 183 83 = some (.istore_n 2) := by decide +kernel
theorem dx_183_84 : mj_at 183 84 = some (.iload_n 2) := by decide +kernel
theorem dx_183_85 : mj_at 183 85 = some (.iconst 0) := by decide +kernel
theorem dx_183_86 : mj_at 183 86 = some (.bipush 7) := by decide +kernel
theorem dx_183_88 : mj_at 183 88 = some (.invokestatic 90) := by decide +kernel
theorem dx_183_91 : mj_at 183 91 = some (.ifCond .ne 13) := by decide +kernel
theorem dx_183_94 : mj_at 183 94 = some (.aload_n 0) := by decide +kernel
theorem dx_183_95 : mj_at 183 95 = some (.iconst 1) := by decide +kernel
theorem dx_183_96 : mj_at 183 96 = some (.aload_n 0) := by decide +kernel
theorem dx_183_97 : mj_at 183 97 = some (.getfield 131) := by decide +kernel
theorem dx_183_100 : mj_at 183 100 = some (.invokevirtual 144) := by decide +kernel
theorem dx_183_103 : mj_at 183 103 = some (.ireturn) := by decide +kernel
theorem dx_183_104 : mj_at 183 104 = some (.aload_n 0) := by decide +kernel
theorem dx_183_105 : mj_at 183 105 = some (.iload_n 2) := by decide +kernel
theorem dx_183_106 : mj_at 183 106 = some (.invokevirtual 94) := by decide +kernel
theorem dx_183_109 : mj_at 183 109 = some (.ifCond .ne 14) := by decide +kernel
theorem dx_183_112 : mj_at 183 112 = some (.aload_n 0) := by decide +kernel
theorem dx_183_113 : mj_at 183 113 = some (.bipush 7) := by decide +kernel
theorem dx_183_115 : mj_at 183 115 = some (.aload_n 0) := by decide +kernel
theorem dx_183_116 : mj_at 183 116 = some (.getfield 131) := by decide +kernel
theorem dx_183_119 : mj_at 183 119 = some (.invokevirtual 144) := by decide +kernel
theorem dx_183_122 : mj_at 183 122 = some (.ireturn) := by decide +kernel
theorem dx_183_123 : mj_at 183 123 = some (.aload_n 0) := by decide +kernel
theorem dx_183_124 : mj_at 183 124 = some (.aload_n 0) := by decide +kernel
theorem dx_183_125 : mj_at 183 125 = some (.getfield 131) := by decide +kernel
theorem dx_183_128 : mj_at 183 128 = some (.iconst 1) := by decide +kernel
theorem dx_183_129 : mj_at 183 129 = some (.iadd) := by decide +kernel
theorem dx_183_130 : mj_at 183 130 = some (.putfield 131) := by decide +kernel
theorem dx_183_133 : mj_at 183 133 = some (.aload_n 0) := by decide +kernel
theorem dx_183_134 : mj_at 183 134 = some (.iload_n 1) := by decide +kernel
theorem dx_183_135 : mj_at 183 135 = some (.iload_n 2) := by decide +kernel
theorem dx_183_136 : mj_at 183 136 = some (.invokevirtual 105) := by decide +kernel
theorem dx_183_139 : mj_at 183 139 = some (.istore_n 3) := by decide +kernel
theorem dx_183_140 : mj_at 183 140 = some (.aload_n 0) := by decide +kernel
theorem dx_183_141 : mj_at 183 141 = some (.invokevirtual 137) := by decide +kernel
theorem dx_183_144 : mj_at 183 144 = some (.invokestatic 269) := by decide +kernel
theorem dx_183_147 : mj_at 183 147 = some (.ifCond .eq 25) := by decide +kernel
theorem dx_183_150 : mj_at 183 150 = some (.iload_n 3) := by decide +kernel
theorem dx_183_151 : mj_at 183 151 = some (.aload_n 0) := by decide +kernel
theorem dx_183_152 : mj_at 183 152 = some (.invokevirtual 137) := by decide +kernel
theorem dx_183_155 : mj_at 183 155 = some (.invokestatic 272) := by decide +kernel
theorem dx_183_158 : mj_at 183 158 = some (.istore_n 3) := by decide +kernel
theorem dx_183_159 : mj_at 183 159 = some (.aload_n 0) := by decide +kernel
theorem dx_183_160 : mj_at 183 160 = some (.aload_n 0) := by decide +kernel
theorem dx_183_161 : mj_at 183 161 = some (.getfield 131) := by decide +kernel
theorem dx_183_164 : mj_at 183 164 = some (.iconst 1) := by decide +kernel
theorem dx_183_165 : mj_at 183 165 = some (.iadd) := by decide +kernel
theorem dx_183_166 : mj_at 183 166 = some (.putfield 131) := by decide +kernel
theorem dx_183_169 : mj_at 183 169 = some (.goto 66) := by decide +kernel
theorem dx_183_172 : mj_at 183 172 = some (.aload_n 0) := by decide +kernel
theorem dx_183_173 : mj_at 183 173 = some (.invokevirtual 137) := by decide +kernel
theorem dx_183_176 : mj_at 183 176 = some (.bipush 97) := by decide +kernel
theorem dx_183_178 : mj_at 183 178 = some (.bipush 121) := by decide +kernel
theorem dx_183_180 : mj_at 183 180 = some (.invokestatic 90) := by decide +kernel
theorem dx_183_183 : mj_at 183 183 = some (.ifCond .ne 13) := by decide +kernel
theorem dx_183_186 : mj_at 183 186 = some (.aload_n 0) := by decide +kernel
theorem dx_183_187 : mj_at 183 187 = some (.iconst 1) := by decide +kernel
theorem dx_183_188 : mj_at 183 188 = some (.aload_n 0) := by decide +kernel
theorem dx_183_189 : mj_at 183 189 = some (.getfield 131) := by decide +kernel
theorem dx_183_192 : mj_at 183 192 = some (.invokevirtual 144) := by decide +kernel
theorem dx_183_195 : mj_at 183 195 = some (.ireturn) := by decide +kernel
theorem dx_183_196 : mj_at 183 196 = some (.aload_n 0) := by decide +kernel
theorem dx_183_197 : mj_at 183 197 = some (.invokevirtual 137) := by decide +kernel
theorem dx_183_200 : mj_at 183 200 = some (.bipush 97) := by decide +kernel
theorem dx_183_202 : mj_at 183 202 = some (.bipush 121) := by decide +kernel
theorem dx_183_204 : mj_at 183 204 = some (.invokestatic 90) := by decide +kernel
theorem dx_183_207 : mj_at 183 207 = some (.ifCond .eq 28) := by decide +kernel
theorem dx_183_210 : mj_at 183 210 = some (.iload_n 3) := by decide +kernel
theorem dx_183_211 : mj_at 183 211 = some (.iconst 1) := by decide +kernel
theorem dx_183_212 : mj_at 183 212 = some (.aload_n 0) := by decide +kernel
theorem dx_183_213 : mj_at 183 213 = some (.invokevirtual 137) := by decide +kernel
theorem dx_183_216 : mj_at 183 216 = some (.bipush 97) := by decide +kernel
theorem dx_183_218 : mj_at 183 218 = some (.isub) := by decide +kernel
theorem dx_183_219 : mj_at 183 219 = some (.ishl) := by decide +kernel
theorem dx_183_220 : mj_at 183 220 = some (.ixor) := by decide +kernel
theorem dx_183_221 : mj_at 183 221 = some (.istore_n 3) := by decide +kernel
theorem dx_183_222 : mj_at 183 222 = some (.aload_n 0) := by decide +kernel
theorem dx_183_223 : mj_at 183 223 = some (.aload_n 0) := by decide +kernel
theorem dx_183_224 : mj_at 183 224 = some (.getfield 131) := by decide +kernel
theorem dx_183_227 : mj_at 183 227 = some (.iconst 1) := by decide +kernel
theorem dx_183_228 : mj_at 183 228 = some (.iadd) := by decide +kernel
theorem dx_183_229 : mj_at 183 229 = some (.putfield 131) := by decide +kernel
theorem dx_183_232 : mj_at 183 232 = some (.goto (-36)) := by decide +kernel
theorem dx_183_235 : mj_at 183 235 = some (.aload_n 0) := by decide +kernel
theorem dx_183_236 : mj_at 183 236 = some (.getfield 7) := by decide +kernel
theorem dx_183_239 : mj_at 183 239 = some (.iload_n 1) := by decide +kernel
theorem dx_183_240 : mj_at 183 240 = some (.iload_n 2) := by decide +kernel
theorem dx_183_241 : mj_at 183 241 = some (.invokestatic 101) := by decide +kernel
theorem dx_183_244 : mj_at 183 244 = some (.iload_n 3) := by decide +kernel
theorem dx_183_245 : mj_at 183 245 = some (.iastore) := by decide +kernel
theorem dx_183_246 : mj_at 183 246 = some (.aload_n 0) := by decide +kernel
theorem dx_183_247 : mj_at 183 247 = some (.aload_n 0) := by decide +kernel
theorem dx_183_248 : mj_at 183 248 = some (.getfield 266) := by decide +kernel
theorem dx_183_251 : mj_at 183 251 = some (.iconst 1) := by decide +kernel
theorem dx_183_252 : mj_at 183 252 = some (.iadd) := by decide +kernel
theorem dx_183_253 : mj_at 183 253 = some (.putfield 266) := by decide +kernel
theorem dx_183_256 : mj_at 183 256 = some (.iconst 1) := by decide +kernel
theorem dx_183_257 : mj_at 183 257 = some (.ireturn) := by decide +kernel
set_option maxRecDepth 10000 in
theorem b_X9_readsBlot {sl d : Nat} {M : mj_M}   : mj_C sl (d + 1) 183 [.ref 45] M = (mj_C sl d 147 [.ref 45] M).bind (fun q1 => (mj_C sl d 124 [.int (q1.1 - 48), .int 0, .int 9] q1.2).bind (fun q2 => if q2.1 = 0 then ((mj_C sl d 149 [.ref 45, .int 1, .int (q2.2 45 6)] q2.2).bind (fun q3 => if q3.1 &&& 1 = q3.1 then some ((q3.1 : Int32), q3.2) else none)) else (if q2.2 45 35 = 20 then ((mj_C sl d 149 [.ref 45, .int 4, .int (q2.2 45 6)] q2.2).bind (fun q4 => if q4.1 &&& 1 = q4.1 then some ((q4.1 : Int32), q4.2) else none)) else ((mj_C sl d 132 [.ref 45, .int (q1.1 - 48)] q2.2).bind (fun q5 => if q5.1 = 0 then ((mj_C sl d 149 [.ref 45, .int 7, .int (q5.2 45 6)] q5.2).bind (fun q6 => if q6.1 &&& 1 = q6.1 then some ((q6.1 : Int32), q6.2) else none)) else ((mj_C sl d 147 [.ref 45] (mj_st q5.2 45 6 ((q5.2 45 6) + 1))).bind (fun q7 => (mj_C sl d 124 [.int (q7.1 - 65), .int 0, .int 7] q7.2).bind (fun q8 => if q8.1 = 0 then ((mj_C sl d 149 [.ref 45, .int 1, .int (q8.2 45 6)] q8.2).bind (fun q9 => if q9.1 &&& 1 = q9.1 then some ((q9.1 : Int32), q9.2) else none)) else ((mj_C sl d 131 [.ref 45, .int (q7.1 - 65)] q8.2).bind (fun q10 => if q10.1 = 0 then ((mj_C sl d 149 [.ref 45, .int 7, .int (q10.2 45 6)] q10.2).bind (fun q11 => if q11.1 &&& 1 = q11.1 then some ((q11.1 : Int32), q11.2) else none)) else ((mj_C sl d 136 [.ref 45, .int (q1.1 - 48), .int (q7.1 - 65)] (mj_st q10.2 45 6 ((q10.2 45 6) + 1))).bind (fun q12 => (mj_C sl d 147 [.ref 45] q12.2).bind (fun q13 => (mj_C sl d 182 [.int q13.1] q13.2).bind (fun q14 => if q14.1 = 0 then ((mj_C sl d 147 [.ref 45] q14.2).bind (fun q15 => (mj_C sl d 124 [.int q15.1, .int 97, .int 121] q15.2).bind (fun q16 => if q16.1 = 0 then ((mj_C sl d 149 [.ref 45, .int 1, .int (q16.2 45 6)] q16.2).bind (fun q17 => if q17.1 &&& 1 = q17.1 then some ((q17.1 : Int32), q17.2) else none)) else (mj_E sl (d + 1) 183 196 [.ref 45, .int (q1.1 - 48), .int (q7.1 - 65), .int q12.1] [] q16.2)))) else ((mj_C sl d 147 [.ref 45] q14.2).bind (fun q18 => (mj_C sl d 181 [.int q12.1, .int q18.1] q18.2).bind (fun q19 => (mj_C sl d 135 [.int (q1.1 - 48), .int (q7.1 - 65)] (mj_st q19.2 45 6 ((q19.2 45 6) + 1))).bind (fun q20 => if mj_inB q20.1 112 = true then (some ((1 : Int32), mj_st (mj_st q20.2 46 (q20.1 : Int32).toNatClampNeg q19.1) 45 35 (((mj_st q20.2 46 (q20.1 : Int32).toNatClampNeg q19.1) 45 35) + 1))) else none)))))))))))))))))) := by
  show mj_E sl (d + 1) 183 0 [.ref 45, .null, .null, .null] [] M = _
  refine (sx_aload_n dx_183_0 rfl).trans ?_
  refine (sx_v0i dx_183_1 ow_183 cx_7_137 oc_45 (Nat.le_of_ble_eq_true rfl)).trans ?_
  refine mj_bnd (fun q1 => ?_)
  refine (sx_bipush (v := 48) dx_183_4 rfl).trans ?_
  refine (sx_isub dx_183_6).trans ?_
  refine (sx_istore_n dx_183_7 (Nat.le_of_ble_eq_true rfl) rfl).trans ?_
  refine (sx_iload_n dx_183_8 rfl).trans ?_
  refine (sx_iconst (v := 0) dx_183_9 rfl).trans ?_
  refine (sx_bipush (v := 9) dx_183_10 rfl).trans ?_
  refine (sx_s3i dx_183_12 ow_183 cx_7_90 (Nat.le_of_ble_eq_true rfl)).trans ?_
  refine mj_bnd (fun q2 => ?_)
  refine (sx_if_ne (tgt := 28) dx_183_15 (by decide)).trans ?_
  refine mj_ite ?_ ?_
  · refine (sx_aload_n dx_183_18 rfl).trans ?_
    refine (sx_iconst (v := 1) dx_183_19 rfl).trans ?_
    refine (sx_aload_n dx_183_20 rfl).trans ?_
    refine (sx_gfi dx_183_21 ow_183 fx_7_131 (by decide) oc_45).trans ?_
    refine (sx_v2i dx_183_24 ow_183 cx_7_144 oc_45 (Nat.le_of_ble_eq_true rfl)).trans ?_
    refine mj_bnd (fun q3 => ?_)
    exact sx_retg dx_183_27 rt_183
  · refine (sx_aload_n dx_183_28 rfl).trans ?_
    refine (sx_gfi dx_183_29 ow_183 fx_7_266 (by decide) oc_45).trans ?_
    refine (sx_bipush (v := 20) dx_183_32 rfl).trans ?_
    refine (sx_icmp_ne (tgt := 47) dx_183_34 (by decide)).trans ?_
    refine mj_ite ?_ ?_
    · refine (sx_aload_n dx_183_37 rfl).trans ?_
      refine (sx_iconst (v := 4) dx_183_38 rfl).trans ?_
      refine (sx_aload_n dx_183_39 rfl).trans ?_
      refine (sx_gfi dx_183_40 ow_183 fx_7_131 (by decide) oc_45).trans ?_
      refine (sx_v2i dx_183_43 ow_183 cx_7_144 oc_45 (Nat.le_of_ble_eq_true rfl)).trans ?_
      refine mj_bnd (fun q4 => ?_)
      exact sx_retg dx_183_46 rt_183
    · refine (sx_aload_n dx_183_47 rfl).trans ?_
      refine (sx_iload_n dx_183_48 rfl).trans ?_
      refine (sx_v1i dx_183_49 ow_183 cx_7_98 oc_45 (Nat.le_of_ble_eq_true rfl)).trans ?_
      refine mj_bnd (fun q5 => ?_)
      refine (sx_if_ne (tgt := 66) dx_183_52 (by decide)).trans ?_
      refine mj_ite ?_ ?_
      · refine (sx_aload_n dx_183_55 rfl).trans ?_
        refine (sx_bipush (v := 7) dx_183_56 rfl).trans ?_
        refine (sx_aload_n dx_183_58 rfl).trans ?_
        refine (sx_gfi dx_183_59 ow_183 fx_7_131 (by decide) oc_45).trans ?_
        refine (sx_v2i dx_183_62 ow_183 cx_7_144 oc_45 (Nat.le_of_ble_eq_true rfl)).trans ?_
        refine mj_bnd (fun q6 => ?_)
        exact sx_retg dx_183_65 rt_183
      · refine (sx_aload_n dx_183_66 rfl).trans ?_
        refine (sx_aload_n dx_183_67 rfl).trans ?_
        refine (sx_gfi dx_183_68 ow_183 fx_7_131 (by decide) oc_45).trans ?_
        refine (sx_iconst (v := 1) dx_183_71 rfl).trans ?_
        refine (sx_iadd dx_183_72).trans ?_
        refine (sx_pfi dx_183_73 ow_183 fx_7_131 oc_45).trans ?_
        refine (sx_aload_n dx_183_76 rfl).trans ?_
        refine (sx_v0i dx_183_77 ow_183 cx_7_137 oc_45 (Nat.le_of_ble_eq_true rfl)).trans ?_
        refine mj_bnd (fun q7 => ?_)
        refine (sx_bipush (v := 65) dx_183_80 rfl).trans ?_
        refine (sx_isub dx_183_82).trans ?_
        refine (sx_istore_n dx_183_83 (Nat.le_of_ble_eq_true rfl) rfl).trans ?_
        refine (sx_iload_n dx_183_84 rfl).trans ?_
        refine (sx_iconst (v := 0) dx_183_85 rfl).trans ?_
        refine (sx_bipush (v := 7) dx_183_86 rfl).trans ?_
        refine (sx_s3i dx_183_88 ow_183 cx_7_90 (Nat.le_of_ble_eq_true rfl)).trans ?_
        refine mj_bnd (fun q8 => ?_)
        refine (sx_if_ne (tgt := 104) dx_183_91 (by decide)).trans ?_
        refine mj_ite ?_ ?_
        · refine (sx_aload_n dx_183_94 rfl).trans ?_
          refine (sx_iconst (v := 1) dx_183_95 rfl).trans ?_
          refine (sx_aload_n dx_183_96 rfl).trans ?_
          refine (sx_gfi dx_183_97 ow_183 fx_7_131 (by decide) oc_45).trans ?_
          refine (sx_v2i dx_183_100 ow_183 cx_7_144 oc_45 (Nat.le_of_ble_eq_true rfl)).trans ?_
          refine mj_bnd (fun q9 => ?_)
          exact sx_retg dx_183_103 rt_183
        · refine (sx_aload_n dx_183_104 rfl).trans ?_
          refine (sx_iload_n dx_183_105 rfl).trans ?_
          refine (sx_v1i dx_183_106 ow_183 cx_7_94 oc_45 (Nat.le_of_ble_eq_true rfl)).trans ?_
          refine mj_bnd (fun q10 => ?_)
          refine (sx_if_ne (tgt := 123) dx_183_109 (by decide)).trans ?_
          refine mj_ite ?_ ?_
          · refine (sx_aload_n dx_183_112 rfl).trans ?_
            refine (sx_bipush (v := 7) dx_183_113 rfl).trans ?_
            refine (sx_aload_n dx_183_115 rfl).trans ?_
            refine (sx_gfi dx_183_116 ow_183 fx_7_131 (by decide) oc_45).trans ?_
            refine (sx_v2i dx_183_119 ow_183 cx_7_144 oc_45 (Nat.le_of_ble_eq_true rfl)).trans ?_
            refine mj_bnd (fun q11 => ?_)
            exact sx_retg dx_183_122 rt_183
          · refine (sx_aload_n dx_183_123 rfl).trans ?_
            refine (sx_aload_n dx_183_124 rfl).trans ?_
            refine (sx_gfi dx_183_125 ow_183 fx_7_131 (by decide) oc_45).trans ?_
            refine (sx_iconst (v := 1) dx_183_128 rfl).trans ?_
            refine (sx_iadd dx_183_129).trans ?_
            refine (sx_pfi dx_183_130 ow_183 fx_7_131 oc_45).trans ?_
            refine (sx_aload_n dx_183_133 rfl).trans ?_
            refine (sx_iload_n dx_183_134 rfl).trans ?_
            refine (sx_iload_n dx_183_135 rfl).trans ?_
            refine (sx_v2i dx_183_136 ow_183 cx_7_105 oc_45 (Nat.le_of_ble_eq_true rfl)).trans ?_
            refine mj_bnd (fun q12 => ?_)
            refine (sx_istore_n dx_183_139 (Nat.le_of_ble_eq_true rfl) rfl).trans ?_
            refine (sx_aload_n dx_183_140 rfl).trans ?_
            refine (sx_v0i dx_183_141 ow_183 cx_7_137 oc_45 (Nat.le_of_ble_eq_true rfl)).trans ?_
            refine mj_bnd (fun q13 => ?_)
            refine (sx_s1i dx_183_144 ow_183 cx_7_269 (Nat.le_of_ble_eq_true rfl)).trans ?_
            refine mj_bnd (fun q14 => ?_)
            refine (sx_if_eq (tgt := 172) dx_183_147 (by decide)).trans ?_
            refine mj_ite ?_ ?_
            · refine (sx_aload_n dx_183_172 rfl).trans ?_
              refine (sx_v0i dx_183_173 ow_183 cx_7_137 oc_45 (Nat.le_of_ble_eq_true rfl)).trans ?_
              refine mj_bnd (fun q15 => ?_)
              refine (sx_bipush (v := 97) dx_183_176 rfl).trans ?_
              refine (sx_bipush (v := 121) dx_183_178 rfl).trans ?_
              refine (sx_s3i dx_183_180 ow_183 cx_7_90 (Nat.le_of_ble_eq_true rfl)).trans ?_
              refine mj_bnd (fun q16 => ?_)
              refine (sx_if_ne (tgt := 196) dx_183_183 (by decide)).trans ?_
              refine mj_ite ?_ ?_
              · refine (sx_aload_n dx_183_186 rfl).trans ?_
                refine (sx_iconst (v := 1) dx_183_187 rfl).trans ?_
                refine (sx_aload_n dx_183_188 rfl).trans ?_
                refine (sx_gfi dx_183_189 ow_183 fx_7_131 (by decide) oc_45).trans ?_
                refine (sx_v2i dx_183_192 ow_183 cx_7_144 oc_45 (Nat.le_of_ble_eq_true rfl)).trans ?_
                refine mj_bnd (fun q17 => ?_)
                exact sx_retg dx_183_195 rt_183
              · rfl
            · refine (sx_iload_n dx_183_150 rfl).trans ?_
              refine (sx_aload_n dx_183_151 rfl).trans ?_
              refine (sx_v0i dx_183_152 ow_183 cx_7_137 oc_45 (Nat.le_of_ble_eq_true rfl)).trans ?_
              refine mj_bnd (fun q18 => ?_)
              refine (sx_s2i dx_183_155 ow_183 cx_7_272 (Nat.le_of_ble_eq_true rfl)).trans ?_
              refine mj_bnd (fun q19 => ?_)
              refine (sx_istore_n dx_183_158 (Nat.le_of_ble_eq_true rfl) rfl).trans ?_
              refine (sx_aload_n dx_183_159 rfl).trans ?_
              refine (sx_aload_n dx_183_160 rfl).trans ?_
              refine (sx_gfi dx_183_161 ow_183 fx_7_131 (by decide) oc_45).trans ?_
              refine (sx_iconst (v := 1) dx_183_164 rfl).trans ?_
              refine (sx_iadd dx_183_165).trans ?_
              refine (sx_pfi dx_183_166 ow_183 fx_7_131 oc_45).trans ?_
              refine (sx_goto (tgt := 235) dx_183_169 (by decide)).trans ?_
              refine (sx_aload_n dx_183_235 rfl).trans ?_
              refine (sx_gfr dx_183_236 ow_183 fx_7_7 oc_45 rb_45_0).trans ?_
              refine (sx_iload_n dx_183_239 rfl).trans ?_
              refine (sx_iload_n dx_183_240 rfl).trans ?_
              refine (sx_s2i dx_183_241 ow_183 cx_7_101 (Nat.le_of_ble_eq_true rfl)).trans ?_
              refine mj_bnd (fun q20 => ?_)
              refine (sx_iload_n dx_183_244 rfl).trans ?_
              refine (sx_ist dx_183_245 ia_46).trans ?_
              refine mj_ite ?_ rfl
              refine (sx_aload_n dx_183_246 rfl).trans ?_
              refine (sx_aload_n dx_183_247 rfl).trans ?_
              refine (sx_gfi dx_183_248 ow_183 fx_7_266 (by decide) oc_45).trans ?_
              refine (sx_iconst (v := 1) dx_183_251 rfl).trans ?_
              refine (sx_iadd dx_183_252).trans ?_
              refine (sx_pfi dx_183_253 ow_183 fx_7_266 oc_45).trans ?_
              refine (sx_iconst (v := 1) dx_183_256 rfl).trans ?_
              exact sx_retz dx_183_257 rt_183 (by decide)
set_option maxRecDepth 10000 in
theorem b_X9_readsBlot_196 {sl d : Nat} {M : mj_M} {y1 : Int32} {y2 : Int32} {y3 : Int32}  : mj_E sl (d + 1) 183 196 [.ref 45, .int y1, .int y2, .int y3] [] M = (mj_C sl d 147 [.ref 45] M).bind (fun q1 => (mj_C sl d 124 [.int q1.1, .int 97, .int 121] q1.2).bind (fun q2 => if q2.1 = 0 then ((mj_C sl d 135 [.int y1, .int y2] q2.2).bind (fun q3 => if mj_inB q3.1 112 = true then (some ((1 : Int32), mj_st (mj_st q3.2 46 (q3.1 : Int32).toNatClampNeg y3) 45 35 (((mj_st q3.2 46 (q3.1 : Int32).toNatClampNeg y3) 45 35) + 1))) else none)) else ((mj_C sl d 147 [.ref 45] q2.2).bind (fun q4 => mj_E sl (d + 1) 183 196 [.ref 45, .int y1, .int y2, .int (y3 ^^^ ((1 : Int32) <<< ((q4.1 - 97) &&& 31)))] [] (mj_st q4.2 45 6 ((q4.2 45 6) + 1)))))) := by
  refine (sx_aload_n dx_183_196 rfl).trans ?_
  refine (sx_v0i dx_183_197 ow_183 cx_7_137 oc_45 (Nat.le_of_ble_eq_true rfl)).trans ?_
  refine mj_bnd (fun q1 => ?_)
  refine (sx_bipush (v := 97) dx_183_200 rfl).trans ?_
  refine (sx_bipush (v := 121) dx_183_202 rfl).trans ?_
  refine (sx_s3i dx_183_204 ow_183 cx_7_90 (Nat.le_of_ble_eq_true rfl)).trans ?_
  refine mj_bnd (fun q2 => ?_)
  refine (sx_if_eq (tgt := 235) dx_183_207 (by decide)).trans ?_
  refine mj_ite ?_ ?_
  · refine (sx_aload_n dx_183_235 rfl).trans ?_
    refine (sx_gfr dx_183_236 ow_183 fx_7_7 oc_45 rb_45_0).trans ?_
    refine (sx_iload_n dx_183_239 rfl).trans ?_
    refine (sx_iload_n dx_183_240 rfl).trans ?_
    refine (sx_s2i dx_183_241 ow_183 cx_7_101 (Nat.le_of_ble_eq_true rfl)).trans ?_
    refine mj_bnd (fun q3 => ?_)
    refine (sx_iload_n dx_183_244 rfl).trans ?_
    refine (sx_ist dx_183_245 ia_46).trans ?_
    refine mj_ite ?_ rfl
    refine (sx_aload_n dx_183_246 rfl).trans ?_
    refine (sx_aload_n dx_183_247 rfl).trans ?_
    refine (sx_gfi dx_183_248 ow_183 fx_7_266 (by decide) oc_45).trans ?_
    refine (sx_iconst (v := 1) dx_183_251 rfl).trans ?_
    refine (sx_iadd dx_183_252).trans ?_
    refine (sx_pfi dx_183_253 ow_183 fx_7_266 oc_45).trans ?_
    refine (sx_iconst (v := 1) dx_183_256 rfl).trans ?_
    exact sx_retz dx_183_257 rt_183 (by decide)
  · refine (sx_iload_n dx_183_210 rfl).trans ?_
    refine (sx_iconst (v := 1) dx_183_211 rfl).trans ?_
    refine (sx_aload_n dx_183_212 rfl).trans ?_
    refine (sx_v0i dx_183_213 ow_183 cx_7_137 oc_45 (Nat.le_of_ble_eq_true rfl)).trans ?_
    refine mj_bnd (fun q4 => ?_)
    refine (sx_bipush (v := 97) dx_183_216 rfl).trans ?_
    refine (sx_isub dx_183_218).trans ?_
    refine (sx_ishl dx_183_219).trans ?_
    refine (sx_ixor dx_183_220).trans ?_
    refine (sx_istore_n dx_183_221 (Nat.le_of_ble_eq_true rfl) rfl).trans ?_
    refine (sx_aload_n dx_183_222 rfl).trans ?_
    refine (sx_aload_n dx_183_223 rfl).trans ?_
    refine (sx_gfi dx_183_224 ow_183 fx_7_131 (by decide) oc_45).trans ?_
    refine (sx_iconst (v := 1) dx_183_227 rfl).trans ?_
    refine (sx_iadd dx_183_228).trans ?_
    refine (sx_pfi dx_183_229 ow_183 fx_7_131 oc_45).trans ?_
    refine (sx_goto (tgt := 196) dx_183_232 (by decide)).trans ?_
    rfl
theorem dx_184_0 : mj_at 184 0 = some (.iload_n 1) := by decide +kernel
theorem dx_184_1 : mj_at 184 1 = some (.iconst 1) := by decide +kernel
theorem dx_184_2 : mj_at 184 2 = some (.bipush 120) := by decide +kernel
theorem dx_184_4 : mj_at 184 4 = some (.invokestatic 90) := by decide +kernel
theorem dx_184_7 : mj_at 184 7 = some (.ifCond .eq 11) := by decide +kernel
theorem dx_184_10 : mj_at 184 10 = some (.iload_n 1) := by decide +kernel
theorem dx_184_11 : mj_at 184 11 = some (.aload_n 0) := by decide +kernel
theorem dx_184_12 : mj_at 184 12 = some (.getfield 123) := by decide +kernel
theorem dx_184_15 : mj_at 184 15 = some (.if_icmp .le 5) := by decide +kernel
theorem dx_184_18 : mj_at 184 18 = some (.iconst (-1)) := by decide +kernel
theorem dx_184_19 : mj_at 184 19 = some (.ireturn) := by decide +kernel
theorem dx_184_20 : mj_at 184 20 = some (.aload_n 0) := by decide +kernel
theorem dx_184_21 : mj_at 184 21 = some (.iload_n 1) := by decide +kernel
theorem dx_184_22 : mj_at 184 22 = some (.invokevirtual 214) := by decide +kernel
theorem dx_184_25 : mj_at 184 25 = some (.aload_n 0) := by decide +kernel
theorem dx_184_26 : mj_at 184 26 = some (.iconst 0) := by decide +kernel
theorem dx_184_27 : mj_at 184 27 = some (.putfield 266) := by decide +kernel
theorem dx_184_30 : mj_at 184 30 = some (.aload_n 0) := by decide +kernel
theorem dx_184_31 : mj_at 184 31 = some (.getfield 7) := by decide +kernel
theorem dx_184_34 : mj_at 184 34 = some (.aload_n 0) := by decide +kernel
theorem dx_184_35 : mj_at 184 35 = some (.getfield 13) := by decide +kernel
theorem dx_184_38 : mj_at 184 38 = some (.invokestatic 275) := by decide +kernel
theorem dx_184_41 : mj_at 184 41 = some (.aload_n 0) := by decide +kernel
theorem dx_184_42 : mj_at 184 42 = some (.invokevirtual 279) := by decide +kernel
theorem dx_184_45 : mj_at 184 45 = some (.istore_n 2) := by decide +kernel
theorem dx_184_46 : mj_at 184 46 = some (.iload_n 2) := by decide +kernel
theorem dx_184_47 : mj_at 184 47 = some (.ifCond .eq 39) := by decide +kernel
theorem dx_184_50 : mj_at 184 50 = some (.aload_n 0) := by decide +kernel
theorem dx_184_51 : mj_at 184 51 = some (.getfield 131) := by decide +kernel
theorem dx_184_54 : mj_at 184 54 = some (.aload_n 0) := by decide +kernel
theorem dx_184_55 : mj_at 184 55 = some (.getfield 134) := by decide +kernel
theorem dx_184_58 : mj_at 184 58 = some (.if_icmp .ge 28) := by decide +kernel
theorem dx_184_61 : mj_at 184 61 = some (.aload_n 0) := by decide +kernel
theorem dx_184_62 : mj_at 184 62 = some (.bipush 59) := by decide +kernel
theorem dx_184_64 : mj_at 184 64 = some (.invokevirtual 220) := by decide +kernel
theorem dx_184_67 : mj_at 184 67 = some (.ifCond .eq 14) := by decide +kernel
theorem dx_184_70 : mj_at 184 70 = some (.aload_n 0) := by decide +kernel
theorem dx_184_71 : mj_at 184 71 = some (.invokevirtual 279) := by decide +kernel
theorem dx_184_74 : mj_at 184 74 = some (.ifCond .eq 7) := by decide +kernel
theorem dx_184_77 : mj_at 184 77 = some (.iconst 1) := by decide +kernel
theorem dx_184_78 : mj_at 184 78 = some (.goto 4) := by decide +kernel
theorem dx_184_81 : mj_at 184 81 = some (.iconst 0) := by decide +kernel
theorem dx_184_82 : mj_at 184 82 = some (.istore_n 2) := by decide +kernel
theorem dx_184_83 : mj_at 184 83 = some (.goto (-37)) := by decide +kernel
theorem dx_184_86 : mj_at 184 86 = some (.aload_n 0) := by decide +kernel
theorem dx_184_87 : mj_at 184 87 = some (.iconst 0) := by decide +kernel
theorem dx_184_88 : mj_at 184 88 = some (.putfield 123) := by decide +kernel
theorem dx_184_91 : mj_at 184 91 = some (.iload_n 2) := by decide +kernel
theorem dx_184_92 : mj_at 184 92 = some (.ifCond .eq 8) := by decide +kernel
theorem dx_184_95 : mj_at 184 95 = some (.aload_n 0) := by decide +kernel
theorem dx_184_96 : mj_at 184 96 = some (.getfield 266) := by decide +kernel
theorem dx_184_99 : mj_at 184 99 = some (.ireturn) := by decide +kernel
theorem dx_184_100 : mj_at 184 100 = some (.aload_n 0) := by decide +kernel
theorem dx_184_101 : mj_at 184 101 = some (.getfield 13) := by decide +kernel
theorem dx_184_104 : mj_at 184 104 = some (.aload_n 0) := by decide +kernel
theorem dx_184_105 : mj_at 184 105 = some (.getfield 7) := by decide +kernel
theorem dx_184_108 : mj_at 184 108 = some (.invokestatic 275) := by decide +kernel
theorem dx_184_111 : mj_at 184 111 = some (.aload_n 0) := by decide +kernel
theorem dx_184_112 : mj_at 184 112 = some (.getfield 141) := by decide +kernel
theorem dx_184_115 : mj_at 184 115 = some (.ireturn) := by decide +kernel
set_option maxRecDepth 10000 in
theorem b_X9_blots {sl d : Nat} {M : mj_M} {x1 : Int32}  : mj_C sl (d + 1) 184 [.ref 45, .int x1] M = (mj_C sl d 124 [.int x1, .int 1, .int 120] M).bind (fun q1 => if q1.1 = 0 then (some (((-1) : Int32), q1.2)) else (if x1 ≤ (q1.2 45 5) then ((mj_C sl d 167 [.ref 45, .int x1] q1.2).bind (fun q2 => (mj_C sl d 129 [.ref 46, .ref 47] (mj_st q2.2 45 35 0)).bind (fun q3 => (mj_C sl d 183 [.ref 45] q3.2).bind (fun q4 => mj_E sl (d + 1) 184 46 [.ref 45, .int x1, .int q4.1] [] q4.2)))) else (some (((-1) : Int32), q1.2)))) := by
  show mj_E sl (d + 1) 184 0 [.ref 45, .int x1, .null] [] M = _
  refine (sx_iload_n dx_184_0 rfl).trans ?_
  refine (sx_iconst (v := 1) dx_184_1 rfl).trans ?_
  refine (sx_bipush (v := 120) dx_184_2 rfl).trans ?_
  refine (sx_s3i dx_184_4 ow_184 cx_7_90 (Nat.le_of_ble_eq_true rfl)).trans ?_
  refine mj_bnd (fun q1 => ?_)
  refine (sx_if_eq (tgt := 18) dx_184_7 (by decide)).trans ?_
  refine mj_ite ?_ ?_
  · refine (sx_iconst (v := (-1)) dx_184_18 rfl).trans ?_
    exact sx_reti dx_184_19 rt_184
  · refine (sx_iload_n dx_184_10 rfl).trans ?_
    refine (sx_aload_n dx_184_11 rfl).trans ?_
    refine (sx_gfi dx_184_12 ow_184 fx_7_123 (by decide) oc_45).trans ?_
    refine (sx_icmp_le (tgt := 20) dx_184_15 (by decide)).trans ?_
    refine mj_ite ?_ ?_
    · refine (sx_aload_n dx_184_20 rfl).trans ?_
      refine (sx_iload_n dx_184_21 rfl).trans ?_
      refine (sx_v1v dx_184_22 ow_184 cx_7_214 oc_45 (Nat.le_of_ble_eq_true rfl)).trans ?_
      refine mj_bnd (fun q2 => ?_)
      refine (sx_aload_n dx_184_25 rfl).trans ?_
      refine (sx_iconst (v := 0) dx_184_26 rfl).trans ?_
      refine (sx_pfi dx_184_27 ow_184 fx_7_266 oc_45).trans ?_
      refine (sx_aload_n dx_184_30 rfl).trans ?_
      refine (sx_gfr dx_184_31 ow_184 fx_7_7 oc_45 rb_45_0).trans ?_
      refine (sx_aload_n dx_184_34 rfl).trans ?_
      refine (sx_gfr dx_184_35 ow_184 fx_7_13 oc_45 rb_45_1).trans ?_
      refine (sx_s2v dx_184_38 ow_184 cx_7_275 (Nat.le_of_ble_eq_true rfl)).trans ?_
      refine mj_bnd (fun q3 => ?_)
      refine (sx_aload_n dx_184_41 rfl).trans ?_
      refine (sx_v0i dx_184_42 ow_184 cx_7_279 oc_45 (Nat.le_of_ble_eq_true rfl)).trans ?_
      refine mj_bnd (fun q4 => ?_)
      refine (sx_istore_n dx_184_45 (Nat.le_of_ble_eq_true rfl) rfl).trans ?_
      rfl
    · refine (sx_iconst (v := (-1)) dx_184_18 rfl).trans ?_
      exact sx_reti dx_184_19 rt_184
set_option maxRecDepth 10000 in
theorem b_X9_blots_46 {sl d : Nat} {M : mj_M} {w1 : Value} {y2 : Int32}  : mj_E sl (d + 1) 184 46 [.ref 45, w1, .int y2] [] M = if y2 = 0 then (if y2 = 0 then ((mj_C sl d 129 [.ref 47, .ref 46] (mj_st M 45 5 0)).bind (fun q1 => some ((q1.2 45 8 : Int32), q1.2))) else (some (((mj_st M 45 5 0) 45 35 : Int32), mj_st M 45 5 0))) else (if M 45 6 < (M 45 7) then ((mj_C sl d 150 [.ref 45, .int 59] M).bind (fun q2 => if q2.1 = 0 then (mj_E sl (d + 1) 184 46 [.ref 45, w1, .int 0] [] q2.2) else ((mj_C sl d 183 [.ref 45] q2.2).bind (fun q3 => if q3.1 = 0 then (mj_E sl (d + 1) 184 46 [.ref 45, w1, .int 0] [] q3.2) else (mj_E sl (d + 1) 184 46 [.ref 45, w1, .int 1] [] q3.2))))) else (if y2 = 0 then ((mj_C sl d 129 [.ref 47, .ref 46] (mj_st M 45 5 0)).bind (fun q4 => some ((q4.2 45 8 : Int32), q4.2))) else (some (((mj_st M 45 5 0) 45 35 : Int32), mj_st M 45 5 0)))) := by
  refine (sx_iload_n dx_184_46 rfl).trans ?_
  refine (sx_if_eq (tgt := 86) dx_184_47 (by decide)).trans ?_
  refine mj_ite ?_ ?_
  · refine (sx_aload_n dx_184_86 rfl).trans ?_
    refine (sx_iconst (v := 0) dx_184_87 rfl).trans ?_
    refine (sx_pfi dx_184_88 ow_184 fx_7_123 oc_45).trans ?_
    refine (sx_iload_n dx_184_91 rfl).trans ?_
    refine (sx_if_eq (tgt := 100) dx_184_92 (by decide)).trans ?_
    refine mj_ite ?_ ?_
    · refine (sx_aload_n dx_184_100 rfl).trans ?_
      refine (sx_gfr dx_184_101 ow_184 fx_7_13 oc_45 rb_45_1).trans ?_
      refine (sx_aload_n dx_184_104 rfl).trans ?_
      refine (sx_gfr dx_184_105 ow_184 fx_7_7 oc_45 rb_45_0).trans ?_
      refine (sx_s2v dx_184_108 ow_184 cx_7_275 (Nat.le_of_ble_eq_true rfl)).trans ?_
      refine mj_bnd (fun q1 => ?_)
      refine (sx_aload_n dx_184_111 rfl).trans ?_
      refine (sx_gfi dx_184_112 ow_184 fx_7_141 (by decide) oc_45).trans ?_
      exact sx_reti dx_184_115 rt_184
    · refine (sx_aload_n dx_184_95 rfl).trans ?_
      refine (sx_gfi dx_184_96 ow_184 fx_7_266 (by decide) oc_45).trans ?_
      exact sx_reti dx_184_99 rt_184
  · refine (sx_aload_n dx_184_50 rfl).trans ?_
    refine (sx_gfi dx_184_51 ow_184 fx_7_131 (by decide) oc_45).trans ?_
    refine (sx_aload_n dx_184_54 rfl).trans ?_
    refine (sx_gfi dx_184_55 ow_184 fx_7_134 (by decide) oc_45).trans ?_
    refine (sx_icmp_ge (tgt := 86) dx_184_58 (by decide)).trans ?_
    refine mj_ite ?_ ?_
    · refine (sx_aload_n dx_184_61 rfl).trans ?_
      refine (sx_bipush (v := 59) dx_184_62 rfl).trans ?_
      refine (sx_v1i dx_184_64 ow_184 cx_7_220 oc_45 (Nat.le_of_ble_eq_true rfl)).trans ?_
      refine mj_bnd (fun q2 => ?_)
      refine (sx_if_eq (tgt := 81) dx_184_67 (by decide)).trans ?_
      refine mj_ite ?_ ?_
      · refine (sx_iconst (v := 0) dx_184_81 rfl).trans ?_
        refine (sx_istore_n dx_184_82 (Nat.le_of_ble_eq_true rfl) rfl).trans ?_
        refine (sx_goto (tgt := 46) dx_184_83 (by decide)).trans ?_
        rfl
      · refine (sx_aload_n dx_184_70 rfl).trans ?_
        refine (sx_v0i dx_184_71 ow_184 cx_7_279 oc_45 (Nat.le_of_ble_eq_true rfl)).trans ?_
        refine mj_bnd (fun q3 => ?_)
        refine (sx_if_eq (tgt := 81) dx_184_74 (by decide)).trans ?_
        refine mj_ite ?_ ?_
        · refine (sx_iconst (v := 0) dx_184_81 rfl).trans ?_
          refine (sx_istore_n dx_184_82 (Nat.le_of_ble_eq_true rfl) rfl).trans ?_
          refine (sx_goto (tgt := 46) dx_184_83 (by decide)).trans ?_
          rfl
        · refine (sx_iconst (v := 1) dx_184_77 rfl).trans ?_
          refine (sx_goto (tgt := 82) dx_184_78 (by decide)).trans ?_
          refine (sx_istore_n dx_184_82 (Nat.le_of_ble_eq_true rfl) rfl).trans ?_
          refine (sx_goto (tgt := 46) dx_184_83 (by decide)).trans ?_
          rfl
    · refine (sx_aload_n dx_184_86 rfl).trans ?_
      refine (sx_iconst (v := 0) dx_184_87 rfl).trans ?_
      refine (sx_pfi dx_184_88 ow_184 fx_7_123 oc_45).trans ?_
      refine (sx_iload_n dx_184_91 rfl).trans ?_
      refine (sx_if_eq (tgt := 100) dx_184_92 (by decide)).trans ?_
      refine mj_ite ?_ ?_
      · refine (sx_aload_n dx_184_100 rfl).trans ?_
        refine (sx_gfr dx_184_101 ow_184 fx_7_13 oc_45 rb_45_1).trans ?_
        refine (sx_aload_n dx_184_104 rfl).trans ?_
        refine (sx_gfr dx_184_105 ow_184 fx_7_7 oc_45 rb_45_0).trans ?_
        refine (sx_s2v dx_184_108 ow_184 cx_7_275 (Nat.le_of_ble_eq_true rfl)).trans ?_
        refine mj_bnd (fun q4 => ?_)
        refine (sx_aload_n dx_184_111 rfl).trans ?_
        refine (sx_gfi dx_184_112 ow_184 fx_7_141 (by decide) oc_45).trans ?_
        exact sx_reti dx_184_115 rt_184
      · refine (sx_aload_n dx_184_95 rfl).trans ?_
        refine (sx_gfi dx_184_96 ow_184 fx_7_266 (by decide) oc_45).trans ?_
        exact sx_reti dx_184_99 rt_184
theorem dx_185_0 : mj_at 185 0 = some (.aload_n 0) := by decide +kernel
theorem dx_185_1 : mj_at 185 1 = some (.getfield 7) := by decide +kernel
theorem dx_185_4 : mj_at 185 4 = some (.bipush 111) := by decide +kernel
theorem dx_185_6 : mj_at 185 6 = some (.sipush 25173) := by decide +kernel
theorem dx_185_9 : mj_at 185 9 = some (.aload_n 0) := by decide +kernel
theorem dx_185_10 : mj_at 185 10 = some (.getfield 7) := by decide +kernel
theorem dx_185_13 : mj_at 185 13 = some (.bipush 111) := by decide +kernel
theorem dx_185_15 : mj_at 185 15 = some (.iaload) := by decide +kernel
theorem dx_185_16 : mj_at 185 16 = some (.imul) := by decide +kernel
theorem dx_185_17 : mj_at 185 17 = some (.sipush 13849) := by decide +kernel
theorem dx_185_20 : mj_at 185 20 = some (.iadd) := by decide +kernel
theorem dx_185_21 : mj_at 185 21 = some (.ldc_w 282) := by decide +kernel
theorem dx_185_24 : mj_at 185 24 = some (.irem) := by decide +kernel
theorem dx_185_25 : mj_at 185 25 = some (.iastore) := by decide +kernel
theorem dx_185_26 : mj_at 185 26 = some (.aload_n 0) := by decide +kernel
theorem dx_185_27 : mj_at 185 27 = some (.getfield 7) := by decide +kernel
theorem dx_185_30 : mj_at 185 30 = some (.bipush 111) := by decide +kernel
theorem dx_185_32 : mj_at 185 32 = some (.iaload) := by decide +kernel
theorem dx_185_33 : mj_at 185 33 = some (.bipush 10) := by decide +kernel
theorem dx_185_35 : mj_at 185 35 = some (.irem) := by decide +kernel
theorem dx_185_36 : mj_at 185 36 = some (.ireturn) := by decide +kernel
set_option maxRecDepth 10000 in
theorem b_X9_draws {sl d : Nat} {M : mj_M}   : mj_C sl d 185 [.ref 45] M = some ((mj_rm ((mj_st M 46 111 (mj_rm (((25173 : Int32) * (M 46 111)) + 13849) 65536)) 46 111) 10 : Int32), mj_st M 46 111 (mj_rm (((25173 : Int32) * (M 46 111)) + 13849) 65536)) := by
  show mj_E sl d 185 0 [.ref 45] [] M = _
  refine (sx_aload_n dx_185_0 rfl).trans ?_
  refine (sx_gfr dx_185_1 ow_185 fx_7_7 oc_45 rb_45_0).trans ?_
  refine (sx_bipush (v := 111) dx_185_4 rfl).trans ?_
  refine (sx_sipush (v := 25173) dx_185_6 rfl).trans ?_
  refine (sx_aload_n dx_185_9 rfl).trans ?_
  refine (sx_gfr dx_185_10 ow_185 fx_7_7 oc_45 rb_45_0).trans ?_
  refine (sx_bipush (v := 111) dx_185_13 rfl).trans ?_
  refine (sx_ildk (k := 111) dx_185_15 (by decide) ia_46 (by decide) (by decide)).trans ?_
  refine (sx_imul dx_185_16).trans ?_
  refine (sx_sipush (v := 13849) dx_185_17 rfl).trans ?_
  refine (sx_iadd dx_185_20).trans ?_
  refine (sx_ldcw (v := 65536) dx_185_21 ow_185 kx_7_282).trans ?_
  refine (sx_irem dx_185_24 (by decide)).trans ?_
  refine (sx_istk (k := 111) dx_185_25 ia_46 (by decide) (by decide)).trans ?_
  refine (sx_aload_n dx_185_26 rfl).trans ?_
  refine (sx_gfr dx_185_27 ow_185 fx_7_7 oc_45 rb_45_0).trans ?_
  refine (sx_bipush (v := 111) dx_185_30 rfl).trans ?_
  refine (sx_ildk (k := 111) dx_185_32 (by decide) ia_46 (by decide) (by decide)).trans ?_
  refine (sx_bipush (v := 10) dx_185_33 rfl).trans ?_
  refine (sx_irem dx_185_35 (by decide)).trans ?_
  exact sx_reti dx_185_36 rt_185
theorem dx_186_0 : mj_at 186 0 = some (.aload_n 0) := by decide +kernel
theorem dx_186_1 : mj_at 186 1 = some (.getfield 62) := by decide +kernel
theorem dx_186_4 : mj_at 186 4 = some (.iconst 0) := by decide +kernel
theorem dx_186_5 : mj_at 186 5 = some (.iload_n 1) := by decide +kernel
theorem dx_186_6 : mj_at 186 6 = some (.iastore) := by decide +kernel
theorem dx_186_7 : mj_at 186 7 = some (.aload_n 0) := by decide +kernel
theorem dx_186_8 : mj_at 186 8 = some (.getfield 62) := by decide +kernel
theorem dx_186_11 : mj_at 186 11 = some (.iconst 1) := by decide +kernel
theorem dx_186_12 : mj_at 186 12 = some (.aload_n 0) := by decide +kernel
theorem dx_186_13 : mj_at 186 13 = some (.getfield 7) := by decide +kernel
theorem dx_186_16 : mj_at 186 16 = some (.bipush 10) := by decide +kernel
theorem dx_186_18 : mj_at 186 18 = some (.iload_n 1) := by decide +kernel
theorem dx_186_19 : mj_at 186 19 = some (.iadd) := by decide +kernel
theorem dx_186_20 : mj_at 186 20 = some (.iaload) := by decide +kernel
theorem dx_186_21 : mj_at 186 21 = some (.iastore) := by decide +kernel
theorem dx_186_22 : mj_at 186 22 = some (.aload_n 0) := by decide +kernel
theorem dx_186_23 : mj_at 186 23 = some (.getfield 62) := by decide +kernel
theorem dx_186_26 : mj_at 186 26 = some (.iconst 2) := by decide +kernel
theorem dx_186_27 : mj_at 186 27 = some (.aload_n 0) := by decide +kernel
theorem dx_186_28 : mj_at 186 28 = some (.getfield 7) := by decide +kernel
theorem dx_186_31 : mj_at 186 31 = some (.bipush 20) := by decide +kernel
theorem dx_186_33 : mj_at 186 33 = some (.iload_n 1) := by decide +kernel
theorem dx_186_34 : mj_at 186 34 = some (.iadd) := by decide +kernel
theorem dx_186_35 : mj_at 186 35 = some (.iaload) := by decide +kernel
theorem dx_186_36 : mj_at 186 36 = some (.iastore) := by decide +kernel
theorem dx_186_37 : mj_at 186 37 = some (.aload_n 0) := by decide +kernel
theorem dx_186_38 : mj_at 186 38 = some (.getfield 62) := by decide +kernel
theorem dx_186_41 : mj_at 186 41 = some (.iconst 3) := by decide +kernel
theorem dx_186_42 : mj_at 186 42 = some (.aload_n 0) := by decide +kernel
theorem dx_186_43 : mj_at 186 43 = some (.getfield 77) := by decide +kernel
theorem dx_186_46 : mj_at 186 46 = some (.iload_n 1) := by decide +kernel
theorem dx_186_47 : mj_at 186 47 = some (.iaload) := by decide +kernel
theorem dx_186_48 : mj_at 186 48 = some (.iastore) := by decide +kernel
theorem dx_186_49 : mj_at 186 49 = some (.aload_n 0) := by decide +kernel
theorem dx_186_50 : mj_at 186 50 = some (.getfield 62) := by decide +kernel
theorem dx_186_53 : mj_at 186 53 = some (.iconst 4) := by decide +kernel
theorem dx_186_54 : mj_at 186 54 = some (.aload_n 0) := by decide +kernel
theorem dx_186_55 : mj_at 186 55 = some (.iload_n 1) := by decide +kernel
theorem dx_186_56 : mj_at 186 56 = some (.invokevirtual 112) := by decide +kernel
theorem dx_186_59 : mj_at 186 59 = some (.iastore) := by decide +kernel
theorem dx_186_60 : mj_at 186 60 = some (.aload_n 0) := by decide +kernel
theorem dx_186_61 : mj_at 186 61 = some (.getfield 62) := by decide +kernel
theorem dx_186_64 : mj_at 186 64 = some (.iconst 5) := by decide +kernel
theorem dx_186_65 : mj_at 186 65 = some (.iload_n 2) := by decide +kernel
theorem dx_186_66 : mj_at 186 66 = some (.iastore) := by decide +kernel
theorem dx_186_67 : mj_at 186 67 = some (.aload_n 0) := by decide +kernel
theorem dx_186_68 : mj_at 186 68 = some (.getfield 62) := by decide +kernel
theorem dx_186_71 : mj_at 186 71 = some (.bipush 6) := by decide +kernel
theorem dx_186_73 : mj_at 186 73 = some (.iload_n 3) := by decide +kernel
theorem dx_186_74 : mj_at 186 74 = some (.iastore) := by decide +kernel
theorem dx_186_75 : mj_at 186 75 = some (.aload_n 0) := by decide +kernel
theorem dx_186_76 : mj_at 186 76 = some (.getfield 62) := by decide +kernel
theorem dx_186_79 : mj_at 186 79 = some (.bipush 7) := by decide +kernel
theorem dx_186_81 : mj_at 186 81 = some (.iload 4) := by decide +kernel
theorem dx_186_83 : mj_at 186 83 = some (.iastore) := by decide +kernel
theorem dx_186_84 : mj_at 186 84 = some (.aload_n 0) := by decide +kernel
theorem dx_186_85 : mj_at 186 85 = some (.getfield 62) := by decide +kernel
theorem dx_186_88 : mj_at 186 88 = some (.bipush 8) := by decide +kernel
theorem dx_186_90 : mj_at 186 90 = some (.aload_n 0) := by decide +kernel
theorem dx_186_91 : mj_at 186 91 = some (.getfield 7) := by decide +kernel
theorem dx_186_94 : mj_at 186 94 = some (.bipush 110) := by decide +kernel
theorem dx_186_96 : mj_at 186 96 = some (.iaload) := by decide +kernel
theorem dx_186_97 : mj_at 186 97 = some (.bipush 12) := by decide +kernel
theorem dx_186_99 : mj_at 186 99 = some (.irem) := by decide +kernel
theorem dx_186_100 : mj_at 186 100 = some (.iastore) := by decide +kernel
theorem dx_186_101 : mj_at 186 101 = some (.return_) := by decide +kernel
set_option maxRecDepth 10000 in
theorem b_X9_feels {sl d : Nat} {M : mj_M} {x1 : Int32} {x2 : Int32} {x3 : Int32} {x4 : Int32}  : mj_C sl (d + 1) 186 [.ref 45, .int x1, .int x2, .int x3, .int x4] M = if mj_inB ((10 : Int32) + x1) 112 = true then (if mj_inB ((20 : Int32) + x1) 112 = true then (if mj_inB x1 10 = true then ((mj_C sl d 137 [.ref 45, .int x1] (mj_st (mj_st (mj_st (mj_st M 63 0 x1) 63 1 ((mj_st M 63 0 x1) 46 ((10 : Int32) + x1 : Int32).toNatClampNeg)) 63 2 ((mj_st (mj_st M 63 0 x1) 63 1 ((mj_st M 63 0 x1) 46 ((10 : Int32) + x1 : Int32).toNatClampNeg)) 46 ((20 : Int32) + x1 : Int32).toNatClampNeg)) 63 3 ((mj_st (mj_st (mj_st M 63 0 x1) 63 1 ((mj_st M 63 0 x1) 46 ((10 : Int32) + x1 : Int32).toNatClampNeg)) 63 2 ((mj_st (mj_st M 63 0 x1) 63 1 ((mj_st M 63 0 x1) 46 ((10 : Int32) + x1 : Int32).toNatClampNeg)) 46 ((20 : Int32) + x1 : Int32).toNatClampNeg)) 68 (x1 : Int32).toNatClampNeg))).bind (fun q1 => some ((0 : Int32), mj_st (mj_st (mj_st (mj_st (mj_st q1.2 63 4 q1.1) 63 5 x2) 63 6 x3) 63 7 x4) 63 8 (mj_rm ((mj_st (mj_st (mj_st (mj_st q1.2 63 4 q1.1) 63 5 x2) 63 6 x3) 63 7 x4) 46 110) 12)))) else none) else none) else none := by
  show mj_E sl (d + 1) 186 0 [.ref 45, .int x1, .int x2, .int x3, .int x4] [] M = _
  refine (sx_aload_n dx_186_0 rfl).trans ?_
  refine (sx_gfr dx_186_1 ow_186 fx_7_62 oc_45 rb_45_27).trans ?_
  refine (sx_iconst (v := 0) dx_186_4 rfl).trans ?_
  refine (sx_iload_n dx_186_5 rfl).trans ?_
  refine (sx_istk (k := 0) dx_186_6 ia_63 (by decide) (by decide)).trans ?_
  refine (sx_aload_n dx_186_7 rfl).trans ?_
  refine (sx_gfr dx_186_8 ow_186 fx_7_62 oc_45 rb_45_27).trans ?_
  refine (sx_iconst (v := 1) dx_186_11 rfl).trans ?_
  refine (sx_aload_n dx_186_12 rfl).trans ?_
  refine (sx_gfr dx_186_13 ow_186 fx_7_7 oc_45 rb_45_0).trans ?_
  refine (sx_bipush (v := 10) dx_186_16 rfl).trans ?_
  refine (sx_iload_n dx_186_18 rfl).trans ?_
  refine (sx_iadd dx_186_19).trans ?_
  refine (sx_ild dx_186_20 (by decide) ia_46).trans ?_
  refine mj_ite ?_ rfl
  refine (sx_istk (k := 1) dx_186_21 ia_63 (by decide) (by decide)).trans ?_
  refine (sx_aload_n dx_186_22 rfl).trans ?_
  refine (sx_gfr dx_186_23 ow_186 fx_7_62 oc_45 rb_45_27).trans ?_
  refine (sx_iconst (v := 2) dx_186_26 rfl).trans ?_
  refine (sx_aload_n dx_186_27 rfl).trans ?_
  refine (sx_gfr dx_186_28 ow_186 fx_7_7 oc_45 rb_45_0).trans ?_
  refine (sx_bipush (v := 20) dx_186_31 rfl).trans ?_
  refine (sx_iload_n dx_186_33 rfl).trans ?_
  refine (sx_iadd dx_186_34).trans ?_
  refine (sx_ild dx_186_35 (by decide) ia_46).trans ?_
  refine mj_ite ?_ rfl
  refine (sx_istk (k := 2) dx_186_36 ia_63 (by decide) (by decide)).trans ?_
  refine (sx_aload_n dx_186_37 rfl).trans ?_
  refine (sx_gfr dx_186_38 ow_186 fx_7_62 oc_45 rb_45_27).trans ?_
  refine (sx_iconst (v := 3) dx_186_41 rfl).trans ?_
  refine (sx_aload_n dx_186_42 rfl).trans ?_
  refine (sx_gfr dx_186_43 ow_186 fx_7_77 oc_45 rb_45_36).trans ?_
  refine (sx_iload_n dx_186_46 rfl).trans ?_
  refine (sx_ild dx_186_47 (by decide) ia_68).trans ?_
  refine mj_ite ?_ rfl
  refine (sx_istk (k := 3) dx_186_48 ia_63 (by decide) (by decide)).trans ?_
  refine (sx_aload_n dx_186_49 rfl).trans ?_
  refine (sx_gfr dx_186_50 ow_186 fx_7_62 oc_45 rb_45_27).trans ?_
  refine (sx_iconst (v := 4) dx_186_53 rfl).trans ?_
  refine (sx_aload_n dx_186_54 rfl).trans ?_
  refine (sx_iload_n dx_186_55 rfl).trans ?_
  refine (sx_v1i dx_186_56 ow_186 cx_7_112 oc_45 (Nat.le_of_ble_eq_true rfl)).trans ?_
  refine mj_bnd (fun q1 => ?_)
  refine (sx_istk (k := 4) dx_186_59 ia_63 (by decide) (by decide)).trans ?_
  refine (sx_aload_n dx_186_60 rfl).trans ?_
  refine (sx_gfr dx_186_61 ow_186 fx_7_62 oc_45 rb_45_27).trans ?_
  refine (sx_iconst (v := 5) dx_186_64 rfl).trans ?_
  refine (sx_iload_n dx_186_65 rfl).trans ?_
  refine (sx_istk (k := 5) dx_186_66 ia_63 (by decide) (by decide)).trans ?_
  refine (sx_aload_n dx_186_67 rfl).trans ?_
  refine (sx_gfr dx_186_68 ow_186 fx_7_62 oc_45 rb_45_27).trans ?_
  refine (sx_bipush (v := 6) dx_186_71 rfl).trans ?_
  refine (sx_iload_n dx_186_73 rfl).trans ?_
  refine (sx_istk (k := 6) dx_186_74 ia_63 (by decide) (by decide)).trans ?_
  refine (sx_aload_n dx_186_75 rfl).trans ?_
  refine (sx_gfr dx_186_76 ow_186 fx_7_62 oc_45 rb_45_27).trans ?_
  refine (sx_bipush (v := 7) dx_186_79 rfl).trans ?_
  refine (sx_iload dx_186_81 rfl).trans ?_
  refine (sx_istk (k := 7) dx_186_83 ia_63 (by decide) (by decide)).trans ?_
  refine (sx_aload_n dx_186_84 rfl).trans ?_
  refine (sx_gfr dx_186_85 ow_186 fx_7_62 oc_45 rb_45_27).trans ?_
  refine (sx_bipush (v := 8) dx_186_88 rfl).trans ?_
  refine (sx_aload_n dx_186_90 rfl).trans ?_
  refine (sx_gfr dx_186_91 ow_186 fx_7_7 oc_45 rb_45_0).trans ?_
  refine (sx_bipush (v := 110) dx_186_94 rfl).trans ?_
  refine (sx_ildk (k := 110) dx_186_96 (by decide) ia_46 (by decide) (by decide)).trans ?_
  refine (sx_bipush (v := 12) dx_186_97 rfl).trans ?_
  refine (sx_irem dx_186_99 (by decide)).trans ?_
  refine (sx_istk (k := 8) dx_186_100 ia_63 (by decide) (by decide)).trans ?_
  exact sx_retv dx_186_101 rt_186
theorem dx_187_0 : mj_at 187 0 = some (.aload_n 0) := by decide +kernel
theorem dx_187_1 : mj_at 187 1 = some (.iload_n 1) := by decide +kernel
theorem dx_187_2 : mj_at 187 2 = some (.iload_n 2) := by decide +kernel
theorem dx_187_3 : mj_at 187 3 = some (.invokevirtual 105) := by decide +kernel
theorem dx_187_6 : mj_at 187 6 = some (.istore_n 3) := by decide +kernel
theorem dx_187_7 : mj_at 187 7 = some (.iload_n 3) := by decide +kernel
theorem dx_187_8 : mj_at 187 8 = some (.aload_n 0) := by decide +kernel
theorem dx_187_9 : mj_at 187 9 = some (.getfield 19) := by decide +kernel
theorem dx_187_12 : mj_at 187 12 = some (.iload_n 2) := by decide +kernel
theorem dx_187_13 : mj_at 187 13 = some (.iaload) := by decide +kernel
theorem dx_187_14 : mj_at 187 14 = some (.ixor) := by decide +kernel
theorem dx_187_15 : mj_at 187 15 = some (.istore 4) := by decide +kernel
theorem dx_187_17 : mj_at 187 17 = some (.aload_n 0) := by decide +kernel
theorem dx_187_18 : mj_at 187 18 = some (.iload_n 1) := by decide +kernel
theorem dx_187_19 : mj_at 187 19 = some (.iload_n 2) := by decide +kernel
theorem dx_187_20 : mj_at 187 20 = some (.iload 4) := by decide +kernel
theorem dx_187_22 : mj_at 187 22 = some (.invokestatic 108) := by decide +kernel
theorem dx_187_25 : mj_at 187 25 = some (.iload_n 3) := by decide +kernel
theorem dx_187_26 : mj_at 187 26 = some (.invokestatic 108) := by decide +kernel
theorem dx_187_29 : mj_at 187 29 = some (.invokevirtual 283) := by decide +kernel
theorem dx_187_32 : mj_at 187 32 = some (.aload_n 0) := by decide +kernel
theorem dx_187_33 : mj_at 187 33 = some (.bipush 120) := by decide +kernel
theorem dx_187_35 : mj_at 187 35 = some (.invokevirtual 287) := by decide +kernel
theorem dx_187_38 : mj_at 187 38 = some (.istore 5) := by decide +kernel
theorem dx_187_40 : mj_at 187 40 = some (.aload_n 0) := by decide +kernel
theorem dx_187_41 : mj_at 187 41 = some (.bipush 112) := by decide +kernel
theorem dx_187_43 : mj_at 187 43 = some (.bipush 10) := by decide +kernel
theorem dx_187_45 : mj_at 187 45 = some (.invokevirtual 290) := by decide +kernel
theorem dx_187_48 : mj_at 187 48 = some (.istore 6) := by decide +kernel
theorem dx_187_50 : mj_at 187 50 = some (.aload_n 0) := by decide +kernel
theorem dx_187_51 : mj_at 187 51 = some (.bipush 119) := by decide +kernel
theorem dx_187_53 : mj_at 187 53 = some (.bipush 10) := by decide +kernel
theorem dx_187_55 : mj_at 187 55 = some (.invokevirtual 290) := by decide +kernel
theorem dx_187_58 : mj_at 187 58 = some (.istore 7) := by decide +kernel
theorem dx_187_60 : mj_at 187 60 = some (.iload 5) := by decide +kernel
theorem dx_187_62 : mj_at 187 62 = some (.ifCond .ne 19) := by decide +kernel
theorem dx_187_65 : mj_at 187 65 = some (.aload_n 0) := by decide +kernel
theorem dx_187_66 : mj_at 187 66 = some (.getfield 7) := by decide +kernel
theorem dx_187_69 : mj_at 187 69 = some (.bipush 20) := by decide +kernel
theorem dx_187_71 : mj_at 187 71 = some (.iload_n 1) := by decide +kernel
theorem dx_187_72 : mj_at 187 72 = some (.iadd) := by decide +kernel
theorem dx_187_73 : mj_at 187 73 = some (.iaload) := by decide +kernel
theorem dx_187_74 : mj_at 187 74 = some (.iload_n 3) := by decide +kernel
theorem dx_187_75 : mj_at 187 75 = some (.invokestatic 108) := by decide +kernel
theorem dx_187_78 : mj_at 187 78 = some (.if_icmp .ge 4) := by decide +kernel
theorem dx_187_81 : mj_at 187 81 = some (.return_) := by decide +kernel
theorem dx_187_82 : mj_at 187 82 = some (.aload_n 0) := by decide +kernel
theorem dx_187_83 : mj_at 187 83 = some (.getfield 7) := by decide +kernel
theorem dx_187_86 : mj_at 187 86 = some (.bipush 20) := by decide +kernel
theorem dx_187_88 : mj_at 187 88 = some (.iload_n 1) := by decide +kernel
theorem dx_187_89 : mj_at 187 89 = some (.iadd) := by decide +kernel
theorem dx_187_90 : mj_at 187 90 = some (.aload_n 0) := by decide +kernel
theorem dx_187_91 : mj_at 187 91 = some (.getfield 7) := by decide +kernel
theorem dx_187_94 : mj_at 187 94 = some (.bipush 20) := by decide +kernel
theorem dx_187_96 : mj_at 187 96 = some (.iload_n 1) := by decide +kernel
theorem dx_187_97 : mj_at 187 97 = some (.iadd) := by decide +kernel
theorem dx_187_98 : mj_at 187 98 = some (.iaload) := by decide +kernel
theorem dx_187_99 : mj_at 187 99 = some (.iload_n 3) := by decide +kernel
theorem dx_187_100 : mj_at 187 100 = some (.invokestatic 108) := by decide +kernel
theorem dx_187_103 : mj_at 187 103 = some (.isub) := by decide +kernel
theorem dx_187_104 : mj_at 187 104 = some (.iastore) := by decide +kernel
theorem dx_187_105 : mj_at 187 105 = some (.aload_n 0) := by decide +kernel
theorem dx_187_106 : mj_at 187 106 = some (.aload_n 0) := by decide +kernel
theorem dx_187_107 : mj_at 187 107 = some (.getfield 293) := by decide +kernel
theorem dx_187_110 : mj_at 187 110 = some (.iload_n 3) := by decide +kernel
theorem dx_187_111 : mj_at 187 111 = some (.invokestatic 108) := by decide +kernel
theorem dx_187_114 : mj_at 187 114 = some (.iadd) := by decide +kernel
theorem dx_187_115 : mj_at 187 115 = some (.putfield 293) := by decide +kernel
theorem dx_187_118 : mj_at 187 118 = some (.aload_n 0) := by decide +kernel
theorem dx_187_119 : mj_at 187 119 = some (.invokevirtual 296) := by decide +kernel
theorem dx_187_122 : mj_at 187 122 = some (.iload 6) := by decide +kernel
theorem dx_187_124 : mj_at 187 124 = some (.if_icmp .ge 56) := by decide +kernel
theorem dx_187_127 : mj_at 187 127 = some (.iload 4) := by decide +kernel
theorem dx_187_129 : mj_at 187 129 = some (.ifCond .eq 51) := by decide +kernel
theorem dx_187_132 : mj_at 187 132 = some (.iconst 0) := by decide +kernel
theorem dx_187_133 : mj_at 187 133 = some (.istore 8) := by decide +kernel
theorem dx_187_135 : mj_at 187 135 = some (.iload 4) := by decide +kernel
theorem dx_187_137 : mj_at 187 137 = some (.iload 8) := by decide +kernel
theorem dx_187_139 : mj_at 187 139 = some (.invokestatic 254) := by decide +kernel
theorem dx_187_142 : mj_at 187 142 = some (.ifCond .ne 12) := by decide +kernel
theorem dx_187_145 : mj_at 187 145 = some (.iload 8) := by decide +kernel
theorem dx_187_147 : mj_at 187 147 = some (.iconst 1) := by decide +kernel
theorem dx_187_148 : mj_at 187 148 = some (.iadd) := by decide +kernel
theorem dx_187_149 : mj_at 187 149 = some (.istore 8) := by decide +kernel
theorem dx_187_151 : mj_at 187 151 = some (.goto (-16)) := by decide +kernel
theorem dx_187_154 : mj_at 187 154 = some (.aload_n 0) := by decide +kernel
theorem dx_187_155 : mj_at 187 155 = some (.getfield 7) := by decide +kernel
theorem dx_187_158 : mj_at 187 158 = some (.iload_n 1) := by decide +kernel
theorem dx_187_159 : mj_at 187 159 = some (.iload_n 2) := by decide +kernel
theorem dx_187_160 : mj_at 187 160 = some (.invokestatic 101) := by decide +kernel
theorem dx_187_163 : mj_at 187 163 = some (.iload_n 3) := by decide +kernel
theorem dx_187_164 : mj_at 187 164 = some (.iconst 1) := by decide +kernel
theorem dx_187_165 : mj_at 187 165 = some (.iload 8) := by decide +kernel
theorem dx_187_167 : mj_at 187 167 = some (.ishl) := by decide +kernel
theorem dx_187_168 : mj_at 187 168 = some (.ixor) := by decide +kernel
theorem dx_187_169 : mj_at 187 169 = some (.iastore) := by decide +kernel
theorem dx_187_170 : mj_at 187 170 = some (.aload_n 0) := by decide +kernel
theorem dx_187_171 : mj_at 187 171 = some (.aload_n 0) := by decide +kernel
theorem dx_187_172 : mj_at 187 172 = some (.getfield 299) := by decide +kernel
theorem dx_187_175 : mj_at 187 175 = some (.iconst 1) := by decide +kernel
theorem dx_187_176 : mj_at 187 176 = some (.iadd) := by decide +kernel
theorem dx_187_177 : mj_at 187 177 = some (.putfield 299) := by decide +kernel
theorem dx_187_180 : mj_at 187 180 = some (.aload_n 0) := by decide +kernel
theorem dx_187_181 : mj_at 187 181 = some (.invokevirtual 296) := by decide +kernel
theorem dx_187_184 : mj_at 187 184 = some (.iload 7) := by decide +kernel
theorem dx_187_186 : mj_at 187 186 = some (.if_icmp .lt 4) := by decide +kernel
theorem dx_187_189 : mj_at 187 189 = some (.return_) := by decide +kernel
theorem dx_187_190 : mj_at 187 190 = some (.aload_n 0) := by decide +kernel
theorem dx_187_191 : mj_at 187 191 = some (.invokevirtual 296) := by decide +kernel
theorem dx_187_194 : mj_at 187 194 = some (.istore 8) := by decide +kernel
theorem dx_187_196 : mj_at 187 196 = some (.bipush 10) := by decide +kernel
theorem dx_187_198 : mj_at 187 198 = some (.iload 8) := by decide +kernel
theorem dx_187_200 : mj_at 187 200 = some (.imul) := by decide +kernel
theorem dx_187_201 : mj_at 187 201 = some (.aload_n 0) := by decide +kernel
theorem dx_187_202 : mj_at 187 202 = some (.invokevirtual 296) := by decide +kernel
theorem dx_187_205 : mj_at 187 205 = some (.iadd) := by decide +kernel
theorem dx_187_206 : mj_at 187 206 = some (.bipush 25) := by decide +kernel
theorem dx_187_208 : mj_at 187 208 = some (.irem) := by decide +kernel
theorem dx_187_209 : mj_at 187 209 = some (.istore 9) := by decide +kernel
theorem dx_187_211 : mj_at 187 211 = some (.aload_n 0) := by decide +kernel
theorem dx_187_212 : mj_at 187 212 = some (.getfield 7) := by decide +kernel
theorem dx_187_215 : mj_at 187 215 = some (.iload_n 1) := by decide +kernel
theorem dx_187_216 : mj_at 187 216 = some (.iload_n 2) := by decide +kernel
theorem dx_187_217 : mj_at 187 217 = some (.invokestatic 101) := by decide +kernel
theorem dx_187_220 : mj_at 187 220 = some (.aload_n 0) := by decide +kernel
theorem dx_187_221 : mj_at 187 221 = some (.iload_n 1) := by decide +kernel
theorem dx_187_222 : mj_at 187 222 = some (.iload_n 2) := by decide +kernel
theorem dx_187_223 : mj_at 187 223 = some (.invokevirtual 105) := by decide +kernel
theorem dx_187_226 : mj_at 187 226 = some (.iconst 1) := by decide +kernel
theorem dx_187_227 : mj_at 187 227 = some (.iload 9) := by decide +kernel
theorem dx_187_229 : mj_at 187 229 = some (.ishl) := by decide +kernel
theorem dx_187_230 : mj_at 187 230 = some (.ixor) := by decide +kernel
theorem dx_187_231 : mj_at 187 231 = some (.iastore) := by decide +kernel
theorem dx_187_232 : mj_at 187 232 = some (.aload_n 0) := by decide +kernel
theorem dx_187_233 : mj_at 187 233 = some (.aload_n 0) := by decide +kernel
theorem dx_187_234 : mj_at 187 234 = some (.getfield 302) := by decide +kernel
theorem dx_187_237 : mj_at 187 237 = some (.iconst 1) := by decide +kernel
theorem dx_187_238 : mj_at 187 238 = some (.iadd) := by decide +kernel
theorem dx_187_239 : mj_at 187 239 = some (.putfield 302) := by decide +kernel
theorem dx_187_242 : mj_at 187 242 = some (.return_) := by decide +kernel
set_option maxRecDepth 10000 in
theorem b_X9_practises {sl d : Nat} {M : mj_M} {x1 : Int32} {x2 : Int32}  : mj_C sl (d + 1) 187 [.ref 45, .int x1, .int x2] M = (mj_C sl d 136 [.ref 45, .int x1, .int x2] M).bind (fun q1 => if mj_inB x2 8 = true then ((mj_C sl d 128 [.int (q1.1 ^^^ (q1.2 49 (x2 : Int32).toNatClampNeg))] q1.2).bind (fun q2 => (mj_C sl d 128 [.int q1.1] q2.2).bind (fun q3 => (mj_C sl d 186 [.ref 45, .int x1, .int x2, .int q2.1, .int q3.1] q3.2).bind (fun q4 => (mj_C sl d 172 [.ref 45, .int 120] q4.2).bind (fun q5 => (mj_C sl d 171 [.ref 45, .int 112, .int 10] q5.2).bind (fun q6 => (mj_C sl d 171 [.ref 45, .int 119, .int 10] q6.2).bind (fun q7 => if q5.1 = 0 then (if mj_inB ((20 : Int32) + x1) 112 = true then ((mj_C sl d 128 [.int q1.1] q7.2).bind (fun q8 => if q7.2 46 ((20 : Int32) + x1 : Int32).toNatClampNeg < q8.1 then (some ((0 : Int32), q8.2)) else (if mj_inB ((20 : Int32) + x1) 112 = true then ((mj_C sl d 128 [.int q1.1] q8.2).bind (fun q9 => if mj_inB ((20 : Int32) + x1) 112 = true then ((mj_C sl d 128 [.int q1.1] (mj_st q9.2 46 ((20 : Int32) + x1 : Int32).toNatClampNeg ((q8.2 46 ((20 : Int32) + x1 : Int32).toNatClampNeg) - q9.1))).bind (fun q10 => (mj_C sl d 185 [.ref 45] (mj_st q10.2 45 39 (((mj_st q9.2 46 ((20 : Int32) + x1 : Int32).toNatClampNeg ((q8.2 46 ((20 : Int32) + x1 : Int32).toNatClampNeg) - q9.1)) 45 39) + q10.1))).bind (fun q11 => if q11.1 < q6.1 then (if q1.1 ^^^ (q1.2 49 (x2 : Int32).toNatClampNeg) = 0 then (mj_E sl (d + 1) 187 180 [.ref 45, .int x1, .int x2, .int q1.1, .int (q1.1 ^^^ (q1.2 49 (x2 : Int32).toNatClampNeg)), .int q5.1, .int q6.1, .int q7.1, .null, .null] [] q11.2) else (mj_E sl (d + 1) 187 135 [.ref 45, .int x1, .int x2, .int q1.1, .int (q1.1 ^^^ (q1.2 49 (x2 : Int32).toNatClampNeg)), .int q5.1, .int q6.1, .int q7.1, .int 0, .null] [] q11.2)) else (mj_E sl (d + 1) 187 180 [.ref 45, .int x1, .int x2, .int q1.1, .int (q1.1 ^^^ (q1.2 49 (x2 : Int32).toNatClampNeg)), .int q5.1, .int q6.1, .int q7.1, .null, .null] [] q11.2)))) else none)) else none))) else none) else (some ((0 : Int32), q7.2))))))))) else none) := by
  show mj_E sl (d + 1) 187 0 [.ref 45, .int x1, .int x2, .null, .null, .null, .null, .null, .null, .null] [] M = _
  refine (sx_aload_n dx_187_0 rfl).trans ?_
  refine (sx_iload_n dx_187_1 rfl).trans ?_
  refine (sx_iload_n dx_187_2 rfl).trans ?_
  refine (sx_v2i dx_187_3 ow_187 cx_7_105 oc_45 (Nat.le_of_ble_eq_true rfl)).trans ?_
  refine mj_bnd (fun q1 => ?_)
  refine (sx_istore_n dx_187_6 (Nat.le_of_ble_eq_true rfl) rfl).trans ?_
  refine (sx_iload_n dx_187_7 rfl).trans ?_
  refine (sx_aload_n dx_187_8 rfl).trans ?_
  refine (sx_gfr dx_187_9 ow_187 fx_7_19 oc_45 rb_45_3).trans ?_
  refine (sx_iload_n dx_187_12 rfl).trans ?_
  refine (sx_ild dx_187_13 (by decide) ia_49).trans ?_
  refine mj_ite ?_ rfl
  refine (sx_ixor dx_187_14).trans ?_
  refine (sx_istore dx_187_15 (Nat.le_of_ble_eq_true rfl) rfl).trans ?_
  refine (sx_aload_n dx_187_17 rfl).trans ?_
  refine (sx_iload_n dx_187_18 rfl).trans ?_
  refine (sx_iload_n dx_187_19 rfl).trans ?_
  refine (sx_iload dx_187_20 rfl).trans ?_
  refine (sx_s1i dx_187_22 ow_187 cx_7_108 (Nat.le_of_ble_eq_true rfl)).trans ?_
  refine mj_bnd (fun q2 => ?_)
  refine (sx_iload_n dx_187_25 rfl).trans ?_
  refine (sx_s1i dx_187_26 ow_187 cx_7_108 (Nat.le_of_ble_eq_true rfl)).trans ?_
  refine mj_bnd (fun q3 => ?_)
  refine (sx_v4v dx_187_29 ow_187 cx_7_283 oc_45 (Nat.le_of_ble_eq_true rfl)).trans ?_
  refine mj_bnd (fun q4 => ?_)
  refine (sx_aload_n dx_187_32 rfl).trans ?_
  refine (sx_bipush (v := 120) dx_187_33 rfl).trans ?_
  refine (sx_v1i dx_187_35 ow_187 cx_7_287 oc_45 (Nat.le_of_ble_eq_true rfl)).trans ?_
  refine mj_bnd (fun q5 => ?_)
  refine (sx_istore dx_187_38 (Nat.le_of_ble_eq_true rfl) rfl).trans ?_
  refine (sx_aload_n dx_187_40 rfl).trans ?_
  refine (sx_bipush (v := 112) dx_187_41 rfl).trans ?_
  refine (sx_bipush (v := 10) dx_187_43 rfl).trans ?_
  refine (sx_v2i dx_187_45 ow_187 cx_7_290 oc_45 (Nat.le_of_ble_eq_true rfl)).trans ?_
  refine mj_bnd (fun q6 => ?_)
  refine (sx_istore dx_187_48 (Nat.le_of_ble_eq_true rfl) rfl).trans ?_
  refine (sx_aload_n dx_187_50 rfl).trans ?_
  refine (sx_bipush (v := 119) dx_187_51 rfl).trans ?_
  refine (sx_bipush (v := 10) dx_187_53 rfl).trans ?_
  refine (sx_v2i dx_187_55 ow_187 cx_7_290 oc_45 (Nat.le_of_ble_eq_true rfl)).trans ?_
  refine mj_bnd (fun q7 => ?_)
  refine (sx_istore dx_187_58 (Nat.le_of_ble_eq_true rfl) rfl).trans ?_
  refine (sx_iload dx_187_60 rfl).trans ?_
  refine (sx_if_ne (tgt := 81) dx_187_62 (by decide)).trans ?_
  refine mj_ite ?_ ?_
  · refine (sx_aload_n dx_187_65 rfl).trans ?_
    refine (sx_gfr dx_187_66 ow_187 fx_7_7 oc_45 rb_45_0).trans ?_
    refine (sx_bipush (v := 20) dx_187_69 rfl).trans ?_
    refine (sx_iload_n dx_187_71 rfl).trans ?_
    refine (sx_iadd dx_187_72).trans ?_
    refine (sx_ild dx_187_73 (by decide) ia_46).trans ?_
    refine mj_ite ?_ rfl
    refine (sx_iload_n dx_187_74 rfl).trans ?_
    refine (sx_s1i dx_187_75 ow_187 cx_7_108 (Nat.le_of_ble_eq_true rfl)).trans ?_
    refine mj_bnd (fun q8 => ?_)
    refine (sx_icmp_ge (tgt := 82) dx_187_78 (by decide)).trans ?_
    refine mj_ite ?_ ?_
    · exact sx_retv dx_187_81 rt_187
    · refine (sx_aload_n dx_187_82 rfl).trans ?_
      refine (sx_gfr dx_187_83 ow_187 fx_7_7 oc_45 rb_45_0).trans ?_
      refine (sx_bipush (v := 20) dx_187_86 rfl).trans ?_
      refine (sx_iload_n dx_187_88 rfl).trans ?_
      refine (sx_iadd dx_187_89).trans ?_
      refine (sx_aload_n dx_187_90 rfl).trans ?_
      refine (sx_gfr dx_187_91 ow_187 fx_7_7 oc_45 rb_45_0).trans ?_
      refine (sx_bipush (v := 20) dx_187_94 rfl).trans ?_
      refine (sx_iload_n dx_187_96 rfl).trans ?_
      refine (sx_iadd dx_187_97).trans ?_
      refine (sx_ild dx_187_98 (by decide) ia_46).trans ?_
      refine mj_ite ?_ rfl
      refine (sx_iload_n dx_187_99 rfl).trans ?_
      refine (sx_s1i dx_187_100 ow_187 cx_7_108 (Nat.le_of_ble_eq_true rfl)).trans ?_
      refine mj_bnd (fun q9 => ?_)
      refine (sx_isub dx_187_103).trans ?_
      refine (sx_ist dx_187_104 ia_46).trans ?_
      refine mj_ite ?_ rfl
      refine (sx_aload_n dx_187_105 rfl).trans ?_
      refine (sx_aload_n dx_187_106 rfl).trans ?_
      refine (sx_gfi dx_187_107 ow_187 fx_7_293 (by decide) oc_45).trans ?_
      refine (sx_iload_n dx_187_110 rfl).trans ?_
      refine (sx_s1i dx_187_111 ow_187 cx_7_108 (Nat.le_of_ble_eq_true rfl)).trans ?_
      refine mj_bnd (fun q10 => ?_)
      refine (sx_iadd dx_187_114).trans ?_
      refine (sx_pfi dx_187_115 ow_187 fx_7_293 oc_45).trans ?_
      refine (sx_aload_n dx_187_118 rfl).trans ?_
      refine (sx_v0i dx_187_119 ow_187 cx_7_296 oc_45 (Nat.le_of_ble_eq_true rfl)).trans ?_
      refine mj_bnd (fun q11 => ?_)
      refine (sx_iload dx_187_122 rfl).trans ?_
      refine (sx_icmp_ge (tgt := 180) dx_187_124 (by decide)).trans ?_
      refine mj_ite ?_ ?_
      · refine (sx_iload dx_187_127 rfl).trans ?_
        refine (sx_if_eq (tgt := 180) dx_187_129 (by decide)).trans ?_
        refine mj_ite ?_ ?_
        · rfl
        · refine (sx_iconst (v := 0) dx_187_132 rfl).trans ?_
          refine (sx_istore dx_187_133 (Nat.le_of_ble_eq_true rfl) rfl).trans ?_
          rfl
      · rfl
  · exact sx_retv dx_187_81 rt_187
set_option maxRecDepth 10000 in
theorem b_X9_practises_135 {sl d : Nat} {M : mj_M} {y1 : Int32} {y2 : Int32} {y3 : Int32} {y4 : Int32} {w5 : Value} {w6 : Value} {y7 : Int32} {y8 : Int32} {w9 : Value}  : mj_E sl (d + 1) 187 135 [.ref 45, .int y1, .int y2, .int y3, .int y4, w5, w6, .int y7, .int y8, w9] [] M = (mj_C sl d 127 [.int y4, .int y8] M).bind (fun q1 => if q1.1 = 0 then (mj_E sl (d + 1) 187 135 [.ref 45, .int y1, .int y2, .int y3, .int y4, w5, w6, .int y7, .int (y8 + 1), w9] [] q1.2) else ((mj_C sl d 135 [.int y1, .int y2] q1.2).bind (fun q2 => if mj_inB q2.1 112 = true then (mj_E sl (d + 1) 187 180 [.ref 45, .int y1, .int y2, .int y3, .int y4, w5, w6, .int y7, .int y8, w9] [] (mj_st (mj_st q2.2 46 (q2.1 : Int32).toNatClampNeg (y3 ^^^ ((1 : Int32) <<< (y8 &&& 31)))) 45 37 (((mj_st q2.2 46 (q2.1 : Int32).toNatClampNeg (y3 ^^^ ((1 : Int32) <<< (y8 &&& 31)))) 45 37) + 1))) else none))) := by
  refine (sx_iload dx_187_135 rfl).trans ?_
  refine (sx_iload dx_187_137 rfl).trans ?_
  refine (sx_s2i dx_187_139 ow_187 cx_7_254 (Nat.le_of_ble_eq_true rfl)).trans ?_
  refine mj_bnd (fun q1 => ?_)
  refine (sx_if_ne (tgt := 154) dx_187_142 (by decide)).trans ?_
  refine mj_ite ?_ ?_
  · refine (sx_iload dx_187_145 rfl).trans ?_
    refine (sx_iconst (v := 1) dx_187_147 rfl).trans ?_
    refine (sx_iadd dx_187_148).trans ?_
    refine (sx_istore dx_187_149 (Nat.le_of_ble_eq_true rfl) rfl).trans ?_
    refine (sx_goto (tgt := 135) dx_187_151 (by decide)).trans ?_
    rfl
  · refine (sx_aload_n dx_187_154 rfl).trans ?_
    refine (sx_gfr dx_187_155 ow_187 fx_7_7 oc_45 rb_45_0).trans ?_
    refine (sx_iload_n dx_187_158 rfl).trans ?_
    refine (sx_iload_n dx_187_159 rfl).trans ?_
    refine (sx_s2i dx_187_160 ow_187 cx_7_101 (Nat.le_of_ble_eq_true rfl)).trans ?_
    refine mj_bnd (fun q2 => ?_)
    refine (sx_iload_n dx_187_163 rfl).trans ?_
    refine (sx_iconst (v := 1) dx_187_164 rfl).trans ?_
    refine (sx_iload dx_187_165 rfl).trans ?_
    refine (sx_ishl dx_187_167).trans ?_
    refine (sx_ixor dx_187_168).trans ?_
    refine (sx_ist dx_187_169 ia_46).trans ?_
    refine mj_ite ?_ rfl
    refine (sx_aload_n dx_187_170 rfl).trans ?_
    refine (sx_aload_n dx_187_171 rfl).trans ?_
    refine (sx_gfi dx_187_172 ow_187 fx_7_299 (by decide) oc_45).trans ?_
    refine (sx_iconst (v := 1) dx_187_175 rfl).trans ?_
    refine (sx_iadd dx_187_176).trans ?_
    refine (sx_pfi dx_187_177 ow_187 fx_7_299 oc_45).trans ?_
    rfl
set_option maxRecDepth 10000 in
theorem b_X9_practises_180 {sl d : Nat} {M : mj_M} {y1 : Int32} {y2 : Int32} {w3 : Value} {w4 : Value} {w5 : Value} {w6 : Value} {y7 : Int32} {w8 : Value} {w9 : Value}  : mj_E sl (d + 1) 187 180 [.ref 45, .int y1, .int y2, w3, w4, w5, w6, .int y7, w8, w9] [] M = (mj_C sl d 185 [.ref 45] M).bind (fun q1 => if q1.1 < y7 then ((mj_C sl d 185 [.ref 45] q1.2).bind (fun q2 => (mj_C sl d 185 [.ref 45] q2.2).bind (fun q3 => (mj_C sl d 135 [.int y1, .int y2] q3.2).bind (fun q4 => (mj_C sl d 136 [.ref 45, .int y1, .int y2] q4.2).bind (fun q5 => if mj_inB q4.1 112 = true then (some ((0 : Int32), mj_st (mj_st q5.2 46 (q4.1 : Int32).toNatClampNeg (q5.1 ^^^ ((1 : Int32) <<< ((mj_rm (((10 : Int32) * q2.1) + q3.1) 25) &&& 31)))) 45 38 (((mj_st q5.2 46 (q4.1 : Int32).toNatClampNeg (q5.1 ^^^ ((1 : Int32) <<< ((mj_rm (((10 : Int32) * q2.1) + q3.1) 25) &&& 31)))) 45 38) + 1))) else none))))) else (some ((0 : Int32), q1.2))) := by
  refine (sx_aload_n dx_187_180 rfl).trans ?_
  refine (sx_v0i dx_187_181 ow_187 cx_7_296 oc_45 (Nat.le_of_ble_eq_true rfl)).trans ?_
  refine mj_bnd (fun q1 => ?_)
  refine (sx_iload dx_187_184 rfl).trans ?_
  refine (sx_icmp_lt (tgt := 190) dx_187_186 (by decide)).trans ?_
  refine mj_ite ?_ ?_
  · refine (sx_aload_n dx_187_190 rfl).trans ?_
    refine (sx_v0i dx_187_191 ow_187 cx_7_296 oc_45 (Nat.le_of_ble_eq_true rfl)).trans ?_
    refine mj_bnd (fun q2 => ?_)
    refine (sx_istore dx_187_194 (Nat.le_of_ble_eq_true rfl) rfl).trans ?_
    refine (sx_bipush (v := 10) dx_187_196 rfl).trans ?_
    refine (sx_iload dx_187_198 rfl).trans ?_
    refine (sx_imul dx_187_200).trans ?_
    refine (sx_aload_n dx_187_201 rfl).trans ?_
    refine (sx_v0i dx_187_202 ow_187 cx_7_296 oc_45 (Nat.le_of_ble_eq_true rfl)).trans ?_
    refine mj_bnd (fun q3 => ?_)
    refine (sx_iadd dx_187_205).trans ?_
    refine (sx_bipush (v := 25) dx_187_206 rfl).trans ?_
    refine (sx_irem dx_187_208 (by decide)).trans ?_
    refine (sx_istore dx_187_209 (Nat.le_of_ble_eq_true rfl) rfl).trans ?_
    refine (sx_aload_n dx_187_211 rfl).trans ?_
    refine (sx_gfr dx_187_212 ow_187 fx_7_7 oc_45 rb_45_0).trans ?_
    refine (sx_iload_n dx_187_215 rfl).trans ?_
    refine (sx_iload_n dx_187_216 rfl).trans ?_
    refine (sx_s2i dx_187_217 ow_187 cx_7_101 (Nat.le_of_ble_eq_true rfl)).trans ?_
    refine mj_bnd (fun q4 => ?_)
    refine (sx_aload_n dx_187_220 rfl).trans ?_
    refine (sx_iload_n dx_187_221 rfl).trans ?_
    refine (sx_iload_n dx_187_222 rfl).trans ?_
    refine (sx_v2i dx_187_223 ow_187 cx_7_105 oc_45 (Nat.le_of_ble_eq_true rfl)).trans ?_
    refine mj_bnd (fun q5 => ?_)
    refine (sx_iconst (v := 1) dx_187_226 rfl).trans ?_
    refine (sx_iload dx_187_227 rfl).trans ?_
    refine (sx_ishl dx_187_229).trans ?_
    refine (sx_ixor dx_187_230).trans ?_
    refine (sx_ist dx_187_231 ia_46).trans ?_
    refine mj_ite ?_ rfl
    refine (sx_aload_n dx_187_232 rfl).trans ?_
    refine (sx_aload_n dx_187_233 rfl).trans ?_
    refine (sx_gfi dx_187_234 ow_187 fx_7_302 (by decide) oc_45).trans ?_
    refine (sx_iconst (v := 1) dx_187_237 rfl).trans ?_
    refine (sx_iadd dx_187_238).trans ?_
    refine (sx_pfi dx_187_239 ow_187 fx_7_302 oc_45).trans ?_
    exact sx_retv dx_187_242 rt_187
  · exact sx_retv dx_187_189 rt_187
theorem dx_188_0 : mj_at 188 0 = some (.iconst 0) := by decide +kernel
theorem dx_188_1 : mj_at 188 1 = some (.istore_n 1) := by decide +kernel
theorem dx_188_2 : mj_at 188 2 = some (.iload_n 1) := by decide +kernel
theorem dx_188_3 : mj_at 188 3 = some (.bipush 10) := by decide +kernel
theorem dx_188_5 : mj_at 188 5 = some (.if_icmp .ge 32) := by decide +kernel
theorem dx_188_8 : mj_at 188 8 = some (.aload_n 0) := by decide +kernel
theorem dx_188_9 : mj_at 188 9 = some (.getfield 77) := by decide +kernel
theorem dx_188_12 : mj_at 188 12 = some (.iload_n 1) := by decide +kernel
theorem dx_188_13 : mj_at 188 13 = some (.aload_n 0) := by decide +kernel
theorem dx_188_14 : mj_at 188 14 = some (.iload_n 1) := by decide +kernel
theorem dx_188_15 : mj_at 188 15 = some (.invokevirtual 98) := by decide +kernel
theorem dx_188_18 : mj_at 188 18 = some (.ifCond .eq 11) := by decide +kernel
theorem dx_188_21 : mj_at 188 21 = some (.aload_n 0) := by decide +kernel
theorem dx_188_22 : mj_at 188 22 = some (.iload_n 1) := by decide +kernel
theorem dx_188_23 : mj_at 188 23 = some (.invokevirtual 305) := by decide +kernel
theorem dx_188_26 : mj_at 188 26 = some (.goto 4) := by decide +kernel
theorem dx_188_29 : mj_at 188 29 = some (.iconst 0) := by decide +kernel
theorem dx_188_30 : mj_at 188 30 = some (.iastore) := by decide +kernel
theorem dx_188_31 : mj_at 188 31 = some (.iinc 1 1) := by decide +kernel
theorem dx_188_34 : mj_at 188 34 = some (.goto (-32)) := by decide +kernel
theorem dx_188_37 : mj_at 188 37 = some (.iconst 0) := by decide +kernel
theorem dx_188_38 : mj_at 188 38 = some (.istore_n 1) := by decide +kernel
theorem dx_188_39 : mj_at 188 39 = some (.iload_n 1) := by decide +kernel
theorem dx_188_40 : mj_at 188 40 = some (.bipush 10) := by decide +kernel
theorem dx_188_42 : mj_at 188 42 = some (.if_icmp .ge 89) := by decide +kernel
theorem dx_188_45 : mj_at 188 45 = some (.aload_n 0) := by decide +kernel
theorem dx_188_46 : mj_at 188 46 = some (.iload_n 1) := by decide +kernel
theorem dx_188_47 : mj_at 188 47 = some (.invokevirtual 98) := by decide +kernel
theorem dx_188_50 : mj_at 188 50 = some (.ifCond .ne 6) := by decide +kernel
theorem dx_188_53 : mj_at 188 53 = some (.goto 72) := by decide +kernel
theorem dx_188_56 : mj_at 188 56 = some (.aload_n 0) := by decide +kernel
theorem dx_188_57 : mj_at 188 57 = some (.iload_n 1) := by decide +kernel
theorem dx_188_58 : mj_at 188 58 = some (.iconst 0) := by decide +kernel
theorem dx_188_59 : mj_at 188 59 = some (.iconst 0) := by decide +kernel
theorem dx_188_60 : mj_at 188 60 = some (.iconst 0) := by decide +kernel
theorem dx_188_61 : mj_at 188 61 = some (.invokevirtual 283) := by decide +kernel
theorem dx_188_64 : mj_at 188 64 = some (.aload_n 0) := by decide +kernel
theorem dx_188_65 : mj_at 188 65 = some (.getfield 7) := by decide +kernel
theorem dx_188_68 : mj_at 188 68 = some (.bipush 20) := by decide +kernel
theorem dx_188_70 : mj_at 188 70 = some (.iload_n 1) := by decide +kernel
theorem dx_188_71 : mj_at 188 71 = some (.iadd) := by decide +kernel
theorem dx_188_72 : mj_at 188 72 = some (.sipush 9999) := by decide +kernel
theorem dx_188_75 : mj_at 188 75 = some (.aload_n 0) := by decide +kernel
theorem dx_188_76 : mj_at 188 76 = some (.getfield 7) := by decide +kernel
theorem dx_188_79 : mj_at 188 79 = some (.bipush 20) := by decide +kernel
theorem dx_188_81 : mj_at 188 81 = some (.iload_n 1) := by decide +kernel
theorem dx_188_82 : mj_at 188 82 = some (.iadd) := by decide +kernel
theorem dx_188_83 : mj_at 188 83 = some (.iaload) := by decide +kernel
theorem dx_188_84 : mj_at 188 84 = some (.aload_n 0) := by decide +kernel
theorem dx_188_85 : mj_at 188 85 = some (.bipush 105) := by decide +kernel
theorem dx_188_87 : mj_at 188 87 = some (.bipush 99) := by decide +kernel
theorem dx_188_89 : mj_at 188 89 = some (.invokevirtual 290) := by decide +kernel
theorem dx_188_92 : mj_at 188 92 = some (.iadd) := by decide +kernel
theorem dx_188_93 : mj_at 188 93 = some (.invokestatic 308) := by decide +kernel
theorem dx_188_96 : mj_at 188 96 = some (.iastore) := by decide +kernel
theorem dx_188_97 : mj_at 188 97 = some (.iconst 0) := by decide +kernel
theorem dx_188_98 : mj_at 188 98 = some (.istore_n 2) := by decide +kernel
theorem dx_188_99 : mj_at 188 99 = some (.iload_n 2) := by decide +kernel
theorem dx_188_100 : mj_at 188 100 = some (.bipush 8) := by decide +kernel
theorem dx_188_102 : mj_at 188 102 = some (.if_icmp .ge 23) := by decide +kernel
theorem dx_188_105 : mj_at 188 105 = some (.aload_n 0) := by decide +kernel
theorem dx_188_106 : mj_at 188 106 = some (.iload_n 2) := by decide +kernel
theorem dx_188_107 : mj_at 188 107 = some (.invokevirtual 94) := by decide +kernel
theorem dx_188_110 : mj_at 188 110 = some (.ifCond .eq 9) := by decide +kernel
theorem dx_188_113 : mj_at 188 113 = some (.aload_n 0) := by decide +kernel
theorem dx_188_114 : mj_at 188 114 = some (.iload_n 1) := by decide +kernel
theorem dx_188_115 : mj_at 188 115 = some (.iload_n 2) := by decide +kernel
theorem dx_188_116 : mj_at 188 116 = some (.invokevirtual 311) := by decide +kernel
theorem dx_188_119 : mj_at 188 119 = some (.iinc 2 1) := by decide +kernel
theorem dx_188_122 : mj_at 188 122 = some (.goto (-23)) := by decide +kernel
theorem dx_188_125 : mj_at 188 125 = some (.iinc 1 1) := by decide +kernel
theorem dx_188_128 : mj_at 188 128 = some (.goto (-89)) := by decide +kernel
theorem dx_188_131 : mj_at 188 131 = some (.aload_n 0) := by decide +kernel
theorem dx_188_132 : mj_at 188 132 = some (.getfield 7) := by decide +kernel
theorem dx_188_135 : mj_at 188 135 = some (.bipush 110) := by decide +kernel
theorem dx_188_137 : mj_at 188 137 = some (.aload_n 0) := by decide +kernel
theorem dx_188_138 : mj_at 188 138 = some (.getfield 7) := by decide +kernel
theorem dx_188_141 : mj_at 188 141 = some (.bipush 110) := by decide +kernel
theorem dx_188_143 : mj_at 188 143 = some (.iaload) := by decide +kernel
theorem dx_188_144 : mj_at 188 144 = some (.iconst 1) := by decide +kernel
theorem dx_188_145 : mj_at 188 145 = some (.iadd) := by decide +kernel
theorem dx_188_146 : mj_at 188 146 = some (.iastore) := by decide +kernel
theorem dx_188_147 : mj_at 188 147 = some (.aload_n 0) := by decide +kernel
theorem dx_188_148 : mj_at 188 148 = some (.getfield 7) := by decide +kernel
theorem dx_188_151 : mj_at 188 151 = some (.bipush 110) := by decide +kernel
theorem dx_188_153 : mj_at 188 153 = some (.iaload) := by decide +kernel
theorem dx_188_154 : mj_at 188 154 = some (.bipush 12) := by decide +kernel
theorem dx_188_156 : mj_at 188 156 = some (.irem) := by decide +kernel
theorem dx_188_157 : mj_at 188 157 = some (.ifCond .eq 4) := by decide +kernel
theorem dx_188_160 : mj_at 188 160 = some (.return_) := by decide +kernel
theorem dx_188_161 : mj_at 188 161 = some (.iconst 0) := by decide +kernel
theorem dx_188_162 : mj_at 188 162 = some (.istore_n 1) := by decide +kernel
theorem dx_188_163 : mj_at 188 163 = some (.iload_n 1) := by decide +kernel
theorem dx_188_164 : mj_at 188 164 = some (.bipush 10) := by decide +kernel
theorem dx_188_166 : mj_at 188 166 = some (.if_icmp .ge 41) := by decide +kernel
theorem dx_188_169 : mj_at 188 169 = some (.aload_n 0) := by decide +kernel
theorem dx_188_170 : mj_at 188 170 = some (.getfield 7) := by decide +kernel
theorem dx_188_173 : mj_at 188 173 = some (.bipush 10) := by decide +kernel
theorem dx_188_175 : mj_at 188 175 = some (.iload_n 1) := by decide +kernel
theorem dx_188_176 : mj_at 188 176 = some (.iadd) := by decide +kernel
theorem dx_188_177 : mj_at 188 177 = some (.bipush 99) := by decide +kernel
theorem dx_188_179 : mj_at 188 179 = some (.aload_n 0) := by decide +kernel
theorem dx_188_180 : mj_at 188 180 = some (.getfield 7) := by decide +kernel
theorem dx_188_183 : mj_at 188 183 = some (.bipush 10) := by decide +kernel
theorem dx_188_185 : mj_at 188 185 = some (.iload_n 1) := by decide +kernel
theorem dx_188_186 : mj_at 188 186 = some (.iadd) := by decide +kernel
theorem dx_188_187 : mj_at 188 187 = some (.iaload) := by decide +kernel
theorem dx_188_188 : mj_at 188 188 = some (.aload_n 0) := by decide +kernel
theorem dx_188_189 : mj_at 188 189 = some (.getfield 7) := by decide +kernel
theorem dx_188_192 : mj_at 188 192 = some (.iconst 0) := by decide +kernel
theorem dx_188_193 : mj_at 188 193 = some (.iload_n 1) := by decide +kernel
theorem dx_188_194 : mj_at 188 194 = some (.iadd) := by decide +kernel
theorem dx_188_195 : mj_at 188 195 = some (.iaload) := by decide +kernel
theorem dx_188_196 : mj_at 188 196 = some (.iadd) := by decide +kernel
theorem dx_188_197 : mj_at 188 197 = some (.invokestatic 308) := by decide +kernel
theorem dx_188_200 : mj_at 188 200 = some (.iastore) := by decide +kernel
theorem dx_188_201 : mj_at 188 201 = some (.iinc 1 1) := by decide +kernel
theorem dx_188_204 : mj_at 188 204 = some (.goto (-41)) := by decide +kernel
theorem dx_188_207 : mj_at 188 207 = some (.return_) := by decide +kernel
set_option maxRecDepth 10000 in
theorem b_X9_moonGoes {sl d : Nat} {M : mj_M}   : mj_C sl (d + 1) 188 [.ref 45] M = mj_E sl (d + 1) 188 2 [.ref 45, .int 0, .null] [] M := by
  show mj_E sl (d + 1) 188 0 [.ref 45, .null, .null] [] M = _
  refine (sx_iconst (v := 0) dx_188_0 rfl).trans ?_
  refine (sx_istore_n dx_188_1 (Nat.le_of_ble_eq_true rfl) rfl).trans ?_
  rfl
set_option maxRecDepth 10000 in
theorem b_X9_moonGoes_2 {sl d : Nat} {M : mj_M} {y1 : Int32} {w2 : Value}  : mj_E sl (d + 1) 188 2 [.ref 45, .int y1, w2] [] M = if y1 < 10 then ((mj_C sl d 132 [.ref 45, .int y1] M).bind (fun q1 => if q1.1 = 0 then (if mj_inB y1 10 = true then (mj_E sl (d + 1) 188 2 [.ref 45, .int (y1 + 1), w2] [] (mj_st q1.2 68 (y1 : Int32).toNatClampNeg 0)) else none) else ((mj_C sl d 139 [.ref 45, .int y1] q1.2).bind (fun q2 => if mj_inB y1 10 = true then (mj_E sl (d + 1) 188 2 [.ref 45, .int (y1 + 1), w2] [] (mj_st q2.2 68 (y1 : Int32).toNatClampNeg q2.1)) else none)))) else (mj_E sl (d + 1) 188 39 [.ref 45, .int 0, w2] [] M) := by
  refine (sx_iload_n dx_188_2 rfl).trans ?_
  refine (sx_bipush (v := 10) dx_188_3 rfl).trans ?_
  refine (sx_icmp_ge (tgt := 37) dx_188_5 (by decide)).trans ?_
  refine mj_ite ?_ ?_
  · refine (sx_aload_n dx_188_8 rfl).trans ?_
    refine (sx_gfr dx_188_9 ow_188 fx_7_77 oc_45 rb_45_36).trans ?_
    refine (sx_iload_n dx_188_12 rfl).trans ?_
    refine (sx_aload_n dx_188_13 rfl).trans ?_
    refine (sx_iload_n dx_188_14 rfl).trans ?_
    refine (sx_v1i dx_188_15 ow_188 cx_7_98 oc_45 (Nat.le_of_ble_eq_true rfl)).trans ?_
    refine mj_bnd (fun q1 => ?_)
    refine (sx_if_eq (tgt := 29) dx_188_18 (by decide)).trans ?_
    refine mj_ite ?_ ?_
    · refine (sx_iconst (v := 0) dx_188_29 rfl).trans ?_
      refine (sx_ist dx_188_30 ia_68).trans ?_
      refine mj_ite ?_ rfl
      refine (sx_iinc (v := 1) dx_188_31 rfl rfl rfl).trans ?_
      refine (sx_goto (tgt := 2) dx_188_34 (by decide)).trans ?_
      rfl
    · refine (sx_aload_n dx_188_21 rfl).trans ?_
      refine (sx_iload_n dx_188_22 rfl).trans ?_
      refine (sx_v1i dx_188_23 ow_188 cx_7_305 oc_45 (Nat.le_of_ble_eq_true rfl)).trans ?_
      refine mj_bnd (fun q2 => ?_)
      refine (sx_goto (tgt := 30) dx_188_26 (by decide)).trans ?_
      refine (sx_ist dx_188_30 ia_68).trans ?_
      refine mj_ite ?_ rfl
      refine (sx_iinc (v := 1) dx_188_31 rfl rfl rfl).trans ?_
      refine (sx_goto (tgt := 2) dx_188_34 (by decide)).trans ?_
      rfl
  · refine (sx_iconst (v := 0) dx_188_37 rfl).trans ?_
    refine (sx_istore_n dx_188_38 (Nat.le_of_ble_eq_true rfl) rfl).trans ?_
    rfl
set_option maxRecDepth 10000 in
theorem b_X9_moonGoes_39 {sl d : Nat} {M : mj_M} {y1 : Int32} {w2 : Value}  : mj_E sl (d + 1) 188 39 [.ref 45, .int y1, w2] [] M = if y1 < 10 then ((mj_C sl d 132 [.ref 45, .int y1] M).bind (fun q1 => if q1.1 = 0 then (mj_E sl (d + 1) 188 39 [.ref 45, .int (y1 + 1), w2] [] q1.2) else ((mj_C sl d 186 [.ref 45, .int y1, .int 0, .int 0, .int 0] q1.2).bind (fun q2 => if mj_inB ((20 : Int32) + y1) 112 = true then ((mj_C sl d 171 [.ref 45, .int 105, .int 99] q2.2).bind (fun q3 => (mj_C sl d 125 [.int 9999, .int ((q2.2 46 ((20 : Int32) + y1 : Int32).toNatClampNeg) + q3.1)] q3.2).bind (fun q4 => if mj_inB ((20 : Int32) + y1) 112 = true then (mj_E sl (d + 1) 188 99 [.ref 45, .int y1, .int 0] [] (mj_st q4.2 46 ((20 : Int32) + y1 : Int32).toNatClampNeg q4.1)) else none))) else none)))) else (if mj_rm ((mj_st M 46 110 ((M 46 110) + 1)) 46 110) 12 = 0 then (mj_E sl (d + 1) 188 163 [.ref 45, .int 0, w2] [] (mj_st M 46 110 ((M 46 110) + 1))) else (some ((0 : Int32), mj_st M 46 110 ((M 46 110) + 1)))) := by
  refine (sx_iload_n dx_188_39 rfl).trans ?_
  refine (sx_bipush (v := 10) dx_188_40 rfl).trans ?_
  refine (sx_icmp_ge (tgt := 131) dx_188_42 (by decide)).trans ?_
  refine mj_ite ?_ ?_
  · refine (sx_aload_n dx_188_45 rfl).trans ?_
    refine (sx_iload_n dx_188_46 rfl).trans ?_
    refine (sx_v1i dx_188_47 ow_188 cx_7_98 oc_45 (Nat.le_of_ble_eq_true rfl)).trans ?_
    refine mj_bnd (fun q1 => ?_)
    refine (sx_if_ne (tgt := 56) dx_188_50 (by decide)).trans ?_
    refine mj_ite ?_ ?_
    · refine (sx_goto (tgt := 125) dx_188_53 (by decide)).trans ?_
      refine (sx_iinc (v := 1) dx_188_125 rfl rfl rfl).trans ?_
      refine (sx_goto (tgt := 39) dx_188_128 (by decide)).trans ?_
      rfl
    · refine (sx_aload_n dx_188_56 rfl).trans ?_
      refine (sx_iload_n dx_188_57 rfl).trans ?_
      refine (sx_iconst (v := 0) dx_188_58 rfl).trans ?_
      refine (sx_iconst (v := 0) dx_188_59 rfl).trans ?_
      refine (sx_iconst (v := 0) dx_188_60 rfl).trans ?_
      refine (sx_v4v dx_188_61 ow_188 cx_7_283 oc_45 (Nat.le_of_ble_eq_true rfl)).trans ?_
      refine mj_bnd (fun q2 => ?_)
      refine (sx_aload_n dx_188_64 rfl).trans ?_
      refine (sx_gfr dx_188_65 ow_188 fx_7_7 oc_45 rb_45_0).trans ?_
      refine (sx_bipush (v := 20) dx_188_68 rfl).trans ?_
      refine (sx_iload_n dx_188_70 rfl).trans ?_
      refine (sx_iadd dx_188_71).trans ?_
      refine (sx_sipush (v := 9999) dx_188_72 rfl).trans ?_
      refine (sx_aload_n dx_188_75 rfl).trans ?_
      refine (sx_gfr dx_188_76 ow_188 fx_7_7 oc_45 rb_45_0).trans ?_
      refine (sx_bipush (v := 20) dx_188_79 rfl).trans ?_
      refine (sx_iload_n dx_188_81 rfl).trans ?_
      refine (sx_iadd dx_188_82).trans ?_
      refine (sx_ild dx_188_83 (by decide) ia_46).trans ?_
      refine mj_ite ?_ rfl
      refine (sx_aload_n dx_188_84 rfl).trans ?_
      refine (sx_bipush (v := 105) dx_188_85 rfl).trans ?_
      refine (sx_bipush (v := 99) dx_188_87 rfl).trans ?_
      refine (sx_v2i dx_188_89 ow_188 cx_7_290 oc_45 (Nat.le_of_ble_eq_true rfl)).trans ?_
      refine mj_bnd (fun q3 => ?_)
      refine (sx_iadd dx_188_92).trans ?_
      refine (sx_s2i dx_188_93 ow_188 cx_7_308 (Nat.le_of_ble_eq_true rfl)).trans ?_
      refine mj_bnd (fun q4 => ?_)
      refine (sx_ist dx_188_96 ia_46).trans ?_
      refine mj_ite ?_ rfl
      refine (sx_iconst (v := 0) dx_188_97 rfl).trans ?_
      refine (sx_istore_n dx_188_98 (Nat.le_of_ble_eq_true rfl) rfl).trans ?_
      rfl
  · refine (sx_aload_n dx_188_131 rfl).trans ?_
    refine (sx_gfr dx_188_132 ow_188 fx_7_7 oc_45 rb_45_0).trans ?_
    refine (sx_bipush (v := 110) dx_188_135 rfl).trans ?_
    refine (sx_aload_n dx_188_137 rfl).trans ?_
    refine (sx_gfr dx_188_138 ow_188 fx_7_7 oc_45 rb_45_0).trans ?_
    refine (sx_bipush (v := 110) dx_188_141 rfl).trans ?_
    refine (sx_ildk (k := 110) dx_188_143 (by decide) ia_46 (by decide) (by decide)).trans ?_
    refine (sx_iconst (v := 1) dx_188_144 rfl).trans ?_
    refine (sx_iadd dx_188_145).trans ?_
    refine (sx_istk (k := 110) dx_188_146 ia_46 (by decide) (by decide)).trans ?_
    refine (sx_aload_n dx_188_147 rfl).trans ?_
    refine (sx_gfr dx_188_148 ow_188 fx_7_7 oc_45 rb_45_0).trans ?_
    refine (sx_bipush (v := 110) dx_188_151 rfl).trans ?_
    refine (sx_ildk (k := 110) dx_188_153 (by decide) ia_46 (by decide) (by decide)).trans ?_
    refine (sx_bipush (v := 12) dx_188_154 rfl).trans ?_
    refine (sx_irem dx_188_156 (by decide)).trans ?_
    refine (sx_if_eq (tgt := 161) dx_188_157 (by decide)).trans ?_
    refine mj_ite ?_ ?_
    · refine (sx_iconst (v := 0) dx_188_161 rfl).trans ?_
      refine (sx_istore_n dx_188_162 (Nat.le_of_ble_eq_true rfl) rfl).trans ?_
      rfl
    · exact sx_retv dx_188_160 rt_188
set_option maxRecDepth 10000 in
theorem b_X9_moonGoes_99 {sl d : Nat} {M : mj_M} {y1 : Int32} {y2 : Int32}  : mj_E sl (d + 1) 188 99 [.ref 45, .int y1, .int y2] [] M = if y2 < 8 then ((mj_C sl d 131 [.ref 45, .int y2] M).bind (fun q1 => if q1.1 = 0 then (mj_E sl (d + 1) 188 99 [.ref 45, .int y1, .int (y2 + 1)] [] q1.2) else ((mj_C sl d 187 [.ref 45, .int y1, .int y2] q1.2).bind (fun q2 => mj_E sl (d + 1) 188 99 [.ref 45, .int y1, .int (y2 + 1)] [] q2.2)))) else (mj_E sl (d + 1) 188 39 [.ref 45, .int (y1 + 1), .int y2] [] M) := by
  refine (sx_iload_n dx_188_99 rfl).trans ?_
  refine (sx_bipush (v := 8) dx_188_100 rfl).trans ?_
  refine (sx_icmp_ge (tgt := 125) dx_188_102 (by decide)).trans ?_
  refine mj_ite ?_ ?_
  · refine (sx_aload_n dx_188_105 rfl).trans ?_
    refine (sx_iload_n dx_188_106 rfl).trans ?_
    refine (sx_v1i dx_188_107 ow_188 cx_7_94 oc_45 (Nat.le_of_ble_eq_true rfl)).trans ?_
    refine mj_bnd (fun q1 => ?_)
    refine (sx_if_eq (tgt := 119) dx_188_110 (by decide)).trans ?_
    refine mj_ite ?_ ?_
    · refine (sx_iinc (v := 1) dx_188_119 rfl rfl rfl).trans ?_
      refine (sx_goto (tgt := 99) dx_188_122 (by decide)).trans ?_
      rfl
    · refine (sx_aload_n dx_188_113 rfl).trans ?_
      refine (sx_iload_n dx_188_114 rfl).trans ?_
      refine (sx_iload_n dx_188_115 rfl).trans ?_
      refine (sx_v2v dx_188_116 ow_188 cx_7_311 oc_45 (Nat.le_of_ble_eq_true rfl)).trans ?_
      refine mj_bnd (fun q2 => ?_)
      refine (sx_iinc (v := 1) dx_188_119 rfl rfl rfl).trans ?_
      refine (sx_goto (tgt := 99) dx_188_122 (by decide)).trans ?_
      rfl
  · refine (sx_iinc (v := 1) dx_188_125 rfl rfl rfl).trans ?_
    refine (sx_goto (tgt := 39) dx_188_128 (by decide)).trans ?_
    rfl
set_option maxRecDepth 10000 in
theorem b_X9_moonGoes_163 {sl d : Nat} {M : mj_M} {y1 : Int32} {w2 : Value}  : mj_E sl (d + 1) 188 163 [.ref 45, .int y1, w2] [] M = if y1 < 10 then (if mj_inB ((10 : Int32) + y1) 112 = true then (if mj_inB ((0 : Int32) + y1) 112 = true then ((mj_C sl d 125 [.int 99, .int ((M 46 ((10 : Int32) + y1 : Int32).toNatClampNeg) + (M 46 ((0 : Int32) + y1 : Int32).toNatClampNeg))] M).bind (fun q1 => if mj_inB ((10 : Int32) + y1) 112 = true then (mj_E sl (d + 1) 188 163 [.ref 45, .int (y1 + 1), w2] [] (mj_st q1.2 46 ((10 : Int32) + y1 : Int32).toNatClampNeg q1.1)) else none)) else none) else none) else (some ((0 : Int32), M)) := by
  refine (sx_iload_n dx_188_163 rfl).trans ?_
  refine (sx_bipush (v := 10) dx_188_164 rfl).trans ?_
  refine (sx_icmp_ge (tgt := 207) dx_188_166 (by decide)).trans ?_
  refine mj_ite ?_ ?_
  · refine (sx_aload_n dx_188_169 rfl).trans ?_
    refine (sx_gfr dx_188_170 ow_188 fx_7_7 oc_45 rb_45_0).trans ?_
    refine (sx_bipush (v := 10) dx_188_173 rfl).trans ?_
    refine (sx_iload_n dx_188_175 rfl).trans ?_
    refine (sx_iadd dx_188_176).trans ?_
    refine (sx_bipush (v := 99) dx_188_177 rfl).trans ?_
    refine (sx_aload_n dx_188_179 rfl).trans ?_
    refine (sx_gfr dx_188_180 ow_188 fx_7_7 oc_45 rb_45_0).trans ?_
    refine (sx_bipush (v := 10) dx_188_183 rfl).trans ?_
    refine (sx_iload_n dx_188_185 rfl).trans ?_
    refine (sx_iadd dx_188_186).trans ?_
    refine (sx_ild dx_188_187 (by decide) ia_46).trans ?_
    refine mj_ite ?_ rfl
    refine (sx_aload_n dx_188_188 rfl).trans ?_
    refine (sx_gfr dx_188_189 ow_188 fx_7_7 oc_45 rb_45_0).trans ?_
    refine (sx_iconst (v := 0) dx_188_192 rfl).trans ?_
    refine (sx_iload_n dx_188_193 rfl).trans ?_
    refine (sx_iadd dx_188_194).trans ?_
    refine (sx_ild dx_188_195 (by decide) ia_46).trans ?_
    refine mj_ite ?_ rfl
    refine (sx_iadd dx_188_196).trans ?_
    refine (sx_s2i dx_188_197 ow_188 cx_7_308 (Nat.le_of_ble_eq_true rfl)).trans ?_
    refine mj_bnd (fun q1 => ?_)
    refine (sx_ist dx_188_200 ia_46).trans ?_
    refine mj_ite ?_ rfl
    refine (sx_iinc (v := 1) dx_188_201 rfl rfl rfl).trans ?_
    refine (sx_goto (tgt := 163) dx_188_204 (by decide)).trans ?_
    rfl
  · exact sx_retv dx_188_207 rt_188
theorem dx_189_0 : mj_at 189 0 = some (.aload_n 0) := by decide +kernel
theorem dx_189_1 : mj_at 189 1 = some (.iconst 0) := by decide +kernel
theorem dx_189_2 : mj_at 189 2 = some (.putfield 299) := by decide +kernel
theorem dx_189_5 : mj_at 189 5 = some (.aload_n 0) := by decide +kernel
theorem dx_189_6 : mj_at 189 6 = some (.iconst 0) := by decide +kernel
theorem dx_189_7 : mj_at 189 7 = some (.putfield 302) := by decide +kernel
theorem dx_189_10 : mj_at 189 10 = some (.aload_n 0) := by decide +kernel
theorem dx_189_11 : mj_at 189 11 = some (.iconst 0) := by decide +kernel
theorem dx_189_12 : mj_at 189 12 = some (.putfield 293) := by decide +kernel
theorem dx_189_15 : mj_at 189 15 = some (.iconst 0) := by decide +kernel
theorem dx_189_16 : mj_at 189 16 = some (.istore_n 2) := by decide +kernel
theorem dx_189_17 : mj_at 189 17 = some (.iload_n 2) := by decide +kernel
theorem dx_189_18 : mj_at 189 18 = some (.iload_n 1) := by decide +kernel
theorem dx_189_19 : mj_at 189 19 = some (.if_icmp .ge 26) := by decide +kernel
theorem dx_189_22 : mj_at 189 22 = some (.aload_n 0) := by decide +kernel
theorem dx_189_23 : mj_at 189 23 = some (.getfield 7) := by decide +kernel
theorem dx_189_26 : mj_at 189 26 = some (.bipush 110) := by decide +kernel
theorem dx_189_28 : mj_at 189 28 = some (.iaload) := by decide +kernel
theorem dx_189_29 : mj_at 189 29 = some (.sipush 9999) := by decide +kernel
theorem dx_189_32 : mj_at 189 32 = some (.if_icmp .ge 13) := by decide +kernel
theorem dx_189_35 : mj_at 189 35 = some (.aload_n 0) := by decide +kernel
theorem dx_189_36 : mj_at 189 36 = some (.invokevirtual 314) := by decide +kernel
theorem dx_189_39 : mj_at 189 39 = some (.iinc 2 1) := by decide +kernel
theorem dx_189_42 : mj_at 189 42 = some (.goto (-25)) := by decide +kernel
theorem dx_189_45 : mj_at 189 45 = some (.return_) := by decide +kernel
set_option maxRecDepth 10000 in
theorem b_X9_moonsGo {sl d : Nat} {M : mj_M} {x1 : Int32}  : mj_C sl (d + 1) 189 [.ref 45, .int x1] M = mj_E sl (d + 1) 189 17 [.ref 45, .int x1, .int 0] [] (mj_st (mj_st (mj_st M 45 37 0) 45 38 0) 45 39 0) := by
  show mj_E sl (d + 1) 189 0 [.ref 45, .int x1, .null] [] M = _
  refine (sx_aload_n dx_189_0 rfl).trans ?_
  refine (sx_iconst (v := 0) dx_189_1 rfl).trans ?_
  refine (sx_pfi dx_189_2 ow_189 fx_7_299 oc_45).trans ?_
  refine (sx_aload_n dx_189_5 rfl).trans ?_
  refine (sx_iconst (v := 0) dx_189_6 rfl).trans ?_
  refine (sx_pfi dx_189_7 ow_189 fx_7_302 oc_45).trans ?_
  refine (sx_aload_n dx_189_10 rfl).trans ?_
  refine (sx_iconst (v := 0) dx_189_11 rfl).trans ?_
  refine (sx_pfi dx_189_12 ow_189 fx_7_293 oc_45).trans ?_
  refine (sx_iconst (v := 0) dx_189_15 rfl).trans ?_
  refine (sx_istore_n dx_189_16 (Nat.le_of_ble_eq_true rfl) rfl).trans ?_
  rfl
set_option maxRecDepth 10000 in
theorem b_X9_moonsGo_17 {sl d : Nat} {M : mj_M} {y1 : Int32} {y2 : Int32}  : mj_E sl (d + 1) 189 17 [.ref 45, .int y1, .int y2] [] M = if y2 < y1 then (if M 46 110 < 9999 then ((mj_C sl d 188 [.ref 45] M).bind (fun q1 => mj_E sl (d + 1) 189 17 [.ref 45, .int y1, .int (y2 + 1)] [] q1.2)) else (some ((0 : Int32), M))) else (some ((0 : Int32), M)) := by
  refine (sx_iload_n dx_189_17 rfl).trans ?_
  refine (sx_iload_n dx_189_18 rfl).trans ?_
  refine (sx_icmp_ge (tgt := 45) dx_189_19 (by decide)).trans ?_
  refine mj_ite ?_ ?_
  · refine (sx_aload_n dx_189_22 rfl).trans ?_
    refine (sx_gfr dx_189_23 ow_189 fx_7_7 oc_45 rb_45_0).trans ?_
    refine (sx_bipush (v := 110) dx_189_26 rfl).trans ?_
    refine (sx_ildk (k := 110) dx_189_28 (by decide) ia_46 (by decide) (by decide)).trans ?_
    refine (sx_sipush (v := 9999) dx_189_29 rfl).trans ?_
    refine (sx_icmp_ge (tgt := 45) dx_189_32 (by decide)).trans ?_
    refine mj_ite ?_ ?_
    · refine (sx_aload_n dx_189_35 rfl).trans ?_
      refine (sx_v0v dx_189_36 ow_189 cx_7_314 oc_45 (Nat.le_of_ble_eq_true rfl)).trans ?_
      refine mj_bnd (fun q1 => ?_)
      refine (sx_iinc (v := 1) dx_189_39 rfl rfl rfl).trans ?_
      refine (sx_goto (tgt := 17) dx_189_42 (by decide)).trans ?_
      rfl
    · exact sx_retv dx_189_45 rt_189
  · exact sx_retv dx_189_45 rt_189
theorem dx_190_0 : mj_at 190 0 = some (.iload_n 1) := by decide +kernel
theorem dx_190_1 : mj_at 190 1 = some (.iconst 1) := by decide +kernel
theorem dx_190_2 : mj_at 190 2 = some (.bipush 60) := by decide +kernel
theorem dx_190_4 : mj_at 190 4 = some (.invokestatic 90) := by decide +kernel
theorem dx_190_7 : mj_at 190 7 = some (.ifCond .ne 5) := by decide +kernel
theorem dx_190_10 : mj_at 190 10 = some (.iconst (-1)) := by decide +kernel
theorem dx_190_11 : mj_at 190 11 = some (.ireturn) := by decide +kernel
theorem dx_190_12 : mj_at 190 12 = some (.aload_n 0) := by decide +kernel
theorem dx_190_13 : mj_at 190 13 = some (.iload_n 1) := by decide +kernel
theorem dx_190_14 : mj_at 190 14 = some (.invokevirtual 317) := by decide +kernel
theorem dx_190_17 : mj_at 190 17 = some (.aload_n 0) := by decide +kernel
theorem dx_190_18 : mj_at 190 18 = some (.getfield 299) := by decide +kernel
theorem dx_190_21 : mj_at 190 21 = some (.ireturn) := by decide +kernel
set_option maxRecDepth 10000 in
theorem b_X9_moons {sl d : Nat} {M : mj_M} {x1 : Int32}  : mj_C sl (d + 1) 190 [.ref 45, .int x1] M = (mj_C sl d 124 [.int x1, .int 1, .int 60] M).bind (fun q1 => if q1.1 = 0 then (some (((-1) : Int32), q1.2)) else ((mj_C sl d 189 [.ref 45, .int x1] q1.2).bind (fun q2 => some ((q2.2 45 37 : Int32), q2.2)))) := by
  show mj_E sl (d + 1) 190 0 [.ref 45, .int x1] [] M = _
  refine (sx_iload_n dx_190_0 rfl).trans ?_
  refine (sx_iconst (v := 1) dx_190_1 rfl).trans ?_
  refine (sx_bipush (v := 60) dx_190_2 rfl).trans ?_
  refine (sx_s3i dx_190_4 ow_190 cx_7_90 (Nat.le_of_ble_eq_true rfl)).trans ?_
  refine mj_bnd (fun q1 => ?_)
  refine (sx_if_ne (tgt := 12) dx_190_7 (by decide)).trans ?_
  refine mj_ite ?_ ?_
  · refine (sx_iconst (v := (-1)) dx_190_10 rfl).trans ?_
    exact sx_reti dx_190_11 rt_190
  · refine (sx_aload_n dx_190_12 rfl).trans ?_
    refine (sx_iload_n dx_190_13 rfl).trans ?_
    refine (sx_v1v dx_190_14 ow_190 cx_7_317 oc_45 (Nat.le_of_ble_eq_true rfl)).trans ?_
    refine mj_bnd (fun q2 => ?_)
    refine (sx_aload_n dx_190_17 rfl).trans ?_
    refine (sx_gfi dx_190_18 ow_190 fx_7_299 (by decide) oc_45).trans ?_
    exact sx_reti dx_190_21 rt_190
theorem dx_191_0 : mj_at 191 0 = some (.iconst 0) := by decide +kernel
theorem dx_191_1 : mj_at 191 1 = some (.istore_n 1) := by decide +kernel
theorem dx_191_2 : mj_at 191 2 = some (.iload_n 1) := by decide +kernel
theorem dx_191_3 : mj_at 191 3 = some (.bipush 10) := by decide +kernel
theorem dx_191_5 : mj_at 191 5 = some (.if_icmp .ge 27) := by decide +kernel
theorem dx_191_8 : mj_at 191 8 = some (.aload_n 0) := by decide +kernel
theorem dx_191_9 : mj_at 191 9 = some (.iload_n 1) := by decide +kernel
theorem dx_191_10 : mj_at 191 10 = some (.invokevirtual 98) := by decide +kernel
theorem dx_191_13 : mj_at 191 13 = some (.ifCond .eq 13) := by decide +kernel
theorem dx_191_16 : mj_at 191 16 = some (.aload_n 0) := by decide +kernel
theorem dx_191_17 : mj_at 191 17 = some (.iload_n 1) := by decide +kernel
theorem dx_191_18 : mj_at 191 18 = some (.invokevirtual 305) := by decide +kernel
theorem dx_191_21 : mj_at 191 21 = some (.ifCond .ne 5) := by decide +kernel
theorem dx_191_24 : mj_at 191 24 = some (.iload_n 1) := by decide +kernel
theorem dx_191_25 : mj_at 191 25 = some (.ireturn) := by decide +kernel
theorem dx_191_26 : mj_at 191 26 = some (.iinc 1 1) := by decide +kernel
theorem dx_191_29 : mj_at 191 29 = some (.goto (-27)) := by decide +kernel
theorem dx_191_32 : mj_at 191 32 = some (.bipush (-2)) := by decide +kernel
theorem dx_191_34 : mj_at 191 34 = some (.ireturn) := by decide +kernel
set_option maxRecDepth 10000 in
theorem b_X9_firstInRank {sl d : Nat} {M : mj_M}   : mj_C sl (d + 1) 191 [.ref 45] M = mj_E sl (d + 1) 191 2 [.ref 45, .int 0] [] M := by
  show mj_E sl (d + 1) 191 0 [.ref 45, .null] [] M = _
  refine (sx_iconst (v := 0) dx_191_0 rfl).trans ?_
  refine (sx_istore_n dx_191_1 (Nat.le_of_ble_eq_true rfl) rfl).trans ?_
  rfl
set_option maxRecDepth 10000 in
theorem b_X9_firstInRank_2 {sl d : Nat} {M : mj_M} {y1 : Int32}  : mj_E sl (d + 1) 191 2 [.ref 45, .int y1] [] M = if y1 < 10 then ((mj_C sl d 132 [.ref 45, .int y1] M).bind (fun q1 => if q1.1 = 0 then (mj_E sl (d + 1) 191 2 [.ref 45, .int (y1 + 1)] [] q1.2) else ((mj_C sl d 139 [.ref 45, .int y1] q1.2).bind (fun q2 => if q2.1 = 0 then (some ((y1 : Int32), q2.2)) else (mj_E sl (d + 1) 191 2 [.ref 45, .int (y1 + 1)] [] q2.2))))) else (some (((-2) : Int32), M)) := by
  refine (sx_iload_n dx_191_2 rfl).trans ?_
  refine (sx_bipush (v := 10) dx_191_3 rfl).trans ?_
  refine (sx_icmp_ge (tgt := 32) dx_191_5 (by decide)).trans ?_
  refine mj_ite ?_ ?_
  · refine (sx_aload_n dx_191_8 rfl).trans ?_
    refine (sx_iload_n dx_191_9 rfl).trans ?_
    refine (sx_v1i dx_191_10 ow_191 cx_7_98 oc_45 (Nat.le_of_ble_eq_true rfl)).trans ?_
    refine mj_bnd (fun q1 => ?_)
    refine (sx_if_eq (tgt := 26) dx_191_13 (by decide)).trans ?_
    refine mj_ite ?_ ?_
    · refine (sx_iinc (v := 1) dx_191_26 rfl rfl rfl).trans ?_
      refine (sx_goto (tgt := 2) dx_191_29 (by decide)).trans ?_
      rfl
    · refine (sx_aload_n dx_191_16 rfl).trans ?_
      refine (sx_iload_n dx_191_17 rfl).trans ?_
      refine (sx_v1i dx_191_18 ow_191 cx_7_305 oc_45 (Nat.le_of_ble_eq_true rfl)).trans ?_
      refine mj_bnd (fun q2 => ?_)
      refine (sx_if_ne (tgt := 26) dx_191_21 (by decide)).trans ?_
      refine mj_ite ?_ ?_
      · refine (sx_iload_n dx_191_24 rfl).trans ?_
        exact sx_reti dx_191_25 rt_191
      · refine (sx_iinc (v := 1) dx_191_26 rfl rfl rfl).trans ?_
        refine (sx_goto (tgt := 2) dx_191_29 (by decide)).trans ?_
        rfl
  · refine (sx_bipush (v := (-2)) dx_191_32 rfl).trans ?_
    exact sx_reti dx_191_34 rt_191
theorem dx_192_0 : mj_at 192 0 = some (.iload_n 1) := by decide +kernel
theorem dx_192_1 : mj_at 192 1 = some (.iconst 1) := by decide +kernel
theorem dx_192_2 : mj_at 192 2 = some (.bipush 60) := by decide +kernel
theorem dx_192_4 : mj_at 192 4 = some (.invokestatic 90) := by decide +kernel
theorem dx_192_7 : mj_at 192 7 = some (.ifCond .eq 34) := by decide +kernel
theorem dx_192_10 : mj_at 192 10 = some (.iload_n 2) := by decide +kernel
theorem dx_192_11 : mj_at 192 11 = some (.iconst 0) := by decide +kernel
theorem dx_192_12 : mj_at 192 12 = some (.iconst 3) := by decide +kernel
theorem dx_192_13 : mj_at 192 13 = some (.invokestatic 90) := by decide +kernel
theorem dx_192_16 : mj_at 192 16 = some (.ifCond .ne 27) := by decide +kernel
theorem dx_192_19 : mj_at 192 19 = some (.iload_n 2) := by decide +kernel
theorem dx_192_20 : mj_at 192 20 = some (.bipush 10) := by decide +kernel
theorem dx_192_22 : mj_at 192 22 = some (.bipush 39) := by decide +kernel
theorem dx_192_24 : mj_at 192 24 = some (.invokestatic 90) := by decide +kernel
theorem dx_192_27 : mj_at 192 27 = some (.ifCond .eq 14) := by decide +kernel
theorem dx_192_30 : mj_at 192 30 = some (.aload_n 0) := by decide +kernel
theorem dx_192_31 : mj_at 192 31 = some (.iload_n 2) := by decide +kernel
theorem dx_192_32 : mj_at 192 32 = some (.bipush 10) := by decide +kernel
theorem dx_192_34 : mj_at 192 34 = some (.irem) := by decide +kernel
theorem dx_192_35 : mj_at 192 35 = some (.invokevirtual 98) := by decide +kernel
theorem dx_192_38 : mj_at 192 38 = some (.ifCond .ne 5) := by decide +kernel
theorem dx_192_41 : mj_at 192 41 = some (.iconst (-1)) := by decide +kernel
theorem dx_192_42 : mj_at 192 42 = some (.ireturn) := by decide +kernel
theorem dx_192_43 : mj_at 192 43 = some (.aload_n 0) := by decide +kernel
theorem dx_192_44 : mj_at 192 44 = some (.getfield 7) := by decide +kernel
theorem dx_192_47 : mj_at 192 47 = some (.aload_n 0) := by decide +kernel
theorem dx_192_48 : mj_at 192 48 = some (.getfield 13) := by decide +kernel
theorem dx_192_51 : mj_at 192 51 = some (.invokestatic 275) := by decide +kernel
theorem dx_192_54 : mj_at 192 54 = some (.aload_n 0) := by decide +kernel
theorem dx_192_55 : mj_at 192 55 = some (.iload_n 1) := by decide +kernel
theorem dx_192_56 : mj_at 192 56 = some (.invokevirtual 317) := by decide +kernel
theorem dx_192_59 : mj_at 192 59 = some (.iload_n 2) := by decide +kernel
theorem dx_192_60 : mj_at 192 60 = some (.tableswitch 64 0 3 #[32, 40, 48, 56]) := by decide +kernel
theorem dx_192_92 : mj_at 192 92 = some (.aload_n 0) := by decide +kernel
theorem dx_192_93 : mj_at 192 93 = some (.getfield 299) := by decide +kernel
theorem dx_192_96 : mj_at 192 96 = some (.istore_n 3) := by decide +kernel
theorem dx_192_97 : mj_at 192 97 = some (.goto 74) := by decide +kernel
theorem dx_192_100 : mj_at 192 100 = some (.aload_n 0) := by decide +kernel
theorem dx_192_101 : mj_at 192 101 = some (.getfield 302) := by decide +kernel
theorem dx_192_104 : mj_at 192 104 = some (.istore_n 3) := by decide +kernel
theorem dx_192_105 : mj_at 192 105 = some (.goto 66) := by decide +kernel
theorem dx_192_108 : mj_at 192 108 = some (.aload_n 0) := by decide +kernel
theorem dx_192_109 : mj_at 192 109 = some (.getfield 293) := by decide +kernel
theorem dx_192_112 : mj_at 192 112 = some (.istore_n 3) := by decide +kernel
theorem dx_192_113 : mj_at 192 113 = some (.goto 58) := by decide +kernel
theorem dx_192_116 : mj_at 192 116 = some (.aload_n 0) := by decide +kernel
theorem dx_192_117 : mj_at 192 117 = some (.invokevirtual 320) := by decide +kernel
theorem dx_192_120 : mj_at 192 120 = some (.istore_n 3) := by decide +kernel
theorem dx_192_121 : mj_at 192 121 = some (.goto 50) := by decide +kernel
theorem dx_192_124 : mj_at 192 124 = some (.iload_n 2) := by decide +kernel
theorem dx_192_125 : mj_at 192 125 = some (.bipush 20) := by decide +kernel
theorem dx_192_127 : mj_at 192 127 = some (.if_icmp .ge 14) := by decide +kernel
theorem dx_192_130 : mj_at 192 130 = some (.aload_n 0) := by decide +kernel
theorem dx_192_131 : mj_at 192 131 = some (.iload_n 2) := by decide +kernel
theorem dx_192_132 : mj_at 192 132 = some (.bipush 10) := by decide +kernel
theorem dx_192_134 : mj_at 192 134 = some (.irem) := by decide +kernel
theorem dx_192_135 : mj_at 192 135 = some (.invokevirtual 112) := by decide +kernel
theorem dx_192_138 : mj_at 192 138 = some (.goto 32) := by decide +kernel
theorem dx_192_141 : mj_at 192 141 = some (.iload_n 2) := by decide +kernel
theorem dx_192_142 : mj_at 192 142 = some (.bipush 30) := by decide +kernel
theorem dx_192_144 : mj_at 192 144 = some (.if_icmp .ge 14) := by decide +kernel
theorem dx_192_147 : mj_at 192 147 = some (.aload_n 0) := by decide +kernel
theorem dx_192_148 : mj_at 192 148 = some (.iload_n 2) := by decide +kernel
theorem dx_192_149 : mj_at 192 149 = some (.bipush 10) := by decide +kernel
theorem dx_192_151 : mj_at 192 151 = some (.irem) := by decide +kernel
theorem dx_192_152 : mj_at 192 152 = some (.invokevirtual 305) := by decide +kernel
theorem dx_192_155 : mj_at 192 155 = some (.goto 15) := by decide +kernel
theorem dx_192_158 : mj_at 192 158 = some (.aload_n 0) := by decide +kernel
theorem dx_192_159 : mj_at 192 159 = some (.getfield 7) := by decide +kernel
theorem dx_192_162 : mj_at 192 162 = some (.bipush 20) := by decide +kernel
theorem dx_192_164 : mj_at 192 164 = some (.iload_n 2) := by decide +kernel
theorem dx_192_165 : mj_at 192 165 = some (.bipush 10) := by decide +kernel
theorem dx_192_167 : mj_at 192 167 = some (.irem) := by decide +kernel
theorem dx_192_168 : mj_at 192 168 = some (.iadd) := by decide +kernel
theorem dx_192_169 : mj_at 192 169 = some (.iaload) := by decide +kernel
theorem dx_192_170 : mj_at 192 170 = some (.istore_n 3) := by decide +kernel
theorem dx_192_171 : mj_at 192 171 = some (.aload_n 0) := by decide +kernel
theorem dx_192_172 : mj_at 192 172 = some (.getfield 13) := by decide +kernel
theorem dx_192_175 : mj_at 192 175 = some (.aload_n 0) := by decide +kernel
theorem dx_192_176 : mj_at 192 176 = some (.getfield 7) := by decide +kernel
theorem dx_192_179 : mj_at 192 179 = some (.invokestatic 275) := by decide +kernel
theorem dx_192_182 : mj_at 192 182 = some (.iload_n 3) := by decide +kernel
theorem dx_192_183 : mj_at 192 183 = some (.ireturn) := by decide +kernel
set_option maxRecDepth 10000 in
theorem b_X9_tried {sl d : Nat} {M : mj_M} {x1 : Int32} {x2 : Int32}  : mj_C sl (d + 1) 192 [.ref 45, .int x1, .int x2] M = (mj_C sl d 124 [.int x1, .int 1, .int 60] M).bind (fun q1 => if q1.1 = 0 then (some (((-1) : Int32), q1.2)) else ((mj_C sl d 124 [.int x2, .int 0, .int 3] q1.2).bind (fun q2 => if q2.1 = 0 then ((mj_C sl d 124 [.int x2, .int 10, .int 39] q2.2).bind (fun q3 => if q3.1 = 0 then (some (((-1) : Int32), q3.2)) else ((mj_C sl d 132 [.ref 45, .int (mj_rm x2 10)] q3.2).bind (fun q4 => if q4.1 = 0 then (some (((-1) : Int32), q4.2)) else (mj_E sl (d + 1) 192 43 [.ref 45, .int x1, .int x2, .null] [] q4.2))))) else (mj_E sl (d + 1) 192 43 [.ref 45, .int x1, .int x2, .null] [] q2.2)))) := by
  show mj_E sl (d + 1) 192 0 [.ref 45, .int x1, .int x2, .null] [] M = _
  refine (sx_iload_n dx_192_0 rfl).trans ?_
  refine (sx_iconst (v := 1) dx_192_1 rfl).trans ?_
  refine (sx_bipush (v := 60) dx_192_2 rfl).trans ?_
  refine (sx_s3i dx_192_4 ow_192 cx_7_90 (Nat.le_of_ble_eq_true rfl)).trans ?_
  refine mj_bnd (fun q1 => ?_)
  refine (sx_if_eq (tgt := 41) dx_192_7 (by decide)).trans ?_
  refine mj_ite ?_ ?_
  · refine (sx_iconst (v := (-1)) dx_192_41 rfl).trans ?_
    exact sx_reti dx_192_42 rt_192
  · refine (sx_iload_n dx_192_10 rfl).trans ?_
    refine (sx_iconst (v := 0) dx_192_11 rfl).trans ?_
    refine (sx_iconst (v := 3) dx_192_12 rfl).trans ?_
    refine (sx_s3i dx_192_13 ow_192 cx_7_90 (Nat.le_of_ble_eq_true rfl)).trans ?_
    refine mj_bnd (fun q2 => ?_)
    refine (sx_if_ne (tgt := 43) dx_192_16 (by decide)).trans ?_
    refine mj_ite ?_ ?_
    · refine (sx_iload_n dx_192_19 rfl).trans ?_
      refine (sx_bipush (v := 10) dx_192_20 rfl).trans ?_
      refine (sx_bipush (v := 39) dx_192_22 rfl).trans ?_
      refine (sx_s3i dx_192_24 ow_192 cx_7_90 (Nat.le_of_ble_eq_true rfl)).trans ?_
      refine mj_bnd (fun q3 => ?_)
      refine (sx_if_eq (tgt := 41) dx_192_27 (by decide)).trans ?_
      refine mj_ite ?_ ?_
      · refine (sx_iconst (v := (-1)) dx_192_41 rfl).trans ?_
        exact sx_reti dx_192_42 rt_192
      · refine (sx_aload_n dx_192_30 rfl).trans ?_
        refine (sx_iload_n dx_192_31 rfl).trans ?_
        refine (sx_bipush (v := 10) dx_192_32 rfl).trans ?_
        refine (sx_irem dx_192_34 (by decide)).trans ?_
        refine (sx_v1i dx_192_35 ow_192 cx_7_98 oc_45 (Nat.le_of_ble_eq_true rfl)).trans ?_
        refine mj_bnd (fun q4 => ?_)
        refine (sx_if_ne (tgt := 43) dx_192_38 (by decide)).trans ?_
        refine mj_ite ?_ ?_
        · refine (sx_iconst (v := (-1)) dx_192_41 rfl).trans ?_
          exact sx_reti dx_192_42 rt_192
        · rfl
    · rfl
set_option maxRecDepth 10000 in
theorem b_X9_tried_43 {sl d : Nat} {M : mj_M} {y1 : Int32} {y2 : Int32} {w3 : Value}  : mj_E sl (d + 1) 192 43 [.ref 45, .int y1, .int y2, w3] [] M = (mj_C sl d 129 [.ref 46, .ref 47] M).bind (fun q1 => (mj_C sl d 189 [.ref 45, .int y1] q1.2).bind (fun q2 => if y2 = 0 then ((mj_C sl d 129 [.ref 47, .ref 46] q2.2).bind (fun q3 => some ((q2.2 45 37 : Int32), q3.2))) else (if y2 = 1 then ((mj_C sl d 129 [.ref 47, .ref 46] q2.2).bind (fun q4 => some ((q2.2 45 38 : Int32), q4.2))) else (if y2 = 2 then ((mj_C sl d 129 [.ref 47, .ref 46] q2.2).bind (fun q5 => some ((q2.2 45 39 : Int32), q5.2))) else (if y2 = 3 then ((mj_C sl d 191 [.ref 45] q2.2).bind (fun q6 => (mj_C sl d 129 [.ref 47, .ref 46] q6.2).bind (fun q7 => some ((q6.1 : Int32), q7.2)))) else (if y2 < 20 then ((mj_C sl d 137 [.ref 45, .int (mj_rm y2 10)] q2.2).bind (fun q8 => (mj_C sl d 129 [.ref 47, .ref 46] q8.2).bind (fun q9 => some ((q8.1 : Int32), q9.2)))) else (if y2 < 30 then ((mj_C sl d 139 [.ref 45, .int (mj_rm y2 10)] q2.2).bind (fun q10 => (mj_C sl d 129 [.ref 47, .ref 46] q10.2).bind (fun q11 => some ((q10.1 : Int32), q11.2)))) else (if mj_inB ((20 : Int32) + (mj_rm y2 10)) 112 = true then ((mj_C sl d 129 [.ref 47, .ref 46] q2.2).bind (fun q12 => some ((q2.2 46 ((20 : Int32) + (mj_rm y2 10) : Int32).toNatClampNeg : Int32), q12.2))) else none)))))))) := by
  refine (sx_aload_n dx_192_43 rfl).trans ?_
  refine (sx_gfr dx_192_44 ow_192 fx_7_7 oc_45 rb_45_0).trans ?_
  refine (sx_aload_n dx_192_47 rfl).trans ?_
  refine (sx_gfr dx_192_48 ow_192 fx_7_13 oc_45 rb_45_1).trans ?_
  refine (sx_s2v dx_192_51 ow_192 cx_7_275 (Nat.le_of_ble_eq_true rfl)).trans ?_
  refine mj_bnd (fun q1 => ?_)
  refine (sx_aload_n dx_192_54 rfl).trans ?_
  refine (sx_iload_n dx_192_55 rfl).trans ?_
  refine (sx_v1v dx_192_56 ow_192 cx_7_317 oc_45 (Nat.le_of_ble_eq_true rfl)).trans ?_
  refine mj_bnd (fun q2 => ?_)
  refine (sx_iload_n dx_192_59 rfl).trans ?_
  refine mj_sel (fun hx1_0 => ?_) (fun hx1_0 => ?_)
  · refine (sx_tsw_in (off := 32) (tgt := 92) dx_192_60 hx1_0 (by decide) (by decide) (by decide)).trans ?_
    refine (sx_aload_n dx_192_92 rfl).trans ?_
    refine (sx_gfi dx_192_93 ow_192 fx_7_299 (by decide) oc_45).trans ?_
    refine (sx_istore_n dx_192_96 (Nat.le_of_ble_eq_true rfl) rfl).trans ?_
    refine (sx_goto (tgt := 171) dx_192_97 (by decide)).trans ?_
    refine (sx_aload_n dx_192_171 rfl).trans ?_
    refine (sx_gfr dx_192_172 ow_192 fx_7_13 oc_45 rb_45_1).trans ?_
    refine (sx_aload_n dx_192_175 rfl).trans ?_
    refine (sx_gfr dx_192_176 ow_192 fx_7_7 oc_45 rb_45_0).trans ?_
    refine (sx_s2v dx_192_179 ow_192 cx_7_275 (Nat.le_of_ble_eq_true rfl)).trans ?_
    refine mj_bnd (fun q3 => ?_)
    refine (sx_iload_n dx_192_182 rfl).trans ?_
    exact sx_reti dx_192_183 rt_192
  refine mj_sel (fun hx1_1 => ?_) (fun hx1_1 => ?_)
  · refine (sx_tsw_in (off := 40) (tgt := 100) dx_192_60 hx1_1 (by decide) (by decide) (by decide)).trans ?_
    refine (sx_aload_n dx_192_100 rfl).trans ?_
    refine (sx_gfi dx_192_101 ow_192 fx_7_302 (by decide) oc_45).trans ?_
    refine (sx_istore_n dx_192_104 (Nat.le_of_ble_eq_true rfl) rfl).trans ?_
    refine (sx_goto (tgt := 171) dx_192_105 (by decide)).trans ?_
    refine (sx_aload_n dx_192_171 rfl).trans ?_
    refine (sx_gfr dx_192_172 ow_192 fx_7_13 oc_45 rb_45_1).trans ?_
    refine (sx_aload_n dx_192_175 rfl).trans ?_
    refine (sx_gfr dx_192_176 ow_192 fx_7_7 oc_45 rb_45_0).trans ?_
    refine (sx_s2v dx_192_179 ow_192 cx_7_275 (Nat.le_of_ble_eq_true rfl)).trans ?_
    refine mj_bnd (fun q4 => ?_)
    refine (sx_iload_n dx_192_182 rfl).trans ?_
    exact sx_reti dx_192_183 rt_192
  refine mj_sel (fun hx1_2 => ?_) (fun hx1_2 => ?_)
  · refine (sx_tsw_in (off := 48) (tgt := 108) dx_192_60 hx1_2 (by decide) (by decide) (by decide)).trans ?_
    refine (sx_aload_n dx_192_108 rfl).trans ?_
    refine (sx_gfi dx_192_109 ow_192 fx_7_293 (by decide) oc_45).trans ?_
    refine (sx_istore_n dx_192_112 (Nat.le_of_ble_eq_true rfl) rfl).trans ?_
    refine (sx_goto (tgt := 171) dx_192_113 (by decide)).trans ?_
    refine (sx_aload_n dx_192_171 rfl).trans ?_
    refine (sx_gfr dx_192_172 ow_192 fx_7_13 oc_45 rb_45_1).trans ?_
    refine (sx_aload_n dx_192_175 rfl).trans ?_
    refine (sx_gfr dx_192_176 ow_192 fx_7_7 oc_45 rb_45_0).trans ?_
    refine (sx_s2v dx_192_179 ow_192 cx_7_275 (Nat.le_of_ble_eq_true rfl)).trans ?_
    refine mj_bnd (fun q5 => ?_)
    refine (sx_iload_n dx_192_182 rfl).trans ?_
    exact sx_reti dx_192_183 rt_192
  refine mj_sel (fun hx1_3 => ?_) (fun hx1_3 => ?_)
  · refine (sx_tsw_in (off := 56) (tgt := 116) dx_192_60 hx1_3 (by decide) (by decide) (by decide)).trans ?_
    refine (sx_aload_n dx_192_116 rfl).trans ?_
    refine (sx_v0i dx_192_117 ow_192 cx_7_320 oc_45 (Nat.le_of_ble_eq_true rfl)).trans ?_
    refine mj_bnd (fun q6 => ?_)
    refine (sx_istore_n dx_192_120 (Nat.le_of_ble_eq_true rfl) rfl).trans ?_
    refine (sx_goto (tgt := 171) dx_192_121 (by decide)).trans ?_
    refine (sx_aload_n dx_192_171 rfl).trans ?_
    refine (sx_gfr dx_192_172 ow_192 fx_7_13 oc_45 rb_45_1).trans ?_
    refine (sx_aload_n dx_192_175 rfl).trans ?_
    refine (sx_gfr dx_192_176 ow_192 fx_7_7 oc_45 rb_45_0).trans ?_
    refine (sx_s2v dx_192_179 ow_192 cx_7_275 (Nat.le_of_ble_eq_true rfl)).trans ?_
    refine mj_bnd (fun q7 => ?_)
    refine (sx_iload_n dx_192_182 rfl).trans ?_
    exact sx_reti dx_192_183 rt_192
  have zhx1_0 := mj_ne hx1_0 (n := 0) (by decide)
  have zhx1_1 := mj_ne hx1_1 (n := 1) (by decide)
  have zhx1_2 := mj_ne hx1_2 (n := 2) (by decide)
  have zhx1_3 := mj_ne hx1_3 (n := 3) (by decide)
  refine (sx_tsw_out (tgt := 124) dx_192_60 (by omega) (by decide)).trans ?_
  refine (sx_iload_n dx_192_124 rfl).trans ?_
  refine (sx_bipush (v := 20) dx_192_125 rfl).trans ?_
  refine (sx_icmp_ge (tgt := 141) dx_192_127 (by decide)).trans ?_
  refine mj_ite ?_ ?_
  · refine (sx_aload_n dx_192_130 rfl).trans ?_
    refine (sx_iload_n dx_192_131 rfl).trans ?_
    refine (sx_bipush (v := 10) dx_192_132 rfl).trans ?_
    refine (sx_irem dx_192_134 (by decide)).trans ?_
    refine (sx_v1i dx_192_135 ow_192 cx_7_112 oc_45 (Nat.le_of_ble_eq_true rfl)).trans ?_
    refine mj_bnd (fun q8 => ?_)
    refine (sx_goto (tgt := 170) dx_192_138 (by decide)).trans ?_
    refine (sx_istore_n dx_192_170 (Nat.le_of_ble_eq_true rfl) rfl).trans ?_
    refine (sx_aload_n dx_192_171 rfl).trans ?_
    refine (sx_gfr dx_192_172 ow_192 fx_7_13 oc_45 rb_45_1).trans ?_
    refine (sx_aload_n dx_192_175 rfl).trans ?_
    refine (sx_gfr dx_192_176 ow_192 fx_7_7 oc_45 rb_45_0).trans ?_
    refine (sx_s2v dx_192_179 ow_192 cx_7_275 (Nat.le_of_ble_eq_true rfl)).trans ?_
    refine mj_bnd (fun q9 => ?_)
    refine (sx_iload_n dx_192_182 rfl).trans ?_
    exact sx_reti dx_192_183 rt_192
  · refine (sx_iload_n dx_192_141 rfl).trans ?_
    refine (sx_bipush (v := 30) dx_192_142 rfl).trans ?_
    refine (sx_icmp_ge (tgt := 158) dx_192_144 (by decide)).trans ?_
    refine mj_ite ?_ ?_
    · refine (sx_aload_n dx_192_147 rfl).trans ?_
      refine (sx_iload_n dx_192_148 rfl).trans ?_
      refine (sx_bipush (v := 10) dx_192_149 rfl).trans ?_
      refine (sx_irem dx_192_151 (by decide)).trans ?_
      refine (sx_v1i dx_192_152 ow_192 cx_7_305 oc_45 (Nat.le_of_ble_eq_true rfl)).trans ?_
      refine mj_bnd (fun q10 => ?_)
      refine (sx_goto (tgt := 170) dx_192_155 (by decide)).trans ?_
      refine (sx_istore_n dx_192_170 (Nat.le_of_ble_eq_true rfl) rfl).trans ?_
      refine (sx_aload_n dx_192_171 rfl).trans ?_
      refine (sx_gfr dx_192_172 ow_192 fx_7_13 oc_45 rb_45_1).trans ?_
      refine (sx_aload_n dx_192_175 rfl).trans ?_
      refine (sx_gfr dx_192_176 ow_192 fx_7_7 oc_45 rb_45_0).trans ?_
      refine (sx_s2v dx_192_179 ow_192 cx_7_275 (Nat.le_of_ble_eq_true rfl)).trans ?_
      refine mj_bnd (fun q11 => ?_)
      refine (sx_iload_n dx_192_182 rfl).trans ?_
      exact sx_reti dx_192_183 rt_192
    · refine (sx_aload_n dx_192_158 rfl).trans ?_
      refine (sx_gfr dx_192_159 ow_192 fx_7_7 oc_45 rb_45_0).trans ?_
      refine (sx_bipush (v := 20) dx_192_162 rfl).trans ?_
      refine (sx_iload_n dx_192_164 rfl).trans ?_
      refine (sx_bipush (v := 10) dx_192_165 rfl).trans ?_
      refine (sx_irem dx_192_167 (by decide)).trans ?_
      refine (sx_iadd dx_192_168).trans ?_
      refine (sx_ild dx_192_169 (by decide) ia_46).trans ?_
      refine mj_ite ?_ rfl
      refine (sx_istore_n dx_192_170 (Nat.le_of_ble_eq_true rfl) rfl).trans ?_
      refine (sx_aload_n dx_192_171 rfl).trans ?_
      refine (sx_gfr dx_192_172 ow_192 fx_7_13 oc_45 rb_45_1).trans ?_
      refine (sx_aload_n dx_192_175 rfl).trans ?_
      refine (sx_gfr dx_192_176 ow_192 fx_7_7 oc_45 rb_45_0).trans ?_
      refine (sx_s2v dx_192_179 ow_192 cx_7_275 (Nat.le_of_ble_eq_true rfl)).trans ?_
      refine mj_bnd (fun q12 => ?_)
      refine (sx_iload_n dx_192_182 rfl).trans ?_
      exact sx_reti dx_192_183 rt_192
theorem dx_193_0 : mj_at 193 0 = some (.aload_n 0) := by decide +kernel
theorem dx_193_1 : mj_at 193 1 = some (.iload_n 1) := by decide +kernel
theorem dx_193_2 : mj_at 193 2 = some (.invokevirtual 98) := by decide +kernel
theorem dx_193_5 : mj_at 193 5 = some (.ifCond .ne 5) := by decide +kernel
theorem dx_193_8 : mj_at 193 8 = some (.iconst (-1)) := by decide +kernel
theorem dx_193_9 : mj_at 193 9 = some (.ireturn) := by decide +kernel
theorem dx_193_10 : mj_at 193 10 = some (.iconst 0) := by decide +kernel
theorem dx_193_11 : mj_at 193 11 = some (.istore_n 3) := by decide +kernel
theorem dx_193_12 : mj_at 193 12 = some (.iconst 0) := by decide +kernel
theorem dx_193_13 : mj_at 193 13 = some (.istore 4) := by decide +kernel
theorem dx_193_15 : mj_at 193 15 = some (.iconst 0) := by decide +kernel
theorem dx_193_16 : mj_at 193 16 = some (.istore 5) := by decide +kernel
theorem dx_193_18 : mj_at 193 18 = some (.iload 5) := by decide +kernel
theorem dx_193_20 : mj_at 193 20 = some (.bipush 8) := by decide +kernel
theorem dx_193_22 : mj_at 193 22 = some (.if_icmp .ge 58) := by decide +kernel
theorem dx_193_25 : mj_at 193 25 = some (.aload_n 0) := by decide +kernel
theorem dx_193_26 : mj_at 193 26 = some (.iload 5) := by decide +kernel
theorem dx_193_28 : mj_at 193 28 = some (.invokevirtual 94) := by decide +kernel
theorem dx_193_31 : mj_at 193 31 = some (.ifCond .ne 6) := by decide +kernel
theorem dx_193_34 : mj_at 193 34 = some (.goto 40) := by decide +kernel
theorem dx_193_37 : mj_at 193 37 = some (.aload_n 0) := by decide +kernel
theorem dx_193_38 : mj_at 193 38 = some (.aload_n 0) := by decide +kernel
theorem dx_193_39 : mj_at 193 39 = some (.iload_n 1) := by decide +kernel
theorem dx_193_40 : mj_at 193 40 = some (.iload 5) := by decide +kernel
theorem dx_193_42 : mj_at 193 42 = some (.invokevirtual 105) := by decide +kernel
theorem dx_193_45 : mj_at 193 45 = some (.invokevirtual 323) := by decide +kernel
theorem dx_193_48 : mj_at 193 48 = some (.istore 6) := by decide +kernel
theorem dx_193_50 : mj_at 193 50 = some (.iload 6) := by decide +kernel
theorem dx_193_52 : mj_at 193 52 = some (.iload 5) := by decide +kernel
theorem dx_193_54 : mj_at 193 54 = some (.if_icmp .ne 7) := by decide +kernel
theorem dx_193_57 : mj_at 193 57 = some (.iload_n 3) := by decide +kernel
theorem dx_193_58 : mj_at 193 58 = some (.iconst 1) := by decide +kernel
theorem dx_193_59 : mj_at 193 59 = some (.iadd) := by decide +kernel
theorem dx_193_60 : mj_at 193 60 = some (.istore_n 3) := by decide +kernel
theorem dx_193_61 : mj_at 193 61 = some (.iload 6) := by decide +kernel
theorem dx_193_63 : mj_at 193 63 = some (.bipush (-2)) := by decide +kernel
theorem dx_193_65 : mj_at 193 65 = some (.if_icmp .ne 9) := by decide +kernel
theorem dx_193_68 : mj_at 193 68 = some (.iload 4) := by decide +kernel
theorem dx_193_70 : mj_at 193 70 = some (.iconst 1) := by decide +kernel
theorem dx_193_71 : mj_at 193 71 = some (.iadd) := by decide +kernel
theorem dx_193_72 : mj_at 193 72 = some (.istore 4) := by decide +kernel
theorem dx_193_74 : mj_at 193 74 = some (.iinc 5 1) := by decide +kernel
theorem dx_193_77 : mj_at 193 77 = some (.goto (-59)) := by decide +kernel
theorem dx_193_80 : mj_at 193 80 = some (.iload_n 2) := by decide +kernel
theorem dx_193_81 : mj_at 193 81 = some (.tableswitch 76 0 5 #[39, 49, 59, 65, 71, 73]) := by decide +kernel
theorem dx_193_120 : mj_at 193 120 = some (.aload_n 0) := by decide +kernel
theorem dx_193_121 : mj_at 193 121 = some (.getfield 7) := by decide +kernel
theorem dx_193_124 : mj_at 193 124 = some (.bipush 10) := by decide +kernel
theorem dx_193_126 : mj_at 193 126 = some (.iload_n 1) := by decide +kernel
theorem dx_193_127 : mj_at 193 127 = some (.iadd) := by decide +kernel
theorem dx_193_128 : mj_at 193 128 = some (.iaload) := by decide +kernel
theorem dx_193_129 : mj_at 193 129 = some (.ireturn) := by decide +kernel
theorem dx_193_130 : mj_at 193 130 = some (.aload_n 0) := by decide +kernel
theorem dx_193_131 : mj_at 193 131 = some (.getfield 7) := by decide +kernel
theorem dx_193_134 : mj_at 193 134 = some (.bipush 20) := by decide +kernel
theorem dx_193_136 : mj_at 193 136 = some (.iload_n 1) := by decide +kernel
theorem dx_193_137 : mj_at 193 137 = some (.iadd) := by decide +kernel
theorem dx_193_138 : mj_at 193 138 = some (.iaload) := by decide +kernel
theorem dx_193_139 : mj_at 193 139 = some (.ireturn) := by decide +kernel
theorem dx_193_140 : mj_at 193 140 = some (.aload_n 0) := by decide +kernel
theorem dx_193_141 : mj_at 193 141 = some (.iload_n 1) := by decide +kernel
theorem dx_193_142 : mj_at 193 142 = some (.invokevirtual 112) := by decide +kernel
theorem dx_193_145 : mj_at 193 145 = some (.ireturn) := by decide +kernel
theorem dx_193_146 : mj_at 193 146 = some (.aload_n 0) := by decide +kernel
theorem dx_193_147 : mj_at 193 147 = some (.iload_n 1) := by decide +kernel
theorem dx_193_148 : mj_at 193 148 = some (.invokevirtual 305) := by decide +kernel
theorem dx_193_151 : mj_at 193 151 = some (.ireturn) := by decide +kernel
theorem dx_193_152 : mj_at 193 152 = some (.iload_n 3) := by decide +kernel
theorem dx_193_153 : mj_at 193 153 = some (.ireturn) := by decide +kernel
theorem dx_193_154 : mj_at 193 154 = some (.iload 4) := by decide +kernel
theorem dx_193_156 : mj_at 193 156 = some (.ireturn) := by decide +kernel
theorem dx_193_157 : mj_at 193 157 = some (.iconst (-1)) := by decide +kernel
theorem dx_193_158 : mj_at 193 158 = some (.ireturn) := by decide +kernel
set_option maxRecDepth 10000 in
theorem b_X9_courtierIs {sl d : Nat} {M : mj_M} {x1 : Int32} {x2 : Int32}  : mj_C sl (d + 1) 193 [.ref 45, .int x1, .int x2] M = (mj_C sl d 132 [.ref 45, .int x1] M).bind (fun q1 => if q1.1 = 0 then (some (((-1) : Int32), q1.2)) else (mj_E sl (d + 1) 193 18 [.ref 45, .int x1, .int x2, .int 0, .int 0, .int 0, .null] [] q1.2)) := by
  show mj_E sl (d + 1) 193 0 [.ref 45, .int x1, .int x2, .null, .null, .null, .null] [] M = _
  refine (sx_aload_n dx_193_0 rfl).trans ?_
  refine (sx_iload_n dx_193_1 rfl).trans ?_
  refine (sx_v1i dx_193_2 ow_193 cx_7_98 oc_45 (Nat.le_of_ble_eq_true rfl)).trans ?_
  refine mj_bnd (fun q1 => ?_)
  refine (sx_if_ne (tgt := 10) dx_193_5 (by decide)).trans ?_
  refine mj_ite ?_ ?_
  · refine (sx_iconst (v := (-1)) dx_193_8 rfl).trans ?_
    exact sx_reti dx_193_9 rt_193
  · refine (sx_iconst (v := 0) dx_193_10 rfl).trans ?_
    refine (sx_istore_n dx_193_11 (Nat.le_of_ble_eq_true rfl) rfl).trans ?_
    refine (sx_iconst (v := 0) dx_193_12 rfl).trans ?_
    refine (sx_istore dx_193_13 (Nat.le_of_ble_eq_true rfl) rfl).trans ?_
    refine (sx_iconst (v := 0) dx_193_15 rfl).trans ?_
    refine (sx_istore dx_193_16 (Nat.le_of_ble_eq_true rfl) rfl).trans ?_
    rfl
set_option maxRecDepth 10000 in
theorem b_X9_courtierIs_18 {sl d : Nat} {M : mj_M} {y1 : Int32} {y2 : Int32} {y3 : Int32} {y4 : Int32} {y5 : Int32} {w6 : Value}  : mj_E sl (d + 1) 193 18 [.ref 45, .int y1, .int y2, .int y3, .int y4, .int y5, w6] [] M = if y5 < 8 then ((mj_C sl d 131 [.ref 45, .int y5] M).bind (fun q1 => if q1.1 = 0 then (mj_E sl (d + 1) 193 18 [.ref 45, .int y1, .int y2, .int y3, .int y4, .int (y5 + 1), w6] [] q1.2) else ((mj_C sl d 136 [.ref 45, .int y1, .int y5] q1.2).bind (fun q2 => (mj_C sl d 140 [.ref 45, .int q2.1] q2.2).bind (fun q3 => if q3.1 = y5 then (if q3.1 = (-2) then (mj_E sl (d + 1) 193 18 [.ref 45, .int y1, .int y2, .int (y3 + 1), .int (y4 + 1), .int (y5 + 1), .int q3.1] [] q3.2) else (mj_E sl (d + 1) 193 18 [.ref 45, .int y1, .int y2, .int (y3 + 1), .int y4, .int (y5 + 1), .int q3.1] [] q3.2)) else (if q3.1 = (-2) then (mj_E sl (d + 1) 193 18 [.ref 45, .int y1, .int y2, .int y3, .int (y4 + 1), .int (y5 + 1), .int q3.1] [] q3.2) else (mj_E sl (d + 1) 193 18 [.ref 45, .int y1, .int y2, .int y3, .int y4, .int (y5 + 1), .int q3.1] [] q3.2))))))) else (if y2 = 0 then (if mj_inB ((10 : Int32) + y1) 112 = true then (some ((M 46 ((10 : Int32) + y1 : Int32).toNatClampNeg : Int32), M)) else none) else (if y2 = 1 then (if mj_inB ((20 : Int32) + y1) 112 = true then (some ((M 46 ((20 : Int32) + y1 : Int32).toNatClampNeg : Int32), M)) else none) else (if y2 = 2 then ((mj_C sl d 137 [.ref 45, .int y1] M).bind (fun q4 => some ((q4.1 : Int32), q4.2))) else (if y2 = 3 then ((mj_C sl d 139 [.ref 45, .int y1] M).bind (fun q5 => some ((q5.1 : Int32), q5.2))) else (if y2 = 4 then (some ((y3 : Int32), M)) else (if y2 = 5 then (some ((y4 : Int32), M)) else (some (((-1) : Int32), M)))))))) := by
  refine (sx_iload dx_193_18 rfl).trans ?_
  refine (sx_bipush (v := 8) dx_193_20 rfl).trans ?_
  refine (sx_icmp_ge (tgt := 80) dx_193_22 (by decide)).trans ?_
  refine mj_ite ?_ ?_
  · refine (sx_aload_n dx_193_25 rfl).trans ?_
    refine (sx_iload dx_193_26 rfl).trans ?_
    refine (sx_v1i dx_193_28 ow_193 cx_7_94 oc_45 (Nat.le_of_ble_eq_true rfl)).trans ?_
    refine mj_bnd (fun q1 => ?_)
    refine (sx_if_ne (tgt := 37) dx_193_31 (by decide)).trans ?_
    refine mj_ite ?_ ?_
    · refine (sx_goto (tgt := 74) dx_193_34 (by decide)).trans ?_
      refine (sx_iinc (v := 1) dx_193_74 rfl rfl rfl).trans ?_
      refine (sx_goto (tgt := 18) dx_193_77 (by decide)).trans ?_
      rfl
    · refine (sx_aload_n dx_193_37 rfl).trans ?_
      refine (sx_aload_n dx_193_38 rfl).trans ?_
      refine (sx_iload_n dx_193_39 rfl).trans ?_
      refine (sx_iload dx_193_40 rfl).trans ?_
      refine (sx_v2i dx_193_42 ow_193 cx_7_105 oc_45 (Nat.le_of_ble_eq_true rfl)).trans ?_
      refine mj_bnd (fun q2 => ?_)
      refine (sx_v1i dx_193_45 ow_193 cx_7_323 oc_45 (Nat.le_of_ble_eq_true rfl)).trans ?_
      refine mj_bnd (fun q3 => ?_)
      refine (sx_istore dx_193_48 (Nat.le_of_ble_eq_true rfl) rfl).trans ?_
      refine (sx_iload dx_193_50 rfl).trans ?_
      refine (sx_iload dx_193_52 rfl).trans ?_
      refine (sx_icmp_ne (tgt := 61) dx_193_54 (by decide)).trans ?_
      refine mj_ite ?_ ?_
      · refine (sx_iload_n dx_193_57 rfl).trans ?_
        refine (sx_iconst (v := 1) dx_193_58 rfl).trans ?_
        refine (sx_iadd dx_193_59).trans ?_
        refine (sx_istore_n dx_193_60 (Nat.le_of_ble_eq_true rfl) rfl).trans ?_
        refine (sx_iload dx_193_61 rfl).trans ?_
        refine (sx_bipush (v := (-2)) dx_193_63 rfl).trans ?_
        refine (sx_icmp_ne (tgt := 74) dx_193_65 (by decide)).trans ?_
        refine mj_ite ?_ ?_
        · refine (sx_iload dx_193_68 rfl).trans ?_
          refine (sx_iconst (v := 1) dx_193_70 rfl).trans ?_
          refine (sx_iadd dx_193_71).trans ?_
          refine (sx_istore dx_193_72 (Nat.le_of_ble_eq_true rfl) rfl).trans ?_
          refine (sx_iinc (v := 1) dx_193_74 rfl rfl rfl).trans ?_
          refine (sx_goto (tgt := 18) dx_193_77 (by decide)).trans ?_
          rfl
        · refine (sx_iinc (v := 1) dx_193_74 rfl rfl rfl).trans ?_
          refine (sx_goto (tgt := 18) dx_193_77 (by decide)).trans ?_
          rfl
      · refine (sx_iload dx_193_61 rfl).trans ?_
        refine (sx_bipush (v := (-2)) dx_193_63 rfl).trans ?_
        refine (sx_icmp_ne (tgt := 74) dx_193_65 (by decide)).trans ?_
        refine mj_ite ?_ ?_
        · refine (sx_iload dx_193_68 rfl).trans ?_
          refine (sx_iconst (v := 1) dx_193_70 rfl).trans ?_
          refine (sx_iadd dx_193_71).trans ?_
          refine (sx_istore dx_193_72 (Nat.le_of_ble_eq_true rfl) rfl).trans ?_
          refine (sx_iinc (v := 1) dx_193_74 rfl rfl rfl).trans ?_
          refine (sx_goto (tgt := 18) dx_193_77 (by decide)).trans ?_
          rfl
        · refine (sx_iinc (v := 1) dx_193_74 rfl rfl rfl).trans ?_
          refine (sx_goto (tgt := 18) dx_193_77 (by decide)).trans ?_
          rfl
  · refine (sx_iload_n dx_193_80 rfl).trans ?_
    refine mj_sel (fun hx1_0 => ?_) (fun hx1_0 => ?_)
    · refine (sx_tsw_in (off := 39) (tgt := 120) dx_193_81 hx1_0 (by decide) (by decide) (by decide)).trans ?_
      refine (sx_aload_n dx_193_120 rfl).trans ?_
      refine (sx_gfr dx_193_121 ow_193 fx_7_7 oc_45 rb_45_0).trans ?_
      refine (sx_bipush (v := 10) dx_193_124 rfl).trans ?_
      refine (sx_iload_n dx_193_126 rfl).trans ?_
      refine (sx_iadd dx_193_127).trans ?_
      refine (sx_ild dx_193_128 (by decide) ia_46).trans ?_
      refine mj_ite ?_ rfl
      exact sx_reti dx_193_129 rt_193
    refine mj_sel (fun hx1_1 => ?_) (fun hx1_1 => ?_)
    · refine (sx_tsw_in (off := 49) (tgt := 130) dx_193_81 hx1_1 (by decide) (by decide) (by decide)).trans ?_
      refine (sx_aload_n dx_193_130 rfl).trans ?_
      refine (sx_gfr dx_193_131 ow_193 fx_7_7 oc_45 rb_45_0).trans ?_
      refine (sx_bipush (v := 20) dx_193_134 rfl).trans ?_
      refine (sx_iload_n dx_193_136 rfl).trans ?_
      refine (sx_iadd dx_193_137).trans ?_
      refine (sx_ild dx_193_138 (by decide) ia_46).trans ?_
      refine mj_ite ?_ rfl
      exact sx_reti dx_193_139 rt_193
    refine mj_sel (fun hx1_2 => ?_) (fun hx1_2 => ?_)
    · refine (sx_tsw_in (off := 59) (tgt := 140) dx_193_81 hx1_2 (by decide) (by decide) (by decide)).trans ?_
      refine (sx_aload_n dx_193_140 rfl).trans ?_
      refine (sx_iload_n dx_193_141 rfl).trans ?_
      refine (sx_v1i dx_193_142 ow_193 cx_7_112 oc_45 (Nat.le_of_ble_eq_true rfl)).trans ?_
      refine mj_bnd (fun q4 => ?_)
      exact sx_reti dx_193_145 rt_193
    refine mj_sel (fun hx1_3 => ?_) (fun hx1_3 => ?_)
    · refine (sx_tsw_in (off := 65) (tgt := 146) dx_193_81 hx1_3 (by decide) (by decide) (by decide)).trans ?_
      refine (sx_aload_n dx_193_146 rfl).trans ?_
      refine (sx_iload_n dx_193_147 rfl).trans ?_
      refine (sx_v1i dx_193_148 ow_193 cx_7_305 oc_45 (Nat.le_of_ble_eq_true rfl)).trans ?_
      refine mj_bnd (fun q5 => ?_)
      exact sx_reti dx_193_151 rt_193
    refine mj_sel (fun hx1_4 => ?_) (fun hx1_4 => ?_)
    · refine (sx_tsw_in (off := 71) (tgt := 152) dx_193_81 hx1_4 (by decide) (by decide) (by decide)).trans ?_
      refine (sx_iload_n dx_193_152 rfl).trans ?_
      exact sx_reti dx_193_153 rt_193
    refine mj_sel (fun hx1_5 => ?_) (fun hx1_5 => ?_)
    · refine (sx_tsw_in (off := 73) (tgt := 154) dx_193_81 hx1_5 (by decide) (by decide) (by decide)).trans ?_
      refine (sx_iload dx_193_154 rfl).trans ?_
      exact sx_reti dx_193_156 rt_193
    have zhx1_0 := mj_ne hx1_0 (n := 0) (by decide)
    have zhx1_1 := mj_ne hx1_1 (n := 1) (by decide)
    have zhx1_2 := mj_ne hx1_2 (n := 2) (by decide)
    have zhx1_3 := mj_ne hx1_3 (n := 3) (by decide)
    have zhx1_4 := mj_ne hx1_4 (n := 4) (by decide)
    have zhx1_5 := mj_ne hx1_5 (n := 5) (by decide)
    refine (sx_tsw_out (tgt := 157) dx_193_81 (by omega) (by decide)).trans ?_
    refine (sx_iconst (v := (-1)) dx_193_157 rfl).trans ?_
    exact sx_reti dx_193_158 rt_193
theorem dx_194_0 : mj_at 194 0 = some (.aload_n 0) := by decide +kernel
theorem dx_194_1 : mj_at 194 1 = some (.iload_n 1) := by decide +kernel
theorem dx_194_2 : mj_at 194 2 = some (.invokevirtual 98) := by decide +kernel
theorem dx_194_5 : mj_at 194 5 = some (.ifCond .eq 20) := by decide +kernel
theorem dx_194_8 : mj_at 194 8 = some (.aload_n 0) := by decide +kernel
theorem dx_194_9 : mj_at 194 9 = some (.iload_n 2) := by decide +kernel
theorem dx_194_10 : mj_at 194 10 = some (.invokevirtual 94) := by decide +kernel
theorem dx_194_13 : mj_at 194 13 = some (.ifCond .eq 12) := by decide +kernel
theorem dx_194_16 : mj_at 194 16 = some (.aload_n 0) := by decide +kernel
theorem dx_194_17 : mj_at 194 17 = some (.iload_n 1) := by decide +kernel
theorem dx_194_18 : mj_at 194 18 = some (.iload_n 2) := by decide +kernel
theorem dx_194_19 : mj_at 194 19 = some (.invokevirtual 105) := by decide +kernel
theorem dx_194_22 : mj_at 194 22 = some (.goto 4) := by decide +kernel
theorem dx_194_25 : mj_at 194 25 = some (.iconst (-1)) := by decide +kernel
theorem dx_194_26 : mj_at 194 26 = some (.ireturn) := by decide +kernel
set_option maxRecDepth 10000 in
theorem b_X9_formOf {sl d : Nat} {M : mj_M} {x1 : Int32} {x2 : Int32}  : mj_C sl (d + 1) 194 [.ref 45, .int x1, .int x2] M = (mj_C sl d 132 [.ref 45, .int x1] M).bind (fun q1 => if q1.1 = 0 then (some (((-1) : Int32), q1.2)) else ((mj_C sl d 131 [.ref 45, .int x2] q1.2).bind (fun q2 => if q2.1 = 0 then (some (((-1) : Int32), q2.2)) else ((mj_C sl d 136 [.ref 45, .int x1, .int x2] q2.2).bind (fun q3 => some ((q3.1 : Int32), q3.2)))))) := by
  show mj_E sl (d + 1) 194 0 [.ref 45, .int x1, .int x2] [] M = _
  refine (sx_aload_n dx_194_0 rfl).trans ?_
  refine (sx_iload_n dx_194_1 rfl).trans ?_
  refine (sx_v1i dx_194_2 ow_194 cx_7_98 oc_45 (Nat.le_of_ble_eq_true rfl)).trans ?_
  refine mj_bnd (fun q1 => ?_)
  refine (sx_if_eq (tgt := 25) dx_194_5 (by decide)).trans ?_
  refine mj_ite ?_ ?_
  · refine (sx_iconst (v := (-1)) dx_194_25 rfl).trans ?_
    exact sx_reti dx_194_26 rt_194
  · refine (sx_aload_n dx_194_8 rfl).trans ?_
    refine (sx_iload_n dx_194_9 rfl).trans ?_
    refine (sx_v1i dx_194_10 ow_194 cx_7_94 oc_45 (Nat.le_of_ble_eq_true rfl)).trans ?_
    refine mj_bnd (fun q2 => ?_)
    refine (sx_if_eq (tgt := 25) dx_194_13 (by decide)).trans ?_
    refine mj_ite ?_ ?_
    · refine (sx_iconst (v := (-1)) dx_194_25 rfl).trans ?_
      exact sx_reti dx_194_26 rt_194
    · refine (sx_aload_n dx_194_16 rfl).trans ?_
      refine (sx_iload_n dx_194_17 rfl).trans ?_
      refine (sx_iload_n dx_194_18 rfl).trans ?_
      refine (sx_v2i dx_194_19 ow_194 cx_7_105 oc_45 (Nat.le_of_ble_eq_true rfl)).trans ?_
      refine mj_bnd (fun q3 => ?_)
      refine (sx_goto (tgt := 26) dx_194_22 (by decide)).trans ?_
      exact sx_reti dx_194_26 rt_194
theorem dx_195_0 : mj_at 195 0 = some (.aload_n 0) := by decide +kernel
theorem dx_195_1 : mj_at 195 1 = some (.iload_n 1) := by decide +kernel
theorem dx_195_2 : mj_at 195 2 = some (.invokevirtual 94) := by decide +kernel
theorem dx_195_5 : mj_at 195 5 = some (.ifCond .eq 12) := by decide +kernel
theorem dx_195_8 : mj_at 195 8 = some (.aload_n 0) := by decide +kernel
theorem dx_195_9 : mj_at 195 9 = some (.getfield 19) := by decide +kernel
theorem dx_195_12 : mj_at 195 12 = some (.iload_n 1) := by decide +kernel
theorem dx_195_13 : mj_at 195 13 = some (.iaload) := by decide +kernel
theorem dx_195_14 : mj_at 195 14 = some (.goto 4) := by decide +kernel
theorem dx_195_17 : mj_at 195 17 = some (.iconst (-1)) := by decide +kernel
theorem dx_195_18 : mj_at 195 18 = some (.ireturn) := by decide +kernel
set_option maxRecDepth 10000 in
theorem b_X9_modelOf {sl d : Nat} {M : mj_M} {x1 : Int32}  : mj_C sl (d + 1) 195 [.ref 45, .int x1] M = (mj_C sl d 131 [.ref 45, .int x1] M).bind (fun q1 => if q1.1 = 0 then (some (((-1) : Int32), q1.2)) else (if mj_inB x1 8 = true then (some ((q1.2 49 (x1 : Int32).toNatClampNeg : Int32), q1.2)) else none)) := by
  show mj_E sl (d + 1) 195 0 [.ref 45, .int x1] [] M = _
  refine (sx_aload_n dx_195_0 rfl).trans ?_
  refine (sx_iload_n dx_195_1 rfl).trans ?_
  refine (sx_v1i dx_195_2 ow_195 cx_7_94 oc_45 (Nat.le_of_ble_eq_true rfl)).trans ?_
  refine mj_bnd (fun q1 => ?_)
  refine (sx_if_eq (tgt := 17) dx_195_5 (by decide)).trans ?_
  refine mj_ite ?_ ?_
  · refine (sx_iconst (v := (-1)) dx_195_17 rfl).trans ?_
    exact sx_reti dx_195_18 rt_195
  · refine (sx_aload_n dx_195_8 rfl).trans ?_
    refine (sx_gfr dx_195_9 ow_195 fx_7_19 oc_45 rb_45_3).trans ?_
    refine (sx_iload_n dx_195_12 rfl).trans ?_
    refine (sx_ild dx_195_13 (by decide) ia_49).trans ?_
    refine mj_ite ?_ rfl
    refine (sx_goto (tgt := 18) dx_195_14 (by decide)).trans ?_
    exact sx_reti dx_195_18 rt_195
theorem dx_196_0 : mj_at 196 0 = some (.iload_n 1) := by decide +kernel
theorem dx_196_1 : mj_at 196 1 = some (.invokestatic 120) := by decide +kernel
theorem dx_196_4 : mj_at 196 4 = some (.ifCond .eq 11) := by decide +kernel
theorem dx_196_7 : mj_at 196 7 = some (.aload_n 0) := by decide +kernel
theorem dx_196_8 : mj_at 196 8 = some (.iload_n 1) := by decide +kernel
theorem dx_196_9 : mj_at 196 9 = some (.invokevirtual 323) := by decide +kernel
theorem dx_196_12 : mj_at 196 12 = some (.goto 4) := by decide +kernel
theorem dx_196_15 : mj_at 196 15 = some (.iconst (-1)) := by decide +kernel
theorem dx_196_16 : mj_at 196 16 = some (.ireturn) := by decide +kernel
set_option maxRecDepth 10000 in
theorem b_X9_read {sl d : Nat} {M : mj_M} {x1 : Int32}  : mj_C sl (d + 1) 196 [.ref 45, .int x1] M = (mj_C sl d 130 [.int x1] M).bind (fun q1 => if q1.1 = 0 then (some (((-1) : Int32), q1.2)) else ((mj_C sl d 140 [.ref 45, .int x1] q1.2).bind (fun q2 => some ((q2.1 : Int32), q2.2)))) := by
  show mj_E sl (d + 1) 196 0 [.ref 45, .int x1] [] M = _
  refine (sx_iload_n dx_196_0 rfl).trans ?_
  refine (sx_s1i dx_196_1 ow_196 cx_7_120 (Nat.le_of_ble_eq_true rfl)).trans ?_
  refine mj_bnd (fun q1 => ?_)
  refine (sx_if_eq (tgt := 15) dx_196_4 (by decide)).trans ?_
  refine mj_ite ?_ ?_
  · refine (sx_iconst (v := (-1)) dx_196_15 rfl).trans ?_
    exact sx_reti dx_196_16 rt_196
  · refine (sx_aload_n dx_196_7 rfl).trans ?_
    refine (sx_iload_n dx_196_8 rfl).trans ?_
    refine (sx_v1i dx_196_9 ow_196 cx_7_323 oc_45 (Nat.le_of_ble_eq_true rfl)).trans ?_
    refine mj_bnd (fun q2 => ?_)
    refine (sx_goto (tgt := 16) dx_196_12 (by decide)).trans ?_
    exact sx_reti dx_196_16 rt_196
theorem dx_197_0 : mj_at 197 0 = some (.iload_n 1) := by decide +kernel
theorem dx_197_1 : mj_at 197 1 = some (.invokestatic 120) := by decide +kernel
theorem dx_197_4 : mj_at 197 4 = some (.ifCond .eq 19) := by decide +kernel
theorem dx_197_7 : mj_at 197 7 = some (.iload_n 2) := by decide +kernel
theorem dx_197_8 : mj_at 197 8 = some (.invokestatic 120) := by decide +kernel
theorem dx_197_11 : mj_at 197 11 = some (.ifCond .eq 12) := by decide +kernel
theorem dx_197_14 : mj_at 197 14 = some (.iload_n 1) := by decide +kernel
theorem dx_197_15 : mj_at 197 15 = some (.iload_n 2) := by decide +kernel
theorem dx_197_16 : mj_at 197 16 = some (.ixor) := by decide +kernel
theorem dx_197_17 : mj_at 197 17 = some (.invokestatic 108) := by decide +kernel
theorem dx_197_20 : mj_at 197 20 = some (.goto 4) := by decide +kernel
theorem dx_197_23 : mj_at 197 23 = some (.iconst (-1)) := by decide +kernel
theorem dx_197_24 : mj_at 197 24 = some (.ireturn) := by decide +kernel
set_option maxRecDepth 10000 in
theorem b_X9_apart {sl d : Nat} {M : mj_M} {x1 : Int32} {x2 : Int32}  : mj_C sl (d + 1) 197 [.ref 45, .int x1, .int x2] M = (mj_C sl d 130 [.int x1] M).bind (fun q1 => if q1.1 = 0 then (some (((-1) : Int32), q1.2)) else ((mj_C sl d 130 [.int x2] q1.2).bind (fun q2 => if q2.1 = 0 then (some (((-1) : Int32), q2.2)) else ((mj_C sl d 128 [.int (x1 ^^^ x2)] q2.2).bind (fun q3 => some ((q3.1 : Int32), q3.2)))))) := by
  show mj_E sl (d + 1) 197 0 [.ref 45, .int x1, .int x2] [] M = _
  refine (sx_iload_n dx_197_0 rfl).trans ?_
  refine (sx_s1i dx_197_1 ow_197 cx_7_120 (Nat.le_of_ble_eq_true rfl)).trans ?_
  refine mj_bnd (fun q1 => ?_)
  refine (sx_if_eq (tgt := 23) dx_197_4 (by decide)).trans ?_
  refine mj_ite ?_ ?_
  · refine (sx_iconst (v := (-1)) dx_197_23 rfl).trans ?_
    exact sx_reti dx_197_24 rt_197
  · refine (sx_iload_n dx_197_7 rfl).trans ?_
    refine (sx_s1i dx_197_8 ow_197 cx_7_120 (Nat.le_of_ble_eq_true rfl)).trans ?_
    refine mj_bnd (fun q2 => ?_)
    refine (sx_if_eq (tgt := 23) dx_197_11 (by decide)).trans ?_
    refine mj_ite ?_ ?_
    · refine (sx_iconst (v := (-1)) dx_197_23 rfl).trans ?_
      exact sx_reti dx_197_24 rt_197
    · refine (sx_iload_n dx_197_14 rfl).trans ?_
      refine (sx_iload_n dx_197_15 rfl).trans ?_
      refine (sx_ixor dx_197_16).trans ?_
      refine (sx_s1i dx_197_17 ow_197 cx_7_108 (Nat.le_of_ble_eq_true rfl)).trans ?_
      refine mj_bnd (fun q3 => ?_)
      refine (sx_goto (tgt := 24) dx_197_20 (by decide)).trans ?_
      exact sx_reti dx_197_24 rt_197
theorem dx_198_0 : mj_at 198 0 = some (.aload_n 0) := by decide +kernel
theorem dx_198_1 : mj_at 198 1 = some (.iload_n 1) := by decide +kernel
theorem dx_198_2 : mj_at 198 2 = some (.invokevirtual 98) := by decide +kernel
theorem dx_198_5 : mj_at 198 5 = some (.ifCond .eq 12) := by decide +kernel
theorem dx_198_8 : mj_at 198 8 = some (.iload_n 2) := by decide +kernel
theorem dx_198_9 : mj_at 198 9 = some (.iconst 0) := by decide +kernel
theorem dx_198_10 : mj_at 198 10 = some (.iconst 4) := by decide +kernel
theorem dx_198_11 : mj_at 198 11 = some (.invokestatic 90) := by decide +kernel
theorem dx_198_14 : mj_at 198 14 = some (.ifCond .ne 5) := by decide +kernel
theorem dx_198_17 : mj_at 198 17 = some (.iconst (-1)) := by decide +kernel
theorem dx_198_18 : mj_at 198 18 = some (.ireturn) := by decide +kernel
theorem dx_198_19 : mj_at 198 19 = some (.iconst 0) := by decide +kernel
theorem dx_198_20 : mj_at 198 20 = some (.istore_n 3) := by decide +kernel
theorem dx_198_21 : mj_at 198 21 = some (.iconst 0) := by decide +kernel
theorem dx_198_22 : mj_at 198 22 = some (.istore 4) := by decide +kernel
theorem dx_198_24 : mj_at 198 24 = some (.iconst 0) := by decide +kernel
theorem dx_198_25 : mj_at 198 25 = some (.istore 5) := by decide +kernel
theorem dx_198_27 : mj_at 198 27 = some (.iconst 0) := by decide +kernel
theorem dx_198_28 : mj_at 198 28 = some (.istore 6) := by decide +kernel
theorem dx_198_30 : mj_at 198 30 = some (.iconst 0) := by decide +kernel
theorem dx_198_31 : mj_at 198 31 = some (.istore 7) := by decide +kernel
theorem dx_198_33 : mj_at 198 33 = some (.iconst 1) := by decide +kernel
theorem dx_198_34 : mj_at 198 34 = some (.istore 8) := by decide +kernel
theorem dx_198_36 : mj_at 198 36 = some (.iconst 0) := by decide +kernel
theorem dx_198_37 : mj_at 198 37 = some (.istore 9) := by decide +kernel
theorem dx_198_39 : mj_at 198 39 = some (.iload 9) := by decide +kernel
theorem dx_198_41 : mj_at 198 41 = some (.aload_n 0) := by decide +kernel
theorem dx_198_42 : mj_at 198 42 = some (.getfield 251) := by decide +kernel
theorem dx_198_45 : mj_at 198 45 = some (.if_icmp .ge 152) := by decide +kernel
theorem dx_198_48 : mj_at 198 48 = some (.aload_n 0) := by decide +kernel
theorem dx_198_49 : mj_at 198 49 = some (.getfield 65) := by decide +kernel
theorem dx_198_52 : mj_at 198 52 = some (.iload 9) := by decide +kernel
theorem dx_198_54 : mj_at 198 54 = some (.iaload) := by decide +kernel
theorem dx_198_55 : mj_at 198 55 = some (.istore 10) := by decide +kernel
theorem dx_198_57 : mj_at 198 57 = some (.iload 8) := by decide +kernel
theorem dx_198_59 : mj_at 198 59 = some (.ifCond .eq 16) := by decide +kernel
theorem dx_198_62 : mj_at 198 62 = some (.aload_n 0) := by decide +kernel
theorem dx_198_63 : mj_at 198 63 = some (.iload 10) := by decide +kernel
theorem dx_198_65 : mj_at 198 65 = some (.invokevirtual 94) := by decide +kernel
theorem dx_198_68 : mj_at 198 68 = some (.ifCond .eq 7) := by decide +kernel
theorem dx_198_71 : mj_at 198 71 = some (.iconst 1) := by decide +kernel
theorem dx_198_72 : mj_at 198 72 = some (.goto 4) := by decide +kernel
theorem dx_198_75 : mj_at 198 75 = some (.iconst 0) := by decide +kernel
theorem dx_198_76 : mj_at 198 76 = some (.istore 8) := by decide +kernel
theorem dx_198_78 : mj_at 198 78 = some (.aload_n 0) := by decide +kernel
theorem dx_198_79 : mj_at 198 79 = some (.iload 10) := by decide +kernel
theorem dx_198_81 : mj_at 198 81 = some (.invokevirtual 94) := by decide +kernel
theorem dx_198_84 : mj_at 198 84 = some (.ifCond .ne 6) := by decide +kernel
theorem dx_198_87 : mj_at 198 87 = some (.goto 104) := by decide +kernel
theorem dx_198_90 : mj_at 198 90 = some (.aload_n 0) := by decide +kernel
theorem dx_198_91 : mj_at 198 91 = some (.aload_n 0) := by decide +kernel
theorem dx_198_92 : mj_at 198 92 = some (.iload_n 1) := by decide +kernel
theorem dx_198_93 : mj_at 198 93 = some (.iload 10) := by decide +kernel
theorem dx_198_95 : mj_at 198 95 = some (.invokevirtual 105) := by decide +kernel
theorem dx_198_98 : mj_at 198 98 = some (.invokevirtual 323) := by decide +kernel
theorem dx_198_101 : mj_at 198 101 = some (.istore 11) := by decide +kernel
theorem dx_198_103 : mj_at 198 103 = some (.iload 11) := by decide +kernel
theorem dx_198_105 : mj_at 198 105 = some (.iload 10) := by decide +kernel
theorem dx_198_107 : mj_at 198 107 = some (.if_icmp .ne 10) := by decide +kernel
theorem dx_198_110 : mj_at 198 110 = some (.iload_n 3) := by decide +kernel
theorem dx_198_111 : mj_at 198 111 = some (.iconst 1) := by decide +kernel
theorem dx_198_112 : mj_at 198 112 = some (.iadd) := by decide +kernel
theorem dx_198_113 : mj_at 198 113 = some (.istore_n 3) := by decide +kernel
theorem dx_198_114 : mj_at 198 114 = some (.goto 25) := by decide +kernel
theorem dx_198_117 : mj_at 198 117 = some (.iload 11) := by decide +kernel
theorem dx_198_119 : mj_at 198 119 = some (.bipush (-2)) := by decide +kernel
theorem dx_198_121 : mj_at 198 121 = some (.if_icmp .ne 12) := by decide +kernel
theorem dx_198_124 : mj_at 198 124 = some (.iload 5) := by decide +kernel
theorem dx_198_126 : mj_at 198 126 = some (.iconst 1) := by decide +kernel
theorem dx_198_127 : mj_at 198 127 = some (.iadd) := by decide +kernel
theorem dx_198_128 : mj_at 198 128 = some (.istore 5) := by decide +kernel
theorem dx_198_130 : mj_at 198 130 = some (.goto 9) := by decide +kernel
theorem dx_198_133 : mj_at 198 133 = some (.iload 4) := by decide +kernel
theorem dx_198_135 : mj_at 198 135 = some (.iconst 1) := by decide +kernel
theorem dx_198_136 : mj_at 198 136 = some (.iadd) := by decide +kernel
theorem dx_198_137 : mj_at 198 137 = some (.istore 4) := by decide +kernel
theorem dx_198_139 : mj_at 198 139 = some (.iload 6) := by decide +kernel
theorem dx_198_141 : mj_at 198 141 = some (.aload_n 0) := by decide +kernel
theorem dx_198_142 : mj_at 198 142 = some (.iload_n 1) := by decide +kernel
theorem dx_198_143 : mj_at 198 143 = some (.iload 10) := by decide +kernel
theorem dx_198_145 : mj_at 198 145 = some (.invokevirtual 105) := by decide +kernel
theorem dx_198_148 : mj_at 198 148 = some (.invokestatic 108) := by decide +kernel
theorem dx_198_151 : mj_at 198 151 = some (.iadd) := by decide +kernel
theorem dx_198_152 : mj_at 198 152 = some (.istore 6) := by decide +kernel
theorem dx_198_154 : mj_at 198 154 = some (.iload 8) := by decide +kernel
theorem dx_198_156 : mj_at 198 156 = some (.ifCond .eq 21) := by decide +kernel
theorem dx_198_159 : mj_at 198 159 = some (.iload 6) := by decide +kernel
theorem dx_198_161 : mj_at 198 161 = some (.aload_n 0) := by decide +kernel
theorem dx_198_162 : mj_at 198 162 = some (.getfield 7) := by decide +kernel
theorem dx_198_165 : mj_at 198 165 = some (.bipush 20) := by decide +kernel
theorem dx_198_167 : mj_at 198 167 = some (.iload_n 1) := by decide +kernel
theorem dx_198_168 : mj_at 198 168 = some (.iadd) := by decide +kernel
theorem dx_198_169 : mj_at 198 169 = some (.iaload) := by decide +kernel
theorem dx_198_170 : mj_at 198 170 = some (.if_icmp .gt 7) := by decide +kernel
theorem dx_198_173 : mj_at 198 173 = some (.iconst 1) := by decide +kernel
theorem dx_198_174 : mj_at 198 174 = some (.goto 4) := by decide +kernel
theorem dx_198_177 : mj_at 198 177 = some (.iconst 0) := by decide +kernel
theorem dx_198_178 : mj_at 198 178 = some (.istore 8) := by decide +kernel
theorem dx_198_180 : mj_at 198 180 = some (.iload 8) := by decide +kernel
theorem dx_198_182 : mj_at 198 182 = some (.ifCond .eq 9) := by decide +kernel
theorem dx_198_185 : mj_at 198 185 = some (.iload 7) := by decide +kernel
theorem dx_198_187 : mj_at 198 187 = some (.iconst 1) := by decide +kernel
theorem dx_198_188 : mj_at 198 188 = some (.iadd) := by decide +kernel
theorem dx_198_189 : mj_at 198 189 = some (.istore 7) := by decide +kernel
theorem dx_198_191 : mj_at 198 191 = some (.iinc 9 1) := by decide +kernel
theorem dx_198_194 : mj_at 198 194 = some (.goto (-155)) := by decide +kernel
theorem dx_198_197 : mj_at 198 197 = some (.iload_n 2) := by decide +kernel
theorem dx_198_198 : mj_at 198 198 = some (.tableswitch 41 0 3 #[30, 32, 35, 38]) := by decide +kernel
theorem dx_198_228 : mj_at 198 228 = some (.iload_n 3) := by decide +kernel
theorem dx_198_229 : mj_at 198 229 = some (.ireturn) := by decide +kernel
theorem dx_198_230 : mj_at 198 230 = some (.iload 4) := by decide +kernel
theorem dx_198_232 : mj_at 198 232 = some (.ireturn) := by decide +kernel
theorem dx_198_233 : mj_at 198 233 = some (.iload 5) := by decide +kernel
theorem dx_198_235 : mj_at 198 235 = some (.ireturn) := by decide +kernel
theorem dx_198_236 : mj_at 198 236 = some (.iload 6) := by decide +kernel
theorem dx_198_238 : mj_at 198 238 = some (.ireturn) := by decide +kernel
theorem dx_198_239 : mj_at 198 239 = some (.iload 7) := by decide +kernel
theorem dx_198_241 : mj_at 198 241 = some (.ireturn) := by decide +kernel
set_option maxRecDepth 10000 in
theorem b_X9_written {sl d : Nat} {M : mj_M} {x1 : Int32} {x2 : Int32}  : mj_C sl (d + 1) 198 [.ref 45, .int x1, .int x2] M = (mj_C sl d 132 [.ref 45, .int x1] M).bind (fun q1 => if q1.1 = 0 then (some (((-1) : Int32), q1.2)) else ((mj_C sl d 124 [.int x2, .int 0, .int 4] q1.2).bind (fun q2 => if q2.1 = 0 then (some (((-1) : Int32), q2.2)) else (mj_E sl (d + 1) 198 39 [.ref 45, .int x1, .int x2, .int 0, .int 0, .int 0, .int 0, .int 0, .int 1, .int 0, .null, .null] [] q2.2)))) := by
  show mj_E sl (d + 1) 198 0 [.ref 45, .int x1, .int x2, .null, .null, .null, .null, .null, .null, .null, .null, .null] [] M = _
  refine (sx_aload_n dx_198_0 rfl).trans ?_
  refine (sx_iload_n dx_198_1 rfl).trans ?_
  refine (sx_v1i dx_198_2 ow_198 cx_7_98 oc_45 (Nat.le_of_ble_eq_true rfl)).trans ?_
  refine mj_bnd (fun q1 => ?_)
  refine (sx_if_eq (tgt := 17) dx_198_5 (by decide)).trans ?_
  refine mj_ite ?_ ?_
  · refine (sx_iconst (v := (-1)) dx_198_17 rfl).trans ?_
    exact sx_reti dx_198_18 rt_198
  · refine (sx_iload_n dx_198_8 rfl).trans ?_
    refine (sx_iconst (v := 0) dx_198_9 rfl).trans ?_
    refine (sx_iconst (v := 4) dx_198_10 rfl).trans ?_
    refine (sx_s3i dx_198_11 ow_198 cx_7_90 (Nat.le_of_ble_eq_true rfl)).trans ?_
    refine mj_bnd (fun q2 => ?_)
    refine (sx_if_ne (tgt := 19) dx_198_14 (by decide)).trans ?_
    refine mj_ite ?_ ?_
    · refine (sx_iconst (v := (-1)) dx_198_17 rfl).trans ?_
      exact sx_reti dx_198_18 rt_198
    · refine (sx_iconst (v := 0) dx_198_19 rfl).trans ?_
      refine (sx_istore_n dx_198_20 (Nat.le_of_ble_eq_true rfl) rfl).trans ?_
      refine (sx_iconst (v := 0) dx_198_21 rfl).trans ?_
      refine (sx_istore dx_198_22 (Nat.le_of_ble_eq_true rfl) rfl).trans ?_
      refine (sx_iconst (v := 0) dx_198_24 rfl).trans ?_
      refine (sx_istore dx_198_25 (Nat.le_of_ble_eq_true rfl) rfl).trans ?_
      refine (sx_iconst (v := 0) dx_198_27 rfl).trans ?_
      refine (sx_istore dx_198_28 (Nat.le_of_ble_eq_true rfl) rfl).trans ?_
      refine (sx_iconst (v := 0) dx_198_30 rfl).trans ?_
      refine (sx_istore dx_198_31 (Nat.le_of_ble_eq_true rfl) rfl).trans ?_
      refine (sx_iconst (v := 1) dx_198_33 rfl).trans ?_
      refine (sx_istore dx_198_34 (Nat.le_of_ble_eq_true rfl) rfl).trans ?_
      refine (sx_iconst (v := 0) dx_198_36 rfl).trans ?_
      refine (sx_istore dx_198_37 (Nat.le_of_ble_eq_true rfl) rfl).trans ?_
      rfl
set_option maxRecDepth 10000 in
theorem b_X9_written_39 {sl d : Nat} {M : mj_M} {y1 : Int32} {y2 : Int32} {y3 : Int32} {y4 : Int32} {y5 : Int32} {y6 : Int32} {y7 : Int32} {y8 : Int32} {y9 : Int32} {w10 : Value} {w11 : Value}  : mj_E sl (d + 1) 198 39 [.ref 45, .int y1, .int y2, .int y3, .int y4, .int y5, .int y6, .int y7, .int y8, .int y9, w10, w11] [] M = if y9 < (M 45 32) then (if mj_inB y9 60 = true then (if y8 = 0 then (mj_E sl (d + 1) 198 75 [.ref 45, .int y1, .int y2, .int y3, .int y4, .int y5, .int y6, .int y7, .int y8, .int y9, .int (M 64 (y9 : Int32).toNatClampNeg), w11] [] M) else ((mj_C sl d 131 [.ref 45, .int (M 64 (y9 : Int32).toNatClampNeg)] M).bind (fun q1 => if q1.1 = 0 then (mj_E sl (d + 1) 198 75 [.ref 45, .int y1, .int y2, .int y3, .int y4, .int y5, .int y6, .int y7, .int y8, .int y9, .int (M 64 (y9 : Int32).toNatClampNeg), w11] [] q1.2) else ((mj_C sl d 131 [.ref 45, .int (M 64 (y9 : Int32).toNatClampNeg)] q1.2).bind (fun q2 => if q2.1 = 0 then (mj_E sl (d + 1) 198 39 [.ref 45, .int y1, .int y2, .int y3, .int y4, .int y5, .int y6, .int y7, .int 1, .int (y9 + 1), .int (M 64 (y9 : Int32).toNatClampNeg), w11] [] q2.2) else ((mj_C sl d 136 [.ref 45, .int y1, .int (M 64 (y9 : Int32).toNatClampNeg)] q2.2).bind (fun q3 => (mj_C sl d 140 [.ref 45, .int q3.1] q3.2).bind (fun q4 => if q4.1 = (M 64 (y9 : Int32).toNatClampNeg) then (mj_E sl (d + 1) 198 139 [.ref 45, .int y1, .int y2, .int (y3 + 1), .int y4, .int y5, .int y6, .int y7, .int 1, .int y9, .int (M 64 (y9 : Int32).toNatClampNeg), .int q4.1] [] q4.2) else (if q4.1 = (-2) then (mj_E sl (d + 1) 198 139 [.ref 45, .int y1, .int y2, .int y3, .int y4, .int (y5 + 1), .int y6, .int y7, .int 1, .int y9, .int (M 64 (y9 : Int32).toNatClampNeg), .int q4.1] [] q4.2) else (mj_E sl (d + 1) 198 139 [.ref 45, .int y1, .int y2, .int y3, .int (y4 + 1), .int y5, .int y6, .int y7, .int 1, .int y9, .int (M 64 (y9 : Int32).toNatClampNeg), .int q4.1] [] q4.2)))))))))) else none) else (if y2 = 0 then (some ((y3 : Int32), M)) else (if y2 = 1 then (some ((y4 : Int32), M)) else (if y2 = 2 then (some ((y5 : Int32), M)) else (if y2 = 3 then (some ((y6 : Int32), M)) else (some ((y7 : Int32), M)))))) := by
  refine (sx_iload dx_198_39 rfl).trans ?_
  refine (sx_aload_n dx_198_41 rfl).trans ?_
  refine (sx_gfi dx_198_42 ow_198 fx_7_251 (by decide) oc_45).trans ?_
  refine (sx_icmp_ge (tgt := 197) dx_198_45 (by decide)).trans ?_
  refine mj_ite ?_ ?_
  · refine (sx_aload_n dx_198_48 rfl).trans ?_
    refine (sx_gfr dx_198_49 ow_198 fx_7_65 oc_45 rb_45_28).trans ?_
    refine (sx_iload dx_198_52 rfl).trans ?_
    refine (sx_ild dx_198_54 (by decide) ia_64).trans ?_
    refine mj_ite ?_ rfl
    refine (sx_istore dx_198_55 (Nat.le_of_ble_eq_true rfl) rfl).trans ?_
    refine (sx_iload dx_198_57 rfl).trans ?_
    refine (sx_if_eq (tgt := 75) dx_198_59 (by decide)).trans ?_
    refine mj_ite ?_ ?_
    · rfl
    · refine (sx_aload_n dx_198_62 rfl).trans ?_
      refine (sx_iload dx_198_63 rfl).trans ?_
      refine (sx_v1i dx_198_65 ow_198 cx_7_94 oc_45 (Nat.le_of_ble_eq_true rfl)).trans ?_
      refine mj_bnd (fun q1 => ?_)
      refine (sx_if_eq (tgt := 75) dx_198_68 (by decide)).trans ?_
      refine mj_ite ?_ ?_
      · rfl
      · refine (sx_iconst (v := 1) dx_198_71 rfl).trans ?_
        refine (sx_goto (tgt := 76) dx_198_72 (by decide)).trans ?_
        refine (sx_istore dx_198_76 (Nat.le_of_ble_eq_true rfl) rfl).trans ?_
        refine (sx_aload_n dx_198_78 rfl).trans ?_
        refine (sx_iload dx_198_79 rfl).trans ?_
        refine (sx_v1i dx_198_81 ow_198 cx_7_94 oc_45 (Nat.le_of_ble_eq_true rfl)).trans ?_
        refine mj_bnd (fun q2 => ?_)
        refine (sx_if_ne (tgt := 90) dx_198_84 (by decide)).trans ?_
        refine mj_ite ?_ ?_
        · refine (sx_goto (tgt := 191) dx_198_87 (by decide)).trans ?_
          refine (sx_iinc (v := 1) dx_198_191 rfl rfl rfl).trans ?_
          refine (sx_goto (tgt := 39) dx_198_194 (by decide)).trans ?_
          rfl
        · refine (sx_aload_n dx_198_90 rfl).trans ?_
          refine (sx_aload_n dx_198_91 rfl).trans ?_
          refine (sx_iload_n dx_198_92 rfl).trans ?_
          refine (sx_iload dx_198_93 rfl).trans ?_
          refine (sx_v2i dx_198_95 ow_198 cx_7_105 oc_45 (Nat.le_of_ble_eq_true rfl)).trans ?_
          refine mj_bnd (fun q3 => ?_)
          refine (sx_v1i dx_198_98 ow_198 cx_7_323 oc_45 (Nat.le_of_ble_eq_true rfl)).trans ?_
          refine mj_bnd (fun q4 => ?_)
          refine (sx_istore dx_198_101 (Nat.le_of_ble_eq_true rfl) rfl).trans ?_
          refine (sx_iload dx_198_103 rfl).trans ?_
          refine (sx_iload dx_198_105 rfl).trans ?_
          refine (sx_icmp_ne (tgt := 117) dx_198_107 (by decide)).trans ?_
          refine mj_ite ?_ ?_
          · refine (sx_iload_n dx_198_110 rfl).trans ?_
            refine (sx_iconst (v := 1) dx_198_111 rfl).trans ?_
            refine (sx_iadd dx_198_112).trans ?_
            refine (sx_istore_n dx_198_113 (Nat.le_of_ble_eq_true rfl) rfl).trans ?_
            refine (sx_goto (tgt := 139) dx_198_114 (by decide)).trans ?_
            rfl
          · refine (sx_iload dx_198_117 rfl).trans ?_
            refine (sx_bipush (v := (-2)) dx_198_119 rfl).trans ?_
            refine (sx_icmp_ne (tgt := 133) dx_198_121 (by decide)).trans ?_
            refine mj_ite ?_ ?_
            · refine (sx_iload dx_198_124 rfl).trans ?_
              refine (sx_iconst (v := 1) dx_198_126 rfl).trans ?_
              refine (sx_iadd dx_198_127).trans ?_
              refine (sx_istore dx_198_128 (Nat.le_of_ble_eq_true rfl) rfl).trans ?_
              refine (sx_goto (tgt := 139) dx_198_130 (by decide)).trans ?_
              rfl
            · refine (sx_iload dx_198_133 rfl).trans ?_
              refine (sx_iconst (v := 1) dx_198_135 rfl).trans ?_
              refine (sx_iadd dx_198_136).trans ?_
              refine (sx_istore dx_198_137 (Nat.le_of_ble_eq_true rfl) rfl).trans ?_
              rfl
  · refine (sx_iload_n dx_198_197 rfl).trans ?_
    refine mj_sel (fun hx1_0 => ?_) (fun hx1_0 => ?_)
    · refine (sx_tsw_in (off := 30) (tgt := 228) dx_198_198 hx1_0 (by decide) (by decide) (by decide)).trans ?_
      refine (sx_iload_n dx_198_228 rfl).trans ?_
      exact sx_reti dx_198_229 rt_198
    refine mj_sel (fun hx1_1 => ?_) (fun hx1_1 => ?_)
    · refine (sx_tsw_in (off := 32) (tgt := 230) dx_198_198 hx1_1 (by decide) (by decide) (by decide)).trans ?_
      refine (sx_iload dx_198_230 rfl).trans ?_
      exact sx_reti dx_198_232 rt_198
    refine mj_sel (fun hx1_2 => ?_) (fun hx1_2 => ?_)
    · refine (sx_tsw_in (off := 35) (tgt := 233) dx_198_198 hx1_2 (by decide) (by decide) (by decide)).trans ?_
      refine (sx_iload dx_198_233 rfl).trans ?_
      exact sx_reti dx_198_235 rt_198
    refine mj_sel (fun hx1_3 => ?_) (fun hx1_3 => ?_)
    · refine (sx_tsw_in (off := 38) (tgt := 236) dx_198_198 hx1_3 (by decide) (by decide) (by decide)).trans ?_
      refine (sx_iload dx_198_236 rfl).trans ?_
      exact sx_reti dx_198_238 rt_198
    have zhx1_0 := mj_ne hx1_0 (n := 0) (by decide)
    have zhx1_1 := mj_ne hx1_1 (n := 1) (by decide)
    have zhx1_2 := mj_ne hx1_2 (n := 2) (by decide)
    have zhx1_3 := mj_ne hx1_3 (n := 3) (by decide)
    refine (sx_tsw_out (tgt := 239) dx_198_198 (by omega) (by decide)).trans ?_
    refine (sx_iload dx_198_239 rfl).trans ?_
    exact sx_reti dx_198_241 rt_198
set_option maxRecDepth 10000 in
theorem b_X9_written_75 {sl d : Nat} {M : mj_M} {y1 : Int32} {y2 : Int32} {y3 : Int32} {y4 : Int32} {y5 : Int32} {y6 : Int32} {y7 : Int32} {w8 : Value} {y9 : Int32} {y10 : Int32} {w11 : Value}  : mj_E sl (d + 1) 198 75 [.ref 45, .int y1, .int y2, .int y3, .int y4, .int y5, .int y6, .int y7, w8, .int y9, .int y10, w11] [] M = (mj_C sl d 131 [.ref 45, .int y10] M).bind (fun q1 => if q1.1 = 0 then (mj_E sl (d + 1) 198 39 [.ref 45, .int y1, .int y2, .int y3, .int y4, .int y5, .int y6, .int y7, .int 0, .int (y9 + 1), .int y10, w11] [] q1.2) else ((mj_C sl d 136 [.ref 45, .int y1, .int y10] q1.2).bind (fun q2 => (mj_C sl d 140 [.ref 45, .int q2.1] q2.2).bind (fun q3 => if q3.1 = y10 then (mj_E sl (d + 1) 198 139 [.ref 45, .int y1, .int y2, .int (y3 + 1), .int y4, .int y5, .int y6, .int y7, .int 0, .int y9, .int y10, .int q3.1] [] q3.2) else (if q3.1 = (-2) then (mj_E sl (d + 1) 198 139 [.ref 45, .int y1, .int y2, .int y3, .int y4, .int (y5 + 1), .int y6, .int y7, .int 0, .int y9, .int y10, .int q3.1] [] q3.2) else (mj_E sl (d + 1) 198 139 [.ref 45, .int y1, .int y2, .int y3, .int (y4 + 1), .int y5, .int y6, .int y7, .int 0, .int y9, .int y10, .int q3.1] [] q3.2)))))) := by
  refine (sx_iconst (v := 0) dx_198_75 rfl).trans ?_
  refine (sx_istore dx_198_76 (Nat.le_of_ble_eq_true rfl) rfl).trans ?_
  refine (sx_aload_n dx_198_78 rfl).trans ?_
  refine (sx_iload dx_198_79 rfl).trans ?_
  refine (sx_v1i dx_198_81 ow_198 cx_7_94 oc_45 (Nat.le_of_ble_eq_true rfl)).trans ?_
  refine mj_bnd (fun q1 => ?_)
  refine (sx_if_ne (tgt := 90) dx_198_84 (by decide)).trans ?_
  refine mj_ite ?_ ?_
  · refine (sx_goto (tgt := 191) dx_198_87 (by decide)).trans ?_
    refine (sx_iinc (v := 1) dx_198_191 rfl rfl rfl).trans ?_
    refine (sx_goto (tgt := 39) dx_198_194 (by decide)).trans ?_
    rfl
  · refine (sx_aload_n dx_198_90 rfl).trans ?_
    refine (sx_aload_n dx_198_91 rfl).trans ?_
    refine (sx_iload_n dx_198_92 rfl).trans ?_
    refine (sx_iload dx_198_93 rfl).trans ?_
    refine (sx_v2i dx_198_95 ow_198 cx_7_105 oc_45 (Nat.le_of_ble_eq_true rfl)).trans ?_
    refine mj_bnd (fun q2 => ?_)
    refine (sx_v1i dx_198_98 ow_198 cx_7_323 oc_45 (Nat.le_of_ble_eq_true rfl)).trans ?_
    refine mj_bnd (fun q3 => ?_)
    refine (sx_istore dx_198_101 (Nat.le_of_ble_eq_true rfl) rfl).trans ?_
    refine (sx_iload dx_198_103 rfl).trans ?_
    refine (sx_iload dx_198_105 rfl).trans ?_
    refine (sx_icmp_ne (tgt := 117) dx_198_107 (by decide)).trans ?_
    refine mj_ite ?_ ?_
    · refine (sx_iload_n dx_198_110 rfl).trans ?_
      refine (sx_iconst (v := 1) dx_198_111 rfl).trans ?_
      refine (sx_iadd dx_198_112).trans ?_
      refine (sx_istore_n dx_198_113 (Nat.le_of_ble_eq_true rfl) rfl).trans ?_
      refine (sx_goto (tgt := 139) dx_198_114 (by decide)).trans ?_
      rfl
    · refine (sx_iload dx_198_117 rfl).trans ?_
      refine (sx_bipush (v := (-2)) dx_198_119 rfl).trans ?_
      refine (sx_icmp_ne (tgt := 133) dx_198_121 (by decide)).trans ?_
      refine mj_ite ?_ ?_
      · refine (sx_iload dx_198_124 rfl).trans ?_
        refine (sx_iconst (v := 1) dx_198_126 rfl).trans ?_
        refine (sx_iadd dx_198_127).trans ?_
        refine (sx_istore dx_198_128 (Nat.le_of_ble_eq_true rfl) rfl).trans ?_
        refine (sx_goto (tgt := 139) dx_198_130 (by decide)).trans ?_
        rfl
      · refine (sx_iload dx_198_133 rfl).trans ?_
        refine (sx_iconst (v := 1) dx_198_135 rfl).trans ?_
        refine (sx_iadd dx_198_136).trans ?_
        refine (sx_istore dx_198_137 (Nat.le_of_ble_eq_true rfl) rfl).trans ?_
        rfl
set_option maxRecDepth 10000 in
theorem b_X9_written_139 {sl d : Nat} {M : mj_M} {y1 : Int32} {y2 : Int32} {y3 : Int32} {y4 : Int32} {y5 : Int32} {y6 : Int32} {y7 : Int32} {y8 : Int32} {y9 : Int32} {y10 : Int32} {w11 : Value}  : mj_E sl (d + 1) 198 139 [.ref 45, .int y1, .int y2, .int y3, .int y4, .int y5, .int y6, .int y7, .int y8, .int y9, .int y10, w11] [] M = (mj_C sl d 136 [.ref 45, .int y1, .int y10] M).bind (fun q1 => (mj_C sl d 128 [.int q1.1] q1.2).bind (fun q2 => if y8 = 0 then (mj_E sl (d + 1) 198 39 [.ref 45, .int y1, .int y2, .int y3, .int y4, .int y5, .int (y6 + q2.1), .int y7, .int 0, .int (y9 + 1), .int y10, w11] [] q2.2) else (if mj_inB ((20 : Int32) + y1) 112 = true then (if y6 + q2.1 ≤ (q2.2 46 ((20 : Int32) + y1 : Int32).toNatClampNeg) then (mj_E sl (d + 1) 198 39 [.ref 45, .int y1, .int y2, .int y3, .int y4, .int y5, .int (y6 + q2.1), .int (y7 + 1), .int 1, .int (y9 + 1), .int y10, w11] [] q2.2) else (mj_E sl (d + 1) 198 39 [.ref 45, .int y1, .int y2, .int y3, .int y4, .int y5, .int (y6 + q2.1), .int y7, .int 0, .int (y9 + 1), .int y10, w11] [] q2.2)) else none))) := by
  refine (sx_iload dx_198_139 rfl).trans ?_
  refine (sx_aload_n dx_198_141 rfl).trans ?_
  refine (sx_iload_n dx_198_142 rfl).trans ?_
  refine (sx_iload dx_198_143 rfl).trans ?_
  refine (sx_v2i dx_198_145 ow_198 cx_7_105 oc_45 (Nat.le_of_ble_eq_true rfl)).trans ?_
  refine mj_bnd (fun q1 => ?_)
  refine (sx_s1i dx_198_148 ow_198 cx_7_108 (Nat.le_of_ble_eq_true rfl)).trans ?_
  refine mj_bnd (fun q2 => ?_)
  refine (sx_iadd dx_198_151).trans ?_
  refine (sx_istore dx_198_152 (Nat.le_of_ble_eq_true rfl) rfl).trans ?_
  refine (sx_iload dx_198_154 rfl).trans ?_
  refine (sx_if_eq (tgt := 177) dx_198_156 (by decide)).trans ?_
  refine mj_ite ?_ ?_
  · refine (sx_iconst (v := 0) dx_198_177 rfl).trans ?_
    refine (sx_istore dx_198_178 (Nat.le_of_ble_eq_true rfl) rfl).trans ?_
    refine (sx_iload dx_198_180 rfl).trans ?_
    refine (sx_if_eq_t (tgt := 191) dx_198_182 (by decide) (by decide)).trans ?_
    refine (sx_iinc (v := 1) dx_198_191 rfl rfl rfl).trans ?_
    refine (sx_goto (tgt := 39) dx_198_194 (by decide)).trans ?_
    rfl
  · refine (sx_iload dx_198_159 rfl).trans ?_
    refine (sx_aload_n dx_198_161 rfl).trans ?_
    refine (sx_gfr dx_198_162 ow_198 fx_7_7 oc_45 rb_45_0).trans ?_
    refine (sx_bipush (v := 20) dx_198_165 rfl).trans ?_
    refine (sx_iload_n dx_198_167 rfl).trans ?_
    refine (sx_iadd dx_198_168).trans ?_
    refine (sx_ild dx_198_169 (by decide) ia_46).trans ?_
    refine mj_ite ?_ rfl
    refine (sx_icmp_gt (tgt := 177) dx_198_170 (by decide)).trans ?_
    refine mj_ite ?_ ?_
    · refine (sx_iconst (v := 1) dx_198_173 rfl).trans ?_
      refine (sx_goto (tgt := 178) dx_198_174 (by decide)).trans ?_
      refine (sx_istore dx_198_178 (Nat.le_of_ble_eq_true rfl) rfl).trans ?_
      refine (sx_iload dx_198_180 rfl).trans ?_
      refine (sx_if_eq_f (tgt := 191) dx_198_182 (by decide) (by decide)).trans ?_
      refine (sx_iload dx_198_185 rfl).trans ?_
      refine (sx_iconst (v := 1) dx_198_187 rfl).trans ?_
      refine (sx_iadd dx_198_188).trans ?_
      refine (sx_istore dx_198_189 (Nat.le_of_ble_eq_true rfl) rfl).trans ?_
      refine (sx_iinc (v := 1) dx_198_191 rfl rfl rfl).trans ?_
      refine (sx_goto (tgt := 39) dx_198_194 (by decide)).trans ?_
      rfl
    · refine (sx_iconst (v := 0) dx_198_177 rfl).trans ?_
      refine (sx_istore dx_198_178 (Nat.le_of_ble_eq_true rfl) rfl).trans ?_
      refine (sx_iload dx_198_180 rfl).trans ?_
      refine (sx_if_eq_t (tgt := 191) dx_198_182 (by decide) (by decide)).trans ?_
      refine (sx_iinc (v := 1) dx_198_191 rfl rfl rfl).trans ?_
      refine (sx_goto (tgt := 39) dx_198_194 (by decide)).trans ?_
      rfl
theorem dx_199_0 : mj_at 199 0 = some (.iload_n 1) := by decide +kernel
theorem dx_199_1 : mj_at 199 1 = some (.iconst 1) := by decide +kernel
theorem dx_199_2 : mj_at 199 2 = some (.bipush 12) := by decide +kernel
theorem dx_199_4 : mj_at 199 4 = some (.invokestatic 90) := by decide +kernel
theorem dx_199_7 : mj_at 199 7 = some (.ifCond .eq 32) := by decide +kernel
theorem dx_199_10 : mj_at 199 10 = some (.iload_n 2) := by decide +kernel
theorem dx_199_11 : mj_at 199 11 = some (.iconst 0) := by decide +kernel
theorem dx_199_12 : mj_at 199 12 = some (.bipush 59) := by decide +kernel
theorem dx_199_14 : mj_at 199 14 = some (.invokestatic 90) := by decide +kernel
theorem dx_199_17 : mj_at 199 17 = some (.ifCond .ne 14) := by decide +kernel
theorem dx_199_20 : mj_at 199 20 = some (.iload_n 2) := by decide +kernel
theorem dx_199_21 : mj_at 199 21 = some (.bipush 100) := by decide +kernel
theorem dx_199_23 : mj_at 199 23 = some (.bipush 101) := by decide +kernel
theorem dx_199_25 : mj_at 199 25 = some (.invokestatic 90) := by decide +kernel
theorem dx_199_28 : mj_at 199 28 = some (.ifCond .eq 11) := by decide +kernel
theorem dx_199_31 : mj_at 199 31 = some (.iload_n 1) := by decide +kernel
theorem dx_199_32 : mj_at 199 32 = some (.aload_n 0) := by decide +kernel
theorem dx_199_33 : mj_at 199 33 = some (.getfield 123) := by decide +kernel
theorem dx_199_36 : mj_at 199 36 = some (.if_icmp .le 5) := by decide +kernel
theorem dx_199_39 : mj_at 199 39 = some (.iconst (-1)) := by decide +kernel
theorem dx_199_40 : mj_at 199 40 = some (.ireturn) := by decide +kernel
theorem dx_199_41 : mj_at 199 41 = some (.aload_n 0) := by decide +kernel
theorem dx_199_42 : mj_at 199 42 = some (.iconst 0) := by decide +kernel
theorem dx_199_43 : mj_at 199 43 = some (.putfield 123) := by decide +kernel
theorem dx_199_46 : mj_at 199 46 = some (.iconst 0) := by decide +kernel
theorem dx_199_47 : mj_at 199 47 = some (.istore_n 3) := by decide +kernel
theorem dx_199_48 : mj_at 199 48 = some (.iload_n 3) := by decide +kernel
theorem dx_199_49 : mj_at 199 49 = some (.iload_n 1) := by decide +kernel
theorem dx_199_50 : mj_at 199 50 = some (.if_icmp .ge 24) := by decide +kernel
theorem dx_199_53 : mj_at 199 53 = some (.aload_n 0) := by decide +kernel
theorem dx_199_54 : mj_at 199 54 = some (.aload_n 0) := by decide +kernel
theorem dx_199_55 : mj_at 199 55 = some (.iload_n 3) := by decide +kernel
theorem dx_199_56 : mj_at 199 56 = some (.invokevirtual 233) := by decide +kernel
theorem dx_199_59 : mj_at 199 59 = some (.invokevirtual 98) := by decide +kernel
theorem dx_199_62 : mj_at 199 62 = some (.ifCond .ne 6) := by decide +kernel
theorem dx_199_65 : mj_at 199 65 = some (.bipush (-2)) := by decide +kernel
theorem dx_199_67 : mj_at 199 67 = some (.ireturn) := by decide +kernel
theorem dx_199_68 : mj_at 199 68 = some (.iinc 3 1) := by decide +kernel
theorem dx_199_71 : mj_at 199 71 = some (.goto (-23)) := by decide +kernel
theorem dx_199_74 : mj_at 199 74 = some (.aload_n 0) := by decide +kernel
theorem dx_199_75 : mj_at 199 75 = some (.getfield 251) := by decide +kernel
theorem dx_199_78 : mj_at 199 78 = some (.istore_n 3) := by decide +kernel
theorem dx_199_79 : mj_at 199 79 = some (.iconst 0) := by decide +kernel
theorem dx_199_80 : mj_at 199 80 = some (.istore 4) := by decide +kernel
theorem dx_199_82 : mj_at 199 82 = some (.iload 4) := by decide +kernel
theorem dx_199_84 : mj_at 199 84 = some (.iload_n 3) := by decide +kernel
theorem dx_199_85 : mj_at 199 85 = some (.if_icmp .ge 23) := by decide +kernel
theorem dx_199_88 : mj_at 199 88 = some (.aload_n 0) := by decide +kernel
theorem dx_199_89 : mj_at 199 89 = some (.getfield 80) := by decide +kernel
theorem dx_199_92 : mj_at 199 92 = some (.iload 4) := by decide +kernel
theorem dx_199_94 : mj_at 199 94 = some (.aload_n 0) := by decide +kernel
theorem dx_199_95 : mj_at 199 95 = some (.getfield 65) := by decide +kernel
theorem dx_199_98 : mj_at 199 98 = some (.iload 4) := by decide +kernel
theorem dx_199_100 : mj_at 199 100 = some (.iaload) := by decide +kernel
theorem dx_199_101 : mj_at 199 101 = some (.iastore) := by decide +kernel
theorem dx_199_102 : mj_at 199 102 = some (.iinc 4 1) := by decide +kernel
theorem dx_199_105 : mj_at 199 105 = some (.goto (-23)) := by decide +kernel
theorem dx_199_108 : mj_at 199 108 = some (.iconst 0) := by decide +kernel
theorem dx_199_109 : mj_at 199 109 = some (.istore 4) := by decide +kernel
theorem dx_199_111 : mj_at 199 111 = some (.iload 4) := by decide +kernel
theorem dx_199_113 : mj_at 199 113 = some (.iload_n 1) := by decide +kernel
theorem dx_199_114 : mj_at 199 114 = some (.if_icmp .ge 97) := by decide +kernel
theorem dx_199_117 : mj_at 199 117 = some (.iconst 0) := by decide +kernel
theorem dx_199_118 : mj_at 199 118 = some (.istore 5) := by decide +kernel
theorem dx_199_120 : mj_at 199 120 = some (.iconst 0) := by decide +kernel
theorem dx_199_121 : mj_at 199 121 = some (.istore 6) := by decide +kernel
theorem dx_199_123 : mj_at 199 123 = some (.iload 6) := by decide +kernel
theorem dx_199_125 : mj_at 199 125 = some (.iload_n 3) := by decide +kernel
theorem dx_199_126 : mj_at 199 126 = some (.if_icmp .ge 76) := by decide +kernel
theorem dx_199_129 : mj_at 199 129 = some (.aload_n 0) := by decide +kernel
theorem dx_199_130 : mj_at 199 130 = some (.aload_n 0) := by decide +kernel
theorem dx_199_131 : mj_at 199 131 = some (.getfield 80) := by decide +kernel
theorem dx_199_134 : mj_at 199 134 = some (.iload 6) := by decide +kernel
theorem dx_199_136 : mj_at 199 136 = some (.iaload) := by decide +kernel
theorem dx_199_137 : mj_at 199 137 = some (.invokevirtual 94) := by decide +kernel
theorem dx_199_140 : mj_at 199 140 = some (.ifCond .eq 27) := by decide +kernel
theorem dx_199_143 : mj_at 199 143 = some (.aload_n 0) := by decide +kernel
theorem dx_199_144 : mj_at 199 144 = some (.aload_n 0) := by decide +kernel
theorem dx_199_145 : mj_at 199 145 = some (.aload_n 0) := by decide +kernel
theorem dx_199_146 : mj_at 199 146 = some (.iload 4) := by decide +kernel
theorem dx_199_148 : mj_at 199 148 = some (.invokevirtual 233) := by decide +kernel
theorem dx_199_151 : mj_at 199 151 = some (.aload_n 0) := by decide +kernel
theorem dx_199_152 : mj_at 199 152 = some (.getfield 80) := by decide +kernel
theorem dx_199_155 : mj_at 199 155 = some (.iload 6) := by decide +kernel
theorem dx_199_157 : mj_at 199 157 = some (.iaload) := by decide +kernel
theorem dx_199_158 : mj_at 199 158 = some (.invokevirtual 105) := by decide +kernel
theorem dx_199_161 : mj_at 199 161 = some (.invokevirtual 323) := by decide +kernel
theorem dx_199_164 : mj_at 199 164 = some (.goto 5) := by decide +kernel
theorem dx_199_167 : mj_at 199 167 = some (.bipush (-2)) := by decide +kernel
theorem dx_199_169 : mj_at 199 169 = some (.istore 7) := by decide +kernel
theorem dx_199_171 : mj_at 199 171 = some (.iload 7) := by decide +kernel
theorem dx_199_173 : mj_at 199 173 = some (.bipush (-2)) := by decide +kernel
theorem dx_199_175 : mj_at 199 175 = some (.if_icmp .ne 6) := by decide +kernel
theorem dx_199_178 : mj_at 199 178 = some (.goto 18) := by decide +kernel
theorem dx_199_181 : mj_at 199 181 = some (.aload_n 0) := by decide +kernel
theorem dx_199_182 : mj_at 199 182 = some (.getfield 80) := by decide +kernel
theorem dx_199_185 : mj_at 199 185 = some (.iload 5) := by decide +kernel
theorem dx_199_187 : mj_at 199 187 = some (.iload 7) := by decide +kernel
theorem dx_199_189 : mj_at 199 189 = some (.iastore) := by decide +kernel
theorem dx_199_190 : mj_at 199 190 = some (.iload 5) := by decide +kernel
theorem dx_199_192 : mj_at 199 192 = some (.iconst 1) := by decide +kernel
theorem dx_199_193 : mj_at 199 193 = some (.iadd) := by decide +kernel
theorem dx_199_194 : mj_at 199 194 = some (.istore 5) := by decide +kernel
theorem dx_199_196 : mj_at 199 196 = some (.iinc 6 1) := by decide +kernel
theorem dx_199_199 : mj_at 199 199 = some (.goto (-76)) := by decide +kernel
theorem dx_199_202 : mj_at 199 202 = some (.iload 5) := by decide +kernel
theorem dx_199_204 : mj_at 199 204 = some (.istore_n 3) := by decide +kernel
theorem dx_199_205 : mj_at 199 205 = some (.iinc 4 1) := by decide +kernel
theorem dx_199_208 : mj_at 199 208 = some (.goto (-97)) := by decide +kernel
theorem dx_199_211 : mj_at 199 211 = some (.iload_n 2) := by decide +kernel
theorem dx_199_212 : mj_at 199 212 = some (.bipush 100) := by decide +kernel
theorem dx_199_214 : mj_at 199 214 = some (.if_icmp .ne 5) := by decide +kernel
theorem dx_199_217 : mj_at 199 217 = some (.iload_n 3) := by decide +kernel
theorem dx_199_218 : mj_at 199 218 = some (.ireturn) := by decide +kernel
theorem dx_199_219 : mj_at 199 219 = some (.iload_n 2) := by decide +kernel
theorem dx_199_220 : mj_at 199 220 = some (.bipush 100) := by decide +kernel
theorem dx_199_222 : mj_at 199 222 = some (.if_icmp .ge 20) := by decide +kernel
theorem dx_199_225 : mj_at 199 225 = some (.iload_n 2) := by decide +kernel
theorem dx_199_226 : mj_at 199 226 = some (.iload_n 3) := by decide +kernel
theorem dx_199_227 : mj_at 199 227 = some (.if_icmp .ge 12) := by decide +kernel
theorem dx_199_230 : mj_at 199 230 = some (.aload_n 0) := by decide +kernel
theorem dx_199_231 : mj_at 199 231 = some (.getfield 80) := by decide +kernel
theorem dx_199_234 : mj_at 199 234 = some (.iload_n 2) := by decide +kernel
theorem dx_199_235 : mj_at 199 235 = some (.iaload) := by decide +kernel
theorem dx_199_236 : mj_at 199 236 = some (.goto 5) := by decide +kernel
theorem dx_199_239 : mj_at 199 239 = some (.bipush (-4)) := by decide +kernel
theorem dx_199_241 : mj_at 199 241 = some (.ireturn) := by decide +kernel
theorem dx_199_242 : mj_at 199 242 = some (.iconst 0) := by decide +kernel
theorem dx_199_243 : mj_at 199 243 = some (.istore 4) := by decide +kernel
theorem dx_199_245 : mj_at 199 245 = some (.iconst 0) := by decide +kernel
theorem dx_199_246 : mj_at 199 246 = some (.istore 5) := by decide +kernel
theorem dx_199_248 : mj_at 199 248 = some (.iload 5) := by decide +kernel
theorem dx_199_250 : mj_at 199 250 = some (.iload_n 3) := by decide +kernel
theorem dx_199_251 : mj_at 199 251 = some (.if_icmp .ge 32) := by decide +kernel
theorem dx_199_254 : mj_at 199 254 = some (.aload_n 0) := by decide +kernel
theorem dx_199_255 : mj_at 199 255 = some (.getfield 80) := by decide +kernel
theorem dx_199_258 : mj_at 199 258 = some (.iload 5) := by decide +kernel
theorem dx_199_260 : mj_at 199 260 = some (.iaload) := by decide +kernel
theorem dx_199_261 : mj_at 199 261 = some (.aload_n 0) := by decide +kernel
theorem dx_199_262 : mj_at 199 262 = some (.getfield 65) := by decide +kernel
theorem dx_199_265 : mj_at 199 265 = some (.iload 5) := by decide +kernel
theorem dx_199_267 : mj_at 199 267 = some (.iaload) := by decide +kernel
theorem dx_199_268 : mj_at 199 268 = some (.if_icmp .ne 9) := by decide +kernel
theorem dx_199_271 : mj_at 199 271 = some (.iload 4) := by decide +kernel
theorem dx_199_273 : mj_at 199 273 = some (.iconst 1) := by decide +kernel
theorem dx_199_274 : mj_at 199 274 = some (.iadd) := by decide +kernel
theorem dx_199_275 : mj_at 199 275 = some (.istore 4) := by decide +kernel
theorem dx_199_277 : mj_at 199 277 = some (.iinc 5 1) := by decide +kernel
theorem dx_199_280 : mj_at 199 280 = some (.goto (-32)) := by decide +kernel
theorem dx_199_283 : mj_at 199 283 = some (.iload 4) := by decide +kernel
theorem dx_199_285 : mj_at 199 285 = some (.ireturn) := by decide +kernel
set_option maxRecDepth 10000 in
theorem b_X9_copied {sl d : Nat} {M : mj_M} {x1 : Int32} {x2 : Int32}  : mj_C sl (d + 1) 199 [.ref 45, .int x1, .int x2] M = (mj_C sl d 124 [.int x1, .int 1, .int 12] M).bind (fun q1 => if q1.1 = 0 then (some (((-1) : Int32), q1.2)) else ((mj_C sl d 124 [.int x2, .int 0, .int 59] q1.2).bind (fun q2 => if q2.1 = 0 then ((mj_C sl d 124 [.int x2, .int 100, .int 101] q2.2).bind (fun q3 => if q3.1 = 0 then (some (((-1) : Int32), q3.2)) else (if x1 ≤ (q3.2 45 5) then (mj_E sl (d + 1) 199 48 [.ref 45, .int x1, .int x2, .int 0, .null, .null, .null, .null] [] (mj_st q3.2 45 5 0)) else (some (((-1) : Int32), q3.2))))) else (if x1 ≤ (q2.2 45 5) then (mj_E sl (d + 1) 199 48 [.ref 45, .int x1, .int x2, .int 0, .null, .null, .null, .null] [] (mj_st q2.2 45 5 0)) else (some (((-1) : Int32), q2.2)))))) := by
  show mj_E sl (d + 1) 199 0 [.ref 45, .int x1, .int x2, .null, .null, .null, .null, .null] [] M = _
  refine (sx_iload_n dx_199_0 rfl).trans ?_
  refine (sx_iconst (v := 1) dx_199_1 rfl).trans ?_
  refine (sx_bipush (v := 12) dx_199_2 rfl).trans ?_
  refine (sx_s3i dx_199_4 ow_199 cx_7_90 (Nat.le_of_ble_eq_true rfl)).trans ?_
  refine mj_bnd (fun q1 => ?_)
  refine (sx_if_eq (tgt := 39) dx_199_7 (by decide)).trans ?_
  refine mj_ite ?_ ?_
  · refine (sx_iconst (v := (-1)) dx_199_39 rfl).trans ?_
    exact sx_reti dx_199_40 rt_199
  · refine (sx_iload_n dx_199_10 rfl).trans ?_
    refine (sx_iconst (v := 0) dx_199_11 rfl).trans ?_
    refine (sx_bipush (v := 59) dx_199_12 rfl).trans ?_
    refine (sx_s3i dx_199_14 ow_199 cx_7_90 (Nat.le_of_ble_eq_true rfl)).trans ?_
    refine mj_bnd (fun q2 => ?_)
    refine (sx_if_ne (tgt := 31) dx_199_17 (by decide)).trans ?_
    refine mj_ite ?_ ?_
    · refine (sx_iload_n dx_199_20 rfl).trans ?_
      refine (sx_bipush (v := 100) dx_199_21 rfl).trans ?_
      refine (sx_bipush (v := 101) dx_199_23 rfl).trans ?_
      refine (sx_s3i dx_199_25 ow_199 cx_7_90 (Nat.le_of_ble_eq_true rfl)).trans ?_
      refine mj_bnd (fun q3 => ?_)
      refine (sx_if_eq (tgt := 39) dx_199_28 (by decide)).trans ?_
      refine mj_ite ?_ ?_
      · refine (sx_iconst (v := (-1)) dx_199_39 rfl).trans ?_
        exact sx_reti dx_199_40 rt_199
      · refine (sx_iload_n dx_199_31 rfl).trans ?_
        refine (sx_aload_n dx_199_32 rfl).trans ?_
        refine (sx_gfi dx_199_33 ow_199 fx_7_123 (by decide) oc_45).trans ?_
        refine (sx_icmp_le (tgt := 41) dx_199_36 (by decide)).trans ?_
        refine mj_ite ?_ ?_
        · refine (sx_aload_n dx_199_41 rfl).trans ?_
          refine (sx_iconst (v := 0) dx_199_42 rfl).trans ?_
          refine (sx_pfi dx_199_43 ow_199 fx_7_123 oc_45).trans ?_
          refine (sx_iconst (v := 0) dx_199_46 rfl).trans ?_
          refine (sx_istore_n dx_199_47 (Nat.le_of_ble_eq_true rfl) rfl).trans ?_
          rfl
        · refine (sx_iconst (v := (-1)) dx_199_39 rfl).trans ?_
          exact sx_reti dx_199_40 rt_199
    · refine (sx_iload_n dx_199_31 rfl).trans ?_
      refine (sx_aload_n dx_199_32 rfl).trans ?_
      refine (sx_gfi dx_199_33 ow_199 fx_7_123 (by decide) oc_45).trans ?_
      refine (sx_icmp_le (tgt := 41) dx_199_36 (by decide)).trans ?_
      refine mj_ite ?_ ?_
      · refine (sx_aload_n dx_199_41 rfl).trans ?_
        refine (sx_iconst (v := 0) dx_199_42 rfl).trans ?_
        refine (sx_pfi dx_199_43 ow_199 fx_7_123 oc_45).trans ?_
        refine (sx_iconst (v := 0) dx_199_46 rfl).trans ?_
        refine (sx_istore_n dx_199_47 (Nat.le_of_ble_eq_true rfl) rfl).trans ?_
        rfl
      · refine (sx_iconst (v := (-1)) dx_199_39 rfl).trans ?_
        exact sx_reti dx_199_40 rt_199
set_option maxRecDepth 10000 in
theorem b_X9_copied_48 {sl d : Nat} {M : mj_M} {y1 : Int32} {y2 : Int32} {y3 : Int32} {w4 : Value} {w5 : Value} {w6 : Value} {w7 : Value}  : mj_E sl (d + 1) 199 48 [.ref 45, .int y1, .int y2, .int y3, w4, w5, w6, w7] [] M = if y3 < y1 then ((mj_C sl d 146 [.ref 45, .int y3] M).bind (fun q1 => (mj_C sl d 132 [.ref 45, .int q1.1] q1.2).bind (fun q2 => if q2.1 = 0 then (some (((-2) : Int32), q2.2)) else (mj_E sl (d + 1) 199 48 [.ref 45, .int y1, .int y2, .int (y3 + 1), w4, w5, w6, w7] [] q2.2)))) else (mj_E sl (d + 1) 199 82 [.ref 45, .int y1, .int y2, .int (M 45 32), .int 0, w5, w6, w7] [] M) := by
  refine (sx_iload_n dx_199_48 rfl).trans ?_
  refine (sx_iload_n dx_199_49 rfl).trans ?_
  refine (sx_icmp_ge (tgt := 74) dx_199_50 (by decide)).trans ?_
  refine mj_ite ?_ ?_
  · refine (sx_aload_n dx_199_53 rfl).trans ?_
    refine (sx_aload_n dx_199_54 rfl).trans ?_
    refine (sx_iload_n dx_199_55 rfl).trans ?_
    refine (sx_v1i dx_199_56 ow_199 cx_7_233 oc_45 (Nat.le_of_ble_eq_true rfl)).trans ?_
    refine mj_bnd (fun q1 => ?_)
    refine (sx_v1i dx_199_59 ow_199 cx_7_98 oc_45 (Nat.le_of_ble_eq_true rfl)).trans ?_
    refine mj_bnd (fun q2 => ?_)
    refine (sx_if_ne (tgt := 68) dx_199_62 (by decide)).trans ?_
    refine mj_ite ?_ ?_
    · refine (sx_bipush (v := (-2)) dx_199_65 rfl).trans ?_
      exact sx_reti dx_199_67 rt_199
    · refine (sx_iinc (v := 1) dx_199_68 rfl rfl rfl).trans ?_
      refine (sx_goto (tgt := 48) dx_199_71 (by decide)).trans ?_
      rfl
  · refine (sx_aload_n dx_199_74 rfl).trans ?_
    refine (sx_gfi dx_199_75 ow_199 fx_7_251 (by decide) oc_45).trans ?_
    refine (sx_istore_n dx_199_78 (Nat.le_of_ble_eq_true rfl) rfl).trans ?_
    refine (sx_iconst (v := 0) dx_199_79 rfl).trans ?_
    refine (sx_istore dx_199_80 (Nat.le_of_ble_eq_true rfl) rfl).trans ?_
    rfl
set_option maxRecDepth 10000 in
theorem b_X9_copied_82 {sl d : Nat} {M : mj_M} {y1 : Int32} {y2 : Int32} {y3 : Int32} {y4 : Int32} {w5 : Value} {w6 : Value} {w7 : Value}  : mj_E sl (d + 1) 199 82 [.ref 45, .int y1, .int y2, .int y3, .int y4, w5, w6, w7] [] M = if y4 < y3 then (if mj_inB y4 60 = true then (if mj_inB y4 60 = true then (mj_E sl (d + 1) 199 82 [.ref 45, .int y1, .int y2, .int y3, .int (y4 + 1), w5, w6, w7] [] (mj_st M 69 (y4 : Int32).toNatClampNeg (M 64 (y4 : Int32).toNatClampNeg))) else none) else none) else (mj_E sl (d + 1) 199 111 [.ref 45, .int y1, .int y2, .int y3, .int 0, w5, w6, w7] [] M) := by
  refine (sx_iload dx_199_82 rfl).trans ?_
  refine (sx_iload_n dx_199_84 rfl).trans ?_
  refine (sx_icmp_ge (tgt := 108) dx_199_85 (by decide)).trans ?_
  refine mj_ite ?_ ?_
  · refine (sx_aload_n dx_199_88 rfl).trans ?_
    refine (sx_gfr dx_199_89 ow_199 fx_7_80 oc_45 rb_45_40).trans ?_
    refine (sx_iload dx_199_92 rfl).trans ?_
    refine (sx_aload_n dx_199_94 rfl).trans ?_
    refine (sx_gfr dx_199_95 ow_199 fx_7_65 oc_45 rb_45_28).trans ?_
    refine (sx_iload dx_199_98 rfl).trans ?_
    refine (sx_ild dx_199_100 (by decide) ia_64).trans ?_
    refine mj_ite ?_ rfl
    refine (sx_ist dx_199_101 ia_69).trans ?_
    refine mj_ite ?_ rfl
    refine (sx_iinc (v := 1) dx_199_102 rfl rfl rfl).trans ?_
    refine (sx_goto (tgt := 82) dx_199_105 (by decide)).trans ?_
    rfl
  · refine (sx_iconst (v := 0) dx_199_108 rfl).trans ?_
    refine (sx_istore dx_199_109 (Nat.le_of_ble_eq_true rfl) rfl).trans ?_
    rfl
set_option maxRecDepth 10000 in
theorem b_X9_copied_111 {sl d : Nat} {M : mj_M} {y1 : Int32} {y2 : Int32} {y3 : Int32} {y4 : Int32} {w5 : Value} {w6 : Value} {w7 : Value}  : mj_E sl (d + 1) 199 111 [.ref 45, .int y1, .int y2, .int y3, .int y4, w5, w6, w7] [] M = if y4 < y1 then (mj_E sl (d + 1) 199 123 [.ref 45, .int y1, .int y2, .int y3, .int y4, .int 0, .int 0, w7] [] M) else (if y2 = 100 then (some ((y3 : Int32), M)) else (if y2 < 100 then (if y2 < y3 then (if mj_inB y2 60 = true then (some ((M 69 (y2 : Int32).toNatClampNeg : Int32), M)) else none) else (some (((-4) : Int32), M))) else (mj_E sl (d + 1) 199 248 [.ref 45, .int y1, .int y2, .int y3, .int 0, .int 0, w6, w7] [] M))) := by
  refine (sx_iload dx_199_111 rfl).trans ?_
  refine (sx_iload_n dx_199_113 rfl).trans ?_
  refine (sx_icmp_ge (tgt := 211) dx_199_114 (by decide)).trans ?_
  refine mj_ite ?_ ?_
  · refine (sx_iconst (v := 0) dx_199_117 rfl).trans ?_
    refine (sx_istore dx_199_118 (Nat.le_of_ble_eq_true rfl) rfl).trans ?_
    refine (sx_iconst (v := 0) dx_199_120 rfl).trans ?_
    refine (sx_istore dx_199_121 (Nat.le_of_ble_eq_true rfl) rfl).trans ?_
    rfl
  · refine (sx_iload_n dx_199_211 rfl).trans ?_
    refine (sx_bipush (v := 100) dx_199_212 rfl).trans ?_
    refine (sx_icmp_ne (tgt := 219) dx_199_214 (by decide)).trans ?_
    refine mj_ite ?_ ?_
    · refine (sx_iload_n dx_199_217 rfl).trans ?_
      exact sx_reti dx_199_218 rt_199
    · refine (sx_iload_n dx_199_219 rfl).trans ?_
      refine (sx_bipush (v := 100) dx_199_220 rfl).trans ?_
      refine (sx_icmp_ge (tgt := 242) dx_199_222 (by decide)).trans ?_
      refine mj_ite ?_ ?_
      · refine (sx_iload_n dx_199_225 rfl).trans ?_
        refine (sx_iload_n dx_199_226 rfl).trans ?_
        refine (sx_icmp_ge (tgt := 239) dx_199_227 (by decide)).trans ?_
        refine mj_ite ?_ ?_
        · refine (sx_aload_n dx_199_230 rfl).trans ?_
          refine (sx_gfr dx_199_231 ow_199 fx_7_80 oc_45 rb_45_40).trans ?_
          refine (sx_iload_n dx_199_234 rfl).trans ?_
          refine (sx_ild dx_199_235 (by decide) ia_69).trans ?_
          refine mj_ite ?_ rfl
          refine (sx_goto (tgt := 241) dx_199_236 (by decide)).trans ?_
          exact sx_reti dx_199_241 rt_199
        · refine (sx_bipush (v := (-4)) dx_199_239 rfl).trans ?_
          exact sx_reti dx_199_241 rt_199
      · refine (sx_iconst (v := 0) dx_199_242 rfl).trans ?_
        refine (sx_istore dx_199_243 (Nat.le_of_ble_eq_true rfl) rfl).trans ?_
        refine (sx_iconst (v := 0) dx_199_245 rfl).trans ?_
        refine (sx_istore dx_199_246 (Nat.le_of_ble_eq_true rfl) rfl).trans ?_
        rfl
set_option maxRecDepth 10000 in
theorem b_X9_copied_123 {sl d : Nat} {M : mj_M} {y1 : Int32} {y2 : Int32} {y3 : Int32} {y4 : Int32} {y5 : Int32} {y6 : Int32} {w7 : Value}  : mj_E sl (d + 1) 199 123 [.ref 45, .int y1, .int y2, .int y3, .int y4, .int y5, .int y6, w7] [] M = if y6 < y3 then (if mj_inB y6 60 = true then ((mj_C sl d 131 [.ref 45, .int (M 69 (y6 : Int32).toNatClampNeg)] M).bind (fun q1 => if q1.1 = 0 then (mj_E sl (d + 1) 199 123 [.ref 45, .int y1, .int y2, .int y3, .int y4, .int y5, .int (y6 + 1), .int (-2)] [] q1.2) else ((mj_C sl d 146 [.ref 45, .int y4] q1.2).bind (fun q2 => if mj_inB y6 60 = true then ((mj_C sl d 136 [.ref 45, .int q2.1, .int (q2.2 69 (y6 : Int32).toNatClampNeg)] q2.2).bind (fun q3 => (mj_C sl d 140 [.ref 45, .int q3.1] q3.2).bind (fun q4 => if q4.1 = (-2) then (mj_E sl (d + 1) 199 123 [.ref 45, .int y1, .int y2, .int y3, .int y4, .int y5, .int (y6 + 1), .int q4.1] [] q4.2) else (if mj_inB y5 60 = true then (mj_E sl (d + 1) 199 123 [.ref 45, .int y1, .int y2, .int y3, .int y4, .int (y5 + 1), .int (y6 + 1), .int q4.1] [] (mj_st q4.2 69 (y5 : Int32).toNatClampNeg q4.1)) else none)))) else none)))) else none) else (mj_E sl (d + 1) 199 111 [.ref 45, .int y1, .int y2, .int y5, .int (y4 + 1), .int y5, .int y6, w7] [] M) := by
  refine (sx_iload dx_199_123 rfl).trans ?_
  refine (sx_iload_n dx_199_125 rfl).trans ?_
  refine (sx_icmp_ge (tgt := 202) dx_199_126 (by decide)).trans ?_
  refine mj_ite ?_ ?_
  · refine (sx_aload_n dx_199_129 rfl).trans ?_
    refine (sx_aload_n dx_199_130 rfl).trans ?_
    refine (sx_gfr dx_199_131 ow_199 fx_7_80 oc_45 rb_45_40).trans ?_
    refine (sx_iload dx_199_134 rfl).trans ?_
    refine (sx_ild dx_199_136 (by decide) ia_69).trans ?_
    refine mj_ite ?_ rfl
    refine (sx_v1i dx_199_137 ow_199 cx_7_94 oc_45 (Nat.le_of_ble_eq_true rfl)).trans ?_
    refine mj_bnd (fun q1 => ?_)
    refine (sx_if_eq (tgt := 167) dx_199_140 (by decide)).trans ?_
    refine mj_ite ?_ ?_
    · refine (sx_bipush (v := (-2)) dx_199_167 rfl).trans ?_
      refine (sx_istore dx_199_169 (Nat.le_of_ble_eq_true rfl) rfl).trans ?_
      refine (sx_iload dx_199_171 rfl).trans ?_
      refine (sx_bipush (v := (-2)) dx_199_173 rfl).trans ?_
      refine (sx_icmp_ne_t (tgt := 181) dx_199_175 (by decide) (by decide)).trans ?_
      refine (sx_goto (tgt := 196) dx_199_178 (by decide)).trans ?_
      refine (sx_iinc (v := 1) dx_199_196 rfl rfl rfl).trans ?_
      refine (sx_goto (tgt := 123) dx_199_199 (by decide)).trans ?_
      rfl
    · refine (sx_aload_n dx_199_143 rfl).trans ?_
      refine (sx_aload_n dx_199_144 rfl).trans ?_
      refine (sx_aload_n dx_199_145 rfl).trans ?_
      refine (sx_iload dx_199_146 rfl).trans ?_
      refine (sx_v1i dx_199_148 ow_199 cx_7_233 oc_45 (Nat.le_of_ble_eq_true rfl)).trans ?_
      refine mj_bnd (fun q2 => ?_)
      refine (sx_aload_n dx_199_151 rfl).trans ?_
      refine (sx_gfr dx_199_152 ow_199 fx_7_80 oc_45 rb_45_40).trans ?_
      refine (sx_iload dx_199_155 rfl).trans ?_
      refine (sx_ild dx_199_157 (by decide) ia_69).trans ?_
      refine mj_ite ?_ rfl
      refine (sx_v2i dx_199_158 ow_199 cx_7_105 oc_45 (Nat.le_of_ble_eq_true rfl)).trans ?_
      refine mj_bnd (fun q3 => ?_)
      refine (sx_v1i dx_199_161 ow_199 cx_7_323 oc_45 (Nat.le_of_ble_eq_true rfl)).trans ?_
      refine mj_bnd (fun q4 => ?_)
      refine (sx_goto (tgt := 169) dx_199_164 (by decide)).trans ?_
      refine (sx_istore dx_199_169 (Nat.le_of_ble_eq_true rfl) rfl).trans ?_
      refine (sx_iload dx_199_171 rfl).trans ?_
      refine (sx_bipush (v := (-2)) dx_199_173 rfl).trans ?_
      refine (sx_icmp_ne (tgt := 181) dx_199_175 (by decide)).trans ?_
      refine mj_ite ?_ ?_
      · refine (sx_goto (tgt := 196) dx_199_178 (by decide)).trans ?_
        refine (sx_iinc (v := 1) dx_199_196 rfl rfl rfl).trans ?_
        refine (sx_goto (tgt := 123) dx_199_199 (by decide)).trans ?_
        rfl
      · refine (sx_aload_n dx_199_181 rfl).trans ?_
        refine (sx_gfr dx_199_182 ow_199 fx_7_80 oc_45 rb_45_40).trans ?_
        refine (sx_iload dx_199_185 rfl).trans ?_
        refine (sx_iload dx_199_187 rfl).trans ?_
        refine (sx_ist dx_199_189 ia_69).trans ?_
        refine mj_ite ?_ rfl
        refine (sx_iload dx_199_190 rfl).trans ?_
        refine (sx_iconst (v := 1) dx_199_192 rfl).trans ?_
        refine (sx_iadd dx_199_193).trans ?_
        refine (sx_istore dx_199_194 (Nat.le_of_ble_eq_true rfl) rfl).trans ?_
        refine (sx_iinc (v := 1) dx_199_196 rfl rfl rfl).trans ?_
        refine (sx_goto (tgt := 123) dx_199_199 (by decide)).trans ?_
        rfl
  · refine (sx_iload dx_199_202 rfl).trans ?_
    refine (sx_istore_n dx_199_204 (Nat.le_of_ble_eq_true rfl) rfl).trans ?_
    refine (sx_iinc (v := 1) dx_199_205 rfl rfl rfl).trans ?_
    refine (sx_goto (tgt := 111) dx_199_208 (by decide)).trans ?_
    rfl
set_option maxRecDepth 10000 in
theorem b_X9_copied_248 {sl d : Nat} {M : mj_M} {w1 : Value} {w2 : Value} {y3 : Int32} {y4 : Int32} {y5 : Int32} {w6 : Value} {w7 : Value}  : mj_E sl (d + 1) 199 248 [.ref 45, w1, w2, .int y3, .int y4, .int y5, w6, w7] [] M = if y5 < y3 then (if mj_inB y5 60 = true then (if mj_inB y5 60 = true then (if M 69 (y5 : Int32).toNatClampNeg = (M 64 (y5 : Int32).toNatClampNeg) then (mj_E sl (d + 1) 199 248 [.ref 45, w1, w2, .int y3, .int (y4 + 1), .int (y5 + 1), w6, w7] [] M) else (mj_E sl (d + 1) 199 248 [.ref 45, w1, w2, .int y3, .int y4, .int (y5 + 1), w6, w7] [] M)) else none) else none) else (some ((y4 : Int32), M)) := by
  refine (sx_iload dx_199_248 rfl).trans ?_
  refine (sx_iload_n dx_199_250 rfl).trans ?_
  refine (sx_icmp_ge (tgt := 283) dx_199_251 (by decide)).trans ?_
  refine mj_ite ?_ ?_
  · refine (sx_aload_n dx_199_254 rfl).trans ?_
    refine (sx_gfr dx_199_255 ow_199 fx_7_80 oc_45 rb_45_40).trans ?_
    refine (sx_iload dx_199_258 rfl).trans ?_
    refine (sx_ild dx_199_260 (by decide) ia_69).trans ?_
    refine mj_ite ?_ rfl
    refine (sx_aload_n dx_199_261 rfl).trans ?_
    refine (sx_gfr dx_199_262 ow_199 fx_7_65 oc_45 rb_45_28).trans ?_
    refine (sx_iload dx_199_265 rfl).trans ?_
    refine (sx_ild dx_199_267 (by decide) ia_64).trans ?_
    refine mj_ite ?_ rfl
    refine (sx_icmp_ne (tgt := 277) dx_199_268 (by decide)).trans ?_
    refine mj_ite ?_ ?_
    · refine (sx_iload dx_199_271 rfl).trans ?_
      refine (sx_iconst (v := 1) dx_199_273 rfl).trans ?_
      refine (sx_iadd dx_199_274).trans ?_
      refine (sx_istore dx_199_275 (Nat.le_of_ble_eq_true rfl) rfl).trans ?_
      refine (sx_iinc (v := 1) dx_199_277 rfl rfl rfl).trans ?_
      refine (sx_goto (tgt := 248) dx_199_280 (by decide)).trans ?_
      rfl
    · refine (sx_iinc (v := 1) dx_199_277 rfl rfl rfl).trans ?_
      refine (sx_goto (tgt := 248) dx_199_280 (by decide)).trans ?_
      rfl
  · refine (sx_iload dx_199_283 rfl).trans ?_
    exact sx_reti dx_199_285 rt_199
theorem dx_200_0 : mj_at 200 0 = some (.iload_n 3) := by decide +kernel
theorem dx_200_1 : mj_at 200 1 = some (.invokestatic 108) := by decide +kernel
theorem dx_200_4 : mj_at 200 4 = some (.istore 4) := by decide +kernel
theorem dx_200_6 : mj_at 200 6 = some (.iload 4) := by decide +kernel
theorem dx_200_8 : mj_at 200 8 = some (.aload_n 0) := by decide +kernel
theorem dx_200_9 : mj_at 200 9 = some (.getfield 326) := by decide +kernel
theorem dx_200_12 : mj_at 200 12 = some (.if_icmp .gt 31) := by decide +kernel
theorem dx_200_15 : mj_at 200 15 = some (.iload 4) := by decide +kernel
theorem dx_200_17 : mj_at 200 17 = some (.aload_n 0) := by decide +kernel
theorem dx_200_18 : mj_at 200 18 = some (.getfield 326) := by decide +kernel
theorem dx_200_21 : mj_at 200 21 = some (.if_icmp .ne 11) := by decide +kernel
theorem dx_200_24 : mj_at 200 24 = some (.iload_n 3) := by decide +kernel
theorem dx_200_25 : mj_at 200 25 = some (.aload_n 0) := by decide +kernel
theorem dx_200_26 : mj_at 200 26 = some (.getfield 329) := by decide +kernel
theorem dx_200_29 : mj_at 200 29 = some (.if_icmp .ge 14) := by decide +kernel
theorem dx_200_32 : mj_at 200 32 = some (.aload_n 0) := by decide +kernel
theorem dx_200_33 : mj_at 200 33 = some (.iload_n 1) := by decide +kernel
theorem dx_200_34 : mj_at 200 34 = some (.iload_n 3) := by decide +kernel
theorem dx_200_35 : mj_at 200 35 = some (.ixor) := by decide +kernel
theorem dx_200_36 : mj_at 200 36 = some (.invokevirtual 323) := by decide +kernel
theorem dx_200_39 : mj_at 200 39 = some (.iload_n 2) := by decide +kernel
theorem dx_200_40 : mj_at 200 40 = some (.if_icmp .eq 4) := by decide +kernel
theorem dx_200_43 : mj_at 200 43 = some (.return_) := by decide +kernel
theorem dx_200_44 : mj_at 200 44 = some (.aload_n 0) := by decide +kernel
theorem dx_200_45 : mj_at 200 45 = some (.iload 4) := by decide +kernel
theorem dx_200_47 : mj_at 200 47 = some (.putfield 326) := by decide +kernel
theorem dx_200_50 : mj_at 200 50 = some (.aload_n 0) := by decide +kernel
theorem dx_200_51 : mj_at 200 51 = some (.iload_n 3) := by decide +kernel
theorem dx_200_52 : mj_at 200 52 = some (.putfield 329) := by decide +kernel
theorem dx_200_55 : mj_at 200 55 = some (.return_) := by decide +kernel
set_option maxRecDepth 10000 in
theorem b_X9_mayBe {sl d : Nat} {M : mj_M} {x1 : Int32} {x2 : Int32} {x3 : Int32}  : mj_C sl (d + 1) 200 [.ref 45, .int x1, .int x2, .int x3] M = (mj_C sl d 128 [.int x3] M).bind (fun q1 => if q1.1 ≤ (q1.2 45 42) then (if q1.1 = (q1.2 45 42) then (if x3 < (q1.2 45 41) then ((mj_C sl d 140 [.ref 45, .int (x1 ^^^ x3)] q1.2).bind (fun q2 => if q2.1 = x2 then (some ((0 : Int32), mj_st (mj_st q2.2 45 42 q1.1) 45 41 x3)) else (some ((0 : Int32), q2.2)))) else (some ((0 : Int32), q1.2))) else ((mj_C sl d 140 [.ref 45, .int (x1 ^^^ x3)] q1.2).bind (fun q3 => if q3.1 = x2 then (some ((0 : Int32), mj_st (mj_st q3.2 45 42 q1.1) 45 41 x3)) else (some ((0 : Int32), q3.2))))) else (some ((0 : Int32), q1.2))) := by
  show mj_E sl (d + 1) 200 0 [.ref 45, .int x1, .int x2, .int x3, .null] [] M = _
  refine (sx_iload_n dx_200_0 rfl).trans ?_
  refine (sx_s1i dx_200_1 ow_200 cx_7_108 (Nat.le_of_ble_eq_true rfl)).trans ?_
  refine mj_bnd (fun q1 => ?_)
  refine (sx_istore dx_200_4 (Nat.le_of_ble_eq_true rfl) rfl).trans ?_
  refine (sx_iload dx_200_6 rfl).trans ?_
  refine (sx_aload_n dx_200_8 rfl).trans ?_
  refine (sx_gfi dx_200_9 ow_200 fx_7_326 (by decide) oc_45).trans ?_
  refine (sx_icmp_gt (tgt := 43) dx_200_12 (by decide)).trans ?_
  refine mj_ite ?_ ?_
  · refine (sx_iload dx_200_15 rfl).trans ?_
    refine (sx_aload_n dx_200_17 rfl).trans ?_
    refine (sx_gfi dx_200_18 ow_200 fx_7_326 (by decide) oc_45).trans ?_
    refine (sx_icmp_ne (tgt := 32) dx_200_21 (by decide)).trans ?_
    refine mj_ite ?_ ?_
    · refine (sx_iload_n dx_200_24 rfl).trans ?_
      refine (sx_aload_n dx_200_25 rfl).trans ?_
      refine (sx_gfi dx_200_26 ow_200 fx_7_329 (by decide) oc_45).trans ?_
      refine (sx_icmp_ge (tgt := 43) dx_200_29 (by decide)).trans ?_
      refine mj_ite ?_ ?_
      · refine (sx_aload_n dx_200_32 rfl).trans ?_
        refine (sx_iload_n dx_200_33 rfl).trans ?_
        refine (sx_iload_n dx_200_34 rfl).trans ?_
        refine (sx_ixor dx_200_35).trans ?_
        refine (sx_v1i dx_200_36 ow_200 cx_7_323 oc_45 (Nat.le_of_ble_eq_true rfl)).trans ?_
        refine mj_bnd (fun q2 => ?_)
        refine (sx_iload_n dx_200_39 rfl).trans ?_
        refine (sx_icmp_eq (tgt := 44) dx_200_40 (by decide)).trans ?_
        refine mj_ite ?_ ?_
        · refine (sx_aload_n dx_200_44 rfl).trans ?_
          refine (sx_iload dx_200_45 rfl).trans ?_
          refine (sx_pfi dx_200_47 ow_200 fx_7_326 oc_45).trans ?_
          refine (sx_aload_n dx_200_50 rfl).trans ?_
          refine (sx_iload_n dx_200_51 rfl).trans ?_
          refine (sx_pfi dx_200_52 ow_200 fx_7_329 oc_45).trans ?_
          exact sx_retv dx_200_55 rt_200
        · exact sx_retv dx_200_43 rt_200
      · exact sx_retv dx_200_43 rt_200
    · refine (sx_aload_n dx_200_32 rfl).trans ?_
      refine (sx_iload_n dx_200_33 rfl).trans ?_
      refine (sx_iload_n dx_200_34 rfl).trans ?_
      refine (sx_ixor dx_200_35).trans ?_
      refine (sx_v1i dx_200_36 ow_200 cx_7_323 oc_45 (Nat.le_of_ble_eq_true rfl)).trans ?_
      refine mj_bnd (fun q3 => ?_)
      refine (sx_iload_n dx_200_39 rfl).trans ?_
      refine (sx_icmp_eq (tgt := 44) dx_200_40 (by decide)).trans ?_
      refine mj_ite ?_ ?_
      · refine (sx_aload_n dx_200_44 rfl).trans ?_
        refine (sx_iload dx_200_45 rfl).trans ?_
        refine (sx_pfi dx_200_47 ow_200 fx_7_326 oc_45).trans ?_
        refine (sx_aload_n dx_200_50 rfl).trans ?_
        refine (sx_iload_n dx_200_51 rfl).trans ?_
        refine (sx_pfi dx_200_52 ow_200 fx_7_329 oc_45).trans ?_
        exact sx_retv dx_200_55 rt_200
      · exact sx_retv dx_200_43 rt_200
  · exact sx_retv dx_200_43 rt_200
theorem dx_201_0 : mj_at 201 0 = some (.iload_n 1) := by decide +kernel
theorem dx_201_1 : mj_at 201 1 = some (.invokestatic 120) := by decide +kernel
theorem dx_201_4 : mj_at 201 4 = some (.ifCond .eq 20) := by decide +kernel
theorem dx_201_7 : mj_at 201 7 = some (.aload_n 0) := by decide +kernel
theorem dx_201_8 : mj_at 201 8 = some (.iload_n 2) := by decide +kernel
theorem dx_201_9 : mj_at 201 9 = some (.invokevirtual 94) := by decide +kernel
theorem dx_201_12 : mj_at 201 12 = some (.ifCond .eq 12) := by decide +kernel
theorem dx_201_15 : mj_at 201 15 = some (.iload_n 3) := by decide +kernel
theorem dx_201_16 : mj_at 201 16 = some (.iconst 0) := by decide +kernel
theorem dx_201_17 : mj_at 201 17 = some (.iconst 1) := by decide +kernel
theorem dx_201_18 : mj_at 201 18 = some (.invokestatic 90) := by decide +kernel
theorem dx_201_21 : mj_at 201 21 = some (.ifCond .ne 5) := by decide +kernel
theorem dx_201_24 : mj_at 201 24 = some (.iconst (-1)) := by decide +kernel
theorem dx_201_25 : mj_at 201 25 = some (.ireturn) := by decide +kernel
theorem dx_201_26 : mj_at 201 26 = some (.aload_n 0) := by decide +kernel
theorem dx_201_27 : mj_at 201 27 = some (.iconst 4) := by decide +kernel
theorem dx_201_28 : mj_at 201 28 = some (.putfield 326) := by decide +kernel
theorem dx_201_31 : mj_at 201 31 = some (.aload_n 0) := by decide +kernel
theorem dx_201_32 : mj_at 201 32 = some (.iload_n 1) := by decide +kernel
theorem dx_201_33 : mj_at 201 33 = some (.iload_n 2) := by decide +kernel
theorem dx_201_34 : mj_at 201 34 = some (.iconst 0) := by decide +kernel
theorem dx_201_35 : mj_at 201 35 = some (.invokevirtual 332) := by decide +kernel
theorem dx_201_38 : mj_at 201 38 = some (.iconst 0) := by decide +kernel
theorem dx_201_39 : mj_at 201 39 = some (.istore 4) := by decide +kernel
theorem dx_201_41 : mj_at 201 41 = some (.iload 4) := by decide +kernel
theorem dx_201_43 : mj_at 201 43 = some (.bipush 25) := by decide +kernel
theorem dx_201_45 : mj_at 201 45 = some (.if_icmp .ge 86) := by decide +kernel
theorem dx_201_48 : mj_at 201 48 = some (.aload_n 0) := by decide +kernel
theorem dx_201_49 : mj_at 201 49 = some (.iload_n 1) := by decide +kernel
theorem dx_201_50 : mj_at 201 50 = some (.iload_n 2) := by decide +kernel
theorem dx_201_51 : mj_at 201 51 = some (.iconst 1) := by decide +kernel
theorem dx_201_52 : mj_at 201 52 = some (.iload 4) := by decide +kernel
theorem dx_201_54 : mj_at 201 54 = some (.ishl) := by decide +kernel
theorem dx_201_55 : mj_at 201 55 = some (.invokevirtual 332) := by decide +kernel
theorem dx_201_58 : mj_at 201 58 = some (.iconst 0) := by decide +kernel
theorem dx_201_59 : mj_at 201 59 = some (.istore 5) := by decide +kernel
theorem dx_201_61 : mj_at 201 61 = some (.iload 5) := by decide +kernel
theorem dx_201_63 : mj_at 201 63 = some (.iload 4) := by decide +kernel
theorem dx_201_65 : mj_at 201 65 = some (.if_icmp .ge 60) := by decide +kernel
theorem dx_201_68 : mj_at 201 68 = some (.aload_n 0) := by decide +kernel
theorem dx_201_69 : mj_at 201 69 = some (.iload_n 1) := by decide +kernel
theorem dx_201_70 : mj_at 201 70 = some (.iload_n 2) := by decide +kernel
theorem dx_201_71 : mj_at 201 71 = some (.iconst 1) := by decide +kernel
theorem dx_201_72 : mj_at 201 72 = some (.iload 4) := by decide +kernel
theorem dx_201_74 : mj_at 201 74 = some (.ishl) := by decide +kernel
theorem dx_201_75 : mj_at 201 75 = some (.iconst 1) := by decide +kernel
theorem dx_201_76 : mj_at 201 76 = some (.iload 5) := by decide +kernel
theorem dx_201_78 : mj_at 201 78 = some (.ishl) := by decide +kernel
theorem dx_201_79 : mj_at 201 79 = some (.ior) := by decide +kernel
theorem dx_201_80 : mj_at 201 80 = some (.invokevirtual 332) := by decide +kernel
theorem dx_201_83 : mj_at 201 83 = some (.iconst 0) := by decide +kernel
theorem dx_201_84 : mj_at 201 84 = some (.istore 6) := by decide +kernel
theorem dx_201_86 : mj_at 201 86 = some (.iload 6) := by decide +kernel
theorem dx_201_88 : mj_at 201 88 = some (.iload 5) := by decide +kernel
theorem dx_201_90 : mj_at 201 90 = some (.if_icmp .ge 29) := by decide +kernel
theorem dx_201_93 : mj_at 201 93 = some (.aload_n 0) := by decide +kernel
theorem dx_201_94 : mj_at 201 94 = some (.iload_n 1) := by decide +kernel
theorem dx_201_95 : mj_at 201 95 = some (.iload_n 2) := by decide +kernel
theorem dx_201_96 : mj_at 201 96 = some (.iconst 1) := by decide +kernel
theorem dx_201_97 : mj_at 201 97 = some (.iload 4) := by decide +kernel
theorem dx_201_99 : mj_at 201 99 = some (.ishl) := by decide +kernel
theorem dx_201_100 : mj_at 201 100 = some (.iconst 1) := by decide +kernel
theorem dx_201_101 : mj_at 201 101 = some (.iload 5) := by decide +kernel
theorem dx_201_103 : mj_at 201 103 = some (.ishl) := by decide +kernel
theorem dx_201_104 : mj_at 201 104 = some (.ior) := by decide +kernel
theorem dx_201_105 : mj_at 201 105 = some (.iconst 1) := by decide +kernel
theorem dx_201_106 : mj_at 201 106 = some (.iload 6) := by decide +kernel
theorem dx_201_108 : mj_at 201 108 = some (.ishl) := by decide +kernel
theorem dx_201_109 : mj_at 201 109 = some (.ior) := by decide +kernel
theorem dx_201_110 : mj_at 201 110 = some (.invokevirtual 332) := by decide +kernel
theorem dx_201_113 : mj_at 201 113 = some (.iinc 6 1) := by decide +kernel
theorem dx_201_116 : mj_at 201 116 = some (.goto (-30)) := by decide +kernel
theorem dx_201_119 : mj_at 201 119 = some (.iinc 5 1) := by decide +kernel
theorem dx_201_122 : mj_at 201 122 = some (.goto (-61)) := by decide +kernel
theorem dx_201_125 : mj_at 201 125 = some (.iinc 4 1) := by decide +kernel
theorem dx_201_128 : mj_at 201 128 = some (.goto (-87)) := by decide +kernel
theorem dx_201_131 : mj_at 201 131 = some (.aload_n 0) := by decide +kernel
theorem dx_201_132 : mj_at 201 132 = some (.getfield 326) := by decide +kernel
theorem dx_201_135 : mj_at 201 135 = some (.iconst 4) := by decide +kernel
theorem dx_201_136 : mj_at 201 136 = some (.if_icmp .ne 6) := by decide +kernel
theorem dx_201_139 : mj_at 201 139 = some (.bipush (-2)) := by decide +kernel
theorem dx_201_141 : mj_at 201 141 = some (.ireturn) := by decide +kernel
theorem dx_201_142 : mj_at 201 142 = some (.iload_n 3) := by decide +kernel
theorem dx_201_143 : mj_at 201 143 = some (.ifCond .ne 10) := by decide +kernel
theorem dx_201_146 : mj_at 201 146 = some (.aload_n 0) := by decide +kernel
theorem dx_201_147 : mj_at 201 147 = some (.getfield 326) := by decide +kernel
theorem dx_201_150 : mj_at 201 150 = some (.goto 7) := by decide +kernel
theorem dx_201_153 : mj_at 201 153 = some (.aload_n 0) := by decide +kernel
theorem dx_201_154 : mj_at 201 154 = some (.getfield 329) := by decide +kernel
theorem dx_201_157 : mj_at 201 157 = some (.ireturn) := by decide +kernel
set_option maxRecDepth 10000 in
theorem b_X9_another {sl d : Nat} {M : mj_M} {x1 : Int32} {x2 : Int32} {x3 : Int32}  : mj_C sl (d + 1) 201 [.ref 45, .int x1, .int x2, .int x3] M = (mj_C sl d 130 [.int x1] M).bind (fun q1 => if q1.1 = 0 then (some (((-1) : Int32), q1.2)) else ((mj_C sl d 131 [.ref 45, .int x2] q1.2).bind (fun q2 => if q2.1 = 0 then (some (((-1) : Int32), q2.2)) else ((mj_C sl d 124 [.int x3, .int 0, .int 1] q2.2).bind (fun q3 => if q3.1 = 0 then (some (((-1) : Int32), q3.2)) else ((mj_C sl d 200 [.ref 45, .int x1, .int x2, .int 0] (mj_st q3.2 45 42 4)).bind (fun q4 => mj_E sl (d + 1) 201 41 [.ref 45, .int x1, .int x2, .int x3, .int 0, .null, .null] [] q4.2))))))) := by
  show mj_E sl (d + 1) 201 0 [.ref 45, .int x1, .int x2, .int x3, .null, .null, .null] [] M = _
  refine (sx_iload_n dx_201_0 rfl).trans ?_
  refine (sx_s1i dx_201_1 ow_201 cx_7_120 (Nat.le_of_ble_eq_true rfl)).trans ?_
  refine mj_bnd (fun q1 => ?_)
  refine (sx_if_eq (tgt := 24) dx_201_4 (by decide)).trans ?_
  refine mj_ite ?_ ?_
  · refine (sx_iconst (v := (-1)) dx_201_24 rfl).trans ?_
    exact sx_reti dx_201_25 rt_201
  · refine (sx_aload_n dx_201_7 rfl).trans ?_
    refine (sx_iload_n dx_201_8 rfl).trans ?_
    refine (sx_v1i dx_201_9 ow_201 cx_7_94 oc_45 (Nat.le_of_ble_eq_true rfl)).trans ?_
    refine mj_bnd (fun q2 => ?_)
    refine (sx_if_eq (tgt := 24) dx_201_12 (by decide)).trans ?_
    refine mj_ite ?_ ?_
    · refine (sx_iconst (v := (-1)) dx_201_24 rfl).trans ?_
      exact sx_reti dx_201_25 rt_201
    · refine (sx_iload_n dx_201_15 rfl).trans ?_
      refine (sx_iconst (v := 0) dx_201_16 rfl).trans ?_
      refine (sx_iconst (v := 1) dx_201_17 rfl).trans ?_
      refine (sx_s3i dx_201_18 ow_201 cx_7_90 (Nat.le_of_ble_eq_true rfl)).trans ?_
      refine mj_bnd (fun q3 => ?_)
      refine (sx_if_ne (tgt := 26) dx_201_21 (by decide)).trans ?_
      refine mj_ite ?_ ?_
      · refine (sx_iconst (v := (-1)) dx_201_24 rfl).trans ?_
        exact sx_reti dx_201_25 rt_201
      · refine (sx_aload_n dx_201_26 rfl).trans ?_
        refine (sx_iconst (v := 4) dx_201_27 rfl).trans ?_
        refine (sx_pfi dx_201_28 ow_201 fx_7_326 oc_45).trans ?_
        refine (sx_aload_n dx_201_31 rfl).trans ?_
        refine (sx_iload_n dx_201_32 rfl).trans ?_
        refine (sx_iload_n dx_201_33 rfl).trans ?_
        refine (sx_iconst (v := 0) dx_201_34 rfl).trans ?_
        refine (sx_v3v dx_201_35 ow_201 cx_7_332 oc_45 (Nat.le_of_ble_eq_true rfl)).trans ?_
        refine mj_bnd (fun q4 => ?_)
        refine (sx_iconst (v := 0) dx_201_38 rfl).trans ?_
        refine (sx_istore dx_201_39 (Nat.le_of_ble_eq_true rfl) rfl).trans ?_
        rfl
set_option maxRecDepth 10000 in
theorem b_X9_another_41 {sl d : Nat} {M : mj_M} {y1 : Int32} {y2 : Int32} {y3 : Int32} {y4 : Int32} {w5 : Value} {w6 : Value}  : mj_E sl (d + 1) 201 41 [.ref 45, .int y1, .int y2, .int y3, .int y4, w5, w6] [] M = if y4 < 25 then ((mj_C sl d 200 [.ref 45, .int y1, .int y2, .int ((1 : Int32) <<< (y4 &&& 31))] M).bind (fun q1 => mj_E sl (d + 1) 201 61 [.ref 45, .int y1, .int y2, .int y3, .int y4, .int 0, w6] [] q1.2)) else (if M 45 42 = 4 then (some (((-2) : Int32), M)) else (if y3 = 0 then (some ((M 45 42 : Int32), M)) else (some ((M 45 41 : Int32), M)))) := by
  refine (sx_iload dx_201_41 rfl).trans ?_
  refine (sx_bipush (v := 25) dx_201_43 rfl).trans ?_
  refine (sx_icmp_ge (tgt := 131) dx_201_45 (by decide)).trans ?_
  refine mj_ite ?_ ?_
  · refine (sx_aload_n dx_201_48 rfl).trans ?_
    refine (sx_iload_n dx_201_49 rfl).trans ?_
    refine (sx_iload_n dx_201_50 rfl).trans ?_
    refine (sx_iconst (v := 1) dx_201_51 rfl).trans ?_
    refine (sx_iload dx_201_52 rfl).trans ?_
    refine (sx_ishl dx_201_54).trans ?_
    refine (sx_v3v dx_201_55 ow_201 cx_7_332 oc_45 (Nat.le_of_ble_eq_true rfl)).trans ?_
    refine mj_bnd (fun q1 => ?_)
    refine (sx_iconst (v := 0) dx_201_58 rfl).trans ?_
    refine (sx_istore dx_201_59 (Nat.le_of_ble_eq_true rfl) rfl).trans ?_
    rfl
  · refine (sx_aload_n dx_201_131 rfl).trans ?_
    refine (sx_gfi dx_201_132 ow_201 fx_7_326 (by decide) oc_45).trans ?_
    refine (sx_iconst (v := 4) dx_201_135 rfl).trans ?_
    refine (sx_icmp_ne (tgt := 142) dx_201_136 (by decide)).trans ?_
    refine mj_ite ?_ ?_
    · refine (sx_bipush (v := (-2)) dx_201_139 rfl).trans ?_
      exact sx_reti dx_201_141 rt_201
    · refine (sx_iload_n dx_201_142 rfl).trans ?_
      refine (sx_if_ne (tgt := 153) dx_201_143 (by decide)).trans ?_
      refine mj_ite ?_ ?_
      · refine (sx_aload_n dx_201_146 rfl).trans ?_
        refine (sx_gfi dx_201_147 ow_201 fx_7_326 (by decide) oc_45).trans ?_
        refine (sx_goto (tgt := 157) dx_201_150 (by decide)).trans ?_
        exact sx_reti dx_201_157 rt_201
      · refine (sx_aload_n dx_201_153 rfl).trans ?_
        refine (sx_gfi dx_201_154 ow_201 fx_7_329 (by decide) oc_45).trans ?_
        exact sx_reti dx_201_157 rt_201
set_option maxRecDepth 10000 in
theorem b_X9_another_61 {sl d : Nat} {M : mj_M} {y1 : Int32} {y2 : Int32} {y3 : Int32} {y4 : Int32} {y5 : Int32} {w6 : Value}  : mj_E sl (d + 1) 201 61 [.ref 45, .int y1, .int y2, .int y3, .int y4, .int y5, w6] [] M = if y5 < y4 then ((mj_C sl d 200 [.ref 45, .int y1, .int y2, .int (((1 : Int32) <<< (y4 &&& 31)) ||| ((1 : Int32) <<< (y5 &&& 31)))] M).bind (fun q1 => mj_E sl (d + 1) 201 86 [.ref 45, .int y1, .int y2, .int y3, .int y4, .int y5, .int 0] [] q1.2)) else (mj_E sl (d + 1) 201 41 [.ref 45, .int y1, .int y2, .int y3, .int (y4 + 1), .int y5, w6] [] M) := by
  refine (sx_iload dx_201_61 rfl).trans ?_
  refine (sx_iload dx_201_63 rfl).trans ?_
  refine (sx_icmp_ge (tgt := 125) dx_201_65 (by decide)).trans ?_
  refine mj_ite ?_ ?_
  · refine (sx_aload_n dx_201_68 rfl).trans ?_
    refine (sx_iload_n dx_201_69 rfl).trans ?_
    refine (sx_iload_n dx_201_70 rfl).trans ?_
    refine (sx_iconst (v := 1) dx_201_71 rfl).trans ?_
    refine (sx_iload dx_201_72 rfl).trans ?_
    refine (sx_ishl dx_201_74).trans ?_
    refine (sx_iconst (v := 1) dx_201_75 rfl).trans ?_
    refine (sx_iload dx_201_76 rfl).trans ?_
    refine (sx_ishl dx_201_78).trans ?_
    refine (sx_ior dx_201_79).trans ?_
    refine (sx_v3v dx_201_80 ow_201 cx_7_332 oc_45 (Nat.le_of_ble_eq_true rfl)).trans ?_
    refine mj_bnd (fun q1 => ?_)
    refine (sx_iconst (v := 0) dx_201_83 rfl).trans ?_
    refine (sx_istore dx_201_84 (Nat.le_of_ble_eq_true rfl) rfl).trans ?_
    rfl
  · refine (sx_iinc (v := 1) dx_201_125 rfl rfl rfl).trans ?_
    refine (sx_goto (tgt := 41) dx_201_128 (by decide)).trans ?_
    rfl
set_option maxRecDepth 10000 in
theorem b_X9_another_86 {sl d : Nat} {M : mj_M} {y1 : Int32} {y2 : Int32} {y3 : Int32} {y4 : Int32} {y5 : Int32} {y6 : Int32}  : mj_E sl (d + 1) 201 86 [.ref 45, .int y1, .int y2, .int y3, .int y4, .int y5, .int y6] [] M = if y6 < y5 then ((mj_C sl d 200 [.ref 45, .int y1, .int y2, .int ((((1 : Int32) <<< (y4 &&& 31)) ||| ((1 : Int32) <<< (y5 &&& 31))) ||| ((1 : Int32) <<< (y6 &&& 31)))] M).bind (fun q1 => mj_E sl (d + 1) 201 86 [.ref 45, .int y1, .int y2, .int y3, .int y4, .int y5, .int (y6 + 1)] [] q1.2)) else (mj_E sl (d + 1) 201 61 [.ref 45, .int y1, .int y2, .int y3, .int y4, .int (y5 + 1), .int y6] [] M) := by
  refine (sx_iload dx_201_86 rfl).trans ?_
  refine (sx_iload dx_201_88 rfl).trans ?_
  refine (sx_icmp_ge (tgt := 119) dx_201_90 (by decide)).trans ?_
  refine mj_ite ?_ ?_
  · refine (sx_aload_n dx_201_93 rfl).trans ?_
    refine (sx_iload_n dx_201_94 rfl).trans ?_
    refine (sx_iload_n dx_201_95 rfl).trans ?_
    refine (sx_iconst (v := 1) dx_201_96 rfl).trans ?_
    refine (sx_iload dx_201_97 rfl).trans ?_
    refine (sx_ishl dx_201_99).trans ?_
    refine (sx_iconst (v := 1) dx_201_100 rfl).trans ?_
    refine (sx_iload dx_201_101 rfl).trans ?_
    refine (sx_ishl dx_201_103).trans ?_
    refine (sx_ior dx_201_104).trans ?_
    refine (sx_iconst (v := 1) dx_201_105 rfl).trans ?_
    refine (sx_iload dx_201_106 rfl).trans ?_
    refine (sx_ishl dx_201_108).trans ?_
    refine (sx_ior dx_201_109).trans ?_
    refine (sx_v3v dx_201_110 ow_201 cx_7_332 oc_45 (Nat.le_of_ble_eq_true rfl)).trans ?_
    refine mj_bnd (fun q1 => ?_)
    refine (sx_iinc (v := 1) dx_201_113 rfl rfl rfl).trans ?_
    refine (sx_goto (tgt := 86) dx_201_116 (by decide)).trans ?_
    rfl
  · refine (sx_iinc (v := 1) dx_201_119 rfl rfl rfl).trans ?_
    refine (sx_goto (tgt := 61) dx_201_122 (by decide)).trans ?_
    rfl
theorem dx_202_0 : mj_at 202 0 = some (.iconst 0) := by decide +kernel
theorem dx_202_1 : mj_at 202 1 = some (.istore_n 2) := by decide +kernel
theorem dx_202_2 : mj_at 202 2 = some (.iconst 1) := by decide +kernel
theorem dx_202_3 : mj_at 202 3 = some (.istore_n 3) := by decide +kernel
theorem dx_202_4 : mj_at 202 4 = some (.iconst 0) := by decide +kernel
theorem dx_202_5 : mj_at 202 5 = some (.istore 4) := by decide +kernel
theorem dx_202_7 : mj_at 202 7 = some (.iload 4) := by decide +kernel
theorem dx_202_9 : mj_at 202 9 = some (.bipush 8) := by decide +kernel
theorem dx_202_11 : mj_at 202 11 = some (.if_icmp .ge 93) := by decide +kernel
theorem dx_202_14 : mj_at 202 14 = some (.iload_n 1) := by decide +kernel
theorem dx_202_15 : mj_at 202 15 = some (.iload 4) := by decide +kernel
theorem dx_202_17 : mj_at 202 17 = some (.invokestatic 254) := by decide +kernel
theorem dx_202_20 : mj_at 202 20 = some (.ifCond .ne 6) := by decide +kernel
theorem dx_202_23 : mj_at 202 23 = some (.goto 75) := by decide +kernel
theorem dx_202_26 : mj_at 202 26 = some (.aload_n 0) := by decide +kernel
theorem dx_202_27 : mj_at 202 27 = some (.getfield 83) := by decide +kernel
theorem dx_202_30 : mj_at 202 30 = some (.iload 4) := by decide +kernel
theorem dx_202_32 : mj_at 202 32 = some (.aload_n 0) := by decide +kernel
theorem dx_202_33 : mj_at 202 33 = some (.iload_n 2) := by decide +kernel
theorem dx_202_34 : mj_at 202 34 = some (.invokevirtual 233) := by decide +kernel
theorem dx_202_37 : mj_at 202 37 = some (.bipush 24) := by decide +kernel
theorem dx_202_39 : mj_at 202 39 = some (.ishl) := by decide +kernel
theorem dx_202_40 : mj_at 202 40 = some (.aload_n 0) := by decide +kernel
theorem dx_202_41 : mj_at 202 41 = some (.iload_n 2) := by decide +kernel
theorem dx_202_42 : mj_at 202 42 = some (.iconst 1) := by decide +kernel
theorem dx_202_43 : mj_at 202 43 = some (.iadd) := by decide +kernel
theorem dx_202_44 : mj_at 202 44 = some (.invokevirtual 233) := by decide +kernel
theorem dx_202_47 : mj_at 202 47 = some (.bipush 16) := by decide +kernel
theorem dx_202_49 : mj_at 202 49 = some (.ishl) := by decide +kernel
theorem dx_202_50 : mj_at 202 50 = some (.ior) := by decide +kernel
theorem dx_202_51 : mj_at 202 51 = some (.aload_n 0) := by decide +kernel
theorem dx_202_52 : mj_at 202 52 = some (.iload_n 2) := by decide +kernel
theorem dx_202_53 : mj_at 202 53 = some (.iconst 2) := by decide +kernel
theorem dx_202_54 : mj_at 202 54 = some (.iadd) := by decide +kernel
theorem dx_202_55 : mj_at 202 55 = some (.invokevirtual 233) := by decide +kernel
theorem dx_202_58 : mj_at 202 58 = some (.bipush 8) := by decide +kernel
theorem dx_202_60 : mj_at 202 60 = some (.ishl) := by decide +kernel
theorem dx_202_61 : mj_at 202 61 = some (.ior) := by decide +kernel
theorem dx_202_62 : mj_at 202 62 = some (.aload_n 0) := by decide +kernel
theorem dx_202_63 : mj_at 202 63 = some (.iload_n 2) := by decide +kernel
theorem dx_202_64 : mj_at 202 64 = some (.iconst 3) := by decide +kernel
theorem dx_202_65 : mj_at 202 65 = some (.iadd) := by decide +kernel
theorem dx_202_66 : mj_at 202 66 = some (.invokevirtual 233) := by decide +kernel
theorem dx_202_69 : mj_at 202 69 = some (.ior) := by decide +kernel
theorem dx_202_70 : mj_at 202 70 = some (.iastore) := by decide +kernel
theorem dx_202_71 : mj_at 202 71 = some (.iload_n 3) := by decide +kernel
theorem dx_202_72 : mj_at 202 72 = some (.ifCond .eq 20) := by decide +kernel
theorem dx_202_75 : mj_at 202 75 = some (.aload_n 0) := by decide +kernel
theorem dx_202_76 : mj_at 202 76 = some (.getfield 83) := by decide +kernel
theorem dx_202_79 : mj_at 202 79 = some (.iload 4) := by decide +kernel
theorem dx_202_81 : mj_at 202 81 = some (.iaload) := by decide +kernel
theorem dx_202_82 : mj_at 202 82 = some (.invokestatic 120) := by decide +kernel
theorem dx_202_85 : mj_at 202 85 = some (.ifCond .eq 7) := by decide +kernel
theorem dx_202_88 : mj_at 202 88 = some (.iconst 1) := by decide +kernel
theorem dx_202_89 : mj_at 202 89 = some (.goto 4) := by decide +kernel
theorem dx_202_92 : mj_at 202 92 = some (.iconst 0) := by decide +kernel
theorem dx_202_93 : mj_at 202 93 = some (.istore_n 3) := by decide +kernel
theorem dx_202_94 : mj_at 202 94 = some (.iload_n 2) := by decide +kernel
theorem dx_202_95 : mj_at 202 95 = some (.iconst 4) := by decide +kernel
theorem dx_202_96 : mj_at 202 96 = some (.iadd) := by decide +kernel
theorem dx_202_97 : mj_at 202 97 = some (.istore_n 2) := by decide +kernel
theorem dx_202_98 : mj_at 202 98 = some (.iinc 4 1) := by decide +kernel
theorem dx_202_101 : mj_at 202 101 = some (.goto (-94)) := by decide +kernel
theorem dx_202_104 : mj_at 202 104 = some (.iload_n 3) := by decide +kernel
theorem dx_202_105 : mj_at 202 105 = some (.ireturn) := by decide +kernel
set_option maxRecDepth 10000 in
theorem b_X9_readsSheet {sl d : Nat} {M : mj_M} {x1 : Int32}  : mj_C sl (d + 1) 202 [.ref 45, .int x1] M = mj_E sl (d + 1) 202 7 [.ref 45, .int x1, .int 0, .int 1, .int 0] [] M := by
  show mj_E sl (d + 1) 202 0 [.ref 45, .int x1, .null, .null, .null] [] M = _
  refine (sx_iconst (v := 0) dx_202_0 rfl).trans ?_
  refine (sx_istore_n dx_202_1 (Nat.le_of_ble_eq_true rfl) rfl).trans ?_
  refine (sx_iconst (v := 1) dx_202_2 rfl).trans ?_
  refine (sx_istore_n dx_202_3 (Nat.le_of_ble_eq_true rfl) rfl).trans ?_
  refine (sx_iconst (v := 0) dx_202_4 rfl).trans ?_
  refine (sx_istore dx_202_5 (Nat.le_of_ble_eq_true rfl) rfl).trans ?_
  rfl
set_option maxRecDepth 10000 in
theorem b_X9_readsSheet_7 {sl d : Nat} {M : mj_M} {y1 : Int32} {y2 : Int32} {y3 : Int32} {y4 : Int32}  : mj_E sl (d + 1) 202 7 [.ref 45, .int y1, .int y2, .int y3, .int y4] [] M = if y4 < 8 then ((mj_C sl d 127 [.int y1, .int y4] M).bind (fun q1 => if q1.1 = 0 then (mj_E sl (d + 1) 202 7 [.ref 45, .int y1, .int y2, .int y3, .int (y4 + 1)] [] q1.2) else ((mj_C sl d 146 [.ref 45, .int y2] q1.2).bind (fun q2 => (mj_C sl d 146 [.ref 45, .int (y2 + 1)] q2.2).bind (fun q3 => (mj_C sl d 146 [.ref 45, .int (y2 + 2)] q3.2).bind (fun q4 => (mj_C sl d 146 [.ref 45, .int (y2 + 3)] q4.2).bind (fun q5 => if mj_inB y4 8 = true then (if y3 = 0 then (mj_E sl (d + 1) 202 7 [.ref 45, .int y1, .int (y2 + 4), .int 0, .int (y4 + 1)] [] (mj_st q5.2 70 (y4 : Int32).toNatClampNeg ((((q2.1 <<< ((24 : Int32) &&& 31)) ||| (q3.1 <<< ((16 : Int32) &&& 31))) ||| (q4.1 <<< ((8 : Int32) &&& 31))) ||| q5.1))) else (if mj_inB y4 8 = true then ((mj_C sl d 130 [.int ((mj_st q5.2 70 (y4 : Int32).toNatClampNeg ((((q2.1 <<< ((24 : Int32) &&& 31)) ||| (q3.1 <<< ((16 : Int32) &&& 31))) ||| (q4.1 <<< ((8 : Int32) &&& 31))) ||| q5.1)) 70 (y4 : Int32).toNatClampNeg)] (mj_st q5.2 70 (y4 : Int32).toNatClampNeg ((((q2.1 <<< ((24 : Int32) &&& 31)) ||| (q3.1 <<< ((16 : Int32) &&& 31))) ||| (q4.1 <<< ((8 : Int32) &&& 31))) ||| q5.1))).bind (fun q6 => if q6.1 = 0 then (mj_E sl (d + 1) 202 7 [.ref 45, .int y1, .int (y2 + 4), .int 0, .int (y4 + 1)] [] q6.2) else (mj_E sl (d + 1) 202 7 [.ref 45, .int y1, .int (y2 + 4), .int 1, .int (y4 + 1)] [] q6.2))) else none)) else none))))))) else (if y3 &&& 1 = y3 then some ((y3 : Int32), M) else none) := by
  refine (sx_iload dx_202_7 rfl).trans ?_
  refine (sx_bipush (v := 8) dx_202_9 rfl).trans ?_
  refine (sx_icmp_ge (tgt := 104) dx_202_11 (by decide)).trans ?_
  refine mj_ite ?_ ?_
  · refine (sx_iload_n dx_202_14 rfl).trans ?_
    refine (sx_iload dx_202_15 rfl).trans ?_
    refine (sx_s2i dx_202_17 ow_202 cx_7_254 (Nat.le_of_ble_eq_true rfl)).trans ?_
    refine mj_bnd (fun q1 => ?_)
    refine (sx_if_ne (tgt := 26) dx_202_20 (by decide)).trans ?_
    refine mj_ite ?_ ?_
    · refine (sx_goto (tgt := 98) dx_202_23 (by decide)).trans ?_
      refine (sx_iinc (v := 1) dx_202_98 rfl rfl rfl).trans ?_
      refine (sx_goto (tgt := 7) dx_202_101 (by decide)).trans ?_
      rfl
    · refine (sx_aload_n dx_202_26 rfl).trans ?_
      refine (sx_gfr dx_202_27 ow_202 fx_7_83 oc_45 rb_45_43).trans ?_
      refine (sx_iload dx_202_30 rfl).trans ?_
      refine (sx_aload_n dx_202_32 rfl).trans ?_
      refine (sx_iload_n dx_202_33 rfl).trans ?_
      refine (sx_v1i dx_202_34 ow_202 cx_7_233 oc_45 (Nat.le_of_ble_eq_true rfl)).trans ?_
      refine mj_bnd (fun q2 => ?_)
      refine (sx_bipush (v := 24) dx_202_37 rfl).trans ?_
      refine (sx_ishl dx_202_39).trans ?_
      refine (sx_aload_n dx_202_40 rfl).trans ?_
      refine (sx_iload_n dx_202_41 rfl).trans ?_
      refine (sx_iconst (v := 1) dx_202_42 rfl).trans ?_
      refine (sx_iadd dx_202_43).trans ?_
      refine (sx_v1i dx_202_44 ow_202 cx_7_233 oc_45 (Nat.le_of_ble_eq_true rfl)).trans ?_
      refine mj_bnd (fun q3 => ?_)
      refine (sx_bipush (v := 16) dx_202_47 rfl).trans ?_
      refine (sx_ishl dx_202_49).trans ?_
      refine (sx_ior dx_202_50).trans ?_
      refine (sx_aload_n dx_202_51 rfl).trans ?_
      refine (sx_iload_n dx_202_52 rfl).trans ?_
      refine (sx_iconst (v := 2) dx_202_53 rfl).trans ?_
      refine (sx_iadd dx_202_54).trans ?_
      refine (sx_v1i dx_202_55 ow_202 cx_7_233 oc_45 (Nat.le_of_ble_eq_true rfl)).trans ?_
      refine mj_bnd (fun q4 => ?_)
      refine (sx_bipush (v := 8) dx_202_58 rfl).trans ?_
      refine (sx_ishl dx_202_60).trans ?_
      refine (sx_ior dx_202_61).trans ?_
      refine (sx_aload_n dx_202_62 rfl).trans ?_
      refine (sx_iload_n dx_202_63 rfl).trans ?_
      refine (sx_iconst (v := 3) dx_202_64 rfl).trans ?_
      refine (sx_iadd dx_202_65).trans ?_
      refine (sx_v1i dx_202_66 ow_202 cx_7_233 oc_45 (Nat.le_of_ble_eq_true rfl)).trans ?_
      refine mj_bnd (fun q5 => ?_)
      refine (sx_ior dx_202_69).trans ?_
      refine (sx_ist dx_202_70 ia_70).trans ?_
      refine mj_ite ?_ rfl
      refine (sx_iload_n dx_202_71 rfl).trans ?_
      refine (sx_if_eq (tgt := 92) dx_202_72 (by decide)).trans ?_
      refine mj_ite ?_ ?_
      · refine (sx_iconst (v := 0) dx_202_92 rfl).trans ?_
        refine (sx_istore_n dx_202_93 (Nat.le_of_ble_eq_true rfl) rfl).trans ?_
        refine (sx_iload_n dx_202_94 rfl).trans ?_
        refine (sx_iconst (v := 4) dx_202_95 rfl).trans ?_
        refine (sx_iadd dx_202_96).trans ?_
        refine (sx_istore_n dx_202_97 (Nat.le_of_ble_eq_true rfl) rfl).trans ?_
        refine (sx_iinc (v := 1) dx_202_98 rfl rfl rfl).trans ?_
        refine (sx_goto (tgt := 7) dx_202_101 (by decide)).trans ?_
        rfl
      · refine (sx_aload_n dx_202_75 rfl).trans ?_
        refine (sx_gfr dx_202_76 ow_202 fx_7_83 oc_45 rb_45_43).trans ?_
        refine (sx_iload dx_202_79 rfl).trans ?_
        refine (sx_ild dx_202_81 (by decide) ia_70).trans ?_
        refine mj_ite ?_ rfl
        refine (sx_s1i dx_202_82 ow_202 cx_7_120 (Nat.le_of_ble_eq_true rfl)).trans ?_
        refine mj_bnd (fun q6 => ?_)
        refine (sx_if_eq (tgt := 92) dx_202_85 (by decide)).trans ?_
        refine mj_ite ?_ ?_
        · refine (sx_iconst (v := 0) dx_202_92 rfl).trans ?_
          refine (sx_istore_n dx_202_93 (Nat.le_of_ble_eq_true rfl) rfl).trans ?_
          refine (sx_iload_n dx_202_94 rfl).trans ?_
          refine (sx_iconst (v := 4) dx_202_95 rfl).trans ?_
          refine (sx_iadd dx_202_96).trans ?_
          refine (sx_istore_n dx_202_97 (Nat.le_of_ble_eq_true rfl) rfl).trans ?_
          refine (sx_iinc (v := 1) dx_202_98 rfl rfl rfl).trans ?_
          refine (sx_goto (tgt := 7) dx_202_101 (by decide)).trans ?_
          rfl
        · refine (sx_iconst (v := 1) dx_202_88 rfl).trans ?_
          refine (sx_goto (tgt := 93) dx_202_89 (by decide)).trans ?_
          refine (sx_istore_n dx_202_93 (Nat.le_of_ble_eq_true rfl) rfl).trans ?_
          refine (sx_iload_n dx_202_94 rfl).trans ?_
          refine (sx_iconst (v := 4) dx_202_95 rfl).trans ?_
          refine (sx_iadd dx_202_96).trans ?_
          refine (sx_istore_n dx_202_97 (Nat.le_of_ble_eq_true rfl) rfl).trans ?_
          refine (sx_iinc (v := 1) dx_202_98 rfl rfl rfl).trans ?_
          refine (sx_goto (tgt := 7) dx_202_101 (by decide)).trans ?_
          rfl
  · refine (sx_iload_n dx_202_104 rfl).trans ?_
    exact sx_retg dx_202_105 rt_202
theorem dx_203_0 : mj_at 203 0 = some (.iload_n 1) := by decide +kernel
theorem dx_203_1 : mj_at 203 1 = some (.iconst 1) := by decide +kernel
theorem dx_203_2 : mj_at 203 2 = some (.sipush 255) := by decide +kernel
theorem dx_203_5 : mj_at 203 5 = some (.invokestatic 90) := by decide +kernel
theorem dx_203_8 : mj_at 203 8 = some (.ifCond .eq 36) := by decide +kernel
theorem dx_203_11 : mj_at 203 11 = some (.iload_n 1) := by decide +kernel
theorem dx_203_12 : mj_at 203 12 = some (.aload_n 0) := by decide +kernel
theorem dx_203_13 : mj_at 203 13 = some (.invokevirtual 336) := by decide +kernel
theorem dx_203_16 : mj_at 203 16 = some (.iconst (-1)) := by decide +kernel
theorem dx_203_17 : mj_at 203 17 = some (.ixor) := by decide +kernel
theorem dx_203_18 : mj_at 203 18 = some (.iand) := by decide +kernel
theorem dx_203_19 : mj_at 203 19 = some (.ifCond .ne 25) := by decide +kernel
theorem dx_203_22 : mj_at 203 22 = some (.iload_n 2) := by decide +kernel
theorem dx_203_23 : mj_at 203 23 = some (.iconst 0) := by decide +kernel
theorem dx_203_24 : mj_at 203 24 = some (.iconst 2) := by decide +kernel
theorem dx_203_25 : mj_at 203 25 = some (.invokestatic 90) := by decide +kernel
theorem dx_203_28 : mj_at 203 28 = some (.ifCond .eq 16) := by decide +kernel
theorem dx_203_31 : mj_at 203 31 = some (.aload_n 0) := by decide +kernel
theorem dx_203_32 : mj_at 203 32 = some (.getfield 123) := by decide +kernel
theorem dx_203_35 : mj_at 203 35 = some (.iconst 4) := by decide +kernel
theorem dx_203_36 : mj_at 203 36 = some (.iload_n 1) := by decide +kernel
theorem dx_203_37 : mj_at 203 37 = some (.invokestatic 108) := by decide +kernel
theorem dx_203_40 : mj_at 203 40 = some (.imul) := by decide +kernel
theorem dx_203_41 : mj_at 203 41 = some (.if_icmp .ge 5) := by decide +kernel
theorem dx_203_44 : mj_at 203 44 = some (.iconst (-1)) := by decide +kernel
theorem dx_203_45 : mj_at 203 45 = some (.ireturn) := by decide +kernel
theorem dx_203_46 : mj_at 203 46 = some (.aload_n 0) := by decide +kernel
theorem dx_203_47 : mj_at 203 47 = some (.iconst 0) := by decide +kernel
theorem dx_203_48 : mj_at 203 48 = some (.putfield 123) := by decide +kernel
theorem dx_203_51 : mj_at 203 51 = some (.aload_n 0) := by decide +kernel
theorem dx_203_52 : mj_at 203 52 = some (.invokevirtual 339) := by decide +kernel
theorem dx_203_55 : mj_at 203 55 = some (.ifCond .ne 6) := by decide +kernel
theorem dx_203_58 : mj_at 203 58 = some (.bipush (-2)) := by decide +kernel
theorem dx_203_60 : mj_at 203 60 = some (.ireturn) := by decide +kernel
theorem dx_203_61 : mj_at 203 61 = some (.aload_n 0) := by decide +kernel
theorem dx_203_62 : mj_at 203 62 = some (.iload_n 1) := by decide +kernel
theorem dx_203_63 : mj_at 203 63 = some (.invokevirtual 342) := by decide +kernel
theorem dx_203_66 : mj_at 203 66 = some (.ifCond .ne 6) := by decide +kernel
theorem dx_203_69 : mj_at 203 69 = some (.bipush (-3)) := by decide +kernel
theorem dx_203_71 : mj_at 203 71 = some (.ireturn) := by decide +kernel
theorem dx_203_72 : mj_at 203 72 = some (.iconst (-1)) := by decide +kernel
theorem dx_203_73 : mj_at 203 73 = some (.istore_n 3) := by decide +kernel
theorem dx_203_74 : mj_at 203 74 = some (.ldc 119) := by decide +kernel
theorem dx_203_76 : mj_at 203 76 = some (.istore 4) := by decide +kernel
theorem dx_203_78 : mj_at 203 78 = some (.ldc 119) := by decide +kernel
theorem dx_203_80 : mj_at 203 80 = some (.istore 5) := by decide +kernel
theorem dx_203_82 : mj_at 203 82 = some (.iconst 0) := by decide +kernel
theorem dx_203_83 : mj_at 203 83 = some (.istore 6) := by decide +kernel
theorem dx_203_85 : mj_at 203 85 = some (.iload 6) := by decide +kernel
theorem dx_203_87 : mj_at 203 87 = some (.bipush 10) := by decide +kernel
theorem dx_203_89 : mj_at 203 89 = some (.if_icmp .ge 103) := by decide +kernel
theorem dx_203_92 : mj_at 203 92 = some (.aload_n 0) := by decide +kernel
theorem dx_203_93 : mj_at 203 93 = some (.iload 6) := by decide +kernel
theorem dx_203_95 : mj_at 203 95 = some (.invokevirtual 98) := by decide +kernel
theorem dx_203_98 : mj_at 203 98 = some (.ifCond .ne 6) := by decide +kernel
theorem dx_203_101 : mj_at 203 101 = some (.goto 85) := by decide +kernel
theorem dx_203_104 : mj_at 203 104 = some (.iconst 0) := by decide +kernel
theorem dx_203_105 : mj_at 203 105 = some (.istore 7) := by decide +kernel
theorem dx_203_107 : mj_at 203 107 = some (.iconst 0) := by decide +kernel
theorem dx_203_108 : mj_at 203 108 = some (.istore 8) := by decide +kernel
theorem dx_203_110 : mj_at 203 110 = some (.iload 8) := by decide +kernel
theorem dx_203_112 : mj_at 203 112 = some (.bipush 8) := by decide +kernel
theorem dx_203_114 : mj_at 203 114 = some (.if_icmp .ge 42) := by decide +kernel
theorem dx_203_117 : mj_at 203 117 = some (.iload_n 1) := by decide +kernel
theorem dx_203_118 : mj_at 203 118 = some (.iload 8) := by decide +kernel
theorem dx_203_120 : mj_at 203 120 = some (.invokestatic 254) := by decide +kernel
theorem dx_203_123 : mj_at 203 123 = some (.ifCond .eq 27) := by decide +kernel
theorem dx_203_126 : mj_at 203 126 = some (.iload 7) := by decide +kernel
theorem dx_203_128 : mj_at 203 128 = some (.aload_n 0) := by decide +kernel
theorem dx_203_129 : mj_at 203 129 = some (.getfield 83) := by decide +kernel
theorem dx_203_132 : mj_at 203 132 = some (.iload 8) := by decide +kernel
theorem dx_203_134 : mj_at 203 134 = some (.iaload) := by decide +kernel
theorem dx_203_135 : mj_at 203 135 = some (.aload_n 0) := by decide +kernel
theorem dx_203_136 : mj_at 203 136 = some (.iload 6) := by decide +kernel
theorem dx_203_138 : mj_at 203 138 = some (.iload 8) := by decide +kernel
theorem dx_203_140 : mj_at 203 140 = some (.invokevirtual 105) := by decide +kernel
theorem dx_203_143 : mj_at 203 143 = some (.ixor) := by decide +kernel
theorem dx_203_144 : mj_at 203 144 = some (.invokestatic 108) := by decide +kernel
theorem dx_203_147 : mj_at 203 147 = some (.iadd) := by decide +kernel
theorem dx_203_148 : mj_at 203 148 = some (.istore 7) := by decide +kernel
theorem dx_203_150 : mj_at 203 150 = some (.iinc 8 1) := by decide +kernel
theorem dx_203_153 : mj_at 203 153 = some (.goto (-43)) := by decide +kernel
theorem dx_203_156 : mj_at 203 156 = some (.iload 7) := by decide +kernel
theorem dx_203_158 : mj_at 203 158 = some (.iload 4) := by decide +kernel
theorem dx_203_160 : mj_at 203 160 = some (.if_icmp .ge 17) := by decide +kernel
theorem dx_203_163 : mj_at 203 163 = some (.iload 4) := by decide +kernel
theorem dx_203_165 : mj_at 203 165 = some (.istore 5) := by decide +kernel
theorem dx_203_167 : mj_at 203 167 = some (.iload 7) := by decide +kernel
theorem dx_203_169 : mj_at 203 169 = some (.istore 4) := by decide +kernel
theorem dx_203_171 : mj_at 203 171 = some (.iload 6) := by decide +kernel
theorem dx_203_173 : mj_at 203 173 = some (.istore_n 3) := by decide +kernel
theorem dx_203_174 : mj_at 203 174 = some (.goto 12) := by decide +kernel
theorem dx_203_177 : mj_at 203 177 = some (.iload 5) := by decide +kernel
theorem dx_203_179 : mj_at 203 179 = some (.iload 7) := by decide +kernel
theorem dx_203_181 : mj_at 203 181 = some (.invokestatic 308) := by decide +kernel
theorem dx_203_184 : mj_at 203 184 = some (.istore 5) := by decide +kernel
theorem dx_203_186 : mj_at 203 186 = some (.iinc 6 1) := by decide +kernel
theorem dx_203_189 : mj_at 203 189 = some (.goto (-104)) := by decide +kernel
theorem dx_203_192 : mj_at 203 192 = some (.iload_n 2) := by decide +kernel
theorem dx_203_193 : mj_at 203 193 = some (.iconst 2) := by decide +kernel
theorem dx_203_194 : mj_at 203 194 = some (.if_icmp .ge 14) := by decide +kernel
theorem dx_203_197 : mj_at 203 197 = some (.iload_n 2) := by decide +kernel
theorem dx_203_198 : mj_at 203 198 = some (.ifCond .ne 7) := by decide +kernel
theorem dx_203_201 : mj_at 203 201 = some (.iload_n 3) := by decide +kernel
theorem dx_203_202 : mj_at 203 202 = some (.goto 5) := by decide +kernel
theorem dx_203_205 : mj_at 203 205 = some (.iload 4) := by decide +kernel
theorem dx_203_207 : mj_at 203 207 = some (.ireturn) := by decide +kernel
theorem dx_203_208 : mj_at 203 208 = some (.iload 5) := by decide +kernel
theorem dx_203_210 : mj_at 203 210 = some (.ldc 119) := by decide +kernel
theorem dx_203_212 : mj_at 203 212 = some (.if_icmp .ne 8) := by decide +kernel
theorem dx_203_215 : mj_at 203 215 = some (.bipush (-2)) := by decide +kernel
theorem dx_203_217 : mj_at 203 217 = some (.goto 8) := by decide +kernel
theorem dx_203_220 : mj_at 203 220 = some (.iload 5) := by decide +kernel
theorem dx_203_222 : mj_at 203 222 = some (.iload 4) := by decide +kernel
theorem dx_203_224 : mj_at 203 224 = some (.isub) := by decide +kernel
theorem dx_203_225 : mj_at 203 225 = some (.ireturn) := by decide +kernel
set_option maxRecDepth 10000 in
theorem b_X9_whose {sl d : Nat} {M : mj_M} {x1 : Int32} {x2 : Int32}  : mj_C sl (d + 1) 203 [.ref 45, .int x1, .int x2] M = (mj_C sl d 124 [.int x1, .int 1, .int 255] M).bind (fun q1 => if q1.1 = 0 then (some (((-1) : Int32), q1.2)) else ((mj_C sl d 133 [.ref 45] q1.2).bind (fun q2 => if x1 &&& (q2.1 ^^^ (-1)) = 0 then ((mj_C sl d 124 [.int x2, .int 0, .int 2] q2.2).bind (fun q3 => if q3.1 = 0 then (some (((-1) : Int32), q3.2)) else ((mj_C sl d 128 [.int x1] q3.2).bind (fun q4 => if q3.2 45 5 < ((4 : Int32) * q4.1) then (some (((-1) : Int32), q4.2)) else ((mj_C sl d 134 [.ref 45] (mj_st q4.2 45 5 0)).bind (fun q5 => if q5.1 = 0 then (some (((-2) : Int32), q5.2)) else ((mj_C sl d 202 [.ref 45, .int x1] q5.2).bind (fun q6 => if q6.1 = 0 then (some (((-3) : Int32), q6.2)) else (mj_E sl (d + 1) 203 85 [.ref 45, .int x1, .int x2, .int (-1), .int 1000000, .int 1000000, .int 0, .null, .null] [] q6.2))))))))) else (some (((-1) : Int32), q2.2))))) := by
  show mj_E sl (d + 1) 203 0 [.ref 45, .int x1, .int x2, .null, .null, .null, .null, .null, .null] [] M = _
  refine (sx_iload_n dx_203_0 rfl).trans ?_
  refine (sx_iconst (v := 1) dx_203_1 rfl).trans ?_
  refine (sx_sipush (v := 255) dx_203_2 rfl).trans ?_
  refine (sx_s3i dx_203_5 ow_203 cx_7_90 (Nat.le_of_ble_eq_true rfl)).trans ?_
  refine mj_bnd (fun q1 => ?_)
  refine (sx_if_eq (tgt := 44) dx_203_8 (by decide)).trans ?_
  refine mj_ite ?_ ?_
  · refine (sx_iconst (v := (-1)) dx_203_44 rfl).trans ?_
    exact sx_reti dx_203_45 rt_203
  · refine (sx_iload_n dx_203_11 rfl).trans ?_
    refine (sx_aload_n dx_203_12 rfl).trans ?_
    refine (sx_v0i dx_203_13 ow_203 cx_7_336 oc_45 (Nat.le_of_ble_eq_true rfl)).trans ?_
    refine mj_bnd (fun q2 => ?_)
    refine (sx_iconst (v := (-1)) dx_203_16 rfl).trans ?_
    refine (sx_ixor dx_203_17).trans ?_
    refine (sx_iand dx_203_18).trans ?_
    refine (sx_if_ne (tgt := 44) dx_203_19 (by decide)).trans ?_
    refine mj_ite ?_ ?_
    · refine (sx_iload_n dx_203_22 rfl).trans ?_
      refine (sx_iconst (v := 0) dx_203_23 rfl).trans ?_
      refine (sx_iconst (v := 2) dx_203_24 rfl).trans ?_
      refine (sx_s3i dx_203_25 ow_203 cx_7_90 (Nat.le_of_ble_eq_true rfl)).trans ?_
      refine mj_bnd (fun q3 => ?_)
      refine (sx_if_eq (tgt := 44) dx_203_28 (by decide)).trans ?_
      refine mj_ite ?_ ?_
      · refine (sx_iconst (v := (-1)) dx_203_44 rfl).trans ?_
        exact sx_reti dx_203_45 rt_203
      · refine (sx_aload_n dx_203_31 rfl).trans ?_
        refine (sx_gfi dx_203_32 ow_203 fx_7_123 (by decide) oc_45).trans ?_
        refine (sx_iconst (v := 4) dx_203_35 rfl).trans ?_
        refine (sx_iload_n dx_203_36 rfl).trans ?_
        refine (sx_s1i dx_203_37 ow_203 cx_7_108 (Nat.le_of_ble_eq_true rfl)).trans ?_
        refine mj_bnd (fun q4 => ?_)
        refine (sx_imul dx_203_40).trans ?_
        refine (sx_icmp_ge (tgt := 46) dx_203_41 (by decide)).trans ?_
        refine mj_ite ?_ ?_
        · refine (sx_iconst (v := (-1)) dx_203_44 rfl).trans ?_
          exact sx_reti dx_203_45 rt_203
        · refine (sx_aload_n dx_203_46 rfl).trans ?_
          refine (sx_iconst (v := 0) dx_203_47 rfl).trans ?_
          refine (sx_pfi dx_203_48 ow_203 fx_7_123 oc_45).trans ?_
          refine (sx_aload_n dx_203_51 rfl).trans ?_
          refine (sx_v0i dx_203_52 ow_203 cx_7_339 oc_45 (Nat.le_of_ble_eq_true rfl)).trans ?_
          refine mj_bnd (fun q5 => ?_)
          refine (sx_if_ne (tgt := 61) dx_203_55 (by decide)).trans ?_
          refine mj_ite ?_ ?_
          · refine (sx_bipush (v := (-2)) dx_203_58 rfl).trans ?_
            exact sx_reti dx_203_60 rt_203
          · refine (sx_aload_n dx_203_61 rfl).trans ?_
            refine (sx_iload_n dx_203_62 rfl).trans ?_
            refine (sx_v1i dx_203_63 ow_203 cx_7_342 oc_45 (Nat.le_of_ble_eq_true rfl)).trans ?_
            refine mj_bnd (fun q6 => ?_)
            refine (sx_if_ne (tgt := 72) dx_203_66 (by decide)).trans ?_
            refine mj_ite ?_ ?_
            · refine (sx_bipush (v := (-3)) dx_203_69 rfl).trans ?_
              exact sx_reti dx_203_71 rt_203
            · refine (sx_iconst (v := (-1)) dx_203_72 rfl).trans ?_
              refine (sx_istore_n dx_203_73 (Nat.le_of_ble_eq_true rfl) rfl).trans ?_
              refine (sx_ldc (v := 1000000) dx_203_74 ow_203 kx_7_119).trans ?_
              refine (sx_istore dx_203_76 (Nat.le_of_ble_eq_true rfl) rfl).trans ?_
              refine (sx_ldc (v := 1000000) dx_203_78 ow_203 kx_7_119).trans ?_
              refine (sx_istore dx_203_80 (Nat.le_of_ble_eq_true rfl) rfl).trans ?_
              refine (sx_iconst (v := 0) dx_203_82 rfl).trans ?_
              refine (sx_istore dx_203_83 (Nat.le_of_ble_eq_true rfl) rfl).trans ?_
              rfl
    · refine (sx_iconst (v := (-1)) dx_203_44 rfl).trans ?_
      exact sx_reti dx_203_45 rt_203
set_option maxRecDepth 10000 in
theorem b_X9_whose_85 {sl d : Nat} {M : mj_M} {y1 : Int32} {y2 : Int32} {y3 : Int32} {y4 : Int32} {y5 : Int32} {y6 : Int32} {w7 : Value} {w8 : Value}  : mj_E sl (d + 1) 203 85 [.ref 45, .int y1, .int y2, .int y3, .int y4, .int y5, .int y6, w7, w8] [] M = if y6 < 10 then ((mj_C sl d 132 [.ref 45, .int y6] M).bind (fun q1 => if q1.1 = 0 then (mj_E sl (d + 1) 203 85 [.ref 45, .int y1, .int y2, .int y3, .int y4, .int y5, .int (y6 + 1), w7, w8] [] q1.2) else (mj_E sl (d + 1) 203 110 [.ref 45, .int y1, .int y2, .int y3, .int y4, .int y5, .int y6, .int 0, .int 0] [] q1.2))) else (if y2 < 2 then (if y2 = 0 then (some ((y3 : Int32), M)) else (some ((y4 : Int32), M))) else (if y5 = 1000000 then (some (((-2) : Int32), M)) else (some ((y5 - y4 : Int32), M)))) := by
  refine (sx_iload dx_203_85 rfl).trans ?_
  refine (sx_bipush (v := 10) dx_203_87 rfl).trans ?_
  refine (sx_icmp_ge (tgt := 192) dx_203_89 (by decide)).trans ?_
  refine mj_ite ?_ ?_
  · refine (sx_aload_n dx_203_92 rfl).trans ?_
    refine (sx_iload dx_203_93 rfl).trans ?_
    refine (sx_v1i dx_203_95 ow_203 cx_7_98 oc_45 (Nat.le_of_ble_eq_true rfl)).trans ?_
    refine mj_bnd (fun q1 => ?_)
    refine (sx_if_ne (tgt := 104) dx_203_98 (by decide)).trans ?_
    refine mj_ite ?_ ?_
    · refine (sx_goto (tgt := 186) dx_203_101 (by decide)).trans ?_
      refine (sx_iinc (v := 1) dx_203_186 rfl rfl rfl).trans ?_
      refine (sx_goto (tgt := 85) dx_203_189 (by decide)).trans ?_
      rfl
    · refine (sx_iconst (v := 0) dx_203_104 rfl).trans ?_
      refine (sx_istore dx_203_105 (Nat.le_of_ble_eq_true rfl) rfl).trans ?_
      refine (sx_iconst (v := 0) dx_203_107 rfl).trans ?_
      refine (sx_istore dx_203_108 (Nat.le_of_ble_eq_true rfl) rfl).trans ?_
      rfl
  · refine (sx_iload_n dx_203_192 rfl).trans ?_
    refine (sx_iconst (v := 2) dx_203_193 rfl).trans ?_
    refine (sx_icmp_ge (tgt := 208) dx_203_194 (by decide)).trans ?_
    refine mj_ite ?_ ?_
    · refine (sx_iload_n dx_203_197 rfl).trans ?_
      refine (sx_if_ne (tgt := 205) dx_203_198 (by decide)).trans ?_
      refine mj_ite ?_ ?_
      · refine (sx_iload_n dx_203_201 rfl).trans ?_
        refine (sx_goto (tgt := 207) dx_203_202 (by decide)).trans ?_
        exact sx_reti dx_203_207 rt_203
      · refine (sx_iload dx_203_205 rfl).trans ?_
        exact sx_reti dx_203_207 rt_203
    · refine (sx_iload dx_203_208 rfl).trans ?_
      refine (sx_ldc (v := 1000000) dx_203_210 ow_203 kx_7_119).trans ?_
      refine (sx_icmp_ne (tgt := 220) dx_203_212 (by decide)).trans ?_
      refine mj_ite ?_ ?_
      · refine (sx_bipush (v := (-2)) dx_203_215 rfl).trans ?_
        refine (sx_goto (tgt := 225) dx_203_217 (by decide)).trans ?_
        exact sx_reti dx_203_225 rt_203
      · refine (sx_iload dx_203_220 rfl).trans ?_
        refine (sx_iload dx_203_222 rfl).trans ?_
        refine (sx_isub dx_203_224).trans ?_
        exact sx_reti dx_203_225 rt_203
set_option maxRecDepth 10000 in
theorem b_X9_whose_110 {sl d : Nat} {M : mj_M} {y1 : Int32} {y2 : Int32} {y3 : Int32} {y4 : Int32} {y5 : Int32} {y6 : Int32} {y7 : Int32} {y8 : Int32}  : mj_E sl (d + 1) 203 110 [.ref 45, .int y1, .int y2, .int y3, .int y4, .int y5, .int y6, .int y7, .int y8] [] M = if y8 < 8 then ((mj_C sl d 127 [.int y1, .int y8] M).bind (fun q1 => if q1.1 = 0 then (mj_E sl (d + 1) 203 110 [.ref 45, .int y1, .int y2, .int y3, .int y4, .int y5, .int y6, .int y7, .int (y8 + 1)] [] q1.2) else (if mj_inB y8 8 = true then ((mj_C sl d 136 [.ref 45, .int y6, .int y8] q1.2).bind (fun q2 => (mj_C sl d 128 [.int ((q1.2 70 (y8 : Int32).toNatClampNeg) ^^^ q2.1)] q2.2).bind (fun q3 => mj_E sl (d + 1) 203 110 [.ref 45, .int y1, .int y2, .int y3, .int y4, .int y5, .int y6, .int (y7 + q3.1), .int (y8 + 1)] [] q3.2))) else none))) else (if y7 < y4 then (mj_E sl (d + 1) 203 85 [.ref 45, .int y1, .int y2, .int y6, .int y7, .int y4, .int (y6 + 1), .int y7, .int y8] [] M) else ((mj_C sl d 125 [.int y5, .int y7] M).bind (fun q4 => mj_E sl (d + 1) 203 85 [.ref 45, .int y1, .int y2, .int y3, .int y4, .int q4.1, .int (y6 + 1), .int y7, .int y8] [] q4.2))) := by
  refine (sx_iload dx_203_110 rfl).trans ?_
  refine (sx_bipush (v := 8) dx_203_112 rfl).trans ?_
  refine (sx_icmp_ge (tgt := 156) dx_203_114 (by decide)).trans ?_
  refine mj_ite ?_ ?_
  · refine (sx_iload_n dx_203_117 rfl).trans ?_
    refine (sx_iload dx_203_118 rfl).trans ?_
    refine (sx_s2i dx_203_120 ow_203 cx_7_254 (Nat.le_of_ble_eq_true rfl)).trans ?_
    refine mj_bnd (fun q1 => ?_)
    refine (sx_if_eq (tgt := 150) dx_203_123 (by decide)).trans ?_
    refine mj_ite ?_ ?_
    · refine (sx_iinc (v := 1) dx_203_150 rfl rfl rfl).trans ?_
      refine (sx_goto (tgt := 110) dx_203_153 (by decide)).trans ?_
      rfl
    · refine (sx_iload dx_203_126 rfl).trans ?_
      refine (sx_aload_n dx_203_128 rfl).trans ?_
      refine (sx_gfr dx_203_129 ow_203 fx_7_83 oc_45 rb_45_43).trans ?_
      refine (sx_iload dx_203_132 rfl).trans ?_
      refine (sx_ild dx_203_134 (by decide) ia_70).trans ?_
      refine mj_ite ?_ rfl
      refine (sx_aload_n dx_203_135 rfl).trans ?_
      refine (sx_iload dx_203_136 rfl).trans ?_
      refine (sx_iload dx_203_138 rfl).trans ?_
      refine (sx_v2i dx_203_140 ow_203 cx_7_105 oc_45 (Nat.le_of_ble_eq_true rfl)).trans ?_
      refine mj_bnd (fun q2 => ?_)
      refine (sx_ixor dx_203_143).trans ?_
      refine (sx_s1i dx_203_144 ow_203 cx_7_108 (Nat.le_of_ble_eq_true rfl)).trans ?_
      refine mj_bnd (fun q3 => ?_)
      refine (sx_iadd dx_203_147).trans ?_
      refine (sx_istore dx_203_148 (Nat.le_of_ble_eq_true rfl) rfl).trans ?_
      refine (sx_iinc (v := 1) dx_203_150 rfl rfl rfl).trans ?_
      refine (sx_goto (tgt := 110) dx_203_153 (by decide)).trans ?_
      rfl
  · refine (sx_iload dx_203_156 rfl).trans ?_
    refine (sx_iload dx_203_158 rfl).trans ?_
    refine (sx_icmp_ge (tgt := 177) dx_203_160 (by decide)).trans ?_
    refine mj_ite ?_ ?_
    · refine (sx_iload dx_203_163 rfl).trans ?_
      refine (sx_istore dx_203_165 (Nat.le_of_ble_eq_true rfl) rfl).trans ?_
      refine (sx_iload dx_203_167 rfl).trans ?_
      refine (sx_istore dx_203_169 (Nat.le_of_ble_eq_true rfl) rfl).trans ?_
      refine (sx_iload dx_203_171 rfl).trans ?_
      refine (sx_istore_n dx_203_173 (Nat.le_of_ble_eq_true rfl) rfl).trans ?_
      refine (sx_goto (tgt := 186) dx_203_174 (by decide)).trans ?_
      refine (sx_iinc (v := 1) dx_203_186 rfl rfl rfl).trans ?_
      refine (sx_goto (tgt := 85) dx_203_189 (by decide)).trans ?_
      rfl
    · refine (sx_iload dx_203_177 rfl).trans ?_
      refine (sx_iload dx_203_179 rfl).trans ?_
      refine (sx_s2i dx_203_181 ow_203 cx_7_308 (Nat.le_of_ble_eq_true rfl)).trans ?_
      refine mj_bnd (fun q4 => ?_)
      refine (sx_istore dx_203_184 (Nat.le_of_ble_eq_true rfl) rfl).trans ?_
      refine (sx_iinc (v := 1) dx_203_186 rfl rfl rfl).trans ?_
      refine (sx_goto (tgt := 85) dx_203_189 (by decide)).trans ?_
      rfl
theorem dx_204_0 : mj_at 204 0 = some (.iconst 0) := by decide +kernel
theorem dx_204_1 : mj_at 204 1 = some (.istore_n 3) := by decide +kernel
theorem dx_204_2 : mj_at 204 2 = some (.iconst 0) := by decide +kernel
theorem dx_204_3 : mj_at 204 3 = some (.istore 4) := by decide +kernel
theorem dx_204_5 : mj_at 204 5 = some (.iload 4) := by decide +kernel
theorem dx_204_7 : mj_at 204 7 = some (.bipush 8) := by decide +kernel
theorem dx_204_9 : mj_at 204 9 = some (.if_icmp .ge 39) := by decide +kernel
theorem dx_204_12 : mj_at 204 12 = some (.aload_n 0) := by decide +kernel
theorem dx_204_13 : mj_at 204 13 = some (.iload 4) := by decide +kernel
theorem dx_204_15 : mj_at 204 15 = some (.invokevirtual 94) := by decide +kernel
theorem dx_204_18 : mj_at 204 18 = some (.ifCond .eq 24) := by decide +kernel
theorem dx_204_21 : mj_at 204 21 = some (.iload_n 3) := by decide +kernel
theorem dx_204_22 : mj_at 204 22 = some (.aload_n 0) := by decide +kernel
theorem dx_204_23 : mj_at 204 23 = some (.iload_n 1) := by decide +kernel
theorem dx_204_24 : mj_at 204 24 = some (.iload 4) := by decide +kernel
theorem dx_204_26 : mj_at 204 26 = some (.invokevirtual 105) := by decide +kernel
theorem dx_204_29 : mj_at 204 29 = some (.aload_n 0) := by decide +kernel
theorem dx_204_30 : mj_at 204 30 = some (.iload_n 2) := by decide +kernel
theorem dx_204_31 : mj_at 204 31 = some (.iload 4) := by decide +kernel
theorem dx_204_33 : mj_at 204 33 = some (.invokevirtual 105) := by decide +kernel
theorem dx_204_36 : mj_at 204 36 = some (.ixor) := by decide +kernel
theorem dx_204_37 : mj_at 204 37 = some (.invokestatic 108) := by decide +kernel
theorem dx_204_40 : mj_at 204 40 = some (.iadd) := by decide +kernel
theorem dx_204_41 : mj_at 204 41 = some (.istore_n 3) := by decide +kernel
theorem dx_204_42 : mj_at 204 42 = some (.iinc 4 1) := by decide +kernel
theorem dx_204_45 : mj_at 204 45 = some (.goto (-40)) := by decide +kernel
theorem dx_204_48 : mj_at 204 48 = some (.iload_n 3) := by decide +kernel
theorem dx_204_49 : mj_at 204 49 = some (.ireturn) := by decide +kernel
set_option maxRecDepth 10000 in
theorem b_X9_apartInAll {sl d : Nat} {M : mj_M} {x1 : Int32} {x2 : Int32}  : mj_C sl (d + 1) 204 [.ref 45, .int x1, .int x2] M = mj_E sl (d + 1) 204 5 [.ref 45, .int x1, .int x2, .int 0, .int 0] [] M := by
  show mj_E sl (d + 1) 204 0 [.ref 45, .int x1, .int x2, .null, .null] [] M = _
  refine (sx_iconst (v := 0) dx_204_0 rfl).trans ?_
  refine (sx_istore_n dx_204_1 (Nat.le_of_ble_eq_true rfl) rfl).trans ?_
  refine (sx_iconst (v := 0) dx_204_2 rfl).trans ?_
  refine (sx_istore dx_204_3 (Nat.le_of_ble_eq_true rfl) rfl).trans ?_
  rfl
set_option maxRecDepth 10000 in
theorem b_X9_apartInAll_5 {sl d : Nat} {M : mj_M} {y1 : Int32} {y2 : Int32} {y3 : Int32} {y4 : Int32}  : mj_E sl (d + 1) 204 5 [.ref 45, .int y1, .int y2, .int y3, .int y4] [] M = if y4 < 8 then ((mj_C sl d 131 [.ref 45, .int y4] M).bind (fun q1 => if q1.1 = 0 then (mj_E sl (d + 1) 204 5 [.ref 45, .int y1, .int y2, .int y3, .int (y4 + 1)] [] q1.2) else ((mj_C sl d 136 [.ref 45, .int y1, .int y4] q1.2).bind (fun q2 => (mj_C sl d 136 [.ref 45, .int y2, .int y4] q2.2).bind (fun q3 => (mj_C sl d 128 [.int (q2.1 ^^^ q3.1)] q3.2).bind (fun q4 => mj_E sl (d + 1) 204 5 [.ref 45, .int y1, .int y2, .int (y3 + q4.1), .int (y4 + 1)] [] q4.2)))))) else (some ((y3 : Int32), M)) := by
  refine (sx_iload dx_204_5 rfl).trans ?_
  refine (sx_bipush (v := 8) dx_204_7 rfl).trans ?_
  refine (sx_icmp_ge (tgt := 48) dx_204_9 (by decide)).trans ?_
  refine mj_ite ?_ ?_
  · refine (sx_aload_n dx_204_12 rfl).trans ?_
    refine (sx_iload dx_204_13 rfl).trans ?_
    refine (sx_v1i dx_204_15 ow_204 cx_7_94 oc_45 (Nat.le_of_ble_eq_true rfl)).trans ?_
    refine mj_bnd (fun q1 => ?_)
    refine (sx_if_eq (tgt := 42) dx_204_18 (by decide)).trans ?_
    refine mj_ite ?_ ?_
    · refine (sx_iinc (v := 1) dx_204_42 rfl rfl rfl).trans ?_
      refine (sx_goto (tgt := 5) dx_204_45 (by decide)).trans ?_
      rfl
    · refine (sx_iload_n dx_204_21 rfl).trans ?_
      refine (sx_aload_n dx_204_22 rfl).trans ?_
      refine (sx_iload_n dx_204_23 rfl).trans ?_
      refine (sx_iload dx_204_24 rfl).trans ?_
      refine (sx_v2i dx_204_26 ow_204 cx_7_105 oc_45 (Nat.le_of_ble_eq_true rfl)).trans ?_
      refine mj_bnd (fun q2 => ?_)
      refine (sx_aload_n dx_204_29 rfl).trans ?_
      refine (sx_iload_n dx_204_30 rfl).trans ?_
      refine (sx_iload dx_204_31 rfl).trans ?_
      refine (sx_v2i dx_204_33 ow_204 cx_7_105 oc_45 (Nat.le_of_ble_eq_true rfl)).trans ?_
      refine mj_bnd (fun q3 => ?_)
      refine (sx_ixor dx_204_36).trans ?_
      refine (sx_s1i dx_204_37 ow_204 cx_7_108 (Nat.le_of_ble_eq_true rfl)).trans ?_
      refine mj_bnd (fun q4 => ?_)
      refine (sx_iadd dx_204_40).trans ?_
      refine (sx_istore_n dx_204_41 (Nat.le_of_ble_eq_true rfl) rfl).trans ?_
      refine (sx_iinc (v := 1) dx_204_42 rfl rfl rfl).trans ?_
      refine (sx_goto (tgt := 5) dx_204_45 (by decide)).trans ?_
      rfl
  · refine (sx_iload_n dx_204_48 rfl).trans ?_
    exact sx_reti dx_204_49 rt_204
theorem dx_205_0 : mj_at 205 0 = some (.aload_n 0) := by decide +kernel
theorem dx_205_1 : mj_at 205 1 = some (.iload_n 1) := by decide +kernel
theorem dx_205_2 : mj_at 205 2 = some (.invokevirtual 98) := by decide +kernel
theorem dx_205_5 : mj_at 205 5 = some (.ifCond .eq 25) := by decide +kernel
theorem dx_205_8 : mj_at 205 8 = some (.aload_n 0) := by decide +kernel
theorem dx_205_9 : mj_at 205 9 = some (.iload_n 2) := by decide +kernel
theorem dx_205_10 : mj_at 205 10 = some (.invokevirtual 98) := by decide +kernel
theorem dx_205_13 : mj_at 205 13 = some (.ifCond .eq 17) := by decide +kernel
theorem dx_205_16 : mj_at 205 16 = some (.iload_n 1) := by decide +kernel
theorem dx_205_17 : mj_at 205 17 = some (.iload_n 2) := by decide +kernel
theorem dx_205_18 : mj_at 205 18 = some (.if_icmp .eq 12) := by decide +kernel
theorem dx_205_21 : mj_at 205 21 = some (.aload_n 0) := by decide +kernel
theorem dx_205_22 : mj_at 205 22 = some (.iload_n 1) := by decide +kernel
theorem dx_205_23 : mj_at 205 23 = some (.iload_n 2) := by decide +kernel
theorem dx_205_24 : mj_at 205 24 = some (.invokevirtual 345) := by decide +kernel
theorem dx_205_27 : mj_at 205 27 = some (.goto 4) := by decide +kernel
theorem dx_205_30 : mj_at 205 30 = some (.iconst (-1)) := by decide +kernel
theorem dx_205_31 : mj_at 205 31 = some (.ireturn) := by decide +kernel
set_option maxRecDepth 10000 in
theorem b_X9_forge {sl d : Nat} {M : mj_M} {x1 : Int32} {x2 : Int32}  : mj_C sl (d + 1) 205 [.ref 45, .int x1, .int x2] M = (mj_C sl d 132 [.ref 45, .int x1] M).bind (fun q1 => if q1.1 = 0 then (some (((-1) : Int32), q1.2)) else ((mj_C sl d 132 [.ref 45, .int x2] q1.2).bind (fun q2 => if q2.1 = 0 then (some (((-1) : Int32), q2.2)) else (if x1 = x2 then (some (((-1) : Int32), q2.2)) else ((mj_C sl d 204 [.ref 45, .int x1, .int x2] q2.2).bind (fun q3 => some ((q3.1 : Int32), q3.2))))))) := by
  show mj_E sl (d + 1) 205 0 [.ref 45, .int x1, .int x2] [] M = _
  refine (sx_aload_n dx_205_0 rfl).trans ?_
  refine (sx_iload_n dx_205_1 rfl).trans ?_
  refine (sx_v1i dx_205_2 ow_205 cx_7_98 oc_45 (Nat.le_of_ble_eq_true rfl)).trans ?_
  refine mj_bnd (fun q1 => ?_)
  refine (sx_if_eq (tgt := 30) dx_205_5 (by decide)).trans ?_
  refine mj_ite ?_ ?_
  · refine (sx_iconst (v := (-1)) dx_205_30 rfl).trans ?_
    exact sx_reti dx_205_31 rt_205
  · refine (sx_aload_n dx_205_8 rfl).trans ?_
    refine (sx_iload_n dx_205_9 rfl).trans ?_
    refine (sx_v1i dx_205_10 ow_205 cx_7_98 oc_45 (Nat.le_of_ble_eq_true rfl)).trans ?_
    refine mj_bnd (fun q2 => ?_)
    refine (sx_if_eq (tgt := 30) dx_205_13 (by decide)).trans ?_
    refine mj_ite ?_ ?_
    · refine (sx_iconst (v := (-1)) dx_205_30 rfl).trans ?_
      exact sx_reti dx_205_31 rt_205
    · refine (sx_iload_n dx_205_16 rfl).trans ?_
      refine (sx_iload_n dx_205_17 rfl).trans ?_
      refine (sx_icmp_eq (tgt := 30) dx_205_18 (by decide)).trans ?_
      refine mj_ite ?_ ?_
      · refine (sx_iconst (v := (-1)) dx_205_30 rfl).trans ?_
        exact sx_reti dx_205_31 rt_205
      · refine (sx_aload_n dx_205_21 rfl).trans ?_
        refine (sx_iload_n dx_205_22 rfl).trans ?_
        refine (sx_iload_n dx_205_23 rfl).trans ?_
        refine (sx_v2i dx_205_24 ow_205 cx_7_345 oc_45 (Nat.le_of_ble_eq_true rfl)).trans ?_
        refine mj_bnd (fun q3 => ?_)
        refine (sx_goto (tgt := 31) dx_205_27 (by decide)).trans ?_
        exact sx_reti dx_205_31 rt_205
theorem dx_206_0 : mj_at 206 0 = some (.iconst 1) := by decide +kernel
theorem dx_206_1 : mj_at 206 1 = some (.iload_n 1) := by decide +kernel
theorem dx_206_2 : mj_at 206 2 = some (.ishl) := by decide +kernel
theorem dx_206_3 : mj_at 206 3 = some (.istore_n 3) := by decide +kernel
theorem dx_206_4 : mj_at 206 4 = some (.iconst 0) := by decide +kernel
theorem dx_206_5 : mj_at 206 5 = some (.istore 4) := by decide +kernel
theorem dx_206_7 : mj_at 206 7 = some (.iload_n 3) := by decide +kernel
theorem dx_206_8 : mj_at 206 8 = some (.iload 4) := by decide +kernel
theorem dx_206_10 : mj_at 206 10 = some (.if_icmp .eq 79) := by decide +kernel
theorem dx_206_13 : mj_at 206 13 = some (.iload_n 3) := by decide +kernel
theorem dx_206_14 : mj_at 206 14 = some (.istore 4) := by decide +kernel
theorem dx_206_16 : mj_at 206 16 = some (.iconst 0) := by decide +kernel
theorem dx_206_17 : mj_at 206 17 = some (.istore 5) := by decide +kernel
theorem dx_206_19 : mj_at 206 19 = some (.iload 5) := by decide +kernel
theorem dx_206_21 : mj_at 206 21 = some (.bipush 10) := by decide +kernel
theorem dx_206_23 : mj_at 206 23 = some (.if_icmp .ge 63) := by decide +kernel
theorem dx_206_26 : mj_at 206 26 = some (.iconst 0) := by decide +kernel
theorem dx_206_27 : mj_at 206 27 = some (.istore 6) := by decide +kernel
theorem dx_206_29 : mj_at 206 29 = some (.iload 6) := by decide +kernel
theorem dx_206_31 : mj_at 206 31 = some (.bipush 10) := by decide +kernel
theorem dx_206_33 : mj_at 206 33 = some (.if_icmp .ge 47) := by decide +kernel
theorem dx_206_36 : mj_at 206 36 = some (.iload 4) := by decide +kernel
theorem dx_206_38 : mj_at 206 38 = some (.iload 5) := by decide +kernel
theorem dx_206_40 : mj_at 206 40 = some (.invokestatic 254) := by decide +kernel
theorem dx_206_43 : mj_at 206 43 = some (.ifCond .eq 31) := by decide +kernel
theorem dx_206_46 : mj_at 206 46 = some (.aload_n 0) := by decide +kernel
theorem dx_206_47 : mj_at 206 47 = some (.iload 6) := by decide +kernel
theorem dx_206_49 : mj_at 206 49 = some (.invokevirtual 98) := by decide +kernel
theorem dx_206_52 : mj_at 206 52 = some (.ifCond .eq 22) := by decide +kernel
theorem dx_206_55 : mj_at 206 55 = some (.aload_n 0) := by decide +kernel
theorem dx_206_56 : mj_at 206 56 = some (.iload 5) := by decide +kernel
theorem dx_206_58 : mj_at 206 58 = some (.iload 6) := by decide +kernel
theorem dx_206_60 : mj_at 206 60 = some (.invokevirtual 345) := by decide +kernel
theorem dx_206_63 : mj_at 206 63 = some (.iload_n 2) := by decide +kernel
theorem dx_206_64 : mj_at 206 64 = some (.if_icmp .gt 10) := by decide +kernel
theorem dx_206_67 : mj_at 206 67 = some (.iload_n 3) := by decide +kernel
theorem dx_206_68 : mj_at 206 68 = some (.iconst 1) := by decide +kernel
theorem dx_206_69 : mj_at 206 69 = some (.iload 6) := by decide +kernel
theorem dx_206_71 : mj_at 206 71 = some (.ishl) := by decide +kernel
theorem dx_206_72 : mj_at 206 72 = some (.ior) := by decide +kernel
theorem dx_206_73 : mj_at 206 73 = some (.istore_n 3) := by decide +kernel
theorem dx_206_74 : mj_at 206 74 = some (.iinc 6 1) := by decide +kernel
theorem dx_206_77 : mj_at 206 77 = some (.goto (-48)) := by decide +kernel
theorem dx_206_80 : mj_at 206 80 = some (.iinc 5 1) := by decide +kernel
theorem dx_206_83 : mj_at 206 83 = some (.goto (-64)) := by decide +kernel
theorem dx_206_86 : mj_at 206 86 = some (.goto (-79)) := by decide +kernel
theorem dx_206_89 : mj_at 206 89 = some (.iload_n 3) := by decide +kernel
theorem dx_206_90 : mj_at 206 90 = some (.ireturn) := by decide +kernel
set_option maxRecDepth 10000 in
theorem b_X9_groupOf {sl d : Nat} {M : mj_M} {x1 : Int32} {x2 : Int32}  : mj_C sl (d + 1) 206 [.ref 45, .int x1, .int x2] M = mj_E sl (d + 1) 206 7 [.ref 45, .int x1, .int x2, .int ((1 : Int32) <<< (x1 &&& 31)), .int 0, .null, .null] [] M := by
  show mj_E sl (d + 1) 206 0 [.ref 45, .int x1, .int x2, .null, .null, .null, .null] [] M = _
  refine (sx_iconst (v := 1) dx_206_0 rfl).trans ?_
  refine (sx_iload_n dx_206_1 rfl).trans ?_
  refine (sx_ishl dx_206_2).trans ?_
  refine (sx_istore_n dx_206_3 (Nat.le_of_ble_eq_true rfl) rfl).trans ?_
  refine (sx_iconst (v := 0) dx_206_4 rfl).trans ?_
  refine (sx_istore dx_206_5 (Nat.le_of_ble_eq_true rfl) rfl).trans ?_
  rfl
set_option maxRecDepth 10000 in
theorem b_X9_groupOf_7 {sl d : Nat} {M : mj_M} {w1 : Value} {y2 : Int32} {y3 : Int32} {y4 : Int32} {w5 : Value} {w6 : Value}  : mj_E sl (d + 1) 206 7 [.ref 45, w1, .int y2, .int y3, .int y4, w5, w6] [] M = if y3 = y4 then (some ((y3 : Int32), M)) else (mj_E sl (d + 1) 206 19 [.ref 45, w1, .int y2, .int y3, .int y3, .int 0, w6] [] M) := by
  refine (sx_iload_n dx_206_7 rfl).trans ?_
  refine (sx_iload dx_206_8 rfl).trans ?_
  refine (sx_icmp_eq (tgt := 89) dx_206_10 (by decide)).trans ?_
  refine mj_ite ?_ ?_
  · refine (sx_iload_n dx_206_89 rfl).trans ?_
    exact sx_reti dx_206_90 rt_206
  · refine (sx_iload_n dx_206_13 rfl).trans ?_
    refine (sx_istore dx_206_14 (Nat.le_of_ble_eq_true rfl) rfl).trans ?_
    refine (sx_iconst (v := 0) dx_206_16 rfl).trans ?_
    refine (sx_istore dx_206_17 (Nat.le_of_ble_eq_true rfl) rfl).trans ?_
    rfl
set_option maxRecDepth 10000 in
theorem b_X9_groupOf_19 {sl d : Nat} {M : mj_M} {w1 : Value} {y2 : Int32} {y3 : Int32} {y4 : Int32} {y5 : Int32} {w6 : Value}  : mj_E sl (d + 1) 206 19 [.ref 45, w1, .int y2, .int y3, .int y4, .int y5, w6] [] M = if y5 < 10 then (mj_E sl (d + 1) 206 29 [.ref 45, w1, .int y2, .int y3, .int y4, .int y5, .int 0] [] M) else (mj_E sl (d + 1) 206 7 [.ref 45, w1, .int y2, .int y3, .int y4, .int y5, w6] [] M) := by
  refine (sx_iload dx_206_19 rfl).trans ?_
  refine (sx_bipush (v := 10) dx_206_21 rfl).trans ?_
  refine (sx_icmp_ge (tgt := 86) dx_206_23 (by decide)).trans ?_
  refine mj_ite ?_ ?_
  · refine (sx_iconst (v := 0) dx_206_26 rfl).trans ?_
    refine (sx_istore dx_206_27 (Nat.le_of_ble_eq_true rfl) rfl).trans ?_
    rfl
  · refine (sx_goto (tgt := 7) dx_206_86 (by decide)).trans ?_
    rfl
set_option maxRecDepth 10000 in
theorem b_X9_groupOf_29 {sl d : Nat} {M : mj_M} {w1 : Value} {y2 : Int32} {y3 : Int32} {y4 : Int32} {y5 : Int32} {y6 : Int32}  : mj_E sl (d + 1) 206 29 [.ref 45, w1, .int y2, .int y3, .int y4, .int y5, .int y6] [] M = if y6 < 10 then ((mj_C sl d 127 [.int y4, .int y5] M).bind (fun q1 => if q1.1 = 0 then (mj_E sl (d + 1) 206 29 [.ref 45, w1, .int y2, .int y3, .int y4, .int y5, .int (y6 + 1)] [] q1.2) else ((mj_C sl d 132 [.ref 45, .int y6] q1.2).bind (fun q2 => if q2.1 = 0 then (mj_E sl (d + 1) 206 29 [.ref 45, w1, .int y2, .int y3, .int y4, .int y5, .int (y6 + 1)] [] q2.2) else ((mj_C sl d 204 [.ref 45, .int y5, .int y6] q2.2).bind (fun q3 => if q3.1 ≤ y2 then (mj_E sl (d + 1) 206 29 [.ref 45, w1, .int y2, .int (y3 ||| ((1 : Int32) <<< (y6 &&& 31))), .int y4, .int y5, .int (y6 + 1)] [] q3.2) else (mj_E sl (d + 1) 206 29 [.ref 45, w1, .int y2, .int y3, .int y4, .int y5, .int (y6 + 1)] [] q3.2))))))) else (mj_E sl (d + 1) 206 19 [.ref 45, w1, .int y2, .int y3, .int y4, .int (y5 + 1), .int y6] [] M) := by
  refine (sx_iload dx_206_29 rfl).trans ?_
  refine (sx_bipush (v := 10) dx_206_31 rfl).trans ?_
  refine (sx_icmp_ge (tgt := 80) dx_206_33 (by decide)).trans ?_
  refine mj_ite ?_ ?_
  · refine (sx_iload dx_206_36 rfl).trans ?_
    refine (sx_iload dx_206_38 rfl).trans ?_
    refine (sx_s2i dx_206_40 ow_206 cx_7_254 (Nat.le_of_ble_eq_true rfl)).trans ?_
    refine mj_bnd (fun q1 => ?_)
    refine (sx_if_eq (tgt := 74) dx_206_43 (by decide)).trans ?_
    refine mj_ite ?_ ?_
    · refine (sx_iinc (v := 1) dx_206_74 rfl rfl rfl).trans ?_
      refine (sx_goto (tgt := 29) dx_206_77 (by decide)).trans ?_
      rfl
    · refine (sx_aload_n dx_206_46 rfl).trans ?_
      refine (sx_iload dx_206_47 rfl).trans ?_
      refine (sx_v1i dx_206_49 ow_206 cx_7_98 oc_45 (Nat.le_of_ble_eq_true rfl)).trans ?_
      refine mj_bnd (fun q2 => ?_)
      refine (sx_if_eq (tgt := 74) dx_206_52 (by decide)).trans ?_
      refine mj_ite ?_ ?_
      · refine (sx_iinc (v := 1) dx_206_74 rfl rfl rfl).trans ?_
        refine (sx_goto (tgt := 29) dx_206_77 (by decide)).trans ?_
        rfl
      · refine (sx_aload_n dx_206_55 rfl).trans ?_
        refine (sx_iload dx_206_56 rfl).trans ?_
        refine (sx_iload dx_206_58 rfl).trans ?_
        refine (sx_v2i dx_206_60 ow_206 cx_7_345 oc_45 (Nat.le_of_ble_eq_true rfl)).trans ?_
        refine mj_bnd (fun q3 => ?_)
        refine (sx_iload_n dx_206_63 rfl).trans ?_
        refine (sx_icmp_gt (tgt := 74) dx_206_64 (by decide)).trans ?_
        refine mj_ite ?_ ?_
        · refine (sx_iload_n dx_206_67 rfl).trans ?_
          refine (sx_iconst (v := 1) dx_206_68 rfl).trans ?_
          refine (sx_iload dx_206_69 rfl).trans ?_
          refine (sx_ishl dx_206_71).trans ?_
          refine (sx_ior dx_206_72).trans ?_
          refine (sx_istore_n dx_206_73 (Nat.le_of_ble_eq_true rfl) rfl).trans ?_
          refine (sx_iinc (v := 1) dx_206_74 rfl rfl rfl).trans ?_
          refine (sx_goto (tgt := 29) dx_206_77 (by decide)).trans ?_
          rfl
        · refine (sx_iinc (v := 1) dx_206_74 rfl rfl rfl).trans ?_
          refine (sx_goto (tgt := 29) dx_206_77 (by decide)).trans ?_
          rfl
  · refine (sx_iinc (v := 1) dx_206_80 rfl rfl rfl).trans ?_
    refine (sx_goto (tgt := 19) dx_206_83 (by decide)).trans ?_
    rfl
theorem dx_207_0 : mj_at 207 0 = some (.iload_n 1) := by decide +kernel
theorem dx_207_1 : mj_at 207 1 = some (.iconst 0) := by decide +kernel
theorem dx_207_2 : mj_at 207 2 = some (.sipush 200) := by decide +kernel
theorem dx_207_5 : mj_at 207 5 = some (.invokestatic 90) := by decide +kernel
theorem dx_207_8 : mj_at 207 8 = some (.ifCond .eq 17) := by decide +kernel
theorem dx_207_11 : mj_at 207 11 = some (.iload_n 2) := by decide +kernel
theorem dx_207_12 : mj_at 207 12 = some (.bipush 100) := by decide +kernel
theorem dx_207_14 : mj_at 207 14 = some (.if_icmp .eq 13) := by decide +kernel
theorem dx_207_17 : mj_at 207 17 = some (.aload_n 0) := by decide +kernel
theorem dx_207_18 : mj_at 207 18 = some (.iload_n 2) := by decide +kernel
theorem dx_207_19 : mj_at 207 19 = some (.invokevirtual 98) := by decide +kernel
theorem dx_207_22 : mj_at 207 22 = some (.ifCond .ne 5) := by decide +kernel
theorem dx_207_25 : mj_at 207 25 = some (.iconst (-1)) := by decide +kernel
theorem dx_207_26 : mj_at 207 26 = some (.ireturn) := by decide +kernel
theorem dx_207_27 : mj_at 207 27 = some (.iload_n 2) := by decide +kernel
theorem dx_207_28 : mj_at 207 28 = some (.bipush 100) := by decide +kernel
theorem dx_207_30 : mj_at 207 30 = some (.if_icmp .eq 10) := by decide +kernel
theorem dx_207_33 : mj_at 207 33 = some (.aload_n 0) := by decide +kernel
theorem dx_207_34 : mj_at 207 34 = some (.iload_n 2) := by decide +kernel
theorem dx_207_35 : mj_at 207 35 = some (.iload_n 1) := by decide +kernel
theorem dx_207_36 : mj_at 207 36 = some (.invokevirtual 348) := by decide +kernel
theorem dx_207_39 : mj_at 207 39 = some (.ireturn) := by decide +kernel
theorem dx_207_40 : mj_at 207 40 = some (.aload_n 0) := by decide +kernel
theorem dx_207_41 : mj_at 207 41 = some (.invokevirtual 339) := by decide +kernel
theorem dx_207_44 : mj_at 207 44 = some (.istore_n 3) := by decide +kernel
theorem dx_207_45 : mj_at 207 45 = some (.iconst 0) := by decide +kernel
theorem dx_207_46 : mj_at 207 46 = some (.istore 4) := by decide +kernel
theorem dx_207_48 : mj_at 207 48 = some (.iconst 0) := by decide +kernel
theorem dx_207_49 : mj_at 207 49 = some (.istore 5) := by decide +kernel
theorem dx_207_51 : mj_at 207 51 = some (.iload 5) := by decide +kernel
theorem dx_207_53 : mj_at 207 53 = some (.bipush 10) := by decide +kernel
theorem dx_207_55 : mj_at 207 55 = some (.if_icmp .ge 39) := by decide +kernel
theorem dx_207_58 : mj_at 207 58 = some (.iload_n 3) := by decide +kernel
theorem dx_207_59 : mj_at 207 59 = some (.iload 5) := by decide +kernel
theorem dx_207_61 : mj_at 207 61 = some (.invokestatic 254) := by decide +kernel
theorem dx_207_64 : mj_at 207 64 = some (.ifCond .ne 6) := by decide +kernel
theorem dx_207_67 : mj_at 207 67 = some (.goto 21) := by decide +kernel
theorem dx_207_70 : mj_at 207 70 = some (.iload_n 3) := by decide +kernel
theorem dx_207_71 : mj_at 207 71 = some (.aload_n 0) := by decide +kernel
theorem dx_207_72 : mj_at 207 72 = some (.iload 5) := by decide +kernel
theorem dx_207_74 : mj_at 207 74 = some (.iload_n 1) := by decide +kernel
theorem dx_207_75 : mj_at 207 75 = some (.invokevirtual 348) := by decide +kernel
theorem dx_207_78 : mj_at 207 78 = some (.iconst (-1)) := by decide +kernel
theorem dx_207_79 : mj_at 207 79 = some (.ixor) := by decide +kernel
theorem dx_207_80 : mj_at 207 80 = some (.iand) := by decide +kernel
theorem dx_207_81 : mj_at 207 81 = some (.istore_n 3) := by decide +kernel
theorem dx_207_82 : mj_at 207 82 = some (.iload 4) := by decide +kernel
theorem dx_207_84 : mj_at 207 84 = some (.iconst 1) := by decide +kernel
theorem dx_207_85 : mj_at 207 85 = some (.iadd) := by decide +kernel
theorem dx_207_86 : mj_at 207 86 = some (.istore 4) := by decide +kernel
theorem dx_207_88 : mj_at 207 88 = some (.iinc 5 1) := by decide +kernel
theorem dx_207_91 : mj_at 207 91 = some (.goto (-40)) := by decide +kernel
theorem dx_207_94 : mj_at 207 94 = some (.iload 4) := by decide +kernel
theorem dx_207_96 : mj_at 207 96 = some (.ireturn) := by decide +kernel
set_option maxRecDepth 10000 in
theorem b_X9_alike {sl d : Nat} {M : mj_M} {x1 : Int32} {x2 : Int32}  : mj_C sl (d + 1) 207 [.ref 45, .int x1, .int x2] M = (mj_C sl d 124 [.int x1, .int 0, .int 200] M).bind (fun q1 => if q1.1 = 0 then (some (((-1) : Int32), q1.2)) else (if x2 = 100 then (if x2 = 100 then ((mj_C sl d 134 [.ref 45] q1.2).bind (fun q2 => mj_E sl (d + 1) 207 51 [.ref 45, .int x1, .int x2, .int q2.1, .int 0, .int 0] [] q2.2)) else ((mj_C sl d 206 [.ref 45, .int x2, .int x1] q1.2).bind (fun q3 => some ((q3.1 : Int32), q3.2)))) else ((mj_C sl d 132 [.ref 45, .int x2] q1.2).bind (fun q4 => if q4.1 = 0 then (some (((-1) : Int32), q4.2)) else (if x2 = 100 then ((mj_C sl d 134 [.ref 45] q4.2).bind (fun q5 => mj_E sl (d + 1) 207 51 [.ref 45, .int x1, .int x2, .int q5.1, .int 0, .int 0] [] q5.2)) else ((mj_C sl d 206 [.ref 45, .int x2, .int x1] q4.2).bind (fun q6 => some ((q6.1 : Int32), q6.2)))))))) := by
  show mj_E sl (d + 1) 207 0 [.ref 45, .int x1, .int x2, .null, .null, .null] [] M = _
  refine (sx_iload_n dx_207_0 rfl).trans ?_
  refine (sx_iconst (v := 0) dx_207_1 rfl).trans ?_
  refine (sx_sipush (v := 200) dx_207_2 rfl).trans ?_
  refine (sx_s3i dx_207_5 ow_207 cx_7_90 (Nat.le_of_ble_eq_true rfl)).trans ?_
  refine mj_bnd (fun q1 => ?_)
  refine (sx_if_eq (tgt := 25) dx_207_8 (by decide)).trans ?_
  refine mj_ite ?_ ?_
  · refine (sx_iconst (v := (-1)) dx_207_25 rfl).trans ?_
    exact sx_reti dx_207_26 rt_207
  · refine (sx_iload_n dx_207_11 rfl).trans ?_
    refine (sx_bipush (v := 100) dx_207_12 rfl).trans ?_
    refine (sx_icmp_eq (tgt := 27) dx_207_14 (by decide)).trans ?_
    refine mj_ite ?_ ?_
    · refine (sx_iload_n dx_207_27 rfl).trans ?_
      refine (sx_bipush (v := 100) dx_207_28 rfl).trans ?_
      refine (sx_icmp_eq (tgt := 40) dx_207_30 (by decide)).trans ?_
      refine mj_ite ?_ ?_
      · refine (sx_aload_n dx_207_40 rfl).trans ?_
        refine (sx_v0i dx_207_41 ow_207 cx_7_339 oc_45 (Nat.le_of_ble_eq_true rfl)).trans ?_
        refine mj_bnd (fun q2 => ?_)
        refine (sx_istore_n dx_207_44 (Nat.le_of_ble_eq_true rfl) rfl).trans ?_
        refine (sx_iconst (v := 0) dx_207_45 rfl).trans ?_
        refine (sx_istore dx_207_46 (Nat.le_of_ble_eq_true rfl) rfl).trans ?_
        refine (sx_iconst (v := 0) dx_207_48 rfl).trans ?_
        refine (sx_istore dx_207_49 (Nat.le_of_ble_eq_true rfl) rfl).trans ?_
        rfl
      · refine (sx_aload_n dx_207_33 rfl).trans ?_
        refine (sx_iload_n dx_207_34 rfl).trans ?_
        refine (sx_iload_n dx_207_35 rfl).trans ?_
        refine (sx_v2i dx_207_36 ow_207 cx_7_348 oc_45 (Nat.le_of_ble_eq_true rfl)).trans ?_
        refine mj_bnd (fun q3 => ?_)
        exact sx_reti dx_207_39 rt_207
    · refine (sx_aload_n dx_207_17 rfl).trans ?_
      refine (sx_iload_n dx_207_18 rfl).trans ?_
      refine (sx_v1i dx_207_19 ow_207 cx_7_98 oc_45 (Nat.le_of_ble_eq_true rfl)).trans ?_
      refine mj_bnd (fun q4 => ?_)
      refine (sx_if_ne (tgt := 27) dx_207_22 (by decide)).trans ?_
      refine mj_ite ?_ ?_
      · refine (sx_iconst (v := (-1)) dx_207_25 rfl).trans ?_
        exact sx_reti dx_207_26 rt_207
      · refine (sx_iload_n dx_207_27 rfl).trans ?_
        refine (sx_bipush (v := 100) dx_207_28 rfl).trans ?_
        refine (sx_icmp_eq (tgt := 40) dx_207_30 (by decide)).trans ?_
        refine mj_ite ?_ ?_
        · refine (sx_aload_n dx_207_40 rfl).trans ?_
          refine (sx_v0i dx_207_41 ow_207 cx_7_339 oc_45 (Nat.le_of_ble_eq_true rfl)).trans ?_
          refine mj_bnd (fun q5 => ?_)
          refine (sx_istore_n dx_207_44 (Nat.le_of_ble_eq_true rfl) rfl).trans ?_
          refine (sx_iconst (v := 0) dx_207_45 rfl).trans ?_
          refine (sx_istore dx_207_46 (Nat.le_of_ble_eq_true rfl) rfl).trans ?_
          refine (sx_iconst (v := 0) dx_207_48 rfl).trans ?_
          refine (sx_istore dx_207_49 (Nat.le_of_ble_eq_true rfl) rfl).trans ?_
          rfl
        · refine (sx_aload_n dx_207_33 rfl).trans ?_
          refine (sx_iload_n dx_207_34 rfl).trans ?_
          refine (sx_iload_n dx_207_35 rfl).trans ?_
          refine (sx_v2i dx_207_36 ow_207 cx_7_348 oc_45 (Nat.le_of_ble_eq_true rfl)).trans ?_
          refine mj_bnd (fun q6 => ?_)
          exact sx_reti dx_207_39 rt_207
set_option maxRecDepth 10000 in
theorem b_X9_alike_51 {sl d : Nat} {M : mj_M} {y1 : Int32} {w2 : Value} {y3 : Int32} {y4 : Int32} {y5 : Int32}  : mj_E sl (d + 1) 207 51 [.ref 45, .int y1, w2, .int y3, .int y4, .int y5] [] M = if y5 < 10 then ((mj_C sl d 127 [.int y3, .int y5] M).bind (fun q1 => if q1.1 = 0 then (mj_E sl (d + 1) 207 51 [.ref 45, .int y1, w2, .int y3, .int y4, .int (y5 + 1)] [] q1.2) else ((mj_C sl d 206 [.ref 45, .int y5, .int y1] q1.2).bind (fun q2 => mj_E sl (d + 1) 207 51 [.ref 45, .int y1, w2, .int (y3 &&& (q2.1 ^^^ (-1))), .int (y4 + 1), .int (y5 + 1)] [] q2.2)))) else (some ((y4 : Int32), M)) := by
  refine (sx_iload dx_207_51 rfl).trans ?_
  refine (sx_bipush (v := 10) dx_207_53 rfl).trans ?_
  refine (sx_icmp_ge (tgt := 94) dx_207_55 (by decide)).trans ?_
  refine mj_ite ?_ ?_
  · refine (sx_iload_n dx_207_58 rfl).trans ?_
    refine (sx_iload dx_207_59 rfl).trans ?_
    refine (sx_s2i dx_207_61 ow_207 cx_7_254 (Nat.le_of_ble_eq_true rfl)).trans ?_
    refine mj_bnd (fun q1 => ?_)
    refine (sx_if_ne (tgt := 70) dx_207_64 (by decide)).trans ?_
    refine mj_ite ?_ ?_
    · refine (sx_goto (tgt := 88) dx_207_67 (by decide)).trans ?_
      refine (sx_iinc (v := 1) dx_207_88 rfl rfl rfl).trans ?_
      refine (sx_goto (tgt := 51) dx_207_91 (by decide)).trans ?_
      rfl
    · refine (sx_iload_n dx_207_70 rfl).trans ?_
      refine (sx_aload_n dx_207_71 rfl).trans ?_
      refine (sx_iload dx_207_72 rfl).trans ?_
      refine (sx_iload_n dx_207_74 rfl).trans ?_
      refine (sx_v2i dx_207_75 ow_207 cx_7_348 oc_45 (Nat.le_of_ble_eq_true rfl)).trans ?_
      refine mj_bnd (fun q2 => ?_)
      refine (sx_iconst (v := (-1)) dx_207_78 rfl).trans ?_
      refine (sx_ixor dx_207_79).trans ?_
      refine (sx_iand dx_207_80).trans ?_
      refine (sx_istore_n dx_207_81 (Nat.le_of_ble_eq_true rfl) rfl).trans ?_
      refine (sx_iload dx_207_82 rfl).trans ?_
      refine (sx_iconst (v := 1) dx_207_84 rfl).trans ?_
      refine (sx_iadd dx_207_85).trans ?_
      refine (sx_istore dx_207_86 (Nat.le_of_ble_eq_true rfl) rfl).trans ?_
      refine (sx_iinc (v := 1) dx_207_88 rfl rfl rfl).trans ?_
      refine (sx_goto (tgt := 51) dx_207_91 (by decide)).trans ?_
      rfl
  · refine (sx_iload dx_207_94 rfl).trans ?_
    exact sx_reti dx_207_96 rt_207
theorem dx_208_0 : mj_at 208 0 = some (.iload_n 1) := by decide +kernel
theorem dx_208_1 : mj_at 208 1 = some (.iconst 1) := by decide +kernel
theorem dx_208_2 : mj_at 208 2 = some (.bipush 60) := by decide +kernel
theorem dx_208_4 : mj_at 208 4 = some (.invokestatic 90) := by decide +kernel
theorem dx_208_7 : mj_at 208 7 = some (.ifCond .eq 12) := by decide +kernel
theorem dx_208_10 : mj_at 208 10 = some (.iload_n 2) := by decide +kernel
theorem dx_208_11 : mj_at 208 11 = some (.iconst 0) := by decide +kernel
theorem dx_208_12 : mj_at 208 12 = some (.iconst 1) := by decide +kernel
theorem dx_208_13 : mj_at 208 13 = some (.invokestatic 90) := by decide +kernel
theorem dx_208_16 : mj_at 208 16 = some (.ifCond .ne 5) := by decide +kernel
theorem dx_208_19 : mj_at 208 19 = some (.iconst (-1)) := by decide +kernel
theorem dx_208_20 : mj_at 208 20 = some (.ireturn) := by decide +kernel
theorem dx_208_21 : mj_at 208 21 = some (.iconst 0) := by decide +kernel
theorem dx_208_22 : mj_at 208 22 = some (.istore_n 3) := by decide +kernel
theorem dx_208_23 : mj_at 208 23 = some (.iload_n 3) := by decide +kernel
theorem dx_208_24 : mj_at 208 24 = some (.bipush 10) := by decide +kernel
theorem dx_208_26 : mj_at 208 26 = some (.if_icmp .ge 32) := by decide +kernel
theorem dx_208_29 : mj_at 208 29 = some (.aload_n 0) := by decide +kernel
theorem dx_208_30 : mj_at 208 30 = some (.getfield 86) := by decide +kernel
theorem dx_208_33 : mj_at 208 33 = some (.iload_n 3) := by decide +kernel
theorem dx_208_34 : mj_at 208 34 = some (.aload_n 0) := by decide +kernel
theorem dx_208_35 : mj_at 208 35 = some (.iload_n 3) := by decide +kernel
theorem dx_208_36 : mj_at 208 36 = some (.invokevirtual 98) := by decide +kernel
theorem dx_208_39 : mj_at 208 39 = some (.ifCond .eq 11) := by decide +kernel
theorem dx_208_42 : mj_at 208 42 = some (.aload_n 0) := by decide +kernel
theorem dx_208_43 : mj_at 208 43 = some (.iload_n 3) := by decide +kernel
theorem dx_208_44 : mj_at 208 44 = some (.invokevirtual 305) := by decide +kernel
theorem dx_208_47 : mj_at 208 47 = some (.goto 4) := by decide +kernel
theorem dx_208_50 : mj_at 208 50 = some (.iconst 0) := by decide +kernel
theorem dx_208_51 : mj_at 208 51 = some (.iastore) := by decide +kernel
theorem dx_208_52 : mj_at 208 52 = some (.iinc 3 1) := by decide +kernel
theorem dx_208_55 : mj_at 208 55 = some (.goto (-32)) := by decide +kernel
theorem dx_208_58 : mj_at 208 58 = some (.aload_n 0) := by decide +kernel
theorem dx_208_59 : mj_at 208 59 = some (.getfield 7) := by decide +kernel
theorem dx_208_62 : mj_at 208 62 = some (.aload_n 0) := by decide +kernel
theorem dx_208_63 : mj_at 208 63 = some (.getfield 13) := by decide +kernel
theorem dx_208_66 : mj_at 208 66 = some (.invokestatic 275) := by decide +kernel
theorem dx_208_69 : mj_at 208 69 = some (.aload_n 0) := by decide +kernel
theorem dx_208_70 : mj_at 208 70 = some (.iload_n 1) := by decide +kernel
theorem dx_208_71 : mj_at 208 71 = some (.invokevirtual 317) := by decide +kernel
theorem dx_208_74 : mj_at 208 74 = some (.bipush (-2)) := by decide +kernel
theorem dx_208_76 : mj_at 208 76 = some (.istore_n 3) := by decide +kernel
theorem dx_208_77 : mj_at 208 77 = some (.iconst 0) := by decide +kernel
theorem dx_208_78 : mj_at 208 78 = some (.istore 4) := by decide +kernel
theorem dx_208_80 : mj_at 208 80 = some (.iconst 0) := by decide +kernel
theorem dx_208_81 : mj_at 208 81 = some (.istore 5) := by decide +kernel
theorem dx_208_83 : mj_at 208 83 = some (.iload 5) := by decide +kernel
theorem dx_208_85 : mj_at 208 85 = some (.bipush 10) := by decide +kernel
theorem dx_208_87 : mj_at 208 87 = some (.if_icmp .ge 59) := by decide +kernel
theorem dx_208_90 : mj_at 208 90 = some (.aload_n 0) := by decide +kernel
theorem dx_208_91 : mj_at 208 91 = some (.iload 5) := by decide +kernel
theorem dx_208_93 : mj_at 208 93 = some (.invokevirtual 98) := by decide +kernel
theorem dx_208_96 : mj_at 208 96 = some (.ifCond .eq 44) := by decide +kernel
theorem dx_208_99 : mj_at 208 99 = some (.aload_n 0) := by decide +kernel
theorem dx_208_100 : mj_at 208 100 = some (.getfield 86) := by decide +kernel
theorem dx_208_103 : mj_at 208 103 = some (.iload 5) := by decide +kernel
theorem dx_208_105 : mj_at 208 105 = some (.iaload) := by decide +kernel
theorem dx_208_106 : mj_at 208 106 = some (.aload_n 0) := by decide +kernel
theorem dx_208_107 : mj_at 208 107 = some (.iload 5) := by decide +kernel
theorem dx_208_109 : mj_at 208 109 = some (.invokevirtual 305) := by decide +kernel
theorem dx_208_112 : mj_at 208 112 = some (.isub) := by decide +kernel
theorem dx_208_113 : mj_at 208 113 = some (.iload 4) := by decide +kernel
theorem dx_208_115 : mj_at 208 115 = some (.if_icmp .gt 6) := by decide +kernel
theorem dx_208_118 : mj_at 208 118 = some (.goto 22) := by decide +kernel
theorem dx_208_121 : mj_at 208 121 = some (.aload_n 0) := by decide +kernel
theorem dx_208_122 : mj_at 208 122 = some (.getfield 86) := by decide +kernel
theorem dx_208_125 : mj_at 208 125 = some (.iload 5) := by decide +kernel
theorem dx_208_127 : mj_at 208 127 = some (.iaload) := by decide +kernel
theorem dx_208_128 : mj_at 208 128 = some (.aload_n 0) := by decide +kernel
theorem dx_208_129 : mj_at 208 129 = some (.iload 5) := by decide +kernel
theorem dx_208_131 : mj_at 208 131 = some (.invokevirtual 305) := by decide +kernel
theorem dx_208_134 : mj_at 208 134 = some (.isub) := by decide +kernel
theorem dx_208_135 : mj_at 208 135 = some (.istore 4) := by decide +kernel
theorem dx_208_137 : mj_at 208 137 = some (.iload 5) := by decide +kernel
theorem dx_208_139 : mj_at 208 139 = some (.istore_n 3) := by decide +kernel
theorem dx_208_140 : mj_at 208 140 = some (.iinc 5 1) := by decide +kernel
theorem dx_208_143 : mj_at 208 143 = some (.goto (-60)) := by decide +kernel
theorem dx_208_146 : mj_at 208 146 = some (.aload_n 0) := by decide +kernel
theorem dx_208_147 : mj_at 208 147 = some (.getfield 13) := by decide +kernel
theorem dx_208_150 : mj_at 208 150 = some (.aload_n 0) := by decide +kernel
theorem dx_208_151 : mj_at 208 151 = some (.getfield 7) := by decide +kernel
theorem dx_208_154 : mj_at 208 154 = some (.invokestatic 275) := by decide +kernel
theorem dx_208_157 : mj_at 208 157 = some (.iload_n 2) := by decide +kernel
theorem dx_208_158 : mj_at 208 158 = some (.ifCond .ne 7) := by decide +kernel
theorem dx_208_161 : mj_at 208 161 = some (.iload_n 3) := by decide +kernel
theorem dx_208_162 : mj_at 208 162 = some (.goto 5) := by decide +kernel
theorem dx_208_165 : mj_at 208 165 = some (.iload 4) := by decide +kernel
theorem dx_208_167 : mj_at 208 167 = some (.ireturn) := by decide +kernel
set_option maxRecDepth 10000 in
theorem b_X9_rises {sl d : Nat} {M : mj_M} {x1 : Int32} {x2 : Int32}  : mj_C sl (d + 1) 208 [.ref 45, .int x1, .int x2] M = (mj_C sl d 124 [.int x1, .int 1, .int 60] M).bind (fun q1 => if q1.1 = 0 then (some (((-1) : Int32), q1.2)) else ((mj_C sl d 124 [.int x2, .int 0, .int 1] q1.2).bind (fun q2 => if q2.1 = 0 then (some (((-1) : Int32), q2.2)) else (mj_E sl (d + 1) 208 23 [.ref 45, .int x1, .int x2, .int 0, .null, .null] [] q2.2)))) := by
  show mj_E sl (d + 1) 208 0 [.ref 45, .int x1, .int x2, .null, .null, .null] [] M = _
  refine (sx_iload_n dx_208_0 rfl).trans ?_
  refine (sx_iconst (v := 1) dx_208_1 rfl).trans ?_
  refine (sx_bipush (v := 60) dx_208_2 rfl).trans ?_
  refine (sx_s3i dx_208_4 ow_208 cx_7_90 (Nat.le_of_ble_eq_true rfl)).trans ?_
  refine mj_bnd (fun q1 => ?_)
  refine (sx_if_eq (tgt := 19) dx_208_7 (by decide)).trans ?_
  refine mj_ite ?_ ?_
  · refine (sx_iconst (v := (-1)) dx_208_19 rfl).trans ?_
    exact sx_reti dx_208_20 rt_208
  · refine (sx_iload_n dx_208_10 rfl).trans ?_
    refine (sx_iconst (v := 0) dx_208_11 rfl).trans ?_
    refine (sx_iconst (v := 1) dx_208_12 rfl).trans ?_
    refine (sx_s3i dx_208_13 ow_208 cx_7_90 (Nat.le_of_ble_eq_true rfl)).trans ?_
    refine mj_bnd (fun q2 => ?_)
    refine (sx_if_ne (tgt := 21) dx_208_16 (by decide)).trans ?_
    refine mj_ite ?_ ?_
    · refine (sx_iconst (v := (-1)) dx_208_19 rfl).trans ?_
      exact sx_reti dx_208_20 rt_208
    · refine (sx_iconst (v := 0) dx_208_21 rfl).trans ?_
      refine (sx_istore_n dx_208_22 (Nat.le_of_ble_eq_true rfl) rfl).trans ?_
      rfl
set_option maxRecDepth 10000 in
theorem b_X9_rises_23 {sl d : Nat} {M : mj_M} {y1 : Int32} {y2 : Int32} {y3 : Int32} {w4 : Value} {w5 : Value}  : mj_E sl (d + 1) 208 23 [.ref 45, .int y1, .int y2, .int y3, w4, w5] [] M = if y3 < 10 then ((mj_C sl d 132 [.ref 45, .int y3] M).bind (fun q1 => if q1.1 = 0 then (if mj_inB y3 10 = true then (mj_E sl (d + 1) 208 23 [.ref 45, .int y1, .int y2, .int (y3 + 1), w4, w5] [] (mj_st q1.2 71 (y3 : Int32).toNatClampNeg 0)) else none) else ((mj_C sl d 139 [.ref 45, .int y3] q1.2).bind (fun q2 => if mj_inB y3 10 = true then (mj_E sl (d + 1) 208 23 [.ref 45, .int y1, .int y2, .int (y3 + 1), w4, w5] [] (mj_st q2.2 71 (y3 : Int32).toNatClampNeg q2.1)) else none)))) else ((mj_C sl d 129 [.ref 46, .ref 47] M).bind (fun q3 => (mj_C sl d 189 [.ref 45, .int y1] q3.2).bind (fun q4 => mj_E sl (d + 1) 208 83 [.ref 45, .int y1, .int y2, .int (-2), .int 0, .int 0] [] q4.2))) := by
  refine (sx_iload_n dx_208_23 rfl).trans ?_
  refine (sx_bipush (v := 10) dx_208_24 rfl).trans ?_
  refine (sx_icmp_ge (tgt := 58) dx_208_26 (by decide)).trans ?_
  refine mj_ite ?_ ?_
  · refine (sx_aload_n dx_208_29 rfl).trans ?_
    refine (sx_gfr dx_208_30 ow_208 fx_7_86 oc_45 rb_45_44).trans ?_
    refine (sx_iload_n dx_208_33 rfl).trans ?_
    refine (sx_aload_n dx_208_34 rfl).trans ?_
    refine (sx_iload_n dx_208_35 rfl).trans ?_
    refine (sx_v1i dx_208_36 ow_208 cx_7_98 oc_45 (Nat.le_of_ble_eq_true rfl)).trans ?_
    refine mj_bnd (fun q1 => ?_)
    refine (sx_if_eq (tgt := 50) dx_208_39 (by decide)).trans ?_
    refine mj_ite ?_ ?_
    · refine (sx_iconst (v := 0) dx_208_50 rfl).trans ?_
      refine (sx_ist dx_208_51 ia_71).trans ?_
      refine mj_ite ?_ rfl
      refine (sx_iinc (v := 1) dx_208_52 rfl rfl rfl).trans ?_
      refine (sx_goto (tgt := 23) dx_208_55 (by decide)).trans ?_
      rfl
    · refine (sx_aload_n dx_208_42 rfl).trans ?_
      refine (sx_iload_n dx_208_43 rfl).trans ?_
      refine (sx_v1i dx_208_44 ow_208 cx_7_305 oc_45 (Nat.le_of_ble_eq_true rfl)).trans ?_
      refine mj_bnd (fun q2 => ?_)
      refine (sx_goto (tgt := 51) dx_208_47 (by decide)).trans ?_
      refine (sx_ist dx_208_51 ia_71).trans ?_
      refine mj_ite ?_ rfl
      refine (sx_iinc (v := 1) dx_208_52 rfl rfl rfl).trans ?_
      refine (sx_goto (tgt := 23) dx_208_55 (by decide)).trans ?_
      rfl
  · refine (sx_aload_n dx_208_58 rfl).trans ?_
    refine (sx_gfr dx_208_59 ow_208 fx_7_7 oc_45 rb_45_0).trans ?_
    refine (sx_aload_n dx_208_62 rfl).trans ?_
    refine (sx_gfr dx_208_63 ow_208 fx_7_13 oc_45 rb_45_1).trans ?_
    refine (sx_s2v dx_208_66 ow_208 cx_7_275 (Nat.le_of_ble_eq_true rfl)).trans ?_
    refine mj_bnd (fun q3 => ?_)
    refine (sx_aload_n dx_208_69 rfl).trans ?_
    refine (sx_iload_n dx_208_70 rfl).trans ?_
    refine (sx_v1v dx_208_71 ow_208 cx_7_317 oc_45 (Nat.le_of_ble_eq_true rfl)).trans ?_
    refine mj_bnd (fun q4 => ?_)
    refine (sx_bipush (v := (-2)) dx_208_74 rfl).trans ?_
    refine (sx_istore_n dx_208_76 (Nat.le_of_ble_eq_true rfl) rfl).trans ?_
    refine (sx_iconst (v := 0) dx_208_77 rfl).trans ?_
    refine (sx_istore dx_208_78 (Nat.le_of_ble_eq_true rfl) rfl).trans ?_
    refine (sx_iconst (v := 0) dx_208_80 rfl).trans ?_
    refine (sx_istore dx_208_81 (Nat.le_of_ble_eq_true rfl) rfl).trans ?_
    rfl
set_option maxRecDepth 10000 in
theorem b_X9_rises_83 {sl d : Nat} {M : mj_M} {w1 : Value} {y2 : Int32} {y3 : Int32} {y4 : Int32} {y5 : Int32}  : mj_E sl (d + 1) 208 83 [.ref 45, w1, .int y2, .int y3, .int y4, .int y5] [] M = if y5 < 10 then ((mj_C sl d 132 [.ref 45, .int y5] M).bind (fun q1 => if q1.1 = 0 then (mj_E sl (d + 1) 208 83 [.ref 45, w1, .int y2, .int y3, .int y4, .int (y5 + 1)] [] q1.2) else (if mj_inB y5 10 = true then ((mj_C sl d 139 [.ref 45, .int y5] q1.2).bind (fun q2 => if (q1.2 71 (y5 : Int32).toNatClampNeg) - q2.1 ≤ y4 then (mj_E sl (d + 1) 208 83 [.ref 45, w1, .int y2, .int y3, .int y4, .int (y5 + 1)] [] q2.2) else (if mj_inB y5 10 = true then ((mj_C sl d 139 [.ref 45, .int y5] q2.2).bind (fun q3 => mj_E sl (d + 1) 208 83 [.ref 45, w1, .int y2, .int y5, .int ((q2.2 71 (y5 : Int32).toNatClampNeg) - q3.1), .int (y5 + 1)] [] q3.2)) else none))) else none))) else ((mj_C sl d 129 [.ref 47, .ref 46] M).bind (fun q4 => if y2 = 0 then (some ((y3 : Int32), q4.2)) else (some ((y4 : Int32), q4.2)))) := by
  refine (sx_iload dx_208_83 rfl).trans ?_
  refine (sx_bipush (v := 10) dx_208_85 rfl).trans ?_
  refine (sx_icmp_ge (tgt := 146) dx_208_87 (by decide)).trans ?_
  refine mj_ite ?_ ?_
  · refine (sx_aload_n dx_208_90 rfl).trans ?_
    refine (sx_iload dx_208_91 rfl).trans ?_
    refine (sx_v1i dx_208_93 ow_208 cx_7_98 oc_45 (Nat.le_of_ble_eq_true rfl)).trans ?_
    refine mj_bnd (fun q1 => ?_)
    refine (sx_if_eq (tgt := 140) dx_208_96 (by decide)).trans ?_
    refine mj_ite ?_ ?_
    · refine (sx_iinc (v := 1) dx_208_140 rfl rfl rfl).trans ?_
      refine (sx_goto (tgt := 83) dx_208_143 (by decide)).trans ?_
      rfl
    · refine (sx_aload_n dx_208_99 rfl).trans ?_
      refine (sx_gfr dx_208_100 ow_208 fx_7_86 oc_45 rb_45_44).trans ?_
      refine (sx_iload dx_208_103 rfl).trans ?_
      refine (sx_ild dx_208_105 (by decide) ia_71).trans ?_
      refine mj_ite ?_ rfl
      refine (sx_aload_n dx_208_106 rfl).trans ?_
      refine (sx_iload dx_208_107 rfl).trans ?_
      refine (sx_v1i dx_208_109 ow_208 cx_7_305 oc_45 (Nat.le_of_ble_eq_true rfl)).trans ?_
      refine mj_bnd (fun q2 => ?_)
      refine (sx_isub dx_208_112).trans ?_
      refine (sx_iload dx_208_113 rfl).trans ?_
      refine (sx_icmp_gt (tgt := 121) dx_208_115 (by decide)).trans ?_
      refine mj_ite ?_ ?_
      · refine (sx_goto (tgt := 140) dx_208_118 (by decide)).trans ?_
        refine (sx_iinc (v := 1) dx_208_140 rfl rfl rfl).trans ?_
        refine (sx_goto (tgt := 83) dx_208_143 (by decide)).trans ?_
        rfl
      · refine (sx_aload_n dx_208_121 rfl).trans ?_
        refine (sx_gfr dx_208_122 ow_208 fx_7_86 oc_45 rb_45_44).trans ?_
        refine (sx_iload dx_208_125 rfl).trans ?_
        refine (sx_ild dx_208_127 (by decide) ia_71).trans ?_
        refine mj_ite ?_ rfl
        refine (sx_aload_n dx_208_128 rfl).trans ?_
        refine (sx_iload dx_208_129 rfl).trans ?_
        refine (sx_v1i dx_208_131 ow_208 cx_7_305 oc_45 (Nat.le_of_ble_eq_true rfl)).trans ?_
        refine mj_bnd (fun q3 => ?_)
        refine (sx_isub dx_208_134).trans ?_
        refine (sx_istore dx_208_135 (Nat.le_of_ble_eq_true rfl) rfl).trans ?_
        refine (sx_iload dx_208_137 rfl).trans ?_
        refine (sx_istore_n dx_208_139 (Nat.le_of_ble_eq_true rfl) rfl).trans ?_
        refine (sx_iinc (v := 1) dx_208_140 rfl rfl rfl).trans ?_
        refine (sx_goto (tgt := 83) dx_208_143 (by decide)).trans ?_
        rfl
  · refine (sx_aload_n dx_208_146 rfl).trans ?_
    refine (sx_gfr dx_208_147 ow_208 fx_7_13 oc_45 rb_45_1).trans ?_
    refine (sx_aload_n dx_208_150 rfl).trans ?_
    refine (sx_gfr dx_208_151 ow_208 fx_7_7 oc_45 rb_45_0).trans ?_
    refine (sx_s2v dx_208_154 ow_208 cx_7_275 (Nat.le_of_ble_eq_true rfl)).trans ?_
    refine mj_bnd (fun q4 => ?_)
    refine (sx_iload_n dx_208_157 rfl).trans ?_
    refine (sx_if_ne (tgt := 165) dx_208_158 (by decide)).trans ?_
    refine mj_ite ?_ ?_
    · refine (sx_iload_n dx_208_161 rfl).trans ?_
      refine (sx_goto (tgt := 167) dx_208_162 (by decide)).trans ?_
      exact sx_reti dx_208_167 rt_208
    · refine (sx_iload dx_208_165 rfl).trans ?_
      exact sx_reti dx_208_167 rt_208
theorem dx_209_0 : mj_at 209 0 = some (.aload_n 0) := by decide +kernel
theorem dx_209_1 : mj_at 209 1 = some (.invokevirtual 320) := by decide +kernel
theorem dx_209_4 : mj_at 209 4 = some (.ireturn) := by decide +kernel
set_option maxRecDepth 10000 in
theorem b_X9_commands {sl d : Nat} {M : mj_M}   : mj_C sl (d + 1) 209 [.ref 45] M = (mj_C sl d 191 [.ref 45] M).bind (fun q1 => some ((q1.1 : Int32), q1.2)) := by
  show mj_E sl (d + 1) 209 0 [.ref 45] [] M = _
  refine (sx_aload_n dx_209_0 rfl).trans ?_
  refine (sx_v0i dx_209_1 ow_209 cx_7_320 oc_45 (Nat.le_of_ble_eq_true rfl)).trans ?_
  refine mj_bnd (fun q1 => ?_)
  exact sx_reti dx_209_4 rt_209
theorem dx_210_0 : mj_at 210 0 = some (.aload_n 0) := by decide +kernel
theorem dx_210_1 : mj_at 210 1 = some (.iload_n 1) := by decide +kernel
theorem dx_210_2 : mj_at 210 2 = some (.invokevirtual 98) := by decide +kernel
theorem dx_210_5 : mj_at 210 5 = some (.ifCond .eq 12) := by decide +kernel
theorem dx_210_8 : mj_at 210 8 = some (.iload_n 2) := by decide +kernel
theorem dx_210_9 : mj_at 210 9 = some (.iconst 0) := by decide +kernel
theorem dx_210_10 : mj_at 210 10 = some (.iconst 2) := by decide +kernel
theorem dx_210_11 : mj_at 210 11 = some (.invokestatic 90) := by decide +kernel
theorem dx_210_14 : mj_at 210 14 = some (.ifCond .ne 5) := by decide +kernel
theorem dx_210_17 : mj_at 210 17 = some (.iconst (-1)) := by decide +kernel
theorem dx_210_18 : mj_at 210 18 = some (.ireturn) := by decide +kernel
theorem dx_210_19 : mj_at 210 19 = some (.bipush (-2)) := by decide +kernel
theorem dx_210_21 : mj_at 210 21 = some (.istore_n 3) := by decide +kernel
theorem dx_210_22 : mj_at 210 22 = some (.bipush (-2)) := by decide +kernel
theorem dx_210_24 : mj_at 210 24 = some (.istore 4) := by decide +kernel
theorem dx_210_26 : mj_at 210 26 = some (.ldc 119) := by decide +kernel
theorem dx_210_28 : mj_at 210 28 = some (.istore 5) := by decide +kernel
theorem dx_210_30 : mj_at 210 30 = some (.iconst 0) := by decide +kernel
theorem dx_210_31 : mj_at 210 31 = some (.istore 6) := by decide +kernel
theorem dx_210_33 : mj_at 210 33 = some (.iload 6) := by decide +kernel
theorem dx_210_35 : mj_at 210 35 = some (.bipush 8) := by decide +kernel
theorem dx_210_37 : mj_at 210 37 = some (.if_icmp .ge 90) := by decide +kernel
theorem dx_210_40 : mj_at 210 40 = some (.iload 6) := by decide +kernel
theorem dx_210_42 : mj_at 210 42 = some (.iconst 1) := by decide +kernel
theorem dx_210_43 : mj_at 210 43 = some (.iadd) := by decide +kernel
theorem dx_210_44 : mj_at 210 44 = some (.istore 7) := by decide +kernel
theorem dx_210_46 : mj_at 210 46 = some (.iload 7) := by decide +kernel
theorem dx_210_48 : mj_at 210 48 = some (.bipush 8) := by decide +kernel
theorem dx_210_50 : mj_at 210 50 = some (.if_icmp .ge 71) := by decide +kernel
theorem dx_210_53 : mj_at 210 53 = some (.aload_n 0) := by decide +kernel
theorem dx_210_54 : mj_at 210 54 = some (.iload 6) := by decide +kernel
theorem dx_210_56 : mj_at 210 56 = some (.invokevirtual 94) := by decide +kernel
theorem dx_210_59 : mj_at 210 59 = some (.ifCond .eq 56) := by decide +kernel
theorem dx_210_62 : mj_at 210 62 = some (.aload_n 0) := by decide +kernel
theorem dx_210_63 : mj_at 210 63 = some (.iload 7) := by decide +kernel
theorem dx_210_65 : mj_at 210 65 = some (.invokevirtual 94) := by decide +kernel
theorem dx_210_68 : mj_at 210 68 = some (.ifCond .ne 6) := by decide +kernel
theorem dx_210_71 : mj_at 210 71 = some (.goto 44) := by decide +kernel
theorem dx_210_74 : mj_at 210 74 = some (.aload_n 0) := by decide +kernel
theorem dx_210_75 : mj_at 210 75 = some (.iload_n 1) := by decide +kernel
theorem dx_210_76 : mj_at 210 76 = some (.iload 6) := by decide +kernel
theorem dx_210_78 : mj_at 210 78 = some (.invokevirtual 105) := by decide +kernel
theorem dx_210_81 : mj_at 210 81 = some (.aload_n 0) := by decide +kernel
theorem dx_210_82 : mj_at 210 82 = some (.iload_n 1) := by decide +kernel
theorem dx_210_83 : mj_at 210 83 = some (.iload 7) := by decide +kernel
theorem dx_210_85 : mj_at 210 85 = some (.invokevirtual 105) := by decide +kernel
theorem dx_210_88 : mj_at 210 88 = some (.ixor) := by decide +kernel
theorem dx_210_89 : mj_at 210 89 = some (.invokestatic 108) := by decide +kernel
theorem dx_210_92 : mj_at 210 92 = some (.istore 8) := by decide +kernel
theorem dx_210_94 : mj_at 210 94 = some (.iload 8) := by decide +kernel
theorem dx_210_96 : mj_at 210 96 = some (.iload 5) := by decide +kernel
theorem dx_210_98 : mj_at 210 98 = some (.if_icmp .lt 6) := by decide +kernel
theorem dx_210_101 : mj_at 210 101 = some (.goto 14) := by decide +kernel
theorem dx_210_104 : mj_at 210 104 = some (.iload 8) := by decide +kernel
theorem dx_210_106 : mj_at 210 106 = some (.istore 5) := by decide +kernel
theorem dx_210_108 : mj_at 210 108 = some (.iload 6) := by decide +kernel
theorem dx_210_110 : mj_at 210 110 = some (.istore_n 3) := by decide +kernel
theorem dx_210_111 : mj_at 210 111 = some (.iload 7) := by decide +kernel
theorem dx_210_113 : mj_at 210 113 = some (.istore 4) := by decide +kernel
theorem dx_210_115 : mj_at 210 115 = some (.iinc 7 1) := by decide +kernel
theorem dx_210_118 : mj_at 210 118 = some (.goto (-72)) := by decide +kernel
theorem dx_210_121 : mj_at 210 121 = some (.iinc 6 1) := by decide +kernel
theorem dx_210_124 : mj_at 210 124 = some (.goto (-91)) := by decide +kernel
theorem dx_210_127 : mj_at 210 127 = some (.iload 5) := by decide +kernel
theorem dx_210_129 : mj_at 210 129 = some (.ldc 119) := by decide +kernel
theorem dx_210_131 : mj_at 210 131 = some (.if_icmp .ne 6) := by decide +kernel
theorem dx_210_134 : mj_at 210 134 = some (.bipush (-2)) := by decide +kernel
theorem dx_210_136 : mj_at 210 136 = some (.ireturn) := by decide +kernel
theorem dx_210_137 : mj_at 210 137 = some (.iload_n 2) := by decide +kernel
theorem dx_210_138 : mj_at 210 138 = some (.ifCond .ne 7) := by decide +kernel
theorem dx_210_141 : mj_at 210 141 = some (.iload_n 3) := by decide +kernel
theorem dx_210_142 : mj_at 210 142 = some (.goto 15) := by decide +kernel
theorem dx_210_145 : mj_at 210 145 = some (.iload_n 2) := by decide +kernel
theorem dx_210_146 : mj_at 210 146 = some (.iconst 1) := by decide +kernel
theorem dx_210_147 : mj_at 210 147 = some (.if_icmp .ne 8) := by decide +kernel
theorem dx_210_150 : mj_at 210 150 = some (.iload 4) := by decide +kernel
theorem dx_210_152 : mj_at 210 152 = some (.goto 5) := by decide +kernel
theorem dx_210_155 : mj_at 210 155 = some (.iload 5) := by decide +kernel
theorem dx_210_157 : mj_at 210 157 = some (.ireturn) := by decide +kernel
set_option maxRecDepth 10000 in
theorem b_X9_clear {sl d : Nat} {M : mj_M} {x1 : Int32} {x2 : Int32}  : mj_C sl (d + 1) 210 [.ref 45, .int x1, .int x2] M = (mj_C sl d 132 [.ref 45, .int x1] M).bind (fun q1 => if q1.1 = 0 then (some (((-1) : Int32), q1.2)) else ((mj_C sl d 124 [.int x2, .int 0, .int 2] q1.2).bind (fun q2 => if q2.1 = 0 then (some (((-1) : Int32), q2.2)) else (mj_E sl (d + 1) 210 33 [.ref 45, .int x1, .int x2, .int (-2), .int (-2), .int 1000000, .int 0, .null, .null] [] q2.2)))) := by
  show mj_E sl (d + 1) 210 0 [.ref 45, .int x1, .int x2, .null, .null, .null, .null, .null, .null] [] M = _
  refine (sx_aload_n dx_210_0 rfl).trans ?_
  refine (sx_iload_n dx_210_1 rfl).trans ?_
  refine (sx_v1i dx_210_2 ow_210 cx_7_98 oc_45 (Nat.le_of_ble_eq_true rfl)).trans ?_
  refine mj_bnd (fun q1 => ?_)
  refine (sx_if_eq (tgt := 17) dx_210_5 (by decide)).trans ?_
  refine mj_ite ?_ ?_
  · refine (sx_iconst (v := (-1)) dx_210_17 rfl).trans ?_
    exact sx_reti dx_210_18 rt_210
  · refine (sx_iload_n dx_210_8 rfl).trans ?_
    refine (sx_iconst (v := 0) dx_210_9 rfl).trans ?_
    refine (sx_iconst (v := 2) dx_210_10 rfl).trans ?_
    refine (sx_s3i dx_210_11 ow_210 cx_7_90 (Nat.le_of_ble_eq_true rfl)).trans ?_
    refine mj_bnd (fun q2 => ?_)
    refine (sx_if_ne (tgt := 19) dx_210_14 (by decide)).trans ?_
    refine mj_ite ?_ ?_
    · refine (sx_iconst (v := (-1)) dx_210_17 rfl).trans ?_
      exact sx_reti dx_210_18 rt_210
    · refine (sx_bipush (v := (-2)) dx_210_19 rfl).trans ?_
      refine (sx_istore_n dx_210_21 (Nat.le_of_ble_eq_true rfl) rfl).trans ?_
      refine (sx_bipush (v := (-2)) dx_210_22 rfl).trans ?_
      refine (sx_istore dx_210_24 (Nat.le_of_ble_eq_true rfl) rfl).trans ?_
      refine (sx_ldc (v := 1000000) dx_210_26 ow_210 kx_7_119).trans ?_
      refine (sx_istore dx_210_28 (Nat.le_of_ble_eq_true rfl) rfl).trans ?_
      refine (sx_iconst (v := 0) dx_210_30 rfl).trans ?_
      refine (sx_istore dx_210_31 (Nat.le_of_ble_eq_true rfl) rfl).trans ?_
      rfl
set_option maxRecDepth 10000 in
theorem b_X9_clear_33 {sl d : Nat} {M : mj_M} {y1 : Int32} {y2 : Int32} {y3 : Int32} {y4 : Int32} {y5 : Int32} {y6 : Int32} {w7 : Value} {w8 : Value}  : mj_E sl (d + 1) 210 33 [.ref 45, .int y1, .int y2, .int y3, .int y4, .int y5, .int y6, w7, w8] [] M = if y6 < 8 then (mj_E sl (d + 1) 210 46 [.ref 45, .int y1, .int y2, .int y3, .int y4, .int y5, .int y6, .int (y6 + 1), w8] [] M) else (if y5 = 1000000 then (some (((-2) : Int32), M)) else (if y2 = 0 then (some ((y3 : Int32), M)) else (if y2 = 1 then (some ((y4 : Int32), M)) else (some ((y5 : Int32), M))))) := by
  refine (sx_iload dx_210_33 rfl).trans ?_
  refine (sx_bipush (v := 8) dx_210_35 rfl).trans ?_
  refine (sx_icmp_ge (tgt := 127) dx_210_37 (by decide)).trans ?_
  refine mj_ite ?_ ?_
  · refine (sx_iload dx_210_40 rfl).trans ?_
    refine (sx_iconst (v := 1) dx_210_42 rfl).trans ?_
    refine (sx_iadd dx_210_43).trans ?_
    refine (sx_istore dx_210_44 (Nat.le_of_ble_eq_true rfl) rfl).trans ?_
    rfl
  · refine (sx_iload dx_210_127 rfl).trans ?_
    refine (sx_ldc (v := 1000000) dx_210_129 ow_210 kx_7_119).trans ?_
    refine (sx_icmp_ne (tgt := 137) dx_210_131 (by decide)).trans ?_
    refine mj_ite ?_ ?_
    · refine (sx_bipush (v := (-2)) dx_210_134 rfl).trans ?_
      exact sx_reti dx_210_136 rt_210
    · refine (sx_iload_n dx_210_137 rfl).trans ?_
      refine (sx_if_ne (tgt := 145) dx_210_138 (by decide)).trans ?_
      refine mj_ite ?_ ?_
      · refine (sx_iload_n dx_210_141 rfl).trans ?_
        refine (sx_goto (tgt := 157) dx_210_142 (by decide)).trans ?_
        exact sx_reti dx_210_157 rt_210
      · refine (sx_iload_n dx_210_145 rfl).trans ?_
        refine (sx_iconst (v := 1) dx_210_146 rfl).trans ?_
        refine (sx_icmp_ne (tgt := 155) dx_210_147 (by decide)).trans ?_
        refine mj_ite ?_ ?_
        · refine (sx_iload dx_210_150 rfl).trans ?_
          refine (sx_goto (tgt := 157) dx_210_152 (by decide)).trans ?_
          exact sx_reti dx_210_157 rt_210
        · refine (sx_iload dx_210_155 rfl).trans ?_
          exact sx_reti dx_210_157 rt_210
set_option maxRecDepth 10000 in
theorem b_X9_clear_46 {sl d : Nat} {M : mj_M} {y1 : Int32} {y2 : Int32} {y3 : Int32} {y4 : Int32} {y5 : Int32} {y6 : Int32} {y7 : Int32} {w8 : Value}  : mj_E sl (d + 1) 210 46 [.ref 45, .int y1, .int y2, .int y3, .int y4, .int y5, .int y6, .int y7, w8] [] M = if y7 < 8 then ((mj_C sl d 131 [.ref 45, .int y6] M).bind (fun q1 => if q1.1 = 0 then (mj_E sl (d + 1) 210 46 [.ref 45, .int y1, .int y2, .int y3, .int y4, .int y5, .int y6, .int (y7 + 1), w8] [] q1.2) else ((mj_C sl d 131 [.ref 45, .int y7] q1.2).bind (fun q2 => if q2.1 = 0 then (mj_E sl (d + 1) 210 46 [.ref 45, .int y1, .int y2, .int y3, .int y4, .int y5, .int y6, .int (y7 + 1), w8] [] q2.2) else ((mj_C sl d 136 [.ref 45, .int y1, .int y6] q2.2).bind (fun q3 => (mj_C sl d 136 [.ref 45, .int y1, .int y7] q3.2).bind (fun q4 => (mj_C sl d 128 [.int (q3.1 ^^^ q4.1)] q4.2).bind (fun q5 => if q5.1 < y5 then (mj_E sl (d + 1) 210 46 [.ref 45, .int y1, .int y2, .int y6, .int y7, .int q5.1, .int y6, .int (y7 + 1), .int q5.1] [] q5.2) else (mj_E sl (d + 1) 210 46 [.ref 45, .int y1, .int y2, .int y3, .int y4, .int y5, .int y6, .int (y7 + 1), .int q5.1] [] q5.2))))))))) else (mj_E sl (d + 1) 210 33 [.ref 45, .int y1, .int y2, .int y3, .int y4, .int y5, .int (y6 + 1), .int y7, w8] [] M) := by
  refine (sx_iload dx_210_46 rfl).trans ?_
  refine (sx_bipush (v := 8) dx_210_48 rfl).trans ?_
  refine (sx_icmp_ge (tgt := 121) dx_210_50 (by decide)).trans ?_
  refine mj_ite ?_ ?_
  · refine (sx_aload_n dx_210_53 rfl).trans ?_
    refine (sx_iload dx_210_54 rfl).trans ?_
    refine (sx_v1i dx_210_56 ow_210 cx_7_94 oc_45 (Nat.le_of_ble_eq_true rfl)).trans ?_
    refine mj_bnd (fun q1 => ?_)
    refine (sx_if_eq (tgt := 115) dx_210_59 (by decide)).trans ?_
    refine mj_ite ?_ ?_
    · refine (sx_iinc (v := 1) dx_210_115 rfl rfl rfl).trans ?_
      refine (sx_goto (tgt := 46) dx_210_118 (by decide)).trans ?_
      rfl
    · refine (sx_aload_n dx_210_62 rfl).trans ?_
      refine (sx_iload dx_210_63 rfl).trans ?_
      refine (sx_v1i dx_210_65 ow_210 cx_7_94 oc_45 (Nat.le_of_ble_eq_true rfl)).trans ?_
      refine mj_bnd (fun q2 => ?_)
      refine (sx_if_ne (tgt := 74) dx_210_68 (by decide)).trans ?_
      refine mj_ite ?_ ?_
      · refine (sx_goto (tgt := 115) dx_210_71 (by decide)).trans ?_
        refine (sx_iinc (v := 1) dx_210_115 rfl rfl rfl).trans ?_
        refine (sx_goto (tgt := 46) dx_210_118 (by decide)).trans ?_
        rfl
      · refine (sx_aload_n dx_210_74 rfl).trans ?_
        refine (sx_iload_n dx_210_75 rfl).trans ?_
        refine (sx_iload dx_210_76 rfl).trans ?_
        refine (sx_v2i dx_210_78 ow_210 cx_7_105 oc_45 (Nat.le_of_ble_eq_true rfl)).trans ?_
        refine mj_bnd (fun q3 => ?_)
        refine (sx_aload_n dx_210_81 rfl).trans ?_
        refine (sx_iload_n dx_210_82 rfl).trans ?_
        refine (sx_iload dx_210_83 rfl).trans ?_
        refine (sx_v2i dx_210_85 ow_210 cx_7_105 oc_45 (Nat.le_of_ble_eq_true rfl)).trans ?_
        refine mj_bnd (fun q4 => ?_)
        refine (sx_ixor dx_210_88).trans ?_
        refine (sx_s1i dx_210_89 ow_210 cx_7_108 (Nat.le_of_ble_eq_true rfl)).trans ?_
        refine mj_bnd (fun q5 => ?_)
        refine (sx_istore dx_210_92 (Nat.le_of_ble_eq_true rfl) rfl).trans ?_
        refine (sx_iload dx_210_94 rfl).trans ?_
        refine (sx_iload dx_210_96 rfl).trans ?_
        refine (sx_icmp_lt (tgt := 104) dx_210_98 (by decide)).trans ?_
        refine mj_ite ?_ ?_
        · refine (sx_iload dx_210_104 rfl).trans ?_
          refine (sx_istore dx_210_106 (Nat.le_of_ble_eq_true rfl) rfl).trans ?_
          refine (sx_iload dx_210_108 rfl).trans ?_
          refine (sx_istore_n dx_210_110 (Nat.le_of_ble_eq_true rfl) rfl).trans ?_
          refine (sx_iload dx_210_111 rfl).trans ?_
          refine (sx_istore dx_210_113 (Nat.le_of_ble_eq_true rfl) rfl).trans ?_
          refine (sx_iinc (v := 1) dx_210_115 rfl rfl rfl).trans ?_
          refine (sx_goto (tgt := 46) dx_210_118 (by decide)).trans ?_
          rfl
        · refine (sx_goto (tgt := 115) dx_210_101 (by decide)).trans ?_
          refine (sx_iinc (v := 1) dx_210_115 rfl rfl rfl).trans ?_
          refine (sx_goto (tgt := 46) dx_210_118 (by decide)).trans ?_
          rfl
  · refine (sx_iinc (v := 1) dx_210_121 rfl rfl rfl).trans ?_
    refine (sx_goto (tgt := 33) dx_210_124 (by decide)).trans ?_
    rfl
theorem dx_211_0 : mj_at 211 0 = some (.iconst 1) := by decide +kernel
theorem dx_211_1 : mj_at 211 1 = some (.iload_n 1) := by decide +kernel
theorem dx_211_2 : mj_at 211 2 = some (.ishl) := by decide +kernel
theorem dx_211_3 : mj_at 211 3 = some (.istore_n 3) := by decide +kernel
theorem dx_211_4 : mj_at 211 4 = some (.iconst 0) := by decide +kernel
theorem dx_211_5 : mj_at 211 5 = some (.istore 4) := by decide +kernel
theorem dx_211_7 : mj_at 211 7 = some (.iload_n 3) := by decide +kernel
theorem dx_211_8 : mj_at 211 8 = some (.iload 4) := by decide +kernel
theorem dx_211_10 : mj_at 211 10 = some (.if_icmp .eq 52) := by decide +kernel
theorem dx_211_13 : mj_at 211 13 = some (.iload_n 3) := by decide +kernel
theorem dx_211_14 : mj_at 211 14 = some (.istore 4) := by decide +kernel
theorem dx_211_16 : mj_at 211 16 = some (.iconst 0) := by decide +kernel
theorem dx_211_17 : mj_at 211 17 = some (.istore 5) := by decide +kernel
theorem dx_211_19 : mj_at 211 19 = some (.iload 5) := by decide +kernel
theorem dx_211_21 : mj_at 211 21 = some (.bipush 25) := by decide +kernel
theorem dx_211_23 : mj_at 211 23 = some (.if_icmp .ge 36) := by decide +kernel
theorem dx_211_26 : mj_at 211 26 = some (.iload_n 0) := by decide +kernel
theorem dx_211_27 : mj_at 211 27 = some (.iload 5) := by decide +kernel
theorem dx_211_29 : mj_at 211 29 = some (.invokestatic 254) := by decide +kernel
theorem dx_211_32 : mj_at 211 32 = some (.ifCond .eq 21) := by decide +kernel
theorem dx_211_35 : mj_at 211 35 = some (.iload 4) := by decide +kernel
theorem dx_211_37 : mj_at 211 37 = some (.iload 5) := by decide +kernel
theorem dx_211_39 : mj_at 211 39 = some (.iload_n 2) := by decide +kernel
theorem dx_211_40 : mj_at 211 40 = some (.invokestatic 351) := by decide +kernel
theorem dx_211_43 : mj_at 211 43 = some (.ifCond .eq 10) := by decide +kernel
theorem dx_211_46 : mj_at 211 46 = some (.iload_n 3) := by decide +kernel
theorem dx_211_47 : mj_at 211 47 = some (.iconst 1) := by decide +kernel
theorem dx_211_48 : mj_at 211 48 = some (.iload 5) := by decide +kernel
theorem dx_211_50 : mj_at 211 50 = some (.ishl) := by decide +kernel
theorem dx_211_51 : mj_at 211 51 = some (.ior) := by decide +kernel
theorem dx_211_52 : mj_at 211 52 = some (.istore_n 3) := by decide +kernel
theorem dx_211_53 : mj_at 211 53 = some (.iinc 5 1) := by decide +kernel
theorem dx_211_56 : mj_at 211 56 = some (.goto (-37)) := by decide +kernel
theorem dx_211_59 : mj_at 211 59 = some (.goto (-52)) := by decide +kernel
theorem dx_211_62 : mj_at 211 62 = some (.iload_n 3) := by decide +kernel
theorem dx_211_63 : mj_at 211 63 = some (.ireturn) := by decide +kernel
set_option maxRecDepth 10000 in
theorem b_X9_partOf {sl d : Nat} {M : mj_M} {x1 : Int32} {x2 : Int32} {x3 : Int32}  : mj_C sl (d + 1) 211 [.int x1, .int x2, .int x3] M = mj_E sl (d + 1) 211 7 [.int x1, .int x2, .int x3, .int ((1 : Int32) <<< (x2 &&& 31)), .int 0, .null] [] M := by
  show mj_E sl (d + 1) 211 0 [.int x1, .int x2, .int x3, .null, .null, .null] [] M = _
  refine (sx_iconst (v := 1) dx_211_0 rfl).trans ?_
  refine (sx_iload_n dx_211_1 rfl).trans ?_
  refine (sx_ishl dx_211_2).trans ?_
  refine (sx_istore_n dx_211_3 (Nat.le_of_ble_eq_true rfl) rfl).trans ?_
  refine (sx_iconst (v := 0) dx_211_4 rfl).trans ?_
  refine (sx_istore dx_211_5 (Nat.le_of_ble_eq_true rfl) rfl).trans ?_
  rfl
set_option maxRecDepth 10000 in
theorem b_X9_partOf_7 {sl d : Nat} {M : mj_M} {y0 : Int32} {w1 : Value} {y2 : Int32} {y3 : Int32} {y4 : Int32} {w5 : Value}  : mj_E sl (d + 1) 211 7 [.int y0, w1, .int y2, .int y3, .int y4, w5] [] M = if y3 = y4 then (some ((y3 : Int32), M)) else (mj_E sl (d + 1) 211 19 [.int y0, w1, .int y2, .int y3, .int y3, .int 0] [] M) := by
  refine (sx_iload_n dx_211_7 rfl).trans ?_
  refine (sx_iload dx_211_8 rfl).trans ?_
  refine (sx_icmp_eq (tgt := 62) dx_211_10 (by decide)).trans ?_
  refine mj_ite ?_ ?_
  · refine (sx_iload_n dx_211_62 rfl).trans ?_
    exact sx_reti dx_211_63 rt_211
  · refine (sx_iload_n dx_211_13 rfl).trans ?_
    refine (sx_istore dx_211_14 (Nat.le_of_ble_eq_true rfl) rfl).trans ?_
    refine (sx_iconst (v := 0) dx_211_16 rfl).trans ?_
    refine (sx_istore dx_211_17 (Nat.le_of_ble_eq_true rfl) rfl).trans ?_
    rfl
set_option maxRecDepth 10000 in
theorem b_X9_partOf_19 {sl d : Nat} {M : mj_M} {y0 : Int32} {w1 : Value} {y2 : Int32} {y3 : Int32} {y4 : Int32} {y5 : Int32}  : mj_E sl (d + 1) 211 19 [.int y0, w1, .int y2, .int y3, .int y4, .int y5] [] M = if y5 < 25 then ((mj_C sl d 127 [.int y0, .int y5] M).bind (fun q1 => if q1.1 = 0 then (mj_E sl (d + 1) 211 19 [.int y0, w1, .int y2, .int y3, .int y4, .int (y5 + 1)] [] q1.2) else ((mj_C sl d 212 [.int y4, .int y5, .int y2] q1.2).bind (fun q2 => if q2.1 = 0 then (mj_E sl (d + 1) 211 19 [.int y0, w1, .int y2, .int y3, .int y4, .int (y5 + 1)] [] q2.2) else (mj_E sl (d + 1) 211 19 [.int y0, w1, .int y2, .int (y3 ||| ((1 : Int32) <<< (y5 &&& 31))), .int y4, .int (y5 + 1)] [] q2.2))))) else (mj_E sl (d + 1) 211 7 [.int y0, w1, .int y2, .int y3, .int y4, .int y5] [] M) := by
  refine (sx_iload dx_211_19 rfl).trans ?_
  refine (sx_bipush (v := 25) dx_211_21 rfl).trans ?_
  refine (sx_icmp_ge (tgt := 59) dx_211_23 (by decide)).trans ?_
  refine mj_ite ?_ ?_
  · refine (sx_iload_n dx_211_26 rfl).trans ?_
    refine (sx_iload dx_211_27 rfl).trans ?_
    refine (sx_s2i dx_211_29 ow_211 cx_7_254 (Nat.le_of_ble_eq_true rfl)).trans ?_
    refine mj_bnd (fun q1 => ?_)
    refine (sx_if_eq (tgt := 53) dx_211_32 (by decide)).trans ?_
    refine mj_ite ?_ ?_
    · refine (sx_iinc (v := 1) dx_211_53 rfl rfl rfl).trans ?_
      refine (sx_goto (tgt := 19) dx_211_56 (by decide)).trans ?_
      rfl
    · refine (sx_iload dx_211_35 rfl).trans ?_
      refine (sx_iload dx_211_37 rfl).trans ?_
      refine (sx_iload_n dx_211_39 rfl).trans ?_
      refine (sx_s3i dx_211_40 ow_211 cx_7_351 (Nat.le_of_ble_eq_true rfl)).trans ?_
      refine mj_bnd (fun q2 => ?_)
      refine (sx_if_eq (tgt := 53) dx_211_43 (by decide)).trans ?_
      refine mj_ite ?_ ?_
      · refine (sx_iinc (v := 1) dx_211_53 rfl rfl rfl).trans ?_
        refine (sx_goto (tgt := 19) dx_211_56 (by decide)).trans ?_
        rfl
      · refine (sx_iload_n dx_211_46 rfl).trans ?_
        refine (sx_iconst (v := 1) dx_211_47 rfl).trans ?_
        refine (sx_iload dx_211_48 rfl).trans ?_
        refine (sx_ishl dx_211_50).trans ?_
        refine (sx_ior dx_211_51).trans ?_
        refine (sx_istore_n dx_211_52 (Nat.le_of_ble_eq_true rfl) rfl).trans ?_
        refine (sx_iinc (v := 1) dx_211_53 rfl rfl rfl).trans ?_
        refine (sx_goto (tgt := 19) dx_211_56 (by decide)).trans ?_
        rfl
  · refine (sx_goto (tgt := 7) dx_211_59 (by decide)).trans ?_
    rfl
theorem dx_212_0 : mj_at 212 0 = some (.iconst (-1)) := by decide +kernel
theorem dx_212_1 : mj_at 212 1 = some (.istore_n 3) := by decide +kernel
theorem dx_212_2 : mj_at 212 2 = some (.iload_n 3) := by decide +kernel
theorem dx_212_3 : mj_at 212 3 = some (.iconst 1) := by decide +kernel
theorem dx_212_4 : mj_at 212 4 = some (.if_icmp .gt 100) := by decide +kernel
theorem dx_212_7 : mj_at 212 7 = some (.iconst (-1)) := by decide +kernel
theorem dx_212_8 : mj_at 212 8 = some (.istore 4) := by decide +kernel
theorem dx_212_10 : mj_at 212 10 = some (.iload 4) := by decide +kernel
theorem dx_212_12 : mj_at 212 12 = some (.iconst 1) := by decide +kernel
theorem dx_212_13 : mj_at 212 13 = some (.if_icmp .gt 85) := by decide +kernel
theorem dx_212_16 : mj_at 212 16 = some (.iload_n 1) := by decide +kernel
theorem dx_212_17 : mj_at 212 17 = some (.iconst 5) := by decide +kernel
theorem dx_212_18 : mj_at 212 18 = some (.irem) := by decide +kernel
theorem dx_212_19 : mj_at 212 19 = some (.iload 4) := by decide +kernel
theorem dx_212_21 : mj_at 212 21 = some (.iadd) := by decide +kernel
theorem dx_212_22 : mj_at 212 22 = some (.istore 5) := by decide +kernel
theorem dx_212_24 : mj_at 212 24 = some (.iload_n 1) := by decide +kernel
theorem dx_212_25 : mj_at 212 25 = some (.iconst 5) := by decide +kernel
theorem dx_212_26 : mj_at 212 26 = some (.idiv) := by decide +kernel
theorem dx_212_27 : mj_at 212 27 = some (.iload_n 3) := by decide +kernel
theorem dx_212_28 : mj_at 212 28 = some (.iadd) := by decide +kernel
theorem dx_212_29 : mj_at 212 29 = some (.istore 6) := by decide +kernel
theorem dx_212_31 : mj_at 212 31 = some (.iload_n 2) := by decide +kernel
theorem dx_212_32 : mj_at 212 32 = some (.ifCond .ne 12) := by decide +kernel
theorem dx_212_35 : mj_at 212 35 = some (.iload 4) := by decide +kernel
theorem dx_212_37 : mj_at 212 37 = some (.ifCond .eq 7) := by decide +kernel
theorem dx_212_40 : mj_at 212 40 = some (.iload_n 3) := by decide +kernel
theorem dx_212_41 : mj_at 212 41 = some (.ifCond .ne 7) := by decide +kernel
theorem dx_212_44 : mj_at 212 44 = some (.iconst 1) := by decide +kernel
theorem dx_212_45 : mj_at 212 45 = some (.goto 4) := by decide +kernel
theorem dx_212_48 : mj_at 212 48 = some (.iconst 0) := by decide +kernel
theorem dx_212_49 : mj_at 212 49 = some (.istore 7) := by decide +kernel
theorem dx_212_51 : mj_at 212 51 = some (.iload 7) := by decide +kernel
theorem dx_212_53 : mj_at 212 53 = some (.ifCond .eq 39) := by decide +kernel
theorem dx_212_56 : mj_at 212 56 = some (.iload 5) := by decide +kernel
theorem dx_212_58 : mj_at 212 58 = some (.iconst 0) := by decide +kernel
theorem dx_212_59 : mj_at 212 59 = some (.iconst 4) := by decide +kernel
theorem dx_212_60 : mj_at 212 60 = some (.invokestatic 90) := by decide +kernel
theorem dx_212_63 : mj_at 212 63 = some (.ifCond .eq 29) := by decide +kernel
theorem dx_212_66 : mj_at 212 66 = some (.iload 6) := by decide +kernel
theorem dx_212_68 : mj_at 212 68 = some (.iconst 0) := by decide +kernel
theorem dx_212_69 : mj_at 212 69 = some (.iconst 4) := by decide +kernel
theorem dx_212_70 : mj_at 212 70 = some (.invokestatic 90) := by decide +kernel
theorem dx_212_73 : mj_at 212 73 = some (.ifCond .eq 19) := by decide +kernel
theorem dx_212_76 : mj_at 212 76 = some (.iload_n 0) := by decide +kernel
theorem dx_212_77 : mj_at 212 77 = some (.iload 5) := by decide +kernel
theorem dx_212_79 : mj_at 212 79 = some (.iload 6) := by decide +kernel
theorem dx_212_81 : mj_at 212 81 = some (.invokestatic 257) := by decide +kernel
theorem dx_212_84 : mj_at 212 84 = some (.invokestatic 254) := by decide +kernel
theorem dx_212_87 : mj_at 212 87 = some (.ifCond .eq 5) := by decide +kernel
theorem dx_212_90 : mj_at 212 90 = some (.iconst 1) := by decide +kernel
theorem dx_212_91 : mj_at 212 91 = some (.ireturn) := by decide +kernel
theorem dx_212_92 : mj_at 212 92 = some (.iinc 4 1) := by decide +kernel
theorem dx_212_95 : mj_at 212 95 = some (.goto (-85)) := by decide +kernel
theorem dx_212_98 : mj_at 212 98 = some (.iinc 3 1) := by decide +kernel
theorem dx_212_101 : mj_at 212 101 = some (.goto (-99)) := by decide +kernel
theorem dx_212_104 : mj_at 212 104 = some (.iconst 0) := by decide +kernel
theorem dx_212_105 : mj_at 212 105 = some (.ireturn) := by decide +kernel
set_option maxRecDepth 10000 in
theorem b_X9_touches {sl d : Nat} {M : mj_M} {x1 : Int32} {x2 : Int32} {x3 : Int32}  : mj_C sl (d + 1) 212 [.int x1, .int x2, .int x3] M = mj_E sl (d + 1) 212 2 [.int x1, .int x2, .int x3, .int (-1), .null, .null, .null, .null] [] M := by
  show mj_E sl (d + 1) 212 0 [.int x1, .int x2, .int x3, .null, .null, .null, .null, .null] [] M = _
  refine (sx_iconst (v := (-1)) dx_212_0 rfl).trans ?_
  refine (sx_istore_n dx_212_1 (Nat.le_of_ble_eq_true rfl) rfl).trans ?_
  rfl
set_option maxRecDepth 10000 in
theorem b_X9_touches_2 {sl d : Nat} {M : mj_M} {y0 : Int32} {y1 : Int32} {y2 : Int32} {y3 : Int32} {w4 : Value} {w5 : Value} {w6 : Value} {w7 : Value}  : mj_E sl (d + 1) 212 2 [.int y0, .int y1, .int y2, .int y3, w4, w5, w6, w7] [] M = if y3 ≤ 1 then (mj_E sl (d + 1) 212 10 [.int y0, .int y1, .int y2, .int y3, .int (-1), w5, w6, w7] [] M) else (some ((0 : Int32), M)) := by
  refine (sx_iload_n dx_212_2 rfl).trans ?_
  refine (sx_iconst (v := 1) dx_212_3 rfl).trans ?_
  refine (sx_icmp_gt (tgt := 104) dx_212_4 (by decide)).trans ?_
  refine mj_ite ?_ ?_
  · refine (sx_iconst (v := (-1)) dx_212_7 rfl).trans ?_
    refine (sx_istore dx_212_8 (Nat.le_of_ble_eq_true rfl) rfl).trans ?_
    rfl
  · refine (sx_iconst (v := 0) dx_212_104 rfl).trans ?_
    exact sx_retz dx_212_105 rt_212 (by decide)
set_option maxRecDepth 10000 in
theorem b_X9_touches_10 {sl d : Nat} {M : mj_M} {y0 : Int32} {y1 : Int32} {y2 : Int32} {y3 : Int32} {y4 : Int32} {w5 : Value} {w6 : Value} {w7 : Value}  : mj_E sl (d + 1) 212 10 [.int y0, .int y1, .int y2, .int y3, .int y4, w5, w6, w7] [] M = if y4 ≤ 1 then (if y2 = 0 then (if y4 = 0 then (mj_E sl (d + 1) 212 44 [.int y0, .int y1, .int y2, .int y3, .int y4, .int ((mj_rm y1 5) + y4), .int ((y1 / 5) + y3), w7] [] M) else (if y3 = 0 then (mj_E sl (d + 1) 212 44 [.int y0, .int y1, .int y2, .int y3, .int y4, .int ((mj_rm y1 5) + y4), .int ((y1 / 5) + y3), w7] [] M) else (mj_E sl (d + 1) 212 10 [.int y0, .int y1, .int y2, .int y3, .int (y4 + 1), .int ((mj_rm y1 5) + y4), .int ((y1 / 5) + y3), .int 0] [] M))) else (mj_E sl (d + 1) 212 44 [.int y0, .int y1, .int y2, .int y3, .int y4, .int ((mj_rm y1 5) + y4), .int ((y1 / 5) + y3), w7] [] M)) else (mj_E sl (d + 1) 212 2 [.int y0, .int y1, .int y2, .int (y3 + 1), .int y4, w5, w6, w7] [] M) := by
  refine (sx_iload dx_212_10 rfl).trans ?_
  refine (sx_iconst (v := 1) dx_212_12 rfl).trans ?_
  refine (sx_icmp_gt (tgt := 98) dx_212_13 (by decide)).trans ?_
  refine mj_ite ?_ ?_
  · refine (sx_iload_n dx_212_16 rfl).trans ?_
    refine (sx_iconst (v := 5) dx_212_17 rfl).trans ?_
    refine (sx_irem dx_212_18 (by decide)).trans ?_
    refine (sx_iload dx_212_19 rfl).trans ?_
    refine (sx_iadd dx_212_21).trans ?_
    refine (sx_istore dx_212_22 (Nat.le_of_ble_eq_true rfl) rfl).trans ?_
    refine (sx_iload_n dx_212_24 rfl).trans ?_
    refine (sx_iconst (v := 5) dx_212_25 rfl).trans ?_
    refine (sx_idiv dx_212_26 (by decide)).trans ?_
    refine (sx_iload_n dx_212_27 rfl).trans ?_
    refine (sx_iadd dx_212_28).trans ?_
    refine (sx_istore dx_212_29 (Nat.le_of_ble_eq_true rfl) rfl).trans ?_
    refine (sx_iload_n dx_212_31 rfl).trans ?_
    refine (sx_if_ne (tgt := 44) dx_212_32 (by decide)).trans ?_
    refine mj_ite ?_ ?_
    · refine (sx_iload dx_212_35 rfl).trans ?_
      refine (sx_if_eq (tgt := 44) dx_212_37 (by decide)).trans ?_
      refine mj_ite ?_ ?_
      · rfl
      · refine (sx_iload_n dx_212_40 rfl).trans ?_
        refine (sx_if_ne (tgt := 48) dx_212_41 (by decide)).trans ?_
        refine mj_ite ?_ ?_
        · rfl
        · refine (sx_iconst (v := 0) dx_212_48 rfl).trans ?_
          refine (sx_istore dx_212_49 (Nat.le_of_ble_eq_true rfl) rfl).trans ?_
          refine (sx_iload dx_212_51 rfl).trans ?_
          refine (sx_if_eq_t (tgt := 92) dx_212_53 (by decide) (by decide)).trans ?_
          refine (sx_iinc (v := 1) dx_212_92 rfl rfl rfl).trans ?_
          refine (sx_goto (tgt := 10) dx_212_95 (by decide)).trans ?_
          rfl
    · rfl
  · refine (sx_iinc (v := 1) dx_212_98 rfl rfl rfl).trans ?_
    refine (sx_goto (tgt := 2) dx_212_101 (by decide)).trans ?_
    rfl
set_option maxRecDepth 10000 in
theorem b_X9_touches_44 {sl d : Nat} {M : mj_M} {y0 : Int32} {y1 : Int32} {y2 : Int32} {y3 : Int32} {y4 : Int32} {y5 : Int32} {y6 : Int32} {w7 : Value}  : mj_E sl (d + 1) 212 44 [.int y0, .int y1, .int y2, .int y3, .int y4, .int y5, .int y6, w7] [] M = (mj_C sl d 124 [.int y5, .int 0, .int 4] M).bind (fun q1 => if q1.1 = 0 then (mj_E sl (d + 1) 212 10 [.int y0, .int y1, .int y2, .int y3, .int (y4 + 1), .int y5, .int y6, .int 1] [] q1.2) else ((mj_C sl d 124 [.int y6, .int 0, .int 4] q1.2).bind (fun q2 => if q2.1 = 0 then (mj_E sl (d + 1) 212 10 [.int y0, .int y1, .int y2, .int y3, .int (y4 + 1), .int y5, .int y6, .int 1] [] q2.2) else ((mj_C sl d 177 [.int y5, .int y6] q2.2).bind (fun q3 => (mj_C sl d 127 [.int y0, .int q3.1] q3.2).bind (fun q4 => if q4.1 = 0 then (mj_E sl (d + 1) 212 10 [.int y0, .int y1, .int y2, .int y3, .int (y4 + 1), .int y5, .int y6, .int 1] [] q4.2) else (some ((1 : Int32), q4.2)))))))) := by
  refine (sx_iconst (v := 1) dx_212_44 rfl).trans ?_
  refine (sx_goto (tgt := 49) dx_212_45 (by decide)).trans ?_
  refine (sx_istore dx_212_49 (Nat.le_of_ble_eq_true rfl) rfl).trans ?_
  refine (sx_iload dx_212_51 rfl).trans ?_
  refine (sx_if_eq_f (tgt := 92) dx_212_53 (by decide) (by decide)).trans ?_
  refine (sx_iload dx_212_56 rfl).trans ?_
  refine (sx_iconst (v := 0) dx_212_58 rfl).trans ?_
  refine (sx_iconst (v := 4) dx_212_59 rfl).trans ?_
  refine (sx_s3i dx_212_60 ow_212 cx_7_90 (Nat.le_of_ble_eq_true rfl)).trans ?_
  refine mj_bnd (fun q1 => ?_)
  refine (sx_if_eq (tgt := 92) dx_212_63 (by decide)).trans ?_
  refine mj_ite ?_ ?_
  · refine (sx_iinc (v := 1) dx_212_92 rfl rfl rfl).trans ?_
    refine (sx_goto (tgt := 10) dx_212_95 (by decide)).trans ?_
    rfl
  · refine (sx_iload dx_212_66 rfl).trans ?_
    refine (sx_iconst (v := 0) dx_212_68 rfl).trans ?_
    refine (sx_iconst (v := 4) dx_212_69 rfl).trans ?_
    refine (sx_s3i dx_212_70 ow_212 cx_7_90 (Nat.le_of_ble_eq_true rfl)).trans ?_
    refine mj_bnd (fun q2 => ?_)
    refine (sx_if_eq (tgt := 92) dx_212_73 (by decide)).trans ?_
    refine mj_ite ?_ ?_
    · refine (sx_iinc (v := 1) dx_212_92 rfl rfl rfl).trans ?_
      refine (sx_goto (tgt := 10) dx_212_95 (by decide)).trans ?_
      rfl
    · refine (sx_iload_n dx_212_76 rfl).trans ?_
      refine (sx_iload dx_212_77 rfl).trans ?_
      refine (sx_iload dx_212_79 rfl).trans ?_
      refine (sx_s2i dx_212_81 ow_212 cx_7_257 (Nat.le_of_ble_eq_true rfl)).trans ?_
      refine mj_bnd (fun q3 => ?_)
      refine (sx_s2i dx_212_84 ow_212 cx_7_254 (Nat.le_of_ble_eq_true rfl)).trans ?_
      refine mj_bnd (fun q4 => ?_)
      refine (sx_if_eq (tgt := 92) dx_212_87 (by decide)).trans ?_
      refine mj_ite ?_ ?_
      · refine (sx_iinc (v := 1) dx_212_92 rfl rfl rfl).trans ?_
        refine (sx_goto (tgt := 10) dx_212_95 (by decide)).trans ?_
        rfl
      · refine (sx_iconst (v := 1) dx_212_90 rfl).trans ?_
        exact sx_retz dx_212_91 rt_212 (by decide)
theorem dx_213_0 : mj_at 213 0 = some (.iconst 0) := by decide +kernel
theorem dx_213_1 : mj_at 213 1 = some (.istore_n 1) := by decide +kernel
theorem dx_213_2 : mj_at 213 2 = some (.iload_n 1) := by decide +kernel
theorem dx_213_3 : mj_at 213 3 = some (.bipush 25) := by decide +kernel
theorem dx_213_5 : mj_at 213 5 = some (.if_icmp .ge 35) := by decide +kernel
theorem dx_213_8 : mj_at 213 8 = some (.iload_n 0) := by decide +kernel
theorem dx_213_9 : mj_at 213 9 = some (.iload_n 1) := by decide +kernel
theorem dx_213_10 : mj_at 213 10 = some (.invokestatic 254) := by decide +kernel
theorem dx_213_13 : mj_at 213 13 = some (.ifCond .eq 21) := by decide +kernel
theorem dx_213_16 : mj_at 213 16 = some (.iload_n 1) := by decide +kernel
theorem dx_213_17 : mj_at 213 17 = some (.iconst 5) := by decide +kernel
theorem dx_213_18 : mj_at 213 18 = some (.irem) := by decide +kernel
theorem dx_213_19 : mj_at 213 19 = some (.iconst 4) := by decide +kernel
theorem dx_213_20 : mj_at 213 20 = some (.irem) := by decide +kernel
theorem dx_213_21 : mj_at 213 21 = some (.ifCond .eq 11) := by decide +kernel
theorem dx_213_24 : mj_at 213 24 = some (.iload_n 1) := by decide +kernel
theorem dx_213_25 : mj_at 213 25 = some (.iconst 5) := by decide +kernel
theorem dx_213_26 : mj_at 213 26 = some (.idiv) := by decide +kernel
theorem dx_213_27 : mj_at 213 27 = some (.iconst 4) := by decide +kernel
theorem dx_213_28 : mj_at 213 28 = some (.irem) := by decide +kernel
theorem dx_213_29 : mj_at 213 29 = some (.ifCond .ne 5) := by decide +kernel
theorem dx_213_32 : mj_at 213 32 = some (.iconst 1) := by decide +kernel
theorem dx_213_33 : mj_at 213 33 = some (.ireturn) := by decide +kernel
theorem dx_213_34 : mj_at 213 34 = some (.iinc 1 1) := by decide +kernel
theorem dx_213_37 : mj_at 213 37 = some (.goto (-35)) := by decide +kernel
theorem dx_213_40 : mj_at 213 40 = some (.iconst 0) := by decide +kernel
theorem dx_213_41 : mj_at 213 41 = some (.ireturn) := by decide +kernel
set_option maxRecDepth 10000 in
theorem b_X9_isAtEdge {sl d : Nat} {M : mj_M} {x1 : Int32}  : mj_C sl (d + 1) 213 [.int x1] M = mj_E sl (d + 1) 213 2 [.int x1, .int 0] [] M := by
  show mj_E sl (d + 1) 213 0 [.int x1, .null] [] M = _
  refine (sx_iconst (v := 0) dx_213_0 rfl).trans ?_
  refine (sx_istore_n dx_213_1 (Nat.le_of_ble_eq_true rfl) rfl).trans ?_
  rfl
set_option maxRecDepth 10000 in
theorem b_X9_isAtEdge_2 {sl d : Nat} {M : mj_M} {y0 : Int32} {y1 : Int32}  : mj_E sl (d + 1) 213 2 [.int y0, .int y1] [] M = if y1 < 25 then ((mj_C sl d 127 [.int y0, .int y1] M).bind (fun q1 => if q1.1 = 0 then (mj_E sl (d + 1) 213 2 [.int y0, .int (y1 + 1)] [] q1.2) else (if mj_rm (mj_rm y1 5) 4 = 0 then (some ((1 : Int32), q1.2)) else (if mj_rm (y1 / 5) 4 = 0 then (some ((1 : Int32), q1.2)) else (mj_E sl (d + 1) 213 2 [.int y0, .int (y1 + 1)] [] q1.2))))) else (some ((0 : Int32), M)) := by
  refine (sx_iload_n dx_213_2 rfl).trans ?_
  refine (sx_bipush (v := 25) dx_213_3 rfl).trans ?_
  refine (sx_icmp_ge (tgt := 40) dx_213_5 (by decide)).trans ?_
  refine mj_ite ?_ ?_
  · refine (sx_iload_n dx_213_8 rfl).trans ?_
    refine (sx_iload_n dx_213_9 rfl).trans ?_
    refine (sx_s2i dx_213_10 ow_213 cx_7_254 (Nat.le_of_ble_eq_true rfl)).trans ?_
    refine mj_bnd (fun q1 => ?_)
    refine (sx_if_eq (tgt := 34) dx_213_13 (by decide)).trans ?_
    refine mj_ite ?_ ?_
    · refine (sx_iinc (v := 1) dx_213_34 rfl rfl rfl).trans ?_
      refine (sx_goto (tgt := 2) dx_213_37 (by decide)).trans ?_
      rfl
    · refine (sx_iload_n dx_213_16 rfl).trans ?_
      refine (sx_iconst (v := 5) dx_213_17 rfl).trans ?_
      refine (sx_irem dx_213_18 (by decide)).trans ?_
      refine (sx_iconst (v := 4) dx_213_19 rfl).trans ?_
      refine (sx_irem dx_213_20 (by decide)).trans ?_
      refine (sx_if_eq (tgt := 32) dx_213_21 (by decide)).trans ?_
      refine mj_ite ?_ ?_
      · refine (sx_iconst (v := 1) dx_213_32 rfl).trans ?_
        exact sx_retz dx_213_33 rt_213 (by decide)
      · refine (sx_iload_n dx_213_24 rfl).trans ?_
        refine (sx_iconst (v := 5) dx_213_25 rfl).trans ?_
        refine (sx_idiv dx_213_26 (by decide)).trans ?_
        refine (sx_iconst (v := 4) dx_213_27 rfl).trans ?_
        refine (sx_irem dx_213_28 (by decide)).trans ?_
        refine (sx_if_ne (tgt := 34) dx_213_29 (by decide)).trans ?_
        refine mj_ite ?_ ?_
        · refine (sx_iconst (v := 1) dx_213_32 rfl).trans ?_
          exact sx_retz dx_213_33 rt_213 (by decide)
        · refine (sx_iinc (v := 1) dx_213_34 rfl rfl rfl).trans ?_
          refine (sx_goto (tgt := 2) dx_213_37 (by decide)).trans ?_
          rfl
  · refine (sx_iconst (v := 0) dx_213_40 rfl).trans ?_
    exact sx_retz dx_213_41 rt_213 (by decide)
theorem dx_214_0 : mj_at 214 0 = some (.iload_n 0) := by decide +kernel
theorem dx_214_1 : mj_at 214 1 = some (.ldc 89) := by decide +kernel
theorem dx_214_3 : mj_at 214 3 = some (.ixor) := by decide +kernel
theorem dx_214_4 : mj_at 214 4 = some (.istore_n 1) := by decide +kernel
theorem dx_214_5 : mj_at 214 5 = some (.iconst 0) := by decide +kernel
theorem dx_214_6 : mj_at 214 6 = some (.istore_n 2) := by decide +kernel
theorem dx_214_7 : mj_at 214 7 = some (.iconst 0) := by decide +kernel
theorem dx_214_8 : mj_at 214 8 = some (.istore_n 3) := by decide +kernel
theorem dx_214_9 : mj_at 214 9 = some (.iload_n 3) := by decide +kernel
theorem dx_214_10 : mj_at 214 10 = some (.bipush 25) := by decide +kernel
theorem dx_214_12 : mj_at 214 12 = some (.if_icmp .ge 50) := by decide +kernel
theorem dx_214_15 : mj_at 214 15 = some (.iload_n 1) := by decide +kernel
theorem dx_214_16 : mj_at 214 16 = some (.iload_n 3) := by decide +kernel
theorem dx_214_17 : mj_at 214 17 = some (.invokestatic 254) := by decide +kernel
theorem dx_214_20 : mj_at 214 20 = some (.ifCond .ne 6) := by decide +kernel
theorem dx_214_23 : mj_at 214 23 = some (.goto 33) := by decide +kernel
theorem dx_214_26 : mj_at 214 26 = some (.iload_n 0) := by decide +kernel
theorem dx_214_27 : mj_at 214 27 = some (.ldc 89) := by decide +kernel
theorem dx_214_29 : mj_at 214 29 = some (.ixor) := by decide +kernel
theorem dx_214_30 : mj_at 214 30 = some (.iload_n 3) := by decide +kernel
theorem dx_214_31 : mj_at 214 31 = some (.iconst 0) := by decide +kernel
theorem dx_214_32 : mj_at 214 32 = some (.invokestatic 355) := by decide +kernel
theorem dx_214_35 : mj_at 214 35 = some (.istore 4) := by decide +kernel
theorem dx_214_37 : mj_at 214 37 = some (.iload_n 1) := by decide +kernel
theorem dx_214_38 : mj_at 214 38 = some (.iload 4) := by decide +kernel
theorem dx_214_40 : mj_at 214 40 = some (.iconst (-1)) := by decide +kernel
theorem dx_214_41 : mj_at 214 41 = some (.ixor) := by decide +kernel
theorem dx_214_42 : mj_at 214 42 = some (.iand) := by decide +kernel
theorem dx_214_43 : mj_at 214 43 = some (.istore_n 1) := by decide +kernel
theorem dx_214_44 : mj_at 214 44 = some (.iload 4) := by decide +kernel
theorem dx_214_46 : mj_at 214 46 = some (.invokestatic 359) := by decide +kernel
theorem dx_214_49 : mj_at 214 49 = some (.ifCond .ne 7) := by decide +kernel
theorem dx_214_52 : mj_at 214 52 = some (.iload_n 2) := by decide +kernel
theorem dx_214_53 : mj_at 214 53 = some (.iconst 1) := by decide +kernel
theorem dx_214_54 : mj_at 214 54 = some (.iadd) := by decide +kernel
theorem dx_214_55 : mj_at 214 55 = some (.istore_n 2) := by decide +kernel
theorem dx_214_56 : mj_at 214 56 = some (.iinc 3 1) := by decide +kernel
theorem dx_214_59 : mj_at 214 59 = some (.goto (-50)) := by decide +kernel
theorem dx_214_62 : mj_at 214 62 = some (.iload_n 2) := by decide +kernel
theorem dx_214_63 : mj_at 214 63 = some (.ireturn) := by decide +kernel
set_option maxRecDepth 10000 in
theorem b_X9_loopsOf {sl d : Nat} {M : mj_M} {x1 : Int32}  : mj_C sl (d + 1) 214 [.int x1] M = mj_E sl (d + 1) 214 9 [.int x1, .int (x1 ^^^ 33554431), .int 0, .int 0, .null] [] M := by
  show mj_E sl (d + 1) 214 0 [.int x1, .null, .null, .null, .null] [] M = _
  refine (sx_iload_n dx_214_0 rfl).trans ?_
  refine (sx_ldc (v := 33554431) dx_214_1 ow_214 kx_7_89).trans ?_
  refine (sx_ixor dx_214_3).trans ?_
  refine (sx_istore_n dx_214_4 (Nat.le_of_ble_eq_true rfl) rfl).trans ?_
  refine (sx_iconst (v := 0) dx_214_5 rfl).trans ?_
  refine (sx_istore_n dx_214_6 (Nat.le_of_ble_eq_true rfl) rfl).trans ?_
  refine (sx_iconst (v := 0) dx_214_7 rfl).trans ?_
  refine (sx_istore_n dx_214_8 (Nat.le_of_ble_eq_true rfl) rfl).trans ?_
  rfl
set_option maxRecDepth 10000 in
theorem b_X9_loopsOf_9 {sl d : Nat} {M : mj_M} {y0 : Int32} {y1 : Int32} {y2 : Int32} {y3 : Int32} {w4 : Value}  : mj_E sl (d + 1) 214 9 [.int y0, .int y1, .int y2, .int y3, w4] [] M = if y3 < 25 then ((mj_C sl d 127 [.int y1, .int y3] M).bind (fun q1 => if q1.1 = 0 then (mj_E sl (d + 1) 214 9 [.int y0, .int y1, .int y2, .int (y3 + 1), w4] [] q1.2) else ((mj_C sl d 211 [.int (y0 ^^^ 33554431), .int y3, .int 0] q1.2).bind (fun q2 => (mj_C sl d 213 [.int q2.1] q2.2).bind (fun q3 => if q3.1 = 0 then (mj_E sl (d + 1) 214 9 [.int y0, .int (y1 &&& (q2.1 ^^^ (-1))), .int (y2 + 1), .int (y3 + 1), .int q2.1] [] q3.2) else (mj_E sl (d + 1) 214 9 [.int y0, .int (y1 &&& (q2.1 ^^^ (-1))), .int y2, .int (y3 + 1), .int q2.1] [] q3.2)))))) else (some ((y2 : Int32), M)) := by
  refine (sx_iload_n dx_214_9 rfl).trans ?_
  refine (sx_bipush (v := 25) dx_214_10 rfl).trans ?_
  refine (sx_icmp_ge (tgt := 62) dx_214_12 (by decide)).trans ?_
  refine mj_ite ?_ ?_
  · refine (sx_iload_n dx_214_15 rfl).trans ?_
    refine (sx_iload_n dx_214_16 rfl).trans ?_
    refine (sx_s2i dx_214_17 ow_214 cx_7_254 (Nat.le_of_ble_eq_true rfl)).trans ?_
    refine mj_bnd (fun q1 => ?_)
    refine (sx_if_ne (tgt := 26) dx_214_20 (by decide)).trans ?_
    refine mj_ite ?_ ?_
    · refine (sx_goto (tgt := 56) dx_214_23 (by decide)).trans ?_
      refine (sx_iinc (v := 1) dx_214_56 rfl rfl rfl).trans ?_
      refine (sx_goto (tgt := 9) dx_214_59 (by decide)).trans ?_
      rfl
    · refine (sx_iload_n dx_214_26 rfl).trans ?_
      refine (sx_ldc (v := 33554431) dx_214_27 ow_214 kx_7_89).trans ?_
      refine (sx_ixor dx_214_29).trans ?_
      refine (sx_iload_n dx_214_30 rfl).trans ?_
      refine (sx_iconst (v := 0) dx_214_31 rfl).trans ?_
      refine (sx_s3i dx_214_32 ow_214 cx_7_355 (Nat.le_of_ble_eq_true rfl)).trans ?_
      refine mj_bnd (fun q2 => ?_)
      refine (sx_istore dx_214_35 (Nat.le_of_ble_eq_true rfl) rfl).trans ?_
      refine (sx_iload_n dx_214_37 rfl).trans ?_
      refine (sx_iload dx_214_38 rfl).trans ?_
      refine (sx_iconst (v := (-1)) dx_214_40 rfl).trans ?_
      refine (sx_ixor dx_214_41).trans ?_
      refine (sx_iand dx_214_42).trans ?_
      refine (sx_istore_n dx_214_43 (Nat.le_of_ble_eq_true rfl) rfl).trans ?_
      refine (sx_iload dx_214_44 rfl).trans ?_
      refine (sx_s1i dx_214_46 ow_214 cx_7_359 (Nat.le_of_ble_eq_true rfl)).trans ?_
      refine mj_bnd (fun q3 => ?_)
      refine (sx_if_ne (tgt := 56) dx_214_49 (by decide)).trans ?_
      refine mj_ite ?_ ?_
      · refine (sx_iload_n dx_214_52 rfl).trans ?_
        refine (sx_iconst (v := 1) dx_214_53 rfl).trans ?_
        refine (sx_iadd dx_214_54).trans ?_
        refine (sx_istore_n dx_214_55 (Nat.le_of_ble_eq_true rfl) rfl).trans ?_
        refine (sx_iinc (v := 1) dx_214_56 rfl rfl rfl).trans ?_
        refine (sx_goto (tgt := 9) dx_214_59 (by decide)).trans ?_
        rfl
      · refine (sx_iinc (v := 1) dx_214_56 rfl rfl rfl).trans ?_
        refine (sx_goto (tgt := 9) dx_214_59 (by decide)).trans ?_
        rfl
  · refine (sx_iload_n dx_214_62 rfl).trans ?_
    exact sx_reti dx_214_63 rt_214
theorem dx_215_0 : mj_at 215 0 = some (.iload_n 0) := by decide +kernel
theorem dx_215_1 : mj_at 215 1 = some (.istore_n 1) := by decide +kernel
theorem dx_215_2 : mj_at 215 2 = some (.iconst 0) := by decide +kernel
theorem dx_215_3 : mj_at 215 3 = some (.istore_n 2) := by decide +kernel
theorem dx_215_4 : mj_at 215 4 = some (.iconst 0) := by decide +kernel
theorem dx_215_5 : mj_at 215 5 = some (.istore_n 3) := by decide +kernel
theorem dx_215_6 : mj_at 215 6 = some (.iload_n 3) := by decide +kernel
theorem dx_215_7 : mj_at 215 7 = some (.bipush 25) := by decide +kernel
theorem dx_215_9 : mj_at 215 9 = some (.if_icmp .ge 35) := by decide +kernel
theorem dx_215_12 : mj_at 215 12 = some (.iload_n 1) := by decide +kernel
theorem dx_215_13 : mj_at 215 13 = some (.iload_n 3) := by decide +kernel
theorem dx_215_14 : mj_at 215 14 = some (.invokestatic 254) := by decide +kernel
theorem dx_215_17 : mj_at 215 17 = some (.ifCond .ne 6) := by decide +kernel
theorem dx_215_20 : mj_at 215 20 = some (.goto 18) := by decide +kernel
theorem dx_215_23 : mj_at 215 23 = some (.iload_n 1) := by decide +kernel
theorem dx_215_24 : mj_at 215 24 = some (.iload_n 0) := by decide +kernel
theorem dx_215_25 : mj_at 215 25 = some (.iload_n 3) := by decide +kernel
theorem dx_215_26 : mj_at 215 26 = some (.iconst 1) := by decide +kernel
theorem dx_215_27 : mj_at 215 27 = some (.invokestatic 355) := by decide +kernel
theorem dx_215_30 : mj_at 215 30 = some (.iconst (-1)) := by decide +kernel
theorem dx_215_31 : mj_at 215 31 = some (.ixor) := by decide +kernel
theorem dx_215_32 : mj_at 215 32 = some (.iand) := by decide +kernel
theorem dx_215_33 : mj_at 215 33 = some (.istore_n 1) := by decide +kernel
theorem dx_215_34 : mj_at 215 34 = some (.iload_n 2) := by decide +kernel
theorem dx_215_35 : mj_at 215 35 = some (.iconst 1) := by decide +kernel
theorem dx_215_36 : mj_at 215 36 = some (.iadd) := by decide +kernel
theorem dx_215_37 : mj_at 215 37 = some (.istore_n 2) := by decide +kernel
theorem dx_215_38 : mj_at 215 38 = some (.iinc 3 1) := by decide +kernel
theorem dx_215_41 : mj_at 215 41 = some (.goto (-35)) := by decide +kernel
theorem dx_215_44 : mj_at 215 44 = some (.iload_n 2) := by decide +kernel
theorem dx_215_45 : mj_at 215 45 = some (.ireturn) := by decide +kernel
set_option maxRecDepth 10000 in
theorem b_X9_strokesOf {sl d : Nat} {M : mj_M} {x1 : Int32}  : mj_C sl (d + 1) 215 [.int x1] M = mj_E sl (d + 1) 215 6 [.int x1, .int x1, .int 0, .int 0] [] M := by
  show mj_E sl (d + 1) 215 0 [.int x1, .null, .null, .null] [] M = _
  refine (sx_iload_n dx_215_0 rfl).trans ?_
  refine (sx_istore_n dx_215_1 (Nat.le_of_ble_eq_true rfl) rfl).trans ?_
  refine (sx_iconst (v := 0) dx_215_2 rfl).trans ?_
  refine (sx_istore_n dx_215_3 (Nat.le_of_ble_eq_true rfl) rfl).trans ?_
  refine (sx_iconst (v := 0) dx_215_4 rfl).trans ?_
  refine (sx_istore_n dx_215_5 (Nat.le_of_ble_eq_true rfl) rfl).trans ?_
  rfl
set_option maxRecDepth 10000 in
theorem b_X9_strokesOf_6 {sl d : Nat} {M : mj_M} {y0 : Int32} {y1 : Int32} {y2 : Int32} {y3 : Int32}  : mj_E sl (d + 1) 215 6 [.int y0, .int y1, .int y2, .int y3] [] M = if y3 < 25 then ((mj_C sl d 127 [.int y1, .int y3] M).bind (fun q1 => if q1.1 = 0 then (mj_E sl (d + 1) 215 6 [.int y0, .int y1, .int y2, .int (y3 + 1)] [] q1.2) else ((mj_C sl d 211 [.int y0, .int y3, .int 1] q1.2).bind (fun q2 => mj_E sl (d + 1) 215 6 [.int y0, .int (y1 &&& (q2.1 ^^^ (-1))), .int (y2 + 1), .int (y3 + 1)] [] q2.2)))) else (some ((y2 : Int32), M)) := by
  refine (sx_iload_n dx_215_6 rfl).trans ?_
  refine (sx_bipush (v := 25) dx_215_7 rfl).trans ?_
  refine (sx_icmp_ge (tgt := 44) dx_215_9 (by decide)).trans ?_
  refine mj_ite ?_ ?_
  · refine (sx_iload_n dx_215_12 rfl).trans ?_
    refine (sx_iload_n dx_215_13 rfl).trans ?_
    refine (sx_s2i dx_215_14 ow_215 cx_7_254 (Nat.le_of_ble_eq_true rfl)).trans ?_
    refine mj_bnd (fun q1 => ?_)
    refine (sx_if_ne (tgt := 23) dx_215_17 (by decide)).trans ?_
    refine mj_ite ?_ ?_
    · refine (sx_goto (tgt := 38) dx_215_20 (by decide)).trans ?_
      refine (sx_iinc (v := 1) dx_215_38 rfl rfl rfl).trans ?_
      refine (sx_goto (tgt := 6) dx_215_41 (by decide)).trans ?_
      rfl
    · refine (sx_iload_n dx_215_23 rfl).trans ?_
      refine (sx_iload_n dx_215_24 rfl).trans ?_
      refine (sx_iload_n dx_215_25 rfl).trans ?_
      refine (sx_iconst (v := 1) dx_215_26 rfl).trans ?_
      refine (sx_s3i dx_215_27 ow_215 cx_7_355 (Nat.le_of_ble_eq_true rfl)).trans ?_
      refine mj_bnd (fun q2 => ?_)
      refine (sx_iconst (v := (-1)) dx_215_30 rfl).trans ?_
      refine (sx_ixor dx_215_31).trans ?_
      refine (sx_iand dx_215_32).trans ?_
      refine (sx_istore_n dx_215_33 (Nat.le_of_ble_eq_true rfl) rfl).trans ?_
      refine (sx_iload_n dx_215_34 rfl).trans ?_
      refine (sx_iconst (v := 1) dx_215_35 rfl).trans ?_
      refine (sx_iadd dx_215_36).trans ?_
      refine (sx_istore_n dx_215_37 (Nat.le_of_ble_eq_true rfl) rfl).trans ?_
      refine (sx_iinc (v := 1) dx_215_38 rfl rfl rfl).trans ?_
      refine (sx_goto (tgt := 6) dx_215_41 (by decide)).trans ?_
      rfl
  · refine (sx_iload_n dx_215_44 rfl).trans ?_
    exact sx_reti dx_215_45 rt_215
theorem dx_216_0 : mj_at 216 0 = some (.iload_n 1) := by decide +kernel
theorem dx_216_1 : mj_at 216 1 = some (.iconst 0) := by decide +kernel
theorem dx_216_2 : mj_at 216 2 = some (.iconst 4) := by decide +kernel
theorem dx_216_3 : mj_at 216 3 = some (.invokestatic 90) := by decide +kernel
theorem dx_216_6 : mj_at 216 6 = some (.ifCond .eq 28) := by decide +kernel
theorem dx_216_9 : mj_at 216 9 = some (.iload_n 2) := by decide +kernel
theorem dx_216_10 : mj_at 216 10 = some (.iconst 0) := by decide +kernel
theorem dx_216_11 : mj_at 216 11 = some (.iconst 4) := by decide +kernel
theorem dx_216_12 : mj_at 216 12 = some (.invokestatic 90) := by decide +kernel
theorem dx_216_15 : mj_at 216 15 = some (.ifCond .eq 19) := by decide +kernel
theorem dx_216_18 : mj_at 216 18 = some (.iload_n 0) := by decide +kernel
theorem dx_216_19 : mj_at 216 19 = some (.iload_n 1) := by decide +kernel
theorem dx_216_20 : mj_at 216 20 = some (.iload_n 2) := by decide +kernel
theorem dx_216_21 : mj_at 216 21 = some (.invokestatic 257) := by decide +kernel
theorem dx_216_24 : mj_at 216 24 = some (.invokestatic 254) := by decide +kernel
theorem dx_216_27 : mj_at 216 27 = some (.ifCond .eq 7) := by decide +kernel
theorem dx_216_30 : mj_at 216 30 = some (.iconst 1) := by decide +kernel
theorem dx_216_31 : mj_at 216 31 = some (.goto 4) := by decide +kernel
theorem dx_216_34 : mj_at 216 34 = some (.iconst 0) := by decide +kernel
theorem dx_216_35 : mj_at 216 35 = some (.ireturn) := by decide +kernel
set_option maxRecDepth 10000 in
theorem b_X9_isBlack {sl d : Nat} {M : mj_M} {x1 : Int32} {x2 : Int32} {x3 : Int32}  : mj_C sl (d + 1) 216 [.int x1, .int x2, .int x3] M = (mj_C sl d 124 [.int x2, .int 0, .int 4] M).bind (fun q1 => if q1.1 = 0 then (some ((0 : Int32), q1.2)) else ((mj_C sl d 124 [.int x3, .int 0, .int 4] q1.2).bind (fun q2 => if q2.1 = 0 then (some ((0 : Int32), q2.2)) else ((mj_C sl d 177 [.int x2, .int x3] q2.2).bind (fun q3 => (mj_C sl d 127 [.int x1, .int q3.1] q3.2).bind (fun q4 => if q4.1 = 0 then (some ((0 : Int32), q4.2)) else (some ((1 : Int32), q4.2)))))))) := by
  show mj_E sl (d + 1) 216 0 [.int x1, .int x2, .int x3] [] M = _
  refine (sx_iload_n dx_216_0 rfl).trans ?_
  refine (sx_iconst (v := 0) dx_216_1 rfl).trans ?_
  refine (sx_iconst (v := 4) dx_216_2 rfl).trans ?_
  refine (sx_s3i dx_216_3 ow_216 cx_7_90 (Nat.le_of_ble_eq_true rfl)).trans ?_
  refine mj_bnd (fun q1 => ?_)
  refine (sx_if_eq (tgt := 34) dx_216_6 (by decide)).trans ?_
  refine mj_ite ?_ ?_
  · refine (sx_iconst (v := 0) dx_216_34 rfl).trans ?_
    exact sx_retz dx_216_35 rt_216 (by decide)
  · refine (sx_iload_n dx_216_9 rfl).trans ?_
    refine (sx_iconst (v := 0) dx_216_10 rfl).trans ?_
    refine (sx_iconst (v := 4) dx_216_11 rfl).trans ?_
    refine (sx_s3i dx_216_12 ow_216 cx_7_90 (Nat.le_of_ble_eq_true rfl)).trans ?_
    refine mj_bnd (fun q2 => ?_)
    refine (sx_if_eq (tgt := 34) dx_216_15 (by decide)).trans ?_
    refine mj_ite ?_ ?_
    · refine (sx_iconst (v := 0) dx_216_34 rfl).trans ?_
      exact sx_retz dx_216_35 rt_216 (by decide)
    · refine (sx_iload_n dx_216_18 rfl).trans ?_
      refine (sx_iload_n dx_216_19 rfl).trans ?_
      refine (sx_iload_n dx_216_20 rfl).trans ?_
      refine (sx_s2i dx_216_21 ow_216 cx_7_257 (Nat.le_of_ble_eq_true rfl)).trans ?_
      refine mj_bnd (fun q3 => ?_)
      refine (sx_s2i dx_216_24 ow_216 cx_7_254 (Nat.le_of_ble_eq_true rfl)).trans ?_
      refine mj_bnd (fun q4 => ?_)
      refine (sx_if_eq (tgt := 34) dx_216_27 (by decide)).trans ?_
      refine mj_ite ?_ ?_
      · refine (sx_iconst (v := 0) dx_216_34 rfl).trans ?_
        exact sx_retz dx_216_35 rt_216 (by decide)
      · refine (sx_iconst (v := 1) dx_216_30 rfl).trans ?_
        refine (sx_goto (tgt := 35) dx_216_31 (by decide)).trans ?_
        exact sx_retz dx_216_35 rt_216 (by decide)
theorem dx_217_0 : mj_at 217 0 = some (.bipush (-2)) := by decide +kernel
theorem dx_217_2 : mj_at 217 2 = some (.istore_n 1) := by decide +kernel
theorem dx_217_3 : mj_at 217 3 = some (.iconst 0) := by decide +kernel
theorem dx_217_4 : mj_at 217 4 = some (.istore_n 2) := by decide +kernel
theorem dx_217_5 : mj_at 217 5 = some (.iload_n 2) := by decide +kernel
theorem dx_217_6 : mj_at 217 6 = some (.bipush 25) := by decide +kernel
theorem dx_217_8 : mj_at 217 8 = some (.if_icmp .ge 108) := by decide +kernel
theorem dx_217_11 : mj_at 217 11 = some (.iload_n 0) := by decide +kernel
theorem dx_217_12 : mj_at 217 12 = some (.iload_n 2) := by decide +kernel
theorem dx_217_13 : mj_at 217 13 = some (.invokestatic 254) := by decide +kernel
theorem dx_217_16 : mj_at 217 16 = some (.ifCond .ne 6) := by decide +kernel
theorem dx_217_19 : mj_at 217 19 = some (.goto 91) := by decide +kernel
theorem dx_217_22 : mj_at 217 22 = some (.iload_n 2) := by decide +kernel
theorem dx_217_23 : mj_at 217 23 = some (.iconst 5) := by decide +kernel
theorem dx_217_24 : mj_at 217 24 = some (.irem) := by decide +kernel
theorem dx_217_25 : mj_at 217 25 = some (.istore_n 3) := by decide +kernel
theorem dx_217_26 : mj_at 217 26 = some (.iload_n 2) := by decide +kernel
theorem dx_217_27 : mj_at 217 27 = some (.iconst 5) := by decide +kernel
theorem dx_217_28 : mj_at 217 28 = some (.idiv) := by decide +kernel
theorem dx_217_29 : mj_at 217 29 = some (.istore 4) := by decide +kernel
theorem dx_217_31 : mj_at 217 31 = some (.iconst 0) := by decide +kernel
theorem dx_217_32 : mj_at 217 32 = some (.istore 5) := by decide +kernel
theorem dx_217_34 : mj_at 217 34 = some (.iload_n 0) := by decide +kernel
theorem dx_217_35 : mj_at 217 35 = some (.iload_n 3) := by decide +kernel
theorem dx_217_36 : mj_at 217 36 = some (.iload 5) := by decide +kernel
theorem dx_217_38 : mj_at 217 38 = some (.isub) := by decide +kernel
theorem dx_217_39 : mj_at 217 39 = some (.iconst 1) := by decide +kernel
theorem dx_217_40 : mj_at 217 40 = some (.isub) := by decide +kernel
theorem dx_217_41 : mj_at 217 41 = some (.iload 4) := by decide +kernel
theorem dx_217_43 : mj_at 217 43 = some (.invokestatic 362) := by decide +kernel
theorem dx_217_46 : mj_at 217 46 = some (.ifCond .eq 57) := by decide +kernel
theorem dx_217_49 : mj_at 217 49 = some (.iload_n 0) := by decide +kernel
theorem dx_217_50 : mj_at 217 50 = some (.iload_n 3) := by decide +kernel
theorem dx_217_51 : mj_at 217 51 = some (.iload 5) := by decide +kernel
theorem dx_217_53 : mj_at 217 53 = some (.iadd) := by decide +kernel
theorem dx_217_54 : mj_at 217 54 = some (.iconst 1) := by decide +kernel
theorem dx_217_55 : mj_at 217 55 = some (.iadd) := by decide +kernel
theorem dx_217_56 : mj_at 217 56 = some (.iload 4) := by decide +kernel
theorem dx_217_58 : mj_at 217 58 = some (.invokestatic 362) := by decide +kernel
theorem dx_217_61 : mj_at 217 61 = some (.ifCond .eq 42) := by decide +kernel
theorem dx_217_64 : mj_at 217 64 = some (.iload_n 0) := by decide +kernel
theorem dx_217_65 : mj_at 217 65 = some (.iload_n 3) := by decide +kernel
theorem dx_217_66 : mj_at 217 66 = some (.iload 4) := by decide +kernel
theorem dx_217_68 : mj_at 217 68 = some (.iload 5) := by decide +kernel
theorem dx_217_70 : mj_at 217 70 = some (.isub) := by decide +kernel
theorem dx_217_71 : mj_at 217 71 = some (.iconst 1) := by decide +kernel
theorem dx_217_72 : mj_at 217 72 = some (.isub) := by decide +kernel
theorem dx_217_73 : mj_at 217 73 = some (.invokestatic 362) := by decide +kernel
theorem dx_217_76 : mj_at 217 76 = some (.ifCond .eq 27) := by decide +kernel
theorem dx_217_79 : mj_at 217 79 = some (.iload_n 0) := by decide +kernel
theorem dx_217_80 : mj_at 217 80 = some (.iload_n 3) := by decide +kernel
theorem dx_217_81 : mj_at 217 81 = some (.iload 4) := by decide +kernel
theorem dx_217_83 : mj_at 217 83 = some (.iload 5) := by decide +kernel
theorem dx_217_85 : mj_at 217 85 = some (.iadd) := by decide +kernel
theorem dx_217_86 : mj_at 217 86 = some (.iconst 1) := by decide +kernel
theorem dx_217_87 : mj_at 217 87 = some (.iadd) := by decide +kernel
theorem dx_217_88 : mj_at 217 88 = some (.invokestatic 362) := by decide +kernel
theorem dx_217_91 : mj_at 217 91 = some (.ifCond .eq 12) := by decide +kernel
theorem dx_217_94 : mj_at 217 94 = some (.iload 5) := by decide +kernel
theorem dx_217_96 : mj_at 217 96 = some (.iconst 1) := by decide +kernel
theorem dx_217_97 : mj_at 217 97 = some (.iadd) := by decide +kernel
theorem dx_217_98 : mj_at 217 98 = some (.istore 5) := by decide +kernel
theorem dx_217_100 : mj_at 217 100 = some (.goto (-66)) := by decide +kernel
theorem dx_217_103 : mj_at 217 103 = some (.iload_n 1) := by decide +kernel
theorem dx_217_104 : mj_at 217 104 = some (.iload 5) := by decide +kernel
theorem dx_217_106 : mj_at 217 106 = some (.invokestatic 365) := by decide +kernel
theorem dx_217_109 : mj_at 217 109 = some (.istore_n 1) := by decide +kernel
theorem dx_217_110 : mj_at 217 110 = some (.iinc 2 1) := by decide +kernel
theorem dx_217_113 : mj_at 217 113 = some (.goto (-108)) := by decide +kernel
theorem dx_217_116 : mj_at 217 116 = some (.iload_n 1) := by decide +kernel
theorem dx_217_117 : mj_at 217 117 = some (.ireturn) := by decide +kernel
set_option maxRecDepth 10000 in
theorem b_X9_crossOf {sl d : Nat} {M : mj_M} {x1 : Int32}  : mj_C sl (d + 1) 217 [.int x1] M = mj_E sl (d + 1) 217 5 [.int x1, .int (-2), .int 0, .null, .null, .null] [] M := by
  show mj_E sl (d + 1) 217 0 [.int x1, .null, .null, .null, .null, .null] [] M = _
  refine (sx_bipush (v := (-2)) dx_217_0 rfl).trans ?_
  refine (sx_istore_n dx_217_2 (Nat.le_of_ble_eq_true rfl) rfl).trans ?_
  refine (sx_iconst (v := 0) dx_217_3 rfl).trans ?_
  refine (sx_istore_n dx_217_4 (Nat.le_of_ble_eq_true rfl) rfl).trans ?_
  rfl
set_option maxRecDepth 10000 in
theorem b_X9_crossOf_5 {sl d : Nat} {M : mj_M} {y0 : Int32} {y1 : Int32} {y2 : Int32} {w3 : Value} {w4 : Value} {w5 : Value}  : mj_E sl (d + 1) 217 5 [.int y0, .int y1, .int y2, w3, w4, w5] [] M = if y2 < 25 then ((mj_C sl d 127 [.int y0, .int y2] M).bind (fun q1 => if q1.1 = 0 then (mj_E sl (d + 1) 217 5 [.int y0, .int y1, .int (y2 + 1), w3, w4, w5] [] q1.2) else (mj_E sl (d + 1) 217 34 [.int y0, .int y1, .int y2, .int (mj_rm y2 5), .int (y2 / 5), .int 0] [] q1.2))) else (some ((y1 : Int32), M)) := by
  refine (sx_iload_n dx_217_5 rfl).trans ?_
  refine (sx_bipush (v := 25) dx_217_6 rfl).trans ?_
  refine (sx_icmp_ge (tgt := 116) dx_217_8 (by decide)).trans ?_
  refine mj_ite ?_ ?_
  · refine (sx_iload_n dx_217_11 rfl).trans ?_
    refine (sx_iload_n dx_217_12 rfl).trans ?_
    refine (sx_s2i dx_217_13 ow_217 cx_7_254 (Nat.le_of_ble_eq_true rfl)).trans ?_
    refine mj_bnd (fun q1 => ?_)
    refine (sx_if_ne (tgt := 22) dx_217_16 (by decide)).trans ?_
    refine mj_ite ?_ ?_
    · refine (sx_goto (tgt := 110) dx_217_19 (by decide)).trans ?_
      refine (sx_iinc (v := 1) dx_217_110 rfl rfl rfl).trans ?_
      refine (sx_goto (tgt := 5) dx_217_113 (by decide)).trans ?_
      rfl
    · refine (sx_iload_n dx_217_22 rfl).trans ?_
      refine (sx_iconst (v := 5) dx_217_23 rfl).trans ?_
      refine (sx_irem dx_217_24 (by decide)).trans ?_
      refine (sx_istore_n dx_217_25 (Nat.le_of_ble_eq_true rfl) rfl).trans ?_
      refine (sx_iload_n dx_217_26 rfl).trans ?_
      refine (sx_iconst (v := 5) dx_217_27 rfl).trans ?_
      refine (sx_idiv dx_217_28 (by decide)).trans ?_
      refine (sx_istore dx_217_29 (Nat.le_of_ble_eq_true rfl) rfl).trans ?_
      refine (sx_iconst (v := 0) dx_217_31 rfl).trans ?_
      refine (sx_istore dx_217_32 (Nat.le_of_ble_eq_true rfl) rfl).trans ?_
      rfl
  · refine (sx_iload_n dx_217_116 rfl).trans ?_
    exact sx_reti dx_217_117 rt_217
set_option maxRecDepth 10000 in
theorem b_X9_crossOf_34 {sl d : Nat} {M : mj_M} {y0 : Int32} {y1 : Int32} {y2 : Int32} {y3 : Int32} {y4 : Int32} {y5 : Int32}  : mj_E sl (d + 1) 217 34 [.int y0, .int y1, .int y2, .int y3, .int y4, .int y5] [] M = (mj_C sl d 216 [.int y0, .int ((y3 - y5) - 1), .int y4] M).bind (fun q1 => if q1.1 = 0 then ((mj_C sl d 126 [.int y1, .int y5] q1.2).bind (fun q2 => mj_E sl (d + 1) 217 5 [.int y0, .int q2.1, .int (y2 + 1), .int y3, .int y4, .int y5] [] q2.2)) else ((mj_C sl d 216 [.int y0, .int ((y3 + y5) + 1), .int y4] q1.2).bind (fun q3 => if q3.1 = 0 then ((mj_C sl d 126 [.int y1, .int y5] q3.2).bind (fun q4 => mj_E sl (d + 1) 217 5 [.int y0, .int q4.1, .int (y2 + 1), .int y3, .int y4, .int y5] [] q4.2)) else ((mj_C sl d 216 [.int y0, .int y3, .int ((y4 - y5) - 1)] q3.2).bind (fun q5 => if q5.1 = 0 then ((mj_C sl d 126 [.int y1, .int y5] q5.2).bind (fun q6 => mj_E sl (d + 1) 217 5 [.int y0, .int q6.1, .int (y2 + 1), .int y3, .int y4, .int y5] [] q6.2)) else ((mj_C sl d 216 [.int y0, .int y3, .int ((y4 + y5) + 1)] q5.2).bind (fun q7 => if q7.1 = 0 then ((mj_C sl d 126 [.int y1, .int y5] q7.2).bind (fun q8 => mj_E sl (d + 1) 217 5 [.int y0, .int q8.1, .int (y2 + 1), .int y3, .int y4, .int y5] [] q8.2)) else (mj_E sl (d + 1) 217 34 [.int y0, .int y1, .int y2, .int y3, .int y4, .int (y5 + 1)] [] q7.2)))))))) := by
  refine (sx_iload_n dx_217_34 rfl).trans ?_
  refine (sx_iload_n dx_217_35 rfl).trans ?_
  refine (sx_iload dx_217_36 rfl).trans ?_
  refine (sx_isub dx_217_38).trans ?_
  refine (sx_iconst (v := 1) dx_217_39 rfl).trans ?_
  refine (sx_isub dx_217_40).trans ?_
  refine (sx_iload dx_217_41 rfl).trans ?_
  refine (sx_s3i dx_217_43 ow_217 cx_7_362 (Nat.le_of_ble_eq_true rfl)).trans ?_
  refine mj_bnd (fun q1 => ?_)
  refine (sx_if_eq (tgt := 103) dx_217_46 (by decide)).trans ?_
  refine mj_ite ?_ ?_
  · refine (sx_iload_n dx_217_103 rfl).trans ?_
    refine (sx_iload dx_217_104 rfl).trans ?_
    refine (sx_s2i dx_217_106 ow_217 cx_7_365 (Nat.le_of_ble_eq_true rfl)).trans ?_
    refine mj_bnd (fun q2 => ?_)
    refine (sx_istore_n dx_217_109 (Nat.le_of_ble_eq_true rfl) rfl).trans ?_
    refine (sx_iinc (v := 1) dx_217_110 rfl rfl rfl).trans ?_
    refine (sx_goto (tgt := 5) dx_217_113 (by decide)).trans ?_
    rfl
  · refine (sx_iload_n dx_217_49 rfl).trans ?_
    refine (sx_iload_n dx_217_50 rfl).trans ?_
    refine (sx_iload dx_217_51 rfl).trans ?_
    refine (sx_iadd dx_217_53).trans ?_
    refine (sx_iconst (v := 1) dx_217_54 rfl).trans ?_
    refine (sx_iadd dx_217_55).trans ?_
    refine (sx_iload dx_217_56 rfl).trans ?_
    refine (sx_s3i dx_217_58 ow_217 cx_7_362 (Nat.le_of_ble_eq_true rfl)).trans ?_
    refine mj_bnd (fun q3 => ?_)
    refine (sx_if_eq (tgt := 103) dx_217_61 (by decide)).trans ?_
    refine mj_ite ?_ ?_
    · refine (sx_iload_n dx_217_103 rfl).trans ?_
      refine (sx_iload dx_217_104 rfl).trans ?_
      refine (sx_s2i dx_217_106 ow_217 cx_7_365 (Nat.le_of_ble_eq_true rfl)).trans ?_
      refine mj_bnd (fun q4 => ?_)
      refine (sx_istore_n dx_217_109 (Nat.le_of_ble_eq_true rfl) rfl).trans ?_
      refine (sx_iinc (v := 1) dx_217_110 rfl rfl rfl).trans ?_
      refine (sx_goto (tgt := 5) dx_217_113 (by decide)).trans ?_
      rfl
    · refine (sx_iload_n dx_217_64 rfl).trans ?_
      refine (sx_iload_n dx_217_65 rfl).trans ?_
      refine (sx_iload dx_217_66 rfl).trans ?_
      refine (sx_iload dx_217_68 rfl).trans ?_
      refine (sx_isub dx_217_70).trans ?_
      refine (sx_iconst (v := 1) dx_217_71 rfl).trans ?_
      refine (sx_isub dx_217_72).trans ?_
      refine (sx_s3i dx_217_73 ow_217 cx_7_362 (Nat.le_of_ble_eq_true rfl)).trans ?_
      refine mj_bnd (fun q5 => ?_)
      refine (sx_if_eq (tgt := 103) dx_217_76 (by decide)).trans ?_
      refine mj_ite ?_ ?_
      · refine (sx_iload_n dx_217_103 rfl).trans ?_
        refine (sx_iload dx_217_104 rfl).trans ?_
        refine (sx_s2i dx_217_106 ow_217 cx_7_365 (Nat.le_of_ble_eq_true rfl)).trans ?_
        refine mj_bnd (fun q6 => ?_)
        refine (sx_istore_n dx_217_109 (Nat.le_of_ble_eq_true rfl) rfl).trans ?_
        refine (sx_iinc (v := 1) dx_217_110 rfl rfl rfl).trans ?_
        refine (sx_goto (tgt := 5) dx_217_113 (by decide)).trans ?_
        rfl
      · refine (sx_iload_n dx_217_79 rfl).trans ?_
        refine (sx_iload_n dx_217_80 rfl).trans ?_
        refine (sx_iload dx_217_81 rfl).trans ?_
        refine (sx_iload dx_217_83 rfl).trans ?_
        refine (sx_iadd dx_217_85).trans ?_
        refine (sx_iconst (v := 1) dx_217_86 rfl).trans ?_
        refine (sx_iadd dx_217_87).trans ?_
        refine (sx_s3i dx_217_88 ow_217 cx_7_362 (Nat.le_of_ble_eq_true rfl)).trans ?_
        refine mj_bnd (fun q7 => ?_)
        refine (sx_if_eq (tgt := 103) dx_217_91 (by decide)).trans ?_
        refine mj_ite ?_ ?_
        · refine (sx_iload_n dx_217_103 rfl).trans ?_
          refine (sx_iload dx_217_104 rfl).trans ?_
          refine (sx_s2i dx_217_106 ow_217 cx_7_365 (Nat.le_of_ble_eq_true rfl)).trans ?_
          refine mj_bnd (fun q8 => ?_)
          refine (sx_istore_n dx_217_109 (Nat.le_of_ble_eq_true rfl) rfl).trans ?_
          refine (sx_iinc (v := 1) dx_217_110 rfl rfl rfl).trans ?_
          refine (sx_goto (tgt := 5) dx_217_113 (by decide)).trans ?_
          rfl
        · refine (sx_iload dx_217_94 rfl).trans ?_
          refine (sx_iconst (v := 1) dx_217_96 rfl).trans ?_
          refine (sx_iadd dx_217_97).trans ?_
          refine (sx_istore dx_217_98 (Nat.le_of_ble_eq_true rfl) rfl).trans ?_
          refine (sx_goto (tgt := 34) dx_217_100 (by decide)).trans ?_
          rfl
theorem dx_218_0 : mj_at 218 0 = some (.iload_n 1) := by decide +kernel
theorem dx_218_1 : mj_at 218 1 = some (.iconst 5) := by decide +kernel
theorem dx_218_2 : mj_at 218 2 = some (.irem) := by decide +kernel
theorem dx_218_3 : mj_at 218 3 = some (.istore_n 2) := by decide +kernel
theorem dx_218_4 : mj_at 218 4 = some (.iload_n 1) := by decide +kernel
theorem dx_218_5 : mj_at 218 5 = some (.iconst 5) := by decide +kernel
theorem dx_218_6 : mj_at 218 6 = some (.idiv) := by decide +kernel
theorem dx_218_7 : mj_at 218 7 = some (.istore_n 3) := by decide +kernel
theorem dx_218_8 : mj_at 218 8 = some (.iload_n 0) := by decide +kernel
theorem dx_218_9 : mj_at 218 9 = some (.iload_n 2) := by decide +kernel
theorem dx_218_10 : mj_at 218 10 = some (.iconst 1) := by decide +kernel
theorem dx_218_11 : mj_at 218 11 = some (.isub) := by decide +kernel
theorem dx_218_12 : mj_at 218 12 = some (.iload_n 3) := by decide +kernel
theorem dx_218_13 : mj_at 218 13 = some (.invokestatic 362) := by decide +kernel
theorem dx_218_16 : mj_at 218 16 = some (.ifCond .eq 7) := by decide +kernel
theorem dx_218_19 : mj_at 218 19 = some (.iconst 1) := by decide +kernel
theorem dx_218_20 : mj_at 218 20 = some (.goto 4) := by decide +kernel
theorem dx_218_23 : mj_at 218 23 = some (.iconst 0) := by decide +kernel
theorem dx_218_24 : mj_at 218 24 = some (.iload_n 0) := by decide +kernel
theorem dx_218_25 : mj_at 218 25 = some (.iload_n 2) := by decide +kernel
theorem dx_218_26 : mj_at 218 26 = some (.iconst 1) := by decide +kernel
theorem dx_218_27 : mj_at 218 27 = some (.iadd) := by decide +kernel
theorem dx_218_28 : mj_at 218 28 = some (.iload_n 3) := by decide +kernel
theorem dx_218_29 : mj_at 218 29 = some (.invokestatic 362) := by decide +kernel
theorem dx_218_32 : mj_at 218 32 = some (.ifCond .eq 7) := by decide +kernel
theorem dx_218_35 : mj_at 218 35 = some (.iconst 1) := by decide +kernel
theorem dx_218_36 : mj_at 218 36 = some (.goto 4) := by decide +kernel
theorem dx_218_39 : mj_at 218 39 = some (.iconst 0) := by decide +kernel
theorem dx_218_40 : mj_at 218 40 = some (.iadd) := by decide +kernel
theorem dx_218_41 : mj_at 218 41 = some (.iload_n 0) := by decide +kernel
theorem dx_218_42 : mj_at 218 42 = some (.iload_n 2) := by decide +kernel
theorem dx_218_43 : mj_at 218 43 = some (.iload_n 3) := by decide +kernel
theorem dx_218_44 : mj_at 218 44 = some (.iconst 1) := by decide +kernel
theorem dx_218_45 : mj_at 218 45 = some (.isub) := by decide +kernel
theorem dx_218_46 : mj_at 218 46 = some (.invokestatic 362) := by decide +kernel
theorem dx_218_49 : mj_at 218 49 = some (.ifCond .eq 7) := by decide +kernel
theorem dx_218_52 : mj_at 218 52 = some (.iconst 1) := by decide +kernel
theorem dx_218_53 : mj_at 218 53 = some (.goto 4) := by decide +kernel
theorem dx_218_56 : mj_at 218 56 = some (.iconst 0) := by decide +kernel
theorem dx_218_57 : mj_at 218 57 = some (.iadd) := by decide +kernel
theorem dx_218_58 : mj_at 218 58 = some (.iload_n 0) := by decide +kernel
theorem dx_218_59 : mj_at 218 59 = some (.iload_n 2) := by decide +kernel
theorem dx_218_60 : mj_at 218 60 = some (.iload_n 3) := by decide +kernel
theorem dx_218_61 : mj_at 218 61 = some (.iconst 1) := by decide +kernel
theorem dx_218_62 : mj_at 218 62 = some (.iadd) := by decide +kernel
theorem dx_218_63 : mj_at 218 63 = some (.invokestatic 362) := by decide +kernel
theorem dx_218_66 : mj_at 218 66 = some (.ifCond .eq 7) := by decide +kernel
theorem dx_218_69 : mj_at 218 69 = some (.iconst 1) := by decide +kernel
theorem dx_218_70 : mj_at 218 70 = some (.goto 4) := by decide +kernel
theorem dx_218_73 : mj_at 218 73 = some (.iconst 0) := by decide +kernel
theorem dx_218_74 : mj_at 218 74 = some (.iadd) := by decide +kernel
theorem dx_218_75 : mj_at 218 75 = some (.ireturn) := by decide +kernel
set_option maxRecDepth 10000 in
theorem b_X9_neighbours {sl d : Nat} {M : mj_M} {x1 : Int32} {x2 : Int32}  : mj_C sl (d + 1) 218 [.int x1, .int x2] M = (mj_C sl d 216 [.int x1, .int ((mj_rm x2 5) - 1), .int (x2 / 5)] M).bind (fun q1 => if q1.1 = 0 then ((mj_C sl d 216 [.int x1, .int ((mj_rm x2 5) + 1), .int (x2 / 5)] q1.2).bind (fun q2 => if q2.1 = 0 then ((mj_C sl d 216 [.int x1, .int (mj_rm x2 5), .int ((x2 / 5) - 1)] q2.2).bind (fun q3 => if q3.1 = 0 then ((mj_C sl d 216 [.int x1, .int (mj_rm x2 5), .int ((x2 / 5) + 1)] q3.2).bind (fun q4 => if q4.1 = 0 then (some (((((0 : Int32) + (0 : Int32)) + 0) + 0 : Int32), q4.2)) else (some (((((0 : Int32) + (0 : Int32)) + 0) + 1 : Int32), q4.2)))) else ((mj_C sl d 216 [.int x1, .int (mj_rm x2 5), .int ((x2 / 5) + 1)] q3.2).bind (fun q5 => if q5.1 = 0 then (some (((((0 : Int32) + (0 : Int32)) + 1) + 0 : Int32), q5.2)) else (some (((((0 : Int32) + (0 : Int32)) + 1) + 1 : Int32), q5.2)))))) else ((mj_C sl d 216 [.int x1, .int (mj_rm x2 5), .int ((x2 / 5) - 1)] q2.2).bind (fun q6 => if q6.1 = 0 then ((mj_C sl d 216 [.int x1, .int (mj_rm x2 5), .int ((x2 / 5) + 1)] q6.2).bind (fun q7 => if q7.1 = 0 then (some (((((0 : Int32) + (1 : Int32)) + 0) + 0 : Int32), q7.2)) else (some (((((0 : Int32) + (1 : Int32)) + 0) + 1 : Int32), q7.2)))) else ((mj_C sl d 216 [.int x1, .int (mj_rm x2 5), .int ((x2 / 5) + 1)] q6.2).bind (fun q8 => if q8.1 = 0 then (some (((((0 : Int32) + (1 : Int32)) + 1) + 0 : Int32), q8.2)) else (some (((((0 : Int32) + (1 : Int32)) + 1) + 1 : Int32), q8.2)))))))) else ((mj_C sl d 216 [.int x1, .int ((mj_rm x2 5) + 1), .int (x2 / 5)] q1.2).bind (fun q9 => if q9.1 = 0 then ((mj_C sl d 216 [.int x1, .int (mj_rm x2 5), .int ((x2 / 5) - 1)] q9.2).bind (fun q10 => if q10.1 = 0 then ((mj_C sl d 216 [.int x1, .int (mj_rm x2 5), .int ((x2 / 5) + 1)] q10.2).bind (fun q11 => if q11.1 = 0 then (some (((((1 : Int32) + (0 : Int32)) + 0) + 0 : Int32), q11.2)) else (some (((((1 : Int32) + (0 : Int32)) + 0) + 1 : Int32), q11.2)))) else ((mj_C sl d 216 [.int x1, .int (mj_rm x2 5), .int ((x2 / 5) + 1)] q10.2).bind (fun q12 => if q12.1 = 0 then (some (((((1 : Int32) + (0 : Int32)) + 1) + 0 : Int32), q12.2)) else (some (((((1 : Int32) + (0 : Int32)) + 1) + 1 : Int32), q12.2)))))) else ((mj_C sl d 216 [.int x1, .int (mj_rm x2 5), .int ((x2 / 5) - 1)] q9.2).bind (fun q13 => if q13.1 = 0 then ((mj_C sl d 216 [.int x1, .int (mj_rm x2 5), .int ((x2 / 5) + 1)] q13.2).bind (fun q14 => if q14.1 = 0 then (some (((((1 : Int32) + (1 : Int32)) + 0) + 0 : Int32), q14.2)) else (some (((((1 : Int32) + (1 : Int32)) + 0) + 1 : Int32), q14.2)))) else ((mj_C sl d 216 [.int x1, .int (mj_rm x2 5), .int ((x2 / 5) + 1)] q13.2).bind (fun q15 => if q15.1 = 0 then (some (((((1 : Int32) + (1 : Int32)) + 1) + 0 : Int32), q15.2)) else (some (((((1 : Int32) + (1 : Int32)) + 1) + 1 : Int32), q15.2))))))))) := by
  show mj_E sl (d + 1) 218 0 [.int x1, .int x2, .null, .null] [] M = _
  refine (sx_iload_n dx_218_0 rfl).trans ?_
  refine (sx_iconst (v := 5) dx_218_1 rfl).trans ?_
  refine (sx_irem dx_218_2 (by decide)).trans ?_
  refine (sx_istore_n dx_218_3 (Nat.le_of_ble_eq_true rfl) rfl).trans ?_
  refine (sx_iload_n dx_218_4 rfl).trans ?_
  refine (sx_iconst (v := 5) dx_218_5 rfl).trans ?_
  refine (sx_idiv dx_218_6 (by decide)).trans ?_
  refine (sx_istore_n dx_218_7 (Nat.le_of_ble_eq_true rfl) rfl).trans ?_
  refine (sx_iload_n dx_218_8 rfl).trans ?_
  refine (sx_iload_n dx_218_9 rfl).trans ?_
  refine (sx_iconst (v := 1) dx_218_10 rfl).trans ?_
  refine (sx_isub dx_218_11).trans ?_
  refine (sx_iload_n dx_218_12 rfl).trans ?_
  refine (sx_s3i dx_218_13 ow_218 cx_7_362 (Nat.le_of_ble_eq_true rfl)).trans ?_
  refine mj_bnd (fun q1 => ?_)
  refine (sx_if_eq (tgt := 23) dx_218_16 (by decide)).trans ?_
  refine mj_ite ?_ ?_
  · refine (sx_iconst (v := 0) dx_218_23 rfl).trans ?_
    refine (sx_iload_n dx_218_24 rfl).trans ?_
    refine (sx_iload_n dx_218_25 rfl).trans ?_
    refine (sx_iconst (v := 1) dx_218_26 rfl).trans ?_
    refine (sx_iadd dx_218_27).trans ?_
    refine (sx_iload_n dx_218_28 rfl).trans ?_
    refine (sx_s3i dx_218_29 ow_218 cx_7_362 (Nat.le_of_ble_eq_true rfl)).trans ?_
    refine mj_bnd (fun q2 => ?_)
    refine (sx_if_eq (tgt := 39) dx_218_32 (by decide)).trans ?_
    refine mj_ite ?_ ?_
    · refine (sx_iconst (v := 0) dx_218_39 rfl).trans ?_
      refine (sx_iadd dx_218_40).trans ?_
      refine (sx_iload_n dx_218_41 rfl).trans ?_
      refine (sx_iload_n dx_218_42 rfl).trans ?_
      refine (sx_iload_n dx_218_43 rfl).trans ?_
      refine (sx_iconst (v := 1) dx_218_44 rfl).trans ?_
      refine (sx_isub dx_218_45).trans ?_
      refine (sx_s3i dx_218_46 ow_218 cx_7_362 (Nat.le_of_ble_eq_true rfl)).trans ?_
      refine mj_bnd (fun q3 => ?_)
      refine (sx_if_eq (tgt := 56) dx_218_49 (by decide)).trans ?_
      refine mj_ite ?_ ?_
      · refine (sx_iconst (v := 0) dx_218_56 rfl).trans ?_
        refine (sx_iadd dx_218_57).trans ?_
        refine (sx_iload_n dx_218_58 rfl).trans ?_
        refine (sx_iload_n dx_218_59 rfl).trans ?_
        refine (sx_iload_n dx_218_60 rfl).trans ?_
        refine (sx_iconst (v := 1) dx_218_61 rfl).trans ?_
        refine (sx_iadd dx_218_62).trans ?_
        refine (sx_s3i dx_218_63 ow_218 cx_7_362 (Nat.le_of_ble_eq_true rfl)).trans ?_
        refine mj_bnd (fun q4 => ?_)
        refine (sx_if_eq (tgt := 73) dx_218_66 (by decide)).trans ?_
        refine mj_ite ?_ ?_
        · refine (sx_iconst (v := 0) dx_218_73 rfl).trans ?_
          refine (sx_iadd dx_218_74).trans ?_
          exact sx_reti dx_218_75 rt_218
        · refine (sx_iconst (v := 1) dx_218_69 rfl).trans ?_
          refine (sx_goto (tgt := 74) dx_218_70 (by decide)).trans ?_
          refine (sx_iadd dx_218_74).trans ?_
          exact sx_reti dx_218_75 rt_218
      · refine (sx_iconst (v := 1) dx_218_52 rfl).trans ?_
        refine (sx_goto (tgt := 57) dx_218_53 (by decide)).trans ?_
        refine (sx_iadd dx_218_57).trans ?_
        refine (sx_iload_n dx_218_58 rfl).trans ?_
        refine (sx_iload_n dx_218_59 rfl).trans ?_
        refine (sx_iload_n dx_218_60 rfl).trans ?_
        refine (sx_iconst (v := 1) dx_218_61 rfl).trans ?_
        refine (sx_iadd dx_218_62).trans ?_
        refine (sx_s3i dx_218_63 ow_218 cx_7_362 (Nat.le_of_ble_eq_true rfl)).trans ?_
        refine mj_bnd (fun q5 => ?_)
        refine (sx_if_eq (tgt := 73) dx_218_66 (by decide)).trans ?_
        refine mj_ite ?_ ?_
        · refine (sx_iconst (v := 0) dx_218_73 rfl).trans ?_
          refine (sx_iadd dx_218_74).trans ?_
          exact sx_reti dx_218_75 rt_218
        · refine (sx_iconst (v := 1) dx_218_69 rfl).trans ?_
          refine (sx_goto (tgt := 74) dx_218_70 (by decide)).trans ?_
          refine (sx_iadd dx_218_74).trans ?_
          exact sx_reti dx_218_75 rt_218
    · refine (sx_iconst (v := 1) dx_218_35 rfl).trans ?_
      refine (sx_goto (tgt := 40) dx_218_36 (by decide)).trans ?_
      refine (sx_iadd dx_218_40).trans ?_
      refine (sx_iload_n dx_218_41 rfl).trans ?_
      refine (sx_iload_n dx_218_42 rfl).trans ?_
      refine (sx_iload_n dx_218_43 rfl).trans ?_
      refine (sx_iconst (v := 1) dx_218_44 rfl).trans ?_
      refine (sx_isub dx_218_45).trans ?_
      refine (sx_s3i dx_218_46 ow_218 cx_7_362 (Nat.le_of_ble_eq_true rfl)).trans ?_
      refine mj_bnd (fun q6 => ?_)
      refine (sx_if_eq (tgt := 56) dx_218_49 (by decide)).trans ?_
      refine mj_ite ?_ ?_
      · refine (sx_iconst (v := 0) dx_218_56 rfl).trans ?_
        refine (sx_iadd dx_218_57).trans ?_
        refine (sx_iload_n dx_218_58 rfl).trans ?_
        refine (sx_iload_n dx_218_59 rfl).trans ?_
        refine (sx_iload_n dx_218_60 rfl).trans ?_
        refine (sx_iconst (v := 1) dx_218_61 rfl).trans ?_
        refine (sx_iadd dx_218_62).trans ?_
        refine (sx_s3i dx_218_63 ow_218 cx_7_362 (Nat.le_of_ble_eq_true rfl)).trans ?_
        refine mj_bnd (fun q7 => ?_)
        refine (sx_if_eq (tgt := 73) dx_218_66 (by decide)).trans ?_
        refine mj_ite ?_ ?_
        · refine (sx_iconst (v := 0) dx_218_73 rfl).trans ?_
          refine (sx_iadd dx_218_74).trans ?_
          exact sx_reti dx_218_75 rt_218
        · refine (sx_iconst (v := 1) dx_218_69 rfl).trans ?_
          refine (sx_goto (tgt := 74) dx_218_70 (by decide)).trans ?_
          refine (sx_iadd dx_218_74).trans ?_
          exact sx_reti dx_218_75 rt_218
      · refine (sx_iconst (v := 1) dx_218_52 rfl).trans ?_
        refine (sx_goto (tgt := 57) dx_218_53 (by decide)).trans ?_
        refine (sx_iadd dx_218_57).trans ?_
        refine (sx_iload_n dx_218_58 rfl).trans ?_
        refine (sx_iload_n dx_218_59 rfl).trans ?_
        refine (sx_iload_n dx_218_60 rfl).trans ?_
        refine (sx_iconst (v := 1) dx_218_61 rfl).trans ?_
        refine (sx_iadd dx_218_62).trans ?_
        refine (sx_s3i dx_218_63 ow_218 cx_7_362 (Nat.le_of_ble_eq_true rfl)).trans ?_
        refine mj_bnd (fun q8 => ?_)
        refine (sx_if_eq (tgt := 73) dx_218_66 (by decide)).trans ?_
        refine mj_ite ?_ ?_
        · refine (sx_iconst (v := 0) dx_218_73 rfl).trans ?_
          refine (sx_iadd dx_218_74).trans ?_
          exact sx_reti dx_218_75 rt_218
        · refine (sx_iconst (v := 1) dx_218_69 rfl).trans ?_
          refine (sx_goto (tgt := 74) dx_218_70 (by decide)).trans ?_
          refine (sx_iadd dx_218_74).trans ?_
          exact sx_reti dx_218_75 rt_218
  · refine (sx_iconst (v := 1) dx_218_19 rfl).trans ?_
    refine (sx_goto (tgt := 24) dx_218_20 (by decide)).trans ?_
    refine (sx_iload_n dx_218_24 rfl).trans ?_
    refine (sx_iload_n dx_218_25 rfl).trans ?_
    refine (sx_iconst (v := 1) dx_218_26 rfl).trans ?_
    refine (sx_iadd dx_218_27).trans ?_
    refine (sx_iload_n dx_218_28 rfl).trans ?_
    refine (sx_s3i dx_218_29 ow_218 cx_7_362 (Nat.le_of_ble_eq_true rfl)).trans ?_
    refine mj_bnd (fun q9 => ?_)
    refine (sx_if_eq (tgt := 39) dx_218_32 (by decide)).trans ?_
    refine mj_ite ?_ ?_
    · refine (sx_iconst (v := 0) dx_218_39 rfl).trans ?_
      refine (sx_iadd dx_218_40).trans ?_
      refine (sx_iload_n dx_218_41 rfl).trans ?_
      refine (sx_iload_n dx_218_42 rfl).trans ?_
      refine (sx_iload_n dx_218_43 rfl).trans ?_
      refine (sx_iconst (v := 1) dx_218_44 rfl).trans ?_
      refine (sx_isub dx_218_45).trans ?_
      refine (sx_s3i dx_218_46 ow_218 cx_7_362 (Nat.le_of_ble_eq_true rfl)).trans ?_
      refine mj_bnd (fun q10 => ?_)
      refine (sx_if_eq (tgt := 56) dx_218_49 (by decide)).trans ?_
      refine mj_ite ?_ ?_
      · refine (sx_iconst (v := 0) dx_218_56 rfl).trans ?_
        refine (sx_iadd dx_218_57).trans ?_
        refine (sx_iload_n dx_218_58 rfl).trans ?_
        refine (sx_iload_n dx_218_59 rfl).trans ?_
        refine (sx_iload_n dx_218_60 rfl).trans ?_
        refine (sx_iconst (v := 1) dx_218_61 rfl).trans ?_
        refine (sx_iadd dx_218_62).trans ?_
        refine (sx_s3i dx_218_63 ow_218 cx_7_362 (Nat.le_of_ble_eq_true rfl)).trans ?_
        refine mj_bnd (fun q11 => ?_)
        refine (sx_if_eq (tgt := 73) dx_218_66 (by decide)).trans ?_
        refine mj_ite ?_ ?_
        · refine (sx_iconst (v := 0) dx_218_73 rfl).trans ?_
          refine (sx_iadd dx_218_74).trans ?_
          exact sx_reti dx_218_75 rt_218
        · refine (sx_iconst (v := 1) dx_218_69 rfl).trans ?_
          refine (sx_goto (tgt := 74) dx_218_70 (by decide)).trans ?_
          refine (sx_iadd dx_218_74).trans ?_
          exact sx_reti dx_218_75 rt_218
      · refine (sx_iconst (v := 1) dx_218_52 rfl).trans ?_
        refine (sx_goto (tgt := 57) dx_218_53 (by decide)).trans ?_
        refine (sx_iadd dx_218_57).trans ?_
        refine (sx_iload_n dx_218_58 rfl).trans ?_
        refine (sx_iload_n dx_218_59 rfl).trans ?_
        refine (sx_iload_n dx_218_60 rfl).trans ?_
        refine (sx_iconst (v := 1) dx_218_61 rfl).trans ?_
        refine (sx_iadd dx_218_62).trans ?_
        refine (sx_s3i dx_218_63 ow_218 cx_7_362 (Nat.le_of_ble_eq_true rfl)).trans ?_
        refine mj_bnd (fun q12 => ?_)
        refine (sx_if_eq (tgt := 73) dx_218_66 (by decide)).trans ?_
        refine mj_ite ?_ ?_
        · refine (sx_iconst (v := 0) dx_218_73 rfl).trans ?_
          refine (sx_iadd dx_218_74).trans ?_
          exact sx_reti dx_218_75 rt_218
        · refine (sx_iconst (v := 1) dx_218_69 rfl).trans ?_
          refine (sx_goto (tgt := 74) dx_218_70 (by decide)).trans ?_
          refine (sx_iadd dx_218_74).trans ?_
          exact sx_reti dx_218_75 rt_218
    · refine (sx_iconst (v := 1) dx_218_35 rfl).trans ?_
      refine (sx_goto (tgt := 40) dx_218_36 (by decide)).trans ?_
      refine (sx_iadd dx_218_40).trans ?_
      refine (sx_iload_n dx_218_41 rfl).trans ?_
      refine (sx_iload_n dx_218_42 rfl).trans ?_
      refine (sx_iload_n dx_218_43 rfl).trans ?_
      refine (sx_iconst (v := 1) dx_218_44 rfl).trans ?_
      refine (sx_isub dx_218_45).trans ?_
      refine (sx_s3i dx_218_46 ow_218 cx_7_362 (Nat.le_of_ble_eq_true rfl)).trans ?_
      refine mj_bnd (fun q13 => ?_)
      refine (sx_if_eq (tgt := 56) dx_218_49 (by decide)).trans ?_
      refine mj_ite ?_ ?_
      · refine (sx_iconst (v := 0) dx_218_56 rfl).trans ?_
        refine (sx_iadd dx_218_57).trans ?_
        refine (sx_iload_n dx_218_58 rfl).trans ?_
        refine (sx_iload_n dx_218_59 rfl).trans ?_
        refine (sx_iload_n dx_218_60 rfl).trans ?_
        refine (sx_iconst (v := 1) dx_218_61 rfl).trans ?_
        refine (sx_iadd dx_218_62).trans ?_
        refine (sx_s3i dx_218_63 ow_218 cx_7_362 (Nat.le_of_ble_eq_true rfl)).trans ?_
        refine mj_bnd (fun q14 => ?_)
        refine (sx_if_eq (tgt := 73) dx_218_66 (by decide)).trans ?_
        refine mj_ite ?_ ?_
        · refine (sx_iconst (v := 0) dx_218_73 rfl).trans ?_
          refine (sx_iadd dx_218_74).trans ?_
          exact sx_reti dx_218_75 rt_218
        · refine (sx_iconst (v := 1) dx_218_69 rfl).trans ?_
          refine (sx_goto (tgt := 74) dx_218_70 (by decide)).trans ?_
          refine (sx_iadd dx_218_74).trans ?_
          exact sx_reti dx_218_75 rt_218
      · refine (sx_iconst (v := 1) dx_218_52 rfl).trans ?_
        refine (sx_goto (tgt := 57) dx_218_53 (by decide)).trans ?_
        refine (sx_iadd dx_218_57).trans ?_
        refine (sx_iload_n dx_218_58 rfl).trans ?_
        refine (sx_iload_n dx_218_59 rfl).trans ?_
        refine (sx_iload_n dx_218_60 rfl).trans ?_
        refine (sx_iconst (v := 1) dx_218_61 rfl).trans ?_
        refine (sx_iadd dx_218_62).trans ?_
        refine (sx_s3i dx_218_63 ow_218 cx_7_362 (Nat.le_of_ble_eq_true rfl)).trans ?_
        refine mj_bnd (fun q15 => ?_)
        refine (sx_if_eq (tgt := 73) dx_218_66 (by decide)).trans ?_
        refine mj_ite ?_ ?_
        · refine (sx_iconst (v := 0) dx_218_73 rfl).trans ?_
          refine (sx_iadd dx_218_74).trans ?_
          exact sx_reti dx_218_75 rt_218
        · refine (sx_iconst (v := 1) dx_218_69 rfl).trans ?_
          refine (sx_goto (tgt := 74) dx_218_70 (by decide)).trans ?_
          refine (sx_iadd dx_218_74).trans ?_
          exact sx_reti dx_218_75 rt_218
theorem dx_219_0 : mj_at 219 0 = some (.iload_n 0) := by decide +kernel
theorem dx_219_1 : mj_at 219 1 = some (.istore_n 1) := by decide +kernel
theorem dx_219_2 : mj_at 219 2 = some (.iconst 0) := by decide +kernel
theorem dx_219_3 : mj_at 219 3 = some (.istore_n 2) := by decide +kernel
theorem dx_219_4 : mj_at 219 4 = some (.iconst 0) := by decide +kernel
theorem dx_219_5 : mj_at 219 5 = some (.istore_n 3) := by decide +kernel
theorem dx_219_6 : mj_at 219 6 = some (.iload_n 3) := by decide +kernel
theorem dx_219_7 : mj_at 219 7 = some (.bipush 25) := by decide +kernel
theorem dx_219_9 : mj_at 219 9 = some (.if_icmp .ge 93) := by decide +kernel
theorem dx_219_12 : mj_at 219 12 = some (.iload_n 1) := by decide +kernel
theorem dx_219_13 : mj_at 219 13 = some (.iload_n 3) := by decide +kernel
theorem dx_219_14 : mj_at 219 14 = some (.invokestatic 254) := by decide +kernel
theorem dx_219_17 : mj_at 219 17 = some (.ifCond .ne 6) := by decide +kernel
theorem dx_219_20 : mj_at 219 20 = some (.goto 76) := by decide +kernel
theorem dx_219_23 : mj_at 219 23 = some (.iload_n 0) := by decide +kernel
theorem dx_219_24 : mj_at 219 24 = some (.iload_n 3) := by decide +kernel
theorem dx_219_25 : mj_at 219 25 = some (.iconst 0) := by decide +kernel
theorem dx_219_26 : mj_at 219 26 = some (.invokestatic 355) := by decide +kernel
theorem dx_219_29 : mj_at 219 29 = some (.istore 4) := by decide +kernel
theorem dx_219_31 : mj_at 219 31 = some (.iconst 0) := by decide +kernel
theorem dx_219_32 : mj_at 219 32 = some (.istore 5) := by decide +kernel
theorem dx_219_34 : mj_at 219 34 = some (.iconst 0) := by decide +kernel
theorem dx_219_35 : mj_at 219 35 = some (.istore 6) := by decide +kernel
theorem dx_219_37 : mj_at 219 37 = some (.iload 6) := by decide +kernel
theorem dx_219_39 : mj_at 219 39 = some (.bipush 25) := by decide +kernel
theorem dx_219_41 : mj_at 219 41 = some (.if_icmp .ge 37) := by decide +kernel
theorem dx_219_44 : mj_at 219 44 = some (.iload 4) := by decide +kernel
theorem dx_219_46 : mj_at 219 46 = some (.iload 6) := by decide +kernel
theorem dx_219_48 : mj_at 219 48 = some (.invokestatic 254) := by decide +kernel
theorem dx_219_51 : mj_at 219 51 = some (.ifCond .eq 21) := by decide +kernel
theorem dx_219_54 : mj_at 219 54 = some (.iload_n 0) := by decide +kernel
theorem dx_219_55 : mj_at 219 55 = some (.iload 6) := by decide +kernel
theorem dx_219_57 : mj_at 219 57 = some (.invokestatic 368) := by decide +kernel
theorem dx_219_60 : mj_at 219 60 = some (.iconst 2) := by decide +kernel
theorem dx_219_61 : mj_at 219 61 = some (.irem) := by decide +kernel
theorem dx_219_62 : mj_at 219 62 = some (.iconst 1) := by decide +kernel
theorem dx_219_63 : mj_at 219 63 = some (.if_icmp .ne 9) := by decide +kernel
theorem dx_219_66 : mj_at 219 66 = some (.iload 5) := by decide +kernel
theorem dx_219_68 : mj_at 219 68 = some (.iconst 1) := by decide +kernel
theorem dx_219_69 : mj_at 219 69 = some (.iadd) := by decide +kernel
theorem dx_219_70 : mj_at 219 70 = some (.istore 5) := by decide +kernel
theorem dx_219_72 : mj_at 219 72 = some (.iinc 6 1) := by decide +kernel
theorem dx_219_75 : mj_at 219 75 = some (.goto (-38)) := by decide +kernel
theorem dx_219_78 : mj_at 219 78 = some (.iload_n 1) := by decide +kernel
theorem dx_219_79 : mj_at 219 79 = some (.iload 4) := by decide +kernel
theorem dx_219_81 : mj_at 219 81 = some (.iconst (-1)) := by decide +kernel
theorem dx_219_82 : mj_at 219 82 = some (.ixor) := by decide +kernel
theorem dx_219_83 : mj_at 219 83 = some (.iand) := by decide +kernel
theorem dx_219_84 : mj_at 219 84 = some (.istore_n 1) := by decide +kernel
theorem dx_219_85 : mj_at 219 85 = some (.iload_n 2) := by decide +kernel
theorem dx_219_86 : mj_at 219 86 = some (.iconst 1) := by decide +kernel
theorem dx_219_87 : mj_at 219 87 = some (.iload 5) := by decide +kernel
theorem dx_219_89 : mj_at 219 89 = some (.iconst 2) := by decide +kernel
theorem dx_219_90 : mj_at 219 90 = some (.idiv) := by decide +kernel
theorem dx_219_91 : mj_at 219 91 = some (.invokestatic 365) := by decide +kernel
theorem dx_219_94 : mj_at 219 94 = some (.iadd) := by decide +kernel
theorem dx_219_95 : mj_at 219 95 = some (.istore_n 2) := by decide +kernel
theorem dx_219_96 : mj_at 219 96 = some (.iinc 3 1) := by decide +kernel
theorem dx_219_99 : mj_at 219 99 = some (.goto (-93)) := by decide +kernel
theorem dx_219_102 : mj_at 219 102 = some (.iconst 0) := by decide +kernel
theorem dx_219_103 : mj_at 219 103 = some (.iload_n 2) := by decide +kernel
theorem dx_219_104 : mj_at 219 104 = some (.iconst 1) := by decide +kernel
theorem dx_219_105 : mj_at 219 105 = some (.isub) := by decide +kernel
theorem dx_219_106 : mj_at 219 106 = some (.invokestatic 365) := by decide +kernel
theorem dx_219_109 : mj_at 219 109 = some (.ireturn) := by decide +kernel
set_option maxRecDepth 10000 in
theorem b_X9_penOf {sl d : Nat} {M : mj_M} {x1 : Int32}  : mj_C sl (d + 1) 219 [.int x1] M = mj_E sl (d + 1) 219 6 [.int x1, .int x1, .int 0, .int 0, .null, .null, .null] [] M := by
  show mj_E sl (d + 1) 219 0 [.int x1, .null, .null, .null, .null, .null, .null] [] M = _
  refine (sx_iload_n dx_219_0 rfl).trans ?_
  refine (sx_istore_n dx_219_1 (Nat.le_of_ble_eq_true rfl) rfl).trans ?_
  refine (sx_iconst (v := 0) dx_219_2 rfl).trans ?_
  refine (sx_istore_n dx_219_3 (Nat.le_of_ble_eq_true rfl) rfl).trans ?_
  refine (sx_iconst (v := 0) dx_219_4 rfl).trans ?_
  refine (sx_istore_n dx_219_5 (Nat.le_of_ble_eq_true rfl) rfl).trans ?_
  rfl
set_option maxRecDepth 10000 in
theorem b_X9_penOf_6 {sl d : Nat} {M : mj_M} {y0 : Int32} {y1 : Int32} {y2 : Int32} {y3 : Int32} {w4 : Value} {w5 : Value} {w6 : Value}  : mj_E sl (d + 1) 219 6 [.int y0, .int y1, .int y2, .int y3, w4, w5, w6] [] M = if y3 < 25 then ((mj_C sl d 127 [.int y1, .int y3] M).bind (fun q1 => if q1.1 = 0 then (mj_E sl (d + 1) 219 6 [.int y0, .int y1, .int y2, .int (y3 + 1), w4, w5, w6] [] q1.2) else ((mj_C sl d 211 [.int y0, .int y3, .int 0] q1.2).bind (fun q2 => mj_E sl (d + 1) 219 37 [.int y0, .int y1, .int y2, .int y3, .int q2.1, .int 0, .int 0] [] q2.2)))) else ((mj_C sl d 126 [.int 0, .int (y2 - 1)] M).bind (fun q3 => some ((q3.1 : Int32), q3.2))) := by
  refine (sx_iload_n dx_219_6 rfl).trans ?_
  refine (sx_bipush (v := 25) dx_219_7 rfl).trans ?_
  refine (sx_icmp_ge (tgt := 102) dx_219_9 (by decide)).trans ?_
  refine mj_ite ?_ ?_
  · refine (sx_iload_n dx_219_12 rfl).trans ?_
    refine (sx_iload_n dx_219_13 rfl).trans ?_
    refine (sx_s2i dx_219_14 ow_219 cx_7_254 (Nat.le_of_ble_eq_true rfl)).trans ?_
    refine mj_bnd (fun q1 => ?_)
    refine (sx_if_ne (tgt := 23) dx_219_17 (by decide)).trans ?_
    refine mj_ite ?_ ?_
    · refine (sx_goto (tgt := 96) dx_219_20 (by decide)).trans ?_
      refine (sx_iinc (v := 1) dx_219_96 rfl rfl rfl).trans ?_
      refine (sx_goto (tgt := 6) dx_219_99 (by decide)).trans ?_
      rfl
    · refine (sx_iload_n dx_219_23 rfl).trans ?_
      refine (sx_iload_n dx_219_24 rfl).trans ?_
      refine (sx_iconst (v := 0) dx_219_25 rfl).trans ?_
      refine (sx_s3i dx_219_26 ow_219 cx_7_355 (Nat.le_of_ble_eq_true rfl)).trans ?_
      refine mj_bnd (fun q2 => ?_)
      refine (sx_istore dx_219_29 (Nat.le_of_ble_eq_true rfl) rfl).trans ?_
      refine (sx_iconst (v := 0) dx_219_31 rfl).trans ?_
      refine (sx_istore dx_219_32 (Nat.le_of_ble_eq_true rfl) rfl).trans ?_
      refine (sx_iconst (v := 0) dx_219_34 rfl).trans ?_
      refine (sx_istore dx_219_35 (Nat.le_of_ble_eq_true rfl) rfl).trans ?_
      rfl
  · refine (sx_iconst (v := 0) dx_219_102 rfl).trans ?_
    refine (sx_iload_n dx_219_103 rfl).trans ?_
    refine (sx_iconst (v := 1) dx_219_104 rfl).trans ?_
    refine (sx_isub dx_219_105).trans ?_
    refine (sx_s2i dx_219_106 ow_219 cx_7_365 (Nat.le_of_ble_eq_true rfl)).trans ?_
    refine mj_bnd (fun q3 => ?_)
    exact sx_reti dx_219_109 rt_219
set_option maxRecDepth 10000 in
theorem b_X9_penOf_37 {sl d : Nat} {M : mj_M} {y0 : Int32} {y1 : Int32} {y2 : Int32} {y3 : Int32} {y4 : Int32} {y5 : Int32} {y6 : Int32}  : mj_E sl (d + 1) 219 37 [.int y0, .int y1, .int y2, .int y3, .int y4, .int y5, .int y6] [] M = if y6 < 25 then ((mj_C sl d 127 [.int y4, .int y6] M).bind (fun q1 => if q1.1 = 0 then (mj_E sl (d + 1) 219 37 [.int y0, .int y1, .int y2, .int y3, .int y4, .int y5, .int (y6 + 1)] [] q1.2) else ((mj_C sl d 218 [.int y0, .int y6] q1.2).bind (fun q2 => if mj_rm q2.1 2 = 1 then (mj_E sl (d + 1) 219 37 [.int y0, .int y1, .int y2, .int y3, .int y4, .int (y5 + 1), .int (y6 + 1)] [] q2.2) else (mj_E sl (d + 1) 219 37 [.int y0, .int y1, .int y2, .int y3, .int y4, .int y5, .int (y6 + 1)] [] q2.2))))) else ((mj_C sl d 126 [.int 1, .int (y5 / 2)] M).bind (fun q3 => mj_E sl (d + 1) 219 6 [.int y0, .int (y1 &&& (y4 ^^^ (-1))), .int (y2 + q3.1), .int (y3 + 1), .int y4, .int y5, .int y6] [] q3.2)) := by
  refine (sx_iload dx_219_37 rfl).trans ?_
  refine (sx_bipush (v := 25) dx_219_39 rfl).trans ?_
  refine (sx_icmp_ge (tgt := 78) dx_219_41 (by decide)).trans ?_
  refine mj_ite ?_ ?_
  · refine (sx_iload dx_219_44 rfl).trans ?_
    refine (sx_iload dx_219_46 rfl).trans ?_
    refine (sx_s2i dx_219_48 ow_219 cx_7_254 (Nat.le_of_ble_eq_true rfl)).trans ?_
    refine mj_bnd (fun q1 => ?_)
    refine (sx_if_eq (tgt := 72) dx_219_51 (by decide)).trans ?_
    refine mj_ite ?_ ?_
    · refine (sx_iinc (v := 1) dx_219_72 rfl rfl rfl).trans ?_
      refine (sx_goto (tgt := 37) dx_219_75 (by decide)).trans ?_
      rfl
    · refine (sx_iload_n dx_219_54 rfl).trans ?_
      refine (sx_iload dx_219_55 rfl).trans ?_
      refine (sx_s2i dx_219_57 ow_219 cx_7_368 (Nat.le_of_ble_eq_true rfl)).trans ?_
      refine mj_bnd (fun q2 => ?_)
      refine (sx_iconst (v := 2) dx_219_60 rfl).trans ?_
      refine (sx_irem dx_219_61 (by decide)).trans ?_
      refine (sx_iconst (v := 1) dx_219_62 rfl).trans ?_
      refine (sx_icmp_ne (tgt := 72) dx_219_63 (by decide)).trans ?_
      refine mj_ite ?_ ?_
      · refine (sx_iload dx_219_66 rfl).trans ?_
        refine (sx_iconst (v := 1) dx_219_68 rfl).trans ?_
        refine (sx_iadd dx_219_69).trans ?_
        refine (sx_istore dx_219_70 (Nat.le_of_ble_eq_true rfl) rfl).trans ?_
        refine (sx_iinc (v := 1) dx_219_72 rfl rfl rfl).trans ?_
        refine (sx_goto (tgt := 37) dx_219_75 (by decide)).trans ?_
        rfl
      · refine (sx_iinc (v := 1) dx_219_72 rfl rfl rfl).trans ?_
        refine (sx_goto (tgt := 37) dx_219_75 (by decide)).trans ?_
        rfl
  · refine (sx_iload_n dx_219_78 rfl).trans ?_
    refine (sx_iload dx_219_79 rfl).trans ?_
    refine (sx_iconst (v := (-1)) dx_219_81 rfl).trans ?_
    refine (sx_ixor dx_219_82).trans ?_
    refine (sx_iand dx_219_83).trans ?_
    refine (sx_istore_n dx_219_84 (Nat.le_of_ble_eq_true rfl) rfl).trans ?_
    refine (sx_iload_n dx_219_85 rfl).trans ?_
    refine (sx_iconst (v := 1) dx_219_86 rfl).trans ?_
    refine (sx_iload dx_219_87 rfl).trans ?_
    refine (sx_iconst (v := 2) dx_219_89 rfl).trans ?_
    refine (sx_idiv dx_219_90 (by decide)).trans ?_
    refine (sx_s2i dx_219_91 ow_219 cx_7_365 (Nat.le_of_ble_eq_true rfl)).trans ?_
    refine mj_bnd (fun q3 => ?_)
    refine (sx_iadd dx_219_94).trans ?_
    refine (sx_istore_n dx_219_95 (Nat.le_of_ble_eq_true rfl) rfl).trans ?_
    refine (sx_iinc (v := 1) dx_219_96 rfl rfl rfl).trans ?_
    refine (sx_goto (tgt := 6) dx_219_99 (by decide)).trans ?_
    rfl
theorem dx_220_0 : mj_at 220 0 = some (.iload_n 1) := by decide +kernel
theorem dx_220_1 : mj_at 220 1 = some (.invokestatic 120) := by decide +kernel
theorem dx_220_4 : mj_at 220 4 = some (.ifCond .ne 5) := by decide +kernel
theorem dx_220_7 : mj_at 220 7 = some (.iconst (-1)) := by decide +kernel
theorem dx_220_8 : mj_at 220 8 = some (.ireturn) := by decide +kernel
theorem dx_220_9 : mj_at 220 9 = some (.iload_n 2) := by decide +kernel
theorem dx_220_10 : mj_at 220 10 = some (.tableswitch 77 0 6 #[42, 47, 52, 57, 62, 67, 72]) := by decide +kernel
theorem dx_220_52 : mj_at 220 52 = some (.iload_n 1) := by decide +kernel
theorem dx_220_53 : mj_at 220 53 = some (.invokestatic 371) := by decide +kernel
theorem dx_220_56 : mj_at 220 56 = some (.ireturn) := by decide +kernel
theorem dx_220_57 : mj_at 220 57 = some (.iload_n 1) := by decide +kernel
theorem dx_220_58 : mj_at 220 58 = some (.invokestatic 374) := by decide +kernel
theorem dx_220_61 : mj_at 220 61 = some (.ireturn) := by decide +kernel
theorem dx_220_62 : mj_at 220 62 = some (.iload_n 1) := by decide +kernel
theorem dx_220_63 : mj_at 220 63 = some (.invokestatic 377) := by decide +kernel
theorem dx_220_66 : mj_at 220 66 = some (.ireturn) := by decide +kernel
theorem dx_220_67 : mj_at 220 67 = some (.iload_n 1) := by decide +kernel
theorem dx_220_68 : mj_at 220 68 = some (.invokestatic 108) := by decide +kernel
theorem dx_220_71 : mj_at 220 71 = some (.ireturn) := by decide +kernel
theorem dx_220_72 : mj_at 220 72 = some (.iload_n 1) := by decide +kernel
theorem dx_220_73 : mj_at 220 73 = some (.invokestatic 263) := by decide +kernel
theorem dx_220_76 : mj_at 220 76 = some (.ireturn) := by decide +kernel
theorem dx_220_77 : mj_at 220 77 = some (.iload_n 1) := by decide +kernel
theorem dx_220_78 : mj_at 220 78 = some (.invokestatic 380) := by decide +kernel
theorem dx_220_81 : mj_at 220 81 = some (.ireturn) := by decide +kernel
theorem dx_220_82 : mj_at 220 82 = some (.iload_n 1) := by decide +kernel
theorem dx_220_83 : mj_at 220 83 = some (.invokestatic 383) := by decide +kernel
theorem dx_220_86 : mj_at 220 86 = some (.ireturn) := by decide +kernel
theorem dx_220_87 : mj_at 220 87 = some (.iconst (-1)) := by decide +kernel
theorem dx_220_88 : mj_at 220 88 = some (.ireturn) := by decide +kernel
set_option maxRecDepth 10000 in
theorem b_X9_shape {sl d : Nat} {M : mj_M} {x1 : Int32} {x2 : Int32}  : mj_C sl (d + 1) 220 [.ref 45, .int x1, .int x2] M = (mj_C sl d 130 [.int x1] M).bind (fun q1 => if q1.1 = 0 then (some (((-1) : Int32), q1.2)) else (if x2 = 0 then ((mj_C sl d 214 [.int x1] q1.2).bind (fun q2 => some ((q2.1 : Int32), q2.2))) else (if x2 = 1 then ((mj_C sl d 215 [.int x1] q1.2).bind (fun q3 => some ((q3.1 : Int32), q3.2))) else (if x2 = 2 then ((mj_C sl d 217 [.int x1] q1.2).bind (fun q4 => some ((q4.1 : Int32), q4.2))) else (if x2 = 3 then ((mj_C sl d 128 [.int x1] q1.2).bind (fun q5 => some ((q5.1 : Int32), q5.2))) else (if x2 = 4 then ((mj_C sl d 178 [.int x1] q1.2).bind (fun q6 => some ((q6.1 : Int32), q6.2))) else (if x2 = 5 then ((mj_C sl d 179 [.int x1] q1.2).bind (fun q7 => some ((q7.1 : Int32), q7.2))) else (if x2 = 6 then ((mj_C sl d 219 [.int x1] q1.2).bind (fun q8 => some ((q8.1 : Int32), q8.2))) else (some (((-1) : Int32), q1.2)))))))))) := by
  show mj_E sl (d + 1) 220 0 [.ref 45, .int x1, .int x2] [] M = _
  refine (sx_iload_n dx_220_0 rfl).trans ?_
  refine (sx_s1i dx_220_1 ow_220 cx_7_120 (Nat.le_of_ble_eq_true rfl)).trans ?_
  refine mj_bnd (fun q1 => ?_)
  refine (sx_if_ne (tgt := 9) dx_220_4 (by decide)).trans ?_
  refine mj_ite ?_ ?_
  · refine (sx_iconst (v := (-1)) dx_220_7 rfl).trans ?_
    exact sx_reti dx_220_8 rt_220
  · refine (sx_iload_n dx_220_9 rfl).trans ?_
    refine mj_sel (fun hx1_0 => ?_) (fun hx1_0 => ?_)
    · refine (sx_tsw_in (off := 42) (tgt := 52) dx_220_10 hx1_0 (by decide) (by decide) (by decide)).trans ?_
      refine (sx_iload_n dx_220_52 rfl).trans ?_
      refine (sx_s1i dx_220_53 ow_220 cx_7_371 (Nat.le_of_ble_eq_true rfl)).trans ?_
      refine mj_bnd (fun q2 => ?_)
      exact sx_reti dx_220_56 rt_220
    refine mj_sel (fun hx1_1 => ?_) (fun hx1_1 => ?_)
    · refine (sx_tsw_in (off := 47) (tgt := 57) dx_220_10 hx1_1 (by decide) (by decide) (by decide)).trans ?_
      refine (sx_iload_n dx_220_57 rfl).trans ?_
      refine (sx_s1i dx_220_58 ow_220 cx_7_374 (Nat.le_of_ble_eq_true rfl)).trans ?_
      refine mj_bnd (fun q3 => ?_)
      exact sx_reti dx_220_61 rt_220
    refine mj_sel (fun hx1_2 => ?_) (fun hx1_2 => ?_)
    · refine (sx_tsw_in (off := 52) (tgt := 62) dx_220_10 hx1_2 (by decide) (by decide) (by decide)).trans ?_
      refine (sx_iload_n dx_220_62 rfl).trans ?_
      refine (sx_s1i dx_220_63 ow_220 cx_7_377 (Nat.le_of_ble_eq_true rfl)).trans ?_
      refine mj_bnd (fun q4 => ?_)
      exact sx_reti dx_220_66 rt_220
    refine mj_sel (fun hx1_3 => ?_) (fun hx1_3 => ?_)
    · refine (sx_tsw_in (off := 57) (tgt := 67) dx_220_10 hx1_3 (by decide) (by decide) (by decide)).trans ?_
      refine (sx_iload_n dx_220_67 rfl).trans ?_
      refine (sx_s1i dx_220_68 ow_220 cx_7_108 (Nat.le_of_ble_eq_true rfl)).trans ?_
      refine mj_bnd (fun q5 => ?_)
      exact sx_reti dx_220_71 rt_220
    refine mj_sel (fun hx1_4 => ?_) (fun hx1_4 => ?_)
    · refine (sx_tsw_in (off := 62) (tgt := 72) dx_220_10 hx1_4 (by decide) (by decide) (by decide)).trans ?_
      refine (sx_iload_n dx_220_72 rfl).trans ?_
      refine (sx_s1i dx_220_73 ow_220 cx_7_263 (Nat.le_of_ble_eq_true rfl)).trans ?_
      refine mj_bnd (fun q6 => ?_)
      exact sx_reti dx_220_76 rt_220
    refine mj_sel (fun hx1_5 => ?_) (fun hx1_5 => ?_)
    · refine (sx_tsw_in (off := 67) (tgt := 77) dx_220_10 hx1_5 (by decide) (by decide) (by decide)).trans ?_
      refine (sx_iload_n dx_220_77 rfl).trans ?_
      refine (sx_s1i dx_220_78 ow_220 cx_7_380 (Nat.le_of_ble_eq_true rfl)).trans ?_
      refine mj_bnd (fun q7 => ?_)
      exact sx_reti dx_220_81 rt_220
    refine mj_sel (fun hx1_6 => ?_) (fun hx1_6 => ?_)
    · refine (sx_tsw_in (off := 72) (tgt := 82) dx_220_10 hx1_6 (by decide) (by decide) (by decide)).trans ?_
      refine (sx_iload_n dx_220_82 rfl).trans ?_
      refine (sx_s1i dx_220_83 ow_220 cx_7_383 (Nat.le_of_ble_eq_true rfl)).trans ?_
      refine mj_bnd (fun q8 => ?_)
      exact sx_reti dx_220_86 rt_220
    have zhx1_0 := mj_ne hx1_0 (n := 0) (by decide)
    have zhx1_1 := mj_ne hx1_1 (n := 1) (by decide)
    have zhx1_2 := mj_ne hx1_2 (n := 2) (by decide)
    have zhx1_3 := mj_ne hx1_3 (n := 3) (by decide)
    have zhx1_4 := mj_ne hx1_4 (n := 4) (by decide)
    have zhx1_5 := mj_ne hx1_5 (n := 5) (by decide)
    have zhx1_6 := mj_ne hx1_6 (n := 6) (by decide)
    refine (sx_tsw_out (tgt := 87) dx_220_10 (by omega) (by decide)).trans ?_
    refine (sx_iconst (v := (-1)) dx_220_87 rfl).trans ?_
    exact sx_reti dx_220_88 rt_220
theorem dx_221_0 : mj_at 221 0 = some (.iload_n 1) := by decide +kernel
theorem dx_221_1 : mj_at 221 1 = some (.invokestatic 120) := by decide +kernel
theorem dx_221_4 : mj_at 221 4 = some (.ifCond .eq 10) := by decide +kernel
theorem dx_221_7 : mj_at 221 7 = some (.iload_n 2) := by decide +kernel
theorem dx_221_8 : mj_at 221 8 = some (.invokestatic 120) := by decide +kernel
theorem dx_221_11 : mj_at 221 11 = some (.ifCond .ne 5) := by decide +kernel
theorem dx_221_14 : mj_at 221 14 = some (.iconst (-1)) := by decide +kernel
theorem dx_221_15 : mj_at 221 15 = some (.ireturn) := by decide +kernel
theorem dx_221_16 : mj_at 221 16 = some (.iload_n 1) := by decide +kernel
theorem dx_221_17 : mj_at 221 17 = some (.istore_n 3) := by decide +kernel
theorem dx_221_18 : mj_at 221 18 = some (.iconst 0) := by decide +kernel
theorem dx_221_19 : mj_at 221 19 = some (.istore 4) := by decide +kernel
theorem dx_221_21 : mj_at 221 21 = some (.iload 4) := by decide +kernel
theorem dx_221_23 : mj_at 221 23 = some (.bipush 8) := by decide +kernel
theorem dx_221_25 : mj_at 221 25 = some (.if_icmp .ge 33) := by decide +kernel
theorem dx_221_28 : mj_at 221 28 = some (.iload 4) := by decide +kernel
theorem dx_221_30 : mj_at 221 30 = some (.iconst 4) := by decide +kernel
theorem dx_221_31 : mj_at 221 31 = some (.if_icmp .ne 8) := by decide +kernel
theorem dx_221_34 : mj_at 221 34 = some (.iload_n 1) := by decide +kernel
theorem dx_221_35 : mj_at 221 35 = some (.invokestatic 263) := by decide +kernel
theorem dx_221_38 : mj_at 221 38 = some (.istore_n 3) := by decide +kernel
theorem dx_221_39 : mj_at 221 39 = some (.iload_n 3) := by decide +kernel
theorem dx_221_40 : mj_at 221 40 = some (.iload_n 2) := by decide +kernel
theorem dx_221_41 : mj_at 221 41 = some (.if_icmp .ne 6) := by decide +kernel
theorem dx_221_44 : mj_at 221 44 = some (.iload 4) := by decide +kernel
theorem dx_221_46 : mj_at 221 46 = some (.ireturn) := by decide +kernel
theorem dx_221_47 : mj_at 221 47 = some (.iload_n 3) := by decide +kernel
theorem dx_221_48 : mj_at 221 48 = some (.invokestatic 380) := by decide +kernel
theorem dx_221_51 : mj_at 221 51 = some (.istore_n 3) := by decide +kernel
theorem dx_221_52 : mj_at 221 52 = some (.iinc 4 1) := by decide +kernel
theorem dx_221_55 : mj_at 221 55 = some (.goto (-34)) := by decide +kernel
theorem dx_221_58 : mj_at 221 58 = some (.bipush (-2)) := by decide +kernel
theorem dx_221_60 : mj_at 221 60 = some (.ireturn) := by decide +kernel
set_option maxRecDepth 10000 in
theorem b_X9_like {sl d : Nat} {M : mj_M} {x1 : Int32} {x2 : Int32}  : mj_C sl (d + 1) 221 [.ref 45, .int x1, .int x2] M = (mj_C sl d 130 [.int x1] M).bind (fun q1 => if q1.1 = 0 then (some (((-1) : Int32), q1.2)) else ((mj_C sl d 130 [.int x2] q1.2).bind (fun q2 => if q2.1 = 0 then (some (((-1) : Int32), q2.2)) else (mj_E sl (d + 1) 221 21 [.ref 45, .int x1, .int x2, .int x1, .int 0] [] q2.2)))) := by
  show mj_E sl (d + 1) 221 0 [.ref 45, .int x1, .int x2, .null, .null] [] M = _
  refine (sx_iload_n dx_221_0 rfl).trans ?_
  refine (sx_s1i dx_221_1 ow_221 cx_7_120 (Nat.le_of_ble_eq_true rfl)).trans ?_
  refine mj_bnd (fun q1 => ?_)
  refine (sx_if_eq (tgt := 14) dx_221_4 (by decide)).trans ?_
  refine mj_ite ?_ ?_
  · refine (sx_iconst (v := (-1)) dx_221_14 rfl).trans ?_
    exact sx_reti dx_221_15 rt_221
  · refine (sx_iload_n dx_221_7 rfl).trans ?_
    refine (sx_s1i dx_221_8 ow_221 cx_7_120 (Nat.le_of_ble_eq_true rfl)).trans ?_
    refine mj_bnd (fun q2 => ?_)
    refine (sx_if_ne (tgt := 16) dx_221_11 (by decide)).trans ?_
    refine mj_ite ?_ ?_
    · refine (sx_iconst (v := (-1)) dx_221_14 rfl).trans ?_
      exact sx_reti dx_221_15 rt_221
    · refine (sx_iload_n dx_221_16 rfl).trans ?_
      refine (sx_istore_n dx_221_17 (Nat.le_of_ble_eq_true rfl) rfl).trans ?_
      refine (sx_iconst (v := 0) dx_221_18 rfl).trans ?_
      refine (sx_istore dx_221_19 (Nat.le_of_ble_eq_true rfl) rfl).trans ?_
      rfl
set_option maxRecDepth 10000 in
theorem b_X9_like_21 {sl d : Nat} {M : mj_M} {y1 : Int32} {y2 : Int32} {y3 : Int32} {y4 : Int32}  : mj_E sl (d + 1) 221 21 [.ref 45, .int y1, .int y2, .int y3, .int y4] [] M = if y4 < 8 then (if y4 = 4 then ((mj_C sl d 178 [.int y1] M).bind (fun q1 => if q1.1 = y2 then (some ((y4 : Int32), q1.2)) else ((mj_C sl d 179 [.int q1.1] q1.2).bind (fun q2 => mj_E sl (d + 1) 221 21 [.ref 45, .int y1, .int y2, .int q2.1, .int (y4 + 1)] [] q2.2)))) else (if y3 = y2 then (some ((y4 : Int32), M)) else ((mj_C sl d 179 [.int y3] M).bind (fun q3 => mj_E sl (d + 1) 221 21 [.ref 45, .int y1, .int y2, .int q3.1, .int (y4 + 1)] [] q3.2)))) else (some (((-2) : Int32), M)) := by
  refine (sx_iload dx_221_21 rfl).trans ?_
  refine (sx_bipush (v := 8) dx_221_23 rfl).trans ?_
  refine (sx_icmp_ge (tgt := 58) dx_221_25 (by decide)).trans ?_
  refine mj_ite ?_ ?_
  · refine (sx_iload dx_221_28 rfl).trans ?_
    refine (sx_iconst (v := 4) dx_221_30 rfl).trans ?_
    refine (sx_icmp_ne (tgt := 39) dx_221_31 (by decide)).trans ?_
    refine mj_ite ?_ ?_
    · refine (sx_iload_n dx_221_34 rfl).trans ?_
      refine (sx_s1i dx_221_35 ow_221 cx_7_263 (Nat.le_of_ble_eq_true rfl)).trans ?_
      refine mj_bnd (fun q1 => ?_)
      refine (sx_istore_n dx_221_38 (Nat.le_of_ble_eq_true rfl) rfl).trans ?_
      refine (sx_iload_n dx_221_39 rfl).trans ?_
      refine (sx_iload_n dx_221_40 rfl).trans ?_
      refine (sx_icmp_ne (tgt := 47) dx_221_41 (by decide)).trans ?_
      refine mj_ite ?_ ?_
      · refine (sx_iload dx_221_44 rfl).trans ?_
        exact sx_reti dx_221_46 rt_221
      · refine (sx_iload_n dx_221_47 rfl).trans ?_
        refine (sx_s1i dx_221_48 ow_221 cx_7_380 (Nat.le_of_ble_eq_true rfl)).trans ?_
        refine mj_bnd (fun q2 => ?_)
        refine (sx_istore_n dx_221_51 (Nat.le_of_ble_eq_true rfl) rfl).trans ?_
        refine (sx_iinc (v := 1) dx_221_52 rfl rfl rfl).trans ?_
        refine (sx_goto (tgt := 21) dx_221_55 (by decide)).trans ?_
        rfl
    · refine (sx_iload_n dx_221_39 rfl).trans ?_
      refine (sx_iload_n dx_221_40 rfl).trans ?_
      refine (sx_icmp_ne (tgt := 47) dx_221_41 (by decide)).trans ?_
      refine mj_ite ?_ ?_
      · refine (sx_iload dx_221_44 rfl).trans ?_
        exact sx_reti dx_221_46 rt_221
      · refine (sx_iload_n dx_221_47 rfl).trans ?_
        refine (sx_s1i dx_221_48 ow_221 cx_7_380 (Nat.le_of_ble_eq_true rfl)).trans ?_
        refine mj_bnd (fun q3 => ?_)
        refine (sx_istore_n dx_221_51 (Nat.le_of_ble_eq_true rfl) rfl).trans ?_
        refine (sx_iinc (v := 1) dx_221_52 rfl rfl rfl).trans ?_
        refine (sx_goto (tgt := 21) dx_221_55 (by decide)).trans ?_
        rfl
  · refine (sx_bipush (v := (-2)) dx_221_58 rfl).trans ?_
    exact sx_reti dx_221_60 rt_221
theorem dx_222_0 : mj_at 222 0 = some (.ldc 119) := by decide +kernel
theorem dx_222_2 : mj_at 222 2 = some (.istore_n 2) := by decide +kernel
theorem dx_222_3 : mj_at 222 3 = some (.iconst 0) := by decide +kernel
theorem dx_222_4 : mj_at 222 4 = some (.istore_n 3) := by decide +kernel
theorem dx_222_5 : mj_at 222 5 = some (.iload_n 3) := by decide +kernel
theorem dx_222_6 : mj_at 222 6 = some (.bipush 8) := by decide +kernel
theorem dx_222_8 : mj_at 222 8 = some (.if_icmp .ge 63) := by decide +kernel
theorem dx_222_11 : mj_at 222 11 = some (.iconst 0) := by decide +kernel
theorem dx_222_12 : mj_at 222 12 = some (.istore 4) := by decide +kernel
theorem dx_222_14 : mj_at 222 14 = some (.iload 4) := by decide +kernel
theorem dx_222_16 : mj_at 222 16 = some (.iload_n 3) := by decide +kernel
theorem dx_222_17 : mj_at 222 17 = some (.if_icmp .ge 48) := by decide +kernel
theorem dx_222_20 : mj_at 222 20 = some (.iload_n 1) := by decide +kernel
theorem dx_222_21 : mj_at 222 21 = some (.iload_n 3) := by decide +kernel
theorem dx_222_22 : mj_at 222 22 = some (.invokestatic 254) := by decide +kernel
theorem dx_222_25 : mj_at 222 25 = some (.ifCond .eq 34) := by decide +kernel
theorem dx_222_28 : mj_at 222 28 = some (.iload_n 1) := by decide +kernel
theorem dx_222_29 : mj_at 222 29 = some (.iload 4) := by decide +kernel
theorem dx_222_31 : mj_at 222 31 = some (.invokestatic 254) := by decide +kernel
theorem dx_222_34 : mj_at 222 34 = some (.ifCond .eq 25) := by decide +kernel
theorem dx_222_37 : mj_at 222 37 = some (.iload_n 2) := by decide +kernel
theorem dx_222_38 : mj_at 222 38 = some (.aload_n 0) := by decide +kernel
theorem dx_222_39 : mj_at 222 39 = some (.getfield 19) := by decide +kernel
theorem dx_222_42 : mj_at 222 42 = some (.iload_n 3) := by decide +kernel
theorem dx_222_43 : mj_at 222 43 = some (.iaload) := by decide +kernel
theorem dx_222_44 : mj_at 222 44 = some (.aload_n 0) := by decide +kernel
theorem dx_222_45 : mj_at 222 45 = some (.getfield 19) := by decide +kernel
theorem dx_222_48 : mj_at 222 48 = some (.iload 4) := by decide +kernel
theorem dx_222_50 : mj_at 222 50 = some (.iaload) := by decide +kernel
theorem dx_222_51 : mj_at 222 51 = some (.ixor) := by decide +kernel
theorem dx_222_52 : mj_at 222 52 = some (.invokestatic 108) := by decide +kernel
theorem dx_222_55 : mj_at 222 55 = some (.invokestatic 308) := by decide +kernel
theorem dx_222_58 : mj_at 222 58 = some (.istore_n 2) := by decide +kernel
theorem dx_222_59 : mj_at 222 59 = some (.iinc 4 1) := by decide +kernel
theorem dx_222_62 : mj_at 222 62 = some (.goto (-48)) := by decide +kernel
theorem dx_222_65 : mj_at 222 65 = some (.iinc 3 1) := by decide +kernel
theorem dx_222_68 : mj_at 222 68 = some (.goto (-63)) := by decide +kernel
theorem dx_222_71 : mj_at 222 71 = some (.iload_n 2) := by decide +kernel
theorem dx_222_72 : mj_at 222 72 = some (.ireturn) := by decide +kernel
set_option maxRecDepth 10000 in
theorem b_X9_leastIn {sl d : Nat} {M : mj_M} {x1 : Int32}  : mj_C sl (d + 1) 222 [.ref 45, .int x1] M = mj_E sl (d + 1) 222 5 [.ref 45, .int x1, .int 1000000, .int 0, .null] [] M := by
  show mj_E sl (d + 1) 222 0 [.ref 45, .int x1, .null, .null, .null] [] M = _
  refine (sx_ldc (v := 1000000) dx_222_0 ow_222 kx_7_119).trans ?_
  refine (sx_istore_n dx_222_2 (Nat.le_of_ble_eq_true rfl) rfl).trans ?_
  refine (sx_iconst (v := 0) dx_222_3 rfl).trans ?_
  refine (sx_istore_n dx_222_4 (Nat.le_of_ble_eq_true rfl) rfl).trans ?_
  rfl
set_option maxRecDepth 10000 in
theorem b_X9_leastIn_5 {sl d : Nat} {M : mj_M} {y1 : Int32} {y2 : Int32} {y3 : Int32} {w4 : Value}  : mj_E sl (d + 1) 222 5 [.ref 45, .int y1, .int y2, .int y3, w4] [] M = if y3 < 8 then (mj_E sl (d + 1) 222 14 [.ref 45, .int y1, .int y2, .int y3, .int 0] [] M) else (some ((y2 : Int32), M)) := by
  refine (sx_iload_n dx_222_5 rfl).trans ?_
  refine (sx_bipush (v := 8) dx_222_6 rfl).trans ?_
  refine (sx_icmp_ge (tgt := 71) dx_222_8 (by decide)).trans ?_
  refine mj_ite ?_ ?_
  · refine (sx_iconst (v := 0) dx_222_11 rfl).trans ?_
    refine (sx_istore dx_222_12 (Nat.le_of_ble_eq_true rfl) rfl).trans ?_
    rfl
  · refine (sx_iload_n dx_222_71 rfl).trans ?_
    exact sx_reti dx_222_72 rt_222
set_option maxRecDepth 10000 in
theorem b_X9_leastIn_14 {sl d : Nat} {M : mj_M} {y1 : Int32} {y2 : Int32} {y3 : Int32} {y4 : Int32}  : mj_E sl (d + 1) 222 14 [.ref 45, .int y1, .int y2, .int y3, .int y4] [] M = if y4 < y3 then ((mj_C sl d 127 [.int y1, .int y3] M).bind (fun q1 => if q1.1 = 0 then (mj_E sl (d + 1) 222 14 [.ref 45, .int y1, .int y2, .int y3, .int (y4 + 1)] [] q1.2) else ((mj_C sl d 127 [.int y1, .int y4] q1.2).bind (fun q2 => if q2.1 = 0 then (mj_E sl (d + 1) 222 14 [.ref 45, .int y1, .int y2, .int y3, .int (y4 + 1)] [] q2.2) else (if mj_inB y3 8 = true then (if mj_inB y4 8 = true then ((mj_C sl d 128 [.int ((q2.2 49 (y3 : Int32).toNatClampNeg) ^^^ (q2.2 49 (y4 : Int32).toNatClampNeg))] q2.2).bind (fun q3 => (mj_C sl d 125 [.int y2, .int q3.1] q3.2).bind (fun q4 => mj_E sl (d + 1) 222 14 [.ref 45, .int y1, .int q4.1, .int y3, .int (y4 + 1)] [] q4.2))) else none) else none))))) else (mj_E sl (d + 1) 222 5 [.ref 45, .int y1, .int y2, .int (y3 + 1), .int y4] [] M) := by
  refine (sx_iload dx_222_14 rfl).trans ?_
  refine (sx_iload_n dx_222_16 rfl).trans ?_
  refine (sx_icmp_ge (tgt := 65) dx_222_17 (by decide)).trans ?_
  refine mj_ite ?_ ?_
  · refine (sx_iload_n dx_222_20 rfl).trans ?_
    refine (sx_iload_n dx_222_21 rfl).trans ?_
    refine (sx_s2i dx_222_22 ow_222 cx_7_254 (Nat.le_of_ble_eq_true rfl)).trans ?_
    refine mj_bnd (fun q1 => ?_)
    refine (sx_if_eq (tgt := 59) dx_222_25 (by decide)).trans ?_
    refine mj_ite ?_ ?_
    · refine (sx_iinc (v := 1) dx_222_59 rfl rfl rfl).trans ?_
      refine (sx_goto (tgt := 14) dx_222_62 (by decide)).trans ?_
      rfl
    · refine (sx_iload_n dx_222_28 rfl).trans ?_
      refine (sx_iload dx_222_29 rfl).trans ?_
      refine (sx_s2i dx_222_31 ow_222 cx_7_254 (Nat.le_of_ble_eq_true rfl)).trans ?_
      refine mj_bnd (fun q2 => ?_)
      refine (sx_if_eq (tgt := 59) dx_222_34 (by decide)).trans ?_
      refine mj_ite ?_ ?_
      · refine (sx_iinc (v := 1) dx_222_59 rfl rfl rfl).trans ?_
        refine (sx_goto (tgt := 14) dx_222_62 (by decide)).trans ?_
        rfl
      · refine (sx_iload_n dx_222_37 rfl).trans ?_
        refine (sx_aload_n dx_222_38 rfl).trans ?_
        refine (sx_gfr dx_222_39 ow_222 fx_7_19 oc_45 rb_45_3).trans ?_
        refine (sx_iload_n dx_222_42 rfl).trans ?_
        refine (sx_ild dx_222_43 (by decide) ia_49).trans ?_
        refine mj_ite ?_ rfl
        refine (sx_aload_n dx_222_44 rfl).trans ?_
        refine (sx_gfr dx_222_45 ow_222 fx_7_19 oc_45 rb_45_3).trans ?_
        refine (sx_iload dx_222_48 rfl).trans ?_
        refine (sx_ild dx_222_50 (by decide) ia_49).trans ?_
        refine mj_ite ?_ rfl
        refine (sx_ixor dx_222_51).trans ?_
        refine (sx_s1i dx_222_52 ow_222 cx_7_108 (Nat.le_of_ble_eq_true rfl)).trans ?_
        refine mj_bnd (fun q3 => ?_)
        refine (sx_s2i dx_222_55 ow_222 cx_7_308 (Nat.le_of_ble_eq_true rfl)).trans ?_
        refine mj_bnd (fun q4 => ?_)
        refine (sx_istore_n dx_222_58 (Nat.le_of_ble_eq_true rfl) rfl).trans ?_
        refine (sx_iinc (v := 1) dx_222_59 rfl rfl rfl).trans ?_
        refine (sx_goto (tgt := 14) dx_222_62 (by decide)).trans ?_
        rfl
  · refine (sx_iinc (v := 1) dx_222_65 rfl rfl rfl).trans ?_
    refine (sx_goto (tgt := 5) dx_222_68 (by decide)).trans ?_
    rfl
theorem dx_223_0 : mj_at 223 0 = some (.iload_n 1) := by decide +kernel
theorem dx_223_1 : mj_at 223 1 = some (.iconst 2) := by decide +kernel
theorem dx_223_2 : mj_at 223 2 = some (.bipush 8) := by decide +kernel
theorem dx_223_4 : mj_at 223 4 = some (.invokestatic 90) := by decide +kernel
theorem dx_223_7 : mj_at 223 7 = some (.ifCond .eq 12) := by decide +kernel
theorem dx_223_10 : mj_at 223 10 = some (.iload_n 2) := by decide +kernel
theorem dx_223_11 : mj_at 223 11 = some (.iconst 0) := by decide +kernel
theorem dx_223_12 : mj_at 223 12 = some (.iconst 1) := by decide +kernel
theorem dx_223_13 : mj_at 223 13 = some (.invokestatic 90) := by decide +kernel
theorem dx_223_16 : mj_at 223 16 = some (.ifCond .ne 5) := by decide +kernel
theorem dx_223_19 : mj_at 223 19 = some (.iconst (-1)) := by decide +kernel
theorem dx_223_20 : mj_at 223 20 = some (.ireturn) := by decide +kernel
theorem dx_223_21 : mj_at 223 21 = some (.bipush (-2)) := by decide +kernel
theorem dx_223_23 : mj_at 223 23 = some (.istore_n 3) := by decide +kernel
theorem dx_223_24 : mj_at 223 24 = some (.bipush (-2)) := by decide +kernel
theorem dx_223_26 : mj_at 223 26 = some (.istore 4) := by decide +kernel
theorem dx_223_28 : mj_at 223 28 = some (.iconst 1) := by decide +kernel
theorem dx_223_29 : mj_at 223 29 = some (.istore 5) := by decide +kernel
theorem dx_223_31 : mj_at 223 31 = some (.iload 5) := by decide +kernel
theorem dx_223_33 : mj_at 223 33 = some (.sipush 256) := by decide +kernel
theorem dx_223_36 : mj_at 223 36 = some (.if_icmp .ge 55) := by decide +kernel
theorem dx_223_39 : mj_at 223 39 = some (.iload 5) := by decide +kernel
theorem dx_223_41 : mj_at 223 41 = some (.aload_n 0) := by decide +kernel
theorem dx_223_42 : mj_at 223 42 = some (.invokevirtual 336) := by decide +kernel
theorem dx_223_45 : mj_at 223 45 = some (.iconst (-1)) := by decide +kernel
theorem dx_223_46 : mj_at 223 46 = some (.ixor) := by decide +kernel
theorem dx_223_47 : mj_at 223 47 = some (.iand) := by decide +kernel
theorem dx_223_48 : mj_at 223 48 = some (.ifCond .ne 37) := by decide +kernel
theorem dx_223_51 : mj_at 223 51 = some (.iload 5) := by decide +kernel
theorem dx_223_53 : mj_at 223 53 = some (.invokestatic 108) := by decide +kernel
theorem dx_223_56 : mj_at 223 56 = some (.iload_n 1) := by decide +kernel
theorem dx_223_57 : mj_at 223 57 = some (.if_icmp .ne 28) := by decide +kernel
theorem dx_223_60 : mj_at 223 60 = some (.aload_n 0) := by decide +kernel
theorem dx_223_61 : mj_at 223 61 = some (.iload 5) := by decide +kernel
theorem dx_223_63 : mj_at 223 63 = some (.invokevirtual 386) := by decide +kernel
theorem dx_223_66 : mj_at 223 66 = some (.iload 4) := by decide +kernel
theorem dx_223_68 : mj_at 223 68 = some (.if_icmp .gt 6) := by decide +kernel
theorem dx_223_71 : mj_at 223 71 = some (.goto 14) := by decide +kernel
theorem dx_223_74 : mj_at 223 74 = some (.aload_n 0) := by decide +kernel
theorem dx_223_75 : mj_at 223 75 = some (.iload 5) := by decide +kernel
theorem dx_223_77 : mj_at 223 77 = some (.invokevirtual 386) := by decide +kernel
theorem dx_223_80 : mj_at 223 80 = some (.istore 4) := by decide +kernel
theorem dx_223_82 : mj_at 223 82 = some (.iload 5) := by decide +kernel
theorem dx_223_84 : mj_at 223 84 = some (.istore_n 3) := by decide +kernel
theorem dx_223_85 : mj_at 223 85 = some (.iinc 5 1) := by decide +kernel
theorem dx_223_88 : mj_at 223 88 = some (.goto (-57)) := by decide +kernel
theorem dx_223_91 : mj_at 223 91 = some (.iload_n 2) := by decide +kernel
theorem dx_223_92 : mj_at 223 92 = some (.ifCond .ne 8) := by decide +kernel
theorem dx_223_95 : mj_at 223 95 = some (.iload 4) := by decide +kernel
theorem dx_223_97 : mj_at 223 97 = some (.goto 4) := by decide +kernel
theorem dx_223_100 : mj_at 223 100 = some (.iload_n 3) := by decide +kernel
theorem dx_223_101 : mj_at 223 101 = some (.ireturn) := by decide +kernel
set_option maxRecDepth 10000 in
theorem b_X9_toldApart {sl d : Nat} {M : mj_M} {x1 : Int32} {x2 : Int32}  : mj_C sl (d + 1) 223 [.ref 45, .int x1, .int x2] M = (mj_C sl d 124 [.int x1, .int 2, .int 8] M).bind (fun q1 => if q1.1 = 0 then (some (((-1) : Int32), q1.2)) else ((mj_C sl d 124 [.int x2, .int 0, .int 1] q1.2).bind (fun q2 => if q2.1 = 0 then (some (((-1) : Int32), q2.2)) else (mj_E sl (d + 1) 223 31 [.ref 45, .int x1, .int x2, .int (-2), .int (-2), .int 1] [] q2.2)))) := by
  show mj_E sl (d + 1) 223 0 [.ref 45, .int x1, .int x2, .null, .null, .null] [] M = _
  refine (sx_iload_n dx_223_0 rfl).trans ?_
  refine (sx_iconst (v := 2) dx_223_1 rfl).trans ?_
  refine (sx_bipush (v := 8) dx_223_2 rfl).trans ?_
  refine (sx_s3i dx_223_4 ow_223 cx_7_90 (Nat.le_of_ble_eq_true rfl)).trans ?_
  refine mj_bnd (fun q1 => ?_)
  refine (sx_if_eq (tgt := 19) dx_223_7 (by decide)).trans ?_
  refine mj_ite ?_ ?_
  · refine (sx_iconst (v := (-1)) dx_223_19 rfl).trans ?_
    exact sx_reti dx_223_20 rt_223
  · refine (sx_iload_n dx_223_10 rfl).trans ?_
    refine (sx_iconst (v := 0) dx_223_11 rfl).trans ?_
    refine (sx_iconst (v := 1) dx_223_12 rfl).trans ?_
    refine (sx_s3i dx_223_13 ow_223 cx_7_90 (Nat.le_of_ble_eq_true rfl)).trans ?_
    refine mj_bnd (fun q2 => ?_)
    refine (sx_if_ne (tgt := 21) dx_223_16 (by decide)).trans ?_
    refine mj_ite ?_ ?_
    · refine (sx_iconst (v := (-1)) dx_223_19 rfl).trans ?_
      exact sx_reti dx_223_20 rt_223
    · refine (sx_bipush (v := (-2)) dx_223_21 rfl).trans ?_
      refine (sx_istore_n dx_223_23 (Nat.le_of_ble_eq_true rfl) rfl).trans ?_
      refine (sx_bipush (v := (-2)) dx_223_24 rfl).trans ?_
      refine (sx_istore dx_223_26 (Nat.le_of_ble_eq_true rfl) rfl).trans ?_
      refine (sx_iconst (v := 1) dx_223_28 rfl).trans ?_
      refine (sx_istore dx_223_29 (Nat.le_of_ble_eq_true rfl) rfl).trans ?_
      rfl
set_option maxRecDepth 10000 in
theorem b_X9_toldApart_31 {sl d : Nat} {M : mj_M} {y1 : Int32} {y2 : Int32} {y3 : Int32} {y4 : Int32} {y5 : Int32}  : mj_E sl (d + 1) 223 31 [.ref 45, .int y1, .int y2, .int y3, .int y4, .int y5] [] M = if y5 < 256 then ((mj_C sl d 133 [.ref 45] M).bind (fun q1 => if y5 &&& (q1.1 ^^^ (-1)) = 0 then ((mj_C sl d 128 [.int y5] q1.2).bind (fun q2 => if q2.1 = y1 then ((mj_C sl d 222 [.ref 45, .int y5] q2.2).bind (fun q3 => if q3.1 ≤ y4 then (mj_E sl (d + 1) 223 31 [.ref 45, .int y1, .int y2, .int y3, .int y4, .int (y5 + 1)] [] q3.2) else ((mj_C sl d 222 [.ref 45, .int y5] q3.2).bind (fun q4 => mj_E sl (d + 1) 223 31 [.ref 45, .int y1, .int y2, .int y5, .int q4.1, .int (y5 + 1)] [] q4.2)))) else (mj_E sl (d + 1) 223 31 [.ref 45, .int y1, .int y2, .int y3, .int y4, .int (y5 + 1)] [] q2.2))) else (mj_E sl (d + 1) 223 31 [.ref 45, .int y1, .int y2, .int y3, .int y4, .int (y5 + 1)] [] q1.2))) else (if y2 = 0 then (some ((y4 : Int32), M)) else (some ((y3 : Int32), M))) := by
  refine (sx_iload dx_223_31 rfl).trans ?_
  refine (sx_sipush (v := 256) dx_223_33 rfl).trans ?_
  refine (sx_icmp_ge (tgt := 91) dx_223_36 (by decide)).trans ?_
  refine mj_ite ?_ ?_
  · refine (sx_iload dx_223_39 rfl).trans ?_
    refine (sx_aload_n dx_223_41 rfl).trans ?_
    refine (sx_v0i dx_223_42 ow_223 cx_7_336 oc_45 (Nat.le_of_ble_eq_true rfl)).trans ?_
    refine mj_bnd (fun q1 => ?_)
    refine (sx_iconst (v := (-1)) dx_223_45 rfl).trans ?_
    refine (sx_ixor dx_223_46).trans ?_
    refine (sx_iand dx_223_47).trans ?_
    refine (sx_if_ne (tgt := 85) dx_223_48 (by decide)).trans ?_
    refine mj_ite ?_ ?_
    · refine (sx_iload dx_223_51 rfl).trans ?_
      refine (sx_s1i dx_223_53 ow_223 cx_7_108 (Nat.le_of_ble_eq_true rfl)).trans ?_
      refine mj_bnd (fun q2 => ?_)
      refine (sx_iload_n dx_223_56 rfl).trans ?_
      refine (sx_icmp_ne (tgt := 85) dx_223_57 (by decide)).trans ?_
      refine mj_ite ?_ ?_
      · refine (sx_aload_n dx_223_60 rfl).trans ?_
        refine (sx_iload dx_223_61 rfl).trans ?_
        refine (sx_v1i dx_223_63 ow_223 cx_7_386 oc_45 (Nat.le_of_ble_eq_true rfl)).trans ?_
        refine mj_bnd (fun q3 => ?_)
        refine (sx_iload dx_223_66 rfl).trans ?_
        refine (sx_icmp_gt (tgt := 74) dx_223_68 (by decide)).trans ?_
        refine mj_ite ?_ ?_
        · refine (sx_goto (tgt := 85) dx_223_71 (by decide)).trans ?_
          refine (sx_iinc (v := 1) dx_223_85 rfl rfl rfl).trans ?_
          refine (sx_goto (tgt := 31) dx_223_88 (by decide)).trans ?_
          rfl
        · refine (sx_aload_n dx_223_74 rfl).trans ?_
          refine (sx_iload dx_223_75 rfl).trans ?_
          refine (sx_v1i dx_223_77 ow_223 cx_7_386 oc_45 (Nat.le_of_ble_eq_true rfl)).trans ?_
          refine mj_bnd (fun q4 => ?_)
          refine (sx_istore dx_223_80 (Nat.le_of_ble_eq_true rfl) rfl).trans ?_
          refine (sx_iload dx_223_82 rfl).trans ?_
          refine (sx_istore_n dx_223_84 (Nat.le_of_ble_eq_true rfl) rfl).trans ?_
          refine (sx_iinc (v := 1) dx_223_85 rfl rfl rfl).trans ?_
          refine (sx_goto (tgt := 31) dx_223_88 (by decide)).trans ?_
          rfl
      · refine (sx_iinc (v := 1) dx_223_85 rfl rfl rfl).trans ?_
        refine (sx_goto (tgt := 31) dx_223_88 (by decide)).trans ?_
        rfl
    · refine (sx_iinc (v := 1) dx_223_85 rfl rfl rfl).trans ?_
      refine (sx_goto (tgt := 31) dx_223_88 (by decide)).trans ?_
      rfl
  · refine (sx_iload_n dx_223_91 rfl).trans ?_
    refine (sx_if_ne (tgt := 100) dx_223_92 (by decide)).trans ?_
    refine mj_ite ?_ ?_
    · refine (sx_iload dx_223_95 rfl).trans ?_
      refine (sx_goto (tgt := 101) dx_223_97 (by decide)).trans ?_
      exact sx_reti dx_223_101 rt_223
    · refine (sx_iload_n dx_223_100 rfl).trans ?_
      exact sx_reti dx_223_101 rt_223
theorem dx_224_0 : mj_at 224 0 = some (.iload_n 1) := by decide +kernel
theorem dx_224_1 : mj_at 224 1 = some (.iconst 0) := by decide +kernel
theorem dx_224_2 : mj_at 224 2 = some (.ldc_w 389) := by decide +kernel
theorem dx_224_5 : mj_at 224 5 = some (.invokestatic 90) := by decide +kernel
theorem dx_224_8 : mj_at 224 8 = some (.ifCond .ne 5) := by decide +kernel
theorem dx_224_11 : mj_at 224 11 = some (.iconst 0) := by decide +kernel
theorem dx_224_12 : mj_at 224 12 = some (.ireturn) := by decide +kernel
theorem dx_224_13 : mj_at 224 13 = some (.aload_n 0) := by decide +kernel
theorem dx_224_14 : mj_at 224 14 = some (.getfield 7) := by decide +kernel
theorem dx_224_17 : mj_at 224 17 = some (.bipush 111) := by decide +kernel
theorem dx_224_19 : mj_at 224 19 = some (.iload_n 1) := by decide +kernel
theorem dx_224_20 : mj_at 224 20 = some (.iastore) := by decide +kernel
theorem dx_224_21 : mj_at 224 21 = some (.iconst 1) := by decide +kernel
theorem dx_224_22 : mj_at 224 22 = some (.ireturn) := by decide +kernel
set_option maxRecDepth 10000 in
theorem b_X9_seed {sl d : Nat} {M : mj_M} {x1 : Int32}  : mj_C sl (d + 1) 224 [.ref 45, .int x1] M = (mj_C sl d 124 [.int x1, .int 0, .int 65535] M).bind (fun q1 => if q1.1 = 0 then (some ((0 : Int32), q1.2)) else (some ((1 : Int32), mj_st q1.2 46 111 x1))) := by
  show mj_E sl (d + 1) 224 0 [.ref 45, .int x1] [] M = _
  refine (sx_iload_n dx_224_0 rfl).trans ?_
  refine (sx_iconst (v := 0) dx_224_1 rfl).trans ?_
  refine (sx_ldcw (v := 65535) dx_224_2 ow_224 kx_7_389).trans ?_
  refine (sx_s3i dx_224_5 ow_224 cx_7_90 (Nat.le_of_ble_eq_true rfl)).trans ?_
  refine mj_bnd (fun q1 => ?_)
  refine (sx_if_ne (tgt := 13) dx_224_8 (by decide)).trans ?_
  refine mj_ite ?_ ?_
  · refine (sx_iconst (v := 0) dx_224_11 rfl).trans ?_
    exact sx_retz dx_224_12 rt_224 (by decide)
  · refine (sx_aload_n dx_224_13 rfl).trans ?_
    refine (sx_gfr dx_224_14 ow_224 fx_7_7 oc_45 rb_45_0).trans ?_
    refine (sx_bipush (v := 111) dx_224_17 rfl).trans ?_
    refine (sx_iload_n dx_224_19 rfl).trans ?_
    refine (sx_istk (k := 111) dx_224_20 ia_46 (by decide) (by decide)).trans ?_
    refine (sx_iconst (v := 1) dx_224_21 rfl).trans ?_
    exact sx_retz dx_224_22 rt_224 (by decide)
theorem dx_225_0 : mj_at 225 0 = some (.aload_n 0) := by decide +kernel
theorem dx_225_1 : mj_at 225 1 = some (.iconst 1) := by decide +kernel
theorem dx_225_2 : mj_at 225 2 = some (.putfield 390) := by decide +kernel
theorem dx_225_5 : mj_at 225 5 = some (.aload_n 0) := by decide +kernel
theorem dx_225_6 : mj_at 225 6 = some (.getfield 7) := by decide +kernel
theorem dx_225_9 : mj_at 225 9 = some (.aload_n 0) := by decide +kernel
theorem dx_225_10 : mj_at 225 10 = some (.getfield 16) := by decide +kernel
theorem dx_225_13 : mj_at 225 13 = some (.invokestatic 275) := by decide +kernel
theorem dx_225_16 : mj_at 225 16 = some (.aload_n 0) := by decide +kernel
theorem dx_225_17 : mj_at 225 17 = some (.getfield 7) := by decide +kernel
theorem dx_225_20 : mj_at 225 20 = some (.bipush 110) := by decide +kernel
theorem dx_225_22 : mj_at 225 22 = some (.iaload) := by decide +kernel
theorem dx_225_23 : mj_at 225 23 = some (.ireturn) := by decide +kernel
set_option maxRecDepth 10000 in
theorem b_X9_keep {sl d : Nat} {M : mj_M}   : mj_C sl (d + 1) 225 [.ref 45] M = (mj_C sl d 129 [.ref 46, .ref 48] (mj_st M 45 45 1)).bind (fun q1 => some ((q1.2 46 110 : Int32), q1.2)) := by
  show mj_E sl (d + 1) 225 0 [.ref 45] [] M = _
  refine (sx_aload_n dx_225_0 rfl).trans ?_
  refine (sx_iconst (v := 1) dx_225_1 rfl).trans ?_
  refine (sx_pfz dx_225_2 ow_225 fx_7_390 oc_45 (by decide)).trans ?_
  refine (sx_aload_n dx_225_5 rfl).trans ?_
  refine (sx_gfr dx_225_6 ow_225 fx_7_7 oc_45 rb_45_0).trans ?_
  refine (sx_aload_n dx_225_9 rfl).trans ?_
  refine (sx_gfr dx_225_10 ow_225 fx_7_16 oc_45 rb_45_2).trans ?_
  refine (sx_s2v dx_225_13 ow_225 cx_7_275 (Nat.le_of_ble_eq_true rfl)).trans ?_
  refine mj_bnd (fun q1 => ?_)
  refine (sx_aload_n dx_225_16 rfl).trans ?_
  refine (sx_gfr dx_225_17 ow_225 fx_7_7 oc_45 rb_45_0).trans ?_
  refine (sx_bipush (v := 110) dx_225_20 rfl).trans ?_
  refine (sx_ildk (k := 110) dx_225_22 (by decide) ia_46 (by decide) (by decide)).trans ?_
  exact sx_reti dx_225_23 rt_225
theorem dx_226_0 : mj_at 226 0 = some (.aload_n 0) := by decide +kernel
theorem dx_226_1 : mj_at 226 1 = some (.getfield 390) := by decide +kernel
theorem dx_226_4 : mj_at 226 4 = some (.ifCond .ne 5) := by decide +kernel
theorem dx_226_7 : mj_at 226 7 = some (.iconst 0) := by decide +kernel
theorem dx_226_8 : mj_at 226 8 = some (.ireturn) := by decide +kernel
theorem dx_226_9 : mj_at 226 9 = some (.aload_n 0) := by decide +kernel
theorem dx_226_10 : mj_at 226 10 = some (.getfield 16) := by decide +kernel
theorem dx_226_13 : mj_at 226 13 = some (.aload_n 0) := by decide +kernel
theorem dx_226_14 : mj_at 226 14 = some (.getfield 7) := by decide +kernel
theorem dx_226_17 : mj_at 226 17 = some (.invokestatic 275) := by decide +kernel
theorem dx_226_20 : mj_at 226 20 = some (.iconst 1) := by decide +kernel
theorem dx_226_21 : mj_at 226 21 = some (.ireturn) := by decide +kernel
set_option maxRecDepth 10000 in
theorem b_X9_undo {sl d : Nat} {M : mj_M}   : mj_C sl (d + 1) 226 [.ref 45] M = if M 45 45 = 0 then (some ((0 : Int32), M)) else ((mj_C sl d 129 [.ref 48, .ref 46] M).bind (fun q1 => some ((1 : Int32), q1.2))) := by
  show mj_E sl (d + 1) 226 0 [.ref 45] [] M = _
  refine (sx_aload_n dx_226_0 rfl).trans ?_
  refine (sx_gfi dx_226_1 ow_226 fx_7_390 (by decide) oc_45).trans ?_
  refine (sx_if_ne (tgt := 9) dx_226_4 (by decide)).trans ?_
  refine mj_ite ?_ ?_
  · refine (sx_iconst (v := 0) dx_226_7 rfl).trans ?_
    exact sx_retz dx_226_8 rt_226 (by decide)
  · refine (sx_aload_n dx_226_9 rfl).trans ?_
    refine (sx_gfr dx_226_10 ow_226 fx_7_16 oc_45 rb_45_2).trans ?_
    refine (sx_aload_n dx_226_13 rfl).trans ?_
    refine (sx_gfr dx_226_14 ow_226 fx_7_7 oc_45 rb_45_0).trans ?_
    refine (sx_s2v dx_226_17 ow_226 cx_7_275 (Nat.le_of_ble_eq_true rfl)).trans ?_
    refine mj_bnd (fun q1 => ?_)
    refine (sx_iconst (v := 1) dx_226_20 rfl).trans ?_
    exact sx_retz dx_226_21 rt_226 (by decide)
theorem dx_227_0 : mj_at 227 0 = some (.iload_n 1) := by decide +kernel
theorem dx_227_1 : mj_at 227 1 = some (.iconst 0) := by decide +kernel
theorem dx_227_2 : mj_at 227 2 = some (.bipush 10) := by decide +kernel
theorem dx_227_4 : mj_at 227 4 = some (.invokestatic 90) := by decide +kernel
theorem dx_227_7 : mj_at 227 7 = some (.ifCond .eq 11) := by decide +kernel
theorem dx_227_10 : mj_at 227 10 = some (.iload_n 1) := by decide +kernel
theorem dx_227_11 : mj_at 227 11 = some (.aload_n 0) := by decide +kernel
theorem dx_227_12 : mj_at 227 12 = some (.getfield 123) := by decide +kernel
theorem dx_227_15 : mj_at 227 15 = some (.if_icmp .le 6) := by decide +kernel
theorem dx_227_18 : mj_at 227 18 = some (.bipush (-2)) := by decide +kernel
theorem dx_227_20 : mj_at 227 20 = some (.ireturn) := by decide +kernel
theorem dx_227_21 : mj_at 227 21 = some (.aload_n 0) := by decide +kernel
theorem dx_227_22 : mj_at 227 22 = some (.iconst 0) := by decide +kernel
theorem dx_227_23 : mj_at 227 23 = some (.putfield 123) := by decide +kernel
theorem dx_227_26 : mj_at 227 26 = some (.iconst 0) := by decide +kernel
theorem dx_227_27 : mj_at 227 27 = some (.istore_n 2) := by decide +kernel
theorem dx_227_28 : mj_at 227 28 = some (.iload_n 2) := by decide +kernel
theorem dx_227_29 : mj_at 227 29 = some (.iload_n 1) := by decide +kernel
theorem dx_227_30 : mj_at 227 30 = some (.if_icmp .ge 36) := by decide +kernel
theorem dx_227_33 : mj_at 227 33 = some (.aload_n 0) := by decide +kernel
theorem dx_227_34 : mj_at 227 34 = some (.iload_n 2) := by decide +kernel
theorem dx_227_35 : mj_at 227 35 = some (.invokevirtual 233) := by decide +kernel
theorem dx_227_38 : mj_at 227 38 = some (.aload_n 0) := by decide +kernel
theorem dx_227_39 : mj_at 227 39 = some (.iload_n 2) := by decide +kernel
theorem dx_227_40 : mj_at 227 40 = some (.invokevirtual 98) := by decide +kernel
theorem dx_227_43 : mj_at 227 43 = some (.ifCond .eq 11) := by decide +kernel
theorem dx_227_46 : mj_at 227 46 = some (.aload_n 0) := by decide +kernel
theorem dx_227_47 : mj_at 227 47 = some (.iload_n 2) := by decide +kernel
theorem dx_227_48 : mj_at 227 48 = some (.invokevirtual 112) := by decide +kernel
theorem dx_227_51 : mj_at 227 51 = some (.goto 4) := by decide +kernel
theorem dx_227_54 : mj_at 227 54 = some (.iconst 0) := by decide +kernel
theorem dx_227_55 : mj_at 227 55 = some (.if_icmp .eq 5) := by decide +kernel
theorem dx_227_58 : mj_at 227 58 = some (.iload_n 2) := by decide +kernel
theorem dx_227_59 : mj_at 227 59 = some (.ireturn) := by decide +kernel
theorem dx_227_60 : mj_at 227 60 = some (.iinc 2 1) := by decide +kernel
theorem dx_227_63 : mj_at 227 63 = some (.goto (-35)) := by decide +kernel
theorem dx_227_66 : mj_at 227 66 = some (.iconst (-1)) := by decide +kernel
theorem dx_227_67 : mj_at 227 67 = some (.ireturn) := by decide +kernel
set_option maxRecDepth 10000 in
theorem b_X9_check {sl d : Nat} {M : mj_M} {x1 : Int32}  : mj_C sl (d + 1) 227 [.ref 45, .int x1] M = (mj_C sl d 124 [.int x1, .int 0, .int 10] M).bind (fun q1 => if q1.1 = 0 then (some (((-2) : Int32), q1.2)) else (if x1 ≤ (q1.2 45 5) then (mj_E sl (d + 1) 227 28 [.ref 45, .int x1, .int 0] [] (mj_st q1.2 45 5 0)) else (some (((-2) : Int32), q1.2)))) := by
  show mj_E sl (d + 1) 227 0 [.ref 45, .int x1, .null] [] M = _
  refine (sx_iload_n dx_227_0 rfl).trans ?_
  refine (sx_iconst (v := 0) dx_227_1 rfl).trans ?_
  refine (sx_bipush (v := 10) dx_227_2 rfl).trans ?_
  refine (sx_s3i dx_227_4 ow_227 cx_7_90 (Nat.le_of_ble_eq_true rfl)).trans ?_
  refine mj_bnd (fun q1 => ?_)
  refine (sx_if_eq (tgt := 18) dx_227_7 (by decide)).trans ?_
  refine mj_ite ?_ ?_
  · refine (sx_bipush (v := (-2)) dx_227_18 rfl).trans ?_
    exact sx_reti dx_227_20 rt_227
  · refine (sx_iload_n dx_227_10 rfl).trans ?_
    refine (sx_aload_n dx_227_11 rfl).trans ?_
    refine (sx_gfi dx_227_12 ow_227 fx_7_123 (by decide) oc_45).trans ?_
    refine (sx_icmp_le (tgt := 21) dx_227_15 (by decide)).trans ?_
    refine mj_ite ?_ ?_
    · refine (sx_aload_n dx_227_21 rfl).trans ?_
      refine (sx_iconst (v := 0) dx_227_22 rfl).trans ?_
      refine (sx_pfi dx_227_23 ow_227 fx_7_123 oc_45).trans ?_
      refine (sx_iconst (v := 0) dx_227_26 rfl).trans ?_
      refine (sx_istore_n dx_227_27 (Nat.le_of_ble_eq_true rfl) rfl).trans ?_
      rfl
    · refine (sx_bipush (v := (-2)) dx_227_18 rfl).trans ?_
      exact sx_reti dx_227_20 rt_227
set_option maxRecDepth 10000 in
theorem b_X9_check_28 {sl d : Nat} {M : mj_M} {y1 : Int32} {y2 : Int32}  : mj_E sl (d + 1) 227 28 [.ref 45, .int y1, .int y2] [] M = if y2 < y1 then ((mj_C sl d 146 [.ref 45, .int y2] M).bind (fun q1 => (mj_C sl d 132 [.ref 45, .int y2] q1.2).bind (fun q2 => if q2.1 = 0 then (if q1.1 = 0 then (mj_E sl (d + 1) 227 28 [.ref 45, .int y1, .int (y2 + 1)] [] q2.2) else (some ((y2 : Int32), q2.2))) else ((mj_C sl d 137 [.ref 45, .int y2] q2.2).bind (fun q3 => if q1.1 = q3.1 then (mj_E sl (d + 1) 227 28 [.ref 45, .int y1, .int (y2 + 1)] [] q3.2) else (some ((y2 : Int32), q3.2))))))) else (some (((-1) : Int32), M)) := by
  refine (sx_iload_n dx_227_28 rfl).trans ?_
  refine (sx_iload_n dx_227_29 rfl).trans ?_
  refine (sx_icmp_ge (tgt := 66) dx_227_30 (by decide)).trans ?_
  refine mj_ite ?_ ?_
  · refine (sx_aload_n dx_227_33 rfl).trans ?_
    refine (sx_iload_n dx_227_34 rfl).trans ?_
    refine (sx_v1i dx_227_35 ow_227 cx_7_233 oc_45 (Nat.le_of_ble_eq_true rfl)).trans ?_
    refine mj_bnd (fun q1 => ?_)
    refine (sx_aload_n dx_227_38 rfl).trans ?_
    refine (sx_iload_n dx_227_39 rfl).trans ?_
    refine (sx_v1i dx_227_40 ow_227 cx_7_98 oc_45 (Nat.le_of_ble_eq_true rfl)).trans ?_
    refine mj_bnd (fun q2 => ?_)
    refine (sx_if_eq (tgt := 54) dx_227_43 (by decide)).trans ?_
    refine mj_ite ?_ ?_
    · refine (sx_iconst (v := 0) dx_227_54 rfl).trans ?_
      refine (sx_icmp_eq (tgt := 60) dx_227_55 (by decide)).trans ?_
      refine mj_ite ?_ ?_
      · refine (sx_iinc (v := 1) dx_227_60 rfl rfl rfl).trans ?_
        refine (sx_goto (tgt := 28) dx_227_63 (by decide)).trans ?_
        rfl
      · refine (sx_iload_n dx_227_58 rfl).trans ?_
        exact sx_reti dx_227_59 rt_227
    · refine (sx_aload_n dx_227_46 rfl).trans ?_
      refine (sx_iload_n dx_227_47 rfl).trans ?_
      refine (sx_v1i dx_227_48 ow_227 cx_7_112 oc_45 (Nat.le_of_ble_eq_true rfl)).trans ?_
      refine mj_bnd (fun q3 => ?_)
      refine (sx_goto (tgt := 55) dx_227_51 (by decide)).trans ?_
      refine (sx_icmp_eq (tgt := 60) dx_227_55 (by decide)).trans ?_
      refine mj_ite ?_ ?_
      · refine (sx_iinc (v := 1) dx_227_60 rfl rfl rfl).trans ?_
        refine (sx_goto (tgt := 28) dx_227_63 (by decide)).trans ?_
        rfl
      · refine (sx_iload_n dx_227_58 rfl).trans ?_
        exact sx_reti dx_227_59 rt_227
  · refine (sx_iconst (v := (-1)) dx_227_66 rfl).trans ?_
    exact sx_reti dx_227_67 rt_227
theorem dx_228_0 : mj_at 228 0 = some (.iload_n 1) := by decide +kernel
theorem dx_228_1 : mj_at 228 1 = some (.tableswitch 84 0 6 #[43, 51, 56, 61, 66, 71, 76]) := by decide +kernel
theorem dx_228_44 : mj_at 228 44 = some (.aload_n 0) := by decide +kernel
theorem dx_228_45 : mj_at 228 45 = some (.getfield 7) := by decide +kernel
theorem dx_228_48 : mj_at 228 48 = some (.bipush 110) := by decide +kernel
theorem dx_228_50 : mj_at 228 50 = some (.iaload) := by decide +kernel
theorem dx_228_51 : mj_at 228 51 = some (.ireturn) := by decide +kernel
theorem dx_228_52 : mj_at 228 52 = some (.aload_n 0) := by decide +kernel
theorem dx_228_53 : mj_at 228 53 = some (.invokevirtual 339) := by decide +kernel
theorem dx_228_56 : mj_at 228 56 = some (.ireturn) := by decide +kernel
theorem dx_228_57 : mj_at 228 57 = some (.aload_n 0) := by decide +kernel
theorem dx_228_58 : mj_at 228 58 = some (.invokevirtual 336) := by decide +kernel
theorem dx_228_61 : mj_at 228 61 = some (.ireturn) := by decide +kernel
theorem dx_228_62 : mj_at 228 62 = some (.aload_n 0) := by decide +kernel
theorem dx_228_63 : mj_at 228 63 = some (.getfield 251) := by decide +kernel
theorem dx_228_66 : mj_at 228 66 = some (.ireturn) := by decide +kernel
theorem dx_228_67 : mj_at 228 67 = some (.aload_n 0) := by decide +kernel
theorem dx_228_68 : mj_at 228 68 = some (.getfield 223) := by decide +kernel
theorem dx_228_71 : mj_at 228 71 = some (.ireturn) := by decide +kernel
theorem dx_228_72 : mj_at 228 72 = some (.aload_n 0) := by decide +kernel
theorem dx_228_73 : mj_at 228 73 = some (.getfield 123) := by decide +kernel
theorem dx_228_76 : mj_at 228 76 = some (.ireturn) := by decide +kernel
theorem dx_228_77 : mj_at 228 77 = some (.aload_n 0) := by decide +kernel
theorem dx_228_78 : mj_at 228 78 = some (.getfield 7) := by decide +kernel
theorem dx_228_81 : mj_at 228 81 = some (.bipush 111) := by decide +kernel
theorem dx_228_83 : mj_at 228 83 = some (.iaload) := by decide +kernel
theorem dx_228_84 : mj_at 228 84 = some (.ireturn) := by decide +kernel
theorem dx_228_85 : mj_at 228 85 = some (.iload_n 1) := by decide +kernel
theorem dx_228_86 : mj_at 228 86 = some (.bipush 100) := by decide +kernel
theorem dx_228_88 : mj_at 228 88 = some (.bipush 99) := by decide +kernel
theorem dx_228_90 : mj_at 228 90 = some (.aload_n 0) := by decide +kernel
theorem dx_228_91 : mj_at 228 91 = some (.getfield 251) := by decide +kernel
theorem dx_228_94 : mj_at 228 94 = some (.iadd) := by decide +kernel
theorem dx_228_95 : mj_at 228 95 = some (.invokestatic 90) := by decide +kernel
theorem dx_228_98 : mj_at 228 98 = some (.ifCond .eq 15) := by decide +kernel
theorem dx_228_101 : mj_at 228 101 = some (.aload_n 0) := by decide +kernel
theorem dx_228_102 : mj_at 228 102 = some (.getfield 65) := by decide +kernel
theorem dx_228_105 : mj_at 228 105 = some (.iload_n 1) := by decide +kernel
theorem dx_228_106 : mj_at 228 106 = some (.bipush 100) := by decide +kernel
theorem dx_228_108 : mj_at 228 108 = some (.isub) := by decide +kernel
theorem dx_228_109 : mj_at 228 109 = some (.iaload) := by decide +kernel
theorem dx_228_110 : mj_at 228 110 = some (.goto 4) := by decide +kernel
theorem dx_228_113 : mj_at 228 113 = some (.iconst (-1)) := by decide +kernel
theorem dx_228_114 : mj_at 228 114 = some (.ireturn) := by decide +kernel
set_option maxRecDepth 10000 in
theorem b_X9_count {sl d : Nat} {M : mj_M} {x1 : Int32}  : mj_C sl (d + 1) 228 [.ref 45, .int x1] M = if x1 = 0 then (some ((M 46 110 : Int32), M)) else (if x1 = 1 then ((mj_C sl d 134 [.ref 45] M).bind (fun q1 => some ((q1.1 : Int32), q1.2))) else (if x1 = 2 then ((mj_C sl d 133 [.ref 45] M).bind (fun q2 => some ((q2.1 : Int32), q2.2))) else (if x1 = 3 then (some ((M 45 32 : Int32), M)) else (if x1 = 4 then (some ((M 45 14 : Int32), M)) else (if x1 = 5 then (some ((M 45 5 : Int32), M)) else (if x1 = 6 then (some ((M 46 111 : Int32), M)) else ((mj_C sl d 124 [.int x1, .int 100, .int ((99 : Int32) + (M 45 32))] M).bind (fun q3 => if q3.1 = 0 then (some (((-1) : Int32), q3.2)) else (if mj_inB (x1 - 100) 60 = true then (some ((q3.2 64 (x1 - 100 : Int32).toNatClampNeg : Int32), q3.2)) else none))))))))) := by
  show mj_E sl (d + 1) 228 0 [.ref 45, .int x1] [] M = _
  refine (sx_iload_n dx_228_0 rfl).trans ?_
  refine mj_sel (fun hx1_0 => ?_) (fun hx1_0 => ?_)
  · refine (sx_tsw_in (off := 43) (tgt := 44) dx_228_1 hx1_0 (by decide) (by decide) (by decide)).trans ?_
    refine (sx_aload_n dx_228_44 rfl).trans ?_
    refine (sx_gfr dx_228_45 ow_228 fx_7_7 oc_45 rb_45_0).trans ?_
    refine (sx_bipush (v := 110) dx_228_48 rfl).trans ?_
    refine (sx_ildk (k := 110) dx_228_50 (by decide) ia_46 (by decide) (by decide)).trans ?_
    exact sx_reti dx_228_51 rt_228
  refine mj_sel (fun hx1_1 => ?_) (fun hx1_1 => ?_)
  · refine (sx_tsw_in (off := 51) (tgt := 52) dx_228_1 hx1_1 (by decide) (by decide) (by decide)).trans ?_
    refine (sx_aload_n dx_228_52 rfl).trans ?_
    refine (sx_v0i dx_228_53 ow_228 cx_7_339 oc_45 (Nat.le_of_ble_eq_true rfl)).trans ?_
    refine mj_bnd (fun q1 => ?_)
    exact sx_reti dx_228_56 rt_228
  refine mj_sel (fun hx1_2 => ?_) (fun hx1_2 => ?_)
  · refine (sx_tsw_in (off := 56) (tgt := 57) dx_228_1 hx1_2 (by decide) (by decide) (by decide)).trans ?_
    refine (sx_aload_n dx_228_57 rfl).trans ?_
    refine (sx_v0i dx_228_58 ow_228 cx_7_336 oc_45 (Nat.le_of_ble_eq_true rfl)).trans ?_
    refine mj_bnd (fun q2 => ?_)
    exact sx_reti dx_228_61 rt_228
  refine mj_sel (fun hx1_3 => ?_) (fun hx1_3 => ?_)
  · refine (sx_tsw_in (off := 61) (tgt := 62) dx_228_1 hx1_3 (by decide) (by decide) (by decide)).trans ?_
    refine (sx_aload_n dx_228_62 rfl).trans ?_
    refine (sx_gfi dx_228_63 ow_228 fx_7_251 (by decide) oc_45).trans ?_
    exact sx_reti dx_228_66 rt_228
  refine mj_sel (fun hx1_4 => ?_) (fun hx1_4 => ?_)
  · refine (sx_tsw_in (off := 66) (tgt := 67) dx_228_1 hx1_4 (by decide) (by decide) (by decide)).trans ?_
    refine (sx_aload_n dx_228_67 rfl).trans ?_
    refine (sx_gfi dx_228_68 ow_228 fx_7_223 (by decide) oc_45).trans ?_
    exact sx_reti dx_228_71 rt_228
  refine mj_sel (fun hx1_5 => ?_) (fun hx1_5 => ?_)
  · refine (sx_tsw_in (off := 71) (tgt := 72) dx_228_1 hx1_5 (by decide) (by decide) (by decide)).trans ?_
    refine (sx_aload_n dx_228_72 rfl).trans ?_
    refine (sx_gfi dx_228_73 ow_228 fx_7_123 (by decide) oc_45).trans ?_
    exact sx_reti dx_228_76 rt_228
  refine mj_sel (fun hx1_6 => ?_) (fun hx1_6 => ?_)
  · refine (sx_tsw_in (off := 76) (tgt := 77) dx_228_1 hx1_6 (by decide) (by decide) (by decide)).trans ?_
    refine (sx_aload_n dx_228_77 rfl).trans ?_
    refine (sx_gfr dx_228_78 ow_228 fx_7_7 oc_45 rb_45_0).trans ?_
    refine (sx_bipush (v := 111) dx_228_81 rfl).trans ?_
    refine (sx_ildk (k := 111) dx_228_83 (by decide) ia_46 (by decide) (by decide)).trans ?_
    exact sx_reti dx_228_84 rt_228
  have zhx1_0 := mj_ne hx1_0 (n := 0) (by decide)
  have zhx1_1 := mj_ne hx1_1 (n := 1) (by decide)
  have zhx1_2 := mj_ne hx1_2 (n := 2) (by decide)
  have zhx1_3 := mj_ne hx1_3 (n := 3) (by decide)
  have zhx1_4 := mj_ne hx1_4 (n := 4) (by decide)
  have zhx1_5 := mj_ne hx1_5 (n := 5) (by decide)
  have zhx1_6 := mj_ne hx1_6 (n := 6) (by decide)
  refine (sx_tsw_out (tgt := 85) dx_228_1 (by omega) (by decide)).trans ?_
  refine (sx_iload_n dx_228_85 rfl).trans ?_
  refine (sx_bipush (v := 100) dx_228_86 rfl).trans ?_
  refine (sx_bipush (v := 99) dx_228_88 rfl).trans ?_
  refine (sx_aload_n dx_228_90 rfl).trans ?_
  refine (sx_gfi dx_228_91 ow_228 fx_7_251 (by decide) oc_45).trans ?_
  refine (sx_iadd dx_228_94).trans ?_
  refine (sx_s3i dx_228_95 ow_228 cx_7_90 (Nat.le_of_ble_eq_true rfl)).trans ?_
  refine mj_bnd (fun q3 => ?_)
  refine (sx_if_eq (tgt := 113) dx_228_98 (by decide)).trans ?_
  refine mj_ite ?_ ?_
  · refine (sx_iconst (v := (-1)) dx_228_113 rfl).trans ?_
    exact sx_reti dx_228_114 rt_228
  · refine (sx_aload_n dx_228_101 rfl).trans ?_
    refine (sx_gfr dx_228_102 ow_228 fx_7_65 oc_45 rb_45_28).trans ?_
    refine (sx_iload_n dx_228_105 rfl).trans ?_
    refine (sx_bipush (v := 100) dx_228_106 rfl).trans ?_
    refine (sx_isub dx_228_108).trans ?_
    refine (sx_ild dx_228_109 (by decide) ia_64).trans ?_
    refine mj_ite ?_ rfl
    refine (sx_goto (tgt := 114) dx_228_110 (by decide)).trans ?_
    exact sx_reti dx_228_114 rt_228
