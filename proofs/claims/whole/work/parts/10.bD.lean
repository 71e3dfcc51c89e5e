theorem dx_0_0 : mj_at 0 0 = some (.iconst 0) := by decide +kernel
theorem dx_0_1 : mj_at 0 1 = some (.istore_n 3) := by decide +kernel
theorem dx_0_2 : mj_at 0 2 = some (.iconst 0) := by decide +kernel
theorem dx_0_3 : mj_at 0 3 = some (.istore 4) := by decide +kernel
theorem dx_0_5 : mj_at 0 5 = some (.iload 4) := by decide +kernel
theorem dx_0_7 : mj_at 0 7 = some (.bipush 20) := by decide +kernel
theorem dx_0_9 : mj_at 0 9 = some (.if_icmp .gt 134) := by decide +kernel
theorem dx_0_12 : mj_at 0 12 = some (.aload_n 0) := by decide +kernel
theorem dx_0_13 : mj_at 0 13 = some (.iload_n 1) := by decide +kernel
theorem dx_0_14 : mj_at 0 14 = some (.iload_n 3) := by decide +kernel
theorem dx_0_15 : mj_at 0 15 = some (.iload 4) := by decide +kernel
theorem dx_0_17 : mj_at 0 17 = some (.aload_n 2) := by decide +kernel
theorem dx_0_18 : mj_at 0 18 = some (.invokestatic 11) := by decide +kernel
theorem dx_0_21 : mj_at 0 21 = some (.istore 5) := by decide +kernel
theorem dx_0_23 : mj_at 0 23 = some (.iload 5) := by decide +kernel
theorem dx_0_25 : mj_at 0 25 = some (.ifCond .eq 6) := by decide +kernel
theorem dx_0_28 : mj_at 0 28 = some (.iload 5) := by decide +kernel
theorem dx_0_30 : mj_at 0 30 = some (.ireturn) := by decide +kernel
theorem dx_0_31 : mj_at 0 31 = some (.aload_n 0) := by decide +kernel
theorem dx_0_32 : mj_at 0 32 = some (.iload_n 3) := by decide +kernel
theorem dx_0_33 : mj_at 0 33 = some (.invokevirtual 15) := by decide +kernel
theorem dx_0_36 : mj_at 0 36 = some (.bipush 48) := by decide +kernel
theorem dx_0_38 : mj_at 0 38 = some (.isub) := by decide +kernel
theorem dx_0_39 : mj_at 0 39 = some (.istore 6) := by decide +kernel
theorem dx_0_41 : mj_at 0 41 = some (.aload_n 0) := by decide +kernel
theorem dx_0_42 : mj_at 0 42 = some (.iload_n 3) := by decide +kernel
theorem dx_0_43 : mj_at 0 43 = some (.iconst 1) := by decide +kernel
theorem dx_0_44 : mj_at 0 44 = some (.iadd) := by decide +kernel
theorem dx_0_45 : mj_at 0 45 = some (.invokevirtual 15) := by decide +kernel
theorem dx_0_48 : mj_at 0 48 = some (.bipush 65) := by decide +kernel
theorem dx_0_50 : mj_at 0 50 = some (.isub) := by decide +kernel
theorem dx_0_51 : mj_at 0 51 = some (.istore 7) := by decide +kernel
theorem dx_0_53 : mj_at 0 53 = some (.aload_n 0) := by decide +kernel
theorem dx_0_54 : mj_at 0 54 = some (.iload_n 1) := by decide +kernel
theorem dx_0_55 : mj_at 0 55 = some (.iload_n 3) := by decide +kernel
theorem dx_0_56 : mj_at 0 56 = some (.iconst 2) := by decide +kernel
theorem dx_0_57 : mj_at 0 57 = some (.iadd) := by decide +kernel
theorem dx_0_58 : mj_at 0 58 = some (.invokestatic 21) := by decide +kernel
theorem dx_0_61 : mj_at 0 61 = some (.istore 8) := by decide +kernel
theorem dx_0_63 : mj_at 0 63 = some (.iload 8) := by decide +kernel
theorem dx_0_65 : mj_at 0 65 = some (.iload_n 3) := by decide +kernel
theorem dx_0_66 : mj_at 0 66 = some (.iconst 2) := by decide +kernel
theorem dx_0_67 : mj_at 0 67 = some (.iadd) := by decide +kernel
theorem dx_0_68 : mj_at 0 68 = some (.if_icmp .ne 10) := by decide +kernel
theorem dx_0_71 : mj_at 0 71 = some (.iconst 1) := by decide +kernel
theorem dx_0_72 : mj_at 0 72 = some (.iload 8) := by decide +kernel
theorem dx_0_74 : mj_at 0 74 = some (.invokestatic 25) := by decide +kernel
theorem dx_0_77 : mj_at 0 77 = some (.ireturn) := by decide +kernel
theorem dx_0_78 : mj_at 0 78 = some (.aload_n 2) := by decide +kernel
theorem dx_0_79 : mj_at 0 79 = some (.iload 6) := by decide +kernel
theorem dx_0_81 : mj_at 0 81 = some (.iload 7) := by decide +kernel
theorem dx_0_83 : mj_at 0 83 = some (.aload_n 2) := by decide +kernel
theorem dx_0_84 : mj_at 0 84 = some (.iload 6) := by decide +kernel
theorem dx_0_86 : mj_at 0 86 = some (.iload 7) := by decide +kernel
theorem dx_0_88 : mj_at 0 88 = some (.invokevirtual 29) := by decide +kernel
theorem dx_0_91 : mj_at 0 91 = some (.aload_n 0) := by decide +kernel
theorem dx_0_92 : mj_at 0 92 = some (.iload_n 3) := by decide +kernel
theorem dx_0_93 : mj_at 0 93 = some (.iconst 2) := by decide +kernel
theorem dx_0_94 : mj_at 0 94 = some (.iadd) := by decide +kernel
theorem dx_0_95 : mj_at 0 95 = some (.iload 8) := by decide +kernel
theorem dx_0_97 : mj_at 0 97 = some (.invokestatic 34) := by decide +kernel
theorem dx_0_100 : mj_at 0 100 = some (.invokevirtual 38) := by decide +kernel
theorem dx_0_103 : mj_at 0 103 = some (.iload 8) := by decide +kernel
theorem dx_0_105 : mj_at 0 105 = some (.iload_n 1) := by decide +kernel
theorem dx_0_106 : mj_at 0 106 = some (.if_icmp .lt 8) := by decide +kernel
theorem dx_0_109 : mj_at 0 109 = some (.iload 4) := by decide +kernel
theorem dx_0_111 : mj_at 0 111 = some (.iconst 1) := by decide +kernel
theorem dx_0_112 : mj_at 0 112 = some (.iadd) := by decide +kernel
theorem dx_0_113 : mj_at 0 113 = some (.ireturn) := by decide +kernel
theorem dx_0_114 : mj_at 0 114 = some (.aload_n 0) := by decide +kernel
theorem dx_0_115 : mj_at 0 115 = some (.iload 8) := by decide +kernel
theorem dx_0_117 : mj_at 0 117 = some (.invokevirtual 15) := by decide +kernel
theorem dx_0_120 : mj_at 0 120 = some (.bipush 59) := by decide +kernel
theorem dx_0_122 : mj_at 0 122 = some (.if_icmp .eq 10) := by decide +kernel
theorem dx_0_125 : mj_at 0 125 = some (.iconst 1) := by decide +kernel
theorem dx_0_126 : mj_at 0 126 = some (.iload 8) := by decide +kernel
theorem dx_0_128 : mj_at 0 128 = some (.invokestatic 25) := by decide +kernel
theorem dx_0_131 : mj_at 0 131 = some (.ireturn) := by decide +kernel
theorem dx_0_132 : mj_at 0 132 = some (.iload 8) := by decide +kernel
theorem dx_0_134 : mj_at 0 134 = some (.iconst 1) := by decide +kernel
theorem dx_0_135 : mj_at 0 135 = some (.iadd) := by decide +kernel
theorem dx_0_136 : mj_at 0 136 = some (.istore_n 3) := by decide +kernel
theorem dx_0_137 : mj_at 0 137 = some (.iinc 4 1) := by decide +kernel
theorem dx_0_140 : mj_at 0 140 = some (.goto (-135)) := by decide +kernel
theorem dx_0_143 : mj_at 0 143 = some (.iconst 4) := by decide +kernel
theorem dx_0_144 : mj_at 0 144 = some (.iload_n 3) := by decide +kernel
theorem dx_0_145 : mj_at 0 145 = some (.invokestatic 25) := by decide +kernel
theorem dx_0_148 : mj_at 0 148 = some (.ireturn) := by decide +kernel
set_option maxRecDepth 10000 in
theorem b_X0_doLines {sl d : Nat} {M : mj_M} {x2 : Int32} {c3 : Nat} (hc3 : mj_ocl c3 = 0) : mj_C sl (d + 1) 0 [.ref 21, .int x2, .ref c3] M = mj_E sl (d + 1) 0 5 [.ref 21, .int x2, .ref c3, .int 0, .int 0, .null, .null, .null, .null] [] M := by
  show mj_E sl (d + 1) 0 0 [.ref 21, .int x2, .ref c3, .null, .null, .null, .null, .null, .null] [] M = _
  refine (sx_iconst (v := 0) dx_0_0 rfl).trans ?_
  refine (sx_istore_n dx_0_1 (Nat.le_of_ble_eq_true rfl) rfl).trans ?_
  refine (sx_iconst (v := 0) dx_0_2 rfl).trans ?_
  refine (sx_istore dx_0_3 (Nat.le_of_ble_eq_true rfl) rfl).trans ?_
  rfl
set_option maxRecDepth 10000 in
theorem b_X0_doLines_5 {sl d : Nat} {M : mj_M} {c3 : Nat} {y1 : Int32} {y3 : Int32} {y4 : Int32} {w5 : Value} {w6 : Value} {w7 : Value} {w8 : Value} (hc3 : mj_ocl c3 = 0) : mj_E sl (d + 1) 0 5 [.ref 21, .int y1, .ref c3, .int y3, .int y4, w5, w6, w7, w8] [] M = if y4 ≤ 20 then ((mj_C sl d 1 [.ref 21, .int y1, .int y3, .int y4, .ref c3] M).bind (fun q1 => if q1.1 = 0 then ((mj_C sl d 76 [.ref 21, .int y3] q1.2).bind (fun q2 => (mj_C sl d 76 [.ref 21, .int (y3 + 1)] q2.2).bind (fun q3 => (mj_C sl d 2 [.ref 21, .int y1, .int (y3 + 2)] q3.2).bind (fun q4 => if q4.1 = (y3 + 2) then ((mj_C sl d 123 [.int 1, .int q4.1] q4.2).bind (fun q5 => some ((q5.1 : Int32), q5.2))) else ((mj_C sl d 8 [.ref c3, .int (q2.1 - 48), .int (q3.1 - 65)] q4.2).bind (fun q6 => (mj_C sl d 3 [.int q6.1, .ref 21, .int (y3 + 2), .int q4.1] q6.2).bind (fun q7 => (mj_C sl d 7 [.ref c3, .int (q2.1 - 48), .int (q3.1 - 65), .int q7.1] q7.2).bind (fun q8 => if q4.1 < y1 then ((mj_C sl d 76 [.ref 21, .int q4.1] q8.2).bind (fun q9 => if q9.1 = 59 then (mj_E sl (d + 1) 0 5 [.ref 21, .int y1, .ref c3, .int (q4.1 + 1), .int (y4 + 1), .int q1.1, .int (q2.1 - 48), .int (q3.1 - 65), .int q4.1] [] q9.2) else ((mj_C sl d 123 [.int 1, .int q4.1] q9.2).bind (fun q10 => some ((q10.1 : Int32), q10.2))))) else (some ((y4 + 1 : Int32), q8.2)))))))))) else (some ((q1.1 : Int32), q1.2)))) else ((mj_C sl d 123 [.int 4, .int y3] M).bind (fun q11 => some ((q11.1 : Int32), q11.2))) := by
  refine (sx_iload dx_0_5 rfl).trans ?_
  refine (sx_bipush (v := 20) dx_0_7 rfl).trans ?_
  refine (sx_icmp_gt (tgt := 143) dx_0_9 (by decide)).trans ?_
  refine mj_ite ?_ ?_
  · refine (sx_aload_n dx_0_12 rfl).trans ?_
    refine (sx_iload_n dx_0_13 rfl).trans ?_
    refine (sx_iload_n dx_0_14 rfl).trans ?_
    refine (sx_iload dx_0_15 rfl).trans ?_
    refine (sx_aload_n dx_0_17 rfl).trans ?_
    refine (sx_s5i dx_0_18 ow_0 cx_8_11 (Nat.le_of_ble_eq_true rfl)).trans ?_
    refine mj_bnd (fun q1 => ?_)
    refine (sx_istore dx_0_21 (Nat.le_of_ble_eq_true rfl) rfl).trans ?_
    refine (sx_iload dx_0_23 rfl).trans ?_
    refine (sx_if_eq (tgt := 31) dx_0_25 (by decide)).trans ?_
    refine mj_ite ?_ ?_
    · refine (sx_aload_n dx_0_31 rfl).trans ?_
      refine (sx_iload_n dx_0_32 rfl).trans ?_
      refine (sx_v1i dx_0_33 ow_0 cx_8_15 oc_21 (Nat.le_of_ble_eq_true rfl)).trans ?_
      refine mj_bnd (fun q2 => ?_)
      refine (sx_bipush (v := 48) dx_0_36 rfl).trans ?_
      refine (sx_isub dx_0_38).trans ?_
      refine (sx_istore dx_0_39 (Nat.le_of_ble_eq_true rfl) rfl).trans ?_
      refine (sx_aload_n dx_0_41 rfl).trans ?_
      refine (sx_iload_n dx_0_42 rfl).trans ?_
      refine (sx_iconst (v := 1) dx_0_43 rfl).trans ?_
      refine (sx_iadd dx_0_44).trans ?_
      refine (sx_v1i dx_0_45 ow_0 cx_8_15 oc_21 (Nat.le_of_ble_eq_true rfl)).trans ?_
      refine mj_bnd (fun q3 => ?_)
      refine (sx_bipush (v := 65) dx_0_48 rfl).trans ?_
      refine (sx_isub dx_0_50).trans ?_
      refine (sx_istore dx_0_51 (Nat.le_of_ble_eq_true rfl) rfl).trans ?_
      refine (sx_aload_n dx_0_53 rfl).trans ?_
      refine (sx_iload_n dx_0_54 rfl).trans ?_
      refine (sx_iload_n dx_0_55 rfl).trans ?_
      refine (sx_iconst (v := 2) dx_0_56 rfl).trans ?_
      refine (sx_iadd dx_0_57).trans ?_
      refine (sx_s3i dx_0_58 ow_0 cx_8_21 (Nat.le_of_ble_eq_true rfl)).trans ?_
      refine mj_bnd (fun q4 => ?_)
      refine (sx_istore dx_0_61 (Nat.le_of_ble_eq_true rfl) rfl).trans ?_
      refine (sx_iload dx_0_63 rfl).trans ?_
      refine (sx_iload_n dx_0_65 rfl).trans ?_
      refine (sx_iconst (v := 2) dx_0_66 rfl).trans ?_
      refine (sx_iadd dx_0_67).trans ?_
      refine (sx_icmp_ne (tgt := 78) dx_0_68 (by decide)).trans ?_
      refine mj_ite ?_ ?_
      · refine (sx_iconst (v := 1) dx_0_71 rfl).trans ?_
        refine (sx_iload dx_0_72 rfl).trans ?_
        refine (sx_s2in dx_0_74 ow_0 cx_8_25 (Nat.le_of_ble_eq_true rfl)).trans ?_
        refine mj_bnd (fun q5 => ?_)
        exact sx_reti dx_0_77 rt_0
      · refine (sx_aload_n dx_0_78 rfl).trans ?_
        refine (sx_iload dx_0_79 rfl).trans ?_
        refine (sx_iload dx_0_81 rfl).trans ?_
        refine (sx_aload_n dx_0_83 rfl).trans ?_
        refine (sx_iload dx_0_84 rfl).trans ?_
        refine (sx_iload dx_0_86 rfl).trans ?_
        refine (sx_v2i dx_0_88 ow_0 cx_8_29 hc3 (Nat.le_of_ble_eq_true rfl)).trans ?_
        refine mj_bnd (fun q6 => ?_)
        refine (sx_aload_n dx_0_91 rfl).trans ?_
        refine (sx_iload_n dx_0_92 rfl).trans ?_
        refine (sx_iconst (v := 2) dx_0_93 rfl).trans ?_
        refine (sx_iadd dx_0_94).trans ?_
        refine (sx_iload dx_0_95 rfl).trans ?_
        refine (sx_s4i dx_0_97 ow_0 cx_8_34 (Nat.le_of_ble_eq_true rfl)).trans ?_
        refine mj_bnd (fun q7 => ?_)
        refine (sx_v3v dx_0_100 ow_0 cx_8_38 hc3 (Nat.le_of_ble_eq_true rfl)).trans ?_
        refine mj_bnd (fun q8 => ?_)
        refine (sx_iload dx_0_103 rfl).trans ?_
        refine (sx_iload_n dx_0_105 rfl).trans ?_
        refine (sx_icmp_lt (tgt := 114) dx_0_106 (by decide)).trans ?_
        refine mj_ite ?_ ?_
        · refine (sx_aload_n dx_0_114 rfl).trans ?_
          refine (sx_iload dx_0_115 rfl).trans ?_
          refine (sx_v1i dx_0_117 ow_0 cx_8_15 oc_21 (Nat.le_of_ble_eq_true rfl)).trans ?_
          refine mj_bnd (fun q9 => ?_)
          refine (sx_bipush (v := 59) dx_0_120 rfl).trans ?_
          refine (sx_icmp_eq (tgt := 132) dx_0_122 (by decide)).trans ?_
          refine mj_ite ?_ ?_
          · refine (sx_iload dx_0_132 rfl).trans ?_
            refine (sx_iconst (v := 1) dx_0_134 rfl).trans ?_
            refine (sx_iadd dx_0_135).trans ?_
            refine (sx_istore_n dx_0_136 (Nat.le_of_ble_eq_true rfl) rfl).trans ?_
            refine (sx_iinc (v := 1) dx_0_137 rfl rfl rfl).trans ?_
            refine (sx_goto (tgt := 5) dx_0_140 (by decide)).trans ?_
            rfl
          · refine (sx_iconst (v := 1) dx_0_125 rfl).trans ?_
            refine (sx_iload dx_0_126 rfl).trans ?_
            refine (sx_s2in dx_0_128 ow_0 cx_8_25 (Nat.le_of_ble_eq_true rfl)).trans ?_
            refine mj_bnd (fun q10 => ?_)
            exact sx_reti dx_0_131 rt_0
        · refine (sx_iload dx_0_109 rfl).trans ?_
          refine (sx_iconst (v := 1) dx_0_111 rfl).trans ?_
          refine (sx_iadd dx_0_112).trans ?_
          exact sx_reti dx_0_113 rt_0
    · refine (sx_iload dx_0_28 rfl).trans ?_
      exact sx_reti dx_0_30 rt_0
  · refine (sx_iconst (v := 4) dx_0_143 rfl).trans ?_
    refine (sx_iload_n dx_0_144 rfl).trans ?_
    refine (sx_s2in dx_0_145 ow_0 cx_8_25 (Nat.le_of_ble_eq_true rfl)).trans ?_
    refine mj_bnd (fun q11 => ?_)
    exact sx_reti dx_0_148 rt_0
theorem dx_1_0 : mj_at 1 0 = some (.iload_n 2) := by decide +kernel
theorem dx_1_1 : mj_at 1 1 = some (.iload_n 1) := by decide +kernel
theorem dx_1_2 : mj_at 1 2 = some (.if_icmp .ge 14) := by decide +kernel
theorem dx_1_5 : mj_at 1 5 = some (.aload_n 0) := by decide +kernel
theorem dx_1_6 : mj_at 1 6 = some (.iload_n 2) := by decide +kernel
theorem dx_1_7 : mj_at 1 7 = some (.invokevirtual 15) := by decide +kernel
theorem dx_1_10 : mj_at 1 10 = some (.bipush 48) := by decide +kernel
theorem dx_1_12 : mj_at 1 12 = some (.isub) := by decide +kernel
theorem dx_1_13 : mj_at 1 13 = some (.goto 4) := by decide +kernel
theorem dx_1_16 : mj_at 1 16 = some (.iconst (-1)) := by decide +kernel
theorem dx_1_17 : mj_at 1 17 = some (.istore 5) := by decide +kernel
theorem dx_1_19 : mj_at 1 19 = some (.iload 5) := by decide +kernel
theorem dx_1_21 : mj_at 1 21 = some (.ifCond .lt 10) := by decide +kernel
theorem dx_1_24 : mj_at 1 24 = some (.iload 5) := by decide +kernel
theorem dx_1_26 : mj_at 1 26 = some (.bipush 9) := by decide +kernel
theorem dx_1_28 : mj_at 1 28 = some (.if_icmp .le 9) := by decide +kernel
theorem dx_1_31 : mj_at 1 31 = some (.iconst 1) := by decide +kernel
theorem dx_1_32 : mj_at 1 32 = some (.iload_n 2) := by decide +kernel
theorem dx_1_33 : mj_at 1 33 = some (.invokestatic 25) := by decide +kernel
theorem dx_1_36 : mj_at 1 36 = some (.ireturn) := by decide +kernel
theorem dx_1_37 : mj_at 1 37 = some (.iload_n 3) := by decide +kernel
theorem dx_1_38 : mj_at 1 38 = some (.bipush 20) := by decide +kernel
theorem dx_1_40 : mj_at 1 40 = some (.if_icmp .lt 9) := by decide +kernel
theorem dx_1_43 : mj_at 1 43 = some (.iconst 4) := by decide +kernel
theorem dx_1_44 : mj_at 1 44 = some (.iload_n 2) := by decide +kernel
theorem dx_1_45 : mj_at 1 45 = some (.invokestatic 25) := by decide +kernel
theorem dx_1_48 : mj_at 1 48 = some (.ireturn) := by decide +kernel
theorem dx_1_49 : mj_at 1 49 = some (.aload 4) := by decide +kernel
theorem dx_1_51 : mj_at 1 51 = some (.iload 5) := by decide +kernel
theorem dx_1_53 : mj_at 1 53 = some (.invokevirtual 42) := by decide +kernel
theorem dx_1_56 : mj_at 1 56 = some (.ifCond .ne 10) := by decide +kernel
theorem dx_1_59 : mj_at 1 59 = some (.bipush 7) := by decide +kernel
theorem dx_1_61 : mj_at 1 61 = some (.iload_n 2) := by decide +kernel
theorem dx_1_62 : mj_at 1 62 = some (.invokestatic 25) := by decide +kernel
theorem dx_1_65 : mj_at 1 65 = some (.ireturn) := by decide +kernel
theorem dx_1_66 : mj_at 1 66 = some (.iload_n 2) := by decide +kernel
theorem dx_1_67 : mj_at 1 67 = some (.iconst 1) := by decide +kernel
theorem dx_1_68 : mj_at 1 68 = some (.iadd) := by decide +kernel
theorem dx_1_69 : mj_at 1 69 = some (.iload_n 1) := by decide +kernel
theorem dx_1_70 : mj_at 1 70 = some (.if_icmp .ge 16) := by decide +kernel
theorem dx_1_73 : mj_at 1 73 = some (.aload_n 0) := by decide +kernel
theorem dx_1_74 : mj_at 1 74 = some (.iload_n 2) := by decide +kernel
theorem dx_1_75 : mj_at 1 75 = some (.iconst 1) := by decide +kernel
theorem dx_1_76 : mj_at 1 76 = some (.iadd) := by decide +kernel
theorem dx_1_77 : mj_at 1 77 = some (.invokevirtual 15) := by decide +kernel
theorem dx_1_80 : mj_at 1 80 = some (.bipush 65) := by decide +kernel
theorem dx_1_82 : mj_at 1 82 = some (.isub) := by decide +kernel
theorem dx_1_83 : mj_at 1 83 = some (.goto 4) := by decide +kernel
theorem dx_1_86 : mj_at 1 86 = some (.iconst (-1)) := by decide +kernel
theorem dx_1_87 : mj_at 1 87 = some (.istore 6) := by decide +kernel
theorem dx_1_89 : mj_at 1 89 = some (.iload 6) := by decide +kernel
theorem dx_1_91 : mj_at 1 91 = some (.ifCond .lt 10) := by decide +kernel
theorem dx_1_94 : mj_at 1 94 = some (.iload 6) := by decide +kernel
theorem dx_1_96 : mj_at 1 96 = some (.bipush 8) := by decide +kernel
theorem dx_1_98 : mj_at 1 98 = some (.if_icmp .lt 11) := by decide +kernel
theorem dx_1_101 : mj_at 1 101 = some (.iconst 1) := by decide +kernel
theorem dx_1_102 : mj_at 1 102 = some (.iload_n 2) := by decide +kernel
theorem dx_1_103 : mj_at 1 103 = some (.iconst 1) := by decide +kernel
theorem dx_1_104 : mj_at 1 104 = some (.iadd) := by decide +kernel
theorem dx_1_105 : mj_at 1 105 = some (.invokestatic 25) := by decide +kernel
theorem dx_1_108 : mj_at 1 108 = some (.ireturn) := by decide +kernel
theorem dx_1_109 : mj_at 1 109 = some (.aload 4) := by decide +kernel
theorem dx_1_111 : mj_at 1 111 = some (.getfield 46) := by decide +kernel
theorem dx_1_114 : mj_at 1 114 = some (.iload 6) := by decide +kernel
theorem dx_1_116 : mj_at 1 116 = some (.invokevirtual 50) := by decide +kernel
theorem dx_1_119 : mj_at 1 119 = some (.ifCond .eq 7) := by decide +kernel
theorem dx_1_122 : mj_at 1 122 = some (.iconst 0) := by decide +kernel
theorem dx_1_123 : mj_at 1 123 = some (.goto 11) := by decide +kernel
theorem dx_1_126 : mj_at 1 126 = some (.bipush 7) := by decide +kernel
theorem dx_1_128 : mj_at 1 128 = some (.iload_n 2) := by decide +kernel
theorem dx_1_129 : mj_at 1 129 = some (.iconst 1) := by decide +kernel
theorem dx_1_130 : mj_at 1 130 = some (.iadd) := by decide +kernel
theorem dx_1_131 : mj_at 1 131 = some (.invokestatic 25) := by decide +kernel
theorem dx_1_134 : mj_at 1 134 = some (.ireturn) := by decide +kernel
set_option maxRecDepth 10000 in
theorem b_X0_faultAhead {sl d : Nat} {M : mj_M} {x2 : Int32} {x3 : Int32} {x4 : Int32} {c5 : Nat} (hc5 : mj_ocl c5 = 0) : mj_C sl (d + 1) 1 [.ref 21, .int x2, .int x3, .int x4, .ref c5] M = if x3 < x2 then ((mj_C sl d 76 [.ref 21, .int x3] M).bind (fun q1 => if q1.1 - 48 < 0 then ((mj_C sl d 123 [.int 1, .int x3] q1.2).bind (fun q2 => some ((q2.1 : Int32), q2.2))) else (if q1.1 - 48 ≤ 9 then (if x4 < 20 then ((mj_C sl d 5 [.ref c5, .int (q1.1 - 48)] q1.2).bind (fun q3 => if q3.1 = 0 then ((mj_C sl d 123 [.int 7, .int x3] q3.2).bind (fun q4 => some ((q4.1 : Int32), q4.2))) else (if x3 + 1 < x2 then ((mj_C sl d 76 [.ref 21, .int (x3 + 1)] q3.2).bind (fun q5 => if q5.1 - 65 < 0 then ((mj_C sl d 123 [.int 1, .int (x3 + 1)] q5.2).bind (fun q6 => some ((q6.1 : Int32), q6.2))) else (if q5.1 - 65 < 8 then ((mj_C sl d 62 [.ref 1, .int (q5.1 - 65)] q5.2).bind (fun q7 => if q7.1 = 0 then ((mj_C sl d 123 [.int 7, .int (x3 + 1)] q7.2).bind (fun q8 => some ((q8.1 : Int32), q8.2))) else (some ((0 : Int32), q7.2)))) else ((mj_C sl d 123 [.int 1, .int (x3 + 1)] q5.2).bind (fun q9 => some ((q9.1 : Int32), q9.2)))))) else ((mj_C sl d 123 [.int 1, .int (x3 + 1)] q3.2).bind (fun q10 => some ((q10.1 : Int32), q10.2)))))) else ((mj_C sl d 123 [.int 4, .int x3] q1.2).bind (fun q11 => some ((q11.1 : Int32), q11.2)))) else ((mj_C sl d 123 [.int 1, .int x3] q1.2).bind (fun q12 => some ((q12.1 : Int32), q12.2)))))) else ((mj_C sl d 123 [.int 1, .int x3] M).bind (fun q13 => some ((q13.1 : Int32), q13.2))) := by
  show mj_E sl (d + 1) 1 0 [.ref 21, .int x2, .int x3, .int x4, .ref c5, .null, .null] [] M = _
  refine (sx_iload_n dx_1_0 rfl).trans ?_
  refine (sx_iload_n dx_1_1 rfl).trans ?_
  refine (sx_icmp_ge (tgt := 16) dx_1_2 (by decide)).trans ?_
  refine mj_ite ?_ ?_
  · refine (sx_aload_n dx_1_5 rfl).trans ?_
    refine (sx_iload_n dx_1_6 rfl).trans ?_
    refine (sx_v1i dx_1_7 ow_1 cx_8_15 oc_21 (Nat.le_of_ble_eq_true rfl)).trans ?_
    refine mj_bnd (fun q1 => ?_)
    refine (sx_bipush (v := 48) dx_1_10 rfl).trans ?_
    refine (sx_isub dx_1_12).trans ?_
    refine (sx_goto (tgt := 17) dx_1_13 (by decide)).trans ?_
    refine (sx_istore dx_1_17 (Nat.le_of_ble_eq_true rfl) rfl).trans ?_
    refine (sx_iload dx_1_19 rfl).trans ?_
    refine (sx_if_lt (tgt := 31) dx_1_21 (by decide)).trans ?_
    refine mj_ite ?_ ?_
    · refine (sx_iconst (v := 1) dx_1_31 rfl).trans ?_
      refine (sx_iload_n dx_1_32 rfl).trans ?_
      refine (sx_s2in dx_1_33 ow_1 cx_8_25 (Nat.le_of_ble_eq_true rfl)).trans ?_
      refine mj_bnd (fun q2 => ?_)
      exact sx_reti dx_1_36 rt_1
    · refine (sx_iload dx_1_24 rfl).trans ?_
      refine (sx_bipush (v := 9) dx_1_26 rfl).trans ?_
      refine (sx_icmp_le (tgt := 37) dx_1_28 (by decide)).trans ?_
      refine mj_ite ?_ ?_
      · refine (sx_iload_n dx_1_37 rfl).trans ?_
        refine (sx_bipush (v := 20) dx_1_38 rfl).trans ?_
        refine (sx_icmp_lt (tgt := 49) dx_1_40 (by decide)).trans ?_
        refine mj_ite ?_ ?_
        · refine (sx_aload dx_1_49 rfl).trans ?_
          refine (sx_iload dx_1_51 rfl).trans ?_
          refine (sx_v1i dx_1_53 ow_1 cx_8_42 hc5 (Nat.le_of_ble_eq_true rfl)).trans ?_
          refine mj_bnd (fun q3 => ?_)
          refine (sx_if_ne (tgt := 66) dx_1_56 (by decide)).trans ?_
          refine mj_ite ?_ ?_
          · refine (sx_bipush (v := 7) dx_1_59 rfl).trans ?_
            refine (sx_iload_n dx_1_61 rfl).trans ?_
            refine (sx_s2in dx_1_62 ow_1 cx_8_25 (Nat.le_of_ble_eq_true rfl)).trans ?_
            refine mj_bnd (fun q4 => ?_)
            exact sx_reti dx_1_65 rt_1
          · refine (sx_iload_n dx_1_66 rfl).trans ?_
            refine (sx_iconst (v := 1) dx_1_67 rfl).trans ?_
            refine (sx_iadd dx_1_68).trans ?_
            refine (sx_iload_n dx_1_69 rfl).trans ?_
            refine (sx_icmp_ge (tgt := 86) dx_1_70 (by decide)).trans ?_
            refine mj_ite ?_ ?_
            · refine (sx_aload_n dx_1_73 rfl).trans ?_
              refine (sx_iload_n dx_1_74 rfl).trans ?_
              refine (sx_iconst (v := 1) dx_1_75 rfl).trans ?_
              refine (sx_iadd dx_1_76).trans ?_
              refine (sx_v1i dx_1_77 ow_1 cx_8_15 oc_21 (Nat.le_of_ble_eq_true rfl)).trans ?_
              refine mj_bnd (fun q5 => ?_)
              refine (sx_bipush (v := 65) dx_1_80 rfl).trans ?_
              refine (sx_isub dx_1_82).trans ?_
              refine (sx_goto (tgt := 87) dx_1_83 (by decide)).trans ?_
              refine (sx_istore dx_1_87 (Nat.le_of_ble_eq_true rfl) rfl).trans ?_
              refine (sx_iload dx_1_89 rfl).trans ?_
              refine (sx_if_lt (tgt := 101) dx_1_91 (by decide)).trans ?_
              refine mj_ite ?_ ?_
              · refine (sx_iconst (v := 1) dx_1_101 rfl).trans ?_
                refine (sx_iload_n dx_1_102 rfl).trans ?_
                refine (sx_iconst (v := 1) dx_1_103 rfl).trans ?_
                refine (sx_iadd dx_1_104).trans ?_
                refine (sx_s2in dx_1_105 ow_1 cx_8_25 (Nat.le_of_ble_eq_true rfl)).trans ?_
                refine mj_bnd (fun q6 => ?_)
                exact sx_reti dx_1_108 rt_1
              · refine (sx_iload dx_1_94 rfl).trans ?_
                refine (sx_bipush (v := 8) dx_1_96 rfl).trans ?_
                refine (sx_icmp_lt (tgt := 109) dx_1_98 (by decide)).trans ?_
                refine mj_ite ?_ ?_
                · refine (sx_aload dx_1_109 rfl).trans ?_
                  refine (sx_gfr dx_1_111 ow_1 fx_8_46 hc5 (rbC_0 hc5)).trans ?_
                  refine (sx_iload dx_1_114 rfl).trans ?_
                  refine (sx_v1i dx_1_116 ow_1 cx_8_50 oc_1 (Nat.le_of_ble_eq_true rfl)).trans ?_
                  refine mj_bnd (fun q7 => ?_)
                  refine (sx_if_eq (tgt := 126) dx_1_119 (by decide)).trans ?_
                  refine mj_ite ?_ ?_
                  · refine (sx_bipush (v := 7) dx_1_126 rfl).trans ?_
                    refine (sx_iload_n dx_1_128 rfl).trans ?_
                    refine (sx_iconst (v := 1) dx_1_129 rfl).trans ?_
                    refine (sx_iadd dx_1_130).trans ?_
                    refine (sx_s2in dx_1_131 ow_1 cx_8_25 (Nat.le_of_ble_eq_true rfl)).trans ?_
                    refine mj_bnd (fun q8 => ?_)
                    exact sx_reti dx_1_134 rt_1
                  · refine (sx_iconst (v := 0) dx_1_122 rfl).trans ?_
                    refine (sx_goto (tgt := 134) dx_1_123 (by decide)).trans ?_
                    exact sx_reti dx_1_134 rt_1
                · refine (sx_iconst (v := 1) dx_1_101 rfl).trans ?_
                  refine (sx_iload_n dx_1_102 rfl).trans ?_
                  refine (sx_iconst (v := 1) dx_1_103 rfl).trans ?_
                  refine (sx_iadd dx_1_104).trans ?_
                  refine (sx_s2in dx_1_105 ow_1 cx_8_25 (Nat.le_of_ble_eq_true rfl)).trans ?_
                  refine mj_bnd (fun q9 => ?_)
                  exact sx_reti dx_1_108 rt_1
            · refine (sx_iconst (v := (-1)) dx_1_86 rfl).trans ?_
              refine (sx_istore dx_1_87 (Nat.le_of_ble_eq_true rfl) rfl).trans ?_
              refine (sx_iload dx_1_89 rfl).trans ?_
              refine (sx_if_lt_t (tgt := 101) dx_1_91 (by decide) (by decide)).trans ?_
              refine (sx_iconst (v := 1) dx_1_101 rfl).trans ?_
              refine (sx_iload_n dx_1_102 rfl).trans ?_
              refine (sx_iconst (v := 1) dx_1_103 rfl).trans ?_
              refine (sx_iadd dx_1_104).trans ?_
              refine (sx_s2in dx_1_105 ow_1 cx_8_25 (Nat.le_of_ble_eq_true rfl)).trans ?_
              refine mj_bnd (fun q10 => ?_)
              exact sx_reti dx_1_108 rt_1
        · refine (sx_iconst (v := 4) dx_1_43 rfl).trans ?_
          refine (sx_iload_n dx_1_44 rfl).trans ?_
          refine (sx_s2in dx_1_45 ow_1 cx_8_25 (Nat.le_of_ble_eq_true rfl)).trans ?_
          refine mj_bnd (fun q11 => ?_)
          exact sx_reti dx_1_48 rt_1
      · refine (sx_iconst (v := 1) dx_1_31 rfl).trans ?_
        refine (sx_iload_n dx_1_32 rfl).trans ?_
        refine (sx_s2in dx_1_33 ow_1 cx_8_25 (Nat.le_of_ble_eq_true rfl)).trans ?_
        refine mj_bnd (fun q12 => ?_)
        exact sx_reti dx_1_36 rt_1
  · refine (sx_iconst (v := (-1)) dx_1_16 rfl).trans ?_
    refine (sx_istore dx_1_17 (Nat.le_of_ble_eq_true rfl) rfl).trans ?_
    refine (sx_iload dx_1_19 rfl).trans ?_
    refine (sx_if_lt_t (tgt := 31) dx_1_21 (by decide) (by decide)).trans ?_
    refine (sx_iconst (v := 1) dx_1_31 rfl).trans ?_
    refine (sx_iload_n dx_1_32 rfl).trans ?_
    refine (sx_s2in dx_1_33 ow_1 cx_8_25 (Nat.le_of_ble_eq_true rfl)).trans ?_
    refine mj_bnd (fun q13 => ?_)
    exact sx_reti dx_1_36 rt_1
theorem dx_2_0 : mj_at 2 0 = some (.iload_n 2) := by decide +kernel
theorem dx_2_1 : mj_at 2 1 = some (.iload_n 1) := by decide +kernel
theorem dx_2_2 : mj_at 2 2 = some (.if_icmp .ge 11) := by decide +kernel
theorem dx_2_5 : mj_at 2 5 = some (.aload_n 0) := by decide +kernel
theorem dx_2_6 : mj_at 2 6 = some (.iload_n 2) := by decide +kernel
theorem dx_2_7 : mj_at 2 7 = some (.invokevirtual 15) := by decide +kernel
theorem dx_2_10 : mj_at 2 10 = some (.goto 4) := by decide +kernel
theorem dx_2_13 : mj_at 2 13 = some (.iconst (-1)) := by decide +kernel
theorem dx_2_14 : mj_at 2 14 = some (.istore_n 3) := by decide +kernel
theorem dx_2_15 : mj_at 2 15 = some (.iload_n 3) := by decide +kernel
theorem dx_2_16 : mj_at 2 16 = some (.bipush 33) := by decide +kernel
theorem dx_2_18 : mj_at 2 18 = some (.if_icmp .eq 27) := by decide +kernel
theorem dx_2_21 : mj_at 2 21 = some (.iload_n 3) := by decide +kernel
theorem dx_2_22 : mj_at 2 22 = some (.bipush 126) := by decide +kernel
theorem dx_2_24 : mj_at 2 24 = some (.if_icmp .eq 21) := by decide +kernel
theorem dx_2_27 : mj_at 2 27 = some (.iload_n 3) := by decide +kernel
theorem dx_2_28 : mj_at 2 28 = some (.bipush 60) := by decide +kernel
theorem dx_2_30 : mj_at 2 30 = some (.if_icmp .eq 15) := by decide +kernel
theorem dx_2_33 : mj_at 2 33 = some (.iload_n 3) := by decide +kernel
theorem dx_2_34 : mj_at 2 34 = some (.bipush 62) := by decide +kernel
theorem dx_2_36 : mj_at 2 36 = some (.if_icmp .eq 9) := by decide +kernel
theorem dx_2_39 : mj_at 2 39 = some (.iload_n 3) := by decide +kernel
theorem dx_2_40 : mj_at 2 40 = some (.bipush 124) := by decide +kernel
theorem dx_2_42 : mj_at 2 42 = some (.if_icmp .ne 7) := by decide +kernel
theorem dx_2_45 : mj_at 2 45 = some (.iload_n 2) := by decide +kernel
theorem dx_2_46 : mj_at 2 46 = some (.iconst 1) := by decide +kernel
theorem dx_2_47 : mj_at 2 47 = some (.iadd) := by decide +kernel
theorem dx_2_48 : mj_at 2 48 = some (.ireturn) := by decide +kernel
theorem dx_2_49 : mj_at 2 49 = some (.iload_n 2) := by decide +kernel
theorem dx_2_50 : mj_at 2 50 = some (.istore 4) := by decide +kernel
theorem dx_2_52 : mj_at 2 52 = some (.iload 4) := by decide +kernel
theorem dx_2_54 : mj_at 2 54 = some (.iload_n 1) := by decide +kernel
theorem dx_2_55 : mj_at 2 55 = some (.if_icmp .ge 31) := by decide +kernel
theorem dx_2_58 : mj_at 2 58 = some (.aload_n 0) := by decide +kernel
theorem dx_2_59 : mj_at 2 59 = some (.iload 4) := by decide +kernel
theorem dx_2_61 : mj_at 2 61 = some (.invokevirtual 15) := by decide +kernel
theorem dx_2_64 : mj_at 2 64 = some (.bipush 96) := by decide +kernel
theorem dx_2_66 : mj_at 2 66 = some (.if_icmp .le 20) := by decide +kernel
theorem dx_2_69 : mj_at 2 69 = some (.aload_n 0) := by decide +kernel
theorem dx_2_70 : mj_at 2 70 = some (.iload 4) := by decide +kernel
theorem dx_2_72 : mj_at 2 72 = some (.invokevirtual 15) := by decide +kernel
theorem dx_2_75 : mj_at 2 75 = some (.bipush 121) := by decide +kernel
theorem dx_2_77 : mj_at 2 77 = some (.if_icmp .gt 9) := by decide +kernel
theorem dx_2_80 : mj_at 2 80 = some (.iinc 4 1) := by decide +kernel
theorem dx_2_83 : mj_at 2 83 = some (.goto (-31)) := by decide +kernel
theorem dx_2_86 : mj_at 2 86 = some (.iload 4) := by decide +kernel
theorem dx_2_88 : mj_at 2 88 = some (.ireturn) := by decide +kernel
set_option maxRecDepth 10000 in
theorem b_X0_lineEnd {sl d : Nat} {M : mj_M} {x2 : Int32} {x3 : Int32}  : mj_C sl (d + 1) 2 [.ref 21, .int x2, .int x3] M = if x3 < x2 then ((mj_C sl d 76 [.ref 21, .int x3] M).bind (fun q1 => if q1.1 = 33 then (some ((x3 + 1 : Int32), q1.2)) else (if q1.1 = 126 then (some ((x3 + 1 : Int32), q1.2)) else (if q1.1 = 60 then (some ((x3 + 1 : Int32), q1.2)) else (if q1.1 = 62 then (some ((x3 + 1 : Int32), q1.2)) else (if q1.1 = 124 then (some ((x3 + 1 : Int32), q1.2)) else (mj_E sl (d + 1) 2 52 [.ref 21, .int x2, .int x3, .int q1.1, .int x3] [] q1.2))))))) else (mj_E sl (d + 1) 2 52 [.ref 21, .int x2, .int x3, .int (-1), .int x3] [] M) := by
  show mj_E sl (d + 1) 2 0 [.ref 21, .int x2, .int x3, .null, .null] [] M = _
  refine (sx_iload_n dx_2_0 rfl).trans ?_
  refine (sx_iload_n dx_2_1 rfl).trans ?_
  refine (sx_icmp_ge (tgt := 13) dx_2_2 (by decide)).trans ?_
  refine mj_ite ?_ ?_
  · refine (sx_aload_n dx_2_5 rfl).trans ?_
    refine (sx_iload_n dx_2_6 rfl).trans ?_
    refine (sx_v1i dx_2_7 ow_2 cx_8_15 oc_21 (Nat.le_of_ble_eq_true rfl)).trans ?_
    refine mj_bnd (fun q1 => ?_)
    refine (sx_goto (tgt := 14) dx_2_10 (by decide)).trans ?_
    refine (sx_istore_n dx_2_14 (Nat.le_of_ble_eq_true rfl) rfl).trans ?_
    refine (sx_iload_n dx_2_15 rfl).trans ?_
    refine (sx_bipush (v := 33) dx_2_16 rfl).trans ?_
    refine (sx_icmp_eq (tgt := 45) dx_2_18 (by decide)).trans ?_
    refine mj_ite ?_ ?_
    · refine (sx_iload_n dx_2_45 rfl).trans ?_
      refine (sx_iconst (v := 1) dx_2_46 rfl).trans ?_
      refine (sx_iadd dx_2_47).trans ?_
      exact sx_reti dx_2_48 rt_2
    · refine (sx_iload_n dx_2_21 rfl).trans ?_
      refine (sx_bipush (v := 126) dx_2_22 rfl).trans ?_
      refine (sx_icmp_eq (tgt := 45) dx_2_24 (by decide)).trans ?_
      refine mj_ite ?_ ?_
      · refine (sx_iload_n dx_2_45 rfl).trans ?_
        refine (sx_iconst (v := 1) dx_2_46 rfl).trans ?_
        refine (sx_iadd dx_2_47).trans ?_
        exact sx_reti dx_2_48 rt_2
      · refine (sx_iload_n dx_2_27 rfl).trans ?_
        refine (sx_bipush (v := 60) dx_2_28 rfl).trans ?_
        refine (sx_icmp_eq (tgt := 45) dx_2_30 (by decide)).trans ?_
        refine mj_ite ?_ ?_
        · refine (sx_iload_n dx_2_45 rfl).trans ?_
          refine (sx_iconst (v := 1) dx_2_46 rfl).trans ?_
          refine (sx_iadd dx_2_47).trans ?_
          exact sx_reti dx_2_48 rt_2
        · refine (sx_iload_n dx_2_33 rfl).trans ?_
          refine (sx_bipush (v := 62) dx_2_34 rfl).trans ?_
          refine (sx_icmp_eq (tgt := 45) dx_2_36 (by decide)).trans ?_
          refine mj_ite ?_ ?_
          · refine (sx_iload_n dx_2_45 rfl).trans ?_
            refine (sx_iconst (v := 1) dx_2_46 rfl).trans ?_
            refine (sx_iadd dx_2_47).trans ?_
            exact sx_reti dx_2_48 rt_2
          · refine (sx_iload_n dx_2_39 rfl).trans ?_
            refine (sx_bipush (v := 124) dx_2_40 rfl).trans ?_
            refine (sx_icmp_ne (tgt := 49) dx_2_42 (by decide)).trans ?_
            refine mj_ite ?_ ?_
            · refine (sx_iload_n dx_2_45 rfl).trans ?_
              refine (sx_iconst (v := 1) dx_2_46 rfl).trans ?_
              refine (sx_iadd dx_2_47).trans ?_
              exact sx_reti dx_2_48 rt_2
            · refine (sx_iload_n dx_2_49 rfl).trans ?_
              refine (sx_istore dx_2_50 (Nat.le_of_ble_eq_true rfl) rfl).trans ?_
              rfl
  · refine (sx_iconst (v := (-1)) dx_2_13 rfl).trans ?_
    refine (sx_istore_n dx_2_14 (Nat.le_of_ble_eq_true rfl) rfl).trans ?_
    refine (sx_iload_n dx_2_15 rfl).trans ?_
    refine (sx_bipush (v := 33) dx_2_16 rfl).trans ?_
    refine (sx_icmp_eq_f (tgt := 45) dx_2_18 (by decide) (by decide)).trans ?_
    refine (sx_iload_n dx_2_21 rfl).trans ?_
    refine (sx_bipush (v := 126) dx_2_22 rfl).trans ?_
    refine (sx_icmp_eq_f (tgt := 45) dx_2_24 (by decide) (by decide)).trans ?_
    refine (sx_iload_n dx_2_27 rfl).trans ?_
    refine (sx_bipush (v := 60) dx_2_28 rfl).trans ?_
    refine (sx_icmp_eq_f (tgt := 45) dx_2_30 (by decide) (by decide)).trans ?_
    refine (sx_iload_n dx_2_33 rfl).trans ?_
    refine (sx_bipush (v := 62) dx_2_34 rfl).trans ?_
    refine (sx_icmp_eq_f (tgt := 45) dx_2_36 (by decide) (by decide)).trans ?_
    refine (sx_iload_n dx_2_39 rfl).trans ?_
    refine (sx_bipush (v := 124) dx_2_40 rfl).trans ?_
    refine (sx_icmp_ne_f (tgt := 49) dx_2_42 (by decide) (by decide)).trans ?_
    refine (sx_iload_n dx_2_49 rfl).trans ?_
    refine (sx_istore dx_2_50 (Nat.le_of_ble_eq_true rfl) rfl).trans ?_
    rfl
set_option maxRecDepth 10000 in
theorem b_X0_lineEnd_52 {sl d : Nat} {M : mj_M} {y1 : Int32} {w2 : Value} {w3 : Value} {y4 : Int32}  : mj_E sl (d + 1) 2 52 [.ref 21, .int y1, w2, w3, .int y4] [] M = if y4 < y1 then ((mj_C sl d 76 [.ref 21, .int y4] M).bind (fun q1 => if q1.1 ≤ 96 then (some ((y4 : Int32), q1.2)) else ((mj_C sl d 76 [.ref 21, .int y4] q1.2).bind (fun q2 => if q2.1 ≤ 121 then (mj_E sl (d + 1) 2 52 [.ref 21, .int y1, w2, w3, .int (y4 + 1)] [] q2.2) else (some ((y4 : Int32), q2.2)))))) else (some ((y4 : Int32), M)) := by
  refine (sx_iload dx_2_52 rfl).trans ?_
  refine (sx_iload_n dx_2_54 rfl).trans ?_
  refine (sx_icmp_ge (tgt := 86) dx_2_55 (by decide)).trans ?_
  refine mj_ite ?_ ?_
  · refine (sx_aload_n dx_2_58 rfl).trans ?_
    refine (sx_iload dx_2_59 rfl).trans ?_
    refine (sx_v1i dx_2_61 ow_2 cx_8_15 oc_21 (Nat.le_of_ble_eq_true rfl)).trans ?_
    refine mj_bnd (fun q1 => ?_)
    refine (sx_bipush (v := 96) dx_2_64 rfl).trans ?_
    refine (sx_icmp_le (tgt := 86) dx_2_66 (by decide)).trans ?_
    refine mj_ite ?_ ?_
    · refine (sx_iload dx_2_86 rfl).trans ?_
      exact sx_reti dx_2_88 rt_2
    · refine (sx_aload_n dx_2_69 rfl).trans ?_
      refine (sx_iload dx_2_70 rfl).trans ?_
      refine (sx_v1i dx_2_72 ow_2 cx_8_15 oc_21 (Nat.le_of_ble_eq_true rfl)).trans ?_
      refine mj_bnd (fun q2 => ?_)
      refine (sx_bipush (v := 121) dx_2_75 rfl).trans ?_
      refine (sx_icmp_gt (tgt := 86) dx_2_77 (by decide)).trans ?_
      refine mj_ite ?_ ?_
      · refine (sx_iinc (v := 1) dx_2_80 rfl rfl rfl).trans ?_
        refine (sx_goto (tgt := 52) dx_2_83 (by decide)).trans ?_
        rfl
      · refine (sx_iload dx_2_86 rfl).trans ?_
        exact sx_reti dx_2_88 rt_2
  · refine (sx_iload dx_2_86 rfl).trans ?_
    exact sx_reti dx_2_88 rt_2
theorem dx_3_0 : mj_at 3 0 = some (.aload_n 1) := by decide +kernel
theorem dx_3_1 : mj_at 3 1 = some (.iload_n 2) := by decide +kernel
theorem dx_3_2 : mj_at 3 2 = some (.invokevirtual 15) := by decide +kernel
theorem dx_3_5 : mj_at 3 5 = some (.lookupswitch 73 #[(33, 51), (60, 58), (62, 63), (124, 68), (126, 53)]) := by decide +kernel
theorem dx_3_56 : mj_at 3 56 = some (.iconst 0) := by decide +kernel
theorem dx_3_57 : mj_at 3 57 = some (.ireturn) := by decide +kernel
theorem dx_3_58 : mj_at 3 58 = some (.iload_n 0) := by decide +kernel
theorem dx_3_59 : mj_at 3 59 = some (.ldc 55) := by decide +kernel
theorem dx_3_61 : mj_at 3 61 = some (.ixor) := by decide +kernel
theorem dx_3_62 : mj_at 3 62 = some (.ireturn) := by decide +kernel
theorem dx_3_63 : mj_at 3 63 = some (.iload_n 0) := by decide +kernel
theorem dx_3_64 : mj_at 3 64 = some (.invokestatic 56) := by decide +kernel
theorem dx_3_67 : mj_at 3 67 = some (.ireturn) := by decide +kernel
theorem dx_3_68 : mj_at 3 68 = some (.iload_n 0) := by decide +kernel
theorem dx_3_69 : mj_at 3 69 = some (.invokestatic 59) := by decide +kernel
theorem dx_3_72 : mj_at 3 72 = some (.ireturn) := by decide +kernel
theorem dx_3_73 : mj_at 3 73 = some (.iload_n 0) := by decide +kernel
theorem dx_3_74 : mj_at 3 74 = some (.invokestatic 62) := by decide +kernel
theorem dx_3_77 : mj_at 3 77 = some (.ireturn) := by decide +kernel
theorem dx_3_78 : mj_at 3 78 = some (.iload_n 0) := by decide +kernel
theorem dx_3_79 : mj_at 3 79 = some (.istore 4) := by decide +kernel
theorem dx_3_81 : mj_at 3 81 = some (.iload_n 2) := by decide +kernel
theorem dx_3_82 : mj_at 3 82 = some (.istore 5) := by decide +kernel
theorem dx_3_84 : mj_at 3 84 = some (.iload 5) := by decide +kernel
theorem dx_3_86 : mj_at 3 86 = some (.iload_n 3) := by decide +kernel
theorem dx_3_87 : mj_at 3 87 = some (.if_icmp .ge 25) := by decide +kernel
theorem dx_3_90 : mj_at 3 90 = some (.iload 4) := by decide +kernel
theorem dx_3_92 : mj_at 3 92 = some (.iconst 1) := by decide +kernel
theorem dx_3_93 : mj_at 3 93 = some (.aload_n 1) := by decide +kernel
theorem dx_3_94 : mj_at 3 94 = some (.iload 5) := by decide +kernel
theorem dx_3_96 : mj_at 3 96 = some (.invokevirtual 15) := by decide +kernel
theorem dx_3_99 : mj_at 3 99 = some (.bipush 97) := by decide +kernel
theorem dx_3_101 : mj_at 3 101 = some (.isub) := by decide +kernel
theorem dx_3_102 : mj_at 3 102 = some (.ishl) := by decide +kernel
theorem dx_3_103 : mj_at 3 103 = some (.ixor) := by decide +kernel
theorem dx_3_104 : mj_at 3 104 = some (.istore 4) := by decide +kernel
theorem dx_3_106 : mj_at 3 106 = some (.iinc 5 1) := by decide +kernel
theorem dx_3_109 : mj_at 3 109 = some (.goto (-25)) := by decide +kernel
theorem dx_3_112 : mj_at 3 112 = some (.iload 4) := by decide +kernel
theorem dx_3_114 : mj_at 3 114 = some (.ireturn) := by decide +kernel
set_option maxRecDepth 10000 in
theorem b_X0_blotted {sl d : Nat} {M : mj_M} {x1 : Int32} {x3 : Int32} {x4 : Int32}  : mj_C sl (d + 1) 3 [.int x1, .ref 21, .int x3, .int x4] M = (mj_C sl d 76 [.ref 21, .int x3] M).bind (fun q1 => if q1.1 = 33 then (some ((0 : Int32), q1.2)) else (if q1.1 = 60 then ((mj_C sl d 22 [.int x1] q1.2).bind (fun q2 => some ((q2.1 : Int32), q2.2))) else (if q1.1 = 62 then ((mj_C sl d 23 [.int x1] q1.2).bind (fun q3 => some ((q3.1 : Int32), q3.2))) else (if q1.1 = 124 then ((mj_C sl d 26 [.int x1] q1.2).bind (fun q4 => some ((q4.1 : Int32), q4.2))) else (if q1.1 = 126 then (some ((x1 ^^^ 33554431 : Int32), q1.2)) else (mj_E sl (d + 1) 3 84 [.int x1, .ref 21, .int x3, .int x4, .int x1, .int x3] [] q1.2)))))) := by
  show mj_E sl (d + 1) 3 0 [.int x1, .ref 21, .int x3, .int x4, .null, .null] [] M = _
  refine (sx_aload_n dx_3_0 rfl).trans ?_
  refine (sx_iload_n dx_3_1 rfl).trans ?_
  refine (sx_v1i dx_3_2 ow_3 cx_8_15 oc_21 (Nat.le_of_ble_eq_true rfl)).trans ?_
  refine mj_bnd (fun q1 => ?_)
  refine mj_sel (fun hx1_0 => ?_) (fun hx1_0 => ?_)
  · refine (sx_lsw (off := 51) (tgt := 56) dx_3_5 (by decide) (by rw [hx1_0]; decide) (by decide)).trans ?_
    refine (sx_iconst (v := 0) dx_3_56 rfl).trans ?_
    exact sx_reti dx_3_57 rt_3
  refine mj_sel (fun hx1_1 => ?_) (fun hx1_1 => ?_)
  · refine (sx_lsw (off := 58) (tgt := 63) dx_3_5 (by decide) (by rw [hx1_1]; decide) (by decide)).trans ?_
    refine (sx_iload_n dx_3_63 rfl).trans ?_
    refine (sx_s1i dx_3_64 ow_3 cx_8_56 (Nat.le_of_ble_eq_true rfl)).trans ?_
    refine mj_bnd (fun q2 => ?_)
    exact sx_reti dx_3_67 rt_3
  refine mj_sel (fun hx1_2 => ?_) (fun hx1_2 => ?_)
  · refine (sx_lsw (off := 63) (tgt := 68) dx_3_5 (by decide) (by rw [hx1_2]; decide) (by decide)).trans ?_
    refine (sx_iload_n dx_3_68 rfl).trans ?_
    refine (sx_s1i dx_3_69 ow_3 cx_8_59 (Nat.le_of_ble_eq_true rfl)).trans ?_
    refine mj_bnd (fun q3 => ?_)
    exact sx_reti dx_3_72 rt_3
  refine mj_sel (fun hx1_3 => ?_) (fun hx1_3 => ?_)
  · refine (sx_lsw (off := 68) (tgt := 73) dx_3_5 (by decide) (by rw [hx1_3]; decide) (by decide)).trans ?_
    refine (sx_iload_n dx_3_73 rfl).trans ?_
    refine (sx_s1i dx_3_74 ow_3 cx_8_62 (Nat.le_of_ble_eq_true rfl)).trans ?_
    refine mj_bnd (fun q4 => ?_)
    exact sx_reti dx_3_77 rt_3
  refine mj_sel (fun hx1_4 => ?_) (fun hx1_4 => ?_)
  · refine (sx_lsw (off := 53) (tgt := 58) dx_3_5 (by decide) (by rw [hx1_4]; decide) (by decide)).trans ?_
    refine (sx_iload_n dx_3_58 rfl).trans ?_
    refine (sx_ldc (v := 33554431) dx_3_59 ow_3 kx_8_55).trans ?_
    refine (sx_ixor dx_3_61).trans ?_
    exact sx_reti dx_3_62 rt_3
  have zhx1_0 := mj_ne hx1_0 (n := 33) (by decide)
  have zhx1_1 := mj_ne hx1_1 (n := 60) (by decide)
  have zhx1_2 := mj_ne hx1_2 (n := 62) (by decide)
  have zhx1_3 := mj_ne hx1_3 (n := 124) (by decide)
  have zhx1_4 := mj_ne hx1_4 (n := 126) (by decide)
  refine (sx_lsw (off := 73) (tgt := 78) dx_3_5 (by decide) (by simp [Op.lookupswitch.offset, mj_nes zhx1_0, mj_nes zhx1_1, mj_nes zhx1_2, mj_nes zhx1_3, mj_nes zhx1_4]) (by decide)).trans ?_
  refine (sx_iload_n dx_3_78 rfl).trans ?_
  refine (sx_istore dx_3_79 (Nat.le_of_ble_eq_true rfl) rfl).trans ?_
  refine (sx_iload_n dx_3_81 rfl).trans ?_
  refine (sx_istore dx_3_82 (Nat.le_of_ble_eq_true rfl) rfl).trans ?_
  rfl
set_option maxRecDepth 10000 in
theorem b_X0_blotted_84 {sl d : Nat} {M : mj_M} {w0 : Value} {w2 : Value} {y3 : Int32} {y4 : Int32} {y5 : Int32}  : mj_E sl (d + 1) 3 84 [w0, .ref 21, w2, .int y3, .int y4, .int y5] [] M = if y5 < y3 then ((mj_C sl d 76 [.ref 21, .int y5] M).bind (fun q1 => mj_E sl (d + 1) 3 84 [w0, .ref 21, w2, .int y3, .int (y4 ^^^ ((1 : Int32) <<< ((q1.1 - 97) &&& 31))), .int (y5 + 1)] [] q1.2)) else (some ((y4 : Int32), M)) := by
  refine (sx_iload dx_3_84 rfl).trans ?_
  refine (sx_iload_n dx_3_86 rfl).trans ?_
  refine (sx_icmp_ge (tgt := 112) dx_3_87 (by decide)).trans ?_
  refine mj_ite ?_ ?_
  · refine (sx_iload dx_3_90 rfl).trans ?_
    refine (sx_iconst (v := 1) dx_3_92 rfl).trans ?_
    refine (sx_aload_n dx_3_93 rfl).trans ?_
    refine (sx_iload dx_3_94 rfl).trans ?_
    refine (sx_v1i dx_3_96 ow_3 cx_8_15 oc_21 (Nat.le_of_ble_eq_true rfl)).trans ?_
    refine mj_bnd (fun q1 => ?_)
    refine (sx_bipush (v := 97) dx_3_99 rfl).trans ?_
    refine (sx_isub dx_3_101).trans ?_
    refine (sx_ishl dx_3_102).trans ?_
    refine (sx_ixor dx_3_103).trans ?_
    refine (sx_istore dx_3_104 (Nat.le_of_ble_eq_true rfl) rfl).trans ?_
    refine (sx_iinc (v := 1) dx_3_106 rfl rfl rfl).trans ?_
    refine (sx_goto (tgt := 84) dx_3_109 (by decide)).trans ?_
    rfl
  · refine (sx_iload dx_3_112 rfl).trans ?_
    exact sx_reti dx_3_114 rt_3
theorem dx_46_0 : mj_at 46 0 = some (.aload_n 0) := by decide +kernel
theorem dx_46_1 : mj_at 46 1 = some (.getfield 12) := by decide +kernel
theorem dx_46_4 : mj_at 46 4 = some (.astore_n 2) := by decide +kernel
theorem dx_46_5 : mj_at 46 5 = some (.aload_n 0) := by decide +kernel
theorem dx_46_6 : mj_at 46 6 = some (.aload_n 1) := by decide +kernel
theorem dx_46_7 : mj_at 46 7 = some (.putfield 12) := by decide +kernel
theorem dx_46_10 : mj_at 46 10 = some (.aload_n 2) := by decide +kernel
theorem dx_46_11 : mj_at 46 11 = some (.areturn) := by decide +kernel
theorem dx_47_0 : mj_at 47 0 = some (.aload_n 0) := by decide +kernel
theorem dx_47_1 : mj_at 47 1 = some (.iload_n 1) := by decide +kernel
theorem dx_47_2 : mj_at 47 2 = some (.putfield 22) := by decide +kernel
theorem dx_47_5 : mj_at 47 5 = some (.aload_n 0) := by decide +kernel
theorem dx_47_6 : mj_at 47 6 = some (.iconst 0) := by decide +kernel
theorem dx_47_7 : mj_at 47 7 = some (.putfield 26) := by decide +kernel
theorem dx_47_10 : mj_at 47 10 = some (.aload_n 0) := by decide +kernel
theorem dx_47_11 : mj_at 47 11 = some (.iconst 0) := by decide +kernel
theorem dx_47_12 : mj_at 47 12 = some (.putfield 29) := by decide +kernel
theorem dx_47_15 : mj_at 47 15 = some (.aload_n 0) := by decide +kernel
theorem dx_47_16 : mj_at 47 16 = some (.getfield 12) := by decide +kernel
theorem dx_47_19 : mj_at 47 19 = some (.invokevirtual 32) := by decide +kernel
theorem dx_47_22 : mj_at 47 22 = some (.iconst 0) := by decide +kernel
theorem dx_47_23 : mj_at 47 23 = some (.istore_n 2) := by decide +kernel
theorem dx_47_24 : mj_at 47 24 = some (.iload_n 2) := by decide +kernel
theorem dx_47_25 : mj_at 47 25 = some (.bipush 16) := by decide +kernel
theorem dx_47_27 : mj_at 47 27 = some (.if_icmp .gt 50) := by decide +kernel
theorem dx_47_30 : mj_at 47 30 = some (.aload_n 0) := by decide +kernel
theorem dx_47_31 : mj_at 47 31 = some (.invokevirtual 35) := by decide +kernel
theorem dx_47_34 : mj_at 47 34 = some (.aload_n 0) := by decide +kernel
theorem dx_47_35 : mj_at 47 35 = some (.getfield 29) := by decide +kernel
theorem dx_47_38 : mj_at 47 38 = some (.ifCond .eq 8) := by decide +kernel
theorem dx_47_41 : mj_at 47 41 = some (.aload_n 0) := by decide +kernel
theorem dx_47_42 : mj_at 47 42 = some (.getfield 29) := by decide +kernel
theorem dx_47_45 : mj_at 47 45 = some (.ireturn) := by decide +kernel
theorem dx_47_46 : mj_at 47 46 = some (.aload_n 0) := by decide +kernel
theorem dx_47_47 : mj_at 47 47 = some (.getfield 26) := by decide +kernel
theorem dx_47_50 : mj_at 47 50 = some (.aload_n 0) := by decide +kernel
theorem dx_47_51 : mj_at 47 51 = some (.getfield 22) := by decide +kernel
theorem dx_47_54 : mj_at 47 54 = some (.if_icmp .lt 11) := by decide +kernel
theorem dx_47_57 : mj_at 47 57 = some (.aload_n 0) := by decide +kernel
theorem dx_47_58 : mj_at 47 58 = some (.getfield 12) := by decide +kernel
theorem dx_47_61 : mj_at 47 61 = some (.getfield 38) := by decide +kernel
theorem dx_47_64 : mj_at 47 64 = some (.ireturn) := by decide +kernel
theorem dx_47_65 : mj_at 47 65 = some (.aload_n 0) := by decide +kernel
theorem dx_47_66 : mj_at 47 66 = some (.bipush 59) := by decide +kernel
theorem dx_47_68 : mj_at 47 68 = some (.invokevirtual 41) := by decide +kernel
theorem dx_47_71 : mj_at 47 71 = some (.iinc 2 1) := by decide +kernel
theorem dx_47_74 : mj_at 47 74 = some (.goto (-50)) := by decide +kernel
theorem dx_47_77 : mj_at 47 77 = some (.aload_n 0) := by decide +kernel
theorem dx_47_78 : mj_at 47 78 = some (.getfield 29) := by decide +kernel
theorem dx_47_81 : mj_at 47 81 = some (.ireturn) := by decide +kernel
set_option maxRecDepth 10000 in
theorem b_X4_readLaw {sl d : Nat} {M : mj_M} {x1 : Int32}  : mj_C sl (d + 1) 47 [.ref 28, .int x1] M = (mj_C sl d 41 [.ref (mj_lw ((mj_st (mj_st (mj_st M 28 2 x1) 28 3 0) 28 4 0) 28 1))] (mj_st (mj_st (mj_st M 28 2 x1) 28 3 0) 28 4 0)).bind (fun q1 => mj_E sl (d + 1) 47 24 [.ref 28, .int x1, .int 0] [] q1.2) := by
  show mj_E sl (d + 1) 47 0 [.ref 28, .int x1, .null] [] M = _
  refine (sx_aload_n dx_47_0 rfl).trans ?_
  refine (sx_iload_n dx_47_1 rfl).trans ?_
  refine (sx_pfi dx_47_2 ow_47 fx_2_22 oc_28).trans ?_
  refine (sx_aload_n dx_47_5 rfl).trans ?_
  refine (sx_iconst (v := 0) dx_47_6 rfl).trans ?_
  refine (sx_pfi dx_47_7 ow_47 fx_2_26 oc_28).trans ?_
  refine (sx_aload_n dx_47_10 rfl).trans ?_
  refine (sx_iconst (v := 0) dx_47_11 rfl).trans ?_
  refine (sx_pfi dx_47_12 ow_47 fx_2_29 oc_28).trans ?_
  refine (sx_aload_n dx_47_15 rfl).trans ?_
  refine (sx_gfl dx_47_16 ow_47 fx_2_12 oc_28).trans ?_
  refine (sx_v0v dx_47_19 ow_47 cx_2_32 (oc_lw _) (Nat.le_of_ble_eq_true rfl)).trans ?_
  refine mj_bnd (fun q1 => ?_)
  refine (sx_iconst (v := 0) dx_47_22 rfl).trans ?_
  refine (sx_istore_n dx_47_23 (Nat.le_of_ble_eq_true rfl) rfl).trans ?_
  rfl
set_option maxRecDepth 10000 in
theorem b_X4_readLaw_24 {sl d : Nat} {M : mj_M} {w1 : Value} {y2 : Int32}  : mj_E sl (d + 1) 47 24 [.ref 28, w1, .int y2] [] M = if y2 ≤ 16 then ((mj_C sl d 53 [.ref 28] M).bind (fun q1 => if q1.2 28 4 = 0 then (if q1.2 28 3 < (q1.2 28 2) then ((mj_C sl d 51 [.ref 28, .int 59] q1.2).bind (fun q2 => mj_E sl (d + 1) 47 24 [.ref 28, w1, .int (y2 + 1)] [] q2.2)) else (some ((q1.2 (mj_lw (q1.2 28 1)) 7 : Int32), q1.2))) else (some ((q1.2 28 4 : Int32), q1.2)))) else (some ((M 28 4 : Int32), M)) := by
  refine (sx_iload_n dx_47_24 rfl).trans ?_
  refine (sx_bipush (v := 16) dx_47_25 rfl).trans ?_
  refine (sx_icmp_gt (tgt := 77) dx_47_27 (by decide)).trans ?_
  refine mj_ite ?_ ?_
  · refine (sx_aload_n dx_47_30 rfl).trans ?_
    refine (sx_v0v dx_47_31 ow_47 cx_2_35 oc_28 (Nat.le_of_ble_eq_true rfl)).trans ?_
    refine mj_bnd (fun q1 => ?_)
    refine (sx_aload_n dx_47_34 rfl).trans ?_
    refine (sx_gfi dx_47_35 ow_47 fx_2_29 (by decide) oc_28).trans ?_
    refine (sx_if_eq (tgt := 46) dx_47_38 (by decide)).trans ?_
    refine mj_ite ?_ ?_
    · refine (sx_aload_n dx_47_46 rfl).trans ?_
      refine (sx_gfi dx_47_47 ow_47 fx_2_26 (by decide) oc_28).trans ?_
      refine (sx_aload_n dx_47_50 rfl).trans ?_
      refine (sx_gfi dx_47_51 ow_47 fx_2_22 (by decide) oc_28).trans ?_
      refine (sx_icmp_lt (tgt := 65) dx_47_54 (by decide)).trans ?_
      refine mj_ite ?_ ?_
      · refine (sx_aload_n dx_47_65 rfl).trans ?_
        refine (sx_bipush (v := 59) dx_47_66 rfl).trans ?_
        refine (sx_v1v dx_47_68 ow_47 cx_2_41 oc_28 (Nat.le_of_ble_eq_true rfl)).trans ?_
        refine mj_bnd (fun q2 => ?_)
        refine (sx_iinc (v := 1) dx_47_71 rfl rfl rfl).trans ?_
        refine (sx_goto (tgt := 24) dx_47_74 (by decide)).trans ?_
        rfl
      · refine (sx_aload_n dx_47_57 rfl).trans ?_
        refine (sx_gfl dx_47_58 ow_47 fx_2_12 oc_28).trans ?_
        refine (sx_gfi dx_47_61 ow_47 fx_2_38 (by decide) (oc_lw _)).trans ?_
        exact sx_reti dx_47_64 rt_47
    · refine (sx_aload_n dx_47_41 rfl).trans ?_
      refine (sx_gfi dx_47_42 ow_47 fx_2_29 (by decide) oc_28).trans ?_
      exact sx_reti dx_47_45 rt_47
  · refine (sx_aload_n dx_47_77 rfl).trans ?_
    refine (sx_gfi dx_47_78 ow_47 fx_2_29 (by decide) oc_28).trans ?_
    exact sx_reti dx_47_81 rt_47
theorem dx_48_0 : mj_at 48 0 = some (.aload_n 0) := by decide +kernel
theorem dx_48_1 : mj_at 48 1 = some (.getfield 26) := by decide +kernel
theorem dx_48_4 : mj_at 48 4 = some (.aload_n 0) := by decide +kernel
theorem dx_48_5 : mj_at 48 5 = some (.getfield 22) := by decide +kernel
theorem dx_48_8 : mj_at 48 8 = some (.if_icmp .ge 17) := by decide +kernel
theorem dx_48_11 : mj_at 48 11 = some (.aload_n 0) := by decide +kernel
theorem dx_48_12 : mj_at 48 12 = some (.getfield 18) := by decide +kernel
theorem dx_48_15 : mj_at 48 15 = some (.aload_n 0) := by decide +kernel
theorem dx_48_16 : mj_at 48 16 = some (.getfield 26) := by decide +kernel
theorem dx_48_19 : mj_at 48 19 = some (.invokevirtual 45) := by decide +kernel
theorem dx_48_22 : mj_at 48 22 = some (.goto 4) := by decide +kernel
theorem dx_48_25 : mj_at 48 25 = some (.iconst (-1)) := by decide +kernel
theorem dx_48_26 : mj_at 48 26 = some (.ireturn) := by decide +kernel
set_option maxRecDepth 10000 in
theorem b_X4_sign {sl d : Nat} {M : mj_M}   : mj_C sl (d + 1) 48 [.ref 28] M = if M 28 3 < (M 28 2) then ((mj_C sl d 76 [.ref 21, .int (M 28 3)] M).bind (fun q1 => some ((q1.1 : Int32), q1.2))) else (some (((-1) : Int32), M)) := by
  show mj_E sl (d + 1) 48 0 [.ref 28] [] M = _
  refine (sx_aload_n dx_48_0 rfl).trans ?_
  refine (sx_gfi dx_48_1 ow_48 fx_2_26 (by decide) oc_28).trans ?_
  refine (sx_aload_n dx_48_4 rfl).trans ?_
  refine (sx_gfi dx_48_5 ow_48 fx_2_22 (by decide) oc_28).trans ?_
  refine (sx_icmp_ge (tgt := 25) dx_48_8 (by decide)).trans ?_
  refine mj_ite ?_ ?_
  · refine (sx_aload_n dx_48_11 rfl).trans ?_
    refine (sx_gfr dx_48_12 ow_48 fx_2_18 oc_28 rb_28_0).trans ?_
    refine (sx_aload_n dx_48_15 rfl).trans ?_
    refine (sx_gfi dx_48_16 ow_48 fx_2_26 (by decide) oc_28).trans ?_
    refine (sx_v1i dx_48_19 ow_48 cx_2_45 oc_21 (Nat.le_of_ble_eq_true rfl)).trans ?_
    refine mj_bnd (fun q1 => ?_)
    refine (sx_goto (tgt := 26) dx_48_22 (by decide)).trans ?_
    exact sx_reti dx_48_26 rt_48
  · refine (sx_iconst (v := (-1)) dx_48_25 rfl).trans ?_
    exact sx_reti dx_48_26 rt_48
theorem dx_49_0 : mj_at 49 0 = some (.aload_n 0) := by decide +kernel
theorem dx_49_1 : mj_at 49 1 = some (.invokevirtual 51) := by decide +kernel
theorem dx_49_4 : mj_at 49 4 = some (.istore_n 3) := by decide +kernel
theorem dx_49_5 : mj_at 49 5 = some (.aload_n 0) := by decide +kernel
theorem dx_49_6 : mj_at 49 6 = some (.getfield 29) := by decide +kernel
theorem dx_49_9 : mj_at 49 9 = some (.ifCond .ne 17) := by decide +kernel
theorem dx_49_12 : mj_at 49 12 = some (.iload_n 3) := by decide +kernel
theorem dx_49_13 : mj_at 49 13 = some (.iload_n 1) := by decide +kernel
theorem dx_49_14 : mj_at 49 14 = some (.if_icmp .eq 8) := by decide +kernel
theorem dx_49_17 : mj_at 49 17 = some (.iload_n 3) := by decide +kernel
theorem dx_49_18 : mj_at 49 18 = some (.iload_n 2) := by decide +kernel
theorem dx_49_19 : mj_at 49 19 = some (.if_icmp .ne 7) := by decide +kernel
theorem dx_49_22 : mj_at 49 22 = some (.iconst 1) := by decide +kernel
theorem dx_49_23 : mj_at 49 23 = some (.goto 4) := by decide +kernel
theorem dx_49_26 : mj_at 49 26 = some (.iconst 0) := by decide +kernel
theorem dx_49_27 : mj_at 49 27 = some (.ireturn) := by decide +kernel
set_option maxRecDepth 10000 in
theorem b_X4_isSign {sl d : Nat} {M : mj_M} {x1 : Int32} {x2 : Int32}  : mj_C sl (d + 1) 49 [.ref 28, .int x1, .int x2] M = (mj_C sl d 48 [.ref 28] M).bind (fun q1 => if q1.2 28 4 = 0 then (if q1.1 = x1 then (some ((1 : Int32), q1.2)) else (if q1.1 = x2 then (some ((1 : Int32), q1.2)) else (some ((0 : Int32), q1.2)))) else (some ((0 : Int32), q1.2))) := by
  show mj_E sl (d + 1) 49 0 [.ref 28, .int x1, .int x2, .null] [] M = _
  refine (sx_aload_n dx_49_0 rfl).trans ?_
  refine (sx_v0i dx_49_1 ow_49 cx_2_51 oc_28 (Nat.le_of_ble_eq_true rfl)).trans ?_
  refine mj_bnd (fun q1 => ?_)
  refine (sx_istore_n dx_49_4 (Nat.le_of_ble_eq_true rfl) rfl).trans ?_
  refine (sx_aload_n dx_49_5 rfl).trans ?_
  refine (sx_gfi dx_49_6 ow_49 fx_2_29 (by decide) oc_28).trans ?_
  refine (sx_if_ne (tgt := 26) dx_49_9 (by decide)).trans ?_
  refine mj_ite ?_ ?_
  · refine (sx_iload_n dx_49_12 rfl).trans ?_
    refine (sx_iload_n dx_49_13 rfl).trans ?_
    refine (sx_icmp_eq (tgt := 22) dx_49_14 (by decide)).trans ?_
    refine mj_ite ?_ ?_
    · refine (sx_iconst (v := 1) dx_49_22 rfl).trans ?_
      refine (sx_goto (tgt := 27) dx_49_23 (by decide)).trans ?_
      exact sx_retz dx_49_27 rt_49 (by decide)
    · refine (sx_iload_n dx_49_17 rfl).trans ?_
      refine (sx_iload_n dx_49_18 rfl).trans ?_
      refine (sx_icmp_ne (tgt := 26) dx_49_19 (by decide)).trans ?_
      refine mj_ite ?_ ?_
      · refine (sx_iconst (v := 1) dx_49_22 rfl).trans ?_
        refine (sx_goto (tgt := 27) dx_49_23 (by decide)).trans ?_
        exact sx_retz dx_49_27 rt_49 (by decide)
      · refine (sx_iconst (v := 0) dx_49_26 rfl).trans ?_
        exact sx_retz dx_49_27 rt_49 (by decide)
  · refine (sx_iconst (v := 0) dx_49_26 rfl).trans ?_
    exact sx_retz dx_49_27 rt_49 (by decide)
theorem dx_50_0 : mj_at 50 0 = some (.aload_n 0) := by decide +kernel
theorem dx_50_1 : mj_at 50 1 = some (.getfield 29) := by decide +kernel
theorem dx_50_4 : mj_at 50 4 = some (.ifCond .ne 15) := by decide +kernel
theorem dx_50_7 : mj_at 50 7 = some (.aload_n 0) := by decide +kernel
theorem dx_50_8 : mj_at 50 8 = some (.iload_n 1) := by decide +kernel
theorem dx_50_9 : mj_at 50 9 = some (.aload_n 0) := by decide +kernel
theorem dx_50_10 : mj_at 50 10 = some (.getfield 26) := by decide +kernel
theorem dx_50_13 : mj_at 50 13 = some (.invokestatic 55) := by decide +kernel
theorem dx_50_16 : mj_at 50 16 = some (.putfield 29) := by decide +kernel
theorem dx_50_19 : mj_at 50 19 = some (.return_) := by decide +kernel
set_option maxRecDepth 10000 in
theorem b_X4_fail {sl d : Nat} {M : mj_M} {x1 : Int32}  : mj_C sl (d + 1) 50 [.ref 28, .int x1] M = if M 28 4 = 0 then ((mj_C sl d 123 [.int x1, .int (M 28 3)] M).bind (fun q1 => some ((0 : Int32), mj_st q1.2 28 4 q1.1))) else (some ((0 : Int32), M)) := by
  show mj_E sl (d + 1) 50 0 [.ref 28, .int x1] [] M = _
  refine (sx_aload_n dx_50_0 rfl).trans ?_
  refine (sx_gfi dx_50_1 ow_50 fx_2_29 (by decide) oc_28).trans ?_
  refine (sx_if_ne (tgt := 19) dx_50_4 (by decide)).trans ?_
  refine mj_ite ?_ ?_
  · refine (sx_aload_n dx_50_7 rfl).trans ?_
    refine (sx_iload_n dx_50_8 rfl).trans ?_
    refine (sx_aload_n dx_50_9 rfl).trans ?_
    refine (sx_gfi dx_50_10 ow_50 fx_2_26 (by decide) oc_28).trans ?_
    refine (sx_s2in dx_50_13 ow_50 cx_2_55 (Nat.le_of_ble_eq_true rfl)).trans ?_
    refine mj_bnd (fun q1 => ?_)
    refine (sx_pfi dx_50_16 ow_50 fx_2_29 oc_28).trans ?_
    exact sx_retv dx_50_19 rt_50
  · exact sx_retv dx_50_19 rt_50
theorem dx_51_0 : mj_at 51 0 = some (.aload_n 0) := by decide +kernel
theorem dx_51_1 : mj_at 51 1 = some (.invokevirtual 51) := by decide +kernel
theorem dx_51_4 : mj_at 51 4 = some (.iload_n 1) := by decide +kernel
theorem dx_51_5 : mj_at 51 5 = some (.if_icmp .ne 16) := by decide +kernel
theorem dx_51_8 : mj_at 51 8 = some (.aload_n 0) := by decide +kernel
theorem dx_51_9 : mj_at 51 9 = some (.dup) := by decide +kernel
theorem dx_51_10 : mj_at 51 10 = some (.getfield 26) := by decide +kernel
theorem dx_51_13 : mj_at 51 13 = some (.iconst 1) := by decide +kernel
theorem dx_51_14 : mj_at 51 14 = some (.iadd) := by decide +kernel
theorem dx_51_15 : mj_at 51 15 = some (.putfield 26) := by decide +kernel
theorem dx_51_18 : mj_at 51 18 = some (.goto 8) := by decide +kernel
theorem dx_51_21 : mj_at 51 21 = some (.aload_n 0) := by decide +kernel
theorem dx_51_22 : mj_at 51 22 = some (.iconst 1) := by decide +kernel
theorem dx_51_23 : mj_at 51 23 = some (.invokevirtual 59) := by decide +kernel
theorem dx_51_26 : mj_at 51 26 = some (.return_) := by decide +kernel
set_option maxRecDepth 10000 in
theorem b_X4_pass {sl d : Nat} {M : mj_M} {x1 : Int32}  : mj_C sl (d + 1) 51 [.ref 28, .int x1] M = (mj_C sl d 48 [.ref 28] M).bind (fun q1 => if q1.1 = x1 then (some ((0 : Int32), mj_st q1.2 28 3 ((q1.2 28 3) + 1))) else ((mj_C sl d 50 [.ref 28, .int 1] q1.2).bind (fun q2 => some ((0 : Int32), q2.2)))) := by
  show mj_E sl (d + 1) 51 0 [.ref 28, .int x1] [] M = _
  refine (sx_aload_n dx_51_0 rfl).trans ?_
  refine (sx_v0i dx_51_1 ow_51 cx_2_51 oc_28 (Nat.le_of_ble_eq_true rfl)).trans ?_
  refine mj_bnd (fun q1 => ?_)
  refine (sx_iload_n dx_51_4 rfl).trans ?_
  refine (sx_icmp_ne (tgt := 21) dx_51_5 (by decide)).trans ?_
  refine mj_ite ?_ ?_
  · refine (sx_aload_n dx_51_8 rfl).trans ?_
    refine (sx_dupa dx_51_9).trans ?_
    refine (sx_gfi dx_51_10 ow_51 fx_2_26 (by decide) oc_28).trans ?_
    refine (sx_iconst (v := 1) dx_51_13 rfl).trans ?_
    refine (sx_iadd dx_51_14).trans ?_
    refine (sx_pfi dx_51_15 ow_51 fx_2_26 oc_28).trans ?_
    refine (sx_goto (tgt := 26) dx_51_18 (by decide)).trans ?_
    exact sx_retv dx_51_26 rt_51
  · refine (sx_aload_n dx_51_21 rfl).trans ?_
    refine (sx_iconst (v := 1) dx_51_22 rfl).trans ?_
    refine (sx_v1v dx_51_23 ow_51 cx_2_59 oc_28 (Nat.le_of_ble_eq_true rfl)).trans ?_
    refine mj_bnd (fun q2 => ?_)
    exact sx_retv dx_51_26 rt_51
theorem dx_52_0 : mj_at 52 0 = some (.iload_n 1) := by decide +kernel
theorem dx_52_1 : mj_at 52 1 = some (.bipush 6) := by decide +kernel
theorem dx_52_3 : mj_at 52 3 = some (.if_icmp .lt 10) := by decide +kernel
theorem dx_52_6 : mj_at 52 6 = some (.aload_n 0) := by decide +kernel
theorem dx_52_7 : mj_at 52 7 = some (.iconst 5) := by decide +kernel
theorem dx_52_8 : mj_at 52 8 = some (.invokevirtual 59) := by decide +kernel
theorem dx_52_11 : mj_at 52 11 = some (.iconst 0) := by decide +kernel
theorem dx_52_12 : mj_at 52 12 = some (.ireturn) := by decide +kernel
theorem dx_52_13 : mj_at 52 13 = some (.aload_n 0) := by decide +kernel
theorem dx_52_14 : mj_at 52 14 = some (.dup) := by decide +kernel
theorem dx_52_15 : mj_at 52 15 = some (.getfield 26) := by decide +kernel
theorem dx_52_18 : mj_at 52 18 = some (.iconst 1) := by decide +kernel
theorem dx_52_19 : mj_at 52 19 = some (.iadd) := by decide +kernel
theorem dx_52_20 : mj_at 52 20 = some (.putfield 26) := by decide +kernel
theorem dx_52_23 : mj_at 52 23 = some (.iconst 1) := by decide +kernel
theorem dx_52_24 : mj_at 52 24 = some (.ireturn) := by decide +kernel
set_option maxRecDepth 10000 in
theorem b_X4_opens {sl d : Nat} {M : mj_M} {x1 : Int32}  : mj_C sl (d + 1) 52 [.ref 28, .int x1] M = if x1 < 6 then (some ((1 : Int32), mj_st M 28 3 ((M 28 3) + 1))) else ((mj_C sl d 50 [.ref 28, .int 5] M).bind (fun q1 => some ((0 : Int32), q1.2))) := by
  show mj_E sl (d + 1) 52 0 [.ref 28, .int x1] [] M = _
  refine (sx_iload_n dx_52_0 rfl).trans ?_
  refine (sx_bipush (v := 6) dx_52_1 rfl).trans ?_
  refine (sx_icmp_lt (tgt := 13) dx_52_3 (by decide)).trans ?_
  refine mj_ite ?_ ?_
  · refine (sx_aload_n dx_52_13 rfl).trans ?_
    refine (sx_dupa dx_52_14).trans ?_
    refine (sx_gfi dx_52_15 ow_52 fx_2_26 (by decide) oc_28).trans ?_
    refine (sx_iconst (v := 1) dx_52_18 rfl).trans ?_
    refine (sx_iadd dx_52_19).trans ?_
    refine (sx_pfi dx_52_20 ow_52 fx_2_26 oc_28).trans ?_
    refine (sx_iconst (v := 1) dx_52_23 rfl).trans ?_
    exact sx_retz dx_52_24 rt_52 (by decide)
  · refine (sx_aload_n dx_52_6 rfl).trans ?_
    refine (sx_iconst (v := 5) dx_52_7 rfl).trans ?_
    refine (sx_v1v dx_52_8 ow_52 cx_2_59 oc_28 (Nat.le_of_ble_eq_true rfl)).trans ?_
    refine mj_bnd (fun q1 => ?_)
    refine (sx_iconst (v := 0) dx_52_11 rfl).trans ?_
    exact sx_retz dx_52_12 rt_52 (by decide)
theorem dx_53_0 : mj_at 53 0 = some (.aload_n 0) := by decide +kernel
theorem dx_53_1 : mj_at 53 1 = some (.invokevirtual 51) := by decide +kernel
theorem dx_53_4 : mj_at 53 4 = some (.istore_n 1) := by decide +kernel
theorem dx_53_5 : mj_at 53 5 = some (.aload_n 0) := by decide +kernel
theorem dx_53_6 : mj_at 53 6 = some (.getfield 29) := by decide +kernel
theorem dx_53_9 : mj_at 53 9 = some (.ifCond .ne 27) := by decide +kernel
theorem dx_53_12 : mj_at 53 12 = some (.iload_n 1) := by decide +kernel
theorem dx_53_13 : mj_at 53 13 = some (.bipush 112) := by decide +kernel
theorem dx_53_15 : mj_at 53 15 = some (.if_icmp .eq 27) := by decide +kernel
theorem dx_53_18 : mj_at 53 18 = some (.iload_n 1) := by decide +kernel
theorem dx_53_19 : mj_at 53 19 = some (.bipush 119) := by decide +kernel
theorem dx_53_21 : mj_at 53 21 = some (.if_icmp .eq 21) := by decide +kernel
theorem dx_53_24 : mj_at 53 24 = some (.iload_n 1) := by decide +kernel
theorem dx_53_25 : mj_at 53 25 = some (.bipush 105) := by decide +kernel
theorem dx_53_27 : mj_at 53 27 = some (.if_icmp .eq 15) := by decide +kernel
theorem dx_53_30 : mj_at 53 30 = some (.iload_n 1) := by decide +kernel
theorem dx_53_31 : mj_at 53 31 = some (.bipush 120) := by decide +kernel
theorem dx_53_33 : mj_at 53 33 = some (.if_icmp .eq 9) := by decide +kernel
theorem dx_53_36 : mj_at 53 36 = some (.aload_n 0) := by decide +kernel
theorem dx_53_37 : mj_at 53 37 = some (.iconst 1) := by decide +kernel
theorem dx_53_38 : mj_at 53 38 = some (.invokevirtual 59) := by decide +kernel
theorem dx_53_41 : mj_at 53 41 = some (.return_) := by decide +kernel
theorem dx_53_42 : mj_at 53 42 = some (.aload_n 0) := by decide +kernel
theorem dx_53_43 : mj_at 53 43 = some (.getfield 12) := by decide +kernel
theorem dx_53_46 : mj_at 53 46 = some (.getfield 38) := by decide +kernel
theorem dx_53_49 : mj_at 53 49 = some (.bipush 16) := by decide +kernel
theorem dx_53_51 : mj_at 53 51 = some (.if_icmp .lt 9) := by decide +kernel
theorem dx_53_54 : mj_at 53 54 = some (.aload_n 0) := by decide +kernel
theorem dx_53_55 : mj_at 53 55 = some (.iconst 4) := by decide +kernel
theorem dx_53_56 : mj_at 53 56 = some (.invokevirtual 59) := by decide +kernel
theorem dx_53_59 : mj_at 53 59 = some (.return_) := by decide +kernel
theorem dx_53_60 : mj_at 53 60 = some (.aload_n 0) := by decide +kernel
theorem dx_53_61 : mj_at 53 61 = some (.dup) := by decide +kernel
theorem dx_53_62 : mj_at 53 62 = some (.getfield 26) := by decide +kernel
theorem dx_53_65 : mj_at 53 65 = some (.iconst 1) := by decide +kernel
theorem dx_53_66 : mj_at 53 66 = some (.iadd) := by decide +kernel
theorem dx_53_67 : mj_at 53 67 = some (.putfield 26) := by decide +kernel
theorem dx_53_70 : mj_at 53 70 = some (.aload_n 0) := by decide +kernel
theorem dx_53_71 : mj_at 53 71 = some (.getfield 12) := by decide +kernel
theorem dx_53_74 : mj_at 53 74 = some (.getfield 62) := by decide +kernel
theorem dx_53_77 : mj_at 53 77 = some (.istore_n 2) := by decide +kernel
theorem dx_53_78 : mj_at 53 78 = some (.iload_n 1) := by decide +kernel
theorem dx_53_79 : mj_at 53 79 = some (.bipush 120) := by decide +kernel
theorem dx_53_81 : mj_at 53 81 = some (.if_icmp .eq 8) := by decide +kernel
theorem dx_53_84 : mj_at 53 84 = some (.aload_n 0) := by decide +kernel
theorem dx_53_85 : mj_at 53 85 = some (.iconst 0) := by decide +kernel
theorem dx_53_86 : mj_at 53 86 = some (.invokevirtual 65) := by decide +kernel
theorem dx_53_89 : mj_at 53 89 = some (.aload_n 0) := by decide +kernel
theorem dx_53_90 : mj_at 53 90 = some (.getfield 12) := by decide +kernel
theorem dx_53_93 : mj_at 53 93 = some (.iconst 0) := by decide +kernel
theorem dx_53_94 : mj_at 53 94 = some (.invokevirtual 68) := by decide +kernel
theorem dx_53_97 : mj_at 53 97 = some (.aload_n 0) := by decide +kernel
theorem dx_53_98 : mj_at 53 98 = some (.getfield 12) := by decide +kernel
theorem dx_53_101 : mj_at 53 101 = some (.getfield 62) := by decide +kernel
theorem dx_53_104 : mj_at 53 104 = some (.istore_n 3) := by decide +kernel
theorem dx_53_105 : mj_at 53 105 = some (.aload_n 0) := by decide +kernel
theorem dx_53_106 : mj_at 53 106 = some (.getfield 29) := by decide +kernel
theorem dx_53_109 : mj_at 53 109 = some (.ifCond .ne 9) := by decide +kernel
theorem dx_53_112 : mj_at 53 112 = some (.aload_n 0) := by decide +kernel
theorem dx_53_113 : mj_at 53 113 = some (.bipush 40) := by decide +kernel
theorem dx_53_115 : mj_at 53 115 = some (.invokevirtual 41) := by decide +kernel
theorem dx_53_118 : mj_at 53 118 = some (.aload_n 0) := by decide +kernel
theorem dx_53_119 : mj_at 53 119 = some (.iconst 1) := by decide +kernel
theorem dx_53_120 : mj_at 53 120 = some (.invokevirtual 71) := by decide +kernel
theorem dx_53_123 : mj_at 53 123 = some (.aload_n 0) := by decide +kernel
theorem dx_53_124 : mj_at 53 124 = some (.getfield 29) := by decide +kernel
theorem dx_53_127 : mj_at 53 127 = some (.ifCond .ne 9) := by decide +kernel
theorem dx_53_130 : mj_at 53 130 = some (.aload_n 0) := by decide +kernel
theorem dx_53_131 : mj_at 53 131 = some (.bipush 41) := by decide +kernel
theorem dx_53_133 : mj_at 53 133 = some (.invokevirtual 41) := by decide +kernel
theorem dx_53_136 : mj_at 53 136 = some (.aload_n 0) := by decide +kernel
theorem dx_53_137 : mj_at 53 137 = some (.getfield 12) := by decide +kernel
theorem dx_53_140 : mj_at 53 140 = some (.iconst 0) := by decide +kernel
theorem dx_53_141 : mj_at 53 141 = some (.invokevirtual 68) := by decide +kernel
theorem dx_53_144 : mj_at 53 144 = some (.aload_n 0) := by decide +kernel
theorem dx_53_145 : mj_at 53 145 = some (.getfield 12) := by decide +kernel
theorem dx_53_148 : mj_at 53 148 = some (.iload_n 1) := by decide +kernel
theorem dx_53_149 : mj_at 53 149 = some (.iload_n 2) := by decide +kernel
theorem dx_53_150 : mj_at 53 150 = some (.iload_n 3) := by decide +kernel
theorem dx_53_151 : mj_at 53 151 = some (.invokevirtual 74) := by decide +kernel
theorem dx_53_154 : mj_at 53 154 = some (.return_) := by decide +kernel
set_option maxRecDepth 10000 in
theorem b_X4_readRule {sl d : Nat} {M : mj_M}   : mj_C sl (d + 1) 53 [.ref 28] M = (mj_C sl d 48 [.ref 28] M).bind (fun q1 => if q1.2 28 4 = 0 then (if q1.1 = 112 then (mj_E sl (d + 1) 53 42 [.ref 28, .int q1.1, .null, .null] [] q1.2) else (if q1.1 = 119 then (mj_E sl (d + 1) 53 42 [.ref 28, .int q1.1, .null, .null] [] q1.2) else (if q1.1 = 105 then (mj_E sl (d + 1) 53 42 [.ref 28, .int q1.1, .null, .null] [] q1.2) else (if q1.1 = 120 then (mj_E sl (d + 1) 53 42 [.ref 28, .int q1.1, .null, .null] [] q1.2) else ((mj_C sl d 50 [.ref 28, .int 1] q1.2).bind (fun q2 => some ((0 : Int32), q2.2))))))) else ((mj_C sl d 50 [.ref 28, .int 1] q1.2).bind (fun q3 => some ((0 : Int32), q3.2)))) := by
  show mj_E sl (d + 1) 53 0 [.ref 28, .null, .null, .null] [] M = _
  refine (sx_aload_n dx_53_0 rfl).trans ?_
  refine (sx_v0i dx_53_1 ow_53 cx_2_51 oc_28 (Nat.le_of_ble_eq_true rfl)).trans ?_
  refine mj_bnd (fun q1 => ?_)
  refine (sx_istore_n dx_53_4 (Nat.le_of_ble_eq_true rfl) rfl).trans ?_
  refine (sx_aload_n dx_53_5 rfl).trans ?_
  refine (sx_gfi dx_53_6 ow_53 fx_2_29 (by decide) oc_28).trans ?_
  refine (sx_if_ne (tgt := 36) dx_53_9 (by decide)).trans ?_
  refine mj_ite ?_ ?_
  · refine (sx_iload_n dx_53_12 rfl).trans ?_
    refine (sx_bipush (v := 112) dx_53_13 rfl).trans ?_
    refine (sx_icmp_eq (tgt := 42) dx_53_15 (by decide)).trans ?_
    refine mj_ite ?_ ?_
    · rfl
    · refine (sx_iload_n dx_53_18 rfl).trans ?_
      refine (sx_bipush (v := 119) dx_53_19 rfl).trans ?_
      refine (sx_icmp_eq (tgt := 42) dx_53_21 (by decide)).trans ?_
      refine mj_ite ?_ ?_
      · rfl
      · refine (sx_iload_n dx_53_24 rfl).trans ?_
        refine (sx_bipush (v := 105) dx_53_25 rfl).trans ?_
        refine (sx_icmp_eq (tgt := 42) dx_53_27 (by decide)).trans ?_
        refine mj_ite ?_ ?_
        · rfl
        · refine (sx_iload_n dx_53_30 rfl).trans ?_
          refine (sx_bipush (v := 120) dx_53_31 rfl).trans ?_
          refine (sx_icmp_eq (tgt := 42) dx_53_33 (by decide)).trans ?_
          refine mj_ite ?_ ?_
          · rfl
          · refine (sx_aload_n dx_53_36 rfl).trans ?_
            refine (sx_iconst (v := 1) dx_53_37 rfl).trans ?_
            refine (sx_v1v dx_53_38 ow_53 cx_2_59 oc_28 (Nat.le_of_ble_eq_true rfl)).trans ?_
            refine mj_bnd (fun q2 => ?_)
            exact sx_retv dx_53_41 rt_53
  · refine (sx_aload_n dx_53_36 rfl).trans ?_
    refine (sx_iconst (v := 1) dx_53_37 rfl).trans ?_
    refine (sx_v1v dx_53_38 ow_53 cx_2_59 oc_28 (Nat.le_of_ble_eq_true rfl)).trans ?_
    refine mj_bnd (fun q3 => ?_)
    exact sx_retv dx_53_41 rt_53
set_option maxRecDepth 10000 in
theorem b_X4_readRule_42 {sl d : Nat} {M : mj_M} {y1 : Int32} {w2 : Value} {w3 : Value}  : mj_E sl (d + 1) 53 42 [.ref 28, .int y1, w2, w3] [] M = if M (mj_lw (M 28 1)) 7 < 16 then (if y1 = 120 then ((mj_C sl d 42 [.ref (mj_lw ((mj_st M 28 3 ((M 28 3) + 1)) 28 1)), .int 0] (mj_st M 28 3 ((M 28 3) + 1))).bind (fun q1 => if q1.2 28 4 = 0 then ((mj_C sl d 51 [.ref 28, .int 40] q1.2).bind (fun q2 => mj_E sl (d + 1) 53 118 [.ref 28, .int y1, .int ((mj_st M 28 3 ((M 28 3) + 1)) (mj_lw ((mj_st M 28 3 ((M 28 3) + 1)) 28 1)) 6), .int (q1.2 (mj_lw (q1.2 28 1)) 6)] [] q2.2)) else (mj_E sl (d + 1) 53 118 [.ref 28, .int y1, .int ((mj_st M 28 3 ((M 28 3) + 1)) (mj_lw ((mj_st M 28 3 ((M 28 3) + 1)) 28 1)) 6), .int (q1.2 (mj_lw (q1.2 28 1)) 6)] [] q1.2))) else ((mj_C sl d 57 [.ref 28, .int 0] (mj_st M 28 3 ((M 28 3) + 1))).bind (fun q3 => (mj_C sl d 42 [.ref (mj_lw (q3.2 28 1)), .int 0] q3.2).bind (fun q4 => if q4.2 28 4 = 0 then ((mj_C sl d 51 [.ref 28, .int 40] q4.2).bind (fun q5 => mj_E sl (d + 1) 53 118 [.ref 28, .int y1, .int ((mj_st M 28 3 ((M 28 3) + 1)) (mj_lw ((mj_st M 28 3 ((M 28 3) + 1)) 28 1)) 6), .int (q4.2 (mj_lw (q4.2 28 1)) 6)] [] q5.2)) else (mj_E sl (d + 1) 53 118 [.ref 28, .int y1, .int ((mj_st M 28 3 ((M 28 3) + 1)) (mj_lw ((mj_st M 28 3 ((M 28 3) + 1)) 28 1)) 6), .int (q4.2 (mj_lw (q4.2 28 1)) 6)] [] q4.2))))) else ((mj_C sl d 50 [.ref 28, .int 4] M).bind (fun q6 => some ((0 : Int32), q6.2))) := by
  refine (sx_aload_n dx_53_42 rfl).trans ?_
  refine (sx_gfl dx_53_43 ow_53 fx_2_12 oc_28).trans ?_
  refine (sx_gfi dx_53_46 ow_53 fx_2_38 (by decide) (oc_lw _)).trans ?_
  refine (sx_bipush (v := 16) dx_53_49 rfl).trans ?_
  refine (sx_icmp_lt (tgt := 60) dx_53_51 (by decide)).trans ?_
  refine mj_ite ?_ ?_
  · refine (sx_aload_n dx_53_60 rfl).trans ?_
    refine (sx_dupa dx_53_61).trans ?_
    refine (sx_gfi dx_53_62 ow_53 fx_2_26 (by decide) oc_28).trans ?_
    refine (sx_iconst (v := 1) dx_53_65 rfl).trans ?_
    refine (sx_iadd dx_53_66).trans ?_
    refine (sx_pfi dx_53_67 ow_53 fx_2_26 oc_28).trans ?_
    refine (sx_aload_n dx_53_70 rfl).trans ?_
    refine (sx_gfl dx_53_71 ow_53 fx_2_12 oc_28).trans ?_
    refine (sx_gfi dx_53_74 ow_53 fx_2_62 (by decide) (oc_lw _)).trans ?_
    refine (sx_istore_n dx_53_77 (Nat.le_of_ble_eq_true rfl) rfl).trans ?_
    refine (sx_iload_n dx_53_78 rfl).trans ?_
    refine (sx_bipush (v := 120) dx_53_79 rfl).trans ?_
    refine (sx_icmp_eq (tgt := 89) dx_53_81 (by decide)).trans ?_
    refine mj_ite ?_ ?_
    · refine (sx_aload_n dx_53_89 rfl).trans ?_
      refine (sx_gfl dx_53_90 ow_53 fx_2_12 oc_28).trans ?_
      refine (sx_iconst (v := 0) dx_53_93 rfl).trans ?_
      refine (sx_v1v dx_53_94 ow_53 cx_2_68 (oc_lw _) (Nat.le_of_ble_eq_true rfl)).trans ?_
      refine mj_bnd (fun q1 => ?_)
      refine (sx_aload_n dx_53_97 rfl).trans ?_
      refine (sx_gfl dx_53_98 ow_53 fx_2_12 oc_28).trans ?_
      refine (sx_gfi dx_53_101 ow_53 fx_2_62 (by decide) (oc_lw _)).trans ?_
      refine (sx_istore_n dx_53_104 (Nat.le_of_ble_eq_true rfl) rfl).trans ?_
      refine (sx_aload_n dx_53_105 rfl).trans ?_
      refine (sx_gfi dx_53_106 ow_53 fx_2_29 (by decide) oc_28).trans ?_
      refine (sx_if_ne (tgt := 118) dx_53_109 (by decide)).trans ?_
      refine mj_ite ?_ ?_
      · refine (sx_aload_n dx_53_112 rfl).trans ?_
        refine (sx_bipush (v := 40) dx_53_113 rfl).trans ?_
        refine (sx_v1v dx_53_115 ow_53 cx_2_41 oc_28 (Nat.le_of_ble_eq_true rfl)).trans ?_
        refine mj_bnd (fun q2 => ?_)
        rfl
      · rfl
    · refine (sx_aload_n dx_53_84 rfl).trans ?_
      refine (sx_iconst (v := 0) dx_53_85 rfl).trans ?_
      refine (sx_v1v dx_53_86 ow_53 cx_2_65 oc_28 (Nat.le_of_ble_eq_true rfl)).trans ?_
      refine mj_bnd (fun q3 => ?_)
      refine (sx_aload_n dx_53_89 rfl).trans ?_
      refine (sx_gfl dx_53_90 ow_53 fx_2_12 oc_28).trans ?_
      refine (sx_iconst (v := 0) dx_53_93 rfl).trans ?_
      refine (sx_v1v dx_53_94 ow_53 cx_2_68 (oc_lw _) (Nat.le_of_ble_eq_true rfl)).trans ?_
      refine mj_bnd (fun q4 => ?_)
      refine (sx_aload_n dx_53_97 rfl).trans ?_
      refine (sx_gfl dx_53_98 ow_53 fx_2_12 oc_28).trans ?_
      refine (sx_gfi dx_53_101 ow_53 fx_2_62 (by decide) (oc_lw _)).trans ?_
      refine (sx_istore_n dx_53_104 (Nat.le_of_ble_eq_true rfl) rfl).trans ?_
      refine (sx_aload_n dx_53_105 rfl).trans ?_
      refine (sx_gfi dx_53_106 ow_53 fx_2_29 (by decide) oc_28).trans ?_
      refine (sx_if_ne (tgt := 118) dx_53_109 (by decide)).trans ?_
      refine mj_ite ?_ ?_
      · refine (sx_aload_n dx_53_112 rfl).trans ?_
        refine (sx_bipush (v := 40) dx_53_113 rfl).trans ?_
        refine (sx_v1v dx_53_115 ow_53 cx_2_41 oc_28 (Nat.le_of_ble_eq_true rfl)).trans ?_
        refine mj_bnd (fun q5 => ?_)
        rfl
      · rfl
  · refine (sx_aload_n dx_53_54 rfl).trans ?_
    refine (sx_iconst (v := 4) dx_53_55 rfl).trans ?_
    refine (sx_v1v dx_53_56 ow_53 cx_2_59 oc_28 (Nat.le_of_ble_eq_true rfl)).trans ?_
    refine mj_bnd (fun q6 => ?_)
    exact sx_retv dx_53_59 rt_53
set_option maxRecDepth 10000 in
theorem b_X4_readRule_118 {sl d : Nat} {M : mj_M} {y1 : Int32} {y2 : Int32} {y3 : Int32}  : mj_E sl (d + 1) 53 118 [.ref 28, .int y1, .int y2, .int y3] [] M = (mj_C sl d 54 [.ref 28, .int 1] M).bind (fun q1 => if q1.2 28 4 = 0 then ((mj_C sl d 51 [.ref 28, .int 41] q1.2).bind (fun q2 => (mj_C sl d 42 [.ref (mj_lw (q2.2 28 1)), .int 0] q2.2).bind (fun q3 => (mj_C sl d 45 [.ref (mj_lw (q3.2 28 1)), .int y1, .int y2, .int y3] q3.2).bind (fun q4 => some ((0 : Int32), q4.2))))) else ((mj_C sl d 42 [.ref (mj_lw (q1.2 28 1)), .int 0] q1.2).bind (fun q5 => (mj_C sl d 45 [.ref (mj_lw (q5.2 28 1)), .int y1, .int y2, .int y3] q5.2).bind (fun q6 => some ((0 : Int32), q6.2))))) := by
  refine (sx_aload_n dx_53_118 rfl).trans ?_
  refine (sx_iconst (v := 1) dx_53_119 rfl).trans ?_
  refine (sx_v1v dx_53_120 ow_53 cx_2_71 oc_28 (Nat.le_of_ble_eq_true rfl)).trans ?_
  refine mj_bnd (fun q1 => ?_)
  refine (sx_aload_n dx_53_123 rfl).trans ?_
  refine (sx_gfi dx_53_124 ow_53 fx_2_29 (by decide) oc_28).trans ?_
  refine (sx_if_ne (tgt := 136) dx_53_127 (by decide)).trans ?_
  refine mj_ite ?_ ?_
  · refine (sx_aload_n dx_53_130 rfl).trans ?_
    refine (sx_bipush (v := 41) dx_53_131 rfl).trans ?_
    refine (sx_v1v dx_53_133 ow_53 cx_2_41 oc_28 (Nat.le_of_ble_eq_true rfl)).trans ?_
    refine mj_bnd (fun q2 => ?_)
    refine (sx_aload_n dx_53_136 rfl).trans ?_
    refine (sx_gfl dx_53_137 ow_53 fx_2_12 oc_28).trans ?_
    refine (sx_iconst (v := 0) dx_53_140 rfl).trans ?_
    refine (sx_v1v dx_53_141 ow_53 cx_2_68 (oc_lw _) (Nat.le_of_ble_eq_true rfl)).trans ?_
    refine mj_bnd (fun q3 => ?_)
    refine (sx_aload_n dx_53_144 rfl).trans ?_
    refine (sx_gfl dx_53_145 ow_53 fx_2_12 oc_28).trans ?_
    refine (sx_iload_n dx_53_148 rfl).trans ?_
    refine (sx_iload_n dx_53_149 rfl).trans ?_
    refine (sx_iload_n dx_53_150 rfl).trans ?_
    refine (sx_v3v dx_53_151 ow_53 cx_2_74 (oc_lw _) (Nat.le_of_ble_eq_true rfl)).trans ?_
    refine mj_bnd (fun q4 => ?_)
    exact sx_retv dx_53_154 rt_53
  · refine (sx_aload_n dx_53_136 rfl).trans ?_
    refine (sx_gfl dx_53_137 ow_53 fx_2_12 oc_28).trans ?_
    refine (sx_iconst (v := 0) dx_53_140 rfl).trans ?_
    refine (sx_v1v dx_53_141 ow_53 cx_2_68 (oc_lw _) (Nat.le_of_ble_eq_true rfl)).trans ?_
    refine mj_bnd (fun q5 => ?_)
    refine (sx_aload_n dx_53_144 rfl).trans ?_
    refine (sx_gfl dx_53_145 ow_53 fx_2_12 oc_28).trans ?_
    refine (sx_iload_n dx_53_148 rfl).trans ?_
    refine (sx_iload_n dx_53_149 rfl).trans ?_
    refine (sx_iload_n dx_53_150 rfl).trans ?_
    refine (sx_v3v dx_53_151 ow_53 cx_2_74 (oc_lw _) (Nat.le_of_ble_eq_true rfl)).trans ?_
    refine mj_bnd (fun q6 => ?_)
    exact sx_retv dx_53_154 rt_53
theorem dx_54_0 : mj_at 54 0 = some (.aload_n 0) := by decide +kernel
theorem dx_54_1 : mj_at 54 1 = some (.iload_n 1) := by decide +kernel
theorem dx_54_2 : mj_at 54 2 = some (.invokevirtual 78) := by decide +kernel
theorem dx_54_5 : mj_at 54 5 = some (.iconst 0) := by decide +kernel
theorem dx_54_6 : mj_at 54 6 = some (.istore_n 2) := by decide +kernel
theorem dx_54_7 : mj_at 54 7 = some (.iload_n 2) := by decide +kernel
theorem dx_54_8 : mj_at 54 8 = some (.sipush 240) := by decide +kernel
theorem dx_54_11 : mj_at 54 11 = some (.if_icmp .ge 53) := by decide +kernel
theorem dx_54_14 : mj_at 54 14 = some (.aload_n 0) := by decide +kernel
theorem dx_54_15 : mj_at 54 15 = some (.bipush 124) := by decide +kernel
theorem dx_54_17 : mj_at 54 17 = some (.bipush 124) := by decide +kernel
theorem dx_54_19 : mj_at 54 19 = some (.invokevirtual 81) := by decide +kernel
theorem dx_54_22 : mj_at 54 22 = some (.ifCond .eq 42) := by decide +kernel
theorem dx_54_25 : mj_at 54 25 = some (.aload_n 0) := by decide +kernel
theorem dx_54_26 : mj_at 54 26 = some (.dup) := by decide +kernel
theorem dx_54_27 : mj_at 54 27 = some (.getfield 26) := by decide +kernel
theorem dx_54_30 : mj_at 54 30 = some (.iconst 1) := by decide +kernel
theorem dx_54_31 : mj_at 54 31 = some (.iadd) := by decide +kernel
theorem dx_54_32 : mj_at 54 32 = some (.putfield 26) := by decide +kernel
theorem dx_54_35 : mj_at 54 35 = some (.aload_n 0) := by decide +kernel
theorem dx_54_36 : mj_at 54 36 = some (.getfield 12) := by decide +kernel
theorem dx_54_39 : mj_at 54 39 = some (.bipush 124) := by decide +kernel
theorem dx_54_41 : mj_at 54 41 = some (.invokevirtual 85) := by decide +kernel
theorem dx_54_44 : mj_at 54 44 = some (.istore_n 3) := by decide +kernel
theorem dx_54_45 : mj_at 54 45 = some (.aload_n 0) := by decide +kernel
theorem dx_54_46 : mj_at 54 46 = some (.iload_n 1) := by decide +kernel
theorem dx_54_47 : mj_at 54 47 = some (.invokevirtual 78) := by decide +kernel
theorem dx_54_50 : mj_at 54 50 = some (.aload_n 0) := by decide +kernel
theorem dx_54_51 : mj_at 54 51 = some (.getfield 12) := by decide +kernel
theorem dx_54_54 : mj_at 54 54 = some (.iload_n 3) := by decide +kernel
theorem dx_54_55 : mj_at 54 55 = some (.invokevirtual 88) := by decide +kernel
theorem dx_54_58 : mj_at 54 58 = some (.iinc 2 1) := by decide +kernel
theorem dx_54_61 : mj_at 54 61 = some (.goto (-54)) := by decide +kernel
theorem dx_54_64 : mj_at 54 64 = some (.return_) := by decide +kernel
set_option maxRecDepth 10000 in
theorem b_X4_readCondition {sl d : Nat} {M : mj_M} {x1 : Int32}  : mj_C sl (d + 1) 54 [.ref 28, .int x1] M = (mj_C sl d 55 [.ref 28, .int x1] M).bind (fun q1 => mj_E sl (d + 1) 54 7 [.ref 28, .int x1, .int 0, .null] [] q1.2) := by
  show mj_E sl (d + 1) 54 0 [.ref 28, .int x1, .null, .null] [] M = _
  refine (sx_aload_n dx_54_0 rfl).trans ?_
  refine (sx_iload_n dx_54_1 rfl).trans ?_
  refine (sx_v1v dx_54_2 ow_54 cx_2_78 oc_28 (Nat.le_of_ble_eq_true rfl)).trans ?_
  refine mj_bnd (fun q1 => ?_)
  refine (sx_iconst (v := 0) dx_54_5 rfl).trans ?_
  refine (sx_istore_n dx_54_6 (Nat.le_of_ble_eq_true rfl) rfl).trans ?_
  rfl
set_option maxRecDepth 10000 in
theorem b_X4_readCondition_7 {sl d : Nat} {M : mj_M} {y1 : Int32} {y2 : Int32} {w3 : Value}  : mj_E sl (d + 1) 54 7 [.ref 28, .int y1, .int y2, w3] [] M = if y2 < 240 then ((mj_C sl d 49 [.ref 28, .int 124, .int 124] M).bind (fun q1 => if q1.1 = 0 then (some ((0 : Int32), q1.2)) else ((mj_C sl d 43 [.ref (mj_lw ((mj_st q1.2 28 3 ((q1.2 28 3) + 1)) 28 1)), .int 124] (mj_st q1.2 28 3 ((q1.2 28 3) + 1))).bind (fun q2 => (mj_C sl d 55 [.ref 28, .int y1] q2.2).bind (fun q3 => (mj_C sl d 44 [.ref (mj_lw (q3.2 28 1)), .int q2.1] q3.2).bind (fun q4 => mj_E sl (d + 1) 54 7 [.ref 28, .int y1, .int (y2 + 1), .int q2.1] [] q4.2)))))) else (some ((0 : Int32), M)) := by
  refine (sx_iload_n dx_54_7 rfl).trans ?_
  refine (sx_sipush (v := 240) dx_54_8 rfl).trans ?_
  refine (sx_icmp_ge (tgt := 64) dx_54_11 (by decide)).trans ?_
  refine mj_ite ?_ ?_
  · refine (sx_aload_n dx_54_14 rfl).trans ?_
    refine (sx_bipush (v := 124) dx_54_15 rfl).trans ?_
    refine (sx_bipush (v := 124) dx_54_17 rfl).trans ?_
    refine (sx_v2i dx_54_19 ow_54 cx_2_81 oc_28 (Nat.le_of_ble_eq_true rfl)).trans ?_
    refine mj_bnd (fun q1 => ?_)
    refine (sx_if_eq (tgt := 64) dx_54_22 (by decide)).trans ?_
    refine mj_ite ?_ ?_
    · exact sx_retv dx_54_64 rt_54
    · refine (sx_aload_n dx_54_25 rfl).trans ?_
      refine (sx_dupa dx_54_26).trans ?_
      refine (sx_gfi dx_54_27 ow_54 fx_2_26 (by decide) oc_28).trans ?_
      refine (sx_iconst (v := 1) dx_54_30 rfl).trans ?_
      refine (sx_iadd dx_54_31).trans ?_
      refine (sx_pfi dx_54_32 ow_54 fx_2_26 oc_28).trans ?_
      refine (sx_aload_n dx_54_35 rfl).trans ?_
      refine (sx_gfl dx_54_36 ow_54 fx_2_12 oc_28).trans ?_
      refine (sx_bipush (v := 124) dx_54_39 rfl).trans ?_
      refine (sx_v1i dx_54_41 ow_54 cx_2_85 (oc_lw _) (Nat.le_of_ble_eq_true rfl)).trans ?_
      refine mj_bnd (fun q2 => ?_)
      refine (sx_istore_n dx_54_44 (Nat.le_of_ble_eq_true rfl) rfl).trans ?_
      refine (sx_aload_n dx_54_45 rfl).trans ?_
      refine (sx_iload_n dx_54_46 rfl).trans ?_
      refine (sx_v1v dx_54_47 ow_54 cx_2_78 oc_28 (Nat.le_of_ble_eq_true rfl)).trans ?_
      refine mj_bnd (fun q3 => ?_)
      refine (sx_aload_n dx_54_50 rfl).trans ?_
      refine (sx_gfl dx_54_51 ow_54 fx_2_12 oc_28).trans ?_
      refine (sx_iload_n dx_54_54 rfl).trans ?_
      refine (sx_v1v dx_54_55 ow_54 cx_2_88 (oc_lw _) (Nat.le_of_ble_eq_true rfl)).trans ?_
      refine mj_bnd (fun q4 => ?_)
      refine (sx_iinc (v := 1) dx_54_58 rfl rfl rfl).trans ?_
      refine (sx_goto (tgt := 7) dx_54_61 (by decide)).trans ?_
      rfl
  · exact sx_retv dx_54_64 rt_54
theorem dx_55_0 : mj_at 55 0 = some (.aload_n 0) := by decide +kernel
theorem dx_55_1 : mj_at 55 1 = some (.iload_n 1) := by decide +kernel
theorem dx_55_2 : mj_at 55 2 = some (.invokevirtual 91) := by decide +kernel
theorem dx_55_5 : mj_at 55 5 = some (.iconst 0) := by decide +kernel
theorem dx_55_6 : mj_at 55 6 = some (.istore_n 2) := by decide +kernel
theorem dx_55_7 : mj_at 55 7 = some (.iload_n 2) := by decide +kernel
theorem dx_55_8 : mj_at 55 8 = some (.sipush 240) := by decide +kernel
theorem dx_55_11 : mj_at 55 11 = some (.if_icmp .ge 53) := by decide +kernel
theorem dx_55_14 : mj_at 55 14 = some (.aload_n 0) := by decide +kernel
theorem dx_55_15 : mj_at 55 15 = some (.bipush 38) := by decide +kernel
theorem dx_55_17 : mj_at 55 17 = some (.bipush 38) := by decide +kernel
theorem dx_55_19 : mj_at 55 19 = some (.invokevirtual 81) := by decide +kernel
theorem dx_55_22 : mj_at 55 22 = some (.ifCond .eq 42) := by decide +kernel
theorem dx_55_25 : mj_at 55 25 = some (.aload_n 0) := by decide +kernel
theorem dx_55_26 : mj_at 55 26 = some (.dup) := by decide +kernel
theorem dx_55_27 : mj_at 55 27 = some (.getfield 26) := by decide +kernel
theorem dx_55_30 : mj_at 55 30 = some (.iconst 1) := by decide +kernel
theorem dx_55_31 : mj_at 55 31 = some (.iadd) := by decide +kernel
theorem dx_55_32 : mj_at 55 32 = some (.putfield 26) := by decide +kernel
theorem dx_55_35 : mj_at 55 35 = some (.aload_n 0) := by decide +kernel
theorem dx_55_36 : mj_at 55 36 = some (.getfield 12) := by decide +kernel
theorem dx_55_39 : mj_at 55 39 = some (.bipush 38) := by decide +kernel
theorem dx_55_41 : mj_at 55 41 = some (.invokevirtual 85) := by decide +kernel
theorem dx_55_44 : mj_at 55 44 = some (.istore_n 3) := by decide +kernel
theorem dx_55_45 : mj_at 55 45 = some (.aload_n 0) := by decide +kernel
theorem dx_55_46 : mj_at 55 46 = some (.iload_n 1) := by decide +kernel
theorem dx_55_47 : mj_at 55 47 = some (.invokevirtual 91) := by decide +kernel
theorem dx_55_50 : mj_at 55 50 = some (.aload_n 0) := by decide +kernel
theorem dx_55_51 : mj_at 55 51 = some (.getfield 12) := by decide +kernel
theorem dx_55_54 : mj_at 55 54 = some (.iload_n 3) := by decide +kernel
theorem dx_55_55 : mj_at 55 55 = some (.invokevirtual 88) := by decide +kernel
theorem dx_55_58 : mj_at 55 58 = some (.iinc 2 1) := by decide +kernel
theorem dx_55_61 : mj_at 55 61 = some (.goto (-54)) := by decide +kernel
theorem dx_55_64 : mj_at 55 64 = some (.return_) := by decide +kernel
set_option maxRecDepth 10000 in
theorem b_X4_readPart {sl d : Nat} {M : mj_M} {x1 : Int32}  : mj_C sl (d + 1) 55 [.ref 28, .int x1] M = (mj_C sl d 56 [.ref 28, .int x1] M).bind (fun q1 => mj_E sl (d + 1) 55 7 [.ref 28, .int x1, .int 0, .null] [] q1.2) := by
  show mj_E sl (d + 1) 55 0 [.ref 28, .int x1, .null, .null] [] M = _
  refine (sx_aload_n dx_55_0 rfl).trans ?_
  refine (sx_iload_n dx_55_1 rfl).trans ?_
  refine (sx_v1v dx_55_2 ow_55 cx_2_91 oc_28 (Nat.le_of_ble_eq_true rfl)).trans ?_
  refine mj_bnd (fun q1 => ?_)
  refine (sx_iconst (v := 0) dx_55_5 rfl).trans ?_
  refine (sx_istore_n dx_55_6 (Nat.le_of_ble_eq_true rfl) rfl).trans ?_
  rfl
set_option maxRecDepth 10000 in
theorem b_X4_readPart_7 {sl d : Nat} {M : mj_M} {y1 : Int32} {y2 : Int32} {w3 : Value}  : mj_E sl (d + 1) 55 7 [.ref 28, .int y1, .int y2, w3] [] M = if y2 < 240 then ((mj_C sl d 49 [.ref 28, .int 38, .int 38] M).bind (fun q1 => if q1.1 = 0 then (some ((0 : Int32), q1.2)) else ((mj_C sl d 43 [.ref (mj_lw ((mj_st q1.2 28 3 ((q1.2 28 3) + 1)) 28 1)), .int 38] (mj_st q1.2 28 3 ((q1.2 28 3) + 1))).bind (fun q2 => (mj_C sl d 56 [.ref 28, .int y1] q2.2).bind (fun q3 => (mj_C sl d 44 [.ref (mj_lw (q3.2 28 1)), .int q2.1] q3.2).bind (fun q4 => mj_E sl (d + 1) 55 7 [.ref 28, .int y1, .int (y2 + 1), .int q2.1] [] q4.2)))))) else (some ((0 : Int32), M)) := by
  refine (sx_iload_n dx_55_7 rfl).trans ?_
  refine (sx_sipush (v := 240) dx_55_8 rfl).trans ?_
  refine (sx_icmp_ge (tgt := 64) dx_55_11 (by decide)).trans ?_
  refine mj_ite ?_ ?_
  · refine (sx_aload_n dx_55_14 rfl).trans ?_
    refine (sx_bipush (v := 38) dx_55_15 rfl).trans ?_
    refine (sx_bipush (v := 38) dx_55_17 rfl).trans ?_
    refine (sx_v2i dx_55_19 ow_55 cx_2_81 oc_28 (Nat.le_of_ble_eq_true rfl)).trans ?_
    refine mj_bnd (fun q1 => ?_)
    refine (sx_if_eq (tgt := 64) dx_55_22 (by decide)).trans ?_
    refine mj_ite ?_ ?_
    · exact sx_retv dx_55_64 rt_55
    · refine (sx_aload_n dx_55_25 rfl).trans ?_
      refine (sx_dupa dx_55_26).trans ?_
      refine (sx_gfi dx_55_27 ow_55 fx_2_26 (by decide) oc_28).trans ?_
      refine (sx_iconst (v := 1) dx_55_30 rfl).trans ?_
      refine (sx_iadd dx_55_31).trans ?_
      refine (sx_pfi dx_55_32 ow_55 fx_2_26 oc_28).trans ?_
      refine (sx_aload_n dx_55_35 rfl).trans ?_
      refine (sx_gfl dx_55_36 ow_55 fx_2_12 oc_28).trans ?_
      refine (sx_bipush (v := 38) dx_55_39 rfl).trans ?_
      refine (sx_v1i dx_55_41 ow_55 cx_2_85 (oc_lw _) (Nat.le_of_ble_eq_true rfl)).trans ?_
      refine mj_bnd (fun q2 => ?_)
      refine (sx_istore_n dx_55_44 (Nat.le_of_ble_eq_true rfl) rfl).trans ?_
      refine (sx_aload_n dx_55_45 rfl).trans ?_
      refine (sx_iload_n dx_55_46 rfl).trans ?_
      refine (sx_v1v dx_55_47 ow_55 cx_2_91 oc_28 (Nat.le_of_ble_eq_true rfl)).trans ?_
      refine mj_bnd (fun q3 => ?_)
      refine (sx_aload_n dx_55_50 rfl).trans ?_
      refine (sx_gfl dx_55_51 ow_55 fx_2_12 oc_28).trans ?_
      refine (sx_iload_n dx_55_54 rfl).trans ?_
      refine (sx_v1v dx_55_55 ow_55 cx_2_88 (oc_lw _) (Nat.le_of_ble_eq_true rfl)).trans ?_
      refine mj_bnd (fun q4 => ?_)
      refine (sx_iinc (v := 1) dx_55_58 rfl rfl rfl).trans ?_
      refine (sx_goto (tgt := 7) dx_55_61 (by decide)).trans ?_
      rfl
  · exact sx_retv dx_55_64 rt_55
theorem dx_56_0 : mj_at 56 0 = some (.aload_n 0) := by decide +kernel
theorem dx_56_1 : mj_at 56 1 = some (.getfield 29) := by decide +kernel
theorem dx_56_4 : mj_at 56 4 = some (.ifCond .eq 4) := by decide +kernel
theorem dx_56_7 : mj_at 56 7 = some (.return_) := by decide +kernel
theorem dx_56_8 : mj_at 56 8 = some (.aload_n 0) := by decide +kernel
theorem dx_56_9 : mj_at 56 9 = some (.invokevirtual 51) := by decide +kernel
theorem dx_56_12 : mj_at 56 12 = some (.istore_n 2) := by decide +kernel
theorem dx_56_13 : mj_at 56 13 = some (.iload_n 2) := by decide +kernel
theorem dx_56_14 : mj_at 56 14 = some (.bipush 33) := by decide +kernel
theorem dx_56_16 : mj_at 56 16 = some (.if_icmp .ne 30) := by decide +kernel
theorem dx_56_19 : mj_at 56 19 = some (.aload_n 0) := by decide +kernel
theorem dx_56_20 : mj_at 56 20 = some (.iload_n 1) := by decide +kernel
theorem dx_56_21 : mj_at 56 21 = some (.invokevirtual 94) := by decide +kernel
theorem dx_56_24 : mj_at 56 24 = some (.ifCond .eq 118) := by decide +kernel
theorem dx_56_27 : mj_at 56 27 = some (.aload_n 0) := by decide +kernel
theorem dx_56_28 : mj_at 56 28 = some (.iload_n 1) := by decide +kernel
theorem dx_56_29 : mj_at 56 29 = some (.iconst 1) := by decide +kernel
theorem dx_56_30 : mj_at 56 30 = some (.iadd) := by decide +kernel
theorem dx_56_31 : mj_at 56 31 = some (.invokevirtual 91) := by decide +kernel
theorem dx_56_34 : mj_at 56 34 = some (.aload_n 0) := by decide +kernel
theorem dx_56_35 : mj_at 56 35 = some (.getfield 12) := by decide +kernel
theorem dx_56_38 : mj_at 56 38 = some (.bipush 33) := by decide +kernel
theorem dx_56_40 : mj_at 56 40 = some (.invokevirtual 68) := by decide +kernel
theorem dx_56_43 : mj_at 56 43 = some (.goto 99) := by decide +kernel
theorem dx_56_46 : mj_at 56 46 = some (.iload_n 2) := by decide +kernel
theorem dx_56_47 : mj_at 56 47 = some (.bipush 40) := by decide +kernel
theorem dx_56_49 : mj_at 56 49 = some (.if_icmp .ne 27) := by decide +kernel
theorem dx_56_52 : mj_at 56 52 = some (.aload_n 0) := by decide +kernel
theorem dx_56_53 : mj_at 56 53 = some (.iload_n 1) := by decide +kernel
theorem dx_56_54 : mj_at 56 54 = some (.invokevirtual 94) := by decide +kernel
theorem dx_56_57 : mj_at 56 57 = some (.ifCond .eq 85) := by decide +kernel
theorem dx_56_60 : mj_at 56 60 = some (.aload_n 0) := by decide +kernel
theorem dx_56_61 : mj_at 56 61 = some (.iload_n 1) := by decide +kernel
theorem dx_56_62 : mj_at 56 62 = some (.iconst 1) := by decide +kernel
theorem dx_56_63 : mj_at 56 63 = some (.iadd) := by decide +kernel
theorem dx_56_64 : mj_at 56 64 = some (.invokevirtual 71) := by decide +kernel
theorem dx_56_67 : mj_at 56 67 = some (.aload_n 0) := by decide +kernel
theorem dx_56_68 : mj_at 56 68 = some (.bipush 41) := by decide +kernel
theorem dx_56_70 : mj_at 56 70 = some (.invokevirtual 41) := by decide +kernel
theorem dx_56_73 : mj_at 56 73 = some (.goto 69) := by decide +kernel
theorem dx_56_76 : mj_at 56 76 = some (.aload_n 0) := by decide +kernel
theorem dx_56_77 : mj_at 56 77 = some (.iload_n 1) := by decide +kernel
theorem dx_56_78 : mj_at 56 78 = some (.invokevirtual 65) := by decide +kernel
theorem dx_56_81 : mj_at 56 81 = some (.aload_n 0) := by decide +kernel
theorem dx_56_82 : mj_at 56 82 = some (.invokevirtual 51) := by decide +kernel
theorem dx_56_85 : mj_at 56 85 = some (.istore_n 3) := by decide +kernel
theorem dx_56_86 : mj_at 56 86 = some (.aload_n 0) := by decide +kernel
theorem dx_56_87 : mj_at 56 87 = some (.getfield 29) := by decide +kernel
theorem dx_56_90 : mj_at 56 90 = some (.ifCond .ne 47) := by decide +kernel
theorem dx_56_93 : mj_at 56 93 = some (.iload_n 3) := by decide +kernel
theorem dx_56_94 : mj_at 56 94 = some (.bipush 60) := by decide +kernel
theorem dx_56_96 : mj_at 56 96 = some (.if_icmp .eq 15) := by decide +kernel
theorem dx_56_99 : mj_at 56 99 = some (.iload_n 3) := by decide +kernel
theorem dx_56_100 : mj_at 56 100 = some (.bipush 62) := by decide +kernel
theorem dx_56_102 : mj_at 56 102 = some (.if_icmp .eq 9) := by decide +kernel
theorem dx_56_105 : mj_at 56 105 = some (.iload_n 3) := by decide +kernel
theorem dx_56_106 : mj_at 56 106 = some (.bipush 61) := by decide +kernel
theorem dx_56_108 : mj_at 56 108 = some (.if_icmp .ne 29) := by decide +kernel
theorem dx_56_111 : mj_at 56 111 = some (.aload_n 0) := by decide +kernel
theorem dx_56_112 : mj_at 56 112 = some (.dup) := by decide +kernel
theorem dx_56_113 : mj_at 56 113 = some (.getfield 26) := by decide +kernel
theorem dx_56_116 : mj_at 56 116 = some (.iconst 1) := by decide +kernel
theorem dx_56_117 : mj_at 56 117 = some (.iadd) := by decide +kernel
theorem dx_56_118 : mj_at 56 118 = some (.putfield 26) := by decide +kernel
theorem dx_56_121 : mj_at 56 121 = some (.aload_n 0) := by decide +kernel
theorem dx_56_122 : mj_at 56 122 = some (.iload_n 1) := by decide +kernel
theorem dx_56_123 : mj_at 56 123 = some (.invokevirtual 65) := by decide +kernel
theorem dx_56_126 : mj_at 56 126 = some (.aload_n 0) := by decide +kernel
theorem dx_56_127 : mj_at 56 127 = some (.getfield 12) := by decide +kernel
theorem dx_56_130 : mj_at 56 130 = some (.iload_n 3) := by decide +kernel
theorem dx_56_131 : mj_at 56 131 = some (.invokevirtual 68) := by decide +kernel
theorem dx_56_134 : mj_at 56 134 = some (.goto 8) := by decide +kernel
theorem dx_56_137 : mj_at 56 137 = some (.aload_n 0) := by decide +kernel
theorem dx_56_138 : mj_at 56 138 = some (.iconst 1) := by decide +kernel
theorem dx_56_139 : mj_at 56 139 = some (.invokevirtual 59) := by decide +kernel
theorem dx_56_142 : mj_at 56 142 = some (.return_) := by decide +kernel
set_option maxRecDepth 10000 in
theorem b_X4_readTest {sl d : Nat} {M : mj_M} {x1 : Int32}  : mj_C sl (d + 1) 56 [.ref 28, .int x1] M = if M 28 4 = 0 then ((mj_C sl d 48 [.ref 28] M).bind (fun q1 => if q1.1 = 33 then ((mj_C sl d 52 [.ref 28, .int x1] q1.2).bind (fun q2 => if q2.1 = 0 then (some ((0 : Int32), q2.2)) else ((mj_C sl d 56 [.ref 28, .int (x1 + 1)] q2.2).bind (fun q3 => (mj_C sl d 42 [.ref (mj_lw (q3.2 28 1)), .int 33] q3.2).bind (fun q4 => some ((0 : Int32), q4.2)))))) else (if q1.1 = 40 then ((mj_C sl d 52 [.ref 28, .int x1] q1.2).bind (fun q5 => if q5.1 = 0 then (some ((0 : Int32), q5.2)) else ((mj_C sl d 54 [.ref 28, .int (x1 + 1)] q5.2).bind (fun q6 => (mj_C sl d 51 [.ref 28, .int 41] q6.2).bind (fun q7 => some ((0 : Int32), q7.2)))))) else ((mj_C sl d 57 [.ref 28, .int x1] q1.2).bind (fun q8 => (mj_C sl d 48 [.ref 28] q8.2).bind (fun q9 => if q9.2 28 4 = 0 then (if q9.1 = 60 then ((mj_C sl d 57 [.ref 28, .int x1] (mj_st q9.2 28 3 ((q9.2 28 3) + 1))).bind (fun q10 => (mj_C sl d 42 [.ref (mj_lw (q10.2 28 1)), .int q9.1] q10.2).bind (fun q11 => some ((0 : Int32), q11.2)))) else (if q9.1 = 62 then ((mj_C sl d 57 [.ref 28, .int x1] (mj_st q9.2 28 3 ((q9.2 28 3) + 1))).bind (fun q12 => (mj_C sl d 42 [.ref (mj_lw (q12.2 28 1)), .int q9.1] q12.2).bind (fun q13 => some ((0 : Int32), q13.2)))) else (if q9.1 = 61 then ((mj_C sl d 57 [.ref 28, .int x1] (mj_st q9.2 28 3 ((q9.2 28 3) + 1))).bind (fun q14 => (mj_C sl d 42 [.ref (mj_lw (q14.2 28 1)), .int q9.1] q14.2).bind (fun q15 => some ((0 : Int32), q15.2)))) else ((mj_C sl d 50 [.ref 28, .int 1] q9.2).bind (fun q16 => some ((0 : Int32), q16.2)))))) else ((mj_C sl d 50 [.ref 28, .int 1] q9.2).bind (fun q17 => some ((0 : Int32), q17.2))))))))) else (some ((0 : Int32), M)) := by
  show mj_E sl (d + 1) 56 0 [.ref 28, .int x1, .null, .null] [] M = _
  refine (sx_aload_n dx_56_0 rfl).trans ?_
  refine (sx_gfi dx_56_1 ow_56 fx_2_29 (by decide) oc_28).trans ?_
  refine (sx_if_eq (tgt := 8) dx_56_4 (by decide)).trans ?_
  refine mj_ite ?_ ?_
  · refine (sx_aload_n dx_56_8 rfl).trans ?_
    refine (sx_v0i dx_56_9 ow_56 cx_2_51 oc_28 (Nat.le_of_ble_eq_true rfl)).trans ?_
    refine mj_bnd (fun q1 => ?_)
    refine (sx_istore_n dx_56_12 (Nat.le_of_ble_eq_true rfl) rfl).trans ?_
    refine (sx_iload_n dx_56_13 rfl).trans ?_
    refine (sx_bipush (v := 33) dx_56_14 rfl).trans ?_
    refine (sx_icmp_ne (tgt := 46) dx_56_16 (by decide)).trans ?_
    refine mj_ite ?_ ?_
    · refine (sx_aload_n dx_56_19 rfl).trans ?_
      refine (sx_iload_n dx_56_20 rfl).trans ?_
      refine (sx_v1i dx_56_21 ow_56 cx_2_94 oc_28 (Nat.le_of_ble_eq_true rfl)).trans ?_
      refine mj_bnd (fun q2 => ?_)
      refine (sx_if_eq (tgt := 142) dx_56_24 (by decide)).trans ?_
      refine mj_ite ?_ ?_
      · exact sx_retv dx_56_142 rt_56
      · refine (sx_aload_n dx_56_27 rfl).trans ?_
        refine (sx_iload_n dx_56_28 rfl).trans ?_
        refine (sx_iconst (v := 1) dx_56_29 rfl).trans ?_
        refine (sx_iadd dx_56_30).trans ?_
        refine (sx_v1v dx_56_31 ow_56 cx_2_91 oc_28 (Nat.le_of_ble_eq_true rfl)).trans ?_
        refine mj_bnd (fun q3 => ?_)
        refine (sx_aload_n dx_56_34 rfl).trans ?_
        refine (sx_gfl dx_56_35 ow_56 fx_2_12 oc_28).trans ?_
        refine (sx_bipush (v := 33) dx_56_38 rfl).trans ?_
        refine (sx_v1v dx_56_40 ow_56 cx_2_68 (oc_lw _) (Nat.le_of_ble_eq_true rfl)).trans ?_
        refine mj_bnd (fun q4 => ?_)
        refine (sx_goto (tgt := 142) dx_56_43 (by decide)).trans ?_
        exact sx_retv dx_56_142 rt_56
    · refine (sx_iload_n dx_56_46 rfl).trans ?_
      refine (sx_bipush (v := 40) dx_56_47 rfl).trans ?_
      refine (sx_icmp_ne (tgt := 76) dx_56_49 (by decide)).trans ?_
      refine mj_ite ?_ ?_
      · refine (sx_aload_n dx_56_52 rfl).trans ?_
        refine (sx_iload_n dx_56_53 rfl).trans ?_
        refine (sx_v1i dx_56_54 ow_56 cx_2_94 oc_28 (Nat.le_of_ble_eq_true rfl)).trans ?_
        refine mj_bnd (fun q5 => ?_)
        refine (sx_if_eq (tgt := 142) dx_56_57 (by decide)).trans ?_
        refine mj_ite ?_ ?_
        · exact sx_retv dx_56_142 rt_56
        · refine (sx_aload_n dx_56_60 rfl).trans ?_
          refine (sx_iload_n dx_56_61 rfl).trans ?_
          refine (sx_iconst (v := 1) dx_56_62 rfl).trans ?_
          refine (sx_iadd dx_56_63).trans ?_
          refine (sx_v1v dx_56_64 ow_56 cx_2_71 oc_28 (Nat.le_of_ble_eq_true rfl)).trans ?_
          refine mj_bnd (fun q6 => ?_)
          refine (sx_aload_n dx_56_67 rfl).trans ?_
          refine (sx_bipush (v := 41) dx_56_68 rfl).trans ?_
          refine (sx_v1v dx_56_70 ow_56 cx_2_41 oc_28 (Nat.le_of_ble_eq_true rfl)).trans ?_
          refine mj_bnd (fun q7 => ?_)
          refine (sx_goto (tgt := 142) dx_56_73 (by decide)).trans ?_
          exact sx_retv dx_56_142 rt_56
      · refine (sx_aload_n dx_56_76 rfl).trans ?_
        refine (sx_iload_n dx_56_77 rfl).trans ?_
        refine (sx_v1v dx_56_78 ow_56 cx_2_65 oc_28 (Nat.le_of_ble_eq_true rfl)).trans ?_
        refine mj_bnd (fun q8 => ?_)
        refine (sx_aload_n dx_56_81 rfl).trans ?_
        refine (sx_v0i dx_56_82 ow_56 cx_2_51 oc_28 (Nat.le_of_ble_eq_true rfl)).trans ?_
        refine mj_bnd (fun q9 => ?_)
        refine (sx_istore_n dx_56_85 (Nat.le_of_ble_eq_true rfl) rfl).trans ?_
        refine (sx_aload_n dx_56_86 rfl).trans ?_
        refine (sx_gfi dx_56_87 ow_56 fx_2_29 (by decide) oc_28).trans ?_
        refine (sx_if_ne (tgt := 137) dx_56_90 (by decide)).trans ?_
        refine mj_ite ?_ ?_
        · refine (sx_iload_n dx_56_93 rfl).trans ?_
          refine (sx_bipush (v := 60) dx_56_94 rfl).trans ?_
          refine (sx_icmp_eq (tgt := 111) dx_56_96 (by decide)).trans ?_
          refine mj_ite ?_ ?_
          · refine (sx_aload_n dx_56_111 rfl).trans ?_
            refine (sx_dupa dx_56_112).trans ?_
            refine (sx_gfi dx_56_113 ow_56 fx_2_26 (by decide) oc_28).trans ?_
            refine (sx_iconst (v := 1) dx_56_116 rfl).trans ?_
            refine (sx_iadd dx_56_117).trans ?_
            refine (sx_pfi dx_56_118 ow_56 fx_2_26 oc_28).trans ?_
            refine (sx_aload_n dx_56_121 rfl).trans ?_
            refine (sx_iload_n dx_56_122 rfl).trans ?_
            refine (sx_v1v dx_56_123 ow_56 cx_2_65 oc_28 (Nat.le_of_ble_eq_true rfl)).trans ?_
            refine mj_bnd (fun q10 => ?_)
            refine (sx_aload_n dx_56_126 rfl).trans ?_
            refine (sx_gfl dx_56_127 ow_56 fx_2_12 oc_28).trans ?_
            refine (sx_iload_n dx_56_130 rfl).trans ?_
            refine (sx_v1v dx_56_131 ow_56 cx_2_68 (oc_lw _) (Nat.le_of_ble_eq_true rfl)).trans ?_
            refine mj_bnd (fun q11 => ?_)
            refine (sx_goto (tgt := 142) dx_56_134 (by decide)).trans ?_
            exact sx_retv dx_56_142 rt_56
          · refine (sx_iload_n dx_56_99 rfl).trans ?_
            refine (sx_bipush (v := 62) dx_56_100 rfl).trans ?_
            refine (sx_icmp_eq (tgt := 111) dx_56_102 (by decide)).trans ?_
            refine mj_ite ?_ ?_
            · refine (sx_aload_n dx_56_111 rfl).trans ?_
              refine (sx_dupa dx_56_112).trans ?_
              refine (sx_gfi dx_56_113 ow_56 fx_2_26 (by decide) oc_28).trans ?_
              refine (sx_iconst (v := 1) dx_56_116 rfl).trans ?_
              refine (sx_iadd dx_56_117).trans ?_
              refine (sx_pfi dx_56_118 ow_56 fx_2_26 oc_28).trans ?_
              refine (sx_aload_n dx_56_121 rfl).trans ?_
              refine (sx_iload_n dx_56_122 rfl).trans ?_
              refine (sx_v1v dx_56_123 ow_56 cx_2_65 oc_28 (Nat.le_of_ble_eq_true rfl)).trans ?_
              refine mj_bnd (fun q12 => ?_)
              refine (sx_aload_n dx_56_126 rfl).trans ?_
              refine (sx_gfl dx_56_127 ow_56 fx_2_12 oc_28).trans ?_
              refine (sx_iload_n dx_56_130 rfl).trans ?_
              refine (sx_v1v dx_56_131 ow_56 cx_2_68 (oc_lw _) (Nat.le_of_ble_eq_true rfl)).trans ?_
              refine mj_bnd (fun q13 => ?_)
              refine (sx_goto (tgt := 142) dx_56_134 (by decide)).trans ?_
              exact sx_retv dx_56_142 rt_56
            · refine (sx_iload_n dx_56_105 rfl).trans ?_
              refine (sx_bipush (v := 61) dx_56_106 rfl).trans ?_
              refine (sx_icmp_ne (tgt := 137) dx_56_108 (by decide)).trans ?_
              refine mj_ite ?_ ?_
              · refine (sx_aload_n dx_56_111 rfl).trans ?_
                refine (sx_dupa dx_56_112).trans ?_
                refine (sx_gfi dx_56_113 ow_56 fx_2_26 (by decide) oc_28).trans ?_
                refine (sx_iconst (v := 1) dx_56_116 rfl).trans ?_
                refine (sx_iadd dx_56_117).trans ?_
                refine (sx_pfi dx_56_118 ow_56 fx_2_26 oc_28).trans ?_
                refine (sx_aload_n dx_56_121 rfl).trans ?_
                refine (sx_iload_n dx_56_122 rfl).trans ?_
                refine (sx_v1v dx_56_123 ow_56 cx_2_65 oc_28 (Nat.le_of_ble_eq_true rfl)).trans ?_
                refine mj_bnd (fun q14 => ?_)
                refine (sx_aload_n dx_56_126 rfl).trans ?_
                refine (sx_gfl dx_56_127 ow_56 fx_2_12 oc_28).trans ?_
                refine (sx_iload_n dx_56_130 rfl).trans ?_
                refine (sx_v1v dx_56_131 ow_56 cx_2_68 (oc_lw _) (Nat.le_of_ble_eq_true rfl)).trans ?_
                refine mj_bnd (fun q15 => ?_)
                refine (sx_goto (tgt := 142) dx_56_134 (by decide)).trans ?_
                exact sx_retv dx_56_142 rt_56
              · refine (sx_aload_n dx_56_137 rfl).trans ?_
                refine (sx_iconst (v := 1) dx_56_138 rfl).trans ?_
                refine (sx_v1v dx_56_139 ow_56 cx_2_59 oc_28 (Nat.le_of_ble_eq_true rfl)).trans ?_
                refine mj_bnd (fun q16 => ?_)
                exact sx_retv dx_56_142 rt_56
        · refine (sx_aload_n dx_56_137 rfl).trans ?_
          refine (sx_iconst (v := 1) dx_56_138 rfl).trans ?_
          refine (sx_v1v dx_56_139 ow_56 cx_2_59 oc_28 (Nat.le_of_ble_eq_true rfl)).trans ?_
          refine mj_bnd (fun q17 => ?_)
          exact sx_retv dx_56_142 rt_56
  · exact sx_retv dx_56_7 rt_56
theorem dx_57_0 : mj_at 57 0 = some (.aload_n 0) := by decide +kernel
theorem dx_57_1 : mj_at 57 1 = some (.iload_n 1) := by decide +kernel
theorem dx_57_2 : mj_at 57 2 = some (.invokevirtual 98) := by decide +kernel
theorem dx_57_5 : mj_at 57 5 = some (.iconst 0) := by decide +kernel
theorem dx_57_6 : mj_at 57 6 = some (.istore_n 2) := by decide +kernel
theorem dx_57_7 : mj_at 57 7 = some (.iload_n 2) := by decide +kernel
theorem dx_57_8 : mj_at 57 8 = some (.sipush 240) := by decide +kernel
theorem dx_57_11 : mj_at 57 11 = some (.if_icmp .ge 48) := by decide +kernel
theorem dx_57_14 : mj_at 57 14 = some (.aload_n 0) := by decide +kernel
theorem dx_57_15 : mj_at 57 15 = some (.bipush 43) := by decide +kernel
theorem dx_57_17 : mj_at 57 17 = some (.bipush 45) := by decide +kernel
theorem dx_57_19 : mj_at 57 19 = some (.invokevirtual 81) := by decide +kernel
theorem dx_57_22 : mj_at 57 22 = some (.ifCond .eq 37) := by decide +kernel
theorem dx_57_25 : mj_at 57 25 = some (.aload_n 0) := by decide +kernel
theorem dx_57_26 : mj_at 57 26 = some (.invokevirtual 51) := by decide +kernel
theorem dx_57_29 : mj_at 57 29 = some (.istore_n 3) := by decide +kernel
theorem dx_57_30 : mj_at 57 30 = some (.aload_n 0) := by decide +kernel
theorem dx_57_31 : mj_at 57 31 = some (.dup) := by decide +kernel
theorem dx_57_32 : mj_at 57 32 = some (.getfield 26) := by decide +kernel
theorem dx_57_35 : mj_at 57 35 = some (.iconst 1) := by decide +kernel
theorem dx_57_36 : mj_at 57 36 = some (.iadd) := by decide +kernel
theorem dx_57_37 : mj_at 57 37 = some (.putfield 26) := by decide +kernel
theorem dx_57_40 : mj_at 57 40 = some (.aload_n 0) := by decide +kernel
theorem dx_57_41 : mj_at 57 41 = some (.iload_n 1) := by decide +kernel
theorem dx_57_42 : mj_at 57 42 = some (.invokevirtual 98) := by decide +kernel
theorem dx_57_45 : mj_at 57 45 = some (.aload_n 0) := by decide +kernel
theorem dx_57_46 : mj_at 57 46 = some (.getfield 12) := by decide +kernel
theorem dx_57_49 : mj_at 57 49 = some (.iload_n 3) := by decide +kernel
theorem dx_57_50 : mj_at 57 50 = some (.invokevirtual 68) := by decide +kernel
theorem dx_57_53 : mj_at 57 53 = some (.iinc 2 1) := by decide +kernel
theorem dx_57_56 : mj_at 57 56 = some (.goto (-49)) := by decide +kernel
theorem dx_57_59 : mj_at 57 59 = some (.return_) := by decide +kernel
set_option maxRecDepth 10000 in
theorem b_X4_readSum {sl d : Nat} {M : mj_M} {x1 : Int32}  : mj_C sl (d + 1) 57 [.ref 28, .int x1] M = (mj_C sl d 58 [.ref 28, .int x1] M).bind (fun q1 => mj_E sl (d + 1) 57 7 [.ref 28, .int x1, .int 0, .null] [] q1.2) := by
  show mj_E sl (d + 1) 57 0 [.ref 28, .int x1, .null, .null] [] M = _
  refine (sx_aload_n dx_57_0 rfl).trans ?_
  refine (sx_iload_n dx_57_1 rfl).trans ?_
  refine (sx_v1v dx_57_2 ow_57 cx_2_98 oc_28 (Nat.le_of_ble_eq_true rfl)).trans ?_
  refine mj_bnd (fun q1 => ?_)
  refine (sx_iconst (v := 0) dx_57_5 rfl).trans ?_
  refine (sx_istore_n dx_57_6 (Nat.le_of_ble_eq_true rfl) rfl).trans ?_
  rfl
set_option maxRecDepth 10000 in
theorem b_X4_readSum_7 {sl d : Nat} {M : mj_M} {y1 : Int32} {y2 : Int32} {w3 : Value}  : mj_E sl (d + 1) 57 7 [.ref 28, .int y1, .int y2, w3] [] M = if y2 < 240 then ((mj_C sl d 49 [.ref 28, .int 43, .int 45] M).bind (fun q1 => if q1.1 = 0 then (some ((0 : Int32), q1.2)) else ((mj_C sl d 48 [.ref 28] q1.2).bind (fun q2 => (mj_C sl d 58 [.ref 28, .int y1] (mj_st q2.2 28 3 ((q2.2 28 3) + 1))).bind (fun q3 => (mj_C sl d 42 [.ref (mj_lw (q3.2 28 1)), .int q2.1] q3.2).bind (fun q4 => mj_E sl (d + 1) 57 7 [.ref 28, .int y1, .int (y2 + 1), .int q2.1] [] q4.2)))))) else (some ((0 : Int32), M)) := by
  refine (sx_iload_n dx_57_7 rfl).trans ?_
  refine (sx_sipush (v := 240) dx_57_8 rfl).trans ?_
  refine (sx_icmp_ge (tgt := 59) dx_57_11 (by decide)).trans ?_
  refine mj_ite ?_ ?_
  · refine (sx_aload_n dx_57_14 rfl).trans ?_
    refine (sx_bipush (v := 43) dx_57_15 rfl).trans ?_
    refine (sx_bipush (v := 45) dx_57_17 rfl).trans ?_
    refine (sx_v2i dx_57_19 ow_57 cx_2_81 oc_28 (Nat.le_of_ble_eq_true rfl)).trans ?_
    refine mj_bnd (fun q1 => ?_)
    refine (sx_if_eq (tgt := 59) dx_57_22 (by decide)).trans ?_
    refine mj_ite ?_ ?_
    · exact sx_retv dx_57_59 rt_57
    · refine (sx_aload_n dx_57_25 rfl).trans ?_
      refine (sx_v0i dx_57_26 ow_57 cx_2_51 oc_28 (Nat.le_of_ble_eq_true rfl)).trans ?_
      refine mj_bnd (fun q2 => ?_)
      refine (sx_istore_n dx_57_29 (Nat.le_of_ble_eq_true rfl) rfl).trans ?_
      refine (sx_aload_n dx_57_30 rfl).trans ?_
      refine (sx_dupa dx_57_31).trans ?_
      refine (sx_gfi dx_57_32 ow_57 fx_2_26 (by decide) oc_28).trans ?_
      refine (sx_iconst (v := 1) dx_57_35 rfl).trans ?_
      refine (sx_iadd dx_57_36).trans ?_
      refine (sx_pfi dx_57_37 ow_57 fx_2_26 oc_28).trans ?_
      refine (sx_aload_n dx_57_40 rfl).trans ?_
      refine (sx_iload_n dx_57_41 rfl).trans ?_
      refine (sx_v1v dx_57_42 ow_57 cx_2_98 oc_28 (Nat.le_of_ble_eq_true rfl)).trans ?_
      refine mj_bnd (fun q3 => ?_)
      refine (sx_aload_n dx_57_45 rfl).trans ?_
      refine (sx_gfl dx_57_46 ow_57 fx_2_12 oc_28).trans ?_
      refine (sx_iload_n dx_57_49 rfl).trans ?_
      refine (sx_v1v dx_57_50 ow_57 cx_2_68 (oc_lw _) (Nat.le_of_ble_eq_true rfl)).trans ?_
      refine mj_bnd (fun q4 => ?_)
      refine (sx_iinc (v := 1) dx_57_53 rfl rfl rfl).trans ?_
      refine (sx_goto (tgt := 7) dx_57_56 (by decide)).trans ?_
      rfl
  · exact sx_retv dx_57_59 rt_57
theorem dx_58_0 : mj_at 58 0 = some (.aload_n 0) := by decide +kernel
theorem dx_58_1 : mj_at 58 1 = some (.iload_n 1) := by decide +kernel
theorem dx_58_2 : mj_at 58 2 = some (.invokevirtual 101) := by decide +kernel
theorem dx_58_5 : mj_at 58 5 = some (.iconst 0) := by decide +kernel
theorem dx_58_6 : mj_at 58 6 = some (.istore_n 2) := by decide +kernel
theorem dx_58_7 : mj_at 58 7 = some (.iload_n 2) := by decide +kernel
theorem dx_58_8 : mj_at 58 8 = some (.sipush 240) := by decide +kernel
theorem dx_58_11 : mj_at 58 11 = some (.if_icmp .ge 59) := by decide +kernel
theorem dx_58_14 : mj_at 58 14 = some (.aload_n 0) := by decide +kernel
theorem dx_58_15 : mj_at 58 15 = some (.bipush 42) := by decide +kernel
theorem dx_58_17 : mj_at 58 17 = some (.bipush 47) := by decide +kernel
theorem dx_58_19 : mj_at 58 19 = some (.invokevirtual 81) := by decide +kernel
theorem dx_58_22 : mj_at 58 22 = some (.ifCond .ne 14) := by decide +kernel
theorem dx_58_25 : mj_at 58 25 = some (.aload_n 0) := by decide +kernel
theorem dx_58_26 : mj_at 58 26 = some (.bipush 37) := by decide +kernel
theorem dx_58_28 : mj_at 58 28 = some (.bipush 37) := by decide +kernel
theorem dx_58_30 : mj_at 58 30 = some (.invokevirtual 81) := by decide +kernel
theorem dx_58_33 : mj_at 58 33 = some (.ifCond .eq 37) := by decide +kernel
theorem dx_58_36 : mj_at 58 36 = some (.aload_n 0) := by decide +kernel
theorem dx_58_37 : mj_at 58 37 = some (.invokevirtual 51) := by decide +kernel
theorem dx_58_40 : mj_at 58 40 = some (.istore_n 3) := by decide +kernel
theorem dx_58_41 : mj_at 58 41 = some (.aload_n 0) := by decide +kernel
theorem dx_58_42 : mj_at 58 42 = some (.dup) := by decide +kernel
theorem dx_58_43 : mj_at 58 43 = some (.getfield 26) := by decide +kernel
theorem dx_58_46 : mj_at 58 46 = some (.iconst 1) := by decide +kernel
theorem dx_58_47 : mj_at 58 47 = some (.iadd) := by decide +kernel
theorem dx_58_48 : mj_at 58 48 = some (.putfield 26) := by decide +kernel
theorem dx_58_51 : mj_at 58 51 = some (.aload_n 0) := by decide +kernel
theorem dx_58_52 : mj_at 58 52 = some (.iload_n 1) := by decide +kernel
theorem dx_58_53 : mj_at 58 53 = some (.invokevirtual 101) := by decide +kernel
theorem dx_58_56 : mj_at 58 56 = some (.aload_n 0) := by decide +kernel
theorem dx_58_57 : mj_at 58 57 = some (.getfield 12) := by decide +kernel
theorem dx_58_60 : mj_at 58 60 = some (.iload_n 3) := by decide +kernel
theorem dx_58_61 : mj_at 58 61 = some (.invokevirtual 68) := by decide +kernel
theorem dx_58_64 : mj_at 58 64 = some (.iinc 2 1) := by decide +kernel
theorem dx_58_67 : mj_at 58 67 = some (.goto (-60)) := by decide +kernel
theorem dx_58_70 : mj_at 58 70 = some (.return_) := by decide +kernel
set_option maxRecDepth 10000 in
theorem b_X4_readProduct {sl d : Nat} {M : mj_M} {x1 : Int32}  : mj_C sl (d + 1) 58 [.ref 28, .int x1] M = (mj_C sl d 59 [.ref 28, .int x1] M).bind (fun q1 => mj_E sl (d + 1) 58 7 [.ref 28, .int x1, .int 0, .null] [] q1.2) := by
  show mj_E sl (d + 1) 58 0 [.ref 28, .int x1, .null, .null] [] M = _
  refine (sx_aload_n dx_58_0 rfl).trans ?_
  refine (sx_iload_n dx_58_1 rfl).trans ?_
  refine (sx_v1v dx_58_2 ow_58 cx_2_101 oc_28 (Nat.le_of_ble_eq_true rfl)).trans ?_
  refine mj_bnd (fun q1 => ?_)
  refine (sx_iconst (v := 0) dx_58_5 rfl).trans ?_
  refine (sx_istore_n dx_58_6 (Nat.le_of_ble_eq_true rfl) rfl).trans ?_
  rfl
set_option maxRecDepth 10000 in
theorem b_X4_readProduct_7 {sl d : Nat} {M : mj_M} {y1 : Int32} {y2 : Int32} {w3 : Value}  : mj_E sl (d + 1) 58 7 [.ref 28, .int y1, .int y2, w3] [] M = if y2 < 240 then ((mj_C sl d 49 [.ref 28, .int 42, .int 47] M).bind (fun q1 => if q1.1 = 0 then ((mj_C sl d 49 [.ref 28, .int 37, .int 37] q1.2).bind (fun q2 => if q2.1 = 0 then (some ((0 : Int32), q2.2)) else ((mj_C sl d 48 [.ref 28] q2.2).bind (fun q3 => (mj_C sl d 59 [.ref 28, .int y1] (mj_st q3.2 28 3 ((q3.2 28 3) + 1))).bind (fun q4 => (mj_C sl d 42 [.ref (mj_lw (q4.2 28 1)), .int q3.1] q4.2).bind (fun q5 => mj_E sl (d + 1) 58 7 [.ref 28, .int y1, .int (y2 + 1), .int q3.1] [] q5.2)))))) else ((mj_C sl d 48 [.ref 28] q1.2).bind (fun q6 => (mj_C sl d 59 [.ref 28, .int y1] (mj_st q6.2 28 3 ((q6.2 28 3) + 1))).bind (fun q7 => (mj_C sl d 42 [.ref (mj_lw (q7.2 28 1)), .int q6.1] q7.2).bind (fun q8 => mj_E sl (d + 1) 58 7 [.ref 28, .int y1, .int (y2 + 1), .int q6.1] [] q8.2)))))) else (some ((0 : Int32), M)) := by
  refine (sx_iload_n dx_58_7 rfl).trans ?_
  refine (sx_sipush (v := 240) dx_58_8 rfl).trans ?_
  refine (sx_icmp_ge (tgt := 70) dx_58_11 (by decide)).trans ?_
  refine mj_ite ?_ ?_
  · refine (sx_aload_n dx_58_14 rfl).trans ?_
    refine (sx_bipush (v := 42) dx_58_15 rfl).trans ?_
    refine (sx_bipush (v := 47) dx_58_17 rfl).trans ?_
    refine (sx_v2i dx_58_19 ow_58 cx_2_81 oc_28 (Nat.le_of_ble_eq_true rfl)).trans ?_
    refine mj_bnd (fun q1 => ?_)
    refine (sx_if_ne (tgt := 36) dx_58_22 (by decide)).trans ?_
    refine mj_ite ?_ ?_
    · refine (sx_aload_n dx_58_25 rfl).trans ?_
      refine (sx_bipush (v := 37) dx_58_26 rfl).trans ?_
      refine (sx_bipush (v := 37) dx_58_28 rfl).trans ?_
      refine (sx_v2i dx_58_30 ow_58 cx_2_81 oc_28 (Nat.le_of_ble_eq_true rfl)).trans ?_
      refine mj_bnd (fun q2 => ?_)
      refine (sx_if_eq (tgt := 70) dx_58_33 (by decide)).trans ?_
      refine mj_ite ?_ ?_
      · exact sx_retv dx_58_70 rt_58
      · refine (sx_aload_n dx_58_36 rfl).trans ?_
        refine (sx_v0i dx_58_37 ow_58 cx_2_51 oc_28 (Nat.le_of_ble_eq_true rfl)).trans ?_
        refine mj_bnd (fun q3 => ?_)
        refine (sx_istore_n dx_58_40 (Nat.le_of_ble_eq_true rfl) rfl).trans ?_
        refine (sx_aload_n dx_58_41 rfl).trans ?_
        refine (sx_dupa dx_58_42).trans ?_
        refine (sx_gfi dx_58_43 ow_58 fx_2_26 (by decide) oc_28).trans ?_
        refine (sx_iconst (v := 1) dx_58_46 rfl).trans ?_
        refine (sx_iadd dx_58_47).trans ?_
        refine (sx_pfi dx_58_48 ow_58 fx_2_26 oc_28).trans ?_
        refine (sx_aload_n dx_58_51 rfl).trans ?_
        refine (sx_iload_n dx_58_52 rfl).trans ?_
        refine (sx_v1v dx_58_53 ow_58 cx_2_101 oc_28 (Nat.le_of_ble_eq_true rfl)).trans ?_
        refine mj_bnd (fun q4 => ?_)
        refine (sx_aload_n dx_58_56 rfl).trans ?_
        refine (sx_gfl dx_58_57 ow_58 fx_2_12 oc_28).trans ?_
        refine (sx_iload_n dx_58_60 rfl).trans ?_
        refine (sx_v1v dx_58_61 ow_58 cx_2_68 (oc_lw _) (Nat.le_of_ble_eq_true rfl)).trans ?_
        refine mj_bnd (fun q5 => ?_)
        refine (sx_iinc (v := 1) dx_58_64 rfl rfl rfl).trans ?_
        refine (sx_goto (tgt := 7) dx_58_67 (by decide)).trans ?_
        rfl
    · refine (sx_aload_n dx_58_36 rfl).trans ?_
      refine (sx_v0i dx_58_37 ow_58 cx_2_51 oc_28 (Nat.le_of_ble_eq_true rfl)).trans ?_
      refine mj_bnd (fun q6 => ?_)
      refine (sx_istore_n dx_58_40 (Nat.le_of_ble_eq_true rfl) rfl).trans ?_
      refine (sx_aload_n dx_58_41 rfl).trans ?_
      refine (sx_dupa dx_58_42).trans ?_
      refine (sx_gfi dx_58_43 ow_58 fx_2_26 (by decide) oc_28).trans ?_
      refine (sx_iconst (v := 1) dx_58_46 rfl).trans ?_
      refine (sx_iadd dx_58_47).trans ?_
      refine (sx_pfi dx_58_48 ow_58 fx_2_26 oc_28).trans ?_
      refine (sx_aload_n dx_58_51 rfl).trans ?_
      refine (sx_iload_n dx_58_52 rfl).trans ?_
      refine (sx_v1v dx_58_53 ow_58 cx_2_101 oc_28 (Nat.le_of_ble_eq_true rfl)).trans ?_
      refine mj_bnd (fun q7 => ?_)
      refine (sx_aload_n dx_58_56 rfl).trans ?_
      refine (sx_gfl dx_58_57 ow_58 fx_2_12 oc_28).trans ?_
      refine (sx_iload_n dx_58_60 rfl).trans ?_
      refine (sx_v1v dx_58_61 ow_58 cx_2_68 (oc_lw _) (Nat.le_of_ble_eq_true rfl)).trans ?_
      refine mj_bnd (fun q8 => ?_)
      refine (sx_iinc (v := 1) dx_58_64 rfl rfl rfl).trans ?_
      refine (sx_goto (tgt := 7) dx_58_67 (by decide)).trans ?_
      rfl
  · exact sx_retv dx_58_70 rt_58
theorem dx_59_0 : mj_at 59 0 = some (.aload_n 0) := by decide +kernel
theorem dx_59_1 : mj_at 59 1 = some (.getfield 29) := by decide +kernel
theorem dx_59_4 : mj_at 59 4 = some (.ifCond .eq 4) := by decide +kernel
theorem dx_59_7 : mj_at 59 7 = some (.return_) := by decide +kernel
theorem dx_59_8 : mj_at 59 8 = some (.aload_n 0) := by decide +kernel
theorem dx_59_9 : mj_at 59 9 = some (.invokevirtual 51) := by decide +kernel
theorem dx_59_12 : mj_at 59 12 = some (.istore_n 2) := by decide +kernel
theorem dx_59_13 : mj_at 59 13 = some (.iload_n 2) := by decide +kernel
theorem dx_59_14 : mj_at 59 14 = some (.ifCond .le 13) := by decide +kernel
theorem dx_59_17 : mj_at 59 17 = some (.ldc 104) := by decide +kernel
theorem dx_59_19 : mj_at 59 19 = some (.iload_n 2) := by decide +kernel
theorem dx_59_20 : mj_at 59 20 = some (.i2c) := by decide +kernel
theorem dx_59_21 : mj_at 59 21 = some (.invokevirtual 106) := by decide +kernel
theorem dx_59_24 : mj_at 59 24 = some (.goto 4) := by decide +kernel
theorem dx_59_27 : mj_at 59 27 = some (.iconst (-1)) := by decide +kernel
theorem dx_59_28 : mj_at 59 28 = some (.istore_n 3) := by decide +kernel
theorem dx_59_29 : mj_at 59 29 = some (.iload_n 2) := by decide +kernel
theorem dx_59_30 : mj_at 59 30 = some (.bipush 91) := by decide +kernel
theorem dx_59_32 : mj_at 59 32 = some (.if_icmp .ne 27) := by decide +kernel
theorem dx_59_35 : mj_at 59 35 = some (.aload_n 0) := by decide +kernel
theorem dx_59_36 : mj_at 59 36 = some (.iload_n 1) := by decide +kernel
theorem dx_59_37 : mj_at 59 37 = some (.invokevirtual 94) := by decide +kernel
theorem dx_59_40 : mj_at 59 40 = some (.ifCond .eq 67) := by decide +kernel
theorem dx_59_43 : mj_at 59 43 = some (.aload_n 0) := by decide +kernel
theorem dx_59_44 : mj_at 59 44 = some (.iload_n 1) := by decide +kernel
theorem dx_59_45 : mj_at 59 45 = some (.iconst 1) := by decide +kernel
theorem dx_59_46 : mj_at 59 46 = some (.iadd) := by decide +kernel
theorem dx_59_47 : mj_at 59 47 = some (.invokevirtual 65) := by decide +kernel
theorem dx_59_50 : mj_at 59 50 = some (.aload_n 0) := by decide +kernel
theorem dx_59_51 : mj_at 59 51 = some (.bipush 93) := by decide +kernel
theorem dx_59_53 : mj_at 59 53 = some (.invokevirtual 41) := by decide +kernel
theorem dx_59_56 : mj_at 59 56 = some (.goto 51) := by decide +kernel
theorem dx_59_59 : mj_at 59 59 = some (.iload_n 2) := by decide +kernel
theorem dx_59_60 : mj_at 59 60 = some (.invokestatic 111) := by decide +kernel
theorem dx_59_63 : mj_at 59 63 = some (.ifCond .eq 10) := by decide +kernel
theorem dx_59_66 : mj_at 59 66 = some (.aload_n 0) := by decide +kernel
theorem dx_59_67 : mj_at 59 67 = some (.invokevirtual 114) := by decide +kernel
theorem dx_59_70 : mj_at 59 70 = some (.goto 37) := by decide +kernel
theorem dx_59_73 : mj_at 59 73 = some (.iload_n 3) := by decide +kernel
theorem dx_59_74 : mj_at 59 74 = some (.ifCond .lt 28) := by decide +kernel
theorem dx_59_77 : mj_at 59 77 = some (.aload_n 0) := by decide +kernel
theorem dx_59_78 : mj_at 59 78 = some (.dup) := by decide +kernel
theorem dx_59_79 : mj_at 59 79 = some (.getfield 26) := by decide +kernel
theorem dx_59_82 : mj_at 59 82 = some (.iconst 1) := by decide +kernel
theorem dx_59_83 : mj_at 59 83 = some (.iadd) := by decide +kernel
theorem dx_59_84 : mj_at 59 84 = some (.putfield 26) := by decide +kernel
theorem dx_59_87 : mj_at 59 87 = some (.aload_n 0) := by decide +kernel
theorem dx_59_88 : mj_at 59 88 = some (.getfield 12) := by decide +kernel
theorem dx_59_91 : mj_at 59 91 = some (.sipush 256) := by decide +kernel
theorem dx_59_94 : mj_at 59 94 = some (.iload_n 3) := by decide +kernel
theorem dx_59_95 : mj_at 59 95 = some (.iadd) := by decide +kernel
theorem dx_59_96 : mj_at 59 96 = some (.invokevirtual 68) := by decide +kernel
theorem dx_59_99 : mj_at 59 99 = some (.goto 8) := by decide +kernel
theorem dx_59_102 : mj_at 59 102 = some (.aload_n 0) := by decide +kernel
theorem dx_59_103 : mj_at 59 103 = some (.iconst 1) := by decide +kernel
theorem dx_59_104 : mj_at 59 104 = some (.invokevirtual 59) := by decide +kernel
theorem dx_59_107 : mj_at 59 107 = some (.return_) := by decide +kernel
set_option maxRecDepth 10000 in
theorem b_X4_readFactor {sl d : Nat} {M : mj_M} {x1 : Int32}  : mj_C sl (d + 1) 59 [.ref 28, .int x1] M = if M 28 4 = 0 then ((mj_C sl d 48 [.ref 28] M).bind (fun q1 => if q1.1 ≤ 0 then (if q1.1 = 91 then ((mj_C sl d 52 [.ref 28, .int x1] q1.2).bind (fun q2 => if q2.1 = 0 then (some ((0 : Int32), q2.2)) else ((mj_C sl d 57 [.ref 28, .int (x1 + 1)] q2.2).bind (fun q3 => (mj_C sl d 51 [.ref 28, .int 93] q3.2).bind (fun q4 => some ((0 : Int32), q4.2)))))) else ((mj_C sl d 61 [.int q1.1] q1.2).bind (fun q5 => if q5.1 = 0 then ((mj_C sl d 50 [.ref 28, .int 1] q5.2).bind (fun q6 => some ((0 : Int32), q6.2))) else ((mj_C sl d 60 [.ref 28] q5.2).bind (fun q7 => some ((0 : Int32), q7.2)))))) else ((mj_C sl d 234 [.ref 73, .int (((q1.1 : Int32).toUInt32 % 65536).toInt32)] q1.2).bind (fun q8 => if q1.1 = 91 then ((mj_C sl d 52 [.ref 28, .int x1] q8.2).bind (fun q9 => if q9.1 = 0 then (some ((0 : Int32), q9.2)) else ((mj_C sl d 57 [.ref 28, .int (x1 + 1)] q9.2).bind (fun q10 => (mj_C sl d 51 [.ref 28, .int 93] q10.2).bind (fun q11 => some ((0 : Int32), q11.2)))))) else ((mj_C sl d 61 [.int q1.1] q8.2).bind (fun q12 => if q12.1 = 0 then (if q8.1 < 0 then ((mj_C sl d 50 [.ref 28, .int 1] q12.2).bind (fun q13 => some ((0 : Int32), q13.2))) else ((mj_C sl d 42 [.ref (mj_lw ((mj_st q12.2 28 3 ((q12.2 28 3) + 1)) 28 1)), .int ((256 : Int32) + q8.1)] (mj_st q12.2 28 3 ((q12.2 28 3) + 1))).bind (fun q14 => some ((0 : Int32), q14.2)))) else ((mj_C sl d 60 [.ref 28] q12.2).bind (fun q15 => some ((0 : Int32), q15.2))))))))) else (some ((0 : Int32), M)) := by
  show mj_E sl (d + 1) 59 0 [.ref 28, .int x1, .null, .null] [] M = _
  refine (sx_aload_n dx_59_0 rfl).trans ?_
  refine (sx_gfi dx_59_1 ow_59 fx_2_29 (by decide) oc_28).trans ?_
  refine (sx_if_eq (tgt := 8) dx_59_4 (by decide)).trans ?_
  refine mj_ite ?_ ?_
  · refine (sx_aload_n dx_59_8 rfl).trans ?_
    refine (sx_v0i dx_59_9 ow_59 cx_2_51 oc_28 (Nat.le_of_ble_eq_true rfl)).trans ?_
    refine mj_bnd (fun q1 => ?_)
    refine (sx_istore_n dx_59_12 (Nat.le_of_ble_eq_true rfl) rfl).trans ?_
    refine (sx_iload_n dx_59_13 rfl).trans ?_
    refine (sx_if_le (tgt := 27) dx_59_14 (by decide)).trans ?_
    refine mj_ite ?_ ?_
    · refine (sx_iconst (v := (-1)) dx_59_27 rfl).trans ?_
      refine (sx_istore_n dx_59_28 (Nat.le_of_ble_eq_true rfl) rfl).trans ?_
      refine (sx_iload_n dx_59_29 rfl).trans ?_
      refine (sx_bipush (v := 91) dx_59_30 rfl).trans ?_
      refine (sx_icmp_ne (tgt := 59) dx_59_32 (by decide)).trans ?_
      refine mj_ite ?_ ?_
      · refine (sx_aload_n dx_59_35 rfl).trans ?_
        refine (sx_iload_n dx_59_36 rfl).trans ?_
        refine (sx_v1i dx_59_37 ow_59 cx_2_94 oc_28 (Nat.le_of_ble_eq_true rfl)).trans ?_
        refine mj_bnd (fun q2 => ?_)
        refine (sx_if_eq (tgt := 107) dx_59_40 (by decide)).trans ?_
        refine mj_ite ?_ ?_
        · exact sx_retv dx_59_107 rt_59
        · refine (sx_aload_n dx_59_43 rfl).trans ?_
          refine (sx_iload_n dx_59_44 rfl).trans ?_
          refine (sx_iconst (v := 1) dx_59_45 rfl).trans ?_
          refine (sx_iadd dx_59_46).trans ?_
          refine (sx_v1v dx_59_47 ow_59 cx_2_65 oc_28 (Nat.le_of_ble_eq_true rfl)).trans ?_
          refine mj_bnd (fun q3 => ?_)
          refine (sx_aload_n dx_59_50 rfl).trans ?_
          refine (sx_bipush (v := 93) dx_59_51 rfl).trans ?_
          refine (sx_v1v dx_59_53 ow_59 cx_2_41 oc_28 (Nat.le_of_ble_eq_true rfl)).trans ?_
          refine mj_bnd (fun q4 => ?_)
          refine (sx_goto (tgt := 107) dx_59_56 (by decide)).trans ?_
          exact sx_retv dx_59_107 rt_59
      · refine (sx_iload_n dx_59_59 rfl).trans ?_
        refine (sx_s1i dx_59_60 ow_59 cx_2_111 (Nat.le_of_ble_eq_true rfl)).trans ?_
        refine mj_bnd (fun q5 => ?_)
        refine (sx_if_eq (tgt := 73) dx_59_63 (by decide)).trans ?_
        refine mj_ite ?_ ?_
        · refine (sx_iload_n dx_59_73 rfl).trans ?_
          refine (sx_if_lt_t (tgt := 102) dx_59_74 (by decide) (by decide)).trans ?_
          refine (sx_aload_n dx_59_102 rfl).trans ?_
          refine (sx_iconst (v := 1) dx_59_103 rfl).trans ?_
          refine (sx_v1v dx_59_104 ow_59 cx_2_59 oc_28 (Nat.le_of_ble_eq_true rfl)).trans ?_
          refine mj_bnd (fun q6 => ?_)
          exact sx_retv dx_59_107 rt_59
        · refine (sx_aload_n dx_59_66 rfl).trans ?_
          refine (sx_v0v dx_59_67 ow_59 cx_2_114 oc_28 (Nat.le_of_ble_eq_true rfl)).trans ?_
          refine mj_bnd (fun q7 => ?_)
          refine (sx_goto (tgt := 107) dx_59_70 (by decide)).trans ?_
          exact sx_retv dx_59_107 rt_59
    · refine (sx_ldcs dx_59_17 ow_59 kx_str).trans ?_
      refine (sx_iload_n dx_59_19 rfl).trans ?_
      refine (sx_i2c dx_59_20).trans ?_
      refine (sx_v1i dx_59_21 ow_59 cx_2_106 oc_73 (Nat.le_of_ble_eq_true rfl)).trans ?_
      refine mj_bnd (fun q8 => ?_)
      refine (sx_goto (tgt := 28) dx_59_24 (by decide)).trans ?_
      refine (sx_istore_n dx_59_28 (Nat.le_of_ble_eq_true rfl) rfl).trans ?_
      refine (sx_iload_n dx_59_29 rfl).trans ?_
      refine (sx_bipush (v := 91) dx_59_30 rfl).trans ?_
      refine (sx_icmp_ne (tgt := 59) dx_59_32 (by decide)).trans ?_
      refine mj_ite ?_ ?_
      · refine (sx_aload_n dx_59_35 rfl).trans ?_
        refine (sx_iload_n dx_59_36 rfl).trans ?_
        refine (sx_v1i dx_59_37 ow_59 cx_2_94 oc_28 (Nat.le_of_ble_eq_true rfl)).trans ?_
        refine mj_bnd (fun q9 => ?_)
        refine (sx_if_eq (tgt := 107) dx_59_40 (by decide)).trans ?_
        refine mj_ite ?_ ?_
        · exact sx_retv dx_59_107 rt_59
        · refine (sx_aload_n dx_59_43 rfl).trans ?_
          refine (sx_iload_n dx_59_44 rfl).trans ?_
          refine (sx_iconst (v := 1) dx_59_45 rfl).trans ?_
          refine (sx_iadd dx_59_46).trans ?_
          refine (sx_v1v dx_59_47 ow_59 cx_2_65 oc_28 (Nat.le_of_ble_eq_true rfl)).trans ?_
          refine mj_bnd (fun q10 => ?_)
          refine (sx_aload_n dx_59_50 rfl).trans ?_
          refine (sx_bipush (v := 93) dx_59_51 rfl).trans ?_
          refine (sx_v1v dx_59_53 ow_59 cx_2_41 oc_28 (Nat.le_of_ble_eq_true rfl)).trans ?_
          refine mj_bnd (fun q11 => ?_)
          refine (sx_goto (tgt := 107) dx_59_56 (by decide)).trans ?_
          exact sx_retv dx_59_107 rt_59
      · refine (sx_iload_n dx_59_59 rfl).trans ?_
        refine (sx_s1i dx_59_60 ow_59 cx_2_111 (Nat.le_of_ble_eq_true rfl)).trans ?_
        refine mj_bnd (fun q12 => ?_)
        refine (sx_if_eq (tgt := 73) dx_59_63 (by decide)).trans ?_
        refine mj_ite ?_ ?_
        · refine (sx_iload_n dx_59_73 rfl).trans ?_
          refine (sx_if_lt (tgt := 102) dx_59_74 (by decide)).trans ?_
          refine mj_ite ?_ ?_
          · refine (sx_aload_n dx_59_102 rfl).trans ?_
            refine (sx_iconst (v := 1) dx_59_103 rfl).trans ?_
            refine (sx_v1v dx_59_104 ow_59 cx_2_59 oc_28 (Nat.le_of_ble_eq_true rfl)).trans ?_
            refine mj_bnd (fun q13 => ?_)
            exact sx_retv dx_59_107 rt_59
          · refine (sx_aload_n dx_59_77 rfl).trans ?_
            refine (sx_dupa dx_59_78).trans ?_
            refine (sx_gfi dx_59_79 ow_59 fx_2_26 (by decide) oc_28).trans ?_
            refine (sx_iconst (v := 1) dx_59_82 rfl).trans ?_
            refine (sx_iadd dx_59_83).trans ?_
            refine (sx_pfi dx_59_84 ow_59 fx_2_26 oc_28).trans ?_
            refine (sx_aload_n dx_59_87 rfl).trans ?_
            refine (sx_gfl dx_59_88 ow_59 fx_2_12 oc_28).trans ?_
            refine (sx_sipush (v := 256) dx_59_91 rfl).trans ?_
            refine (sx_iload_n dx_59_94 rfl).trans ?_
            refine (sx_iadd dx_59_95).trans ?_
            refine (sx_v1v dx_59_96 ow_59 cx_2_68 (oc_lw _) (Nat.le_of_ble_eq_true rfl)).trans ?_
            refine mj_bnd (fun q14 => ?_)
            refine (sx_goto (tgt := 107) dx_59_99 (by decide)).trans ?_
            exact sx_retv dx_59_107 rt_59
        · refine (sx_aload_n dx_59_66 rfl).trans ?_
          refine (sx_v0v dx_59_67 ow_59 cx_2_114 oc_28 (Nat.le_of_ble_eq_true rfl)).trans ?_
          refine mj_bnd (fun q15 => ?_)
          refine (sx_goto (tgt := 107) dx_59_70 (by decide)).trans ?_
          exact sx_retv dx_59_107 rt_59
  · exact sx_retv dx_59_7 rt_59
theorem dx_60_0 : mj_at 60 0 = some (.iconst 0) := by decide +kernel
theorem dx_60_1 : mj_at 60 1 = some (.istore_n 1) := by decide +kernel
theorem dx_60_2 : mj_at 60 2 = some (.iconst 0) := by decide +kernel
theorem dx_60_3 : mj_at 60 3 = some (.istore_n 2) := by decide +kernel
theorem dx_60_4 : mj_at 60 4 = some (.iload_n 2) := by decide +kernel
theorem dx_60_5 : mj_at 60 5 = some (.iconst 5) := by decide +kernel
theorem dx_60_6 : mj_at 60 6 = some (.if_icmp .ge 42) := by decide +kernel
theorem dx_60_9 : mj_at 60 9 = some (.aload_n 0) := by decide +kernel
theorem dx_60_10 : mj_at 60 10 = some (.invokevirtual 51) := by decide +kernel
theorem dx_60_13 : mj_at 60 13 = some (.invokestatic 111) := by decide +kernel
theorem dx_60_16 : mj_at 60 16 = some (.ifCond .eq 32) := by decide +kernel
theorem dx_60_19 : mj_at 60 19 = some (.bipush 10) := by decide +kernel
theorem dx_60_21 : mj_at 60 21 = some (.iload_n 1) := by decide +kernel
theorem dx_60_22 : mj_at 60 22 = some (.imul) := by decide +kernel
theorem dx_60_23 : mj_at 60 23 = some (.aload_n 0) := by decide +kernel
theorem dx_60_24 : mj_at 60 24 = some (.invokevirtual 51) := by decide +kernel
theorem dx_60_27 : mj_at 60 27 = some (.iadd) := by decide +kernel
theorem dx_60_28 : mj_at 60 28 = some (.bipush 48) := by decide +kernel
theorem dx_60_30 : mj_at 60 30 = some (.isub) := by decide +kernel
theorem dx_60_31 : mj_at 60 31 = some (.istore_n 1) := by decide +kernel
theorem dx_60_32 : mj_at 60 32 = some (.aload_n 0) := by decide +kernel
theorem dx_60_33 : mj_at 60 33 = some (.dup) := by decide +kernel
theorem dx_60_34 : mj_at 60 34 = some (.getfield 26) := by decide +kernel
theorem dx_60_37 : mj_at 60 37 = some (.iconst 1) := by decide +kernel
theorem dx_60_38 : mj_at 60 38 = some (.iadd) := by decide +kernel
theorem dx_60_39 : mj_at 60 39 = some (.putfield 26) := by decide +kernel
theorem dx_60_42 : mj_at 60 42 = some (.iinc 2 1) := by decide +kernel
theorem dx_60_45 : mj_at 60 45 = some (.goto (-41)) := by decide +kernel
theorem dx_60_48 : mj_at 60 48 = some (.aload_n 0) := by decide +kernel
theorem dx_60_49 : mj_at 60 49 = some (.invokevirtual 51) := by decide +kernel
theorem dx_60_52 : mj_at 60 52 = some (.invokestatic 111) := by decide +kernel
theorem dx_60_55 : mj_at 60 55 = some (.ifCond .eq 8) := by decide +kernel
theorem dx_60_58 : mj_at 60 58 = some (.aload_n 0) := by decide +kernel
theorem dx_60_59 : mj_at 60 59 = some (.iconst 2) := by decide +kernel
theorem dx_60_60 : mj_at 60 60 = some (.invokevirtual 59) := by decide +kernel
theorem dx_60_63 : mj_at 60 63 = some (.aload_n 0) := by decide +kernel
theorem dx_60_64 : mj_at 60 64 = some (.getfield 12) := by decide +kernel
theorem dx_60_67 : mj_at 60 67 = some (.sipush 265) := by decide +kernel
theorem dx_60_70 : mj_at 60 70 = some (.iload_n 1) := by decide +kernel
theorem dx_60_71 : mj_at 60 71 = some (.iadd) := by decide +kernel
theorem dx_60_72 : mj_at 60 72 = some (.invokevirtual 68) := by decide +kernel
theorem dx_60_75 : mj_at 60 75 = some (.return_) := by decide +kernel
set_option maxRecDepth 10000 in
theorem b_X4_readNumber {sl d : Nat} {M : mj_M}   : mj_C sl (d + 1) 60 [.ref 28] M = mj_E sl (d + 1) 60 4 [.ref 28, .int 0, .int 0] [] M := by
  show mj_E sl (d + 1) 60 0 [.ref 28, .null, .null] [] M = _
  refine (sx_iconst (v := 0) dx_60_0 rfl).trans ?_
  refine (sx_istore_n dx_60_1 (Nat.le_of_ble_eq_true rfl) rfl).trans ?_
  refine (sx_iconst (v := 0) dx_60_2 rfl).trans ?_
  refine (sx_istore_n dx_60_3 (Nat.le_of_ble_eq_true rfl) rfl).trans ?_
  rfl
set_option maxRecDepth 10000 in
theorem b_X4_readNumber_4 {sl d : Nat} {M : mj_M} {y1 : Int32} {y2 : Int32}  : mj_E sl (d + 1) 60 4 [.ref 28, .int y1, .int y2] [] M = if y2 < 5 then ((mj_C sl d 48 [.ref 28] M).bind (fun q1 => (mj_C sl d 61 [.int q1.1] q1.2).bind (fun q2 => if q2.1 = 0 then ((mj_C sl d 48 [.ref 28] q2.2).bind (fun q3 => (mj_C sl d 61 [.int q3.1] q3.2).bind (fun q4 => if q4.1 = 0 then ((mj_C sl d 42 [.ref (mj_lw (q4.2 28 1)), .int ((265 : Int32) + y1)] q4.2).bind (fun q5 => some ((0 : Int32), q5.2))) else ((mj_C sl d 50 [.ref 28, .int 2] q4.2).bind (fun q6 => (mj_C sl d 42 [.ref (mj_lw (q6.2 28 1)), .int ((265 : Int32) + y1)] q6.2).bind (fun q7 => some ((0 : Int32), q7.2))))))) else ((mj_C sl d 48 [.ref 28] q2.2).bind (fun q8 => mj_E sl (d + 1) 60 4 [.ref 28, .int ((((10 : Int32) * y1) + q8.1) - 48), .int (y2 + 1)] [] (mj_st q8.2 28 3 ((q8.2 28 3) + 1))))))) else ((mj_C sl d 48 [.ref 28] M).bind (fun q9 => (mj_C sl d 61 [.int q9.1] q9.2).bind (fun q10 => if q10.1 = 0 then ((mj_C sl d 42 [.ref (mj_lw (q10.2 28 1)), .int ((265 : Int32) + y1)] q10.2).bind (fun q11 => some ((0 : Int32), q11.2))) else ((mj_C sl d 50 [.ref 28, .int 2] q10.2).bind (fun q12 => (mj_C sl d 42 [.ref (mj_lw (q12.2 28 1)), .int ((265 : Int32) + y1)] q12.2).bind (fun q13 => some ((0 : Int32), q13.2))))))) := by
  refine (sx_iload_n dx_60_4 rfl).trans ?_
  refine (sx_iconst (v := 5) dx_60_5 rfl).trans ?_
  refine (sx_icmp_ge (tgt := 48) dx_60_6 (by decide)).trans ?_
  refine mj_ite ?_ ?_
  · refine (sx_aload_n dx_60_9 rfl).trans ?_
    refine (sx_v0i dx_60_10 ow_60 cx_2_51 oc_28 (Nat.le_of_ble_eq_true rfl)).trans ?_
    refine mj_bnd (fun q1 => ?_)
    refine (sx_s1i dx_60_13 ow_60 cx_2_111 (Nat.le_of_ble_eq_true rfl)).trans ?_
    refine mj_bnd (fun q2 => ?_)
    refine (sx_if_eq (tgt := 48) dx_60_16 (by decide)).trans ?_
    refine mj_ite ?_ ?_
    · refine (sx_aload_n dx_60_48 rfl).trans ?_
      refine (sx_v0i dx_60_49 ow_60 cx_2_51 oc_28 (Nat.le_of_ble_eq_true rfl)).trans ?_
      refine mj_bnd (fun q3 => ?_)
      refine (sx_s1i dx_60_52 ow_60 cx_2_111 (Nat.le_of_ble_eq_true rfl)).trans ?_
      refine mj_bnd (fun q4 => ?_)
      refine (sx_if_eq (tgt := 63) dx_60_55 (by decide)).trans ?_
      refine mj_ite ?_ ?_
      · refine (sx_aload_n dx_60_63 rfl).trans ?_
        refine (sx_gfl dx_60_64 ow_60 fx_2_12 oc_28).trans ?_
        refine (sx_sipush (v := 265) dx_60_67 rfl).trans ?_
        refine (sx_iload_n dx_60_70 rfl).trans ?_
        refine (sx_iadd dx_60_71).trans ?_
        refine (sx_v1v dx_60_72 ow_60 cx_2_68 (oc_lw _) (Nat.le_of_ble_eq_true rfl)).trans ?_
        refine mj_bnd (fun q5 => ?_)
        exact sx_retv dx_60_75 rt_60
      · refine (sx_aload_n dx_60_58 rfl).trans ?_
        refine (sx_iconst (v := 2) dx_60_59 rfl).trans ?_
        refine (sx_v1v dx_60_60 ow_60 cx_2_59 oc_28 (Nat.le_of_ble_eq_true rfl)).trans ?_
        refine mj_bnd (fun q6 => ?_)
        refine (sx_aload_n dx_60_63 rfl).trans ?_
        refine (sx_gfl dx_60_64 ow_60 fx_2_12 oc_28).trans ?_
        refine (sx_sipush (v := 265) dx_60_67 rfl).trans ?_
        refine (sx_iload_n dx_60_70 rfl).trans ?_
        refine (sx_iadd dx_60_71).trans ?_
        refine (sx_v1v dx_60_72 ow_60 cx_2_68 (oc_lw _) (Nat.le_of_ble_eq_true rfl)).trans ?_
        refine mj_bnd (fun q7 => ?_)
        exact sx_retv dx_60_75 rt_60
    · refine (sx_bipush (v := 10) dx_60_19 rfl).trans ?_
      refine (sx_iload_n dx_60_21 rfl).trans ?_
      refine (sx_imul dx_60_22).trans ?_
      refine (sx_aload_n dx_60_23 rfl).trans ?_
      refine (sx_v0i dx_60_24 ow_60 cx_2_51 oc_28 (Nat.le_of_ble_eq_true rfl)).trans ?_
      refine mj_bnd (fun q8 => ?_)
      refine (sx_iadd dx_60_27).trans ?_
      refine (sx_bipush (v := 48) dx_60_28 rfl).trans ?_
      refine (sx_isub dx_60_30).trans ?_
      refine (sx_istore_n dx_60_31 (Nat.le_of_ble_eq_true rfl) rfl).trans ?_
      refine (sx_aload_n dx_60_32 rfl).trans ?_
      refine (sx_dupa dx_60_33).trans ?_
      refine (sx_gfi dx_60_34 ow_60 fx_2_26 (by decide) oc_28).trans ?_
      refine (sx_iconst (v := 1) dx_60_37 rfl).trans ?_
      refine (sx_iadd dx_60_38).trans ?_
      refine (sx_pfi dx_60_39 ow_60 fx_2_26 oc_28).trans ?_
      refine (sx_iinc (v := 1) dx_60_42 rfl rfl rfl).trans ?_
      refine (sx_goto (tgt := 4) dx_60_45 (by decide)).trans ?_
      rfl
  · refine (sx_aload_n dx_60_48 rfl).trans ?_
    refine (sx_v0i dx_60_49 ow_60 cx_2_51 oc_28 (Nat.le_of_ble_eq_true rfl)).trans ?_
    refine mj_bnd (fun q9 => ?_)
    refine (sx_s1i dx_60_52 ow_60 cx_2_111 (Nat.le_of_ble_eq_true rfl)).trans ?_
    refine mj_bnd (fun q10 => ?_)
    refine (sx_if_eq (tgt := 63) dx_60_55 (by decide)).trans ?_
    refine mj_ite ?_ ?_
    · refine (sx_aload_n dx_60_63 rfl).trans ?_
      refine (sx_gfl dx_60_64 ow_60 fx_2_12 oc_28).trans ?_
      refine (sx_sipush (v := 265) dx_60_67 rfl).trans ?_
      refine (sx_iload_n dx_60_70 rfl).trans ?_
      refine (sx_iadd dx_60_71).trans ?_
      refine (sx_v1v dx_60_72 ow_60 cx_2_68 (oc_lw _) (Nat.le_of_ble_eq_true rfl)).trans ?_
      refine mj_bnd (fun q11 => ?_)
      exact sx_retv dx_60_75 rt_60
    · refine (sx_aload_n dx_60_58 rfl).trans ?_
      refine (sx_iconst (v := 2) dx_60_59 rfl).trans ?_
      refine (sx_v1v dx_60_60 ow_60 cx_2_59 oc_28 (Nat.le_of_ble_eq_true rfl)).trans ?_
      refine mj_bnd (fun q12 => ?_)
      refine (sx_aload_n dx_60_63 rfl).trans ?_
      refine (sx_gfl dx_60_64 ow_60 fx_2_12 oc_28).trans ?_
      refine (sx_sipush (v := 265) dx_60_67 rfl).trans ?_
      refine (sx_iload_n dx_60_70 rfl).trans ?_
      refine (sx_iadd dx_60_71).trans ?_
      refine (sx_v1v dx_60_72 ow_60 cx_2_68 (oc_lw _) (Nat.le_of_ble_eq_true rfl)).trans ?_
      refine mj_bnd (fun q13 => ?_)
      exact sx_retv dx_60_75 rt_60
theorem dx_61_0 : mj_at 61 0 = some (.iload_n 0) := by decide +kernel
theorem dx_61_1 : mj_at 61 1 = some (.bipush 48) := by decide +kernel
theorem dx_61_3 : mj_at 61 3 = some (.if_icmp .lt 13) := by decide +kernel
theorem dx_61_6 : mj_at 61 6 = some (.iload_n 0) := by decide +kernel
theorem dx_61_7 : mj_at 61 7 = some (.bipush 57) := by decide +kernel
theorem dx_61_9 : mj_at 61 9 = some (.if_icmp .gt 7) := by decide +kernel
theorem dx_61_12 : mj_at 61 12 = some (.iconst 1) := by decide +kernel
theorem dx_61_13 : mj_at 61 13 = some (.goto 4) := by decide +kernel
theorem dx_61_16 : mj_at 61 16 = some (.iconst 0) := by decide +kernel
theorem dx_61_17 : mj_at 61 17 = some (.ireturn) := by decide +kernel
set_option maxRecDepth 10000 in
theorem b_X4_isDigit {sl d : Nat} {M : mj_M} {x1 : Int32}  : mj_C sl d 61 [.int x1] M = if x1 < 48 then (some ((0 : Int32), M)) else (if x1 ≤ 57 then (some ((1 : Int32), M)) else (some ((0 : Int32), M))) := by
  show mj_E sl d 61 0 [.int x1] [] M = _
  refine (sx_iload_n dx_61_0 rfl).trans ?_
  refine (sx_bipush (v := 48) dx_61_1 rfl).trans ?_
  refine (sx_icmp_lt (tgt := 16) dx_61_3 (by decide)).trans ?_
  refine mj_ite ?_ ?_
  · refine (sx_iconst (v := 0) dx_61_16 rfl).trans ?_
    exact sx_retz dx_61_17 rt_61 (by decide)
  · refine (sx_iload_n dx_61_6 rfl).trans ?_
    refine (sx_bipush (v := 57) dx_61_7 rfl).trans ?_
    refine (sx_icmp_gt (tgt := 16) dx_61_9 (by decide)).trans ?_
    refine mj_ite ?_ ?_
    · refine (sx_iconst (v := 1) dx_61_12 rfl).trans ?_
      refine (sx_goto (tgt := 17) dx_61_13 (by decide)).trans ?_
      exact sx_retz dx_61_17 rt_61 (by decide)
    · refine (sx_iconst (v := 0) dx_61_16 rfl).trans ?_
      exact sx_retz dx_61_17 rt_61 (by decide)
