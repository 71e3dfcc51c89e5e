theorem mj_cT_all {P : Nat × Nat × Nat × Nat × Nat → Bool} (hall : mj_cTab.all P = true) {k j kd y : Nat} (h : mj_cT k j = some (kd, y)) : ∃ pl, P (k, j, kd, y, pl) = true := by
  unfold mj_cT at h
  cases hf : mj_cTab.find? (fun e => e.1 == k && e.2.1 == j) with
  | none => rw [hf] at h; cases h
  | some e =>
    rw [hf] at h
    have h1 := List.find?_some hf
    have h2 := List.mem_of_find?_eq_some hf
    have h3 := List.all_eq_true.mp hall e h2
    obtain ⟨a, b, c, d, g⟩ := e
    simp only [Bool.and_eq_true, beq_iff_eq] at h1
    obtain ⟨rfl, rfl⟩ := h1
    cases h
    exact ⟨g, h3⟩
def mj_ck2 (e : Nat × Nat × Nat × Nat × Nat) : Bool := match mj_tab[e.2.2.2.1]? with
  | some me => decide (2 < e.2.2.1) || (decide (me.1 ≠ 10) && (if e.2.2.1 = 0 then decide (me.2.2.2.2.2.2.1 ≠ 100) else decide (me.2.2.2.2.2.2.1 = 100)))
  | none => false
theorem mj_ck2_ok : mj_cTab.all mj_ck2 = true := by decide +kernel
def mj_HC (l : Launch) (G : va_G) (ad : Nat → Nat) (cI cB : ClassId) (sl : Nat) (xs : Nat → Int32) (d' : Nat) : Prop :=
  ∀ (n y : Nat) (me : mj_I) (as : List Value) (M M' : mj_M) (r : Option Value), mj_tab[y]? = some me → me.1 ≠ 10 → mj_SK as → as.length = mj_nar me → mj_ex sl n d' y 0 (mj_ent y as) [] M = some (r, M') → M 72 = xs → M 74 = mj_bt → Met l me.2.2.2.2.1 (mj_wY me) (mj_rmD d') (mj_Pc G ad cI cB sl xs as M) (mj_Qc G ad cI cB r M') 0 0 (mj_A ad) ∧ M' 72 = xs ∧ M' 74 = mj_bt
section MJD
variable {p : Program} {l : Launch} {e : Env} {R : Room} {s : State} {m : MethodId} {args : Array Value} {below : List Frame} {meth : Method} {c : Code} {cells slots : Nat} {Q : State → Prop}
variable {G : va_G} {ad : Nat → Nat} {cI cB : ClassId} {sl : Nat} {xs : Nat → Int32} {id d : Nat}
theorem mj_stp_call {i : Instr} {sl d id pc y : Nat} {L st as rest : List Value} {M : mj_M} (hs : mj_stp sl d id i pc L st M = some (.inr (.inr (y, as, rest)))) (h1 : ∀ j, i ≠ .invokevirtual j) (h2 : ∀ j, i ≠ .invokestatic j) : False := by
  cases i
  case invokevirtual j => exact h1 j rfl
  case invokestatic j => exact h2 j rfl
  case getfield j =>
    simp only [mj_stp, mj_gf, mj_nx] at hs
    (repeat' split at hs) <;> first | (cases hs; done) | (simp at hs; done)
  case putfield j =>
    simp only [mj_stp, mj_pf, mj_nx] at hs
    (repeat' split at hs) <;> first | (cases hs; done) | (simp at hs; done)
  case tableswitch =>
    simp only [mj_stp, mj_tsw, mj_go, mj_nx] at hs
    (repeat' split at hs) <;> first | (cases hs; done) | (simp at hs; done)
  case lookupswitch =>
    simp only [mj_stp, mj_lsw, mj_go, mj_nx] at hs
    (repeat' split at hs) <;> first | (cases hs; done) | (simp at hs; done)
  case ireturn =>
    simp only [mj_stp, mj_rti] at hs
    (repeat' split at hs) <;> first | (cases hs; done) | (simp at hs; done)
  case areturn =>
    simp only [mj_stp, mj_rta] at hs
    (repeat' split at hs) <;> first | (cases hs; done) | (simp at hs; done)
  case return_ =>
    simp only [mj_stp, mj_rtv] at hs
    (repeat' split at hs) <;> first | (cases hs; done) | (simp at hs; done)
  all_goals (simp only [mj_stp, mj_ldc, mj_ldi, mj_lda, mj_sti, mj_sta, mj_dup, mj_dup2, mj_bin, mj_dv, mj_un, mj_go, mj_icmp, mj_ifc, mj_br, mj_ild, mj_ist, mj_bld, mj_bst, mj_aln, mj_gs, mj_nx] at hs)
  all_goals first | (cases hs; done) | (simp at hs; done) | ((repeat' split at hs) <;> first | (cases hs; done) | (simp at hs; done))
theorem mj_preS {H : Heap} {locs : List Loc} {as : List Value} {M : mj_M} (C : mj_Cx G ad cI cB sl xs id p s m args c) (hW : mj_Wh G ad cI cB xs s M H locs) : ∀ U : State, U.heap = H → s.WarmedH U.vm → mj_Pc G ad cI cB sl xs as M (as.map (mj_tr ad)).toArray U := by
  obtain ⟨hx, hts, hK, hO, hV, hinj, me, hm, hb, hml, hown⟩ := C
  intro U hU hWm
  refine ⟨rfl, by rw [hU]; exact hW.1, va_K.moved hWm.alike hK, ?_, mj_Vm.warm hWm hV⟩
  rw [hU]
  exact mj_Out.moved hWm.alike (hO.kept hW.2.1.2.1)
theorem mj_drop {st rest : List Value} {n b : Nat} (h : st.drop n = .ref b :: rest) : (st.take n).length = n ∧ st = st.take n ++ .ref b :: rest := by
  have h1 : n < st.length := by
    rcases Nat.lt_or_ge n st.length with q | q
    · exact q
    · rw [List.drop_eq_nil_of_le q] at h; cases h
  refine ⟨by rw [List.length_take]; omega, ?_⟩
  rw [← h, List.take_append_drop]
set_option maxHeartbeats 4000000 in
theorem mj_call {i : Instr} {d' pc y n : Nat} {L st as rest : List Value} {M M1 : mj_M} {r : Option Value} (C : mj_Cx G ad cI cB sl xs id p s m args c) (hR : d' + 1 ≤ R.frames ∧ 40 * (d' + 1) ≤ R.locals ∧ cells ≤ R.cells ∧ slots ≤ R.slots) (HC : mj_HC l G ad cI cB sl xs d') (h : mj_at id pc = some i) (hs : mj_stp sl (d' + 1) id i pc L st M = some (.inr (.inr (y, as, rest)))) (hc : mj_ex sl n d' y 0 (mj_ent y as) [] M = some (r, M1)) (hk : mj_Go p l e R s m args below meth c cells slots Q G ad cI cB xs (pc + 3) L (r.toList ++ rest) M1) : mj_Go p l e R s m args below meth c cells slots Q G ad cI cB xs pc L st M := by
  intro ls H locs hL hst hW
  have C2 := C
  obtain ⟨hx, hts, hK, hO, hV, hinj, me0, hm0, hb, hml, hown⟩ := C2
  have hW2 := hW
  obtain ⟨hP, hS, hro1, hro2⟩ := hW2
  obtain ⟨nd, hdg, hn⟩ := mj_at_spec h hm0
  have hrok : mj_SK r.toList := mj_rok_ok (mj_ex_ret _ _ _ _ _ _ _ _ hc)
  cases i
  case invokevirtual j =>
    obtain rfl := mj_nk hn (k := 3) rfl (by decide)
    have hs : mj_ivv (mj_own id) j st = _ := hs
    unfold mj_ivv at hs
    rw [mj_own_eq hm0] at hs
    split at hs
    · next kd y' hct =>
      split at hs
      · next hkd =>
        subst hkd
        unfold mj_vcl at hs
        split at hs
        · next me hm =>
          split at hs
          · next b rest' hdr =>
            split at hs
            · next hq =>
              cases hs
              obtain ⟨hoc, hrl⟩ := hq
              obtain ⟨d1, d2⟩ := mj_drop hdr
              obtain ⟨pl, hck⟩ := mj_cT_spec hct
              unfold mj_cck at hck
              dsimp only at hck
              rw [if_neg (show ¬ (0 : Nat) = 5 by decide), if_neg (show ¬ (0 : Nat) = 6 by decide), if_neg (show ¬ (0 : Nat) = 3 by decide), hm] at hck
              dsimp only at hck
              rw [if_neg (show ¬ (0 : Nat) = 2 by decide)] at hck
              have hw := mj_w0_in pl (of_decide_eq_true hck) rfl
              have hrv : me.2.2.2.2.2.2.1 < 8 ∨ me.2.2.2.2.2.2.1 = 14 ∨ me.2.2.2.2.2.2.1 = 100 := by
                rw [← hoc]
                rcases Nat.lt_or_ge b 75 with q | q
                · exact mj_ocl_vals b q
                · refine Or.inr (Or.inr ?_)
                  unfold mj_ocl
                  rw [List.getD_eq_getElem?_getD, List.getElem?_eq_none (by exact q)]
                  rfl
              obtain ⟨pl2, hck2⟩ := mj_cT_all mj_ck2_ok hct
              unfold mj_ck2 at hck2
              dsimp only at hck2
              rw [hm] at hck2
              simp only [Bool.and_eq_true, Bool.or_eq_true, decide_eq_true_eq, if_pos] at hck2
              obtain ⟨h10, h100⟩ := hck2.resolve_left (by omega)
              obtain ⟨a1, a2, a3, a4, a5, a6, a7, a8, a9, a10, a11⟩ := mj_mck_spec hm h10
              obtain ⟨i1, i2, i3⟩ := a10 h100
              have hsk : mj_SK (.ref b :: (st.take me.2.2.2.2.2.1).reverse) := by
                refine mj_SK.r (fun v hv => hst v ?_)
                exact List.mem_of_mem_take (List.mem_reverse.mp hv)
              have hlen : (Value.ref b :: (st.take me.2.2.2.2.2.1).reverse).length = mj_nar me := by
                unfold mj_nar
                rw [if_neg h100, List.length_cons, List.length_reverse, d1]
              obtain ⟨hM, k72, k74⟩ := HC n y me _ M M1 r hm h10 hsk hlen hc hro1 hro2
              have hcw : CallW R s args (mj_cn me0.1) me.2.2.2.2.1.cls j me.2.2.2.2.1 me.2.1 me.2.2.1 me.2.2.2.1 (mj_wY me) (mj_rmD d') 0 0 me.2.2.2.2.2.1 := ⟨mj_callB hts hm h10 ⟨hR.1, hR.2.1⟩ hw, hts _ i1, hts _ i2⟩
              have hrecv : ∃ cellB : Cell, H[ad b]? = some cellB ∧ cellB.vm.isStatics = false ∧ s.vm.findClass me.2.2.2.2.1.cls = some cellB.cls := by
                rcases hrv with z | z | z
                · obtain ⟨q, hq1, hq2⟩ := mj_cl_name z
                  obtain ⟨b72, -, -⟩ := mj_obj hoc z
                  have := va_recv hK hP hq1 (by rw [mj_ws_get b72, mj_cel_o hoc z])
                  rw [hq2, i3, ← a1] at this
                  exact this
                · rw [z] at hoc
                  obtain rfl := mj_str hoc
                  obtain ⟨cell, q1, q2, q3, -⟩ := hO.2.1.kept hS.2.1
                  refine ⟨cell, q1, q2, ?_⟩
                  rw [a1, ← i3, z]
                  exact q3
                · exact absurd z h100
              refine mj_cont (st0 := st.map (mj_tr ad)) (va_runV (b := ad b) (As := ((st.take me.2.2.2.2.2.1).reverse).map (mj_tr ad)) ⟨hx, hb, rfl, hown, hts⟩ hM hcw ⟨mj_blind, hrecv, mj_preS (as := .ref b :: (st.take me.2.2.2.2.2.1).reverse) C hW⟩ rfl (by rw [List.length_map, List.length_reverse, d1]) hL.1 ?_ (lv_room (by rw [mj_sum (fun v hv => hst v (by rw [d2]; exact List.mem_append_right _ (List.mem_cons_of_mem _ hv)))]; exact hrl)) hdg ⟨hR.2.2.1, hR.2.2.2⟩) hS hL (hrok.app (fun v hv => hst v (by rw [d2]; exact List.mem_append_right _ (List.mem_cons_of_mem _ hv)))) k72 k74 hk
              show st.map (mj_tr ad) = _
              rw [← List.map_reverse, List.reverse_reverse]
              conv => lhs; rw [d2]
              rw [List.map_append, List.map_cons]
              rfl
            · cases hs
          · cases hs
        · cases hs
      · cases hs
    · cases hs
  case invokestatic j =>
    obtain rfl := mj_nk hn (k := 3) rfl (by decide)
    have hs : mj_ivs (d' + 1) (mj_own id) j pc L st M = _ := hs
    unfold mj_ivs at hs
    rw [mj_own_eq hm0] at hs
    split at hs
    · next kd y' hct =>
      split at hs
      · next hkd =>
        unfold mj_scl at hs
        split at hs
        · next me hm =>
          split at hs
          · next hq =>
            cases hs
            obtain ⟨hle, hrl, hrc⟩ := hq
            obtain ⟨pl2, hck2⟩ := mj_cT_all mj_ck2_ok hct
            unfold mj_ck2 at hck2
            dsimp only at hck2
            rw [hm] at hck2
            simp only [Bool.and_eq_true, Bool.or_eq_true, decide_eq_true_eq] at hck2
            obtain ⟨h10, -⟩ := hck2.resolve_left (by omega)
            obtain ⟨a1, a2, a3, a4, a5, a6, a7, a8, a9, a10, a11⟩ := mj_mck_spec hm h10
            have d1 : (st.take me.2.2.2.2.2.1).length = me.2.2.2.2.2.1 := by rw [List.length_take]; omega
            have hsk : mj_SK (st.take me.2.2.2.2.2.1).reverse := fun v hv => hst v (List.mem_of_mem_take (List.mem_reverse.mp hv))
            have hsk2 : mj_SK (st.drop me.2.2.2.2.2.1) := fun v hv => hst v (List.mem_of_mem_drop hv)
            have hlen : (st.take me.2.2.2.2.2.1).reverse.length = mj_nar me := by
              unfold mj_nar
              rw [if_pos hrc, List.length_reverse, d1]
            obtain ⟨hM, k72, k74⟩ := HC n y me _ M M1 r hm h10 hsk hlen hc hro1 hro2
            have hstk : st.map (mj_tr ad) = (((st.take me.2.2.2.2.2.1).reverse).map (mj_tr ad)).reverse ++ (st.drop me.2.2.2.2.2.1).map (mj_tr ad) := by
              rw [← List.map_reverse, List.reverse_reverse, ← List.map_append, List.take_append_drop]
            obtain ⟨pl, hck⟩ := mj_cT_spec hct
            unfold mj_cck at hck
            dsimp only at hck
            rw [if_neg (by omega), if_neg (by omega), if_neg (by omega), hm] at hck
            dsimp only at hck
            rcases hkd with hkd | hkd
            · rw [if_neg (by omega)] at hck
              have hw := mj_w0_in pl (of_decide_eq_true hck) rfl
              exact mj_cont (st0 := st.map (mj_tr ad)) (va_runS (As := ((st.take me.2.2.2.2.2.1).reverse).map (mj_tr ad)) ⟨hx, hb, rfl, hown, hts⟩ hM ⟨mj_callB hts hm h10 ⟨hR.1, hR.2.1⟩ hw, hts _ (a9 hrc)⟩ ⟨mj_blind, mj_preS (as := (st.take me.2.2.2.2.2.1).reverse) C hW⟩ rfl (by rw [List.length_map, List.length_reverse, d1]) hL.1 hstk (lv_room (by rw [mj_sum hsk2]; exact hrl)) hdg ⟨hR.2.2.1, hR.2.2.2⟩) hS hL (hrok.app hsk2) k72 k74 hk
            · rw [if_pos hkd] at hck
              simp only [Bool.and_eq_true, decide_eq_true_eq] at hck
              obtain ⟨⟨hl1, hl2⟩, hl3⟩ := hck
              have hnw : va_Nw (.methodLinkNest (mj_cn me0.1) j me.2.2.2.2.1 "CourtHand") s := by
                rw [hl2]
                rcases hl3 with ⟨z1, z2⟩ | ⟨z1, z2⟩ | ⟨z1, z2⟩
                · rw [z1, z2]; exact hV.1
                · rw [z1, z2]; exact hV.2.1
                · rw [z1, z2]; exact hV.2.2.1
              have hcn : va_CN R s args (mj_cn me0.1) j me.2.2.2.2.1 "CourtHand" me.2.1 me.2.2.1 me.2.2.2.1 (mj_wY me) (mj_rmD d') 0 0 me.2.2.2.2.2.1 := by
                refine ⟨⟨rfl, rfl, hR.1, ?_, ?_, List.mem_cons_self⟩, hts _ a8, hts _ a11, ⟨a5, a6⟩, ?_, va_Nw.use rfl hnw⟩
                · show 8 + (me.2.2.1 + 11) + 40 * d' ≤ R.locals
                  omega
                · intro w hw2
                  rcases List.mem_cons.mp hw2 with z | z
                  · rw [z]; exact mj_w_warm hts a8
                  · exact mj_w_warm hts z
                · intro sig hsig
                  rw [hsig] at a3
                  exact (Option.some.inj a3).symm
              exact mj_cont (st0 := st.map (mj_tr ad)) (va_runSN (As := ((st.take me.2.2.2.2.2.1).reverse).map (mj_tr ad)) ⟨hx, hb, rfl, hown, hts⟩ hM ⟨hcn, hts _ (a9 hrc), trivial⟩ ⟨mj_blind, mj_preS (as := (st.take me.2.2.2.2.2.1).reverse) C hW⟩ rfl (by rw [List.length_map, List.length_reverse, d1]) hL.1 hstk (lv_room (by rw [mj_sum hsk2]; exact hrl)) hdg ⟨hR.2.2.1, hR.2.2.2⟩) hS hL (hrok.app hsk2) k72 k74 hk
          · cases hs
        · cases hs
      · split at hs
        · unfold mj_acp mj_nx at hs
          (repeat' split at hs) <;> cases hs
        · split at hs
          · unfold mj_mth mj_nx at hs
            (repeat' split at hs) <;> cases hs
          · split at hs
            · unfold mj_mth mj_nx at hs
              (repeat' split at hs) <;> cases hs
            · cases hs
    · cases hs
  all_goals (exfalso; exact mj_stp_call hs (by intro j z; cases z) (by intro j z; cases z))
end MJD
