def mj_Cx (G : va_G) (ad : Nat → Nat) (cI cB : ClassId) (sl : Nat) (xs : Nat → Int32) (id : Nat) (p : Program) (s : State) (m : MethodId) (args : Array Value) (c : Code) : Prop :=
  p.tables.exec = Jvm.exec ∧ (∀ w ∈ mj_w0, w.before args s = true) ∧ va_K G mj_cl [(cI, .int), (cB, .byte)] s ∧ mj_Out ad sl xs (mj_A ad) s s.heap ∧ mj_Vm ad s ∧ (∀ i j, i < 72 → j < 72 → ad i = ad j → i = j) ∧ ∃ me, mj_tab[id]? = some me ∧ c.code = me.2.1 ∧ c.maxLocals = me.2.2.1 ∧ s.vm.findClass (mj_cn me.1) = some m.cls
def mj_Wh (G : va_G) (ad : Nat → Nat) (cI cB : ClassId) (xs : Nat → Int32) (s : State) (M : mj_M) (H : Heap) (locs : List Loc) : Prop := va_P G mj_cl (mj_ws ad cI cB M) H ∧ va_S (mj_A ad) s.heap H locs ∧ M 72 = xs ∧ M 74 = mj_bt
def mj_Go (p : Program) (l : Launch) (e : Env) (R : Room) (s : State) (m : MethodId) (args : Array Value) (below : List Frame) (meth : Method) (c : Code) (cells slots : Nat) (Q : State → Prop) (G : va_G) (ad : Nat → Nat) (cI cB : ClassId) (xs : Nat → Int32) (pc : Nat) (L st : List Value) (M : mj_M) : Prop :=
  ∀ (ls : Array Slot) (H : Heap) (locs : List Loc), mj_LR ad ls c.maxLocals L → mj_SK st → mj_Wh G ad cI cB xs s M H locs → W p l e R s m args below meth c H locs cells slots Q (F0 m pc ls (st.map (mj_tr ad)))
theorem mj_at_spec {id pc : Nat} {i : Instr} {me : mj_I} (h : mj_at id pc = some i) (hm : mj_tab[id]? = some me) : ∃ n, decode me.2.1 pc = .ok (i, n) ∧ (mj_sl i = 0 ∨ mj_sl i = n) := by
  unfold mj_at at h
  rw [hm] at h
  dsimp only at h
  split at h
  · next i' n hd =>
    split at h
    · next hc => cases h; exact ⟨n, hd, hc⟩
    · cases h
  · cases h
theorem mj_nk {i : Instr} {n k : Nat} (hn : mj_sl i = 0 ∨ mj_sl i = n) (h : mj_sl i = k) (hk : k ≠ 0) : n = k := by omega
theorem mj_inB_iff {i : Int32} {n : Nat} (h : mj_inB i n = true) : vp_in i n := by
  unfold mj_inB at h
  intro z
  rcases z with z | z
  · simp [z] at h
  · simp [z] at h
theorem mj_own_eq {id : Nat} {me : mj_I} (hm : mj_tab[id]? = some me) : mj_own id = me.1 := by
  unfold mj_own
  rw [hm]
theorem mj_fT_spec {k j ci sl kd : Nat} (h : mj_fT k j = some (ci, sl, kd)) : ∃ pl, mj_fck (k, j, ci, sl, kd, pl) = true := by
  unfold mj_fT at h
  cases hf : mj_fTab.find? (fun e => e.1 == k && e.2.1 == j) with
  | none => rw [hf] at h; cases h
  | some e =>
    rw [hf] at h
    have h1 := List.find?_some hf
    have h2 := List.mem_of_find?_eq_some hf
    have h3 := List.all_eq_true.mp mj_f_ok e h2
    obtain ⟨a, b, c, d, f, g⟩ := e
    simp only [Bool.and_eq_true, beq_iff_eq] at h1
    obtain ⟨rfl, rfl⟩ := h1
    cases h
    exact ⟨g, h3⟩
theorem mj_fT_obj {k j ci sl kd : Nat} (h : mj_fT k j = some (ci, sl, kd)) (hc : ci ≠ 14) : ∃ q, mj_cl[ci]? = some q ∧ sl < q.2.2 ∧ .fieldLink (mj_cn k) j q.1 (q.2.1 sl).2.1 (q.2.1 sl).2.2.1 ∈ mj_w0 ∧ (q.2.1 sl).1 = q.1 ∧ kd = mj_fk ci sl ∧ (kd = 1 ∨ (q.2.1 sl).2.2.2 = false) ∧ (kd = 0 → mj_tyC ci sl = .int) ∧ (kd = 3 → mj_tyC ci sl = .boolean) ∧ (kd = 2 → mj_tyC ci sl = .object "CourtHand$Law") ∧ kd ≤ 3 ∧ ci < 8 := by
  obtain ⟨pl, h1⟩ := mj_fT_spec h
  unfold mj_fck at h1
  dsimp only at h1
  split at h1
  · next q hq =>
    simp only [Bool.and_eq_true, Bool.or_eq_true, decide_eq_true_eq, Bool.not_eq_true'] at h1
    obtain ⟨⟨⟨⟨⟨⟨⟨⟨⟨a1, a2⟩, a3⟩, a4⟩, a5⟩, a6⟩, a7⟩, a8⟩, a9⟩, a10⟩ := h1
    exact ⟨q, hq, a1, mj_w0_in pl a2 rfl, a3, a4, a5, fun z => a6.resolve_left (fun y => y z), fun z => a7.resolve_left (fun y => y z), fun z => a8.resolve_left (fun y => y z), a9, a10⟩
  · simp only [Bool.and_eq_true, decide_eq_true_eq] at h1
    exact absurd h1.1 hc
theorem mj_fT_str {k j sl kd : Nat} (h : mj_fT k j = some (14, sl, kd)) : (kd = 4 ∧ .fieldLink (mj_cn k) j "java/lang/String" "value" "[B" ∈ mj_w0) ∨ (kd = 5 ∧ .fieldLink (mj_cn k) j "java/lang/String" "coder" "B" ∈ mj_w0) := by
  obtain ⟨pl, h1⟩ := mj_fT_spec h
  unfold mj_fck at h1
  dsimp only at h1
  split at h1
  · next q hq => exact absurd hq (by simp [mj_cl])
  · simp only [Bool.and_eq_true, Bool.or_eq_true, decide_eq_true_eq] at h1
    rcases h1.2 with h2 | h2
    · exact Or.inl ⟨h2.1, mj_w0_in pl h2.2 rfl⟩
    · exact Or.inr ⟨h2.1, mj_w0_in pl h2.2 rfl⟩
theorem mj_kT_spec {k j : Nat} {v : Int32} (h : mj_kT k j = some v) : .constant (mj_cn k) j v ∈ mj_w0 := by
  unfold mj_kT at h
  cases hf : mj_kTab.find? (fun e => e.1 == k && e.2.1 == j) with
  | none => rw [hf] at h; cases h
  | some e =>
    rw [hf] at h
    have h1 := List.find?_some hf
    have h2 := List.mem_of_find?_eq_some hf
    have h3 := List.all_eq_true.mp mj_k_ok e h2
    obtain ⟨a, b, c, g⟩ := e
    simp only [Bool.and_eq_true, beq_iff_eq] at h1
    obtain ⟨rfl, rfl⟩ := h1
    cases h
    unfold mj_kck at h3
    exact mj_w0_in g (of_decide_eq_true h3) rfl
theorem mj_sT_spec {k j : Nat} (h : mj_sT k j = true) : .fieldLink (mj_cn k) j "java/lang/String" "COMPACT_STRINGS" "Z" ∈ mj_w0 := by
  unfold mj_sT at h
  cases hf : mj_sTab.find? (fun e => e.1 == k && e.2.1 == j) with
  | none => rw [hf] at h; cases h
  | some e =>
    have h1 := List.find?_some hf
    have h2 := List.mem_of_find?_eq_some hf
    have h3 := List.all_eq_true.mp mj_s_ok e h2
    obtain ⟨a, b, g⟩ := e
    simp only [Bool.and_eq_true, beq_iff_eq] at h1
    obtain ⟨rfl, rfl⟩ := h1
    unfold mj_sck at h3
    exact mj_w0_in g (of_decide_eq_true h3) rfl
theorem mj_cT_spec {k j kd y : Nat} (h : mj_cT k j = some (kd, y)) : ∃ pl, mj_cck (k, j, kd, y, pl) = true := by
  unfold mj_cT at h
  cases hf : mj_cTab.find? (fun e => e.1 == k && e.2.1 == j) with
  | none => rw [hf] at h; cases h
  | some e =>
    rw [hf] at h
    have h1 := List.find?_some hf
    have h2 := List.mem_of_find?_eq_some hf
    have h3 := List.all_eq_true.mp mj_c_ok e h2
    obtain ⟨a, b, c, d, g⟩ := e
    simp only [Bool.and_eq_true, beq_iff_eq] at h1
    obtain ⟨rfl, rfl⟩ := h1
    cases h
    exact ⟨g, h3⟩
theorem mj_fields_get {ad : Nat → Nat} {M : mj_M} {a ci k : Nat} (hk : k < mj_nf ci) : ((List.range (mj_nf ci)).map (fun j => mj_tr ad (mj_fv M a j (mj_fk ci j))))[k]? = some (mj_tr ad (mj_fv M a k (mj_fk ci k))) := by
  rw [List.getElem?_map, List.getElem?_range hk]
  rfl
theorem mj_fields_set {ad : Nat → Nat} {M : mj_M} {a ci k : Nat} {x : Int32} {v : Value} (hv : mj_tr ad (mj_fv (mj_st M a k x) a k (mj_fk ci k)) = v) : ((List.range (mj_nf ci)).map (fun j => mj_tr ad (mj_fv M a j (mj_fk ci j)))).set k v = (List.range (mj_nf ci)).map (fun j => mj_tr ad (mj_fv (mj_st M a k x) a j (mj_fk ci j))) := by
  apply List.ext_getElem?
  intro j
  rw [List.getElem?_set]
  by_cases hj : k = j
  · subst hj
    rw [if_pos rfl]
    by_cases hl : k < mj_nf ci
    · rw [if_pos (by rw [List.length_map, List.length_range]; exact hl), mj_fields_get hl, hv]
    · rw [if_neg (by rw [List.length_map, List.length_range]; exact hl)]
      symm
      apply List.getElem?_eq_none
      rw [List.length_map, List.length_range]
      omega
  · rw [if_neg hj]
    by_cases hl : j < mj_nf ci
    · rw [mj_fields_get hl, mj_fields_get hl]
      unfold mj_fv mj_st
      rw [mj_row_eq]
      have e : upd (M a) k x j = M a j := by
        unfold upd
        rw [if_neg (fun z => hj (Eq.symm z))]
      rw [e]
    · rw [List.getElem?_eq_none (by rw [List.length_map, List.length_range]; omega), List.getElem?_eq_none (by rw [List.length_map, List.length_range]; omega)]
theorem mj_sum {ad : Nat → Nat} {st : List Value} (h : mj_SK st) : ((st.map (mj_tr ad)).map (fun v => v.category)).sum = st.length := by
  have e : (st.map (mj_tr ad)).map (fun v => v.category) = st.map (fun _ => 1) := by
    rw [List.map_map]
    exact List.map_congr_left (fun v hv => mj_ok.cat (Or.inl (h v hv)))
  rw [e]
  induction st with
  | nil => rfl
  | cons a t ih =>
    rw [List.map_cons, List.sum_cons, List.length_cons, ih h.t (by
      rw [List.map_map]
      exact List.map_congr_left (fun v hv => mj_ok.cat (Or.inl (h.t v hv))))]
    omega
section MJS
variable {p : Program} {l : Launch} {e : Env} {R : Room} {s : State} {m : MethodId} {args : Array Value} {below : List Frame} {meth : Method} {c : Code} {cells slots : Nat} {Q : State → Prop}
variable {G : va_G} {ad : Nat → Nat} {cI cB : ClassId} {sl : Nat} {xs : Nat → Int32} {id d : Nat}

set_option maxHeartbeats 4000000 in
theorem mj_next {i : Instr} {pc pc' : Nat} {L L' st st' : List Value} {M M' : mj_M} (C : mj_Cx G ad cI cB sl xs id p s m args c) (hR : d ≤ R.frames ∧ 40 * d ≤ R.locals ∧ cells ≤ R.cells ∧ slots ≤ R.slots) (h : mj_at id pc = some i) (hs : mj_stp sl d id i pc L st M = some (.inl (pc', L', st', M'))) (hk : mj_Go p l e R s m args below meth c cells slots Q G ad cI cB xs pc' L' st' M') : mj_Go p l e R s m args below meth c cells slots Q G ad cI cB xs pc L st M := by
  obtain ⟨hx, hts, hK, hO, hV, hinj, me, hm, hb, hml, hown⟩ := C
  obtain ⟨n, hdg, hn⟩ := mj_at_spec h hm
  intro ls H locs hL hst hW
  have hW2 := hW
  obtain ⟨hP, hS, hro1, hro2⟩ := hW2
  cases i
  case iconst v =>
    obtain rfl := mj_nk hn (k := 1) rfl (by decide)
    have hs : some (Sum.inl (_, _, _, _)) = _ := hs
    cases hs
    exact lv_iconst hx hb hdg rfl (hk ls H locs hL hst.i hW)
  case bipush v =>
    obtain rfl := mj_nk hn (k := 2) rfl (by decide)
    have hs : some (Sum.inl (_, _, _, _)) = _ := hs
    cases hs
    exact lv_bipush hx hb hdg rfl (hk ls H locs hL hst.i hW)
  case sipush v =>
    obtain rfl := mj_nk hn (k := 3) rfl (by decide)
    have hs : some (Sum.inl (_, _, _, _)) = _ := hs
    cases hs
    exact lv_sipush hx hb hdg rfl (hk ls H locs hL hst.i hW)
  case ldc j =>
    obtain rfl := mj_nk hn (k := 2) rfl (by decide)
    have hs : mj_ldc 2 (mj_own id) j pc L st M = _ := hs
    unfold mj_ldc at hs
    rw [mj_own_eq hm] at hs
    split at hs
    · next v hv =>
      cases hs
      exact lv_ldc hx hb hown (hts _ (mj_kT_spec hv)) hdg (hk ls H locs hL hst.i hW)
    · split at hs
      · next hc =>
        cases hs
        obtain ⟨h1, h2, -⟩ := hc
        subst h2
        rw [h1] at hown
        exact va_ldcS hx hb hown hV.2.2.2 hdg (hk ls H locs hL hst.r hW)
      · cases hs
  case ldc_w j =>
    obtain rfl := mj_nk hn (k := 3) rfl (by decide)
    have hs : mj_ldc 3 (mj_own id) j pc L st M = _ := hs
    unfold mj_ldc at hs
    rw [mj_own_eq hm] at hs
    split at hs
    · next v hv =>
      cases hs
      exact lv_ldcw hx hb hown (hts _ (mj_kT_spec hv)) hdg (hk ls H locs hL hst.i hW)
    · split at hs
      · next hc =>
        cases hs
        exact absurd hc.2.2 (by decide)
      · cases hs
  case iload_n j =>
    obtain rfl := mj_nk hn (k := 1) rfl (by decide)
    have hs : mj_ldi j 1 pc L st M = _ := hs
    unfold mj_ldi at hs
    split at hs
    · next x hl =>
      cases hs
      exact lv_iload_n hx hb hdg rfl (hL.2.2.2.2 _ _ hl (by intro z; cases z)) (hk ls H locs hL hst.i hW)
    · cases hs
  case iload j =>
    obtain rfl := mj_nk hn (k := 2) rfl (by decide)
    have hs : mj_ldi j 2 pc L st M = _ := hs
    unfold mj_ldi at hs
    split at hs
    · next x hl =>
      cases hs
      exact lv_iload hx hb hdg (hL.2.2.2.2 _ _ hl (by intro z; cases z)) (hk ls H locs hL hst.i hW)
    · cases hs
  case aload_n j =>
    obtain rfl := mj_nk hn (k := 1) rfl (by decide)
    have hs : mj_lda j 1 pc L st M = _ := hs
    unfold mj_lda at hs
    split at hs
    · next x hl =>
      cases hs
      exact lv_aload_n hx hb hdg rfl (hL.2.2.2.2 _ _ hl (by intro z; cases z)) (hk ls H locs hL hst.r hW)
    · cases hs
  case aload j =>
    obtain rfl := mj_nk hn (k := 2) rfl (by decide)
    have hs : mj_lda j 2 pc L st M = _ := hs
    unfold mj_lda at hs
    split at hs
    · next x hl =>
      cases hs
      exact lv_aload hx hb hdg (hL.2.2.2.2 _ _ hl (by intro z; cases z)) (hk ls H locs hL hst.r hW)
    · cases hs
  case istore_n j =>
    obtain rfl := mj_nk hn (k := 1) rfl (by decide)
    have hs : mj_sti j 1 pc L st M = _ := hs
    unfold mj_sti at hs
    split at hs
    · next x st0 z0 =>
      split at hs
      · next hj =>
        cases hs
        exact lv_istore_n hx hb hdg rfl hL.has (by rw [← hL.2.2.1]; exact hj) rfl (fun ls' h' => hk ls' H locs (hL.set (x := .int x) (Or.inl ⟨x, rfl⟩) h') hst.t hW)
      · cases hs
    · cases hs
  case istore j =>
    obtain rfl := mj_nk hn (k := 2) rfl (by decide)
    have hs : mj_sti j 2 pc L st M = _ := hs
    unfold mj_sti at hs
    split at hs
    · next x st0 z0 =>
      split at hs
      · next hj =>
        cases hs
        exact lv_istore hx hb hdg hL.has (by rw [← hL.2.2.1]; exact hj) rfl (fun ls' h' => hk ls' H locs (hL.set (x := .int x) (Or.inl ⟨x, rfl⟩) h') hst.t hW)
      · cases hs
    · cases hs
  case astore_n j =>
    obtain rfl := mj_nk hn (k := 1) rfl (by decide)
    have hs : mj_sta j 1 pc L st M = _ := hs
    unfold mj_sta at hs
    split at hs
    · next x st0 z0 =>
      split at hs
      · next hj =>
        cases hs
        exact lv_astore_n hx hb hdg rfl hL.has (by rw [← hL.2.2.1]; exact hj) rfl (fun ls' h' => hk ls' H locs (hL.set (x := .ref x) (Or.inr ⟨x, rfl⟩) h') hst.t hW)
      · cases hs
    · cases hs
  case iinc j v =>
    obtain rfl := mj_nk hn (k := 3) rfl (by decide)
    have hs : (match L[j]? with
      | some (.int x) => mj_nx (pc + 3) (L.set j (.int (x + Int32.ofInt v))) st M
      | _ => none) = _ := hs
    split at hs
    · next x hl =>
      cases hs
      have hj : j < c.maxLocals := by rw [← hL.2.2.1]; exact (List.getElem?_eq_some_iff.mp hl).1
      obtain ⟨k, hkk⟩ := List.getElem?_of_mem (mj_lv_mem (ad := ad) hl (by intro z; cases z))
      exact lv_iinc (k := k) hx hb hdg hL.has hkk rfl hj rfl (fun ls' h' => hk ls' H locs (hL.set (x := .int (x + Int32.ofInt v)) (Or.inl ⟨_, rfl⟩) h') hst hW)
    · cases hs
  case dup  =>
    obtain rfl := mj_nk hn (k := 1) rfl (by decide)
    have hs : mj_dup pc L st M = _ := hs
    unfold mj_dup at hs
    split at hs
    · cases hs
      exact lv_dup hx hb hdg rfl (hk ls H locs hL hst.i hW)
    · cases hs
      exact lv_dup hx hb hdg rfl (hk ls H locs hL hst.r hW)
    · cases hs
  case dup2  =>
    obtain rfl := mj_nk hn (k := 1) rfl (by decide)
    have hs : mj_dup2 pc L st M = _ := hs
    unfold mj_dup2 at hs
    split at hs
    · cases hs
      exact lv_dup2_11 hx hb hdg rfl rfl (hk ls H locs hL hst.i.i hW)
    · cases hs
      exact lv_dup2_11 hx hb hdg rfl rfl (hk ls H locs hL hst.r.i hW)
    · cases hs
  case iadd  =>
    obtain rfl := mj_nk hn (k := 1) rfl (by decide)
    have hs : mj_bin _ pc L st M = _ := hs
    unfold mj_bin at hs
    split at hs
    · cases hs
      exact lv_iadd hx hb hdg (hk ls H locs hL hst.t.t.i hW)
    · cases hs
  case isub  =>
    obtain rfl := mj_nk hn (k := 1) rfl (by decide)
    have hs : mj_bin _ pc L st M = _ := hs
    unfold mj_bin at hs
    split at hs
    · cases hs
      exact lv_isub hx hb hdg (hk ls H locs hL hst.t.t.i hW)
    · cases hs
  case imul  =>
    obtain rfl := mj_nk hn (k := 1) rfl (by decide)
    have hs : mj_bin _ pc L st M = _ := hs
    unfold mj_bin at hs
    split at hs
    · cases hs
      exact lv_imul hx hb hdg (hk ls H locs hL hst.t.t.i hW)
    · cases hs
  case iand  =>
    obtain rfl := mj_nk hn (k := 1) rfl (by decide)
    have hs : mj_bin _ pc L st M = _ := hs
    unfold mj_bin at hs
    split at hs
    · cases hs
      exact lv_iand hx hb hdg (hk ls H locs hL hst.t.t.i hW)
    · cases hs
  case ior  =>
    obtain rfl := mj_nk hn (k := 1) rfl (by decide)
    have hs : mj_bin _ pc L st M = _ := hs
    unfold mj_bin at hs
    split at hs
    · cases hs
      exact lv_ior hx hb hdg (hk ls H locs hL hst.t.t.i hW)
    · cases hs
  case ixor  =>
    obtain rfl := mj_nk hn (k := 1) rfl (by decide)
    have hs : mj_bin _ pc L st M = _ := hs
    unfold mj_bin at hs
    split at hs
    · cases hs
      exact lv_ixor hx hb hdg (hk ls H locs hL hst.t.t.i hW)
    · cases hs
  case ishl  =>
    obtain rfl := mj_nk hn (k := 1) rfl (by decide)
    have hs : mj_bin _ pc L st M = _ := hs
    unfold mj_bin at hs
    split at hs
    · cases hs
      exact lv_ishl hx hb hdg (hk ls H locs hL hst.t.t.i hW)
    · cases hs
  case ishr  =>
    obtain rfl := mj_nk hn (k := 1) rfl (by decide)
    have hs : mj_bin _ pc L st M = _ := hs
    unfold mj_bin at hs
    split at hs
    · cases hs
      exact lv_ishr hx hb hdg (hk ls H locs hL hst.t.t.i hW)
    · cases hs
  case iushr  =>
    obtain rfl := mj_nk hn (k := 1) rfl (by decide)
    have hs : mj_bin _ pc L st M = _ := hs
    unfold mj_bin at hs
    split at hs
    · cases hs
      exact lv_iushr hx hb hdg rfl (hk ls H locs hL hst.t.t.i hW)
    · cases hs
  case idiv  =>
    obtain rfl := mj_nk hn (k := 1) rfl (by decide)
    have hs : mj_dv _ pc L st M = _ := hs
    unfold mj_dv at hs
    split at hs
    · split at hs
      · cases hs
      · next hy =>
        cases hs
        exact lv_idiv hx hb hdg hy (hk ls H locs hL hst.t.t.i hW)
    · cases hs
  case irem  =>
    obtain rfl := mj_nk hn (k := 1) rfl (by decide)
    have hs : mj_dv _ pc L st M = _ := hs
    unfold mj_dv at hs
    split at hs
    · split at hs
      · cases hs
      · next hy =>
        cases hs
        exact lv_irem hx hb hdg hy (hk ls H locs hL hst.t.t.i hW)
    · cases hs
  case ineg  =>
    obtain rfl := mj_nk hn (k := 1) rfl (by decide)
    have hs : mj_un _ pc L st M = _ := hs
    unfold mj_un at hs
    split at hs
    · cases hs
      exact lv_ineg hx hb hdg (hk ls H locs hL hst.t.i hW)
    · cases hs
  case i2b  =>
    obtain rfl := mj_nk hn (k := 1) rfl (by decide)
    have hs : mj_un _ pc L st M = _ := hs
    unfold mj_un at hs
    split at hs
    · cases hs
      exact lv_i2b hx hb hdg rfl (hk ls H locs hL hst.t.i hW)
    · cases hs
  case i2c  =>
    obtain rfl := mj_nk hn (k := 1) rfl (by decide)
    have hs : mj_un _ pc L st M = _ := hs
    unfold mj_un at hs
    split at hs
    · cases hs
      exact lv_i2c hx hb hdg rfl (hk ls H locs hL hst.t.i hW)
    · cases hs
  case goto off =>
    obtain rfl := mj_nk hn (k := 3) rfl (by decide)
    have hs : mj_go pc off L st M = _ := hs
    unfold mj_go at hs
    split at hs
    · next hp =>
      cases hs
      exact lv_goto hx hb hdg (Int.toNat_of_nonneg hp).symm (hk ls H locs hL hst hW)
    · cases hs
  case if_icmp cc off =>
    obtain rfl := mj_nk hn (k := 3) rfl (by decide)
    have hs : mj_icmp cc off pc L st M = _ := hs
    unfold mj_icmp at hs
    split at hs
    · cases cc
      case eq =>
        unfold mj_cmp at hs
        dsimp only at hs
        unfold mj_br mj_go mj_nx at hs
        split at hs
        · next hc =>
          split at hs
          · next hp =>
            cases hs
            exact lv_icmp_eq hx hb hdg (Int.toNat_of_nonneg hp).symm (fun _ => hk ls H locs hL hst.t.t hW) (fun z => absurd (of_decide_eq_true hc) z)
          · cases hs
        · next hc =>
          split at hs
          · next hp =>
            cases hs
            exact lv_icmp_eq hx hb hdg (Int.toNat_of_nonneg hp).symm (fun z => absurd z (of_decide_eq_false hc)) (fun _ => hk ls H locs hL hst.t.t hW)
          · cases hs
      case ne =>
        unfold mj_cmp at hs
        dsimp only at hs
        unfold mj_br mj_go mj_nx at hs
        split at hs
        · next hc =>
          split at hs
          · next hp =>
            cases hs
            exact lv_icmp_ne hx hb hdg (Int.toNat_of_nonneg hp).symm (fun _ => hk ls H locs hL hst.t.t hW) (fun z => absurd (of_decide_eq_true hc) (fun y => y z))
          · cases hs
        · next hc =>
          split at hs
          · next hp =>
            cases hs
            exact lv_icmp_ne hx hb hdg (Int.toNat_of_nonneg hp).symm (fun z => absurd z (of_decide_eq_false hc)) (fun _ => hk ls H locs hL hst.t.t hW)
          · cases hs
      case lt =>
        unfold mj_cmp at hs
        dsimp only at hs
        unfold mj_br mj_go mj_nx at hs
        split at hs
        · next hc =>
          split at hs
          · next hp =>
            cases hs
            exact lv_icmp_lt hx hb hdg (Int.toNat_of_nonneg hp).symm (fun _ => hk ls H locs hL hst.t.t hW) (fun z => absurd (of_decide_eq_true hc) z)
          · cases hs
        · next hc =>
          split at hs
          · next hp =>
            cases hs
            exact lv_icmp_lt hx hb hdg (Int.toNat_of_nonneg hp).symm (fun z => absurd z (of_decide_eq_false hc)) (fun _ => hk ls H locs hL hst.t.t hW)
          · cases hs
      case ge =>
        unfold mj_cmp at hs
        dsimp only at hs
        unfold mj_br mj_go mj_nx at hs
        split at hs
        · next hc =>
          split at hs
          · next hp =>
            cases hs
            exact lv_icmp_ge hx hb hdg (Int.toNat_of_nonneg hp).symm (fun _ => hk ls H locs hL hst.t.t hW) (fun z => absurd (of_decide_eq_true hc) z)
          · cases hs
        · next hc =>
          split at hs
          · next hp =>
            cases hs
            exact lv_icmp_ge hx hb hdg (Int.toNat_of_nonneg hp).symm (fun z => absurd z (of_decide_eq_false hc)) (fun _ => hk ls H locs hL hst.t.t hW)
          · cases hs
      case gt =>
        unfold mj_cmp at hs
        dsimp only at hs
        unfold mj_br mj_go mj_nx at hs
        split at hs
        · next hc =>
          split at hs
          · next hp =>
            cases hs
            exact lv_icmp_gt hx hb hdg (Int.toNat_of_nonneg hp).symm (fun _ => hk ls H locs hL hst.t.t hW) (fun z => absurd (of_decide_eq_true hc) z)
          · cases hs
        · next hc =>
          split at hs
          · next hp =>
            cases hs
            exact lv_icmp_gt hx hb hdg (Int.toNat_of_nonneg hp).symm (fun z => absurd z (of_decide_eq_false hc)) (fun _ => hk ls H locs hL hst.t.t hW)
          · cases hs
      case le =>
        unfold mj_cmp at hs
        dsimp only at hs
        unfold mj_br mj_go mj_nx at hs
        split at hs
        · next hc =>
          split at hs
          · next hp =>
            cases hs
            exact lv_icmp_le hx hb hdg (Int.toNat_of_nonneg hp).symm (fun _ => hk ls H locs hL hst.t.t hW) (fun z => absurd (of_decide_eq_true hc) z)
          · cases hs
        · next hc =>
          split at hs
          · next hp =>
            cases hs
            exact lv_icmp_le hx hb hdg (Int.toNat_of_nonneg hp).symm (fun z => absurd z (of_decide_eq_false hc)) (fun _ => hk ls H locs hL hst.t.t hW)
          · cases hs
    · cases hs
  case ifCond cc off =>
    obtain rfl := mj_nk hn (k := 3) rfl (by decide)
    have hs : mj_ifc cc off pc L st M = _ := hs
    unfold mj_ifc at hs
    split at hs
    · cases cc
      case eq =>
        unfold mj_cmp at hs
        dsimp only at hs
        unfold mj_br mj_go mj_nx at hs
        split at hs
        · next hc =>
          split at hs
          · next hp =>
            cases hs
            exact lv_if_eq hx hb hdg (Int.toNat_of_nonneg hp).symm (fun _ => hk ls H locs hL hst.t hW) (fun z => absurd (of_decide_eq_true hc) z)
          · cases hs
        · next hc =>
          split at hs
          · next hp =>
            cases hs
            exact lv_if_eq hx hb hdg (Int.toNat_of_nonneg hp).symm (fun z => absurd z (of_decide_eq_false hc)) (fun _ => hk ls H locs hL hst.t hW)
          · cases hs
      case ne =>
        unfold mj_cmp at hs
        dsimp only at hs
        unfold mj_br mj_go mj_nx at hs
        split at hs
        · next hc =>
          split at hs
          · next hp =>
            cases hs
            exact lv_if_ne hx hb hdg (Int.toNat_of_nonneg hp).symm (fun _ => hk ls H locs hL hst.t hW) (fun z => absurd (of_decide_eq_true hc) (fun y => y z))
          · cases hs
        · next hc =>
          split at hs
          · next hp =>
            cases hs
            exact lv_if_ne hx hb hdg (Int.toNat_of_nonneg hp).symm (fun z => absurd z (of_decide_eq_false hc)) (fun _ => hk ls H locs hL hst.t hW)
          · cases hs
      case lt =>
        unfold mj_cmp at hs
        dsimp only at hs
        unfold mj_br mj_go mj_nx at hs
        split at hs
        · next hc =>
          split at hs
          · next hp =>
            cases hs
            exact lv_if_lt hx hb hdg (Int.toNat_of_nonneg hp).symm (fun _ => hk ls H locs hL hst.t hW) (fun z => absurd (of_decide_eq_true hc) z)
          · cases hs
        · next hc =>
          split at hs
          · next hp =>
            cases hs
            exact lv_if_lt hx hb hdg (Int.toNat_of_nonneg hp).symm (fun z => absurd z (of_decide_eq_false hc)) (fun _ => hk ls H locs hL hst.t hW)
          · cases hs
      case ge =>
        unfold mj_cmp at hs
        dsimp only at hs
        unfold mj_br mj_go mj_nx at hs
        split at hs
        · next hc =>
          split at hs
          · next hp =>
            cases hs
            exact lv_if_ge hx hb hdg (Int.toNat_of_nonneg hp).symm (fun _ => hk ls H locs hL hst.t hW) (fun z => absurd (of_decide_eq_true hc) z)
          · cases hs
        · next hc =>
          split at hs
          · next hp =>
            cases hs
            exact lv_if_ge hx hb hdg (Int.toNat_of_nonneg hp).symm (fun z => absurd z (of_decide_eq_false hc)) (fun _ => hk ls H locs hL hst.t hW)
          · cases hs
      case gt =>
        unfold mj_cmp at hs
        dsimp only at hs
        unfold mj_br mj_go mj_nx at hs
        split at hs
        · next hc =>
          split at hs
          · next hp =>
            cases hs
            exact lv_if_gt hx hb hdg (Int.toNat_of_nonneg hp).symm (fun _ => hk ls H locs hL hst.t hW) (fun z => absurd (of_decide_eq_true hc) z)
          · cases hs
        · next hc =>
          split at hs
          · next hp =>
            cases hs
            exact lv_if_gt hx hb hdg (Int.toNat_of_nonneg hp).symm (fun z => absurd z (of_decide_eq_false hc)) (fun _ => hk ls H locs hL hst.t hW)
          · cases hs
      case le =>
        unfold mj_cmp at hs
        dsimp only at hs
        unfold mj_br mj_go mj_nx at hs
        split at hs
        · next hc =>
          split at hs
          · next hp =>
            cases hs
            exact lv_if_le hx hb hdg (Int.toNat_of_nonneg hp).symm (fun _ => hk ls H locs hL hst.t hW) (fun z => absurd (of_decide_eq_true hc) z)
          · cases hs
        · next hc =>
          split at hs
          · next hp =>
            cases hs
            exact lv_if_le hx hb hdg (Int.toNat_of_nonneg hp).symm (fun z => absurd z (of_decide_eq_false hc)) (fun _ => hk ls H locs hL hst.t hW)
          · cases hs
    · cases hs
  case tableswitch dflt lo hi offs =>
    have hs : mj_tsw dflt lo hi offs pc L st M = _ := hs
    unfold mj_tsw at hs
    split at hs
    · split at hs
      · next hc =>
        unfold mj_go at hs
        split at hs
        · next hp =>
          cases hs
          exact lv_tableOut hx hb hdg hc (Int.toNat_of_nonneg hp).symm (hk ls H locs hL hst.t hW)
        · cases hs
      · next hc =>
        split at hs
        · next off ho =>
          unfold mj_go at hs
          split at hs
          · next hp =>
            cases hs
            exact lv_tableIn hx hb hdg (fun z => hc (Or.inl z)) (fun z => hc (Or.inr z)) ho (Int.toNat_of_nonneg hp).symm (hk ls H locs hL hst.t hW)
          · cases hs
        · cases hs
    · cases hs
  case lookupswitch dflt ps =>
    have hs : mj_lsw dflt ps pc L st M = _ := hs
    unfold mj_lsw at hs
    split at hs
    · split at hs
      · next hc =>
        unfold mj_go at hs
        split at hs
        · next hp =>
          cases hs
          exact lv_lookup hx hb hdg hc rfl (Int.toNat_of_nonneg hp).symm (hk ls H locs hL hst.t hW)
        · cases hs
      · cases hs
    · cases hs
  case getfield j =>
    obtain rfl := mj_nk hn (k := 3) rfl (by decide)
    have hs : mj_gf (mj_own id) j pc L st M = _ := hs
    unfold mj_gf at hs
    rw [mj_own_eq hm] at hs
    split at hs
    · next ci slt kd hf =>
      split at hs
      · next a st0 z0 =>
        split at hs
        · next ho =>
          cases hs
          by_cases hc : ci = 14
          · subst hc
            obtain rfl := mj_str ho
            rcases mj_fT_str hf with ⟨rfl, hw⟩ | ⟨rfl, hw⟩
            · exact vk_getf hx hb hO.2.2.2.1 hS hown (hts _ hw) (fun _ z => z) hdg (hk ls H locs hL hst.t.r hW)
            · exact vk_getf hx hb hO.2.2.1 hS hown (hts _ hw) (fun _ z => z) hdg (hk ls H locs hL hst.t.i hW)
          · obtain ⟨⟨C, T, N⟩, hq, h1, hw, h3, h4, h5, h6, h7, h8, h9, h10⟩ := mj_fT_obj hf hc
            obtain ⟨g1, g2, g3, g4⟩ := mj_cls hq
            have hok : mj_ok (mj_fv M a slt kd) := by
              unfold mj_fv
              split
              · exact Or.inr ⟨_, rfl⟩
              · split
                · exact Or.inr ⟨_, rfl⟩
                · split
                  · exact Or.inr ⟨_, rfl⟩
                  · split <;> exact Or.inl ⟨_, rfl⟩
            have hsk : mj_SK (mj_fv M a slt kd :: st0) := fun v hv => by
              rcases List.mem_cons.mp hv with z | z
              · rw [z]; exact hok
              · exact hst.t v z
            refine va_get (ci := ci) (v := mj_tr ad (mj_fv M a slt kd)) hx hb hts g1 hown hK hP a (by rw [mj_ws_get (mj_obj ho h10).1, mj_cel_o ho h10]) hq slt h1 (hts _ hw) (by rw [h3]; exact fun _ z => z) (by rw [mj_fields_get (by rw [← g4]; exact h1), ← h4]) hdg (hk ls H locs hL hsk hW)
        · cases hs
      · cases hs
    · cases hs
  case getstatic j =>
    obtain rfl := mj_nk hn (k := 3) rfl (by decide)
    have hs : mj_gs (mj_own id) j pc L st M = _ := hs
    unfold mj_gs at hs
    rw [mj_own_eq hm] at hs
    split at hs
    · next hc =>
      cases hs
      exact va_gets hx hb hO.2.2.2.2.2 hS hown (hts _ (mj_sT_spec hc)) (fun _ z => z) hdg (hk ls H locs hL hst.i hW)
    · cases hs
  case putfield j =>
    obtain rfl := mj_nk hn (k := 3) rfl (by decide)
    have hs : mj_pf (mj_own id) j pc L st M = _ := hs
    unfold mj_pf at hs
    rw [mj_own_eq hm] at hs
    split at hs
    · next ci slt kd hf =>
      split at hs
      · next x a st0 z0 =>
        split at hs
        · next hcc =>
          cases hs
          obtain ⟨ho, hkd⟩ := hcc
          have hc : ci ≠ 14 := fun z => by
            subst z
            rcases mj_fT_str hf with ⟨y, -⟩ | ⟨y, -⟩ <;> omega
          obtain ⟨⟨C, T, N⟩, hq, h1, hw, h3, h4, h5, h6, h7, h8, h9, h10⟩ := mj_fT_obj hf hc
          obtain ⟨g1, g2, g3, g4⟩ := mj_cls hq
          obtain ⟨a72, -, -⟩ := mj_obj ho h10
          have e1 : mj_tr ad (mj_fv (mj_st M a slt x) a slt (mj_fk ci slt)) = .int x := by
            rw [← h4]
            unfold mj_fv
            rw [if_neg (by omega), if_neg (by omega), if_neg (by omega), if_neg (by omega)]
            unfold mj_st
            rw [mj_row_eq]
            simp [mj_tr, upd]
          have hty : ∃ ty, mj_tyC ci slt = ty ∧ narrow ty (.int x) = .int x ∧ fits ty (.int x) = true := by
            rcases hkd with z | ⟨z, hbit⟩
            · exact ⟨_, h6 z, rfl, rfl⟩
            · refine ⟨_, h7 z, ?_, ?_⟩
              · show Value.int (x &&& 1) = _
                rw [hbit]
              · rcases mj_bit hbit with y | y <;> rw [y] <;> rfl
          obtain ⟨ty, t1, t2, t3⟩ := hty
          refine va_put (ci := ci) (ty := ty) (v := .int x) hx hb hts g1 (mj_tyC ci) g2 g3 hown hK hP (mj_ws_D hinj) hS a (by rw [mj_ws_get a72, mj_cel_o ho h10]) hq slt h1 (hts _ hw) (by rw [h3]; exact fun _ z => z) (h5.resolve_left (by omega)) (by rw [g2 slt h1, t1]) t2 t3 (by rw [List.length_map, List.length_range, ← g4]; exact h1) hdg (fun H1 locs1 hP1 hD1 hS1 => ?_)
          rw [mj_fields_set e1, mj_ws_set (M' := mj_st M a slt x) a72 (mj_cel_o ho h10) (fun q hq => mj_row_ne hq)] at hP1
          exact hk ls H1 locs1 hL hst.t.t ⟨hP1, hS1, by rw [← hro1]; exact mj_row_ne (by omega), by rw [← hro2]; exact mj_row_ne (by omega)⟩
        · cases hs
      · next bb a st0 z0 =>
        split at hs
        · next hcc =>
          cases hs
          obtain ⟨ho, hkd, hbb⟩ := hcc
          have hc : ci ≠ 14 := fun z => by
            subst z
            rcases mj_fT_str hf with ⟨y, -⟩ | ⟨y, -⟩ <;> omega
          obtain ⟨⟨C, T, N⟩, hq, h1, hw, h3, h4, h5, h6, h7, h8, h9, h10⟩ := mj_fT_obj hf hc
          obtain ⟨g1, g2, g3, g4⟩ := mj_cls hq
          obtain ⟨a72, -, -⟩ := mj_obj ho h10
          have e1 : mj_tr ad (mj_fv (mj_st M a slt (if bb = 29 then 0 else 1)) a slt (mj_fk ci slt)) = .ref (ad bb) := by
            rw [← h4, hkd]
            unfold mj_fv
            rw [if_neg (by omega), if_pos rfl]
            unfold mj_st
            have e0 : ∀ v, upd (M a) slt v slt = v := fun v => by
              unfold upd
              rw [if_pos rfl]
            rw [mj_row_eq, e0]
            rcases hbb with z | z <;> subst z <;> rfl
          refine va_put (ci := ci) (ty := .object "CourtHand$Law") (v := .ref (ad bb)) hx hb hts g1 (mj_tyC ci) g2 g3 hown hK hP (mj_ws_D hinj) hS a (by rw [mj_ws_get a72, mj_cel_o ho h10]) hq slt h1 (hts _ hw) (by rw [h3]; exact fun _ z => z) (h5.resolve_left (by omega)) (by rw [g2 slt h1, h8 hkd]) rfl rfl (by rw [List.length_map, List.length_range, ← g4]; exact h1) hdg (fun H1 locs1 hP1 hD1 hS1 => ?_)
          rw [mj_fields_set e1, mj_ws_set (M' := mj_st M a slt (if bb = 29 then 0 else 1)) a72 (mj_cel_o ho h10) (fun q hq => mj_row_ne hq)] at hP1
          exact hk ls H1 locs1 hL hst.t.t ⟨hP1, hS1, by rw [← hro1]; exact mj_row_ne (by omega), by rw [← hro2]; exact mj_row_ne (by omega)⟩
        · cases hs
      · cases hs
    · cases hs
  case iaload  =>
    obtain rfl := mj_nk hn (k := 1) rfl (by decide)
    have hs : mj_ild sl pc L st M = _ := hs
    unfold mj_ild at hs
    split at hs
    · next i a st0 z0 =>
      by_cases ha : a = 72
      · subst ha
        rw [if_pos rfl] at hs
        split at hs
        · next hc =>
          cases hs
          exact va_ti hx hb hO.1 hS (mj_inB_iff hc) (by rw [hro1]; rfl) hdg (hk ls H locs hL hst.t.t.i hW)
        · cases hs
      · rw [if_neg ha] at hs
        split at hs
        · next hc =>
          cases hs
          have h0 : mj_ial a ≠ 0 := fun z => by
            rw [z] at hc
            exact mj_inB_iff hc (Or.inr (Nat.zero_le _))
          exact va_iald hx hb hK hP a 0 (by rw [mj_ws_get (mj_ial_lt h0), mj_cel_i h0]) rfl (mj_inB_iff hc) hdg (hk ls H locs hL hst.t.t.i hW)
        · cases hs
    · cases hs
  case iastore  =>
    obtain rfl := mj_nk hn (k := 1) rfl (by decide)
    have hs : mj_ist pc L st M = _ := hs
    unfold mj_ist at hs
    split at hs
    · next x i a st0 z0 =>
      split at hs
      · next hc =>
        cases hs
        have h0 : mj_ial a ≠ 0 := fun z => by
          rw [z] at hc
          exact mj_inB_iff hc (Or.inr (Nat.zero_le _))
        have a72 := mj_ial_lt h0
        refine va_iast hx hb hK hP (mj_ws_D hinj) hS a 0 (by rw [mj_ws_get a72, mj_cel_i h0]) rfl (mj_inB_iff hc) hdg (fun H1 locs1 hP1 hD1 hS1 => ?_)
        rw [mj_ws_set (M' := mj_st M a i.toNatClampNeg x) a72 (by rw [mj_cel_i h0]; unfold mj_st; rw [mj_row_eq]) (fun q hq => mj_row_ne hq)] at hP1
        exact hk ls H1 locs1 hL hst.t.t.t ⟨hP1, hS1, by rw [← hro1]; exact mj_row_ne (by omega), by rw [← hro2]; exact mj_row_ne (by omega)⟩
      · cases hs
    · cases hs
  case baload  =>
    obtain rfl := mj_nk hn (k := 1) rfl (by decide)
    have hs : mj_bld pc L st M = _ := hs
    unfold mj_bld at hs
    split at hs
    · next i a st0 z0 =>
      split at hs
      · next hc =>
        cases hs
        by_cases ha : a = 74
        · subst ha
          exact va_tb hx hb hO.2.2.2.2.1 hS (mj_inB_iff (show mj_inB i 9 = true from hc)) (by rw [hro2]; rfl) hdg (hk ls H locs hL hst.t.t.i hW)
        · have h0 : mj_bal a ≠ 0 := fun z => by
            unfold mj_bln at hc
            rw [if_neg ha, z] at hc
            exact mj_inB_iff hc (Or.inr (Nat.zero_le _))
          obtain rfl := mj_bal_50 h0
          exact va_bald hx hb hK hP 50 1 (by rw [mj_ws_get (by decide), mj_cel_b]) rfl (mj_inB_iff (show mj_inB i 260 = true from hc)) hdg (hk ls H locs hL hst.t.t.i hW)
      · cases hs
    · cases hs
  case bastore  =>
    obtain rfl := mj_nk hn (k := 1) rfl (by decide)
    have hs : mj_bst pc L st M = _ := hs
    unfold mj_bst at hs
    split at hs
    · next x i a st0 z0 =>
      split at hs
      · next hc =>
        cases hs
        have h0 : mj_bal a ≠ 0 := fun z => by
          rw [z] at hc
          exact mj_inB_iff hc (Or.inr (Nat.zero_le _))
        obtain rfl := mj_bal_50 h0
        refine va_bast hx hb hK hP (mj_ws_D hinj) hS 50 1 (by rw [mj_ws_get (by decide), mj_cel_b]) rfl (mj_inB_iff (show mj_inB i 260 = true from hc)) hdg (fun H1 locs1 hP1 hD1 hS1 => ?_)
        rw [mj_ws_set (M' := mj_st M 50 i.toNatClampNeg x.toInt8.toInt32) (by decide) (by rw [mj_cel_b]; unfold mj_st; rw [mj_row_eq]; rfl) (fun q hq => mj_row_ne hq)] at hP1
        exact hk ls H1 locs1 hL hst.t.t.t ⟨hP1, hS1, by rw [← hro1]; exact mj_row_ne (by omega), by rw [← hro2]; exact mj_row_ne (by omega)⟩
      · cases hs
    · cases hs
  case arraylength  =>
    obtain rfl := mj_nk hn (k := 1) rfl (by decide)
    have hs : mj_aln sl pc L st M = _ := hs
    unfold mj_aln at hs
    split at hs
    · next a st0 z0 =>
      split at hs
      · next ha =>
        subst ha
        cases hs
        exact va_tlen hx hb hO.1 hS rfl hdg (hk ls H locs hL hst.t.i hW)
      · split at hs
        · next ha =>
          subst ha
          cases hs
          exact va_tlen hx hb hO.2.2.2.2.1 hS rfl hdg (hk ls H locs hL hst.t.i hW)
        · split at hs
          · cases hs
          · next h0 =>
            cases hs
            exact va_alen (cA := cI) (x := (mj_ial a, Sum.inl (M a))) hx hb hK hP a 0 (by rw [mj_ws_get (mj_ial_lt h0), mj_cel_i h0]) rfl rfl hdg (hk ls H locs hL hst.t.i hW)
    · cases hs
  case invokestatic j =>
    obtain rfl := mj_nk hn (k := 3) rfl (by decide)
    have hs : mj_ivs d (mj_own id) j pc L st M = _ := hs
    unfold mj_ivs at hs
    rw [mj_own_eq hm] at hs
    split at hs
    · next kd y hc =>
      split at hs
      · unfold mj_scl at hs
        split at hs
        · split at hs
          · cases hs
          · cases hs
        · cases hs
      · split at hs
        · next hkd =>
          subst hkd
          unfold mj_acp at hs
          split at hs
          · next nn dp b sp a st0 z0 =>
            split at hs
            · next hq =>
              cases hs
              obtain ⟨z1, z2, z3, z4, z5, z6, z7, z8, z9⟩ := hq
              obtain ⟨pl, hck⟩ := mj_cT_spec hc
              unfold mj_cck at hck
              dsimp only at hck
              rw [if_neg (show ¬ (3 : Nat) = 5 by decide), if_neg (show ¬ (3 : Nat) = 6 by decide), if_pos rfl] at hck
              have hw := mj_w0_in pl (of_decide_eq_true hck) rfl
              refine va_copyi hx hb (by rw [hL.1]) hown (hts _ hw) (hts _ mj_w_nat) (hts _ mj_w_sta) (hts _ mj_w_sys) hK hP (mj_ws_D hinj) hS a b 0 0 (by rw [mj_ws_get (mj_ial_lt z6), mj_cel_i z6]) (by rw [mj_ws_get (mj_ial_lt z7), mj_cel_i z7]) rfl rfl rfl z3 z4 z5 z8 z9 (fun _ _ => rfl) (by omega) (by rw [mj_sum hst.t.t.t.t.t]; show _ + (5 + 2 + 11) ≤ R.locals; omega) hdg (fun H1 locs1 hP1 hD1 hS1 => ?_)
              rw [mj_ws_set (M' := mj_row M b (va_cpy (M a) (M b) sp.toNatClampNeg dp.toNatClampNeg nn.toNatClampNeg)) (mj_ial_lt z7) (by rw [mj_cel_i z7, mj_row_eq]) (fun q hq => mj_row_ne hq)] at hP1
              have b72 := mj_ial_lt z7
              exact hk ls H1 locs1 hL hst.t.t.t.t.t ⟨hP1, hS1, by rw [← hro1]; exact mj_row_ne (by omega), by rw [← hro2]; exact mj_row_ne (by omega)⟩
            · cases hs
          · cases hs
        · split at hs
          · next hkd =>
            subst hkd
            unfold mj_mth at hs
            split at hs
            · next yy xx st0 z0 =>
              split at hs
              · next hq =>
                cases hs
                obtain ⟨pl, hck⟩ := mj_cT_spec hc
                unfold mj_cck at hck
                dsimp only at hck
                rw [if_pos rfl] at hck
                have hw := mj_w0_in pl (of_decide_eq_true hck) rfl
                exact va_mmax hx hb (by rw [hL.1]) hown (hts _ hw) (hts _ mj_w_smax) (hts _ mj_w_math) (hts _ mj_w_cmax) (by omega) (by rw [mj_sum hst.t.t]; omega) hR.2.2.1 hR.2.2.2 hdg (hk ls H locs hL hst.t.t.i hW)
              · cases hs
            · cases hs
          · split at hs
            · next hkd =>
              subst hkd
              unfold mj_mth at hs
              split at hs
              · next yy xx st0 z0 =>
                split at hs
                · next hq =>
                  cases hs
                  obtain ⟨pl, hck⟩ := mj_cT_spec hc
                  unfold mj_cck at hck
                  dsimp only at hck
                  rw [if_neg (show ¬ (6 : Nat) = 5 by decide), if_pos rfl] at hck
                  have hw := mj_w0_in pl (of_decide_eq_true hck) rfl
                  exact va_mmin hx hb (by rw [hL.1]) hown (hts _ hw) (hts _ mj_w_smin) (hts _ mj_w_math) (hts _ mj_w_cmin) (by omega) (by rw [mj_sum hst.t.t]; omega) hR.2.2.1 hR.2.2.2 hdg (hk ls H locs hL hst.t.t.i hW)
                · cases hs
              · cases hs
            · cases hs
    · cases hs
  case invokevirtual j =>
    obtain rfl := mj_nk hn (k := 3) rfl (by decide)
    have hs : mj_ivv (mj_own id) j st = _ := hs
    unfold mj_ivv at hs
    split at hs
    · split at hs
      · unfold mj_vcl at hs
        split at hs
        · split at hs
          · split at hs
            · cases hs
            · cases hs
          · cases hs
        · cases hs
      · cases hs
    · cases hs
  case ireturn  =>
    obtain rfl := mj_nk hn (k := 1) rfl (by decide)
    have hs : mj_rti id st = _ := hs
    unfold mj_rti at hs
    (repeat' split at hs) <;> cases hs
  case areturn  =>
    obtain rfl := mj_nk hn (k := 1) rfl (by decide)
    have hs : mj_rta id st = _ := hs
    unfold mj_rta at hs
    (repeat' split at hs) <;> cases hs
  case return_  =>
    obtain rfl := mj_nk hn (k := 1) rfl (by decide)
    have hs : mj_rtv id st = _ := hs
    unfold mj_rtv at hs
    (repeat' split at hs) <;> cases hs
  all_goals (exfalso; have hs : none = some _ := hs; cases hs)
end MJS
