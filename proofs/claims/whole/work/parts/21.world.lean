def mj_A (ad : Nat → Nat) : Nat → Prop := fun q => ∃ i, i < 72 ∧ q = ad i
def mj_tr (ad : Nat → Nat) (v : Value) : Value := match v with
  | .ref a => .ref (ad a)
  | v => v
def mj_bt (j : Nat) : Int32 := ([99, 97, 108, 103, 115, 107, 102, 100, 109] : List Int32).getD j 0
def mj_cel (ad : Nat → Nat) (cI cB : ClassId) (M : mj_M) (i : Nat) : va_E := if mj_ial i ≠ 0 then .inl (cI, mj_ial i, .inl (M i)) else if mj_bal i ≠ 0 then .inl (cB, mj_bal i, .inl (M i)) else .inr (mj_ocl i, (List.range (mj_nf (mj_ocl i))).map (fun j => mj_tr ad (mj_fv M i j (mj_fk (mj_ocl i) j))))
def mj_ws (ad : Nat → Nat) (cI cB : ClassId) (M : mj_M) : va_W := (List.range 72).map (fun i => (ad i, mj_cel ad cI cB M i))
theorem mj_ws_get {ad : Nat → Nat} {cI cB : ClassId} {M : mj_M} {i : Nat} (h : i < 72) : (mj_ws ad cI cB M)[i]? = some (ad i, mj_cel ad cI cB M i) := by
  unfold mj_ws
  rw [List.getElem?_map, List.getElem?_range h]
  rfl
theorem mj_ws_none {ad : Nat → Nat} {cI cB : ClassId} {M : mj_M} {i : Nat} (h : ¬ i < 72) : (mj_ws ad cI cB M)[i]? = none := by
  apply List.getElem?_eq_none
  unfold mj_ws
  rw [List.length_map, List.length_range]
  omega
theorem mj_cel_cong {ad : Nat → Nat} {cI cB : ClassId} {M M' : mj_M} {i : Nat} (h : M' i = M i) : mj_cel ad cI cB M' i = mj_cel ad cI cB M i := by
  unfold mj_cel mj_fv
  rw [h]
theorem mj_ws_set {ad : Nat → Nat} {cI cB : ClassId} {M M' : mj_M} {i : Nat} {e : va_E} (hi : i < 72) (he : mj_cel ad cI cB M' i = e) (ho : ∀ j, j ≠ i → M' j = M j) : (mj_ws ad cI cB M).set i (ad i, e) = mj_ws ad cI cB M' := by
  apply List.ext_getElem?
  intro k
  rw [List.getElem?_set]
  by_cases hk : i = k
  · subst hk
    have hl : i < (mj_ws ad cI cB M).length := by
      unfold mj_ws
      rw [List.length_map, List.length_range]
      exact hi
    rw [if_pos rfl, if_pos hl, mj_ws_get hi, he]
  · rw [if_neg hk]
    by_cases hk2 : k < 72
    · rw [mj_ws_get hk2, mj_ws_get hk2, mj_cel_cong (ho k (fun e => hk e.symm))]
    · rw [mj_ws_none hk2, mj_ws_none hk2]
theorem mj_ws_D {ad : Nat → Nat} {cI cB : ClassId} {M : mj_M} (hinj : ∀ i j, i < 72 → j < 72 → ad i = ad j → i = j) : va_D (mj_A ad) (mj_ws ad cI cB M) := by
  constructor
  · intro i j p q hp hq e
    by_cases hi : i < 72
    · by_cases hj : j < 72
      · rw [mj_ws_get hi] at hp
        rw [mj_ws_get hj] at hq
        cases hp
        cases hq
        exact hinj i j hi hj e
      · rw [mj_ws_none hj] at hq; cases hq
    · rw [mj_ws_none hi] at hp; cases hp
  · intro k q hq
    by_cases hk : k < 72
    · rw [mj_ws_get hk] at hq
      cases hq
      exact ⟨k, hk, rfl⟩
    · rw [mj_ws_none hk] at hq; cases hq
theorem mj_o8 : ∀ a, a < 75 → mj_ocl a < 8 → a < 72 ∧ mj_ial a = 0 ∧ mj_bal a = 0 := by decide +kernel
theorem mj_o14 : ∀ a, a < 75 → mj_ocl a = 14 → a = 73 := by decide +kernel
theorem mj_obj {a ci : Nat} (h : mj_ocl a = ci) (hc : ci < 8) : a < 72 ∧ mj_ial a = 0 ∧ mj_bal a = 0 := mj_o8 a (mj_ocl_lt (by omega)) (by omega)
theorem mj_str {a : Nat} (h : mj_ocl a = 14) : a = 73 := mj_o14 a (mj_ocl_lt (by omega)) h
theorem mj_ial_lt {a : Nat} (h : mj_ial a ≠ 0) : a < 72 := by
  rcases Nat.lt_or_ge a 72 with q | q
  · exact q
  · exact absurd (show mj_ial a = 0 from by
      unfold mj_ial
      rw [List.getD_eq_getElem?_getD, List.getElem?_eq_none (by exact q)]
      rfl) h
theorem mj_bal_50 {a : Nat} (h : mj_bal a ≠ 0) : a = 50 := by
  unfold mj_bal at h
  split at h
  · assumption
  · exact absurd rfl h
theorem mj_cel_o {ad : Nat → Nat} {cI cB : ClassId} {M : mj_M} {a ci : Nat} (h : mj_ocl a = ci) (hc : ci < 8) : mj_cel ad cI cB M a = .inr (ci, (List.range (mj_nf ci)).map (fun j => mj_tr ad (mj_fv M a j (mj_fk ci j)))) := by
  obtain ⟨-, h1, h2⟩ := mj_obj h hc
  subst h
  unfold mj_cel
  rw [if_neg (by omega), if_neg (by omega)]
theorem mj_cel_i {ad : Nat → Nat} {cI cB : ClassId} {M : mj_M} {a : Nat} (h : mj_ial a ≠ 0) : mj_cel ad cI cB M a = .inl (cI, mj_ial a, .inl (M a)) := by
  unfold mj_cel
  rw [if_pos h]
theorem mj_cel_b {ad : Nat → Nat} {cI cB : ClassId} {M : mj_M} : mj_cel ad cI cB M 50 = .inl (cB, 260, .inl (M 50)) := rfl
theorem mj_row_ne {M : mj_M} {i j : Nat} {f : Nat → Int32} (h : j ≠ i) : mj_row M i f j = M j := by
  unfold mj_row
  rw [if_neg h]
theorem mj_row_eq {M : mj_M} {i : Nat} {f : Nat → Int32} : mj_row M i f i = f := by
  unfold mj_row
  rw [if_pos rfl]
theorem mj_bit {x : Int32} (h : x &&& 1 = x) : x = 0 ∨ x = 1 := by
  have e := pk_and x (m := 1) 1 (by decide)
  rw [h] at e
  have h2 : x.toBitVec.toNat % 2 ^ 1 = 0 ∨ x.toBitVec.toNat % 2 ^ 1 = 1 := by omega
  rcases h2 with h2 | h2
  · rw [h2] at e; exact Or.inl (e.trans (by decide))
  · rw [h2] at e; exact Or.inr (e.trans (by decide))
def mj_Out (ad : Nat → Nat) (sl : Nat) (xs : Nat → Int32) (A : Nat → Prop) (U : State) (H : Heap) : Prop :=
  va_T .int (ad 72) sl (fun j => .int (xs j)) A U H ∧ va_O "java/lang/String" (ad 73) A U H ∧ va_OF "java/lang/String" "coder" "B" (.int 0) (ad 73) A U H ∧ va_OF "java/lang/String" "value" "[B" (.ref (ad 74)) (ad 73) A U H ∧ va_T .byte (ad 74) 9 (fun j => .int (mj_bt j)) A U H ∧ va_Z "java/lang/String" "COMPACT_STRINGS" "Z" (.int 1) A U H
theorem mj_Out.moved {ad : Nat → Nat} {sl : Nat} {xs : Nat → Int32} {A : Nat → Prop} {u U : State} {H : Heap} (hvm : u.vm.Alike U.vm) (h : mj_Out ad sl xs A u H) : mj_Out ad sl xs A U H :=
  ⟨va_T.moved hvm h.1, va_O.moved hvm h.2.1, va_OF.moved hvm h.2.2.1, va_OF.moved hvm h.2.2.2.1, va_T.moved hvm h.2.2.2.2.1, va_Z.moved hvm h.2.2.2.2.2⟩
theorem mj_Out.kept {ad : Nat → Nat} {sl : Nat} {xs : Nat → Int32} {A : Nat → Prop} {U : State} {H H1 : Heap} (h : mj_Out ad sl xs A U H) (hq : ∀ a : Nat, a < H.size → ¬ A a → H1[a]? = H[a]?) : mj_Out ad sl xs A U H1 :=
  ⟨h.1.kept hq, h.2.1.kept hq, h.2.2.1.kept hq, h.2.2.2.1.kept hq, h.2.2.2.2.1.kept hq, h.2.2.2.2.2.kept hq⟩
def mj_Vm (ad : Nat → Nat) (U : State) : Prop := va_Nw (.methodLinkNest "CourtHand$LawReader" 55 ⟨"CourtHand", "fault", "(II)I"⟩ "CourtHand") U ∧ va_Nw (.methodLinkNest "CourtHand$Order" 52 ⟨"CourtHand", "fault", "(II)I"⟩ "CourtHand") U ∧ va_Nw (.methodLinkNest "CourtHand$Blots" 25 ⟨"CourtHand", "fault", "(II)I"⟩ "CourtHand") U ∧ vk_R "CourtHand$LawReader" 104 "calgskfdm" (ad 73) U
theorem mj_Vm.warm {ad : Nat → Nat} {s U : State} (hW : s.WarmedH U.vm) (h : mj_Vm ad s) : mj_Vm ad U := ⟨va_Nw.warmM hW h.1, va_Nw.warmM hW h.2.1, va_Nw.warmM hW h.2.2.1, vk_R.warm hW h.2.2.2⟩
theorem mj_Vm.same {ad : Nat → Nat} {s U : State} (hv : s.vm = U.vm) (h : mj_Vm ad s) : mj_Vm ad U := ⟨va_Nw.same rfl hv h.1, va_Nw.same rfl hv h.2.1, va_Nw.same rfl hv h.2.2.1, vk_R.same hv.symm h.2.2.2⟩
def mj_ok (v : Value) : Prop := (∃ x, v = .int x) ∨ ∃ a, v = .ref a
def mj_SK (st : List Value) : Prop := ∀ v ∈ st, mj_ok v
def mj_LR (ad : Nat → Nat) (ls : Array Slot) (nL : Nat) (L : List Value) : Prop := ls.size = nL ∧ lv_wf ls ∧ L.length = nL ∧ (∀ v ∈ L, mj_ok v ∨ v = .null) ∧ ∀ (i : Nat) (v : Value), L[i]? = some v → v ≠ .null → ls[i]? = some (.val (mj_tr ad v))
theorem mj_SK.i {x : Int32} {st : List Value} (h : mj_SK st) : mj_SK (.int x :: st) := fun v hv => by
  rcases List.mem_cons.mp hv with e | hv
  · exact Or.inl ⟨x, e⟩
  · exact h v hv
theorem mj_SK.r {x : Nat} {st : List Value} (h : mj_SK st) : mj_SK (.ref x :: st) := fun v hv => by
  rcases List.mem_cons.mp hv with e | hv
  · exact Or.inr ⟨x, e⟩
  · exact h v hv
theorem mj_SK.t {x : Value} {st : List Value} (h : mj_SK (x :: st)) : mj_SK st := fun v hv => h v (List.mem_cons_of_mem _ hv)
theorem mj_ok.cat {ad : Nat → Nat} {v : Value} (h : mj_ok v ∨ v = .null) : (mj_tr ad v).category = 1 := by
  rcases h with (⟨x, rfl⟩ | ⟨a, rfl⟩) | rfl <;> rfl
def mj_lv (ad : Nat → Nat) (L : List Value) : List (Nat × Value) := (List.range L.length).filterMap (fun (i : Nat) => match (L[i]? : Option Value) with
  | some Value.null => none
  | some v => some (i, mj_tr ad v)
  | none => none)
theorem mj_lv_mem {ad : Nat → Nat} {L : List Value} {i : Nat} {v : Value} (h : L[i]? = some v) (hn : v ≠ .null) : (i, mj_tr ad v) ∈ mj_lv ad L := by
  unfold mj_lv
  refine List.mem_filterMap.mpr ⟨i, List.mem_range.mpr (List.getElem?_eq_some_iff.mp h).1, ?_⟩
  rw [h]
  cases v <;> first | rfl | exact absurd rfl hn
theorem mj_lv_of {ad : Nat → Nat} {L : List Value} {q : Nat × Value} (h : q ∈ mj_lv ad L) : ∃ v, L[q.1]? = some v ∧ v ≠ .null ∧ q.2 = mj_tr ad v := by
  unfold mj_lv at h
  obtain ⟨i, -, h⟩ := List.mem_filterMap.mp h
  split at h
  · cases h
  · next v hn hv =>
    cases h
    exact ⟨_, hv, hn, rfl⟩
  · cases h
theorem mj_LR.has {ad : Nat → Nat} {ls : Array Slot} {nL : Nat} {L : List Value} (h : mj_LR ad ls nL L) : lv_has ls nL (mj_lv ad L) := by
  refine ⟨h.1, h.2.1, fun q hq => ?_⟩
  obtain ⟨v, h1, h2, h3⟩ := mj_lv_of hq
  rw [h3]
  exact h.2.2.2.2 _ _ h1 h2
theorem mj_LR.set {ad : Nat → Nat} {ls ls' : Array Slot} {nL i : Nat} {L : List Value} {x : Value} (h : mj_LR ad ls nL L) (hx : mj_ok x) (h' : lv_has ls' nL ((i, mj_tr ad x) :: (mj_lv ad L).filter (fun q => !(q.1 == i) && !(q.1 + 1 == i && q.2.category == 2)))) : mj_LR ad ls' nL (L.set i x) := by
  refine ⟨h'.1, h'.2.1, by rw [List.length_set]; exact h.2.2.1, fun v hv => ?_, fun k v hk hn => ?_⟩
  · rcases List.mem_or_eq_of_mem_set hv with hv | hv
    · exact h.2.2.2.1 v hv
    · subst hv; exact Or.inl hx
  · rw [List.getElem?_set] at hk
    by_cases hik : i = k
    · subst hik
      rw [if_pos rfl] at hk
      split at hk
      · cases hk
        exact h'.2.2 _ List.mem_cons_self
      · cases hk
    · rw [if_neg hik] at hk
      refine h'.2.2 (k, mj_tr ad v) (List.mem_cons_of_mem _ (List.mem_filter.mpr ⟨mj_lv_mem hk hn, ?_⟩))
      have hc := mj_ok.cat (ad := ad) (h.2.2.2.1 v (List.mem_of_getElem? hk))
      have e1 : (k == i) = false := by simp; exact fun e => hik e.symm
      simp [e1, hc]
