def mj_Ni (U : State) : Prop := va_Nw (.methodLinkNest "CourtHand" 9 ⟨"CourtHand$Models", "<init>", "()V"⟩ "CourtHand") U ∧ va_Nw (.methodLinkNest "CourtHand" 33 ⟨"CourtHand$Tape", "<init>", "()V"⟩ "CourtHand") U ∧ va_Nw (.methodLinkNest "CourtHand" 40 ⟨"CourtHand$Order", "<init>", "()V"⟩ "CourtHand") U ∧ va_Nw (.methodLinkNest "CourtHand$LawReader" 11 ⟨"CourtHand$Law", "<init>", "()V"⟩ "CourtHand") U ∧ va_Nw (.methodLinkNest "CourtHand" 63 ⟨"CourtHand$Law", "<init>", "()V"⟩ "CourtHand") U
theorem mj_Ni.warm {s U : State} (hW : s.WarmedH U.vm) (h : mj_Ni s) : mj_Ni U := ⟨va_Nw.warmM hW h.1, va_Nw.warmM hW h.2.1, va_Nw.warmM hW h.2.2.1, va_Nw.warmM hW h.2.2.2.1, va_Nw.warmM hW h.2.2.2.2⟩
theorem mj_Ni.same {s U : State} (hv : s.vm = U.vm) (h : mj_Ni s) : mj_Ni U := ⟨va_Nw.same rfl hv h.1, va_Nw.same rfl hv h.2.1, va_Nw.same rfl hv h.2.2.1, va_Nw.same rfl hv h.2.2.2.1, va_Nw.same rfl hv h.2.2.2.2⟩
def mj_Ip (G : va_G) (cI cB : ClassId) (ws : va_W) (sz : Nat) (U : State) : Prop := U.heap.size = sz ∧ va_P G mj_cl ws U.heap ∧ va_K G mj_cl [(cI, .int), (cB, .byte)] U ∧ va_D (fun _ => True) ws ∧ mj_Ni U
def mj_Iq (G : va_G) (x : va_W) (sz k : Nat) (sh : List Nat → va_W) : Array Value → State → Outcome → State → Prop := fun _ st oc t => oc = .returned none ∧ (∃ qs : List Nat, qs.length = k ∧ va_P G mj_cl (sh qs) t.heap ∧ va_D (va_A x sz) (sh qs)) ∧ va_F (va_A x sz) st t
theorem mj_Ip.blind {G : va_G} {cI cB : ClassId} {ws : va_W} {sz : Nat} {av : List Value} : FrameBlind (va_Pc av (mj_Ip G cI cB ws sz)) := by
  intro a U g mk q
  obtain ⟨q0, q1, q2, q3, q4, q5⟩ := q
  exact ⟨q0, q1, q2, va_K.moved (u := U) (U := U.calling g mk a) (Vm.Alike.refl U.vm) q3, q4, mj_Ni.same (s := U) (U := U.calling g mk a) rfl q5⟩
theorem mj_len1 {l : List Nat} (h : l.length = 1) : ∃ a, l = [a] := by
  match l, h with
  | [a], _ => exact ⟨a, rfl⟩
theorem mj_len4 {l : List Nat} (h : l.length = 4) : ∃ a b c d, l = [a, b, c, d] := by
  match l, h with
  | [a, b, c, d], _ => exact ⟨a, b, c, d, rfl⟩
theorem mj_len5 {l : List Nat} (h : l.length = 5) : ∃ a b c d e, l = [a, b, c, d, e] := by
  match l, h with
  | [a, b, c, d, e], _ => exact ⟨a, b, c, d, e, rfl⟩
theorem mj_len6 {l : List Nat} (h : l.length = 6) : ∃ a b c d e f, l = [a, b, c, d, e, f] := by
  match l, h with
  | [a, b, c, d, e, f], _ => exact ⟨a, b, c, d, e, f, rfl⟩
theorem mj_len7 {l : List Nat} (h : l.length = 7) : ∃ a b c d e f g, l = [a, b, c, d, e, f, g] := by
  match l, h with
  | [a, b, c, d, e, f, g], _ => exact ⟨a, b, c, d, e, f, g, rfl⟩
section MJI
variable {p : Program} {l : Launch} {e : Env} {R : Room} {s : State} {m : MethodId} {args : Array Value} {below : List Frame} {meth : Method} {c : Code} {H : Heap} {locs : List Loc} {cells slots : Nat} {Q : State → Prop}
variable {cc : ByteArray} {pc : Nat} {ls : Array Slot} {rest : List Value} {G : va_G} {cI cB : ClassId} {A : Nat → Prop} {ws tl : va_W} {H0 : Heap} {x : Nat × va_E}
theorem mj_lastP (hP : va_P G mj_cl (tl ++ [x]) H) : va_P G mj_cl [x] H := fun k q hk => by
  have hq : q ∈ tl ++ [x] := List.mem_append_right _ (List.mem_of_getElem? hk)
  obtain ⟨i, hi⟩ := List.getElem?_of_mem hq
  exact hP i q hi
theorem mj_headP (hP : va_P G mj_cl (tl ++ ws) H) : va_P G mj_cl tl H := fun k q hk => by
  obtain ⟨i, hi⟩ := List.getElem?_of_mem (List.mem_append_left ws (List.mem_of_getElem? hk))
  exact hP i q hi
theorem mj_lastD (hD : va_D A (tl ++ [x])) : va_D A [x] := by
  refine ⟨fun i j p q hp hq _ => ?_, fun k q hk => ?_⟩
  · have h1 : i < 1 := (List.getElem?_eq_some_iff.mp hp).1
    have h2 : j < 1 := (List.getElem?_eq_some_iff.mp hq).1
    omega
  · obtain ⟨i, hi⟩ := List.getElem?_of_mem (List.mem_append_right tl (List.mem_of_getElem? hk))
    exact hD.2 i q hi
theorem mj_headD (hD : va_D A (tl ++ ws)) : va_D A tl := by
  have key : ∀ (k : Nat) (q : Nat × va_E), tl[k]? = some q → (tl ++ ws)[k]? = some q := fun k q hk => by
    rw [List.getElem?_append_left (List.getElem?_eq_some_iff.mp hk).1]
    exact hk
  exact ⟨fun i j p q hp hq e => hD.1 i j p q (key i p hp) (key j q hq) e, fun k q hk => hD.2 k q (key k q hk)⟩
theorem mj_freeL (hD : va_D A (tl ++ [x])) (hS : va_S A H0 H locs) (hA : ∀ q, H0.size ≤ q → A q) : ∀ q, va_A [x] H.size q → A q := by
  intro q h
  rcases h with ⟨k, e, h⟩ | h
  · exact (mj_lastD hD).2 k (q, e) h
  · exact hA q (Nat.le_trans hS.1 h)
theorem mj_apartL (hP : va_P G mj_cl (tl ++ [x]) H) (hD : va_D A (tl ++ [x])) {k : Nat} {q : Nat × va_E} (hk : tl[k]? = some q) : q.1 < H.size ∧ ¬ va_A [x] H.size q.1 := by
  have h1 : (tl ++ [x])[k]? = some q := by
    rw [List.getElem?_append_left (List.getElem?_eq_some_iff.mp hk).1]
    exact hk
  have hl := (hP k q h1).lt
  refine ⟨hl, fun h => ?_⟩
  rcases h with ⟨k2, e, h⟩ | h
  · have h3 : k2 < 1 := (List.getElem?_eq_some_iff.mp h).1
    obtain rfl : k2 = 0 := by omega
    have h4 : (tl ++ [x])[tl.length]? = some (q.1, e) := by
      rw [List.getElem?_append_right (Nat.le_refl _), Nat.sub_self]
      exact h
    have := hD.1 k tl.length q (q.1, e) h1 h4 rfl
    have := (List.getElem?_eq_some_iff.mp hk).1
    omega
  · omega
theorem mj_joinL {w1 : va_W} {H1 : Heap} (hP : va_P G mj_cl (tl ++ [x]) H) (hD : va_D A (tl ++ [x])) (hF : ∀ q, va_A [x] H.size q → A q) (hk : ∀ q : Nat, q < H.size → ¬ va_A [x] H.size q → H1[q]? = H[q]?) (hP1 : va_P G mj_cl w1 H1) (hD1 : va_D (va_A [x] H.size) w1) : va_P G mj_cl (tl ++ w1) H1 ∧ va_D A (tl ++ w1) := by
  refine ⟨va_P.app (fun k q hq => ?_) hP1, va_D.app (mj_headD hD) (hD1.weaken (fun k q _ h => hF q.1 h)) (fun i j u v hu hv huv => ?_)⟩
  · obtain ⟨g1, g2⟩ := mj_apartL hP hD hq
    exact (mj_headP hP k q hq).kept (hk q.1 g1 g2)
  · exact (mj_apartL hP hD hu).2 (by rw [huv]; exact hD1.2 j v hv)
theorem mj_ictor {st0 : List Value} {mc ms k : Nat} {sh : List Nat → va_W} {a : Array Value} (hr : va_Run p l e R s m args below meth c H locs cells slots mc ms (F0 m pc ls st0) rest (mj_Iq G [x] H.size k sh a) (va_A [x] H.size)) (hP : va_P G mj_cl (tl ++ [x]) H) (hD : va_D A (tl ++ [x])) (hS : va_S A H0 H locs) (hA : ∀ q, H0.size ≤ q → A q)
    (kk : ∀ (qs : List Nat) (H1 : Heap) (locs1 : List Loc), qs.length = k → va_P G mj_cl (tl ++ sh qs) H1 → va_D A (tl ++ sh qs) → va_S A H0 H1 locs1 → W p l e R s m args below meth c H1 locs1 (cells + mc) (slots + ms) Q (F0 m (pc + 3) ls rest)) : W p l e R s m args below meth c H locs cells slots Q (F0 m pc ls st0) := by
  have hF := mj_freeL hD hS hA
  intro T hT X
  obtain ⟨v, st₀, t, T', L, h0, X', hL, e1, e2, ⟨hv, ⟨qs, hq, hP1, hD1⟩, hz, hk⟩, st⟩ := hr T hT X
  cases hv
  rw [h0] at hz hk
  rw [← e1] at hP1 hz hk
  obtain ⟨hP2, hD2⟩ := mj_joinL hP hD hF hk hP1 hD1
  obtain ⟨t2, a1, b1⟩ := kk qs T'.heap (locs ++ L) hq hP2 hD2
    ⟨Nat.le_trans hS.1 hz, fun q h1 h2 => by rw [hk q (Nat.lt_of_lt_of_le h1 hS.1) (fun z => h2 (hF q z))]; exact hS.2.1 q h1 h2, fun q hq => by
      rcases List.mem_append.mp hq with h | h
      · exact hS.2.2 q h
      · exact hF _ (hL q h)⟩ T' rfl X'
  exact ⟨t2, st t2 a1, b1⟩
theorem mj_newI (hexec : p.tables.exec = Jvm.exec) (hb : c.code = cc) (harr : (Cond.arrayClass .int).before args s = true) (hK : va_K G mj_cl [(cI, .int), (cB, .byte)] s) (hP : va_P G mj_cl ws H) (hD : va_D A ws) (hS : va_S A H0 H locs) (hA : ∀ q, H0.size ≤ q → A q) {n : Int32} {N : Nat} (hn : ¬ n < 0) (hN : n.toNatClampNeg = N) (hbytes : N * componentBytes .int ≤ 536870912) (hcells : cells + 1 ≤ R.cells) (hslots : slots + N ≤ R.slots) (hdg : decode cc pc = .ok (.newarray .int, 2))
    (kk : ∀ (q : Nat) (H1 : Heap), va_P G mj_cl (ws ++ [(q, .inl (cI, N, .inl (fun _ => 0)))]) H1 → va_D A (ws ++ [(q, .inl (cI, N, .inl (fun _ => 0)))]) → va_S A H0 H1 locs → W p l e R s m args below meth c H1 locs (cells + 1) (slots + N) Q (F0 m (pc + 2) ls (.ref q :: rest))) : W p l e R s m args below meth c H locs cells slots Q (F0 m pc ls (.int n :: rest)) := by
  refine va_newa (atype := .int) (ty := .int) (a0 := (N, .inl (fun _ => 0))) hexec hb harr rfl hK hP hD hS hA (fun _ => rfl) hn hN hbytes hcells hslots hdg (fun q cA H1 hK1 hP1 hD1 hS1 => ?_)
  have e1 : s.vm.findClass ("[" ++ (FieldType.int).toString) = some cI := (hK.2 0 _ rfl).2
  have e2 : s.vm.findClass ("[" ++ (FieldType.int).toString) = some cA := (hK1.2 2 _ rfl).2
  obtain rfl : cI = cA := Option.some.inj (e1.symm.trans e2)
  exact kk q H1 hP1 hD1 hS1
theorem mj_newB (hexec : p.tables.exec = Jvm.exec) (hb : c.code = cc) (harr : (Cond.arrayClass .byte).before args s = true) (hK : va_K G mj_cl [(cI, .int), (cB, .byte)] s) (hP : va_P G mj_cl ws H) (hD : va_D A ws) (hS : va_S A H0 H locs) (hA : ∀ q, H0.size ≤ q → A q) {n : Int32} {N : Nat} (hn : ¬ n < 0) (hN : n.toNatClampNeg = N) (hbytes : N * componentBytes .byte ≤ 536870912) (hcells : cells + 1 ≤ R.cells) (hslots : slots + N ≤ R.slots) (hdg : decode cc pc = .ok (.newarray .byte, 2))
    (kk : ∀ (q : Nat) (H1 : Heap), va_P G mj_cl (ws ++ [(q, .inl (cB, N, .inl (fun _ => 0)))]) H1 → va_D A (ws ++ [(q, .inl (cB, N, .inl (fun _ => 0)))]) → va_S A H0 H1 locs → W p l e R s m args below meth c H1 locs (cells + 1) (slots + N) Q (F0 m (pc + 2) ls (.ref q :: rest))) : W p l e R s m args below meth c H locs cells slots Q (F0 m pc ls (.int n :: rest)) := by
  refine va_newa (atype := .byte) (ty := .byte) (a0 := (N, .inl (fun _ => 0))) hexec hb harr rfl hK hP hD hS hA (fun _ => rfl) hn hN hbytes hcells hslots hdg (fun q cA H1 hK1 hP1 hD1 hS1 => ?_)
  have e1 : s.vm.findClass ("[" ++ (FieldType.byte).toString) = some cB := (hK.2 1 _ rfl).2
  have e2 : s.vm.findClass ("[" ++ (FieldType.byte).toString) = some cA := (hK1.2 2 _ rfl).2
  obtain rfl : cB = cA := Option.some.inj (e1.symm.trans e2)
  exact kk q H1 hP1 hD1 hS1
end MJI
