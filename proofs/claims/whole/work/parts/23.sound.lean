def mj_rmD (d : Nat) : Room := { frames := d, cells := 0, slots := 0, locals := 40 * d }
def mj_wY (me : mj_I) : List Cond := Cond.code me.2.2.2.2.1 me.2.1 me.2.2.1 me.2.2.2.1 :: mj_w0
def mj_B (G : va_G) (ad : Nat → Nat) (cI cB : ClassId) (sl : Nat) (xs : Nat → Int32) (M : mj_M) (U : State) : Prop := va_P G mj_cl (mj_ws ad cI cB M) U.heap ∧ va_K G mj_cl [(cI, .int), (cB, .byte)] U ∧ mj_Out ad sl xs (mj_A ad) U U.heap ∧ mj_Vm ad U
def mj_Pc (G : va_G) (ad : Nat → Nat) (cI cB : ClassId) (sl : Nat) (xs : Nat → Int32) (as : List Value) (M : mj_M) : Array Value → State → Prop := va_Pc (as.map (mj_tr ad)) (mj_B G ad cI cB sl xs M)
def mj_Qc (G : va_G) (ad : Nat → Nat) (cI cB : ClassId) (r : Option Value) (M : mj_M) : Array Value → State → Outcome → State → Prop := fun _ st oc t => oc = .returned (r.map (mj_tr ad)) ∧ va_P G mj_cl (mj_ws ad cI cB M) t.heap ∧ va_F (mj_A ad) st t
def mj_nar (me : mj_I) : Nat := if me.2.2.2.2.2.2.1 = 100 then me.2.2.2.2.2.1 else me.2.2.2.2.2.1 + 1
theorem mj_mck_spec {y : Nat} {me : mj_I} (hm : mj_tab[y]? = some me) (h10 : me.1 ≠ 10) : me.2.2.2.2.1.cls = mj_cn me.1 ∧ me.2.2.1 ≤ 21 ∧ (parseMethodDescriptor me.2.2.2.2.1.desc).map (fun d => d.parameters.length) = some me.2.2.2.2.2.1 ∧ plainName me.2.2.2.2.1.cls = true ∧ me.2.2.2.2.1.cls ≠ "java/lang/invoke/MethodHandle" ∧ me.2.2.2.2.1.cls ≠ "java/lang/invoke/VarHandle" ∧ mj_nar me ≤ me.2.2.1 ∧ Cond.code me.2.2.2.2.1 me.2.1 me.2.2.1 me.2.2.2.1 ∈ mj_w0 ∧ (me.2.2.2.2.2.2.1 = 100 → .static me.2.2.2.2.1 ∈ mj_w0) ∧ (me.2.2.2.2.2.2.1 ≠ 100 → .instanceMethod me.2.2.2.2.1 ∈ mj_w0 ∧ .selects me.2.2.2.2.1.cls me.2.2.2.2.1 me.2.2.2.2.1 ∈ mj_w0 ∧ me.2.2.2.2.2.2.1 = me.1) ∧ .initialized me.2.2.2.2.1.cls ∈ mj_w0 := by
  have hmem := List.mem_of_getElem? hm
  have h1 := mj_m_ok me hmem
  have h2 := mj_cd_ok me hmem
  unfold mj_mck at h1
  rw [if_neg h10] at h1
  have hcode : Cond.code me.2.2.2.2.1 me.2.1 me.2.2.1 me.2.2.2.1 ∈ mj_w0 := by
    rcases h2 with h2 | h2
    · exact absurd h2 h10
    · exact mj_w0_in _ h2 rfl
  simp only [Bool.and_eq_true, decide_eq_true_eq] at h1
  obtain ⟨⟨⟨⟨⟨⟨⟨a1, a2⟩, a3⟩, a4⟩, a5⟩, a6⟩, a7⟩, a8⟩ := h1
  split at a8
  · next a b c d hl =>
    simp only [Bool.and_eq_true, decide_eq_true_eq] at a8
    obtain ⟨b1, b2⟩ := a8
    refine ⟨a1, a2, a3, a4, a5, a6, a7, hcode, fun hs => ?_, fun hs => ?_, mj_w0_in _ b2 rfl⟩
    · rw [if_pos hs] at b1
      exact mj_w0_in _ (of_decide_eq_true b1) rfl
    · rw [if_neg hs] at b1
      simp only [Bool.and_eq_true, decide_eq_true_eq] at b1
      exact ⟨mj_w0_in _ b1.1.1 rfl, mj_w0_in _ b1.1.2 rfl, b1.2⟩
  · cases a8
theorem mj_blind {G : va_G} {ad : Nat → Nat} {cI cB : ClassId} {sl : Nat} {xs : Nat → Int32} {as : List Value} {M : mj_M} : FrameBlind (mj_Pc G ad cI cB sl xs as M) := by
  intro a U g mk q
  obtain ⟨q0, q1, q2, q3, q4⟩ := q
  exact ⟨q0, q1, va_K.moved (u := U) (U := U.calling g mk a) (Vm.Alike.refl U.vm) q2, mj_Out.moved (u := U) (U := U.calling g mk a) (Vm.Alike.refl U.vm) q3, mj_Vm.same (s := U) (U := U.calling g mk a) rfl q4⟩
theorem mj_w_warm {s : State} {args : Array Value} (hts : ∀ w ∈ mj_w0, w.before args s = true) {w : Cond} (hw : w ∈ mj_w0) : ∀ (a' : Array Value) (U : State), s.WarmedH U.vm → w.before a' U = true :=
  fun _ _ hW => word_at hW (good_of_word (List.mem_filter.mp hw).2) (hts w hw)
theorem mj_rok_ok {k : Nat} {r : Option Value} (h : mj_rok k r) : mj_SK r.toList := by
  unfold mj_rok at h
  split at h
  · intro v hv; cases hv
  · intro v hv
    rw [Option.toList, List.mem_singleton] at hv
    exact Or.inl ⟨_, hv⟩
  · intro v hv
    rw [Option.toList, List.mem_singleton] at hv
    exact Or.inr ⟨_, hv⟩
  · exact h.elim
theorem mj_SK.app {a b : List Value} (ha : mj_SK a) (hb : mj_SK b) : mj_SK (a ++ b) := fun v hv => by
  rcases List.mem_append.mp hv with h | h
  · exact ha v h
  · exact hb v h
theorem mj_cl_name {k : Nat} (h : k < 8) : ∃ q, mj_cl[k]? = some q ∧ q.1 = mj_cn k := by
  match k, h with
  | 0, _ => exact ⟨_, rfl, rfl⟩
  | 1, _ => exact ⟨_, rfl, rfl⟩
  | 2, _ => exact ⟨_, rfl, rfl⟩
  | 3, _ => exact ⟨_, rfl, rfl⟩
  | 4, _ => exact ⟨_, rfl, rfl⟩
  | 5, _ => exact ⟨_, rfl, rfl⟩
  | 6, _ => exact ⟨_, rfl, rfl⟩
  | 7, _ => exact ⟨_, rfl, rfl⟩
theorem mj_ocl_vals : ∀ a, a < 75 → mj_ocl a < 8 ∨ mj_ocl a = 14 ∨ mj_ocl a = 100 := by decide +kernel
section MJC
variable {p : Program} {l : Launch} {e : Env} {R : Room} {s : State} {m : MethodId} {args : Array Value} {below : List Frame} {meth : Method} {c : Code} {cells slots : Nat} {Q : State → Prop}
variable {G : va_G} {ad : Nat → Nat} {cI cB : ClassId} {sl : Nat} {xs : Nat → Int32} {id d : Nat}
theorem mj_cont {H : Heap} {locs : List Loc} {pc : Nat} {ls : Array Slot} {st0 rest L : List Value} {r : Option Value} {M' : mj_M} {a : Array Value} (hr : va_Run p l e R s m args below meth c H locs cells slots 0 0 (F0 m pc ls st0) (rest.map (mj_tr ad)) (mj_Qc G ad cI cB r M' a) (mj_A ad)) (hS : va_S (mj_A ad) s.heap H locs) (hL : mj_LR ad ls c.maxLocals L) (hsk : mj_SK (r.toList ++ rest)) (h72 : M' 72 = xs) (h74 : M' 74 = mj_bt) (hk : mj_Go p l e R s m args below meth c cells slots Q G ad cI cB xs (pc + 3) L (r.toList ++ rest) M') : W p l e R s m args below meth c H locs cells slots Q (F0 m pc ls st0) := by
  intro T hT X
  obtain ⟨v, st₀, t, T', Lc, h0, X', hLc, e1, e2, ⟨hv, hp, hz, hkF⟩, st⟩ := hr T hT X
  cases hv
  rw [h0] at hz hkF
  have hS' : va_S (mj_A ad) s.heap T'.heap (locs ++ Lc) := ⟨Nat.le_trans hS.1 (by rw [e1]; exact hz), fun q h1 h2 => by rw [e1, hkF q (Nat.lt_of_lt_of_le h1 hS.1) h2]; exact hS.2.1 q h1 h2, fun q hq => by
    rcases List.mem_append.mp hq with h | h
    · exact hS.2.2 q h
    · exact hLc q h⟩
  obtain ⟨t2, a1, b1⟩ := hk ls T'.heap (locs ++ Lc) hL hsk ⟨by rw [e1]; exact hp, hS', h72, h74⟩ T' rfl X'
  refine ⟨t2, st t2 ?_, b1⟩
  have e3 : (r.toList ++ rest).map (mj_tr ad) = (r.map (mj_tr ad)).toList ++ rest.map (mj_tr ad) := by
    rw [List.map_append]
    cases r <;> rfl
  rw [e3] at a1
  exact a1
theorem mj_callB {k j y dd : Nat} {me : mj_I} (hts : ∀ w ∈ mj_w0, w.before args s = true) (hm : mj_tab[y]? = some me) (h10 : me.1 ≠ 10) (hR : dd + 1 ≤ R.frames ∧ 40 * (dd + 1) ≤ R.locals) (hw : .methodLink (mj_cn k) j me.2.2.2.2.1 ∈ mj_w0) : CallB R s args (mj_cn k) j me.2.2.2.2.1 me.2.1 me.2.2.1 me.2.2.2.1 (mj_wY me) (mj_rmD dd) 0 0 me.2.2.2.2.2.1 := by
  obtain ⟨a1, a2, a3, a4, a5, a6, a7, a8, a9, a10, a11⟩ := mj_mck_spec hm h10
  refine ⟨rfl, rfl, hR.1, ?_, ?_, List.mem_cons_self, hts _ a8, hts _ a11, ⟨a5, a6⟩, ?_, hts _ hw⟩
  · show 8 + (me.2.2.1 + 11) + 40 * dd ≤ R.locals
    omega
  · intro w hw2
    rcases List.mem_cons.mp hw2 with z | z
    · rw [z]; exact mj_w_warm hts a8
    · exact mj_w_warm hts z
  · intro sig hsig
    rw [hsig] at a3
    exact (Option.some.inj a3).symm
end MJC
