def mj_sg (y : Nat) : Option (Nat × Nat) := (mj_tab[y]?).map (fun me => (me.2.2.2.2.2.1, me.2.2.2.2.2.2.1))
def mj_cs (k j : Nat) : Option (Nat × Nat × Nat × Nat × Nat) := match mj_cT k j with
  | none => none
  | some (kd, y) => match mj_tab[y]? with
    | none => none
    | some me => some (kd, y, me.2.2.2.2.2.1, me.2.2.2.2.2.2.1, mj_rk y)
def mj_rt (id : Nat) : Nat := match mj_tab[id]? with
  | none => 9
  | some me => if me.2.2.2.1 = none then 0 else if me.2.2.2.1 = some .int then 1 else if me.2.2.2.1 = some .boolean then 2 else if me.2.2.2.1 = some (.object "CourtHand$Law") then 3 else if me.2.2.2.1 = some .byte then 4 else 8
theorem mj_cs_spec {k j kd y n ci rk : Nat} (h : mj_cs k j = some (kd, y, n, ci, rk)) : mj_cT k j = some (kd, y) ∧ (∃ me, mj_tab[y]? = some me ∧ me.2.2.2.2.2.1 = n ∧ me.2.2.2.2.2.2.1 = ci) ∧ mj_rk y = rk := by
  unfold mj_cs at h
  split at h
  · cases h
  · next kd' y' hc =>
    split at h
    · cases h
    · next me hm =>
      cases h
      exact ⟨hc, ⟨me, hm, rfl, rfl⟩, rfl⟩
theorem mj_rt_spec {id k : Nat} (h : mj_rt id = k) (hk : k < 9) : ∃ me, mj_tab[id]? = some me ∧ (k = 0 → me.2.2.2.1 = none) ∧ (k = 1 → me.2.2.2.1 = some .int) ∧ (k = 2 → me.2.2.2.1 = some .boolean) ∧ (k = 3 → me.2.2.2.1 = some (.object "CourtHand$Law")) ∧ (k = 4 → me.2.2.2.1 = some .byte) := by
  unfold mj_rt at h
  split at h
  · omega
  · next me hm =>
    refine ⟨me, hm, ?_⟩
    (repeat' split at h) <;> subst h <;> simp_all
def mj_rm (x y : Int32) : Int32 := x - x / y * y
def mj_us (x y : Int32) : Int32 := (x.toUInt32 >>> (y.toUInt32 &&& Int32.toUInt32 31)).toInt32
def mj_cp (M : mj_M) (a b sp dp n : Nat) : mj_M := mj_row M b (va_cpy (M a) (M b) sp dp n)
section MJ2
variable {sl d id pc : Nat} {L st : List Value} {M : mj_M}
theorem mj_Es {i : Instr} {pc' : Nat} {L' st' : List Value} {M' : mj_M} (h : mj_at id pc = some i) (hs : mj_stp sl d id i pc L st M = some (.inl (pc', L', st', M'))) : mj_E sl d id pc L st M = mj_E sl d id pc' L' st' M' := by
  unfold mj_E
  rw [mj_Fs h hs]
theorem mj_Er {i : Instr} {r : Option Value} (h : mj_at id pc = some i) (hs : mj_stp sl d id i pc L st M = some (.inr (.inl r))) : mj_E sl d id pc L st M = some (mj_cd r, M) := by
  unfold mj_E
  rw [mj_Fr h hs]
  rfl
theorem mj_En {i : Instr} (h : mj_at id pc = some i) (hs : mj_stp sl d id i pc L st M = none) : mj_E sl d id pc L st M = none := by
  unfold mj_E
  rw [mj_Fn h hs]
  rfl
theorem mj_En0 (h : mj_at id pc = none) : mj_E sl d id pc L st M = none := by
  unfold mj_E
  rw [show mj_F sl d id pc L st M = none from ?_]
  · rfl
  · refine mj_oext (fun r => ?_)
    rw [mj_F_iff]
    constructor
    · rintro ⟨n, hn⟩
      cases n with
      | zero => rw [mj_ex] at hn; cases hn
      | succ n => rw [mj_ex, h] at hn; cases hn
    · intro h; cases h
theorem mj_Eci {i : Instr} {y : Nat} {as rest : List Value} (h : mj_at id pc = some i) (hk : mj_rk y = 1) (hs : mj_stp sl (d + 1) id i pc L st M = some (.inr (.inr (y, as, rest)))) :
    mj_E sl (d + 1) id pc L st M = (mj_C sl d y as M).bind (fun q => mj_E sl (d + 1) id (pc + 3) L (.int q.1 :: rest) q.2) := by
  unfold mj_C mj_E
  rw [mj_Fc h hs]
  cases hc : mj_F sl d y 0 (mj_ent y as) [] M with
  | none => rfl
  | some q =>
    have e := mj_F_int hk hc
    show Option.map _ (mj_F sl (d + 1) id (pc + 3) L (q.1.toList ++ rest) q.2) = Option.map _ (mj_F sl (d + 1) id (pc + 3) L (.int (mj_cd q.1) :: rest) q.2)
    rw [show q.1.toList ++ rest = .int (mj_cd q.1) :: rest from by rw [e]; rfl]
theorem mj_Ecv {i : Instr} {y : Nat} {as rest : List Value} (h : mj_at id pc = some i) (hk : mj_rk y = 0) (hs : mj_stp sl (d + 1) id i pc L st M = some (.inr (.inr (y, as, rest)))) :
    mj_E sl (d + 1) id pc L st M = (mj_C sl d y as M).bind (fun q => mj_E sl (d + 1) id (pc + 3) L rest q.2) := by
  unfold mj_C mj_E
  rw [mj_Fc h hs]
  cases hc : mj_F sl d y 0 (mj_ent y as) [] M with
  | none => rfl
  | some q =>
    have e := mj_F_void hk hc
    show Option.map _ (mj_F sl (d + 1) id (pc + 3) L (q.1.toList ++ rest) q.2) = Option.map _ (mj_F sl (d + 1) id (pc + 3) L rest q.2)
    rw [show q.1.toList ++ rest = rest from by rw [e]; rfl]
theorem mj_ite {α : Type} {c : Prop} [Decidable c] {a b a' b' : α} (h1 : a = a') (h2 : b = b') : (if c then a else b) = (if c then a' else b') := by rw [h1, h2]
theorem mj_itc {α : Type} {c : Prop} [Decidable c] {a b a' b' : α} (h1 : c → a = a') (h2 : ¬ c → b = b') : (if c then a else b) = (if c then a' else b') := by
  by_cases h : c
  · rw [if_pos h, if_pos h]; exact h1 h
  · rw [if_neg h, if_neg h]; exact h2 h
theorem mj_bnd {α β : Type} {x : Option α} {f g : α → Option β} (h : ∀ q, f q = g q) : x.bind f = x.bind g := by rw [show f = g from funext h]
theorem mj_bnd2 {α β γ : Type} {x : Option (α × β)} {f : α × β → Option γ} {g : α → β → Option γ} (h : ∀ a b, f (a, b) = g a b) : x.bind f = x.bind (fun q => g q.1 q.2) := by
  rw [show f = (fun q => g q.1 q.2) from funext (fun q => h q.1 q.2)]

theorem sx_iconst {n : Int} {v : Int32} (h : mj_at id pc = some (.iconst n)) (hv : Int32.ofInt n = v) : mj_E sl d id pc L st M = mj_E sl d id (pc + 1) L (.int v :: st) M := mj_Es h (by subst hv; rfl)
theorem sx_bipush {n : Int} {v : Int32} (h : mj_at id pc = some (.bipush n)) (hv : (Int8.ofInt n).toInt32 = v) : mj_E sl d id pc L st M = mj_E sl d id (pc + 2) L (.int v :: st) M := mj_Es h (by subst hv; rfl)
theorem sx_sipush {n : Int} {v : Int32} (h : mj_at id pc = some (.sipush n)) (hv : (Int16.ofInt n).toInt32 = v) : mj_E sl d id pc L st M = mj_E sl d id (pc + 3) L (.int v :: st) M := mj_Es h (by subst hv; rfl)
theorem sx_ldc {j k : Nat} {v : Int32} (h : mj_at id pc = some (.ldc j)) (ho : mj_own id = k) (hv : mj_kT k j = some v) : mj_E sl d id pc L st M = mj_E sl d id (pc + 2) L (.int v :: st) M := mj_Es h (by simp only [mj_stp, mj_ldc, ho, hv]; rfl)
theorem sx_ldcw {j k : Nat} {v : Int32} (h : mj_at id pc = some (.ldc_w j)) (ho : mj_own id = k) (hv : mj_kT k j = some v) : mj_E sl d id pc L st M = mj_E sl d id (pc + 3) L (.int v :: st) M := mj_Es h (by simp only [mj_stp, mj_ldc, ho, hv]; rfl)
theorem sx_ldcs  (h : mj_at id pc = some (.ldc 104)) (ho : mj_own id = 2) (hv : mj_kT 2 104 = none) : mj_E sl d id pc L st M = mj_E sl d id (pc + 2) L (.ref 73 :: st) M := mj_Es h (by simp only [mj_stp, mj_ldc, ho, hv]; rfl)
theorem sx_iload_n {j : Fin 4} {x : Int32} (h : mj_at id pc = some (.iload_n j)) (hl : L[(j : Nat)]? = some (.int x)) : mj_E sl d id pc L st M = mj_E sl d id (pc + 1) L (.int x :: st) M := mj_Es h (by simp only [mj_stp, mj_ldi, hl]; rfl)
theorem sx_iload {j : Nat} {x : Int32} (h : mj_at id pc = some (.iload j)) (hl : L[(j : Nat)]? = some (.int x)) : mj_E sl d id pc L st M = mj_E sl d id (pc + 2) L (.int x :: st) M := mj_Es h (by simp only [mj_stp, mj_ldi, hl]; rfl)
theorem sx_aload_n {j : Fin 4} {x : Nat} (h : mj_at id pc = some (.aload_n j)) (hl : L[(j : Nat)]? = some (.ref x)) : mj_E sl d id pc L st M = mj_E sl d id (pc + 1) L (.ref x :: st) M := mj_Es h (by simp only [mj_stp, mj_lda, hl]; rfl)
theorem sx_aload {j : Nat} {x : Nat} (h : mj_at id pc = some (.aload j)) (hl : L[(j : Nat)]? = some (.ref x)) : mj_E sl d id pc L st M = mj_E sl d id (pc + 2) L (.ref x :: st) M := mj_Es h (by simp only [mj_stp, mj_lda, hl]; rfl)
theorem sx_istore_n {j : Fin 4} {x : Int32} {L' : List Value} (h : mj_at id pc = some (.istore_n j)) (hn : (j : Nat) < L.length) (hl : L.set (j : Nat) (.int x) = L') : mj_E sl d id pc L (.int x :: st) M = mj_E sl d id (pc + 1) L' st M := mj_Es h (by subst hl; simp only [mj_stp, mj_sti, if_pos hn]; rfl)
theorem sx_istore {j : Nat} {x : Int32} {L' : List Value} (h : mj_at id pc = some (.istore j)) (hn : (j : Nat) < L.length) (hl : L.set (j : Nat) (.int x) = L') : mj_E sl d id pc L (.int x :: st) M = mj_E sl d id (pc + 2) L' st M := mj_Es h (by subst hl; simp only [mj_stp, mj_sti, if_pos hn]; rfl)
theorem sx_astore_n {j : Fin 4} {x : Nat} {L' : List Value} (h : mj_at id pc = some (.astore_n j)) (hn : (j : Nat) < L.length) (hl : L.set (j : Nat) (.ref x) = L') : mj_E sl d id pc L (.ref x :: st) M = mj_E sl d id (pc + 1) L' st M := mj_Es h (by subst hl; simp only [mj_stp, mj_sta, if_pos hn]; rfl)
theorem sx_iinc {j : Nat} {n : Int} {v x : Int32} {L' : List Value} (h : mj_at id pc = some (.iinc j n)) (hx : L[j]? = some (.int x)) (hv : Int32.ofInt n = v) (hl : L.set j (.int (x + v)) = L') : mj_E sl d id pc L st M = mj_E sl d id (pc + 3) L' st M := mj_Es h (by subst hl; subst hv; simp only [mj_stp, hx]; rfl)
theorem sx_dupi {x : Int32} (h : mj_at id pc = some (.dup))  : mj_E sl d id pc L (.int x :: st) M = mj_E sl d id (pc + 1) L (.int x :: .int x :: st) M := mj_Es h (by rfl)
theorem sx_dupa {x : Nat} (h : mj_at id pc = some (.dup))  : mj_E sl d id pc L (.ref x :: st) M = mj_E sl d id (pc + 1) L (.ref x :: .ref x :: st) M := mj_Es h (by rfl)
theorem sx_dup2 {x : Int32} {y : Nat} (h : mj_at id pc = some (.dup2))  : mj_E sl d id pc L (.int x :: .ref y :: st) M = mj_E sl d id (pc + 1) L (.int x :: .ref y :: .int x :: .ref y :: st) M := mj_Es h (by rfl)
theorem sx_iadd {x y : Int32} (h : mj_at id pc = some (.iadd))  : mj_E sl d id pc L (.int y :: .int x :: st) M = mj_E sl d id (pc + 1) L (.int (x + y) :: st) M := mj_Es h (by rfl)
theorem sx_isub {x y : Int32} (h : mj_at id pc = some (.isub))  : mj_E sl d id pc L (.int y :: .int x :: st) M = mj_E sl d id (pc + 1) L (.int (x - y) :: st) M := mj_Es h (by rfl)
theorem sx_imul {x y : Int32} (h : mj_at id pc = some (.imul))  : mj_E sl d id pc L (.int y :: .int x :: st) M = mj_E sl d id (pc + 1) L (.int (x * y) :: st) M := mj_Es h (by rfl)
theorem sx_iand {x y : Int32} (h : mj_at id pc = some (.iand))  : mj_E sl d id pc L (.int y :: .int x :: st) M = mj_E sl d id (pc + 1) L (.int (x &&& y) :: st) M := mj_Es h (by rfl)
theorem sx_ior {x y : Int32} (h : mj_at id pc = some (.ior))  : mj_E sl d id pc L (.int y :: .int x :: st) M = mj_E sl d id (pc + 1) L (.int (x ||| y) :: st) M := mj_Es h (by rfl)
theorem sx_ixor {x y : Int32} (h : mj_at id pc = some (.ixor))  : mj_E sl d id pc L (.int y :: .int x :: st) M = mj_E sl d id (pc + 1) L (.int (x ^^^ y) :: st) M := mj_Es h (by rfl)
theorem sx_ishl {x y : Int32} (h : mj_at id pc = some (.ishl))  : mj_E sl d id pc L (.int y :: .int x :: st) M = mj_E sl d id (pc + 1) L (.int (x <<< (y &&& 31)) :: st) M := mj_Es h (by rfl)
theorem sx_ishr {x y : Int32} (h : mj_at id pc = some (.ishr))  : mj_E sl d id pc L (.int y :: .int x :: st) M = mj_E sl d id (pc + 1) L (.int (x >>> (y &&& 31)) :: st) M := mj_Es h (by rfl)
theorem sx_iushr {x y : Int32} (h : mj_at id pc = some (.iushr))  : mj_E sl d id pc L (.int y :: .int x :: st) M = mj_E sl d id (pc + 1) L (.int (mj_us x y) :: st) M := mj_Es h (by rfl)
theorem sx_idiv {x y : Int32} (h : mj_at id pc = some (.idiv)) (hy : ¬ y = 0) : mj_E sl d id pc L (.int y :: .int x :: st) M = mj_E sl d id (pc + 1) L (.int (x / y) :: st) M := mj_Es h (by simp only [mj_stp, mj_dv, if_neg hy]; rfl)
theorem sx_idivg {x y : Int32} (h : mj_at id pc = some (.idiv)) : mj_E sl d id pc L (.int y :: .int x :: st) M = if y = 0 then none else mj_E sl d id (pc + 1) L (.int (x / y) :: st) M := by
  split
  · next hy => exact mj_En h (by simp only [mj_stp, mj_dv, if_pos hy])
  · next hy => exact sx_idiv h hy
theorem sx_irem {x y : Int32} (h : mj_at id pc = some (.irem)) (hy : ¬ y = 0) : mj_E sl d id pc L (.int y :: .int x :: st) M = mj_E sl d id (pc + 1) L (.int (mj_rm x y) :: st) M := mj_Es h (by simp only [mj_stp, mj_dv, if_neg hy]; rfl)
theorem sx_iremg {x y : Int32} (h : mj_at id pc = some (.irem)) : mj_E sl d id pc L (.int y :: .int x :: st) M = if y = 0 then none else mj_E sl d id (pc + 1) L (.int (mj_rm x y) :: st) M := by
  split
  · next hy => exact mj_En h (by simp only [mj_stp, mj_dv, if_pos hy])
  · next hy => exact sx_irem h hy
theorem sx_ineg {x : Int32} (h : mj_at id pc = some (.ineg))  : mj_E sl d id pc L (.int x :: st) M = mj_E sl d id (pc + 1) L (.int (-x) :: st) M := mj_Es h (by rfl)
theorem sx_i2b {x : Int32} (h : mj_at id pc = some (.i2b))  : mj_E sl d id pc L (.int x :: st) M = mj_E sl d id (pc + 1) L (.int (x.toInt8.toInt32) :: st) M := mj_Es h (by rfl)
theorem sx_i2c {x : Int32} (h : mj_at id pc = some (.i2c))  : mj_E sl d id pc L (.int x :: st) M = mj_E sl d id (pc + 1) L (.int ((x.toUInt32 % 65536).toInt32) :: st) M := mj_Es h (by rfl)
theorem mj_go_of {pc tgt : Nat} {off : Int} {L st : List Value} {M : mj_M} (ht : (pc : Int) + off = (tgt : Int)) : mj_go pc off L st M = some (.inl (tgt, L, st, M)) := by
  unfold mj_go
  rw [ht, if_pos (by omega), Int.toNat_natCast]
theorem mj_bf_of {pc tgt : Nat} {off : Int} {L st : List Value} {M : mj_M} (ht : (pc : Int) + off = (tgt : Int)) : mj_br false pc off L st M = some (.inl (pc + 3, L, st, M)) := by
  unfold mj_br
  dsimp only
  rw [ht, if_pos (by omega)]
  rfl
theorem sx_goto {off : Int} {tgt : Nat} (h : mj_at id pc = some (.goto off)) (ht : (pc : Int) + off = (tgt : Int)) : mj_E sl d id pc L st M = mj_E sl d id tgt L st M := mj_Es h (by simp only [mj_stp]; exact mj_go_of ht)
theorem sx_icmp_eq {x y : Int32} {off : Int} {tgt : Nat} (h : mj_at id pc = some (.if_icmp .eq off)) (ht : (pc : Int) + off = (tgt : Int)) : mj_E sl d id pc L (.int y :: .int x :: st) M = if x = y then mj_E sl d id tgt L st M else mj_E sl d id (pc + 3) L st M := by
  split
  · next hc => exact mj_Es h (by simp only [mj_stp, mj_icmp, mj_ifc, mj_cmp]; rw [decide_eq_true (by exact hc)]; exact mj_go_of ht)
  · next hc => exact mj_Es h (by simp only [mj_stp, mj_icmp, mj_ifc, mj_cmp]; rw [decide_eq_false (by exact hc)]; exact mj_bf_of ht)
theorem sx_if_eq {x : Int32} {off : Int} {tgt : Nat} (h : mj_at id pc = some (.ifCond .eq off)) (ht : (pc : Int) + off = (tgt : Int)) : mj_E sl d id pc L (.int x :: st) M = if x = 0 then mj_E sl d id tgt L st M else mj_E sl d id (pc + 3) L st M := by
  split
  · next hc => exact mj_Es h (by simp only [mj_stp, mj_icmp, mj_ifc, mj_cmp]; rw [decide_eq_true (by exact hc)]; exact mj_go_of ht)
  · next hc => exact mj_Es h (by simp only [mj_stp, mj_icmp, mj_ifc, mj_cmp]; rw [decide_eq_false (by exact hc)]; exact mj_bf_of ht)
theorem sx_icmp_ne {x y : Int32} {off : Int} {tgt : Nat} (h : mj_at id pc = some (.if_icmp .ne off)) (ht : (pc : Int) + off = (tgt : Int)) : mj_E sl d id pc L (.int y :: .int x :: st) M = if x = y then mj_E sl d id (pc + 3) L st M else mj_E sl d id tgt L st M := by
  split
  · next hc => exact mj_Es h (by simp only [mj_stp, mj_icmp, mj_ifc, mj_cmp]; rw [decide_eq_false (by exact fun z => z hc)]; exact mj_bf_of ht)
  · next hc => exact mj_Es h (by simp only [mj_stp, mj_icmp, mj_ifc, mj_cmp]; rw [decide_eq_true (by exact hc)]; exact mj_go_of ht)
theorem sx_if_ne {x : Int32} {off : Int} {tgt : Nat} (h : mj_at id pc = some (.ifCond .ne off)) (ht : (pc : Int) + off = (tgt : Int)) : mj_E sl d id pc L (.int x :: st) M = if x = 0 then mj_E sl d id (pc + 3) L st M else mj_E sl d id tgt L st M := by
  split
  · next hc => exact mj_Es h (by simp only [mj_stp, mj_icmp, mj_ifc, mj_cmp]; rw [decide_eq_false (by exact fun z => z hc)]; exact mj_bf_of ht)
  · next hc => exact mj_Es h (by simp only [mj_stp, mj_icmp, mj_ifc, mj_cmp]; rw [decide_eq_true (by exact hc)]; exact mj_go_of ht)
theorem sx_icmp_lt {x y : Int32} {off : Int} {tgt : Nat} (h : mj_at id pc = some (.if_icmp .lt off)) (ht : (pc : Int) + off = (tgt : Int)) : mj_E sl d id pc L (.int y :: .int x :: st) M = if x < y then mj_E sl d id tgt L st M else mj_E sl d id (pc + 3) L st M := by
  split
  · next hc => exact mj_Es h (by simp only [mj_stp, mj_icmp, mj_ifc, mj_cmp]; rw [decide_eq_true (by exact hc)]; exact mj_go_of ht)
  · next hc => exact mj_Es h (by simp only [mj_stp, mj_icmp, mj_ifc, mj_cmp]; rw [decide_eq_false (by exact hc)]; exact mj_bf_of ht)
theorem sx_if_lt {x : Int32} {off : Int} {tgt : Nat} (h : mj_at id pc = some (.ifCond .lt off)) (ht : (pc : Int) + off = (tgt : Int)) : mj_E sl d id pc L (.int x :: st) M = if x < 0 then mj_E sl d id tgt L st M else mj_E sl d id (pc + 3) L st M := by
  split
  · next hc => exact mj_Es h (by simp only [mj_stp, mj_icmp, mj_ifc, mj_cmp]; rw [decide_eq_true (by exact hc)]; exact mj_go_of ht)
  · next hc => exact mj_Es h (by simp only [mj_stp, mj_icmp, mj_ifc, mj_cmp]; rw [decide_eq_false (by exact hc)]; exact mj_bf_of ht)
theorem sx_icmp_ge {x y : Int32} {off : Int} {tgt : Nat} (h : mj_at id pc = some (.if_icmp .ge off)) (ht : (pc : Int) + off = (tgt : Int)) : mj_E sl d id pc L (.int y :: .int x :: st) M = if x < y then mj_E sl d id (pc + 3) L st M else mj_E sl d id tgt L st M := by
  split
  · next hc => exact mj_Es h (by simp only [mj_stp, mj_icmp, mj_ifc, mj_cmp]; rw [decide_eq_false (by exact Int32.not_le.mpr hc)]; exact mj_bf_of ht)
  · next hc => exact mj_Es h (by simp only [mj_stp, mj_icmp, mj_ifc, mj_cmp]; rw [decide_eq_true (by exact Int32.not_lt.mp hc)]; exact mj_go_of ht)
theorem sx_if_ge {x : Int32} {off : Int} {tgt : Nat} (h : mj_at id pc = some (.ifCond .ge off)) (ht : (pc : Int) + off = (tgt : Int)) : mj_E sl d id pc L (.int x :: st) M = if x < 0 then mj_E sl d id (pc + 3) L st M else mj_E sl d id tgt L st M := by
  split
  · next hc => exact mj_Es h (by simp only [mj_stp, mj_icmp, mj_ifc, mj_cmp]; rw [decide_eq_false (by exact Int32.not_le.mpr hc)]; exact mj_bf_of ht)
  · next hc => exact mj_Es h (by simp only [mj_stp, mj_icmp, mj_ifc, mj_cmp]; rw [decide_eq_true (by exact Int32.not_lt.mp hc)]; exact mj_go_of ht)
theorem sx_icmp_gt {x y : Int32} {off : Int} {tgt : Nat} (h : mj_at id pc = some (.if_icmp .gt off)) (ht : (pc : Int) + off = (tgt : Int)) : mj_E sl d id pc L (.int y :: .int x :: st) M = if x ≤ y then mj_E sl d id (pc + 3) L st M else mj_E sl d id tgt L st M := by
  split
  · next hc => exact mj_Es h (by simp only [mj_stp, mj_icmp, mj_ifc, mj_cmp]; rw [decide_eq_false (by exact Int32.not_lt.mpr hc)]; exact mj_bf_of ht)
  · next hc => exact mj_Es h (by simp only [mj_stp, mj_icmp, mj_ifc, mj_cmp]; rw [decide_eq_true (by exact Int32.not_le.mp hc)]; exact mj_go_of ht)
theorem sx_if_gt {x : Int32} {off : Int} {tgt : Nat} (h : mj_at id pc = some (.ifCond .gt off)) (ht : (pc : Int) + off = (tgt : Int)) : mj_E sl d id pc L (.int x :: st) M = if x ≤ 0 then mj_E sl d id (pc + 3) L st M else mj_E sl d id tgt L st M := by
  split
  · next hc => exact mj_Es h (by simp only [mj_stp, mj_icmp, mj_ifc, mj_cmp]; rw [decide_eq_false (by exact Int32.not_lt.mpr hc)]; exact mj_bf_of ht)
  · next hc => exact mj_Es h (by simp only [mj_stp, mj_icmp, mj_ifc, mj_cmp]; rw [decide_eq_true (by exact Int32.not_le.mp hc)]; exact mj_go_of ht)
theorem sx_icmp_le {x y : Int32} {off : Int} {tgt : Nat} (h : mj_at id pc = some (.if_icmp .le off)) (ht : (pc : Int) + off = (tgt : Int)) : mj_E sl d id pc L (.int y :: .int x :: st) M = if x ≤ y then mj_E sl d id tgt L st M else mj_E sl d id (pc + 3) L st M := by
  split
  · next hc => exact mj_Es h (by simp only [mj_stp, mj_icmp, mj_ifc, mj_cmp]; rw [decide_eq_true (by exact hc)]; exact mj_go_of ht)
  · next hc => exact mj_Es h (by simp only [mj_stp, mj_icmp, mj_ifc, mj_cmp]; rw [decide_eq_false (by exact hc)]; exact mj_bf_of ht)
theorem sx_if_le {x : Int32} {off : Int} {tgt : Nat} (h : mj_at id pc = some (.ifCond .le off)) (ht : (pc : Int) + off = (tgt : Int)) : mj_E sl d id pc L (.int x :: st) M = if x ≤ 0 then mj_E sl d id tgt L st M else mj_E sl d id (pc + 3) L st M := by
  split
  · next hc => exact mj_Es h (by simp only [mj_stp, mj_icmp, mj_ifc, mj_cmp]; rw [decide_eq_true (by exact hc)]; exact mj_go_of ht)
  · next hc => exact mj_Es h (by simp only [mj_stp, mj_icmp, mj_ifc, mj_cmp]; rw [decide_eq_false (by exact hc)]; exact mj_bf_of ht)
theorem sx_icmp_eq_t {x y : Int32} {off : Int} {tgt : Nat} (h : mj_at id pc = some (.if_icmp .eq off)) (ht : (pc : Int) + off = (tgt : Int)) (hc : x = y) : mj_E sl d id pc L (.int y :: .int x :: st) M = mj_E sl d id tgt L st M := (sx_icmp_eq h ht).trans (if_pos hc)
theorem sx_icmp_eq_f {x y : Int32} {off : Int} {tgt : Nat} (h : mj_at id pc = some (.if_icmp .eq off)) (ht : (pc : Int) + off = (tgt : Int)) (hc : ¬ x = y) : mj_E sl d id pc L (.int y :: .int x :: st) M = mj_E sl d id (pc + 3) L st M := (sx_icmp_eq h ht).trans (if_neg hc)
theorem sx_if_eq_t {x : Int32} {off : Int} {tgt : Nat} (h : mj_at id pc = some (.ifCond .eq off)) (ht : (pc : Int) + off = (tgt : Int)) (hc : x = 0) : mj_E sl d id pc L (.int x :: st) M = mj_E sl d id tgt L st M := (sx_if_eq h ht).trans (if_pos hc)
theorem sx_if_eq_f {x : Int32} {off : Int} {tgt : Nat} (h : mj_at id pc = some (.ifCond .eq off)) (ht : (pc : Int) + off = (tgt : Int)) (hc : ¬ x = 0) : mj_E sl d id pc L (.int x :: st) M = mj_E sl d id (pc + 3) L st M := (sx_if_eq h ht).trans (if_neg hc)
theorem sx_icmp_ne_t {x y : Int32} {off : Int} {tgt : Nat} (h : mj_at id pc = some (.if_icmp .ne off)) (ht : (pc : Int) + off = (tgt : Int)) (hc : x = y) : mj_E sl d id pc L (.int y :: .int x :: st) M = mj_E sl d id (pc + 3) L st M := (sx_icmp_ne h ht).trans (if_pos hc)
theorem sx_icmp_ne_f {x y : Int32} {off : Int} {tgt : Nat} (h : mj_at id pc = some (.if_icmp .ne off)) (ht : (pc : Int) + off = (tgt : Int)) (hc : ¬ x = y) : mj_E sl d id pc L (.int y :: .int x :: st) M = mj_E sl d id tgt L st M := (sx_icmp_ne h ht).trans (if_neg hc)
theorem sx_if_ne_t {x : Int32} {off : Int} {tgt : Nat} (h : mj_at id pc = some (.ifCond .ne off)) (ht : (pc : Int) + off = (tgt : Int)) (hc : x = 0) : mj_E sl d id pc L (.int x :: st) M = mj_E sl d id (pc + 3) L st M := (sx_if_ne h ht).trans (if_pos hc)
theorem sx_if_ne_f {x : Int32} {off : Int} {tgt : Nat} (h : mj_at id pc = some (.ifCond .ne off)) (ht : (pc : Int) + off = (tgt : Int)) (hc : ¬ x = 0) : mj_E sl d id pc L (.int x :: st) M = mj_E sl d id tgt L st M := (sx_if_ne h ht).trans (if_neg hc)
theorem sx_icmp_lt_t {x y : Int32} {off : Int} {tgt : Nat} (h : mj_at id pc = some (.if_icmp .lt off)) (ht : (pc : Int) + off = (tgt : Int)) (hc : x < y) : mj_E sl d id pc L (.int y :: .int x :: st) M = mj_E sl d id tgt L st M := (sx_icmp_lt h ht).trans (if_pos hc)
theorem sx_icmp_lt_f {x y : Int32} {off : Int} {tgt : Nat} (h : mj_at id pc = some (.if_icmp .lt off)) (ht : (pc : Int) + off = (tgt : Int)) (hc : ¬ x < y) : mj_E sl d id pc L (.int y :: .int x :: st) M = mj_E sl d id (pc + 3) L st M := (sx_icmp_lt h ht).trans (if_neg hc)
theorem sx_if_lt_t {x : Int32} {off : Int} {tgt : Nat} (h : mj_at id pc = some (.ifCond .lt off)) (ht : (pc : Int) + off = (tgt : Int)) (hc : x < 0) : mj_E sl d id pc L (.int x :: st) M = mj_E sl d id tgt L st M := (sx_if_lt h ht).trans (if_pos hc)
theorem sx_if_lt_f {x : Int32} {off : Int} {tgt : Nat} (h : mj_at id pc = some (.ifCond .lt off)) (ht : (pc : Int) + off = (tgt : Int)) (hc : ¬ x < 0) : mj_E sl d id pc L (.int x :: st) M = mj_E sl d id (pc + 3) L st M := (sx_if_lt h ht).trans (if_neg hc)
theorem sx_icmp_ge_t {x y : Int32} {off : Int} {tgt : Nat} (h : mj_at id pc = some (.if_icmp .ge off)) (ht : (pc : Int) + off = (tgt : Int)) (hc : x < y) : mj_E sl d id pc L (.int y :: .int x :: st) M = mj_E sl d id (pc + 3) L st M := (sx_icmp_ge h ht).trans (if_pos hc)
theorem sx_icmp_ge_f {x y : Int32} {off : Int} {tgt : Nat} (h : mj_at id pc = some (.if_icmp .ge off)) (ht : (pc : Int) + off = (tgt : Int)) (hc : ¬ x < y) : mj_E sl d id pc L (.int y :: .int x :: st) M = mj_E sl d id tgt L st M := (sx_icmp_ge h ht).trans (if_neg hc)
theorem sx_if_ge_t {x : Int32} {off : Int} {tgt : Nat} (h : mj_at id pc = some (.ifCond .ge off)) (ht : (pc : Int) + off = (tgt : Int)) (hc : x < 0) : mj_E sl d id pc L (.int x :: st) M = mj_E sl d id (pc + 3) L st M := (sx_if_ge h ht).trans (if_pos hc)
theorem sx_if_ge_f {x : Int32} {off : Int} {tgt : Nat} (h : mj_at id pc = some (.ifCond .ge off)) (ht : (pc : Int) + off = (tgt : Int)) (hc : ¬ x < 0) : mj_E sl d id pc L (.int x :: st) M = mj_E sl d id tgt L st M := (sx_if_ge h ht).trans (if_neg hc)
theorem sx_icmp_gt_t {x y : Int32} {off : Int} {tgt : Nat} (h : mj_at id pc = some (.if_icmp .gt off)) (ht : (pc : Int) + off = (tgt : Int)) (hc : x ≤ y) : mj_E sl d id pc L (.int y :: .int x :: st) M = mj_E sl d id (pc + 3) L st M := (sx_icmp_gt h ht).trans (if_pos hc)
theorem sx_icmp_gt_f {x y : Int32} {off : Int} {tgt : Nat} (h : mj_at id pc = some (.if_icmp .gt off)) (ht : (pc : Int) + off = (tgt : Int)) (hc : ¬ x ≤ y) : mj_E sl d id pc L (.int y :: .int x :: st) M = mj_E sl d id tgt L st M := (sx_icmp_gt h ht).trans (if_neg hc)
theorem sx_if_gt_t {x : Int32} {off : Int} {tgt : Nat} (h : mj_at id pc = some (.ifCond .gt off)) (ht : (pc : Int) + off = (tgt : Int)) (hc : x ≤ 0) : mj_E sl d id pc L (.int x :: st) M = mj_E sl d id (pc + 3) L st M := (sx_if_gt h ht).trans (if_pos hc)
theorem sx_if_gt_f {x : Int32} {off : Int} {tgt : Nat} (h : mj_at id pc = some (.ifCond .gt off)) (ht : (pc : Int) + off = (tgt : Int)) (hc : ¬ x ≤ 0) : mj_E sl d id pc L (.int x :: st) M = mj_E sl d id tgt L st M := (sx_if_gt h ht).trans (if_neg hc)
theorem sx_icmp_le_t {x y : Int32} {off : Int} {tgt : Nat} (h : mj_at id pc = some (.if_icmp .le off)) (ht : (pc : Int) + off = (tgt : Int)) (hc : x ≤ y) : mj_E sl d id pc L (.int y :: .int x :: st) M = mj_E sl d id tgt L st M := (sx_icmp_le h ht).trans (if_pos hc)
theorem sx_icmp_le_f {x y : Int32} {off : Int} {tgt : Nat} (h : mj_at id pc = some (.if_icmp .le off)) (ht : (pc : Int) + off = (tgt : Int)) (hc : ¬ x ≤ y) : mj_E sl d id pc L (.int y :: .int x :: st) M = mj_E sl d id (pc + 3) L st M := (sx_icmp_le h ht).trans (if_neg hc)
theorem sx_if_le_t {x : Int32} {off : Int} {tgt : Nat} (h : mj_at id pc = some (.ifCond .le off)) (ht : (pc : Int) + off = (tgt : Int)) (hc : x ≤ 0) : mj_E sl d id pc L (.int x :: st) M = mj_E sl d id tgt L st M := (sx_if_le h ht).trans (if_pos hc)
theorem sx_if_le_f {x : Int32} {off : Int} {tgt : Nat} (h : mj_at id pc = some (.ifCond .le off)) (ht : (pc : Int) + off = (tgt : Int)) (hc : ¬ x ≤ 0) : mj_E sl d id pc L (.int x :: st) M = mj_E sl d id (pc + 3) L st M := (sx_if_le h ht).trans (if_neg hc)
theorem sx_tsw_in {dflt lo hi off : Int} {offs : Array Int} {x c : Int32} {tgt : Nat} (h : mj_at id pc = some (.tableswitch dflt lo hi offs)) (hx : x = c) (h1 : ¬ (c.toInt < lo ∨ hi < c.toInt)) (ho : offs[(c.toInt - lo).toNat]? = some off) (ht : (pc : Int) + off = (tgt : Int)) : mj_E sl d id pc L (.int x :: st) M = mj_E sl d id tgt L st M := by
  subst hx
  refine mj_Es h ?_
  simp only [mj_stp, mj_tsw, if_neg h1, ho]
  exact mj_go_of ht
theorem sx_tsw_out {dflt lo hi : Int} {offs : Array Int} {x : Int32} {tgt : Nat} (h : mj_at id pc = some (.tableswitch dflt lo hi offs)) (h1 : x.toInt < lo ∨ hi < x.toInt) (ht : (pc : Int) + dflt = (tgt : Int)) : mj_E sl d id pc L (.int x :: st) M = mj_E sl d id tgt L st M := by
  refine mj_Es h ?_
  simp only [mj_stp, mj_tsw, if_pos h1]
  exact mj_go_of ht
theorem sx_lsw {dflt off : Int} {ps : Array (Int × Int)} {x : Int32} {tgt : Nat} (h : mj_at id pc = some (.lookupswitch dflt ps)) (hp : (ps.toList.zip (ps.toList.drop 1)).all (fun (a, next) => a.1 < next.1) = true) (ho : Op.lookupswitch.offset ps.toList dflt x.toInt = off) (ht : (pc : Int) + off = (tgt : Int)) : mj_E sl d id pc L (.int x :: st) M = mj_E sl d id tgt L st M := by
  refine mj_Es h ?_
  simp only [mj_stp, mj_lsw, if_pos hp, ho]
  exact mj_go_of ht
theorem sx_gfi {j k a ci s kd : Nat} (h : mj_at id pc = some (.getfield j)) (ho : mj_own id = k) (hf : mj_fT k j = some (ci, s, kd)) (hkd : kd = 0 ∨ kd = 3) (hc : mj_ocl a = ci) : mj_E sl d id pc L (.ref a :: st) M = mj_E sl d id (pc + 3) L (.int (M a s) :: st) M := by
  refine mj_Es h ?_
  simp only [mj_stp, mj_gf, ho, hf, if_pos hc, mj_fv]
  rw [if_neg (by omega), if_neg (by omega), if_neg (by omega), if_neg (by omega)]
  rfl
theorem sx_gf4 {j k s : Nat} (h : mj_at id pc = some (.getfield j)) (ho : mj_own id = k) (hf : mj_fT k j = some (14, s, 4)) : mj_E sl d id pc L (.ref 73 :: st) M = mj_E sl d id (pc + 3) L (.ref 74 :: st) M := by
  refine mj_Es h ?_
  simp only [mj_stp, mj_gf, ho, hf, if_pos (show mj_ocl 73 = 14 from rfl), mj_fv]
  rfl
theorem sx_gf5 {j k s : Nat} (h : mj_at id pc = some (.getfield j)) (ho : mj_own id = k) (hf : mj_fT k j = some (14, s, 5)) : mj_E sl d id pc L (.ref 73 :: st) M = mj_E sl d id (pc + 3) L (.int 0 :: st) M := by
  refine mj_Es h ?_
  simp only [mj_stp, mj_gf, ho, hf, if_pos (show mj_ocl 73 = 14 from rfl), mj_fv]
  rfl
theorem sx_gs {j k : Nat} (h : mj_at id pc = some (.getstatic j)) (ho : mj_own id = k) (hf : mj_sT k j = true) : mj_E sl d id pc L st M = mj_E sl d id (pc + 3) L (.int 1 :: st) M := by
  refine mj_Es h ?_
  simp only [mj_stp, mj_gs, ho, if_pos hf]
  rfl
theorem sx_gfr {j k a ci s b : Nat} (h : mj_at id pc = some (.getfield j)) (ho : mj_own id = k) (hf : mj_fT k j = some (ci, s, 1)) (hc : mj_ocl a = ci) (hb : mj_rf a s = b) : mj_E sl d id pc L (.ref a :: st) M = mj_E sl d id (pc + 3) L (.ref b :: st) M := by
  refine mj_Es h ?_
  subst hb
  simp only [mj_stp, mj_gf, ho, hf, if_pos hc, mj_fv]
  rfl
theorem sx_gfl {j k a ci s : Nat} (h : mj_at id pc = some (.getfield j)) (ho : mj_own id = k) (hf : mj_fT k j = some (ci, s, 2)) (hc : mj_ocl a = ci) : mj_E sl d id pc L (.ref a :: st) M = mj_E sl d id (pc + 3) L (.ref (mj_lw (M a s)) :: st) M := by
  refine mj_Es h ?_
  simp only [mj_stp, mj_gf, ho, hf, if_pos hc, mj_fv]
  rfl
theorem sx_pfi {j k a ci s : Nat} {x : Int32} (h : mj_at id pc = some (.putfield j)) (ho : mj_own id = k) (hf : mj_fT k j = some (ci, s, 0)) (hc : mj_ocl a = ci) : mj_E sl d id pc L (.int x :: .ref a :: st) M = mj_E sl d id (pc + 3) L st (mj_st M a s x) := by
  refine mj_Es h ?_
  show mj_pf (mj_own id) j pc L (.int x :: .ref a :: st) M = _
  unfold mj_pf
  rw [ho, hf]
  show (if mj_ocl a = ci ∧ (0 = 0 ∨ (0 = 3 ∧ x &&& 1 = x)) then _ else _) = _
  rw [if_pos ⟨hc, Or.inl rfl⟩]
  rfl
theorem sx_pfz {j k a ci s : Nat} {x : Int32} (h : mj_at id pc = some (.putfield j)) (ho : mj_own id = k) (hf : mj_fT k j = some (ci, s, 3)) (hc : mj_ocl a = ci) (hx : x &&& 1 = x) : mj_E sl d id pc L (.int x :: .ref a :: st) M = mj_E sl d id (pc + 3) L st (mj_st M a s x) := by
  refine mj_Es h ?_
  show mj_pf (mj_own id) j pc L (.int x :: .ref a :: st) M = _
  unfold mj_pf
  rw [ho, hf]
  show (if mj_ocl a = ci ∧ (3 = 0 ∨ (3 = 3 ∧ x &&& 1 = x)) then _ else _) = _
  rw [if_pos ⟨hc, Or.inr ⟨rfl, hx⟩⟩]
  rfl
theorem sx_pfl {j k a ci s b : Nat} (h : mj_at id pc = some (.putfield j)) (ho : mj_own id = k) (hf : mj_fT k j = some (ci, s, 2)) (hc : mj_ocl a = ci) (hb : b = 29 ∨ b = 38) : mj_E sl d id pc L (.ref b :: .ref a :: st) M = mj_E sl d id (pc + 3) L st (mj_st M a s (if b = 29 then 0 else 1)) := by
  refine mj_Es h ?_
  show mj_pf (mj_own id) j pc L (.ref b :: .ref a :: st) M = _
  unfold mj_pf
  rw [ho, hf]
  show (if mj_ocl a = ci ∧ 2 = 2 ∧ (b = 29 ∨ b = 38) then _ else _) = _
  rw [if_pos ⟨hc, rfl, hb⟩]
  rfl
theorem sx_ild {a n : Nat} {i : Int32} (h : mj_at id pc = some .iaload) (ha : ¬ a = 72) (hn : mj_ial a = n) : mj_E sl d id pc L (.int i :: .ref a :: st) M = if mj_inB i n = true then mj_E sl d id (pc + 1) L (.int (M a i.toNatClampNeg) :: st) M else none := by
  subst hn
  split
  · next hc => exact mj_Es h (by simp only [mj_stp, mj_ild, if_neg ha, if_pos hc]; rfl)
  · next hc => exact mj_En h (by simp only [mj_stp, mj_ild, if_neg ha, if_neg hc])
theorem sx_sld {i : Int32} (h : mj_at id pc = some .iaload) : mj_E sl d id pc L (.int i :: .ref 72 :: st) M = if mj_inB i sl = true then mj_E sl d id (pc + 1) L (.int (M 72 i.toNatClampNeg) :: st) M else none := by
  split
  · next hc => exact mj_Es h (show (if mj_inB i sl = true then _ else _) = _ from if_pos hc)
  · next hc => exact mj_En h (show (if mj_inB i sl = true then _ else _) = _ from if_neg hc)
theorem sx_ist {a n : Nat} {i x : Int32} (h : mj_at id pc = some .iastore) (hn : mj_ial a = n) : mj_E sl d id pc L (.int x :: .int i :: .ref a :: st) M = if mj_inB i n = true then mj_E sl d id (pc + 1) L st (mj_st M a i.toNatClampNeg x) else none := by
  subst hn
  split
  · next hc => exact mj_Es h (by simp only [mj_stp, mj_ist, if_pos hc]; rfl)
  · next hc => exact mj_En h (by simp only [mj_stp, mj_ist, if_neg hc])
theorem sx_bld {a n : Nat} {i : Int32} (h : mj_at id pc = some .baload) (hn : mj_bln a = n) : mj_E sl d id pc L (.int i :: .ref a :: st) M = if mj_inB i n = true then mj_E sl d id (pc + 1) L (.int (M a i.toNatClampNeg) :: st) M else none := by
  subst hn
  split
  · next hc => exact mj_Es h (by simp only [mj_stp, mj_bld, if_pos hc]; rfl)
  · next hc => exact mj_En h (by simp only [mj_stp, mj_bld, if_neg hc])
theorem sx_bst {a n : Nat} {i x : Int32} (h : mj_at id pc = some .bastore) (hn : mj_bal a = n) : mj_E sl d id pc L (.int x :: .int i :: .ref a :: st) M = if mj_inB i n = true then mj_E sl d id (pc + 1) L st (mj_st M a i.toNatClampNeg x.toInt8.toInt32) else none := by
  subst hn
  split
  · next hc => exact mj_Es h (by simp only [mj_stp, mj_bst, if_pos hc]; rfl)
  · next hc => exact mj_En h (by simp only [mj_stp, mj_bst, if_neg hc])
theorem sx_alen {a n : Nat} (h : mj_at id pc = some .arraylength) (ha : ¬ a = 72) (hn : mj_ial a = n) (h0 : ¬ n = 0) : mj_E sl d id pc L (.ref a :: st) M = mj_E sl d id (pc + 1) L (.int (nI n) :: st) M := by
  subst hn
  have h74 : ¬ a = 74 := fun e => h0 (by rw [e]; rfl)
  exact mj_Es h (by simp only [mj_stp, mj_aln, if_neg ha, if_neg h74, if_neg h0]; rfl)
theorem sx_alen74 (h : mj_at id pc = some .arraylength) : mj_E sl d id pc L (.ref 74 :: st) M = mj_E sl d id (pc + 1) L (.int 9 :: st) M := mj_Es h rfl
theorem sx_slen (h : mj_at id pc = some .arraylength) : mj_E sl d id pc L (.ref 72 :: st) M = mj_E sl d id (pc + 1) L (.int (nI sl) :: st) M := mj_Es h rfl
theorem sx_reti {v : Int32} (h : mj_at id pc = some .ireturn) (hr : mj_rt id = 1) : mj_E sl d id pc L [.int v] M = some (v, M) := by
  obtain ⟨me, hm, -, h1, -⟩ := mj_rt_spec hr (by omega)
  refine mj_Er (r := some (.int v)) h ?_
  simp only [mj_stp, mj_rti, hm]
  rw [if_pos (Or.inl (h1 rfl))]
theorem sx_retz {v : Int32} (h : mj_at id pc = some .ireturn) (hr : mj_rt id = 2) (hv : v &&& 1 = v) : mj_E sl d id pc L [.int v] M = some (v, M) := by
  obtain ⟨me, hm, -, -, h1, -⟩ := mj_rt_spec hr (by omega)
  refine mj_Er (r := some (.int v)) h ?_
  simp only [mj_stp, mj_rti, hm]
  rw [if_pos (Or.inr (Or.inl ⟨h1 rfl, hv⟩))]
theorem sx_retg {v : Int32} (h : mj_at id pc = some .ireturn) (hr : mj_rt id = 2) : mj_E sl d id pc L [.int v] M = if v &&& 1 = v then some (v, M) else none := by
  split
  · next hv => exact sx_retz h hr hv
  · next hv =>
    obtain ⟨me, hm, -, -, h1, -⟩ := mj_rt_spec hr (by omega)
    refine mj_En h ?_
    simp only [mj_stp, mj_rti, hm]
    rw [if_neg]
    rintro (h2 | h2 | h2)
    · rw [h1 rfl] at h2; cases h2
    · exact hv h2.2
    · rw [h1 rfl] at h2; cases h2.1
theorem sx_retb {v : Int32} (h : mj_at id pc = some .ireturn) (hr : mj_rt id = 4) (hv : v.toInt8.toInt32 = v) : mj_E sl d id pc L [.int v] M = some (v, M) := by
  obtain ⟨me, hm, -, -, -, -, h1⟩ := mj_rt_spec hr (by omega)
  refine mj_Er (r := some (.int v)) h ?_
  simp only [mj_stp, mj_rti, hm]
  rw [if_pos (Or.inr (Or.inr ⟨h1 rfl, hv⟩))]
theorem sx_retv (h : mj_at id pc = some .return_) (hr : mj_rt id = 0) : mj_E sl d id pc L [] M = some (0, M) := by
  obtain ⟨me, hm, h1, -⟩ := mj_rt_spec hr (by omega)
  refine mj_Er (r := none) h ?_
  simp only [mj_stp, mj_rtv, hm]
  rw [if_pos (h1 rfl)]
theorem mj_k0 {j k y : Nat} (ho : mj_own id = k) (hc : mj_cT k j = some (0, y)) : mj_stp sl d id (.invokevirtual j) pc L st M = mj_vcl y st := by
  show mj_ivv (mj_own id) j st = _
  unfold mj_ivv
  rw [ho, hc]
  rfl
theorem mj_k1 {j k y : Nat} (ho : mj_own id = k) (hc : mj_cT k j = some (1, y)) : mj_stp sl d id (.invokestatic j) pc L st M = mj_scl y st := by
  show mj_ivs d (mj_own id) j pc L st M = _
  unfold mj_ivs
  rw [ho, hc]
  rfl
theorem mj_k2 {j k y : Nat} (ho : mj_own id = k) (hc : mj_cT k j = some (2, y)) : mj_stp sl d id (.invokestatic j) pc L st M = mj_scl y st := by
  show mj_ivs d (mj_own id) j pc L st M = _
  unfold mj_ivs
  rw [ho, hc]
  rfl
theorem mj_k3 {j k y : Nat} (ho : mj_own id = k) (hc : mj_cT k j = some (3, y)) : mj_stp sl d id (.invokestatic j) pc L st M = mj_acp d pc L st M := by
  show mj_ivs d (mj_own id) j pc L st M = _
  unfold mj_ivs
  rw [ho, hc]
  rfl
theorem mj_k5 {j k y : Nat} (ho : mj_own id = k) (hc : mj_cT k j = some (5, y)) : mj_stp sl d id (.invokestatic j) pc L st M = mj_mth mj_mx d pc L st M := by
  show mj_ivs d (mj_own id) j pc L st M = _
  unfold mj_ivs
  rw [ho, hc]
  rfl
theorem mj_k6 {j k y : Nat} (ho : mj_own id = k) (hc : mj_cT k j = some (6, y)) : mj_stp sl d id (.invokestatic j) pc L st M = mj_mth mj_mn d pc L st M := by
  show mj_ivs d (mj_own id) j pc L st M = _
  unfold mj_ivs
  rw [ho, hc]
  rfl
theorem sx_max {j k : Nat} {x y : Int32} (h : mj_at id pc = some (.invokestatic j)) (ho : mj_own id = k) (hc : mj_cT k j = some (5, 0)) (hr : st.length ≤ 8) : mj_E sl (d + 1) id pc L (.int y :: .int x :: st) M = mj_E sl (d + 1) id (pc + 3) L (.int (mj_mx x y) :: st) M := by
  refine mj_Es h ?_
  rw [mj_k5 ho hc]
  unfold mj_mth
  dsimp only
  rw [if_pos ⟨Nat.le_add_left 1 d, hr⟩]
  rfl
theorem sx_min {j k : Nat} {x y : Int32} (h : mj_at id pc = some (.invokestatic j)) (ho : mj_own id = k) (hc : mj_cT k j = some (6, 0)) (hr : st.length ≤ 8) : mj_E sl (d + 1) id pc L (.int y :: .int x :: st) M = mj_E sl (d + 1) id (pc + 3) L (.int (mj_mn x y) :: st) M := by
  refine mj_Es h ?_
  rw [mj_k6 ho hc]
  unfold mj_mth
  dsimp only
  rw [if_pos ⟨Nat.le_add_left 1 d, hr⟩]
  rfl
theorem mj_ksn {j k : Nat} (ho : mj_own id = k) (hc : mj_cT k j = none) : mj_stp sl d id (.invokestatic j) pc L st M = none := by
  show mj_ivs d (mj_own id) j pc L st M = _
  unfold mj_ivs
  rw [ho, hc]
theorem sx_acp {j k a b : Nat} {n dp sp : Int32} {na nb : Nat} (h : mj_at id pc = some (.invokestatic j)) (ho : mj_own id = k) (hc : mj_cT k j = some (3, 0)) (ha : mj_ial a = na) (hb : mj_ial b = nb) (ha0 : na ≠ 0) (hb0 : nb ≠ 0) (hr : st.length ≤ 8) : mj_E sl (d + 1) id pc L (.int n :: .int dp :: .ref b :: .int sp :: .ref a :: st) M = if ¬ sp < 0 ∧ ¬ dp < 0 ∧ ¬ n < 0 ∧ sp.toNatClampNeg + n.toNatClampNeg ≤ na ∧ dp.toNatClampNeg + n.toNatClampNeg ≤ nb then mj_E sl (d + 1) id (pc + 3) L st (mj_cp M a b sp.toNatClampNeg dp.toNatClampNeg n.toNatClampNeg) else none := by
  subst ha; subst hb
  split
  · next hq =>
    refine mj_Es h ?_
    rw [mj_k3 ho hc]
    unfold mj_acp
    dsimp only
    rw [if_pos ⟨Nat.le_add_left 1 d, hr, hq.1, hq.2.1, hq.2.2.1, ha0, hb0, hq.2.2.2.1, hq.2.2.2.2⟩]
    rfl
  · next hq =>
    refine mj_En h ?_
    rw [mj_k3 ho hc]
    unfold mj_acp
    dsimp only
    rw [if_neg]
    rintro ⟨-, -, z1, z2, z3, -, -, z4, z5⟩
    exact hq ⟨z1, z2, z3, z4, z5⟩
theorem sx_v0i {j k y b ci : Nat}  {rest : List Value} (h : mj_at id pc = some (.invokevirtual j)) (ho : mj_own id = k) (hc : mj_cs k j = some (0, y, 0, ci, 1)) (hb : mj_ocl b = ci) (hr : rest.length ≤ 8) : mj_E sl (d + 1) id pc L (.ref b :: rest) M = (mj_C sl d y [.ref b] M).bind (fun q => mj_E sl (d + 1) id (pc + 3) L (.int q.1 :: rest) q.2) := by
  obtain ⟨h1, ⟨me, h2, h3, h4⟩, h5⟩ := mj_cs_spec hc
  refine mj_Eci h h5 ?_
  rw [mj_k0 ho h1]
  unfold mj_vcl
  rw [h2]
  dsimp only
  rw [h3]
  show (if mj_ocl b = me.2.2.2.2.2.2.1 ∧ rest.length ≤ 8 then _ else _) = _
  rw [if_pos ⟨by rw [h4]; exact hb, hr⟩]
  rfl
theorem sx_s0i {j k y : Nat}  {rest : List Value} (h : mj_at id pc = some (.invokestatic j)) (ho : mj_own id = k) (hc : mj_cs k j = some (1, y, 0, 100, 1)) (hr : rest.length ≤ 8) : mj_E sl (d + 1) id pc L (rest) M = (mj_C sl d y [] M).bind (fun q => mj_E sl (d + 1) id (pc + 3) L (.int q.1 :: rest) q.2) := by
  obtain ⟨h1, ⟨me, h2, h3, h4⟩, h5⟩ := mj_cs_spec hc
  refine mj_Eci h h5 ?_
  rw [mj_k1 ho h1]
  unfold mj_scl
  rw [h2]
  dsimp only
  rw [h3, h4]
  rw [if_pos ⟨by simp, hr, rfl⟩]
  rfl
theorem sx_s0in {j k y : Nat}  {rest : List Value} (h : mj_at id pc = some (.invokestatic j)) (ho : mj_own id = k) (hc : mj_cs k j = some (2, y, 0, 100, 1)) (hr : rest.length ≤ 8) : mj_E sl (d + 1) id pc L (rest) M = (mj_C sl d y [] M).bind (fun q => mj_E sl (d + 1) id (pc + 3) L (.int q.1 :: rest) q.2) := by
  obtain ⟨h1, ⟨me, h2, h3, h4⟩, h5⟩ := mj_cs_spec hc
  refine mj_Eci h h5 ?_
  rw [mj_k2 ho h1]
  unfold mj_scl
  rw [h2]
  dsimp only
  rw [h3, h4]
  rw [if_pos ⟨by simp, hr, rfl⟩]
  rfl
theorem sx_v0v {j k y b ci : Nat}  {rest : List Value} (h : mj_at id pc = some (.invokevirtual j)) (ho : mj_own id = k) (hc : mj_cs k j = some (0, y, 0, ci, 0)) (hb : mj_ocl b = ci) (hr : rest.length ≤ 8) : mj_E sl (d + 1) id pc L (.ref b :: rest) M = (mj_C sl d y [.ref b] M).bind (fun q => mj_E sl (d + 1) id (pc + 3) L rest q.2) := by
  obtain ⟨h1, ⟨me, h2, h3, h4⟩, h5⟩ := mj_cs_spec hc
  refine mj_Ecv h h5 ?_
  rw [mj_k0 ho h1]
  unfold mj_vcl
  rw [h2]
  dsimp only
  rw [h3]
  show (if mj_ocl b = me.2.2.2.2.2.2.1 ∧ rest.length ≤ 8 then _ else _) = _
  rw [if_pos ⟨by rw [h4]; exact hb, hr⟩]
  rfl
theorem sx_s0v {j k y : Nat}  {rest : List Value} (h : mj_at id pc = some (.invokestatic j)) (ho : mj_own id = k) (hc : mj_cs k j = some (1, y, 0, 100, 0)) (hr : rest.length ≤ 8) : mj_E sl (d + 1) id pc L (rest) M = (mj_C sl d y [] M).bind (fun q => mj_E sl (d + 1) id (pc + 3) L rest q.2) := by
  obtain ⟨h1, ⟨me, h2, h3, h4⟩, h5⟩ := mj_cs_spec hc
  refine mj_Ecv h h5 ?_
  rw [mj_k1 ho h1]
  unfold mj_scl
  rw [h2]
  dsimp only
  rw [h3, h4]
  rw [if_pos ⟨by simp, hr, rfl⟩]
  rfl
theorem sx_s0vn {j k y : Nat}  {rest : List Value} (h : mj_at id pc = some (.invokestatic j)) (ho : mj_own id = k) (hc : mj_cs k j = some (2, y, 0, 100, 0)) (hr : rest.length ≤ 8) : mj_E sl (d + 1) id pc L (rest) M = (mj_C sl d y [] M).bind (fun q => mj_E sl (d + 1) id (pc + 3) L rest q.2) := by
  obtain ⟨h1, ⟨me, h2, h3, h4⟩, h5⟩ := mj_cs_spec hc
  refine mj_Ecv h h5 ?_
  rw [mj_k2 ho h1]
  unfold mj_scl
  rw [h2]
  dsimp only
  rw [h3, h4]
  rw [if_pos ⟨by simp, hr, rfl⟩]
  rfl
theorem sx_v1i {j k y b ci : Nat} {a1 : Value} {rest : List Value} (h : mj_at id pc = some (.invokevirtual j)) (ho : mj_own id = k) (hc : mj_cs k j = some (0, y, 1, ci, 1)) (hb : mj_ocl b = ci) (hr : rest.length ≤ 8) : mj_E sl (d + 1) id pc L (a1 :: .ref b :: rest) M = (mj_C sl d y [.ref b, a1] M).bind (fun q => mj_E sl (d + 1) id (pc + 3) L (.int q.1 :: rest) q.2) := by
  obtain ⟨h1, ⟨me, h2, h3, h4⟩, h5⟩ := mj_cs_spec hc
  refine mj_Eci h h5 ?_
  rw [mj_k0 ho h1]
  unfold mj_vcl
  rw [h2]
  dsimp only
  rw [h3]
  show (if mj_ocl b = me.2.2.2.2.2.2.1 ∧ rest.length ≤ 8 then _ else _) = _
  rw [if_pos ⟨by rw [h4]; exact hb, hr⟩]
  rfl
theorem sx_s1i {j k y : Nat} {a1 : Value} {rest : List Value} (h : mj_at id pc = some (.invokestatic j)) (ho : mj_own id = k) (hc : mj_cs k j = some (1, y, 1, 100, 1)) (hr : rest.length ≤ 8) : mj_E sl (d + 1) id pc L (a1 :: rest) M = (mj_C sl d y [a1] M).bind (fun q => mj_E sl (d + 1) id (pc + 3) L (.int q.1 :: rest) q.2) := by
  obtain ⟨h1, ⟨me, h2, h3, h4⟩, h5⟩ := mj_cs_spec hc
  refine mj_Eci h h5 ?_
  rw [mj_k1 ho h1]
  unfold mj_scl
  rw [h2]
  dsimp only
  rw [h3, h4]
  rw [if_pos ⟨by simp, hr, rfl⟩]
  rfl
theorem sx_s1in {j k y : Nat} {a1 : Value} {rest : List Value} (h : mj_at id pc = some (.invokestatic j)) (ho : mj_own id = k) (hc : mj_cs k j = some (2, y, 1, 100, 1)) (hr : rest.length ≤ 8) : mj_E sl (d + 1) id pc L (a1 :: rest) M = (mj_C sl d y [a1] M).bind (fun q => mj_E sl (d + 1) id (pc + 3) L (.int q.1 :: rest) q.2) := by
  obtain ⟨h1, ⟨me, h2, h3, h4⟩, h5⟩ := mj_cs_spec hc
  refine mj_Eci h h5 ?_
  rw [mj_k2 ho h1]
  unfold mj_scl
  rw [h2]
  dsimp only
  rw [h3, h4]
  rw [if_pos ⟨by simp, hr, rfl⟩]
  rfl
theorem sx_v1v {j k y b ci : Nat} {a1 : Value} {rest : List Value} (h : mj_at id pc = some (.invokevirtual j)) (ho : mj_own id = k) (hc : mj_cs k j = some (0, y, 1, ci, 0)) (hb : mj_ocl b = ci) (hr : rest.length ≤ 8) : mj_E sl (d + 1) id pc L (a1 :: .ref b :: rest) M = (mj_C sl d y [.ref b, a1] M).bind (fun q => mj_E sl (d + 1) id (pc + 3) L rest q.2) := by
  obtain ⟨h1, ⟨me, h2, h3, h4⟩, h5⟩ := mj_cs_spec hc
  refine mj_Ecv h h5 ?_
  rw [mj_k0 ho h1]
  unfold mj_vcl
  rw [h2]
  dsimp only
  rw [h3]
  show (if mj_ocl b = me.2.2.2.2.2.2.1 ∧ rest.length ≤ 8 then _ else _) = _
  rw [if_pos ⟨by rw [h4]; exact hb, hr⟩]
  rfl
theorem sx_s1v {j k y : Nat} {a1 : Value} {rest : List Value} (h : mj_at id pc = some (.invokestatic j)) (ho : mj_own id = k) (hc : mj_cs k j = some (1, y, 1, 100, 0)) (hr : rest.length ≤ 8) : mj_E sl (d + 1) id pc L (a1 :: rest) M = (mj_C sl d y [a1] M).bind (fun q => mj_E sl (d + 1) id (pc + 3) L rest q.2) := by
  obtain ⟨h1, ⟨me, h2, h3, h4⟩, h5⟩ := mj_cs_spec hc
  refine mj_Ecv h h5 ?_
  rw [mj_k1 ho h1]
  unfold mj_scl
  rw [h2]
  dsimp only
  rw [h3, h4]
  rw [if_pos ⟨by simp, hr, rfl⟩]
  rfl
theorem sx_s1vn {j k y : Nat} {a1 : Value} {rest : List Value} (h : mj_at id pc = some (.invokestatic j)) (ho : mj_own id = k) (hc : mj_cs k j = some (2, y, 1, 100, 0)) (hr : rest.length ≤ 8) : mj_E sl (d + 1) id pc L (a1 :: rest) M = (mj_C sl d y [a1] M).bind (fun q => mj_E sl (d + 1) id (pc + 3) L rest q.2) := by
  obtain ⟨h1, ⟨me, h2, h3, h4⟩, h5⟩ := mj_cs_spec hc
  refine mj_Ecv h h5 ?_
  rw [mj_k2 ho h1]
  unfold mj_scl
  rw [h2]
  dsimp only
  rw [h3, h4]
  rw [if_pos ⟨by simp, hr, rfl⟩]
  rfl
theorem sx_v2i {j k y b ci : Nat} {a1 a2 : Value} {rest : List Value} (h : mj_at id pc = some (.invokevirtual j)) (ho : mj_own id = k) (hc : mj_cs k j = some (0, y, 2, ci, 1)) (hb : mj_ocl b = ci) (hr : rest.length ≤ 8) : mj_E sl (d + 1) id pc L (a2 :: a1 :: .ref b :: rest) M = (mj_C sl d y [.ref b, a1, a2] M).bind (fun q => mj_E sl (d + 1) id (pc + 3) L (.int q.1 :: rest) q.2) := by
  obtain ⟨h1, ⟨me, h2, h3, h4⟩, h5⟩ := mj_cs_spec hc
  refine mj_Eci h h5 ?_
  rw [mj_k0 ho h1]
  unfold mj_vcl
  rw [h2]
  dsimp only
  rw [h3]
  show (if mj_ocl b = me.2.2.2.2.2.2.1 ∧ rest.length ≤ 8 then _ else _) = _
  rw [if_pos ⟨by rw [h4]; exact hb, hr⟩]
  rfl
theorem sx_s2i {j k y : Nat} {a1 a2 : Value} {rest : List Value} (h : mj_at id pc = some (.invokestatic j)) (ho : mj_own id = k) (hc : mj_cs k j = some (1, y, 2, 100, 1)) (hr : rest.length ≤ 8) : mj_E sl (d + 1) id pc L (a2 :: a1 :: rest) M = (mj_C sl d y [a1, a2] M).bind (fun q => mj_E sl (d + 1) id (pc + 3) L (.int q.1 :: rest) q.2) := by
  obtain ⟨h1, ⟨me, h2, h3, h4⟩, h5⟩ := mj_cs_spec hc
  refine mj_Eci h h5 ?_
  rw [mj_k1 ho h1]
  unfold mj_scl
  rw [h2]
  dsimp only
  rw [h3, h4]
  rw [if_pos ⟨by simp, hr, rfl⟩]
  rfl
theorem sx_s2in {j k y : Nat} {a1 a2 : Value} {rest : List Value} (h : mj_at id pc = some (.invokestatic j)) (ho : mj_own id = k) (hc : mj_cs k j = some (2, y, 2, 100, 1)) (hr : rest.length ≤ 8) : mj_E sl (d + 1) id pc L (a2 :: a1 :: rest) M = (mj_C sl d y [a1, a2] M).bind (fun q => mj_E sl (d + 1) id (pc + 3) L (.int q.1 :: rest) q.2) := by
  obtain ⟨h1, ⟨me, h2, h3, h4⟩, h5⟩ := mj_cs_spec hc
  refine mj_Eci h h5 ?_
  rw [mj_k2 ho h1]
  unfold mj_scl
  rw [h2]
  dsimp only
  rw [h3, h4]
  rw [if_pos ⟨by simp, hr, rfl⟩]
  rfl
theorem sx_v2v {j k y b ci : Nat} {a1 a2 : Value} {rest : List Value} (h : mj_at id pc = some (.invokevirtual j)) (ho : mj_own id = k) (hc : mj_cs k j = some (0, y, 2, ci, 0)) (hb : mj_ocl b = ci) (hr : rest.length ≤ 8) : mj_E sl (d + 1) id pc L (a2 :: a1 :: .ref b :: rest) M = (mj_C sl d y [.ref b, a1, a2] M).bind (fun q => mj_E sl (d + 1) id (pc + 3) L rest q.2) := by
  obtain ⟨h1, ⟨me, h2, h3, h4⟩, h5⟩ := mj_cs_spec hc
  refine mj_Ecv h h5 ?_
  rw [mj_k0 ho h1]
  unfold mj_vcl
  rw [h2]
  dsimp only
  rw [h3]
  show (if mj_ocl b = me.2.2.2.2.2.2.1 ∧ rest.length ≤ 8 then _ else _) = _
  rw [if_pos ⟨by rw [h4]; exact hb, hr⟩]
  rfl
theorem sx_s2v {j k y : Nat} {a1 a2 : Value} {rest : List Value} (h : mj_at id pc = some (.invokestatic j)) (ho : mj_own id = k) (hc : mj_cs k j = some (1, y, 2, 100, 0)) (hr : rest.length ≤ 8) : mj_E sl (d + 1) id pc L (a2 :: a1 :: rest) M = (mj_C sl d y [a1, a2] M).bind (fun q => mj_E sl (d + 1) id (pc + 3) L rest q.2) := by
  obtain ⟨h1, ⟨me, h2, h3, h4⟩, h5⟩ := mj_cs_spec hc
  refine mj_Ecv h h5 ?_
  rw [mj_k1 ho h1]
  unfold mj_scl
  rw [h2]
  dsimp only
  rw [h3, h4]
  rw [if_pos ⟨by simp, hr, rfl⟩]
  rfl
theorem sx_s2vn {j k y : Nat} {a1 a2 : Value} {rest : List Value} (h : mj_at id pc = some (.invokestatic j)) (ho : mj_own id = k) (hc : mj_cs k j = some (2, y, 2, 100, 0)) (hr : rest.length ≤ 8) : mj_E sl (d + 1) id pc L (a2 :: a1 :: rest) M = (mj_C sl d y [a1, a2] M).bind (fun q => mj_E sl (d + 1) id (pc + 3) L rest q.2) := by
  obtain ⟨h1, ⟨me, h2, h3, h4⟩, h5⟩ := mj_cs_spec hc
  refine mj_Ecv h h5 ?_
  rw [mj_k2 ho h1]
  unfold mj_scl
  rw [h2]
  dsimp only
  rw [h3, h4]
  rw [if_pos ⟨by simp, hr, rfl⟩]
  rfl
theorem sx_v3i {j k y b ci : Nat} {a1 a2 a3 : Value} {rest : List Value} (h : mj_at id pc = some (.invokevirtual j)) (ho : mj_own id = k) (hc : mj_cs k j = some (0, y, 3, ci, 1)) (hb : mj_ocl b = ci) (hr : rest.length ≤ 8) : mj_E sl (d + 1) id pc L (a3 :: a2 :: a1 :: .ref b :: rest) M = (mj_C sl d y [.ref b, a1, a2, a3] M).bind (fun q => mj_E sl (d + 1) id (pc + 3) L (.int q.1 :: rest) q.2) := by
  obtain ⟨h1, ⟨me, h2, h3, h4⟩, h5⟩ := mj_cs_spec hc
  refine mj_Eci h h5 ?_
  rw [mj_k0 ho h1]
  unfold mj_vcl
  rw [h2]
  dsimp only
  rw [h3]
  show (if mj_ocl b = me.2.2.2.2.2.2.1 ∧ rest.length ≤ 8 then _ else _) = _
  rw [if_pos ⟨by rw [h4]; exact hb, hr⟩]
  rfl
theorem sx_s3i {j k y : Nat} {a1 a2 a3 : Value} {rest : List Value} (h : mj_at id pc = some (.invokestatic j)) (ho : mj_own id = k) (hc : mj_cs k j = some (1, y, 3, 100, 1)) (hr : rest.length ≤ 8) : mj_E sl (d + 1) id pc L (a3 :: a2 :: a1 :: rest) M = (mj_C sl d y [a1, a2, a3] M).bind (fun q => mj_E sl (d + 1) id (pc + 3) L (.int q.1 :: rest) q.2) := by
  obtain ⟨h1, ⟨me, h2, h3, h4⟩, h5⟩ := mj_cs_spec hc
  refine mj_Eci h h5 ?_
  rw [mj_k1 ho h1]
  unfold mj_scl
  rw [h2]
  dsimp only
  rw [h3, h4]
  rw [if_pos ⟨by simp, hr, rfl⟩]
  rfl
theorem sx_s3in {j k y : Nat} {a1 a2 a3 : Value} {rest : List Value} (h : mj_at id pc = some (.invokestatic j)) (ho : mj_own id = k) (hc : mj_cs k j = some (2, y, 3, 100, 1)) (hr : rest.length ≤ 8) : mj_E sl (d + 1) id pc L (a3 :: a2 :: a1 :: rest) M = (mj_C sl d y [a1, a2, a3] M).bind (fun q => mj_E sl (d + 1) id (pc + 3) L (.int q.1 :: rest) q.2) := by
  obtain ⟨h1, ⟨me, h2, h3, h4⟩, h5⟩ := mj_cs_spec hc
  refine mj_Eci h h5 ?_
  rw [mj_k2 ho h1]
  unfold mj_scl
  rw [h2]
  dsimp only
  rw [h3, h4]
  rw [if_pos ⟨by simp, hr, rfl⟩]
  rfl
theorem sx_v3v {j k y b ci : Nat} {a1 a2 a3 : Value} {rest : List Value} (h : mj_at id pc = some (.invokevirtual j)) (ho : mj_own id = k) (hc : mj_cs k j = some (0, y, 3, ci, 0)) (hb : mj_ocl b = ci) (hr : rest.length ≤ 8) : mj_E sl (d + 1) id pc L (a3 :: a2 :: a1 :: .ref b :: rest) M = (mj_C sl d y [.ref b, a1, a2, a3] M).bind (fun q => mj_E sl (d + 1) id (pc + 3) L rest q.2) := by
  obtain ⟨h1, ⟨me, h2, h3, h4⟩, h5⟩ := mj_cs_spec hc
  refine mj_Ecv h h5 ?_
  rw [mj_k0 ho h1]
  unfold mj_vcl
  rw [h2]
  dsimp only
  rw [h3]
  show (if mj_ocl b = me.2.2.2.2.2.2.1 ∧ rest.length ≤ 8 then _ else _) = _
  rw [if_pos ⟨by rw [h4]; exact hb, hr⟩]
  rfl
theorem sx_s3v {j k y : Nat} {a1 a2 a3 : Value} {rest : List Value} (h : mj_at id pc = some (.invokestatic j)) (ho : mj_own id = k) (hc : mj_cs k j = some (1, y, 3, 100, 0)) (hr : rest.length ≤ 8) : mj_E sl (d + 1) id pc L (a3 :: a2 :: a1 :: rest) M = (mj_C sl d y [a1, a2, a3] M).bind (fun q => mj_E sl (d + 1) id (pc + 3) L rest q.2) := by
  obtain ⟨h1, ⟨me, h2, h3, h4⟩, h5⟩ := mj_cs_spec hc
  refine mj_Ecv h h5 ?_
  rw [mj_k1 ho h1]
  unfold mj_scl
  rw [h2]
  dsimp only
  rw [h3, h4]
  rw [if_pos ⟨by simp, hr, rfl⟩]
  rfl
theorem sx_s3vn {j k y : Nat} {a1 a2 a3 : Value} {rest : List Value} (h : mj_at id pc = some (.invokestatic j)) (ho : mj_own id = k) (hc : mj_cs k j = some (2, y, 3, 100, 0)) (hr : rest.length ≤ 8) : mj_E sl (d + 1) id pc L (a3 :: a2 :: a1 :: rest) M = (mj_C sl d y [a1, a2, a3] M).bind (fun q => mj_E sl (d + 1) id (pc + 3) L rest q.2) := by
  obtain ⟨h1, ⟨me, h2, h3, h4⟩, h5⟩ := mj_cs_spec hc
  refine mj_Ecv h h5 ?_
  rw [mj_k2 ho h1]
  unfold mj_scl
  rw [h2]
  dsimp only
  rw [h3, h4]
  rw [if_pos ⟨by simp, hr, rfl⟩]
  rfl
theorem sx_v4i {j k y b ci : Nat} {a1 a2 a3 a4 : Value} {rest : List Value} (h : mj_at id pc = some (.invokevirtual j)) (ho : mj_own id = k) (hc : mj_cs k j = some (0, y, 4, ci, 1)) (hb : mj_ocl b = ci) (hr : rest.length ≤ 8) : mj_E sl (d + 1) id pc L (a4 :: a3 :: a2 :: a1 :: .ref b :: rest) M = (mj_C sl d y [.ref b, a1, a2, a3, a4] M).bind (fun q => mj_E sl (d + 1) id (pc + 3) L (.int q.1 :: rest) q.2) := by
  obtain ⟨h1, ⟨me, h2, h3, h4⟩, h5⟩ := mj_cs_spec hc
  refine mj_Eci h h5 ?_
  rw [mj_k0 ho h1]
  unfold mj_vcl
  rw [h2]
  dsimp only
  rw [h3]
  show (if mj_ocl b = me.2.2.2.2.2.2.1 ∧ rest.length ≤ 8 then _ else _) = _
  rw [if_pos ⟨by rw [h4]; exact hb, hr⟩]
  rfl
theorem sx_s4i {j k y : Nat} {a1 a2 a3 a4 : Value} {rest : List Value} (h : mj_at id pc = some (.invokestatic j)) (ho : mj_own id = k) (hc : mj_cs k j = some (1, y, 4, 100, 1)) (hr : rest.length ≤ 8) : mj_E sl (d + 1) id pc L (a4 :: a3 :: a2 :: a1 :: rest) M = (mj_C sl d y [a1, a2, a3, a4] M).bind (fun q => mj_E sl (d + 1) id (pc + 3) L (.int q.1 :: rest) q.2) := by
  obtain ⟨h1, ⟨me, h2, h3, h4⟩, h5⟩ := mj_cs_spec hc
  refine mj_Eci h h5 ?_
  rw [mj_k1 ho h1]
  unfold mj_scl
  rw [h2]
  dsimp only
  rw [h3, h4]
  rw [if_pos ⟨by simp, hr, rfl⟩]
  rfl
theorem sx_s4in {j k y : Nat} {a1 a2 a3 a4 : Value} {rest : List Value} (h : mj_at id pc = some (.invokestatic j)) (ho : mj_own id = k) (hc : mj_cs k j = some (2, y, 4, 100, 1)) (hr : rest.length ≤ 8) : mj_E sl (d + 1) id pc L (a4 :: a3 :: a2 :: a1 :: rest) M = (mj_C sl d y [a1, a2, a3, a4] M).bind (fun q => mj_E sl (d + 1) id (pc + 3) L (.int q.1 :: rest) q.2) := by
  obtain ⟨h1, ⟨me, h2, h3, h4⟩, h5⟩ := mj_cs_spec hc
  refine mj_Eci h h5 ?_
  rw [mj_k2 ho h1]
  unfold mj_scl
  rw [h2]
  dsimp only
  rw [h3, h4]
  rw [if_pos ⟨by simp, hr, rfl⟩]
  rfl
theorem sx_v4v {j k y b ci : Nat} {a1 a2 a3 a4 : Value} {rest : List Value} (h : mj_at id pc = some (.invokevirtual j)) (ho : mj_own id = k) (hc : mj_cs k j = some (0, y, 4, ci, 0)) (hb : mj_ocl b = ci) (hr : rest.length ≤ 8) : mj_E sl (d + 1) id pc L (a4 :: a3 :: a2 :: a1 :: .ref b :: rest) M = (mj_C sl d y [.ref b, a1, a2, a3, a4] M).bind (fun q => mj_E sl (d + 1) id (pc + 3) L rest q.2) := by
  obtain ⟨h1, ⟨me, h2, h3, h4⟩, h5⟩ := mj_cs_spec hc
  refine mj_Ecv h h5 ?_
  rw [mj_k0 ho h1]
  unfold mj_vcl
  rw [h2]
  dsimp only
  rw [h3]
  show (if mj_ocl b = me.2.2.2.2.2.2.1 ∧ rest.length ≤ 8 then _ else _) = _
  rw [if_pos ⟨by rw [h4]; exact hb, hr⟩]
  rfl
theorem sx_s4v {j k y : Nat} {a1 a2 a3 a4 : Value} {rest : List Value} (h : mj_at id pc = some (.invokestatic j)) (ho : mj_own id = k) (hc : mj_cs k j = some (1, y, 4, 100, 0)) (hr : rest.length ≤ 8) : mj_E sl (d + 1) id pc L (a4 :: a3 :: a2 :: a1 :: rest) M = (mj_C sl d y [a1, a2, a3, a4] M).bind (fun q => mj_E sl (d + 1) id (pc + 3) L rest q.2) := by
  obtain ⟨h1, ⟨me, h2, h3, h4⟩, h5⟩ := mj_cs_spec hc
  refine mj_Ecv h h5 ?_
  rw [mj_k1 ho h1]
  unfold mj_scl
  rw [h2]
  dsimp only
  rw [h3, h4]
  rw [if_pos ⟨by simp, hr, rfl⟩]
  rfl
theorem sx_s4vn {j k y : Nat} {a1 a2 a3 a4 : Value} {rest : List Value} (h : mj_at id pc = some (.invokestatic j)) (ho : mj_own id = k) (hc : mj_cs k j = some (2, y, 4, 100, 0)) (hr : rest.length ≤ 8) : mj_E sl (d + 1) id pc L (a4 :: a3 :: a2 :: a1 :: rest) M = (mj_C sl d y [a1, a2, a3, a4] M).bind (fun q => mj_E sl (d + 1) id (pc + 3) L rest q.2) := by
  obtain ⟨h1, ⟨me, h2, h3, h4⟩, h5⟩ := mj_cs_spec hc
  refine mj_Ecv h h5 ?_
  rw [mj_k2 ho h1]
  unfold mj_scl
  rw [h2]
  dsimp only
  rw [h3, h4]
  rw [if_pos ⟨by simp, hr, rfl⟩]
  rfl
theorem sx_v5i {j k y b ci : Nat} {a1 a2 a3 a4 a5 : Value} {rest : List Value} (h : mj_at id pc = some (.invokevirtual j)) (ho : mj_own id = k) (hc : mj_cs k j = some (0, y, 5, ci, 1)) (hb : mj_ocl b = ci) (hr : rest.length ≤ 8) : mj_E sl (d + 1) id pc L (a5 :: a4 :: a3 :: a2 :: a1 :: .ref b :: rest) M = (mj_C sl d y [.ref b, a1, a2, a3, a4, a5] M).bind (fun q => mj_E sl (d + 1) id (pc + 3) L (.int q.1 :: rest) q.2) := by
  obtain ⟨h1, ⟨me, h2, h3, h4⟩, h5⟩ := mj_cs_spec hc
  refine mj_Eci h h5 ?_
  rw [mj_k0 ho h1]
  unfold mj_vcl
  rw [h2]
  dsimp only
  rw [h3]
  show (if mj_ocl b = me.2.2.2.2.2.2.1 ∧ rest.length ≤ 8 then _ else _) = _
  rw [if_pos ⟨by rw [h4]; exact hb, hr⟩]
  rfl
theorem sx_s5i {j k y : Nat} {a1 a2 a3 a4 a5 : Value} {rest : List Value} (h : mj_at id pc = some (.invokestatic j)) (ho : mj_own id = k) (hc : mj_cs k j = some (1, y, 5, 100, 1)) (hr : rest.length ≤ 8) : mj_E sl (d + 1) id pc L (a5 :: a4 :: a3 :: a2 :: a1 :: rest) M = (mj_C sl d y [a1, a2, a3, a4, a5] M).bind (fun q => mj_E sl (d + 1) id (pc + 3) L (.int q.1 :: rest) q.2) := by
  obtain ⟨h1, ⟨me, h2, h3, h4⟩, h5⟩ := mj_cs_spec hc
  refine mj_Eci h h5 ?_
  rw [mj_k1 ho h1]
  unfold mj_scl
  rw [h2]
  dsimp only
  rw [h3, h4]
  rw [if_pos ⟨by simp, hr, rfl⟩]
  rfl
theorem sx_s5in {j k y : Nat} {a1 a2 a3 a4 a5 : Value} {rest : List Value} (h : mj_at id pc = some (.invokestatic j)) (ho : mj_own id = k) (hc : mj_cs k j = some (2, y, 5, 100, 1)) (hr : rest.length ≤ 8) : mj_E sl (d + 1) id pc L (a5 :: a4 :: a3 :: a2 :: a1 :: rest) M = (mj_C sl d y [a1, a2, a3, a4, a5] M).bind (fun q => mj_E sl (d + 1) id (pc + 3) L (.int q.1 :: rest) q.2) := by
  obtain ⟨h1, ⟨me, h2, h3, h4⟩, h5⟩ := mj_cs_spec hc
  refine mj_Eci h h5 ?_
  rw [mj_k2 ho h1]
  unfold mj_scl
  rw [h2]
  dsimp only
  rw [h3, h4]
  rw [if_pos ⟨by simp, hr, rfl⟩]
  rfl
theorem sx_v5v {j k y b ci : Nat} {a1 a2 a3 a4 a5 : Value} {rest : List Value} (h : mj_at id pc = some (.invokevirtual j)) (ho : mj_own id = k) (hc : mj_cs k j = some (0, y, 5, ci, 0)) (hb : mj_ocl b = ci) (hr : rest.length ≤ 8) : mj_E sl (d + 1) id pc L (a5 :: a4 :: a3 :: a2 :: a1 :: .ref b :: rest) M = (mj_C sl d y [.ref b, a1, a2, a3, a4, a5] M).bind (fun q => mj_E sl (d + 1) id (pc + 3) L rest q.2) := by
  obtain ⟨h1, ⟨me, h2, h3, h4⟩, h5⟩ := mj_cs_spec hc
  refine mj_Ecv h h5 ?_
  rw [mj_k0 ho h1]
  unfold mj_vcl
  rw [h2]
  dsimp only
  rw [h3]
  show (if mj_ocl b = me.2.2.2.2.2.2.1 ∧ rest.length ≤ 8 then _ else _) = _
  rw [if_pos ⟨by rw [h4]; exact hb, hr⟩]
  rfl
theorem sx_s5v {j k y : Nat} {a1 a2 a3 a4 a5 : Value} {rest : List Value} (h : mj_at id pc = some (.invokestatic j)) (ho : mj_own id = k) (hc : mj_cs k j = some (1, y, 5, 100, 0)) (hr : rest.length ≤ 8) : mj_E sl (d + 1) id pc L (a5 :: a4 :: a3 :: a2 :: a1 :: rest) M = (mj_C sl d y [a1, a2, a3, a4, a5] M).bind (fun q => mj_E sl (d + 1) id (pc + 3) L rest q.2) := by
  obtain ⟨h1, ⟨me, h2, h3, h4⟩, h5⟩ := mj_cs_spec hc
  refine mj_Ecv h h5 ?_
  rw [mj_k1 ho h1]
  unfold mj_scl
  rw [h2]
  dsimp only
  rw [h3, h4]
  rw [if_pos ⟨by simp, hr, rfl⟩]
  rfl
theorem sx_s5vn {j k y : Nat} {a1 a2 a3 a4 a5 : Value} {rest : List Value} (h : mj_at id pc = some (.invokestatic j)) (ho : mj_own id = k) (hc : mj_cs k j = some (2, y, 5, 100, 0)) (hr : rest.length ≤ 8) : mj_E sl (d + 1) id pc L (a5 :: a4 :: a3 :: a2 :: a1 :: rest) M = (mj_C sl d y [a1, a2, a3, a4, a5] M).bind (fun q => mj_E sl (d + 1) id (pc + 3) L rest q.2) := by
  obtain ⟨h1, ⟨me, h2, h3, h4⟩, h5⟩ := mj_cs_spec hc
  refine mj_Ecv h h5 ?_
  rw [mj_k2 ho h1]
  unfold mj_scl
  rw [h2]
  dsimp only
  rw [h3, h4]
  rw [if_pos ⟨by simp, hr, rfl⟩]
  rfl
theorem sx_ildk {a n k : Nat} {i : Int32} (h : mj_at id pc = some .iaload) (ha : ¬ a = 72) (hn : mj_ial a = n) (hi : mj_inB i n = true) (hk : i.toNatClampNeg = k) : mj_E sl d id pc L (.int i :: .ref a :: st) M = mj_E sl d id (pc + 1) L (.int (M a k) :: st) M := by
  rw [sx_ild h ha hn, if_pos hi, hk]
theorem sx_istk {a n k : Nat} {i x : Int32} (h : mj_at id pc = some .iastore) (hn : mj_ial a = n) (hi : mj_inB i n = true) (hk : i.toNatClampNeg = k) : mj_E sl d id pc L (.int x :: .int i :: .ref a :: st) M = mj_E sl d id (pc + 1) L st (mj_st M a k x) := by
  rw [sx_ist h hn, if_pos hi, hk]
theorem sx_bldk {a n k : Nat} {i : Int32} (h : mj_at id pc = some .baload) (hn : mj_bln a = n) (hi : mj_inB i n = true) (hk : i.toNatClampNeg = k) : mj_E sl d id pc L (.int i :: .ref a :: st) M = mj_E sl d id (pc + 1) L (.int (M a k) :: st) M := by
  rw [sx_bld h hn, if_pos hi, hk]
theorem mj_sel {α : Type} {c : Prop} [Decidable c] {x a b : α} (h1 : c → x = a) (h2 : ¬ c → x = b) : x = if c then a else b := by
  split
  · next h => exact h1 h
  · next h => exact h2 h
theorem mj_ne {x c : Int32} {n : Int} (h : ¬ x = c) (hc : c.toInt = n) : x.toInt ≠ n := fun e => h (Int32.toInt_inj.mp (e.trans hc.symm))
theorem mj_nes {x : Int32} {n : Int} (h : x.toInt ≠ n) : n ≠ x.toInt := fun e => h e.symm
end MJ2
