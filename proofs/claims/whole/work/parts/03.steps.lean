theorem mj_mono {sl : Nat} : ∀ (n d id pc : Nat) (L st : List Value) (M : mj_M) (r : Option Value × mj_M), mj_ex sl n d id pc L st M = some r → mj_ex sl (n + 1) d id pc L st M = some r := by
  intro n
  induction n with
  | zero => intro d id pc L st M r h; rw [mj_ex] at h; cases h
  | succ n ih =>
    intro d id pc L st M r h
    rw [mj_ex] at h ⊢
    cases hi : mj_at id pc with
    | none => rw [hi] at h; cases h
    | some i =>
      rw [hi] at h
      dsimp only at h ⊢
      cases hs : mj_stp sl d id i pc L st M with
      | none => rw [hs] at h; cases h
      | some o =>
        rw [hs] at h
        rcases o with ⟨pc', L', st', M'⟩ | r' | ⟨y, as, rest⟩
        · exact ih _ _ _ _ _ _ _ h
        · exact h
        · dsimp only at h ⊢
          cases d with
          | zero => cases h
          | succ d' =>
            dsimp only at h ⊢
            cases hc : mj_ex sl n d' y 0 (mj_ent y as) [] M with
            | none => rw [hc] at h; cases h
            | some q =>
              rw [hc] at h
              rw [ih _ _ _ _ _ _ _ hc]
              exact ih _ _ _ _ _ _ _ h
theorem mj_mono2 {sl : Nat} {n d id pc : Nat} {L st : List Value} {M : mj_M} {r : Option Value × mj_M} (h : mj_ex sl n d id pc L st M = some r) : ∀ k, mj_ex sl (n + k) d id pc L st M = some r := by
  intro k
  induction k with
  | zero => exact h
  | succ k ih => exact mj_mono _ _ _ _ _ _ _ _ ih
theorem mj_det {sl : Nat} {n k d id pc : Nat} {L st : List Value} {M : mj_M} {r q : Option Value × mj_M} (h : mj_ex sl n d id pc L st M = some r) (h2 : mj_ex sl k d id pc L st M = some q) : r = q := by
  have a := mj_mono2 h k
  have b := mj_mono2 h2 n
  rw [Nat.add_comm k n] at b
  exact Option.some.inj (a.symm.trans b)
noncomputable def mj_F (sl d id pc : Nat) (L st : List Value) (M : mj_M) : Option (Option Value × mj_M) :=
  @dite _ (∃ (n : Nat) (r : Option Value × mj_M), mj_ex sl n d id pc L st M = some r) (Classical.propDecidable _) (fun h => some (Classical.choose (Classical.choose_spec h))) (fun _ => none)
theorem mj_F_iff {sl d id pc : Nat} {L st : List Value} {M : mj_M} {r : Option Value × mj_M} : mj_F sl d id pc L st M = some r ↔ ∃ n, mj_ex sl n d id pc L st M = some r := by
  constructor
  · intro h
    unfold mj_F at h
    split at h
    · next hx =>
      have e := Option.some.inj h
      exact ⟨_, by rw [← e]; exact Classical.choose_spec (Classical.choose_spec hx)⟩
    · cases h
  · rintro ⟨n, h⟩
    unfold mj_F
    have hx : ∃ (n : Nat) (r : Option Value × mj_M), mj_ex sl n d id pc L st M = some r := ⟨n, r, h⟩
    rw [dif_pos hx]
    exact congrArg some (mj_det (Classical.choose_spec (Classical.choose_spec hx)) h)
theorem mj_oext {α : Type} {a b : Option α} (h : ∀ r, a = some r ↔ b = some r) : a = b := by
  cases ha : a with
  | some x => exact ((h x).mp ha).symm
  | none =>
    cases hb : b with
    | none => rfl
    | some y => rw [(h y).mpr hb] at ha; cases ha
section MJ1
variable {sl d id pc : Nat} {L st : List Value} {M : mj_M} {i : Instr}
theorem mj_Fs {pc' : Nat} {L' st' : List Value} {M' : mj_M} (h : mj_at id pc = some i) (hs : mj_stp sl d id i pc L st M = some (.inl (pc', L', st', M'))) : mj_F sl d id pc L st M = mj_F sl d id pc' L' st' M' := by
  have e : ∀ n, mj_ex sl (n + 1) d id pc L st M = mj_ex sl n d id pc' L' st' M' := by
    intro n
    rw [mj_ex, h]
    dsimp only
    rw [hs]
  refine mj_oext (fun r => ?_)
  rw [mj_F_iff, mj_F_iff]
  constructor
  · rintro ⟨n, hn⟩
    cases n with
    | zero => rw [mj_ex] at hn; cases hn
    | succ n => exact ⟨n, by rw [← e]; exact hn⟩
  · rintro ⟨n, hn⟩
    exact ⟨n + 1, by rw [e]; exact hn⟩
theorem mj_Fr {r : Option Value} (h : mj_at id pc = some i) (hs : mj_stp sl d id i pc L st M = some (.inr (.inl r))) : mj_F sl d id pc L st M = some (r, M) := by
  refine mj_F_iff.mpr ⟨1, ?_⟩
  rw [mj_ex, h]
  dsimp only
  rw [hs]
theorem mj_Fn (h : mj_at id pc = some i) (hs : mj_stp sl d id i pc L st M = none) : mj_F sl d id pc L st M = none := by
  refine mj_oext (fun r => ?_)
  rw [mj_F_iff]
  constructor
  · rintro ⟨n, hn⟩
    cases n with
    | zero => rw [mj_ex] at hn; cases hn
    | succ n =>
      rw [mj_ex, h] at hn
      dsimp only at hn
      rw [hs] at hn
      cases hn
  · intro h; cases h
theorem mj_Fc {y : Nat} {as rest : List Value} (h : mj_at id pc = some i) (hs : mj_stp sl (d + 1) id i pc L st M = some (.inr (.inr (y, as, rest)))) :
    mj_F sl (d + 1) id pc L st M = (mj_F sl d y 0 (mj_ent y as) [] M).bind (fun q => mj_F sl (d + 1) id (pc + 3) L (q.1.toList ++ rest) q.2) := by
  refine mj_oext (fun r => ?_)
  rw [mj_F_iff]
  constructor
  · rintro ⟨n, hn⟩
    cases n with
    | zero => rw [mj_ex] at hn; cases hn
    | succ n =>
      rw [mj_ex, h] at hn
      dsimp only at hn
      rw [hs] at hn
      dsimp only at hn
      cases hc : mj_ex sl n d y 0 (mj_ent y as) [] M with
      | none => rw [hc] at hn; cases hn
      | some q =>
        rw [hc] at hn
        rw [mj_F_iff.mpr ⟨n, hc⟩]
        exact mj_F_iff.mpr ⟨n, hn⟩
  · intro hb
    cases hc : mj_F sl d y 0 (mj_ent y as) [] M with
    | none => rw [hc] at hb; cases hb
    | some q =>
      rw [hc] at hb
      obtain ⟨n1, h1⟩ := mj_F_iff.mp hc
      obtain ⟨n2, h2⟩ := mj_F_iff.mp (show mj_F sl (d + 1) id (pc + 3) L (q.1.toList ++ rest) q.2 = some r from hb)
      refine ⟨n1 + n2 + 1, ?_⟩
      rw [mj_ex, h]
      dsimp only
      rw [hs]
      dsimp only
      rw [mj_mono2 h1 n2]
      dsimp only
      have h3 := mj_mono2 h2 n1
      rw [Nat.add_comm n2 n1] at h3
      exact h3
end MJ1
def mj_rk (id : Nat) : Nat := match mj_tab[id]? with
  | none => 9
  | some me => if me.2.2.2.1 = none then 0 else if me.2.2.2.1 = some .int ∨ me.2.2.2.1 = some .boolean ∨ me.2.2.2.1 = some .byte then 1 else 2
def mj_rok (k : Nat) (r : Option Value) : Prop := match r with
  | none => k = 0
  | some (.int _) => k = 1
  | some (.ref _) => k = 2
  | _ => False
theorem mj_stp_ret {sl d id pc : Nat} {L st : List Value} {M : mj_M} {i : Instr} {r : Option Value} (hs : mj_stp sl d id i pc L st M = some (.inr (.inl r))) : mj_rok (mj_rk id) r := by
  have none_of : ∀ (j : Nat), mj_vcl j st ≠ some (.inr (.inl r)) := by
    intro j h
    unfold mj_vcl at h
    repeat' split at h
    all_goals first | cases h | (simp at h)
  have none_of2 : ∀ (j : Nat), mj_scl j st ≠ some (.inr (.inl r)) := by
    intro j h
    unfold mj_scl at h
    repeat' split at h
    all_goals first | cases h | (simp at h)
  cases i
  case getfield j =>
    simp only [mj_stp, mj_gf, mj_nx] at hs
    (repeat' split at hs) <;> first | (cases hs; done) | (simp at hs; done)
  case putfield j =>
    simp only [mj_stp, mj_pf, mj_nx] at hs
    (repeat' split at hs) <;> first | (cases hs; done) | (simp at hs; done)
  case tableswitch =>
    simp only [mj_stp, mj_tsw, mj_go, mj_nx] at hs
    (repeat' split at hs) <;> first | (cases hs; done) | (simp at hs; done)
  case lookupswitch =>
    simp only [mj_stp, mj_lsw, mj_go, mj_nx] at hs
    (repeat' split at hs) <;> first | (cases hs; done) | (simp at hs; done)
  case ireturn =>
    simp only [mj_stp, mj_rti] at hs
    split at hs
    · split at hs
      · next me hm =>
        split at hs
        · next hc =>
          cases hs
          unfold mj_rok mj_rk
          rw [hm]
          dsimp only
          rcases hc with hc | hc | hc
          · rw [hc]; rfl
          · rw [hc.1]; rfl
          · rw [hc.1]; rfl
        · cases hs
      · cases hs
    · cases hs
  case areturn =>
    simp only [mj_stp, mj_rta] at hs
    split at hs
    · split at hs
      · next me hm =>
        split at hs
        · next hc =>
          cases hs
          unfold mj_rok mj_rk
          rw [hm]
          dsimp only
          rw [hc]
          rfl
        · cases hs
      · cases hs
    · cases hs
  case return_ =>
    simp only [mj_stp, mj_rtv] at hs
    split at hs
    · split at hs
      · next me hm =>
        split at hs
        · next hc =>
          cases hs
          unfold mj_rok mj_rk
          rw [hm]
          dsimp only
          rw [hc]
          rfl
        · cases hs
      · cases hs
    · cases hs
  case invokestatic j =>
    simp only [mj_stp, mj_ivs] at hs
    split at hs
    · split at hs
      · exact absurd hs (none_of2 _)
      · split at hs
        · simp only [mj_acp, mj_nx] at hs
          (repeat' split at hs) <;> first | (cases hs; done) | (simp at hs; done)
        · simp only [mj_mth, mj_nx] at hs
          (repeat' split at hs) <;> first | (cases hs; done) | (simp at hs; done)
    · cases hs
  case invokevirtual j =>
    simp only [mj_stp, mj_ivv] at hs
    split at hs
    · split at hs
      · exact absurd hs (none_of _)
      · cases hs
    · cases hs
  all_goals (simp only [mj_stp, mj_ldc, mj_ldi, mj_lda, mj_sti, mj_sta, mj_dup, mj_dup2, mj_bin, mj_dv, mj_un, mj_go, mj_icmp, mj_ifc, mj_br, mj_ild, mj_ist, mj_bld, mj_bst, mj_aln, mj_gs, mj_nx] at hs)
  all_goals first | (cases hs; done) | (simp at hs; done) | ((repeat' split at hs) <;> first | (cases hs; done) | (simp at hs; done))
theorem mj_ex_ret {sl : Nat} : ∀ (n d id pc : Nat) (L st : List Value) (M : mj_M) (r : Option Value × mj_M), mj_ex sl n d id pc L st M = some r → mj_rok (mj_rk id) r.1 := by
  intro n
  induction n with
  | zero => intro d id pc L st M r h; rw [mj_ex] at h; cases h
  | succ n ih =>
    intro d id pc L st M r h
    rw [mj_ex] at h
    cases hi : mj_at id pc with
    | none => rw [hi] at h; cases h
    | some i =>
      rw [hi] at h
      dsimp only at h
      cases hs : mj_stp sl d id i pc L st M with
      | none => rw [hs] at h; cases h
      | some o =>
        rw [hs] at h
        rcases o with ⟨pc', L', st', M'⟩ | r' | ⟨y, as, rest⟩
        · exact ih _ _ _ _ _ _ _ h
        · cases h
          exact mj_stp_ret hs
        · dsimp only at h
          cases d with
          | zero => cases h
          | succ d' =>
            dsimp only at h
            cases hc : mj_ex sl n d' y 0 (mj_ent y as) [] M with
            | none => rw [hc] at h; cases h
            | some q =>
              rw [hc] at h
              exact ih _ _ _ _ _ _ _ h
def mj_cd (r : Option Value) : Int32 := match r with
  | some (.int v) => v
  | some (.ref a) => nI a
  | _ => 0
noncomputable def mj_E (sl d id pc : Nat) (L st : List Value) (M : mj_M) : Option (Int32 × mj_M) := (mj_F sl d id pc L st M).map (fun q => (mj_cd q.1, q.2))
noncomputable def mj_C (sl d id : Nat) (as : List Value) (M : mj_M) : Option (Int32 × mj_M) := mj_E sl d id 0 (mj_ent id as) [] M
theorem mj_F_int {sl d id pc : Nat} {L st : List Value} {M : mj_M} {q : Option Value × mj_M} (hk : mj_rk id = 1) (h : mj_F sl d id pc L st M = some q) : q.1 = some (.int (mj_cd q.1)) := by
  obtain ⟨n, hn⟩ := mj_F_iff.mp h
  have h1 := mj_ex_ret _ _ _ _ _ _ _ _ hn
  obtain ⟨r, M'⟩ := q
  rw [hk] at h1
  unfold mj_rok at h1
  dsimp only at h1 ⊢
  split at h1
  · cases h1
  · rfl
  · cases h1
  · exact h1.elim
theorem mj_F_void {sl d id pc : Nat} {L st : List Value} {M : mj_M} {q : Option Value × mj_M} (hk : mj_rk id = 0) (h : mj_F sl d id pc L st M = some q) : q.1 = none := by
  obtain ⟨n, hn⟩ := mj_F_iff.mp h
  have h1 := mj_ex_ret _ _ _ _ _ _ _ _ hn
  obtain ⟨r, M'⟩ := q
  rw [hk] at h1
  unfold mj_rok at h1
  dsimp only at h1 ⊢
  split at h1
  · rfl
  · cases h1
  · cases h1
  · exact h1.elim
theorem mj_F_ref {sl d id pc : Nat} {L st : List Value} {M : mj_M} {q : Option Value × mj_M} (hk : mj_rk id = 2) (h : mj_F sl d id pc L st M = some q) : ∃ a, q.1 = some (.ref a) := by
  obtain ⟨n, hn⟩ := mj_F_iff.mp h
  have h1 := mj_ex_ret _ _ _ _ _ _ _ _ hn
  obtain ⟨r, M'⟩ := q
  rw [hk] at h1
  unfold mj_rok at h1
  dsimp only at h1 ⊢
  split at h1
  · cases h1
  · cases h1
  · exact ⟨_, rfl⟩
  · exact h1.elim
