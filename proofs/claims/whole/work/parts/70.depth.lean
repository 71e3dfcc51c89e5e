theorem mj_acp_d {d pc : Nat} {L st : List Value} {M : mj_M} {o : mj_O} (h : mj_acp d pc L st M = some o) : mj_acp (d + 1) pc L st M = some o := by
  unfold mj_acp at h ⊢
  split at h
  · split at h
    · next hc =>
      rw [if_pos ⟨by omega, hc.2⟩]
      exact h
    · cases h
  · cases h
theorem mj_mth_d {f : Int32 → Int32 → Int32} {d pc : Nat} {L st : List Value} {M : mj_M} {o : mj_O} (h : mj_mth f d pc L st M = some o) : mj_mth f (d + 1) pc L st M = some o := by
  unfold mj_mth at h ⊢
  split at h
  · split at h
    · next hc =>
      rw [if_pos ⟨by omega, hc.2⟩]
      exact h
    · cases h
  · cases h
theorem mj_ivs_d {d k j pc : Nat} {L st : List Value} {M : mj_M} {o : mj_O} (h : mj_ivs d k j pc L st M = some o) : mj_ivs (d + 1) k j pc L st M = some o := by
  unfold mj_ivs at h ⊢
  cases hc : mj_cT k j with
  | none => rw [hc] at h; cases h
  | some q =>
    obtain ⟨kd, id⟩ := q
    rw [hc] at h
    dsimp only at h ⊢
    by_cases h1 : kd = 1 ∨ kd = 2
    · rw [if_pos h1] at h ⊢; exact h
    rw [if_neg h1] at h ⊢
    by_cases h3 : kd = 3
    · rw [if_pos h3] at h ⊢; exact mj_acp_d h
    rw [if_neg h3] at h ⊢
    by_cases h5 : kd = 5
    · rw [if_pos h5] at h ⊢; exact mj_mth_d h
    rw [if_neg h5] at h ⊢
    by_cases h6 : kd = 6
    · rw [if_pos h6] at h ⊢; exact mj_mth_d h
    · rw [if_neg h6] at h; cases h
theorem mj_stp_d {sl d id pc : Nat} {i : Instr} {L st : List Value} {M : mj_M} {o : mj_O} (h : mj_stp sl d id i pc L st M = some o) : mj_stp sl (d + 1) id i pc L st M = some o := by
  cases i with
  | invokestatic j => exact mj_ivs_d h
  | _ => exact h
theorem mj_ex_d {sl : Nat} : ∀ (n d id pc : Nat) (L st : List Value) (M : mj_M) (r : Option Value × mj_M), mj_ex sl n d id pc L st M = some r → mj_ex sl n (d + 1) id pc L st M = some r := by
  intro n
  induction n with
  | zero => intro d id pc L st M r h; rw [mj_ex] at h; cases h
  | succ n ih =>
    intro d id pc L st M r h
    rw [mj_ex] at h ⊢
    cases hi : mj_at id pc with
    | none => rw [hi] at h; cases h
    | some i =>
      rw [hi] at h
      dsimp only at h ⊢
      cases hs : mj_stp sl d id i pc L st M with
      | none => rw [hs] at h; cases h
      | some o =>
        rw [mj_stp_d hs]
        rw [hs] at h
        rcases o with ⟨pc', L', st', M'⟩ | r' | ⟨y, as, rest⟩
        · exact ih _ _ _ _ _ _ _ h
        · exact h
        · dsimp only at h ⊢
          cases d with
          | zero => cases h
          | succ d' =>
            dsimp only at h ⊢
            cases hc : mj_ex sl n d' y 0 (mj_ent y as) [] M with
            | none => rw [hc] at h; cases h
            | some q =>
              rw [hc] at h
              rw [ih _ _ _ _ _ _ _ hc]
              exact ih _ _ _ _ _ _ _ h
theorem mj_C_d {sl d id : Nat} {as : List Value} {M : mj_M} {r : Int32 × mj_M} (h : mj_C sl d id as M = some r) : mj_C sl (d + 1) id as M = some r := by
  unfold mj_C mj_E at h ⊢
  cases hc : mj_F sl d id 0 (mj_ent id as) [] M with
  | none => rw [hc] at h; cases h
  | some q =>
    obtain ⟨n, hn⟩ := mj_F_iff.mp hc
    rw [mj_F_iff.mpr ⟨n, mj_ex_d _ _ _ _ _ _ _ _ hn⟩]
    rw [hc] at h
    exact h
theorem mj_C_dk {sl d id : Nat} {as : List Value} {M : mj_M} {r : Int32 × mj_M} (h : mj_C sl d id as M = some r) : ∀ k, mj_C sl (d + k) id as M = some r
  | 0 => h
  | k + 1 => mj_C_d (mj_C_dk h k)
