theorem mj_stp_ro {i : Instr} {sl d id pc pc' : Nat} {L L' st st' : List Value} {M M' : mj_M} (hs : mj_stp sl d id i pc L st M = some (.inl (pc', L', st', M'))) : M' 72 = M 72 ∧ M' 74 = M 74 := by
  have nrow : ∀ (a : Nat) (f : Nat → Int32), a < 72 → mj_row M a f 72 = M 72 ∧ mj_row M a f 74 = M 74 := fun a f ha => ⟨mj_row_ne (by omega), mj_row_ne (by omega)⟩
  cases i
  case putfield j =>
    have hs : mj_pf (mj_own id) j pc L st M = _ := hs
    unfold mj_pf at hs
    split at hs
    · next ci slt kd hf =>
      have key : ∀ a : Nat, mj_ocl a = ci → kd ≤ 3 → a < 72 := fun a ho hkd => by
        have hc : ci ≠ 14 := fun z => by
          subst z
          rcases mj_fT_str hf with ⟨y, -⟩ | ⟨y, -⟩ <;> omega
        obtain ⟨q, hq, h1, hw, h3, h4, h5, h6, h7, h8, h9, h10⟩ := mj_fT_obj hf hc
        exact (mj_obj ho h10).1
      split at hs
      · split at hs
        · next hcc =>
          cases hs
          exact nrow _ _ (key _ hcc.1 (by omega))
        · cases hs
      · split at hs
        · next hcc =>
          cases hs
          exact nrow _ _ (key _ hcc.1 (by omega))
        · cases hs
      · cases hs
    · cases hs
  case iastore =>
    have hs : mj_ist pc L st M = _ := hs
    unfold mj_ist at hs
    split at hs
    · next x i a st0 z0 =>
      split at hs
      · next hc =>
        cases hs
        have h0 : mj_ial a ≠ 0 := fun z => by
          rw [z] at hc
          exact mj_inB_iff hc (Or.inr (Nat.zero_le _))
        exact nrow _ _ (mj_ial_lt h0)
      · cases hs
    · cases hs
  case bastore =>
    have hs : mj_bst pc L st M = _ := hs
    unfold mj_bst at hs
    split at hs
    · next x i a st0 z0 =>
      split at hs
      · next hc =>
        cases hs
        have h0 : mj_bal a ≠ 0 := fun z => by
          rw [z] at hc
          exact mj_inB_iff hc (Or.inr (Nat.zero_le _))
        obtain rfl := mj_bal_50 h0
        exact nrow _ _ (by decide)
      · cases hs
    · cases hs
  case invokestatic j =>
    have hs : mj_ivs d (mj_own id) j pc L st M = _ := hs
    unfold mj_ivs at hs
    split at hs
    · split at hs
      · unfold mj_scl at hs
        (repeat' split at hs) <;> cases hs
      · split at hs
        · unfold mj_acp mj_nx at hs
          split at hs
          · split at hs
            · next hq =>
              cases hs
              exact nrow _ _ (mj_ial_lt hq.2.2.2.2.2.2.1)
            · cases hs
          · cases hs
        · split at hs
          · unfold mj_mth mj_nx at hs
            (repeat' split at hs) <;> (cases hs; try exact ⟨rfl, rfl⟩)
          · split at hs
            · unfold mj_mth mj_nx at hs
              (repeat' split at hs) <;> (cases hs; try exact ⟨rfl, rfl⟩)
            · cases hs
    · cases hs
  case invokevirtual j =>
    have hs : mj_ivv (mj_own id) j st = _ := hs
    unfold mj_ivv mj_vcl at hs
    (repeat' split at hs) <;> cases hs
  case getfield j =>
    simp only [mj_stp, mj_gf, mj_nx] at hs
    (repeat' split at hs) <;> first | (cases hs; exact ⟨rfl, rfl⟩) | (cases hs; done) | (simp at hs; done)
  case tableswitch =>
    simp only [mj_stp, mj_tsw, mj_go, mj_nx] at hs
    (repeat' split at hs) <;> first | (cases hs; exact ⟨rfl, rfl⟩) | (cases hs; done) | (simp at hs; done)
  case lookupswitch =>
    simp only [mj_stp, mj_lsw, mj_go, mj_nx] at hs
    (repeat' split at hs) <;> first | (cases hs; exact ⟨rfl, rfl⟩) | (cases hs; done) | (simp at hs; done)
  case ireturn =>
    simp only [mj_stp, mj_rti] at hs
    (repeat' split at hs) <;> first | (cases hs; done) | (simp at hs; done)
  case areturn =>
    simp only [mj_stp, mj_rta] at hs
    (repeat' split at hs) <;> first | (cases hs; done) | (simp at hs; done)
  case return_ =>
    simp only [mj_stp, mj_rtv] at hs
    (repeat' split at hs) <;> first | (cases hs; done) | (simp at hs; done)
  all_goals (simp only [mj_stp, mj_ldc, mj_ldi, mj_lda, mj_sti, mj_sta, mj_dup, mj_dup2, mj_bin, mj_dv, mj_un, mj_go, mj_icmp, mj_ifc, mj_br, mj_ild, mj_bld, mj_aln, mj_gs, mj_nx] at hs)
  all_goals first | (cases hs; exact ⟨rfl, rfl⟩) | (cases hs; done) | (simp at hs; done) | ((repeat' split at hs) <;> first | (cases hs; exact ⟨rfl, rfl⟩) | (cases hs; done) | (simp at hs; done))
theorem mj_stp_noret {i : Instr} {sl d id pc : Nat} {L st : List Value} {M : mj_M} {r : Option Value} (hs : mj_stp sl d id i pc L st M = some (.inr (.inl r))) (h1 : i ≠ .ireturn) (h2 : i ≠ .areturn) (h3 : i ≠ .return_) : False := by
  cases i
  case ireturn => exact h1 rfl
  case areturn => exact h2 rfl
  case return_ => exact h3 rfl
  case getfield j =>
    simp only [mj_stp, mj_gf, mj_nx] at hs
    (repeat' split at hs) <;> first | (cases hs; done) | (simp at hs; done)
  case putfield j =>
    simp only [mj_stp, mj_pf, mj_nx] at hs
    (repeat' split at hs) <;> first | (cases hs; done) | (simp at hs; done)
  case tableswitch =>
    simp only [mj_stp, mj_tsw, mj_go, mj_nx] at hs
    (repeat' split at hs) <;> first | (cases hs; done) | (simp at hs; done)
  case lookupswitch =>
    simp only [mj_stp, mj_lsw, mj_go, mj_nx] at hs
    (repeat' split at hs) <;> first | (cases hs; done) | (simp at hs; done)
  case invokestatic j =>
    have hs : mj_ivs d (mj_own id) j pc L st M = _ := hs
    unfold mj_ivs mj_scl mj_acp mj_mth mj_nx at hs
    (repeat' split at hs) <;> first | (cases hs; done) | (simp at hs; done)
  case invokevirtual j =>
    have hs : mj_ivv (mj_own id) j st = _ := hs
    unfold mj_ivv mj_vcl at hs
    (repeat' split at hs) <;> first | (cases hs; done) | (simp at hs; done)
  all_goals (simp only [mj_stp, mj_ldc, mj_ldi, mj_lda, mj_sti, mj_sta, mj_dup, mj_dup2, mj_bin, mj_dv, mj_un, mj_go, mj_icmp, mj_ifc, mj_br, mj_ild, mj_ist, mj_bld, mj_bst, mj_aln, mj_gs, mj_nx] at hs)
  all_goals first | (cases hs; done) | (simp at hs; done) | ((repeat' split at hs) <;> first | (cases hs; done) | (simp at hs; done))
theorem mj_ex_ro {sl : Nat} : ∀ (n d id pc : Nat) (L st : List Value) (M : mj_M) (r : Option Value × mj_M), mj_ex sl n d id pc L st M = some r → r.2 72 = M 72 ∧ r.2 74 = M 74 := by
  intro n
  induction n with
  | zero => intro d id pc L st M r h; rw [mj_ex] at h; cases h
  | succ n ih =>
    intro d id pc L st M r h
    rw [mj_ex] at h
    cases hi : mj_at id pc with
    | none => rw [hi] at h; cases h
    | some i =>
      rw [hi] at h
      dsimp only at h
      cases hs : mj_stp sl d id i pc L st M with
      | none => rw [hs] at h; cases h
      | some o =>
        rw [hs] at h
        rcases o with ⟨pc', L', st', M'⟩ | r' | ⟨y, as, rest⟩
        · obtain ⟨a1, a2⟩ := ih _ _ _ _ _ _ _ h
          obtain ⟨b1, b2⟩ := mj_stp_ro hs
          exact ⟨a1.trans b1, a2.trans b2⟩
        · cases h
          exact ⟨rfl, rfl⟩
        · dsimp only at h
          cases d with
          | zero => cases h
          | succ d' =>
            dsimp only at h
            cases hc : mj_ex sl n d' y 0 (mj_ent y as) [] M with
            | none => rw [hc] at h; cases h
            | some q =>
              rw [hc] at h
              obtain ⟨a1, a2⟩ := ih _ _ _ _ _ _ _ h
              obtain ⟨b1, b2⟩ := ih _ _ _ _ _ _ _ hc
              exact ⟨a1.trans b1, a2.trans b2⟩
theorem mj_lv_args : ∀ (vs : List Value), (∀ v ∈ vs, v.category = 1) → ∀ (k i : Nat) (v : Value), vs[i]? = some v → (k + i, v) ∈ lv_args k vs := by
  intro vs
  induction vs with
  | nil => intro _ k i v h; simp at h
  | cons a t ih =>
    intro hc k i v h
    have ha : a.category = 1 := hc a List.mem_cons_self
    rw [lv_args, if_neg (by omega)]
    cases i with
    | zero =>
      simp at h
      subst h
      exact List.mem_cons_self
    | succ i =>
      refine List.mem_cons_of_mem _ ?_
      have := ih (fun v hv => hc v (List.mem_cons_of_mem _ hv)) (k + 1) i v (by simpa using h)
      rw [show k + (i + 1) = k + 1 + i from by omega]
      exact this
theorem mj_lg_len : ∀ (vs : List Value), (∀ v ∈ vs, v.category = 1) → (lg_sl vs).length = vs.length := by
  intro vs
  induction vs with
  | nil => intro _; rfl
  | cons a t ih =>
    intro hc
    have ha : a.category = 1 := hc a List.mem_cons_self
    have := ih (fun v hv => hc v (List.mem_cons_of_mem _ hv))
    unfold lg_sl at this ⊢
    rw [List.flatMap_cons, if_neg (by omega), List.length_append, this]
    simp
    omega
section MJE
variable {p : Program} {l : Launch} {e : Env} {R : Room} {s : State} {m : MethodId} {args : Array Value} {below : List Frame} {meth : Method} {c : Code} {cells slots : Nat} {Q : State → Prop}
variable {G : va_G} {ad : Nat → Nat} {cI cB : ClassId} {sl : Nat} {xs : Nat → Int32} {id d : Nat}
theorem mj_body (C : mj_Cx G ad cI cB sl xs id p s m args c) (hR : d ≤ R.frames ∧ 40 * d ≤ R.locals ∧ cells ≤ R.cells ∧ slots ≤ R.slots) (HC : ∀ d', d = d' + 1 → mj_HC l G ad cI cB sl xs d') {r : Option Value} {M' : mj_M} (HRet : ∀ (pc : Nat) (i : Instr) (L st : List Value), mj_at id pc = some i → mj_stp sl d id i pc L st M' = some (.inr (.inl r)) → mj_Go p l e R s m args below meth c cells slots Q G ad cI cB xs pc L st M') : ∀ (n pc : Nat) (L st : List Value) (M : mj_M), mj_ex sl n d id pc L st M = some (r, M') → mj_Go p l e R s m args below meth c cells slots Q G ad cI cB xs pc L st M := by
  intro n
  induction n with
  | zero => intro pc L st M h; rw [mj_ex] at h; cases h
  | succ n ih =>
    intro pc L st M h
    rw [mj_ex] at h
    cases hi : mj_at id pc with
    | none => rw [hi] at h; cases h
    | some i =>
      rw [hi] at h
      dsimp only at h
      cases hs : mj_stp sl d id i pc L st M with
      | none => rw [hs] at h; cases h
      | some o =>
        rw [hs] at h
        rcases o with ⟨pc', L', st', M1⟩ | r' | ⟨y, as, rest⟩
        · exact mj_next C hR hi hs (ih _ _ _ _ h)
        · cases h
          exact HRet pc i L st hi hs
        · dsimp only at h
          cases d with
          | zero => cases h
          | succ d' =>
            dsimp only at h
            cases hc : mj_ex sl n d' y 0 (mj_ent y as) [] M with
            | none => rw [hc] at h; cases h
            | some q =>
              rw [hc] at h
              exact mj_call C hR (HC d' rfl) hi hs hc (ih _ _ _ _ h)
theorem mj_LR_entry {y : Nat} {me : mj_I} {as : List Value} (hm : mj_tab[y]? = some me) (hsk : mj_SK as) (hl : as.length ≤ me.2.2.1) : mj_LR ad ((lg_sl (as.map (mj_tr ad)) ++ List.replicate (me.2.2.1 - (lg_sl (as.map (mj_tr ad))).length) Slot.unset).toArray) me.2.2.1 (mj_ent y as) := by
  have hcat : ∀ v ∈ as.map (mj_tr ad), v.category = 1 := fun v hv => by
    obtain ⟨w, hw, rfl⟩ := List.mem_map.mp hv
    exact mj_ok.cat (Or.inl (hsk w hw))
  have hml : mj_ml y = me.2.2.1 := by
    unfold mj_ml
    rw [hm]
  obtain ⟨h1, h2, h3⟩ := lv_entry (as.map (mj_tr ad)) (n := me.2.2.1) (by rw [mj_lg_len _ hcat, List.length_map]; exact hl)
  refine ⟨h1, h2, ?_, ?_, ?_⟩
  · unfold mj_ent
    rw [List.length_append, List.length_replicate, hml]
    omega
  · intro v hv
    unfold mj_ent at hv
    rcases List.mem_append.mp hv with z | z
    · exact Or.inl (hsk v z)
    · exact Or.inr (List.eq_of_mem_replicate z)
  · intro i v hi hn
    unfold mj_ent at hi
    rw [List.getElem?_append] at hi
    split at hi
    · have := h3 (0 + i, mj_tr ad v) (mj_lv_args _ hcat 0 i (mj_tr ad v) (by rw [List.getElem?_map, hi]; rfl))
      rw [Nat.zero_add] at this
      exact this
    · exact absurd (List.eq_of_mem_replicate (List.mem_of_getElem? hi)) hn
set_option maxHeartbeats 4000000 in
theorem mj_met1 (hinj : ∀ i j, i < 72 → j < 72 → ad i = ad j → i = j) (HC : ∀ d', d = d' + 1 → mj_HC l G ad cI cB sl xs d') : mj_HC l G ad cI cB sl xs d := by
  intro n y me as M M' r hm h10 hsk hlen hex h72 h74
  obtain ⟨ro1, ro2⟩ := mj_ex_ro _ _ _ _ _ _ _ _ hex
  refine ⟨?_, ro1.trans h72, ro2.trans h74⟩
  obtain ⟨a1, a2, a3, a4, a5, a6, a7, a8, a9, a10, a11⟩ := mj_mck_spec hm h10
  refine Met.ofW (cc := me.2.1) (maxL := me.2.2.1) (ret := me.2.2.2.1) a4 rfl ?_
  intro p e s m args below meth c s₁ B hml hv
  obtain ⟨rfl, hP, hK, hO, hV⟩ := hv
  have hts0 := atoms_spec (ws := mj_wY me) B.pre
  have hts : ∀ w ∈ mj_w0, w.before (as.map (mj_tr ad)).toArray s = true := fun w h => hts0 w (List.mem_cons_of_mem _ h)
  have hown : s.vm.findClass (mj_cn me.1) = some m.cls := by rw [← a1]; exact findClass_of_methodNamed B.named
  have hlocks := B.notSynchronized
  have hr := B.returns
  have hx := B.exec
  have hb := B.bytes
  have C : mj_Cx G ad cI cB sl xs y p s m (as.map (mj_tr ad)).toArray c := ⟨hx, hts, hK, hO, hV, hinj, me, hm, hb, hml, hown⟩
  rw [lg_entry_eq]
  have hLR := mj_LR_entry (ad := ad) hm hsk (by rw [hlen]; exact a7)
  refine mj_body (R := (headSpec (mj_wY me) (mj_rmD d)).room) C ⟨Nat.le_refl _, Nat.le_refl _, Nat.zero_le _, Nat.zero_le _⟩ HC ?_ n 0 (mj_ent y as) [] M hex _ s.heap [] (by rw [hml]; exact hLR) (fun v hv => by cases hv) ⟨hP, va_S.rf, h72, h74⟩
  intro pc i L st hat hs ls H locs hL hst hW
  obtain ⟨hP1, hS1, -, -⟩ := hW
  obtain ⟨nd, hdg, hn⟩ := mj_at_spec hat hm
  have hq : ∀ t : State, t.heap = H → s.WarmedH t.vm → mj_Qc G ad cI cB r M' (as.map (mj_tr ad)).toArray s (.returned (r.map (mj_tr ad))) t := fun t ht _ => ⟨rfl, by rw [ht]; exact hP1, hS1.F ht⟩
  cases i
  case ireturn =>
    obtain rfl := mj_nk hn (k := 1) rfl (by decide)
    have hs : mj_rti y st = _ := hs
    unfold mj_rti at hs
    split at hs
    · next v z0 =>
      rw [hm] at hs
      dsimp only at hs
      split at hs
      · next hc =>
        cases hs
        rcases hc with hc | ⟨hc, hz⟩ | ⟨hc, hz⟩
        · exact W.zret (ty := .int) hx hb (hr.trans hc) rfl hq hS1.2.2 hdg
        · exact W.zret (ty := .boolean) hx hb (hr.trans hc) (by show Value.int (v &&& 1) = _; rw [hz]) hq hS1.2.2 hdg
        · exact W.zret (ty := .byte) hx hb (hr.trans hc) (by show Value.int v.toInt8.toInt32 = _; rw [hz]) hq hS1.2.2 hdg
      · cases hs
    · cases hs
  case areturn =>
    obtain rfl := mj_nk hn (k := 1) rfl (by decide)
    have hs : mj_rta y st = _ := hs
    unfold mj_rta at hs
    split at hs
    · next v z0 =>
      rw [hm] at hs
      dsimp only at hs
      split at hs
      · next hc =>
        cases hs
        exact W.aret (rt := .object "CourtHand$Law") hx hb (hr.trans hc) (Or.inl ⟨_, rfl⟩) (Or.inr ⟨_, rfl⟩) hq hS1.2.2 hdg
      · cases hs
    · cases hs
  case return_ =>
    obtain rfl := mj_nk hn (k := 1) rfl (by decide)
    have hs : mj_rtv y st = _ := hs
    unfold mj_rtv at hs
    split at hs
    · rw [hm] at hs
      dsimp only at hs
      split at hs
      · next hc =>
        cases hs
        exact W.vret hx hb (hr.trans hc) hq hS1.2.2 hdg
      · cases hs
    · cases hs
  all_goals (exfalso; exact mj_stp_noret hs (by intro z; cases z) (by intro z; cases z) (by intro z; cases z))
theorem mj_met (hinj : ∀ i j, i < 72 → j < 72 → ad i = ad j → i = j) : ∀ d, mj_HC l G ad cI cB sl xs d := by
  intro d
  induction d with
  | zero =>
    intro n y me as M M' r hm h10 hsk hlen hex h72 h74
    exact mj_met1 hinj (fun d' z => by omega) n y me as M M' r hm h10 hsk hlen hex h72 h74
  | succ d ih =>
    intro n y me as M M' r hm h10 hsk hlen hex h72 h74
    exact mj_met1 hinj (fun d' z => by obtain rfl : d = d' := by omega
                                       exact ih) n y me as M M' r hm h10 hsk hlen hex h72 h74
end MJE
