def mv_Fn (c a l g s k f d m : Int32) (v : Nat) : Int32 := if v = 0 then c else if v = 1 then a else if v = 2 then l else if v = 3 then g else if v = 4 then s else if v = 5 then k else if v = 6 then f else if v = 7 then d else m
theorem mv_v9 {v : Nat} (h : v < 9) : v = 0 ∨ v = 1 ∨ v = 2 ∨ v = 3 ∨ v = 4 ∨ v = 5 ∨ v = 6 ∨ v = 7 ∨ v = 8 := by omega
theorem mv_fS_cg {mo : Nat → Option Nat} {cs1 cs2 : mv_CS} {c : Nat} (h : mv_ow cs1 = mv_ow cs2) : ∀ n, mv_fS mo cs1 c n = mv_fS mo cs2 c n
  | 0 => rfl
  | n + 1 => by
    rw [mv_fS, mv_fS, mv_fS_cg h n]
    unfold mv_fm
    rw [h]
theorem mv_fl_cg {mo : Nat → Option Nat} {cs1 cs2 : mv_CS} {c : Nat} (h : mv_ow cs1 = mv_ow cs2) : mv_fl mo cs1 c = mv_fl mo cs2 c := mv_fS_cg h 8
def mv_S1 (M : mj_M) (b R : Nat) (mo : Nat → Option Nat) (cs : mv_CS) (rk : Nat → Nat) (me sp us nr : Nat) (kd : Nat → Nat) (ca cb : mv_CD) : Prop := mv_cM M mo ∧ mv_cC M b cs ∧ (∀ j, j < 10 → M (b + 4) j = nI (mv_fl mo cs j)) ∧ (∀ j, j < 10 → mv_to cs j = true → M (b + 5) j = nI (rk j)) ∧ M b 9 = nI me ∧ M b 10 = nI sp ∧ M b 11 = nI us ∧ mv_LC M R nr kd ca cb
def mv_R1 (M : mj_M) (mo : Nat → Option Nat) (cs : mv_CS) (rk : Nat → Nat) (me sp us nr : Nat) (kd : Nat → Nat) (ca cb : mv_CD) : Prop := mv_rM M mo ∧ mv_rC M 46 cs ∧ (∀ j, j < 10 → mv_to cs j = true → M 68 j = nI (rk j)) ∧ M 45 37 = nI me ∧ M 45 38 = nI sp ∧ M 45 39 = nI us ∧ mv_LR M nr kd ca cb
section MV44
variable {sl d b R : Nat} {M : mj_M} {mo : Nat → Option Nat} {cs : mv_CS} {rk kd : Nat → Nat} {me sp us nr : Nat} {ca cb : mv_CD}
theorem mv_S1.fr {M1 : mj_M} (h : mv_S1 M b R mo cs rk me sp us nr kd ca cb) (hb : b = 3 ∨ b = 15) (hR : R = 29 ∨ R = 38) (f : mv_fr (fun a _ => a = R + 2 ∨ a = R + 3) M M1) : mv_S1 M1 b R mo cs rk me sp us nr kd ca cb := by
  obtain ⟨h1, h2, h3, h4, h5, h6, h7, h8⟩ := h
  refine ⟨h1.fr f (by omega) (fun k => by omega), h2.fr f (fun k a b => by omega) (fun j k a b => by omega), fun j hj => ?_, fun j hj tj => ?_, ?_, ?_, ?_, h8.fr f (fun a k z => by omega)⟩
  · rw [f _ _ (by omega)]; exact h3 j hj
  · rw [f _ _ (by omega)]; exact h4 j hj tj
  · rw [f _ _ (by omega)]; exact h5
  · rw [f _ _ (by omega)]; exact h6
  · rw [f _ _ (by omega)]; exact h7
theorem mv_R1.fr {M1 : mj_M} (h : mv_R1 M mo cs rk me sp us nr kd ca cb) (f : mv_fr (fun a _ => a = 62 ∨ a = 63) M M1) : mv_R1 M1 mo cs rk me sp us nr kd ca cb := by
  obtain ⟨h1, h2, h4, h5, h6, h7, h8⟩ := h
  refine ⟨h1.fr f (fun k => by omega), h2.fr f (fun k => by omega), fun j hj tj => ?_, ?_, ?_, ?_, h8.fr f (fun a k z => by omega)⟩
  · rw [f _ _ (by omega)]; exact h4 j hj tj
  · rw [f _ _ (by omega)]; exact h5
  · rw [f _ _ (by omega)]; exact h6
  · rw [f _ _ (by omega)]; exact h7
theorem mv_S1.ux {x : Nat} (h : mv_S1 M b R mo cs rk me sp us nr kd ca cb) (hb : b = 3 ∨ b = 15) (hR : R = 29 ∨ R = 38) : mv_S1 (mj_st M b 8 (nI x)) b R mo (mv_ux cs x) rk me sp us nr kd ca cb := by
  obtain ⟨h1, h2, h3, h4, h5, h6, h7, h8⟩ := h
  have f : mv_fr (fun a k => a = b ∧ k = 8) M (mj_st M b 8 (nI x)) := mv_fr.rf.st ⟨rfl, rfl⟩
  refine ⟨h1.fr f (by omega) (fun k => by omega), h2.ux, fun j hj => ?_, fun j hj tj => ?_, ?_, ?_, ?_, h8.fr f (fun a k z => by omega)⟩
  · rw [f _ _ (by omega), mv_fl_cg (cs1 := mv_ux cs x) (cs2 := cs) rfl]; exact h3 j hj
  · rw [f _ _ (by omega)]; exact h4 j hj tj
  · rw [f _ _ (by omega)]; exact h5
  · rw [f _ _ (by omega)]; exact h6
  · rw [f _ _ (by omega)]; exact h7
theorem mv_R1.ux {x : Nat} (h : mv_R1 M mo cs rk me sp us nr kd ca cb) : mv_R1 (mj_st M 46 111 (nI x)) mo (mv_ux cs x) rk me sp us nr kd ca cb := by
  obtain ⟨h1, h2, h4, h5, h6, h7, h8⟩ := h
  have f : mv_fr (fun a k => a = 46) M (mj_st M 46 111 (nI x)) := mv_fr.rf.st rfl
  refine ⟨h1.fr f (fun k => by omega), h2.ux, fun j hj tj => ?_, ?_, ?_, ?_, h8.fr f (fun a k z => by omega)⟩
  · rw [f _ _ (by omega)]; exact h4 j hj tj
  · rw [f _ _ (by omega)]; exact h5
  · rw [f _ _ (by omega)]; exact h6
  · rw [f _ _ (by omega)]; exact h7
theorem mv_S1.ui {c v us' : Nat} (h : mv_S1 M b R mo cs rk me sp us nr kd ca cb) (hb : b = 3 ∨ b = 15) (hR : R = 29 ∨ R = 38) : mv_S1 (mj_st (mj_st M (b + 2) c (nI v)) b 11 (nI us')) b R mo (mv_ui cs c v) rk me sp us' nr kd ca cb := by
  obtain ⟨h1, h2, h3, h4, h5, h6, h7, h8⟩ := h
  have f : mv_fr (fun a k => a = b + 2 ∨ (a = b ∧ k = 11)) M (mj_st (mj_st M (b + 2) c (nI v)) b 11 (nI us')) := (mv_fr.rf.st (Or.inl rfl)).st (Or.inr ⟨rfl, rfl⟩)
  refine ⟨h1.fr f (by omega) (fun k => by omega), ?_, fun j hj => ?_, fun j hj tj => ?_, ?_, ?_, mq_st_eq, h8.fr f (fun a k z => by omega)⟩
  · exact h2.ui.fr (Q := fun a k => a = b ∧ k = 11) (mv_fr.rf.st ⟨rfl, rfl⟩) (fun k a b => by omega) (fun j k a b => by omega)
  · rw [f _ _ (by omega), mv_fl_cg (cs1 := mv_ui cs c v) (cs2 := cs) rfl]; exact h3 j hj
  · rw [f _ _ (by omega)]; exact h4 j hj tj
  · rw [f _ _ (by omega)]; exact h5
  · rw [f _ _ (by omega)]; exact h6
theorem mv_R1.ui {c v us' : Nat} (h : mv_R1 M mo cs rk me sp us nr kd ca cb) (hc : c < 10) : mv_R1 (mj_st (mj_st M 46 (20 + c) (nI v)) 45 39 (nI us')) mo (mv_ui cs c v) rk me sp us' nr kd ca cb := by
  obtain ⟨h1, h2, h4, h5, h6, h7, h8⟩ := h
  have f : mv_fr (fun a k => a = 46 ∨ (a = 45 ∧ k = 39)) M (mj_st (mj_st M 46 (20 + c) (nI v)) 45 39 (nI us')) := (mv_fr.rf.st (Or.inl rfl)).st (Or.inr ⟨rfl, rfl⟩)
  refine ⟨h1.fr f (fun k => by omega), ?_, fun j hj tj => ?_, ?_, ?_, mq_st_eq, h8.fr f (fun a k z => by omega)⟩
  · exact (h2.ui hc).fr (Q := fun a k => a = 45) (mv_fr.rf.st rfl) (fun k => by omega)
  · rw [f _ _ (by omega)]; exact h4 j hj tj
  · rw [f _ _ (by omega)]; exact h5
  · rw [f _ _ (by omega)]; exact h6
theorem mv_S1.uf {c k g : Nat} (h : mv_S1 M b R mo cs rk me sp us nr kd ca cb) (hb : b = 3 ∨ b = 15) (hR : R = 29 ∨ R = 38) (hc : c < 10) (hk : k < 8) : mv_S1 (mj_st (mj_st M (b + 3) (c * 8 + k) (nI g)) (b + 4) c (nI (mv_fl mo (mv_uf cs c k g) c))) b R mo (mv_uf cs c k g) rk me sp us nr kd ca cb := by
  obtain ⟨h1, h2, h3, h4, h5, h6, h7, h8⟩ := h
  have f : mv_fr (fun a k => a = b + 3 ∨ a = b + 4) M (mj_st (mj_st M (b + 3) (c * 8 + k) (nI g)) (b + 4) c (nI (mv_fl mo (mv_uf cs c k g) c))) := (mv_fr.rf.st (Or.inl rfl)).st (Or.inr rfl)
  refine ⟨h1.fr f (by omega) (fun k => by omega), ?_, fun j hj => ?_, fun j hj tj => ?_, ?_, ?_, ?_, h8.fr f (fun a k z => by omega)⟩
  · exact (h2.uf hc hk).fr (Q := fun a k => a = b + 4) (mv_fr.rf.st rfl) (fun k a b => by omega) (fun j k a b => by omega)
  · by_cases q : j = c
    · rw [q, mq_st_eq]
    · rw [mq_st_ne (by omega), mq_st_ne (by omega), mv_fl_uo q]; exact h3 j hj
  · rw [f _ _ (by omega)]; exact h4 j hj tj
  · rw [f _ _ (by omega)]; exact h5
  · rw [f _ _ (by omega)]; exact h6
  · rw [f _ _ (by omega)]; exact h7
theorem mv_R1.uf {c k g : Nat} (h : mv_R1 M mo cs rk me sp us nr kd ca cb) (hc : c < 10) (hk : k < 8) : mv_R1 (mj_st M 46 (30 + 8 * c + k) (nI g)) mo (mv_uf cs c k g) rk me sp us nr kd ca cb := by
  obtain ⟨h1, h2, h4, h5, h6, h7, h8⟩ := h
  have f : mv_fr (fun a k => a = 46) M (mj_st M 46 (30 + 8 * c + k) (nI g)) := mv_fr.rf.st rfl
  refine ⟨h1.fr f (fun k => by omega), h2.uf hc hk, fun j hj tj => ?_, ?_, ?_, ?_, h8.fr f (fun a k z => by omega)⟩
  · rw [f _ _ (by omega)]; exact h4 j hj tj
  · rw [f _ _ (by omega)]; exact h5
  · rw [f _ _ (by omega)]; exact h6
  · rw [f _ _ (by omega)]; exact h7
theorem mv_S1.pm {me' : Nat} (h : mv_S1 M b R mo cs rk me sp us nr kd ca cb) (hb : b = 3 ∨ b = 15) (hR : R = 29 ∨ R = 38) : mv_S1 (mj_st M b 9 (nI me')) b R mo cs rk me' sp us nr kd ca cb := by
  obtain ⟨h1, h2, h3, h4, h5, h6, h7, h8⟩ := h
  have f : mv_fr (fun a k => a = b ∧ k = 9) M (mj_st M b 9 (nI me')) := mv_fr.rf.st ⟨rfl, rfl⟩
  refine ⟨h1.fr f (by omega) (fun k => by omega), h2.fr f (fun k a b => by omega) (fun j k a b => by omega), fun j hj => ?_, fun j hj tj => ?_, mq_st_eq, ?_, ?_, h8.fr f (fun a k z => by omega)⟩
  · rw [f _ _ (by omega)]; exact h3 j hj
  · rw [f _ _ (by omega)]; exact h4 j hj tj
  · rw [f _ _ (by omega)]; exact h6
  · rw [f _ _ (by omega)]; exact h7
theorem mv_S1.ps {sp' : Nat} (h : mv_S1 M b R mo cs rk me sp us nr kd ca cb) (hb : b = 3 ∨ b = 15) (hR : R = 29 ∨ R = 38) : mv_S1 (mj_st M b 10 (nI sp')) b R mo cs rk me sp' us nr kd ca cb := by
  obtain ⟨h1, h2, h3, h4, h5, h6, h7, h8⟩ := h
  have f : mv_fr (fun a k => a = b ∧ k = 10) M (mj_st M b 10 (nI sp')) := mv_fr.rf.st ⟨rfl, rfl⟩
  refine ⟨h1.fr f (by omega) (fun k => by omega), h2.fr f (fun k a b => by omega) (fun j k a b => by omega), fun j hj => ?_, fun j hj tj => ?_, ?_, mq_st_eq, ?_, h8.fr f (fun a k z => by omega)⟩
  · rw [f _ _ (by omega)]; exact h3 j hj
  · rw [f _ _ (by omega)]; exact h4 j hj tj
  · rw [f _ _ (by omega)]; exact h5
  · rw [f _ _ (by omega)]; exact h7
theorem mv_R1.pm {me' : Nat} (h : mv_R1 M mo cs rk me sp us nr kd ca cb) : mv_R1 (mj_st M 45 37 (nI me')) mo cs rk me' sp us nr kd ca cb := by
  obtain ⟨h1, h2, h4, h5, h6, h7, h8⟩ := h
  have f : mv_fr (fun a k => a = 45 ∧ k = 37) M (mj_st M 45 37 (nI me')) := mv_fr.rf.st ⟨rfl, rfl⟩
  refine ⟨h1.fr f (fun k => by omega), h2.fr f (fun k => by omega), fun j hj tj => ?_, mq_st_eq, ?_, ?_, h8.fr f (fun a k z => by omega)⟩
  · rw [f _ _ (by omega)]; exact h4 j hj tj
  · rw [f _ _ (by omega)]; exact h6
  · rw [f _ _ (by omega)]; exact h7
theorem mv_R1.ps {sp' : Nat} (h : mv_R1 M mo cs rk me sp us nr kd ca cb) : mv_R1 (mj_st M 45 38 (nI sp')) mo cs rk me sp' us nr kd ca cb := by
  obtain ⟨h1, h2, h4, h5, h6, h7, h8⟩ := h
  have f : mv_fr (fun a k => a = 45 ∧ k = 38) M (mj_st M 45 38 (nI sp')) := mv_fr.rf.st ⟨rfl, rfl⟩
  refine ⟨h1.fr f (fun k => by omega), h2.fr f (fun k => by omega), fun j hj tj => ?_, ?_, mq_st_eq, ?_, h8.fr f (fun a k z => by omega)⟩
  · rw [f _ _ (by omega)]; exact h4 j hj tj
  · rw [f _ _ (by omega)]; exact h5
  · rw [f _ _ (by omega)]; exact h7
theorem r_feels {c g : Nat} {x2 x3 x4 : Int32} (hm : mv_rM M mo) (hw : mv_wM mo) (hc : mv_rC M 46 cs) (hwc : mv_wC mo cs) (hc10 : c < 10) (tc : mv_to cs c = true) (hg : M 68 c = nI g) : ∃ M1, mj_C sl (d + 3) i_X9_feels [.ref 45, .int (nI c), .int x2, .int x3, .int x4] M = some (0, M1) ∧ mv_fr (fun a _ => a = 63) M M1 ∧ ∀ v, v < 9 → M1 63 v = mv_Fn (nI c) (nI (mv_ag cs c)) (nI (mv_in cs c)) (nI g) (nI (mv_fl mo cs c)) x2 x3 x4 (nI (mv_mn cs % 12)) v := by
  obtain ⟨a1, a2⟩ := hc.2.1 c hc10 tc
  have hmn := hwc.2.2.1
  obtain ⟨X, hX⟩ : ∃ X, X = mj_st (mj_st (mj_st (mj_st M 63 0 (nI c)) 63 1 (nI (mv_ag cs c))) 63 2 (nI (mv_in cs c))) 63 3 (nI g) := ⟨_, rfl⟩
  have f : mv_fr (fun a _ => a = 63) M X := by rw [hX]; refine mv_fr.st (mv_fr.st (mv_fr.st (mv_fr.st mv_fr.rf ?_) ?_) ?_) ?_ <;> rfl
  have e : mj_C sl (d + 3) i_X9_feels [.ref 45, .int (nI c), .int x2, .int x3, .int x4] M = some (0, mj_st (mj_st (mj_st (mj_st (mj_st X 63 4 (nI (mv_fl mo cs c))) 63 5 x2) 63 6 x3) 63 7 x4) 63 8 (nI (mv_mn cs % 12))) := by
    rw [b_X9_feels]
    simp (disch := omega) only [s_Ladd, s_in, s_cl, if_true, mq_st_ne, a1, a2, hg]
    rw [← hX, r_faultsOf (hm.fr f (fun k => by omega)) hw (hc.fr f (fun k => by omega)) hwc hc10]
    simp (disch := omega) only [Option.bind_some, mq_st_ne]
    rw [f 46 110 (by omega), hc.2.2.2.1, s_rmL (by omega) (by decide) (by decide)]
  refine ⟨_, e, ((((f.st rfl).st rfl).st rfl).st rfl).st rfl, fun v hv => ?_⟩
  rw [hX]
  rcases mv_v9 hv with rfl | rfl | rfl | rfl | rfl | rfl | rfl | rfl | rfl <;> (simp (disch := omega) only [mq_st_eq, mq_st_ne]; rfl)
theorem mv_know {l s k f dd c a g m : Int32} (h0 : M (R + 3) 0 = c) (h1 : M (R + 3) 1 = a) (h3 : M (R + 3) 3 = g) (h8 : M (R + 3) 8 = m) : ∀ v, v < 9 → (mj_st (mj_st (mj_st (mj_st (mj_st M (R + 3) 2 l) (R + 3) 4 s) (R + 3) 5 k) (R + 3) 6 f) (R + 3) 7 dd) (R + 3) v = mv_Fn c a l g s k f dd m v := by
  intro v hv
  rcases mv_v9 hv with rfl | rfl | rfl | rfl | rfl | rfl | rfl | rfl | rfl <;> (simp (disch := omega) only [mq_st_eq, mq_st_ne, h0, h1, h3, h8]; rfl)
end MV44
