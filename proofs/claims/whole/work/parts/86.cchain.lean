section LC3
variable {sl h D n o idf : Nat} {tp : Nat → Nat} {f : Nat → lp_PR} {Pf : List (Nat × Nat) → Prop} {isop : Nat → Bool} {Lp : Nat → Value → mj_M → Option (Int32 × mj_M)}
theorem c_chn (hD : D = 29 ∨ D = 38) (hn : n ≤ 240) (K : lc_K sl h D n tp idf o f) (ok : ∀ i, i ≤ n → lp_ok n i Pf (f i))
    (hop : ∀ s, isop s = true → 2 ≤ lp_on s ∧ lp_on s ≤ 6 ∧ s < 999 ∧ mv_sgn (lp_on s) = s)
    (hstep : ∀ t w3 i L M, t < 240 → lc_S M D n i L 0 → mv_Tb M tp → isop (lp_sn n tp i) = true → Lp t w3 M = (mj_C sl h idf [.ref 28, .int (nI o)] (mj_st M 28 3 (nI (i + 1)))).bind (fun q => (mj_C sl h i_X3_put [.ref (mj_lw (q.2 28 1)), .int (nI (lp_sn n tp i))] q.2).bind (fun q4 => Lp (t + 1) (.int (nI (lp_sn n tp i))) q4.2)))
    (hstop : ∀ t w3 i L M, lc_S M D n i L 0 → mv_Tb M tp → t ≤ 240 → (isop (lp_sn n tp i) = false ∨ t = 240) → Lp t w3 M = some (0, M))
    (hdead : ∀ t w3 i L w M, lc_S M D n i L w → mv_Tb M tp → ¬ w = 0 → t ≤ 240 → Lp t w3 M = some (0, M)) :
    ∀ F t i c L0 M0 M w3, t + F = 240 → lc_S M D n i (L0 + mv_szs c) 0 → mv_cc (M (D + 1)) L0 c → L0 + mv_szs c ≤ 2 * i → mv_fr (lc_Q D L0) M0 M → mv_Tb M tp → M 74 = mj_bt → ∃ M', Lp t w3 M = some (0, M') ∧ lc_R D n L0 (lp_chn isop lp_eb f (lp_sn n tp) F i c) M0 M' := by
  intro F
  induction F with
  | zero =>
    intro t i c L0 M0 M w3 ht S cc hL fr T h74
    exact ⟨M, hstop t w3 i _ M S T (by omega) (Or.inr (by omega)), S, cc, fr⟩
  | succ F ih =>
    intro t i c L0 M0 M w3 ht S cc hL fr T h74
    unfold lp_chn
    by_cases q : isop (lp_sn n tp i) = true
    · obtain ⟨o1, o2, o3, o4⟩ := hop _ q
      have hlt : i < n := lp_sn_lt (tp := tp) o3
      rw [if_pos q, hstep t w3 i _ M (by omega) S T q]
      have f1 : mv_fr (lc_Q D (L0 + mv_szs c)) M (mj_st M 28 3 (nI (i + 1))) := mv_fr.rf.st (by unfold lc_Q; omega)
      have T1 := lc_Tb hD T f1
      have S1 := lc_at (j := i + 1) hD S (by omega)
      obtain ⟨M2, a1, a2⟩ := K (i + 1) (L0 + mv_szs c) _ S1 (by omega) T1 (lc_74 hD h74 f1)
      have ok1 := ok (i + 1) (by omega)
      rw [a1]
      simp only [Option.bind_some]
      cases hr : f (i + 1) with
      | inl x =>
        obtain ⟨qf, pf⟩ := x
        rw [hr] at a2 ok1
        obtain ⟨⟨i', L', S2⟩, f2⟩ := a2
        obtain ⟨M3, p1, ⟨L3, p2⟩, p3⟩ := lc_putF (sl := sl) (d := h) (x := nI (lp_sn n tp i)) hD S2
        rw [S2.1, mv_lwD hD, p1]
        simp only [Option.bind_some]
        have f3 := f2.tr p3
        have hp : pf ≤ n := ok1.2
        have T3 := lc_Tb hD T1 f3
        refine ⟨M3, hdead (t + 1) _ i' L3 _ M3 p2 T3 (mv_fxne ok1.1 (by omega)) (by omega), ⟨i', L3, p2⟩, ?_⟩
        exact ((fr.wk (fun a k z => z.wk (by omega))).tr (f1.wk (fun a k z => z.wk (by omega)))).tr f3
      | inr y =>
        obtain ⟨j, c2⟩ := y
        rw [hr] at a2 ok1
        obtain ⟨S2, cc2, f2⟩ := a2
        obtain ⟨k1, k2, k3, k4, k5⟩ := ok1
        have hL2 : L0 + mv_szs c + mv_szs c2 + 1 ≤ 2 * j := by omega
        have p1 := lc_put (sl := sl) (d := h) (x := nI (lp_sn n tp i)) hD S2 (by omega)
        rw [S2.1, mv_lwD hD, p1]
        simp only [Option.bind_some]
        have S3 := lc_putS (x := nI (lp_sn n tp i)) hD S2 (by omega)
        have f12 : mv_fr (lc_Q D (L0 + mv_szs c)) M M2 := f1.tr f2
        have e1 : mv_szs (c ++ lp_eb (lp_sn n tp i) c2) = mv_szs c + mv_szs c2 + 1 := by
          unfold lp_eb
          rw [mv_szs_ap, mv_szs_ap]
          have : mv_szs [(lp_on (lp_sn n tp i), 0)] = 1 := by
            show mv_sz (lp_on (lp_sn n tp i), 0) + 0 = 1
            unfold mv_sz
            dsimp only
            rw [if_neg (by omega)]
          omega
        have fp : mv_fr (lc_Q D (L0 + mv_szs c + mv_szs c2)) M2 _ := lc_putQ (D := D) (M := M2) (x := nI (lp_sn n tp i)) (Nat.le_refl (L0 + mv_szs c + mv_szs c2))
        have f3 : mv_fr (lc_Q D L0) M0 _ := (fr.tr (f12.wk (fun a k z => z.wk (by omega)))).tr (fp.wk (fun a k z => z.wk (by omega)))
        refine ih (t + 1) j (c ++ lp_eb (lp_sn n tp i) c2) L0 M0 _ _ (by omega) (by rw [e1, show L0 + (mv_szs c + mv_szs c2 + 1) = L0 + mv_szs c + mv_szs c2 + 1 from by omega]; exact S3) ?_ (by omega) f3 (lc_Tb hD (lc_Tb hD T f12) fp) (lc_74 hD (lc_74 hD h74 f12) fp)
        refine mv_cc_ap c L0 ?_ ?_
        · refine mv_cc_cg c L0 (fun x x1 x2 => ?_) cc
          rw [fp _ _ (by unfold lc_Q; omega), f12 _ _ (by unfold lc_Q; omega)]
        · unfold lp_eb
          refine mv_cc_ap c2 _ ?_ ?_
          · refine mv_cc_cg c2 _ (fun x x1 x2 => ?_) cc2
            rw [fp _ _ (by unfold lc_Q; omega)]
          · refine mv_cc1 (Or.inr (Or.inr ⟨o1, by omega, ?_⟩))
            rw [o4]
            exact lc_putC
    · rw [if_neg q]
      exact ⟨M, hstop t w3 i _ M S T (by omega) (Or.inl (by simpa using q)), S, cc, fr⟩
theorem c_seqE {id : Nat} (hD : D = 29 ∨ D = 38) (hn : n ≤ 240) (K : lc_K sl h D n tp idf o f) (ok : ∀ i, i ≤ n → lp_ok n i Pf (f i))
    (hdead : ∀ t w3 i L w M, lc_S M D n i L w → mv_Tb M tp → ¬ w = 0 → t ≤ 240 → Lp t w3 M = some (0, M))
    (hcall : ∀ M, mj_C sl (h + 1) id [.ref 28, .int (nI o)] M = (mj_C sl h idf [.ref 28, .int (nI o)] M).bind (fun q1 => Lp 0 .null q1.2)) {em : Nat → List (Nat × Nat) → List (Nat × Nat)}
    (hchn : ∀ F t i c L0 M0 M w3, t + F = 240 → lc_S M D n i (L0 + mv_szs c) 0 → mv_cc (M (D + 1)) L0 c → L0 + mv_szs c ≤ 2 * i → mv_fr (lc_Q D L0) M0 M → mv_Tb M tp → M 74 = mj_bt → ∃ M', Lp t w3 M = some (0, M') ∧ lc_R D n L0 (lp_chn isop em f (lp_sn n tp) F i c) M0 M') : lc_K sl (h + 1) D n tp id o (lp_seq isop em f (lp_sn n tp)) := by
  intro i L M S hL T h74
  obtain ⟨M2, a1, a2⟩ := K i L M S hL T h74
  have ok1 := ok i S.2.2.2.2.2.1
  rw [hcall, a1]
  simp only [Option.bind_some]
  unfold lp_seq
  cases hr : f i with
  | inl x =>
    obtain ⟨qf, pf⟩ := x
    rw [hr] at a2 ok1
    obtain ⟨⟨i', L', S2⟩, f2⟩ := a2
    have hp : pf ≤ n := ok1.2
    exact ⟨M2, hdead 0 _ i' L' _ M2 S2 (lc_Tb hD T f2) (mv_fxne ok1.1 (by omega)) (by omega), ⟨i', L', S2⟩, f2⟩
  | inr y =>
    obtain ⟨j, c⟩ := y
    rw [hr] at a2 ok1
    obtain ⟨S2, cc2, f2⟩ := a2
    obtain ⟨k1, k2, k3, k4, k5⟩ := ok1
    exact hchn 240 0 j c L M M2 .null rfl S2 cc2 (by omega) f2 (lc_Tb hD T f2) (lc_74 hD h74 f2)
theorem c_jchn {op sg : Nat} (hD : D = 29 ∨ D = 38) (hn : n ≤ 240) (K : lc_K sl h D n tp idf o f) (ok : ∀ i, i ≤ n → lp_ok n i Pf (f i)) (ho : op = 11 ∨ op = 12) (hsg : sg < 256) (hsg2 : mv_sgn op = sg) (h1 : 1 ≤ h)
    (hstep : ∀ t w3 i L M, t < 240 → lc_S M D n i L 0 → mv_Tb M tp → lp_sn n tp i = sg → Lp t w3 M = (mj_C sl h i_X3_putLeap [.ref D, .int (nI sg)] (mj_st M 28 3 (nI (i + 1)))).bind (fun q2 => (mj_C sl h idf [.ref 28, .int (nI o)] q2.2).bind (fun q3 => (mj_C sl h i_X3_endLeap [.ref (mj_lw (q3.2 28 1)), .int q2.1] q3.2).bind (fun q4 => Lp (t + 1) (.int q2.1) q4.2))))
    (hstop : ∀ t w3 i L M, lc_S M D n i L 0 → mv_Tb M tp → t ≤ 240 → (¬ lp_sn n tp i = sg ∨ t = 240) → Lp t w3 M = some (0, M))
    (hdead : ∀ t w3 i L w M, lc_S M D n i L w → mv_Tb M tp → ¬ w = 0 → t ≤ 240 → Lp t w3 M = some (0, M)) :
    ∀ F t i c L0 M0 M w3, t + F = 240 → lc_S M D n i (L0 + mv_szs c) 0 → mv_cc (M (D + 1)) L0 c → L0 + mv_szs c ≤ 2 * i → mv_fr (lc_Q D L0) M0 M → mv_Tb M tp → M 74 = mj_bt → ∃ M', Lp t w3 M = some (0, M') ∧ lc_R D n L0 (lp_chn (lp_o1 sg) (lp_ej op) f (lp_sn n tp) F i c) M0 M' := by
  have hD0 : mj_ocl D = 1 := by rcases hD with rfl | rfl <;> rfl
  intro F
  induction F with
  | zero =>
    intro t i c L0 M0 M w3 ht S cc hL fr T h74
    exact ⟨M, hstop t w3 i _ M S T (by omega) (Or.inr (by omega)), S, cc, fr⟩
  | succ F ih =>
    intro t i c L0 M0 M w3 ht S cc hL fr T h74
    unfold lp_chn
    by_cases q : lp_sn n tp i = sg
    · have q' : lp_o1 sg (lp_sn n tp i) = true := decide_eq_true q
      have hlt : i < n := lp_sn_lt (tp := tp) (by omega)
      rw [if_pos q', hstep t w3 i _ M (by omega) S T q]
      have f1 : mv_fr (lc_Q D (L0 + mv_szs c)) M (mj_st M 28 3 (nI (i + 1))) := mv_fr.rf.st (by unfold lc_Q; omega)
      have T1 := lc_Tb hD T f1
      have S1 := lc_at (j := i + 1) hD S (by omega)
      obtain ⟨h', rfl⟩ : ∃ h', h = h' + 1 := ⟨h - 1, by omega⟩
      have p1 := lc_put (sl := sl) (d := h') (x := nI sg) hD S1 (by omega)
      have S2 := lc_putS (x := nI sg) hD S1 (by omega)
      have p2 := lc_put (sl := sl) (d := h') (x := 480) hD S2 (by omega)
      have S3 := lc_putS (x := (480 : Int32)) hD S2 (by omega)
      obtain ⟨Mb, hMb⟩ : ∃ Mb, Mb = mj_st (mj_st (mj_st M 28 3 (nI (i + 1))) (D + 1) (L0 + mv_szs c) (nI sg)) D 6 (nI (L0 + mv_szs c + 1)) := ⟨_, rfl⟩
      rw [← hMb] at p1 S2 p2 S3
      obtain ⟨Mc, hMc⟩ : ∃ Mc, Mc = mj_st (mj_st Mb (D + 1) (L0 + mv_szs c + 1) 480) D 6 (nI (L0 + mv_szs c + 1 + 1)) := ⟨_, rfl⟩
      rw [← hMc] at p2 S3
      have fb : mv_fr (lc_Q D (L0 + mv_szs c)) (mj_st M 28 3 (nI (i + 1))) Mb := by rw [hMb]; exact lc_putQ (Nat.le_refl _)
      have fc : mv_fr (lc_Q D (L0 + mv_szs c + 1)) Mb Mc := by rw [hMc]; exact lc_putQ (Nat.le_refl _)
      have cb : Mb (D + 1) (L0 + mv_szs c) = nI sg := by rw [hMb]; exact lc_putC
      have fMc : mv_fr (lc_Q D (L0 + mv_szs c)) M Mc := (f1.tr fb).tr (fc.wk (fun a k z => z.wk (by omega)))
      have eL : mj_C sl (h' + 1) i_X3_putLeap [.ref D, .int (nI sg)] (mj_st M 28 3 (nI (i + 1))) = some (nI (L0 + mv_szs c + 1), Mc) := by
        rw [b_X3_putLeap hD0, p1]
        simp only [Option.bind_some]
        rw [p2]
        simp only [Option.bind_some]
        rw [S3.2.2.2.2.1, s_subL (by omega)]
        rfl
      rw [eL]
      simp only [Option.bind_some]
      have TMc := lc_Tb hD T fMc
      obtain ⟨M2, a1, a2⟩ := K (i + 1) (L0 + mv_szs c + 1 + 1) Mc S3 (by omega) TMc (lc_74 hD h74 fMc)
      have ok1 := ok (i + 1) (by omega)
      rw [a1]
      simp only [Option.bind_some]
      have eE : ∀ {X : mj_M}, mj_C sl (h' + 1) i_X3_endLeap [.ref D, .int (nI (L0 + mv_szs c + 1))] X = some (0, mj_st X (D + 1) (L0 + mv_szs c + 1) (X D 6)) := fun {X} => by
        rw [b_X3_endLeap hD0, if_neg (nI_pos (by omega)), if_pos (by rw [s_ltL (by omega) (by decide)]; omega), if_pos (mq_inT (by omega) (by decide)), nI_clamp (by omega)]
      cases hr : f (i + 1) with
      | inl x =>
        obtain ⟨qf, pf⟩ := x
        rw [hr] at a2 ok1
        obtain ⟨⟨i', L', S4⟩, f4⟩ := a2
        have hp : pf ≤ n := ok1.2
        rw [S4.1, mv_lwD hD, eE]
        simp only [Option.bind_some]
        have f5 : mv_fr (lc_Q D 0) M2 (mj_st M2 (D + 1) (L0 + mv_szs c + 1) (M2 D 6)) := mv_fr.rf.st (by unfold lc_Q; omega)
        have S5 : lc_S (mj_st M2 (D + 1) (L0 + mv_szs c + 1) (M2 D 6)) D n i' L' (mv_fx (nI qf) (nI pf)) := S4.fr (Q := fun a k => a = D + 1) (mv_fr.rf.st rfl) (by omega) (by omega) (by rw [mq_st_ne (by omega)]; exact S4.2.2.1) (by rw [mq_st_ne (by omega)]; exact S4.2.2.2.1) (by rw [mq_st_ne (by omega)]; exact S4.2.2.2.2.1) S4.2.2.2.2.2.1 S4.2.2.2.2.2.2
        refine ⟨_, hdead (t + 1) _ i' L' _ _ S5 (lc_Tb hD (lc_Tb hD TMc f4) f5) (mv_fxne ok1.1 (by omega)) (by omega), ⟨i', L', S5⟩, ?_⟩
        exact (((fr.wk (fun a k z => z.wk (by omega))).tr (fMc.wk (fun a k z => z.wk (by omega)))).tr f4).tr f5
      | inr y =>
        obtain ⟨j, c2⟩ := y
        rw [hr] at a2 ok1
        obtain ⟨S4, cc2, f4⟩ := a2
        obtain ⟨k1, k2, k3, k4, k5⟩ := ok1
        rw [S4.1, mv_lwD hD, eE, S4.2.2.2.2.1]
        simp only [Option.bind_some]
        obtain ⟨Me, hMe⟩ : ∃ Me, Me = mj_st M2 (D + 1) (L0 + mv_szs c + 1) (nI (L0 + mv_szs c + 1 + 1 + mv_szs c2)) := ⟨_, rfl⟩
        rw [← hMe]
        have f5 : mv_fr (fun a k => a = D + 1 ∧ k = L0 + mv_szs c + 1) M2 Me := by rw [hMe]; exact mv_fr.rf.st ⟨rfl, rfl⟩
        have S5 : lc_S Me D n j (L0 + mv_szs c + 1 + 1 + mv_szs c2) 0 := S4.fr f5 (by omega) (by omega) (by rw [f5 _ _ (by omega)]; exact S4.2.2.1) (by rw [f5 _ _ (by omega)]; exact S4.2.2.2.1) (by rw [f5 _ _ (by omega)]; exact S4.2.2.2.2.1) S4.2.2.2.2.2.1 S4.2.2.2.2.2.2
        have f5' : mv_fr (lc_Q D (L0 + mv_szs c)) M2 Me := f5.wk (fun a k z => by unfold lc_Q; omega)
        have fM2 : mv_fr (lc_Q D (L0 + mv_szs c)) M M2 := fMc.tr (f4.wk (fun a k z => z.wk (by omega)))
        have fMe := fM2.tr f5'
        have ez : mv_sz (op, c2.length) = 2 := if_pos ho
        have e1 : mv_szs (c ++ lp_ej op (lp_sn n tp i) c2) = mv_szs c + (2 + mv_szs c2) := by
          rw [mv_szs_ap]
          show mv_szs c + (mv_sz (op, c2.length) + mv_szs c2) = _
          rw [ez]
        refine ih (t + 1) j (c ++ lp_ej op (lp_sn n tp i) c2) L0 M0 Me _ (by omega) (by rw [e1, show L0 + (mv_szs c + (2 + mv_szs c2)) = L0 + mv_szs c + 1 + 1 + mv_szs c2 from by omega]; exact S5) ?_ (by omega) (fr.tr (fMe.wk (fun a k z => z.wk (by omega)))) (lc_Tb hD T fMe) (lc_74 hD h74 fMe)
        refine mv_cc_ap c L0 ?_ ?_
        · refine mv_cc_cg c L0 (fun x x1 x2 => ?_) cc
          rw [fMe _ _ (by unfold lc_Q; omega)]
        · refine ⟨Or.inr (Or.inr (Or.inr ⟨ho, Nat.le_refl _, ?_, ?_⟩)), ?_⟩
          · rw [hsg2, f5 _ _ (by omega), f4 _ _ (by unfold lc_Q; omega), fc _ _ (by unfold lc_Q; omega)]
            exact cb
          · show Me (D + 1) (L0 + mv_szs c + 1) = nI (L0 + mv_szs c + 2 + mv_szs (c2.take c2.length))
            rw [List.take_length, hMe, mq_st_eq]
          · rw [ez]
            refine mv_cc_cg c2 _ (fun x x1 x2 => ?_) cc2
            rw [f5 _ _ (by omega)]
    · have q' : ¬ lp_o1 sg (lp_sn n tp i) = true := fun z => q (of_decide_eq_true z)
      rw [if_neg q']
      exact ⟨M, hstop t w3 i _ M S T (by omega) (Or.inl q), S, cc, fr⟩
end LC3
