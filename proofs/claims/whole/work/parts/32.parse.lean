/-! A TEXT IS READ: its parts -/
def cr_P : Nat → Prop := fun k => k = 1 ∨ sp_P 12 k
theorem cr_P1 : ∀ k, k = 1 → cr_P k := fun k hk => Or.inl hk
theorem cr_P12 : ∀ k, sp_P 12 k → cr_P k := fun k hk => Or.inr hk
theorem cr_T.fr {h h1 : bn_H} {T : Nat × (Nat → Nat)} {pos : Nat} (H : cr_T h T pos) (F : sg_F (sp_P 12) h h1) : cr_T h1 T pos := ⟨(F.2.2.2 1 (by unfold sp_P; omega)).trans H.1, H.2.1.fr F (by unfold sp_P; omega), H.2.2⟩
section RP
variable {h : bn_H} {T : Nat × (Nat → Nat)} {S : sp_S} {pos : Nat}
theorem sg_1 {h h1 : bn_H} (G : sg_G h 12 S) (F : sg_F (fun k => k = 1) h h1) : sg_G h1 12 S := G.fr F (fun k a b => by omega)
theorem sr_dig_le {d : Nat} (h : sr_dig T pos = some d) : d ≤ 9 ∧ pos < T.1 := by
  unfold sr_dig at h
  split at h
  · rename_i q; cases h; omega
  · cases h
theorem sq_number (H : cr_T h T pos) (G : sg_G h 12 S) (B : sp_B S) : ∃ h' x, bn_ev 38 0 [some (.ref 1), some (.ref 12), none, none] [] h = some (some (.int x), h') ∧ sg_F (fun k => k = 1) h h' ∧ (match sr_num T S pos with
    | .inl q => x = -9 ∧ cr_T h' T q
    | .inr v => x = nI v ∧ cr_T h' T (pos + 2) ∧ v ≤ 99) := by
  have e0 := bs_X1_readNumber_0 1 12 h
  rw [cr_C H, sq_figureHere H] at e0
  simp only [bn_gd, bn_cI, if_true] at e0
  unfold sr_num
  cases hd : sr_dig T pos with
  | none =>
    rw [hd, if_pos (by decide)] at e0
    exact ⟨h, -9, e0, sg_F.rf, rfl, H⟩
  | some t =>
    obtain ⟨ht, hp⟩ := sr_dig_le hd
    rw [hd, show sp_o (some t) = nI t from rfl, if_neg (nI_pos (by omega)), sq_hasFree G B ht] at e0
    simp only [sp_b_eq0] at e0
    dsimp only
    cases hf : sr_some S t with
    | false =>
      rw [hf, if_pos rfl] at e0
      exact ⟨h, -9, e0, sg_F.rf, rfl, H⟩
    | true =>
      rw [hf, if_neg (by decide)] at e0
      obtain ⟨h1, e1, F1, H1⟩ := cr_set H (q := pos + 1) hp
      have G1 := sg_1 G F1
      rw [cr_pos H, ← nI_succ, e1, Option.bind_some, cr_C H1, sq_figureHere H1] at e0
      simp only [if_true] at e0
      rw [if_pos rfl]
      cases hd2 : sr_dig T (pos + 1) with
      | none =>
        rw [hd2, if_pos (by decide)] at e0
        exact ⟨h1, -9, e0, F1, rfl, H1⟩
      | some u =>
        obtain ⟨hu, hp2⟩ := sr_dig_le hd2
        rw [hd2, show sp_o (some u) = nI u from rfl, if_neg (nI_pos (by omega)), show (10 : Int32) * nI t = nI (10 * t) from pk_mul 10 t, nI_add, sq_isFree G1 B (by omega)] at e0
        simp only [sp_b_eq0] at e0
        dsimp only
        cases hf2 : sr_free S (10 * t + u) with
        | false =>
          rw [hf2, if_pos rfl] at e0
          exact ⟨h1, -9, e0, F1, rfl, H1⟩
        | true =>
          rw [hf2, if_neg (by decide)] at e0
          obtain ⟨h2, e2, F2, H2⟩ := cr_set H1 (q := pos + 2) hp2
          rw [cr_pos H1, ← nI_succ, e2] at e0
          exact ⟨h2, nI (10 * t + u), e0, F1.tr F2, rfl, H2, by omega⟩
theorem sq_rules (H : cr_T h T 0) (G : sg_G h 12 S) (B : sp_B S) : ∃ h' b, bn_ev 35 0 [some (.ref 1), some (.ref 12), none, none, none] [] h = some (some (.int (sp_b b)), h') ∧ sg_F cr_P h h' ∧ (match sr_rules T S with
    | .inl q => b = false ∧ cr_T h' T q ∧ sg_G h' 12 S
    | .inr S' => b = true ∧ cr_T h' T 4 ∧ sg_G h' 12 S' ∧ sp_B S') := by
  obtain ⟨h1, e1, F1, H1⟩ := sq_readSign H (c := 83) (by omega)
  have G1 := sg_1 G F1
  have e0 := bs_X1_readRules_0 1 12 h
  rw [cr_C H, show (83 : Int32) = nI 83 from rfl, e1] at e0
  simp only [bn_gd, bn_cI, if_true, sp_b_eq0] at e0
  have k51 : ∀ (g : bn_H) (a b : Nat) (o : Option Value) (x : Int32), x < 0 → bn_ev 35 51 [some (.ref 1), some (.ref 12), some (.int (nI a)), some (.int (nI b)), o] [.int x] g = some (some (.int 0), g) := fun g a b o x hx => by
    rw [bs_X1_readRules_51, if_neg (fun z => by rw [Int32.le_iff_toInt_le] at z; rw [Int32.lt_iff_toInt_lt] at hx; have : (0 : Int32).toInt = 0 := rfl; omega)]
  unfold sr_rules
  cases hs : sr_sign T 0 83 with
  | false =>
    rw [hs, if_pos rfl] at e0
    rw [hs] at H1
    exact ⟨h1, false, e0, F1.mono cr_P1, rfl, H1, G1⟩
  | true =>
    rw [hs, if_neg (by decide)] at e0
    rw [hs] at H1
    have H1 : cr_T h1 T 1 := H1
    rw [if_pos rfl]
    obtain ⟨h2, e2, F2, H2⟩ := sq_readFigure H1 (lo := 0) (hi := 2) (by omega) (by omega)
    have G2 := sg_1 G1 F2
    rw [cr_C H1, show (0 : Int32) = nI 0 from rfl, show (2 : Int32) = nI 2 from rfl, e2] at e0
    simp only [if_true] at e0
    have m9 : ¬ (nI 0 : Int32) ≤ -9 := by decide
    have n9 : ¬ (0 : Int32) ≤ -9 := by decide
    cases ha : sr_fig T 1 0 2 with
    | none =>
      rw [ha, if_neg (show ¬ nI 0 ≤ sp_o none from m9)] at e0
      rw [ha] at H2
      refine ⟨h2, false, e0.trans ?_, (F1.tr F2).mono cr_P1, rfl, H2, G2⟩
      have e34 := bs_X1_readRules_34 1 12 (-9) none none (-9) h2
      rw [if_neg n9] at e34
      refine e34.trans ?_
      rw [bs_X1_readRules_51, if_neg n9]
      rfl
    | some a =>
      rw [ha] at H2
      have H2 : cr_T h2 T 2 := H2
      have la := sr_fig_le ha
      rw [ha, if_pos (show nI 0 ≤ sp_o (some a) from nI_pos' (by omega))] at e0
      obtain ⟨h3, e3, F3, H3⟩ := sq_readFigure H2 (lo := 1) (hi := 9) (by omega) (by omega)
      have G3 := sg_1 G2 F3
      rw [cr_C H2, show (1 : Int32) = nI 1 from rfl, show (9 : Int32) = nI 9 from rfl, e3] at e0
      simp only [if_true] at e0
      dsimp only
      rw [bs_X1_readRules_34] at e0
      cases hb : sr_fig T 2 1 9 with
      | none =>
        rw [hb, if_neg (show ¬ (0 : Int32) ≤ sp_o none from n9)] at e0
        rw [hb] at H3
        refine ⟨h3, false, e0.trans ?_, ((F1.tr F2).tr F3).mono cr_P1, rfl, H3, G3⟩
        rw [bs_X1_readRules_51, if_neg n9]
        rfl
      | some b =>
        rw [hb] at H3
        have H3 : cr_T h3 T 3 := H3
        have lb := sr_fig_le hb
        rw [hb, if_pos (show (0 : Int32) ≤ sp_o (some b) from nI_pos' (by omega))] at e0
        obtain ⟨h4, e4, F4, H4⟩ := sq_readFigure H3 (lo := 1) (hi := 9) (by omega) (by omega)
        have G4 := sg_1 G3 F4
        have e4 : bn_ev 43 0 [some (.ref 1), some (.int 1), some (.int 9), none] [] h3 = _ := e4
        rw [cr_C H3, e4] at e0
        simp only [bn_gd, bn_cI, if_true] at e0
        dsimp only
        rw [bs_X1_readRules_51] at e0
        cases hc : sr_fig T 3 1 9 with
        | none =>
          rw [hc, if_neg (show ¬ (0 : Int32) ≤ sp_o none from n9)] at e0
          rw [hc] at H4
          exact ⟨h4, false, e0, (((F1.tr F2).tr F3).tr F4).mono cr_P1, rfl, H4, G4⟩
        | some c =>
          rw [hc] at H4
          have H4 : cr_T h4 T 4 := H4
          have lc := sr_fig_le hc
          rw [hc, if_pos (show (0 : Int32) ≤ sp_o (some c) from nI_pos' (by omega)), sg_isC G4] at e0
          obtain ⟨h5, e5, F5, G5⟩ := sq_begin G4 a b c
          have e5 : bn_ev 1 0 [some (.ref 12), some (.int (sp_o (some a))), some (.int (sp_o (some b))), some (.int (sp_o (some c)))] [] h4 = some (none, h5) := e5
          simp only [bn_gd, bn_cV, if_true, e5] at e0
          exact ⟨h5, true, e0, ((((F1.tr F2).tr F3).tr F4).mono cr_P1).tr (F5.mono cr_P12), rfl, H4.fr F5, G5, sp_begin_B B la.2.1 ⟨lb.1, lb.2.1⟩ ⟨lc.1, lc.2.1⟩⟩
theorem sq_readPerson (H : cr_T h T pos) (G : sg_G h 12 S) (B : sp_B S) (hs : sr_sign T pos 80 = true) : ∃ h' b, bn_ev 36 0 [some (.ref 1), some (.ref 12), none] [] h = some (some (.int (sp_b b)), h') ∧ sg_F cr_P h h' ∧ (match sr_person T S pos with
    | .inl q => b = false ∧ cr_T h' T q ∧ sg_G h' 12 S
    | .inr q => b = true ∧ cr_T h' T q.1 ∧ sg_G h' 12 q.2 ∧ sp_B q.2) := by
  have e0 := bs_X1_readPerson_0 1 12 h
  have bp := B.2.2.2.1
  have bl := B.2.1
  rw [sg_people G, show (5 : Int32) = nI 5 from rfl, sp_ifle (by omega) (by omega)] at e0
  unfold sr_person
  by_cases h5 : sp_people S < 5
  · rw [if_neg (by omega)] at e0
    rw [if_pos h5]
    obtain ⟨h1, e1, F1, H1⟩ := sq_readSign H (c := 80) (by omega)
    have G1 := sg_1 G F1
    rw [hs] at H1 e1
    have H1 : cr_T h1 T (pos + 1) := H1
    have e1 : bn_ev 41 0 [some (.ref 1), some (.int 80)] [] h = some (some (.int 1), h1) := e1
    obtain ⟨h2, e2, F2, H2⟩ := sq_readFigure H1 (lo := 0) (hi := sp_lives S) (by omega) (by omega)
    have G2 := sg_1 G1 F2
    have e2 : bn_ev 43 0 [some (.ref 1), some (.int 0), some (.int (nI (sp_lives S))), none] [] h1 = _ := e2
    rw [cr_C H, e1] at e0
    simp only [bn_gd, bn_cI, if_true] at e0
    rw [if_neg (by decide), sg_lives G1, cr_C H1, e2] at e0
    simp only [if_true] at e0
    cases hf : sr_fig T (pos + 1) 0 (sp_lives S) with
    | none =>
      rw [hf] at H2 e0
      rw [if_neg (show ¬ (0 : Int32) ≤ sp_o none from by decide)] at e0
      exact ⟨h2, false, e0, (F1.tr F2).mono cr_P1, rfl, H2, G2⟩
    | some d =>
      rw [hf] at H2 e0
      have H2 : cr_T h2 T (pos + 2) := H2
      have ld := sr_fig_le hf
      obtain ⟨h3, e3, F3, G3⟩ := sq_addPerson G2 h5 d
      have e3 : bn_ev 2 0 [some (.ref 12), some (.int (sp_o (some d)))] [] h2 = some (none, h3) := e3
      rw [if_pos (show (0 : Int32) ≤ sp_o (some d) from nI_pos' (by omega)), sg_isC G2, if_pos rfl, e3] at e0
      exact ⟨h3, true, e0, ((F1.tr F2).mono cr_P1).tr (F3.mono cr_P12), rfl, H2.fr F3, G3, sp_addP_B B (by omega) h5⟩
  · rw [if_pos (by omega)] at e0
    rw [if_neg h5]
    exact ⟨h, false, e0, sg_F.rf, rfl, H, G⟩
theorem sq_readLoaf (H : cr_T h T pos) (G : sg_G h 12 S) (B : sp_B S) : ∃ h' b, bn_ev 37 0 [some (.ref 1), some (.ref 12), none, none, none] [] h = some (some (.int (sp_b b)), h') ∧ sg_F cr_P h h' ∧ (match sr_loaf T S pos with
    | .inl q => b = false ∧ cr_T h' T q ∧ sg_G h' 12 S
    | .inr q => b = true ∧ cr_T h' T q.1 ∧ sg_G h' 12 q.2 ∧ sp_B q.2) := by
  have e0 := bs_X1_readLoaf_0 1 12 h
  have bp := B.2.2.2.1
  have bl := B.2.2.2.2.1
  have n9 : ¬ (0 : Int32) ≤ -9 := by decide
  rw [sg_people G, sp_if0 (by omega)] at e0
  unfold sr_loaf
  by_cases p0 : sp_people S = 0
  · rw [if_pos p0] at e0
    rw [if_pos (Or.inl p0)]
    exact ⟨h, false, e0, sg_F.rf, rfl, H, G⟩
  · rw [if_neg p0, sg_loaves G, show (10 : Int32) = nI 10 from rfl, sp_ifle (by omega) (by omega)] at e0
    by_cases l10 : 10 ≤ sp_loaves S
    · rw [if_pos l10] at e0
      rw [if_pos (Or.inr (Or.inl l10))]
      exact ⟨h, false, e0, sg_F.rf, rfl, H, G⟩
    · rw [if_neg l10] at e0
      obtain ⟨h1, e1, F1, H1⟩ := sq_readSign H (c := 76) (by omega)
      have G1 := sg_1 G F1
      have e1 : bn_ev 41 0 [some (.ref 1), some (.int 76)] [] h = _ := e1
      rw [cr_C H, e1] at e0
      simp only [bn_gd, bn_cI, if_true, sp_b_eq0] at e0
      cases hs : sr_sign T pos 76 with
      | false =>
        rw [hs, if_pos rfl] at e0
        rw [hs] at H1
        rw [if_pos (Or.inr (Or.inr rfl))]
        exact ⟨h1, false, e0, F1.mono cr_P1, rfl, H1, G1⟩
      | true =>
        rw [hs, if_neg (by decide)] at e0
        rw [hs] at H1
        have H1 : cr_T h1 T (pos + 1) := H1
        rw [if_neg (fun z => z.elim p0 (fun z => z.elim l10 (fun z => absurd z (by decide))))]
        obtain ⟨h2, x, e2, F2, M2⟩ := sq_number H1 G1 B
        have G2 := sg_1 G1 F2
        rw [cr_C H1, if_pos rfl, e2] at e0
        dsimp only at e0
        have k70 : ∀ (g : bn_H) (a b : Int32) (o : Option Value), bn_ev 37 70 [some (.ref 1), some (.ref 12), some (.int a), some (.int b), o] [.int (-9)] g = some (some (.int 0), g) := fun g a b o => by rw [bs_X1_readLoaf_70, if_neg n9]
        have k53 : ∀ (g : bn_H) (a : Int32) (o o' : Option Value), bn_ev 37 53 [some (.ref 1), some (.ref 12), some (.int a), o, o'] [.int (-9)] g = some (some (.int 0), g) := fun g a o o' => by rw [bs_X1_readLoaf_53, if_neg n9, k70]
        cases hn : sr_num T S (pos + 1) with
        | inl q =>
          rw [hn] at M2
          obtain ⟨rfl, M2⟩ := M2
          rw [if_neg n9, k53] at e0
          exact ⟨h2, false, e0, (F1.tr F2).mono cr_P1, rfl, M2, G2⟩
        | inr v =>
          rw [hn] at M2
          obtain ⟨rfl, H2, v99⟩ := M2
          have H2 : cr_T h2 T (pos + 3) := H2
          rw [if_pos (nI_pos' (by omega)), sg_people G2, cr_C H2, show nI (sp_people S) - 1 = nI (sp_people S - 1) from pk_sub (b := 1) (by omega)] at e0
          obtain ⟨h3, e3, F3, H3⟩ := sq_readFigure H2 (lo := 0) (hi := sp_people S - 1) (by omega) (by omega)
          have G3 := sg_1 G2 F3
          have e3 : bn_ev 43 0 [some (.ref 1), some (.int 0), some (.int (nI (sp_people S - 1))), none] [] h2 = _ := e3
          rw [if_pos rfl, e3] at e0
          dsimp only at e0 ⊢
          rw [bs_X1_readLoaf_53] at e0
          cases ho : sr_fig T (pos + 3) 0 (sp_people S - 1) with
          | none =>
            rw [ho] at H3 e0
            rw [if_neg (show ¬ (0 : Int32) ≤ sp_o none from n9), k70] at e0
            exact ⟨h3, false, e0, ((F1.tr F2).tr F3).mono cr_P1, rfl, H3, G3⟩
          | some o =>
            rw [ho] at H3 e0
            have H3 : cr_T h3 T (pos + 4) := H3
            have lo := sr_fig_le ho
            obtain ⟨h4, e4, F4, H4⟩ := sq_readFigure H3 (lo := 0) (hi := 9) (by omega) (by omega)
            have G4 := sg_1 G3 F4
            have e4 : bn_ev 43 0 [some (.ref 1), some (.int 0), some (.int 9), none] [] h3 = _ := e4
            rw [if_pos (show (0 : Int32) ≤ sp_o (some o) from nI_pos' (by omega)), cr_C H3, e4] at e0
            simp only [bn_gd, bn_cI, if_true] at e0
            dsimp only
            rw [bs_X1_readLoaf_70] at e0
            cases ha : sr_fig T (pos + 4) 0 9 with
            | none =>
              rw [ha] at H4 e0
              rw [if_neg (show ¬ (0 : Int32) ≤ sp_o none from n9)] at e0
              exact ⟨h4, false, e0, (((F1.tr F2).tr F3).tr F4).mono cr_P1, rfl, H4, G4⟩
            | some a =>
              rw [ha] at H4 e0
              have H4 : cr_T h4 T (pos + 5) := H4
              have la := sr_fig_le ha
              obtain ⟨h5, e5, F5, G5⟩ := sq_addLoaf G4 (show sp_loaves S < 10 by omega) v o a
              have e5 : bn_ev 3 0 [some (.ref 12), some (.int (nI v)), some (.int (sp_o (some o))), some (.int (sp_o (some a)))] [] h4 = some (none, h5) := e5
              rw [if_pos (show (0 : Int32) ≤ sp_o (some a) from nI_pos' (by omega)), sg_isC G4] at e0
              simp only [bn_gd, bn_cV, if_true] at e0
              rw [e5] at e0
              exact ⟨h5, true, e0, ((((F1.tr F2).tr F3).tr F4).mono cr_P1).tr (F5.mono cr_P12), rfl, H4.fr F5, G5, sp_addL_B B v99 (by omega) (by omega) (by omega)⟩
end RP
