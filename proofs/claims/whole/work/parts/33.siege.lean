/-! FAULT, and a siege out of the text -/
theorem sr_part_ok {T : Nat × (Nat → Nat)} {S : sp_S} {pos : Nat} {q : Nat × sp_S} (h : sr_part T S pos = .inr q) : sp_people q.2 + sp_loaves q.2 = sp_people S + sp_loaves S + 1 := by
  unfold sr_part at h
  split at h
  · unfold sr_person at h
    split at h
    · split at h
      · cases h
      · cases h
        show (sp_people S + 1) + sp_loaves S = _
        omega
    · cases h
  · unfold sr_loaf at h
    split at h
    · cases h
    · split at h
      · cases h
      · split at h
        · cases h
        · split at h
          · cases h
          · cases h
            show sp_people S + (sp_loaves S + 1) = _
            omega
theorem sr_part_le {T : Nat × (Nat → Nat)} {S : sp_S} {pos : Nat} : (∀ q, sr_part T S pos = .inl q → q ≤ pos + 4) ∧ ∀ q, sr_part T S pos = .inr q → q.1 ≤ pos + 5 := by
  have hn : ∀ q, sr_num T S (pos + 1) = .inl q → q ≤ pos + 4 := by
    intro q h
    unfold sr_num at h
    repeat' split at h
    all_goals first | (cases h; omega) | cases h
  constructor
  · intro q h
    unfold sr_part sr_person sr_loaf at h
    repeat' split at h
    all_goals first | (cases h; omega) | (cases h; done) | (rename_i hh; cases h; exact hn _ hh)
  · intro q h
    unfold sr_part sr_person sr_loaf at h
    repeat' split at h
    all_goals first | (cases h; dsimp only; omega) | cases h
theorem sr_parts_le {T : Nat × (Nat → Nat)} : ∀ r pos S k, (sr_parts T r pos S).1 = some k → k ≤ pos + 5 * r + 4 := by
  intro r
  induction r with
  | zero =>
    intro pos S k h
    unfold sr_parts at h
    dsimp only at h
    split at h
    · cases h; omega
    · cases h
  | succ r ih =>
    intro pos S k h
    simp only [sr_parts] at h
    split at h
    · cases hp : sr_part T S pos with
      | inl q =>
        rw [hp] at h
        have := sr_part_le.1 q hp
        cases h
        omega
      | inr q =>
        rw [hp] at h
        have := sr_part_le.2 q hp
        have := ih _ _ _ h
        omega
    · cases h
theorem sr_all_le {T : Nat × (Nat → Nat)} {S : sp_S} {k : Nat} (h : (sr_all T S).1 = some k) : k ≤ 83 := by
  unfold sr_all at h
  cases hr : sr_rules T S with
  | inl q =>
    rw [hr] at h
    cases h
    unfold sr_rules at hr
    repeat' split at hr
    all_goals first | (cases hr; omega) | cases hr
  | inr S' =>
    rw [hr] at h
    have := sr_parts_le _ _ _ _ h
    omega
section RI
variable {h : bn_H} {T : Nat × (Nat → Nat)} {S : sp_S}
theorem sq_readInto {pos : Nat} (H : cr_T h T pos) (G : sg_G h 12 S) (B : sp_B S) : ∃ h' pl, bn_ev 34 0 [some (.ref 1), some (.ref 12), none, none] [] h = some (some (.int (sp_o (sr_all T S).1)), h') ∧ sg_F cr_P h h' ∧ cr_T h' T pl ∧ sg_G h' 12 (sr_all T S).2 ∧ sp_B (sr_all T S).2 := by
  obtain ⟨h1, e1, F1, H1⟩ := cr_set H (q := 0) (by omega)
  have G1 := sg_1 G F1
  obtain ⟨h2, b, e2, F2, M2⟩ := sq_rules H1 G1 B
  have e0 := bs_X1_readInto_0 1 12 h
  rw [show (0 : Int32) = nI 0 from rfl, e1, Option.bind_some, cr_C H1, e2] at e0
  simp only [bn_gd, bn_cI, if_true] at e0
  unfold sr_all
  cases hr : sr_rules T S with
  | inl q =>
    rw [hr] at M2
    obtain ⟨rfl, H2, G2⟩ := M2
    rw [if_pos (by rfl), cr_pos H2] at e0
    exact ⟨h2, q, e0, (F1.mono cr_P1).tr F2, H2, G2, B⟩
  | inr S' =>
    rw [hr] at M2
    obtain ⟨rfl, H2, G2, B2⟩ := M2
    rw [if_neg (by decide)] at e0
    dsimp only
    have key : ∀ r k o pos (g : bn_H) (S : sp_S), k + r = 15 → cr_T g T pos → sg_G g 12 S → sp_B S → ∃ g' pl, bn_ev 34 20 [some (.ref 1), some (.ref 12), some (.int (nI k)), o] [] g = some (some (.int (sp_o (sr_parts T r pos S).1)), g') ∧ sg_F cr_P g g' ∧ cr_T g' T pl ∧ sg_G g' 12 (sr_parts T r pos S).2 ∧ sp_B (sr_parts T r pos S).2 := by
      intro r
      induction r with
      | zero =>
        intro k o pos g S hk H G B
        have h80 := H.2.2.1
        have hpl := H.2.2.2.2
        refine ⟨g, pos, ?_, sg_F.rf, H, G, B⟩
        rw [bs_X1_readInto_20, if_pos (show (15 : Int32) ≤ nI k from nI_le (a := 15) (by omega) (by omega)), bs_X1_readInto_75, cr_pos H, cr_len H, sp_ifle (by omega) (by omega), cr_pos H]
        unfold sr_parts
        by_cases q : pos < T.1
        · rw [if_neg (by omega), if_pos q]; rfl
        · rw [if_pos (by omega), if_neg q]; rfl
      | succ r ih =>
        intro k o pos g S hk H G B
        have h80 := H.2.2.1
        have hpl := H.2.2.2.2
        have ev := bs_X1_readInto_20 1 12 (nI k) o g
        rw [if_neg (show ¬ (15 : Int32) ≤ nI k from nI_ge (b := 15) (by omega) (by omega)), cr_pos H, cr_len H, sp_ifle (by omega) (by omega)] at ev
        simp only [sr_parts]
        by_cases q : pos < T.1
        · rw [if_neg (by omega), cr_C H, show (80 : Int32) = nI 80 from rfl, sq_sign H (by omega)] at ev
          simp only [bn_gd, bn_cI, if_true, sp_b_eq0] at ev
          rw [if_pos q]
          unfold sr_part
          cases hs : sr_sign T pos 80 with
          | true =>
            rw [hs, if_neg (by decide), cr_C H] at ev
            obtain ⟨g1, b, e1, F1, M1⟩ := sq_readPerson H G B hs
            rw [if_pos rfl, e1] at ev
            dsimp only at ev
            rw [if_pos rfl]
            cases hm : sr_person T S pos with
            | inl z =>
              rw [hm] at M1
              obtain ⟨rfl, H1, G1⟩ := M1
              rw [if_pos (by rfl), cr_pos H1] at ev
              exact ⟨g1, z, ev, F1, H1, G1, B⟩
            | inr z =>
              rw [hm] at M1
              obtain ⟨rfl, H1, G1, B1⟩ := M1
              rw [if_neg (by decide), ← nI_succ] at ev
              obtain ⟨g', pl, e2, F2, H2, G2, B2⟩ := ih (k + 1) _ z.1 g1 z.2 (by omega) H1 G1 B1
              exact ⟨g', pl, ev.trans e2, F1.tr F2, H2, G2, B2⟩
          | false =>
            rw [hs, if_pos rfl, cr_C H] at ev
            obtain ⟨g1, b, e1, F1, M1⟩ := sq_readLoaf H G B
            rw [if_pos rfl, e1] at ev
            dsimp only at ev
            rw [if_neg (by decide)]
            cases hm : sr_loaf T S pos with
            | inl z =>
              rw [hm] at M1
              obtain ⟨rfl, H1, G1⟩ := M1
              rw [if_pos (by rfl), cr_pos H1] at ev
              exact ⟨g1, z, ev, F1, H1, G1, B⟩
            | inr z =>
              rw [hm] at M1
              obtain ⟨rfl, H1, G1, B1⟩ := M1
              rw [if_neg (by decide), ← nI_succ] at ev
              obtain ⟨g', pl, e2, F2, H2, G2, B2⟩ := ih (k + 1) _ z.1 g1 z.2 (by omega) H1 G1 B1
              exact ⟨g', pl, ev.trans e2, F1.tr F2, H2, G2, B2⟩
        · rw [if_pos (by omega), bs_X1_readInto_75, cr_pos H, cr_len H, sp_ifle (by omega) (by omega), if_pos (by omega)] at ev
          rw [if_neg q]
          exact ⟨g, pos, ev, sg_F.rf, H, G, B⟩
    obtain ⟨g', pl, e3, F3, H3, G3, B3⟩ := key 15 0 none 4 h2 S' (by omega) H2 G2 B2
    exact ⟨g', pl, e0.trans e3, ((F1.mono cr_P1).tr F2).tr F3, H3, G3, B3⟩
end RI
/-- some siege that the text tells, whatever lay there before -/
def ca_told (X : ct_X) (r : Int32) (X' : ct_X) : Prop := ∃ Sp, sp_B Sp ∧ (match (sr_all X.1 Sp).1 with
  | some _ => r = -3 ∧ X' = X
  | none => r = 100 * nI (sp_people (sr_all X.1 Sp).2) + nI (sp_loaves (sr_all X.1 Sp).2) ∧ X' = (X.1, sp_u_seed (sr_all X.1 Sp).2 (sp_seed X.2.1), [], fun _ => none) ∧ sp_B (sr_all X.1 Sp).2)
theorem cr_lt : ∀ k, cr_P k → cw_P k := fun k hk => by unfold cr_P sp_P at hk; unfold cw_P; omega
/-- what a reading leaves -/
theorem cw.read {h h1 : bn_H} {X : ct_X} {pl : Nat} {S : sp_S} (H : cw h X) (F : sg_F cr_P h h1) (HT : cr_T h1 X.1 pl) (G : sg_G h1 12 S) (B : sp_B S) : cw h1 X := by
  obtain ⟨f, c, R, K, b, Sp, a1, a2, a3, a4, a5, a6, a7, a8⟩ := H
  have hn : ∀ q, (q = 0 ∨ (2 ≤ q ∧ q < 12) ∨ 20 < q) → ¬ cr_P q := fun q hq hp => by unfold cr_P sp_P at hp; omega
  exact ⟨f, c, R, K, b, S, a1.fr F (hn 0 (by omega)), ⟨⟨nI pl, HT.1⟩, HT.2.1⟩, a3.fr F (fun k x y => hn k (by omega)), G, a5.fr F (fun q hq => hn q (by omega)), a6.fr F (fun q hq => hn q (by omega)), a7, a8.1, B⟩
theorem cw.readable {h : bn_H} {X : ct_X} (H : cw h X) (hB : ct_B X) : ∃ h1 Sp, sg_F (fun k => k = 1) h h1 ∧ bn_pf h 1 1 2 (.int 0) = some h1 ∧ cr_T h1 X.1 0 ∧ sg_G h 12 Sp ∧ sp_B Sp := by
  obtain ⟨f, c, R, K, b, Sp, a1, ⟨⟨pl, T1⟩, T2⟩, a3, a4, a5, a6, a7, a8⟩ := H
  obtain ⟨h1, e1, F1, O1⟩ := ob_P T1 (k := 2) (by simp) (.int 0)
  exact ⟨h1, Sp, F1, e1, ⟨O1, T2.fr F1 (by omega), hB.1, hB.2.1, Nat.zero_le _⟩, a4, a8.2⟩
theorem cq_readInto {h : bn_H} {X : ct_X} (H : cw h X) (hB : ct_B X) : ∃ Sp h' pl, sp_B Sp ∧ bn_ev 34 0 [some (.ref 1), some (.ref 12), none, none] [] h = some (some (.int (sp_o (sr_all X.1 Sp).1)), h') ∧ cw h' X ∧ cr_T h' X.1 pl ∧ sg_G h' 12 (sr_all X.1 Sp).2 ∧ sp_B (sr_all X.1 Sp).2 ∧ sg_F cr_P h h' := by
  obtain ⟨h1, Sp, F1, e1, T1, G, B⟩ := H.readable hB
  have G1 := sg_1 G F1
  obtain ⟨h2, pl, e2, F2, T2, G2, B2⟩ := sq_readInto T1 G1 B
  have F := (F1.mono cr_P1).tr F2
  refine ⟨Sp, h2, pl, B, ?_, H.read F T2 G2 B2, T2, G2, B2, F⟩
  rw [bs_X1_readInto_0, e1, Option.bind_some]
  rw [bs_X1_readInto_0] at e2
  obtain ⟨h3, e3, F3, O3⟩ := ob_P T1.1 (k := 2) (by simp) (.int 0)
  rw [e3, Option.bind_some] at e2
  have hh : h3 = h1 := by
    have e4 : bn_pf h1 1 1 2 (.int 0) = some (bn_u h1 1 (.inr (1, [.ref 2, .int (nI X.1.1), .int (nI 0)]))) := by
      unfold bn_pf
      rw [T1.1]
      rfl
    have e5 : bn_u h1 1 (.inr (1, [.ref 2, .int (nI X.1.1), .int (nI 0)])) = h1 := by
      obtain ⟨x1, x2, x3, x4⟩ := h1
      have hg := T1.1
      unfold bn_g at hg
      split at hg
      · have hg : x4 1 = _ := Option.some.inj hg
        unfold bn_u
        dsimp only
        congr 3
        funext k
        unfold va_up
        split
        · rename_i hk
          rw [hk, hg]
        · rfl
      · cases hg
    rw [e5] at e4
    rw [e4] at e3
    exact (Option.some.inj e3).symm
  rw [hh] at e2
  exact e2
theorem cq_fault {h : bn_H} {X : ct_X} (H : cw h X) (hB : ct_B X) : ∃ Sp, sp_B Sp ∧ cq_ok 48 [some (.ref 0)] h (sp_o (sr_all X.1 Sp).1) X := by
  obtain ⟨f, c, O, -⟩ := H.O
  obtain ⟨Sp, h', pl, B, e, H', T', G', B', F⟩ := cq_readInto H hB
  have tC : bn_isC h 1 1 = true := ob_C H.T.1.choose_spec
  refine ⟨Sp, B, h', ?_, H', F.mono cr_lt⟩
  rw [bs_X2_fault_0, co_text O, co_spare O, tC, e]
  rfl
theorem cq_siege {h : bn_H} {X : ct_X} (H : cw h X) (hB : ct_B X) : ∃ r X', ca_told X r X' ∧ cq_ok 49 [some (.ref 0), none] h r X' := by
  obtain ⟨f, c, O, -⟩ := H.O
  obtain ⟨Sp, h1, pl, B, e, H1, T1, G1, B1, F⟩ := cq_readInto H hB
  have tC : bn_isC h 1 1 = true := ob_C H.T.1.choose_spec
  have e0 := bs_X2_siege_0 0 h
  rw [co_text O, co_spare O, tC, e] at e0
  simp only [bn_gd, bn_cI, if_true] at e0
  have hpl : ∀ k, (sr_all X.1 Sp).1 = some k → ¬ nI k = (-9 : Int32) ∨ True := fun k hk => Or.inr trivial
  cases hf : (sr_all X.1 Sp).1 with
  | some k =>
    rw [hf] at e0 e
    by_cases hk : nI k = (-9 : Int32)
    · exfalso
      have hle := sr_all_le hf
      have := nI_pos (n := k) (by omega)
      rw [hk] at this
      exact this (by decide)
    · rw [if_neg (show ¬ sp_o (some k) = -9 from hk)] at e0
      exact ⟨-3, X, ⟨Sp, B, by rw [hf]; exact ⟨rfl, rfl⟩⟩, h1, e0, H1, F.mono cr_lt⟩
  | none =>
    rw [hf, if_pos (show sp_o none = -9 from rfl)] at e0
    obtain ⟨f1, c1, R, K, b, Sp1, O1, a2, a3, a4, a5, a6, a7, a8⟩ := H1
    obtain ⟨h2, e2, F2, G2⟩ := sg_s_seed G1 (sp_seed X.2.1)
    have O2 := O1.fr F2 (by omega)
    have b3 := a3.fr F2 (fun k x y => by omega)
    have b2 := a2.fr F2 (by omega) (by omega)
    have b5 := a5.fr F2 (fun q hq => by omega)
    have b6 := a6.fr F2 (fun q hq => by omega)
    have BS : sp_B (sp_u_seed (sr_all X.1 Sp).2 (sp_seed X.2.1)) := sp_seed_B B1 _
    obtain ⟨h3, e3, F3, G3⟩ := sq_becomes b3 G2 BS (by omega)
    have hn : ∀ q, (q < 3 ∨ 11 < q) → ¬ sp_P 3 q := fun q hq hp => by unfold sp_P at hp; omega
    have O3 := O2.fr F3 (hn 0 (by omega))
    obtain ⟨h4, e4, F4, O4⟩ := cq_forget O3
    have G12 := (G2.fr F3 (fun k x y => hn k (by omega))).fr F4 (fun k x y => by omega)
    have G34 := G3.fr F4 (fun k x y => by omega)
    have c2 := (b2.fr F3 (hn 1 (by omega)) (hn 2 (by omega))).fr F4 (by omega) (by omega)
    have c5 := (b5.fr F3 (fun q hq => hn q (by omega))).fr F4 (fun q hq => by omega)
    have c6 := (b6.fr F3 (fun q hq => hn q (by omega))).fr F4 (fun q hq => by omega)
    obtain ⟨h5, e5, F5, A5⟩ := c6.2.2.sd (j := 0) (by omega) (by decide) (nI 0)
    obtain ⟨h6, e6, F6, A6⟩ := A5.sd (j := 1) (by omega) (by decide) (nI 0)
    have F56 := F5.tr F6
    have e5 : bn_sd h4 23 1 0 (nI 0) = some h5 := e5
    have e6 : bn_sd h5 23 1 (nI 1) (nI 0) = some h6 := e6
    have G6 := G34.fr F56 (fun k x y => by omega)
    have O5 := O4.fr F5 (by omega)
    have O6 := O5.fr F6 (by omega)
    have ev : bn_ev 49 50 [some (.ref 0), some (.int 0)] [] h4 = some (some (.int (100 * nI (sp_people (sr_all X.1 Sp).2) + nI (sp_loaves (sr_all X.1 Sp).2))), h6) := by
      have p6 : ∀ K, bn_gI h6 3 0 5 K = K (nI (sp_people (sr_all X.1 Sp).2)) := fun K => sg_people G6
      have l6 : ∀ K, bn_gI h6 3 0 9 K = K (nI (sp_loaves (sr_all X.1 Sp).2)) := fun K => sg_loaves G6
      rw [bs_X2_siege_50, if_neg (by decide), co_kept O4, nar_0, e5, Option.bind_some, show (0 : Int32) + 1 = nI 1 from by decide, bs_X2_siege_50, if_neg (by decide), co_kept O5, nar_0, e6, Option.bind_some, ← nI_succ, bs_X2_siege_50, if_pos (by decide), co_now O6, p6, co_now O6, l6]
    refine ⟨_, (X.1, sp_u_seed (sr_all X.1 Sp).2 (sp_seed X.2.1), [], fun _ => none), ⟨Sp, B, by rw [hf]; exact ⟨rfl, rfl, B1⟩⟩, h6, ?_, ⟨0, 0, R, K, fun _ => false, _, O6, (c2.fr F56 (by omega) (by omega)), G6, G12.fr F56 (fun k x y => by omega), c5.fr F56 (fun q hq => by omega), ⟨c6.1.fr F56 (by omega), fun j hj => (c6.2.1 j hj).fr F56 (fun k x y => by omega), A6.cg (fun j hj => ?_)⟩, ⟨by omega, by omega, rfl, fun k hk => by omega⟩, fun j hj => rfl, BS⟩, ?_⟩
    · refine e0.trans ?_
      have s1 : ∀ K, bn_gJ h1 3 0 4 K = K (sp_seed X.2.1) := fun K => sg_seed a3
      simp only [co_spare O1, co_now O1, s1, e2, Option.bind_some, co_now O2, co_spare O2, sg_isC b3, e3, bn_cV, if_true, co_C O3, e4, ev]
    · have : j = 0 ∨ j = 1 := by omega
      rcases this with rfl | rfl <;> rfl
    · exact (((((F.mono cr_lt).tr (F2.mono (eq_lt (by omega)))).tr (F3.mono (sp_P_lt (by omega)))).tr (F4.mono (eq_lt (by omega)))).tr (F56.mono (eq_lt (by omega))))
