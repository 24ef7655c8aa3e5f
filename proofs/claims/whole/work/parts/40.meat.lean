/-! THE MODEL EATS -/
theorem mq_eaten {h : bn_H} {S : sp_S} (H : mg h S) (B : sp_B S) {q l : Nat} (hq : q < sp_people S) (hl : l < sp_loaves S) (hal : sp_al S q = true) : ∃ h', bn_ev 97 0 [some (.ref 222), some (.int (nI q)), some (.int (nI l)), none] [] h = some (none, h') ∧ sg_F (fun k => k = 224) h h' ∧ mg h' (sp_feed S q l) := by
  obtain ⟨b_law, ⟨b_l1, b_lv⟩, ⟨b_b1, b_bd⟩, b_pp, b_lo, b_fa, b_at, b_nu, b_ho, b_ag⟩ := id B
  obtain ⟨fi, N, O, A, R, M⟩ := H
  obtain ⟨h1, e1, F1, A1⟩ := A.sd (j := 21 + 5 * l) (by omega) (by decide) 20
  obtain ⟨h2, e2, F2, A2⟩ := A1.sd (j := 23 + 5 * l) (by omega) (by decide) (nI q)
  obtain ⟨h3, e3, F3, A3⟩ := A2.sd (j := 24 + 5 * l) (by omega) (by decide) (sp_day S)
  obtain ⟨h4, e4, F4, A4⟩ := A3.sd (j := 4 * q) (by omega) (by decide) 0
  obtain ⟨h5, e5, F5, A5⟩ := A4.sd (j := 4 * q + 2) (by omega) (by decide) 1
  obtain ⟨h6, e6, F6, A6⟩ := A5.sd (j := 4 * q + 3) (by omega) (by decide) (sp_eatc S q + 1)
  have O1 := O.fr F1 (by omega)
  have O2 := O1.fr F2 (by omega)
  have O3 := O2.fr F3 (by omega)
  have O4 := O3.fr F4 (by omega)
  have O5 := O4.fr F5 (by omega)
  have O6 := O5.fr F6 (by omega)
  have i1 : (20 : Int32) + 5 * nI l + 1 = nI (21 + 5 * l) := by show nI 20 + 5 * nI l + nI 1 = _; rw [ix_l, nI_add]; congr 1; omega
  have i3 : (20 : Int32) + 5 * nI l + 3 = nI (23 + 5 * l) := by show nI 20 + 5 * nI l + nI 3 = _; rw [ix_l, nI_add]; congr 1; omega
  have i4 : (20 : Int32) + 5 * nI l + 4 = nI (24 + 5 * l) := by show nI 20 + 5 * nI l + nI 4 = _; rw [ix_l, nI_add]; congr 1; omega
  have j0 : (4 : Int32) * nI q = nI (4 * q) := pk_mul 4 q
  have j2 : (4 : Int32) * nI q + 2 = nI (4 * q + 2) := by rw [j0]; exact nI_add _ 2
  have j3 : (4 : Int32) * nI q + 3 = nI (4 * q + 3) := by rw [j0]; exact nI_add _ 3
  have ld : bn_ld h2 224 0 70 = some (sp_day S) := by
    have := A2.ld (j := 70) (by omega) (by decide)
    refine (show bn_ld h2 224 0 70 = _ from this).trans ?_
    unfold va_up
    rw [if_neg (by omega), if_neg (by omega), M.2.2]
  have le : bn_ld h5 224 0 (nI (4 * q + 3)) = some (sp_eatc S q) := by
    rw [A5.ld (by omega) (by decide)]
    unfold va_up
    rw [if_neg (by omega), if_neg (by omega), if_neg (by omega), if_neg (by omega), if_neg (by omega), (M.1 q hq).2.2.2]
  refine ⟨h6, ?_, ((((F1.tr F2).tr F3).tr F4).tr F5).tr F6, fi, _, O6, A6, R, ?_, ?_, ?_⟩
  · rw [bs_X3_eaten_0, mo_r6 O, i1, e1, Option.bind_some, mo_r6 O1, i3, e2, Option.bind_some, mo_r6 O2, mo_r6 O2, ld, Option.bind_some, i4, e3, Option.bind_some, mo_r6 O3, j2, j3, j0, e4, Option.bind_some, mo_r6 O4, e5, Option.bind_some, mo_r6 O5, le, Option.bind_some, e6, Option.bind_some]
  · intro p hp
    have hp : p < sp_people S := hp
    obtain ⟨m0, m1, m2, m3⟩ := M.1 p hp
    have alp : sp_al (sp_feed S q l) p = sp_al S p := by
      by_cases e : p = q
      · subst e
        rw [hal]
        unfold sp_al
        have : sp_fasted (sp_feed S p l) p = 0 := by show (if p = p then 0 else _) = _; rw [if_pos rfl]
        rw [this]
        exact decide_eq_true (Nat.zero_le _)
      · unfold sp_al
        have : sp_fasted (sp_feed S q l) p = sp_fasted S p := by show (if p = q then 0 else _) = _; rw [if_neg e]
        rw [this]
        rfl
    rw [alp]
    have f0 : sp_fasted (sp_feed S q l) p = if p = q then 0 else sp_fasted S p := rfl
    have f2 : sp_ate (sp_feed S q l) p = if p = q then 1 else sp_ate S p := rfl
    have f3 : sp_eatc (sp_feed S q l) p = if p = q then sp_eatc S q + 1 else sp_eatc S p := rfl
    rw [f0, f2, f3]
    unfold va_up
    by_cases e : p = q
    · subst e
      refine ⟨?_, ?_, ?_, ?_⟩
      · rw [if_neg (by omega), if_neg (by omega), if_pos rfl, if_pos rfl]; rfl
      · rw [if_neg (by omega), if_neg (by omega), if_neg (by omega), if_neg (by omega), if_neg (by omega), if_neg (by omega)]; exact m1
      · rw [if_neg (by omega), if_pos rfl, if_pos rfl]; rfl
      · rw [if_pos rfl, if_pos rfl]
    · rw [if_neg e, if_neg e, if_neg e]
      refine ⟨?_, ?_, ?_, ?_⟩
      all_goals rw [if_neg (by omega), if_neg (by omega), if_neg (by omega), if_neg (by omega), if_neg (by omega), if_neg (by omega)]
      · exact m0
      · exact m1
      · exact m2
      · exact m3
  · intro k hk
    have hk : k < sp_loaves S := hk
    obtain ⟨m0, m1, m2, m3, m4⟩ := M.2.1 k hk
    have f1 : sp_hold (sp_feed S q l) k = if k = l then 20 else sp_hold S k := rfl
    have f3 : sp_eater (sp_feed S q l) k = if k = l then nI q else sp_eater S k := rfl
    have f4 : sp_eon (sp_feed S q l) k = if k = l then sp_day S else sp_eon S k := rfl
    rw [f1, f3, f4]
    unfold va_up
    by_cases e : k = l
    · subst e
      refine ⟨?_, ?_, ?_, ?_, ?_⟩
      · rw [if_neg (by omega), if_neg (by omega), if_neg (by omega), if_neg (by omega), if_neg (by omega), if_neg (by omega)]; exact m0
      · rw [if_neg (by omega), if_neg (by omega), if_neg (by omega), if_neg (by omega), if_neg (by omega), if_pos rfl, if_pos rfl]; rfl
      · rw [if_neg (by omega), if_neg (by omega), if_neg (by omega), if_neg (by omega), if_neg (by omega), if_neg (by omega)]; exact m2
      · rw [if_neg (by omega), if_neg (by omega), if_neg (by omega), if_neg (by omega), if_pos rfl, if_pos rfl]
      · rw [if_neg (by omega), if_neg (by omega), if_neg (by omega), if_pos rfl, if_pos rfl]
    · rw [if_neg e, if_neg e, if_neg e]
      refine ⟨?_, ?_, ?_, ?_, ?_⟩
      all_goals rw [if_neg (by omega), if_neg (by omega), if_neg (by omega), if_neg (by omega), if_neg (by omega), if_neg (by omega)]
      · exact m0
      · exact m1
      · exact m2
      · exact m3
      · exact m4
  · unfold va_up
    rw [if_neg (by omega), if_neg (by omega), if_neg (by omega), if_neg (by omega), if_neg (by omega), if_neg (by omega)]
    exact M.2.2
