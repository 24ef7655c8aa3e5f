/-! A SIEGE IS TOLD; the people eat as it is -/
def sp_begin (S : sp_S) (a b c : Nat) : sp_S := sp_u_loaves (sp_u_people (sp_u_day (sp_u_badAt (sp_u_lives (sp_u_law S a) b) c) 0) 0) 0
theorem sq_begin {h : bn_H} {p : Nat} {S : sp_S} (H : sg_G h p S) (a b c : Nat) : ∃ h', bn_ev 1 0 [some (.ref p), some (.int (nI a)), some (.int (nI b)), some (.int (nI c))] [] h = some (none, h') ∧ sg_F (sp_P p) h h' ∧ sg_G h' p (sp_begin S a b c) := by
  obtain ⟨h1, e1, F1, H1⟩ := sg_s_law H a
  obtain ⟨h2, e2, F2, H2⟩ := sg_s_lives H1 b
  obtain ⟨h3, e3, F3, H3⟩ := sg_s_badAt H2 c
  obtain ⟨h4, e4, F4, H4⟩ := sg_s_day H3 0
  obtain ⟨h5, e5, F5, H5⟩ := sg_s_people H4 0
  obtain ⟨h6, e6, F6, H6⟩ := sg_s_loaves H5 0
  have e5 : bn_pf h4 p 0 5 (.int 0) = some h5 := e5
  have e6 : bn_pf h5 p 0 9 (.int 0) = some h6 := e6
  have m : ∀ k, k = p → sp_P p k := fun k hk => by unfold sp_P; omega
  refine ⟨h6, ?_, ((((((F1.mono m).tr (F2.mono m)).tr (F3.mono m)).tr (F4.mono m)).tr (F5.mono m)).tr (F6.mono m)), H6⟩
  rw [bs_X0_begin_0, e1, Option.bind_some, e2, Option.bind_some, e3, Option.bind_some, e4, Option.bind_some, e5, Option.bind_some, e6, Option.bind_some]
def sp_addP (S : sp_S) (f : Nat) : sp_S := sp_u_people (sp_u_eatc (sp_u_ate (sp_u_fasted S (sp_people S) f) (sp_people S) 0) (sp_people S) 0) (sp_people S + 1)
theorem sq_addPerson {h : bn_H} {p : Nat} {S : sp_S} (H : sg_G h p S) (hp : sp_people S < 5) (f : Nat) : ∃ h', bn_ev 2 0 [some (.ref p), some (.int (nI f))] [] h = some (none, h') ∧ sg_F (sp_P p) h h' ∧ sg_G h' p (sp_addP S f) := by
  obtain ⟨h1, e1, F1, H1⟩ := sg_s_fasted H hp f
  obtain ⟨h2, e2, F2, H2⟩ := sg_s_ate H1 hp 0
  obtain ⟨h3, e3, F3, H3⟩ := sg_s_eatc H2 hp 0
  obtain ⟨h4, e4, F4, H4⟩ := sg_s_people H3 (sp_people S + 1)
  have p1 : ∀ K, bn_gI h1 p 0 5 K = K (nI (sp_people S)) := fun K => sg_people H1
  have p2 : ∀ K, bn_gI h2 p 0 5 K = K (nI (sp_people S)) := fun K => sg_people H2
  have p3 : ∀ K, bn_gI h3 p 0 5 K = K (nI (sp_people S)) := fun K => sg_people H3
  have m : ∀ j, j ≤ 8 → ∀ k, k = p + j → sp_P p k := fun j hj k hk => by unfold sp_P; omega
  refine ⟨h4, ?_, (((F1.mono (m 1 (by omega))).tr (F2.mono (m 2 (by omega)))).tr (F3.mono (m 3 (by omega)))).tr (F4.mono (m 0 (by omega))), H4⟩
  rw [bs_X0_addPerson_0, sg_people H, if_neg (show ¬ (5 : Int32) ≤ nI (sp_people S) from nI_ge (b := 5) hp (by decide))]
  simp only [sg_r1 H, sg_people H, e1, Option.bind_some, sg_r2 H1, p1, nar_0, e2, sg_r3 H2, p2, e3, p3, ← nI_succ, e4]
def sp_addL (S : sp_S) (n q a : Nat) : sp_S := sp_u_loaves (sp_u_eon (sp_u_eater (sp_u_age (sp_u_hold (sp_u_num S (sp_loaves S) n) (sp_loaves S) q) (sp_loaves S) a) (sp_loaves S) (-9)) (sp_loaves S) (-9)) (sp_loaves S + 1)
theorem sq_addLoaf {h : bn_H} {p : Nat} {S : sp_S} (H : sg_G h p S) (hp : sp_loaves S < 10) (n q a : Nat) : ∃ h', bn_ev 3 0 [some (.ref p), some (.int (nI n)), some (.int (nI q)), some (.int (nI a))] [] h = some (none, h') ∧ sg_F (sp_P p) h h' ∧ sg_G h' p (sp_addL S n q a) := by
  obtain ⟨h1, e1, F1, H1⟩ := sg_s_num H hp n
  obtain ⟨h2, e2, F2, H2⟩ := sg_s_hold H1 hp q
  obtain ⟨h3, e3, F3, H3⟩ := sg_s_age H2 hp a
  obtain ⟨h4, e4, F4, H4⟩ := sg_s_eater H3 hp (-9)
  obtain ⟨h5, e5, F5, H5⟩ := sg_s_eon H4 hp (-9)
  obtain ⟨h6, e6, F6, H6⟩ := sg_s_loaves H5 (sp_loaves S + 1)
  have p1 : ∀ K, bn_gI h1 p 0 9 K = K (nI (sp_loaves S)) := fun K => sg_loaves H1
  have p2 : ∀ K, bn_gI h2 p 0 9 K = K (nI (sp_loaves S)) := fun K => sg_loaves H2
  have p3 : ∀ K, bn_gI h3 p 0 9 K = K (nI (sp_loaves S)) := fun K => sg_loaves H3
  have p4 : ∀ K, bn_gI h4 p 0 9 K = K (nI (sp_loaves S)) := fun K => sg_loaves H4
  have p5 : ∀ K, bn_gI h5 p 0 9 K = K (nI (sp_loaves S)) := fun K => sg_loaves H5
  have m : ∀ j, j ≤ 8 → ∀ k, k = p + j → sp_P p k := fun j hj k hk => by unfold sp_P; omega
  refine ⟨h6, ?_, (((((F1.mono (m 4 (by omega))).tr (F2.mono (m 5 (by omega)))).tr (F3.mono (m 6 (by omega)))).tr (F4.mono (m 7 (by omega)))).tr (F5.mono (m 8 (by omega)))).tr (F6.mono (m 0 (by omega))), H6⟩
  rw [bs_X0_addLoaf_0, sg_loaves H, if_neg (show ¬ (10 : Int32) ≤ nI (sp_loaves S) from nI_ge (b := 10) hp (by decide))]
  simp only [sg_r4 H, sg_loaves H, e1, Option.bind_some, sg_r5 H1, p1, e2, sg_r6 H2, p2, e3, sg_r7 H3, p3, e4, sg_r8 H4, p4, e5, p5, ← nI_succ, e6]
/-- person i eats -/
def sp_gea (i : Nat) (S : sp_S) : sp_S := match sp_least S i with
  | none => S
  | some l => sp_feed S i l
def sp_eat (S : sp_S) : sp_S := sp_fold sp_gea (sp_people S) 0 S
theorem sp_gea_1 (i : Nat) (S : sp_S) : (sp_gea i S).1 = S.1 := by
  unfold sp_gea
  split <;> rfl
theorem sp_gea_B {S : sp_S} (B : sp_B S) (i : Nat) : sp_B (sp_gea i S) := by
  unfold sp_gea
  split
  · exact B
  · exact sp_feed_B B _ _
theorem sq_eatAsItIs {h : bn_H} {p : Nat} {S : sp_S} (H : sg_G h p S) (B : sp_B S) : ∃ h', bn_ev 27 0 [some (.ref p), none, none] [] h = some (none, h') ∧ sg_F (sp_P p) h h' ∧ sg_G h' p (sp_eat S) ∧ sp_B (sp_eat S) ∧ (sp_eat S).1 = S.1 := by
  have key : ∀ r i o (h : bn_H) (T : sp_S), i + r = sp_people T → sg_G h p T → sp_B T → ∃ h', bn_ev 27 2 [some (.ref p), some (.int (nI i)), o] [] h = some (none, h') ∧ sg_F (sp_P p) h h' ∧ sg_G h' p (sp_fold sp_gea r i T) ∧ sp_B (sp_fold sp_gea r i T) ∧ (sp_fold sp_gea r i T).1 = T.1 := by
    intro r
    induction r with
    | zero =>
      intro i o h T hi H B
      obtain ⟨b_law, ⟨b_l1, b_lv⟩, ⟨b_b1, b_bd⟩, b_pp, b_lo, b_fa, b_at, b_nu, b_ho, b_ag⟩ := id B
      refine ⟨h, ?_, sg_F.rf, H, B, rfl⟩
      rw [bs_X0_eatAsItIs_2, sg_people H, if_pos (nI_le (by omega) (by omega))]
    | succ r ih =>
      intro i o h T hi H B
      obtain ⟨b_law, ⟨b_l1, b_lv⟩, ⟨b_b1, b_bd⟩, b_pp, b_lo, b_fa, b_at, b_nu, b_ho, b_ag⟩ := id B
      have h5 : i < 5 := by omega
      obtain ⟨hl, hb⟩ := sq_least H B h5
      have fs : sp_fold sp_gea (r + 1) i T = sp_fold sp_gea r (i + 1) (sp_gea i T) := rfl
      rw [bs_X0_eatAsItIs_2, sg_people H, if_neg (nI_ge (by omega) (by omega)), sg_isC H, hl, fs, ← nI_succ]
      simp only [bn_gd, bn_cI, if_true]
      cases hs : sp_least T i with
      | none =>
        have e : sp_gea i T = T := by unfold sp_gea; rw [hs]
        obtain ⟨h', g1, g2, g3, g4, g5⟩ := ih (i + 1) (some (.int (-9))) h T (by omega) H B
        rw [e]
        refine ⟨h', ?_, g2, g3, g4, g5⟩
        rw [if_pos (by decide)]
        exact g1
      | some l =>
        have e : sp_gea i T = sp_feed T i l := by unfold sp_gea; rw [hs]
        have hl10 := hb l hs
        obtain ⟨h1, e1, F1, H1⟩ := sq_feed H h5 (show l < 10 by omega)
        obtain ⟨h', g1, g2, g3, g4, g5⟩ := ih (i + 1) (some (.int (nI l))) h1 (sp_feed T i l) (by show i + 1 + r = sp_people T; omega) H1 (sp_feed_B B _ _)
        rw [e]
        refine ⟨h', ?_, F1.tr g2, g3, g4, g5⟩
        have e9 : sp_o (some l) = nI l := rfl
        rw [e9, if_neg (nI_pos (by omega)), sg_isC H, if_pos rfl, e1]
        simp only [bn_cV]
        exact g1
  rw [bs_X0_eatAsItIs_0]
  exact key (sp_people S) 0 none h S (by omega) H B
