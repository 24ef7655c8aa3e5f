/-! ONE SIEGE BECOMES ANOTHER -/
def sp_w_fasted (S : sp_S) (f : Nat → Nat) : sp_S := (S.1, (S.2.1.1, S.2.1.2), (f, S.2.2.1.2.1, S.2.2.1.2.2), S.2.2.2.1, S.2.2.2.2.1, S.2.2.2.2.2.1, S.2.2.2.2.2.2.1, S.2.2.2.2.2.2.2)
theorem sg_c_fasted {h : bn_H} {p p' : Nat} {S S' : sp_S} (H : sg_G h p S) (H' : sg_G h p' S') : ∃ h1, bn_cp h (p' + 1) 0 (p + 1) 0 5 = some h1 ∧ sg_F (fun k => k = p + 1) h h1 ∧ sg_G h1 p (sp_w_fasted S (sp_fasted S')) := by
  obtain ⟨a0, a1, a2, a3, a4, a5, a6, a7, a8⟩ := H
  obtain ⟨b0, b1, b2, b3, b4, b5, b6, b7, b8⟩ := H'
  obtain ⟨h1, e1, F, A⟩ := b1.cp a1 (by decide)
  exact ⟨h1, e1, F, by rw [F.2.2.2 p (by omega)]; exact a0, A, a2.fr F (by omega), a3.fr F (by omega), a4.fr F (by omega), a5.fr F (by omega), a6.fr F (by omega), a7.fr F (by omega), a8.fr F (by omega)⟩
def sp_w_eatc (S : sp_S) (f : Nat → Int32) : sp_S := (S.1, (S.2.1.1, S.2.1.2), (S.2.2.1.1, S.2.2.1.2.1, f), S.2.2.2.1, S.2.2.2.2.1, S.2.2.2.2.2.1, S.2.2.2.2.2.2.1, S.2.2.2.2.2.2.2)
theorem sg_c_eatc {h : bn_H} {p p' : Nat} {S S' : sp_S} (H : sg_G h p S) (H' : sg_G h p' S') : ∃ h1, bn_cp h (p' + 3) 0 (p + 3) 0 5 = some h1 ∧ sg_F (fun k => k = p + 3) h h1 ∧ sg_G h1 p (sp_w_eatc S (sp_eatc S')) := by
  obtain ⟨a0, a1, a2, a3, a4, a5, a6, a7, a8⟩ := H
  obtain ⟨b0, b1, b2, b3, b4, b5, b6, b7, b8⟩ := H'
  obtain ⟨h1, e1, F, A⟩ := b3.cp a3 (by decide)
  exact ⟨h1, e1, F, by rw [F.2.2.2 p (by omega)]; exact a0, a1.fr F (by omega), a2.fr F (by omega), A, a4.fr F (by omega), a5.fr F (by omega), a6.fr F (by omega), a7.fr F (by omega), a8.fr F (by omega)⟩
def sp_w_num (S : sp_S) (f : Nat → Nat) : sp_S := (S.1, (S.2.1.1, S.2.1.2), (S.2.2.1.1, S.2.2.1.2.1, S.2.2.1.2.2), f, S.2.2.2.2.1, S.2.2.2.2.2.1, S.2.2.2.2.2.2.1, S.2.2.2.2.2.2.2)
theorem sg_c_num {h : bn_H} {p p' : Nat} {S S' : sp_S} (H : sg_G h p S) (H' : sg_G h p' S') : ∃ h1, bn_cp h (p' + 4) 0 (p + 4) 0 10 = some h1 ∧ sg_F (fun k => k = p + 4) h h1 ∧ sg_G h1 p (sp_w_num S (sp_num S')) := by
  obtain ⟨a0, a1, a2, a3, a4, a5, a6, a7, a8⟩ := H
  obtain ⟨b0, b1, b2, b3, b4, b5, b6, b7, b8⟩ := H'
  obtain ⟨h1, e1, F, A⟩ := b4.cp a4 (by decide)
  exact ⟨h1, e1, F, by rw [F.2.2.2 p (by omega)]; exact a0, a1.fr F (by omega), a2.fr F (by omega), a3.fr F (by omega), A, a5.fr F (by omega), a6.fr F (by omega), a7.fr F (by omega), a8.fr F (by omega)⟩
def sp_w_hold (S : sp_S) (f : Nat → Nat) : sp_S := (S.1, (S.2.1.1, S.2.1.2), (S.2.2.1.1, S.2.2.1.2.1, S.2.2.1.2.2), S.2.2.2.1, f, S.2.2.2.2.2.1, S.2.2.2.2.2.2.1, S.2.2.2.2.2.2.2)
theorem sg_c_hold {h : bn_H} {p p' : Nat} {S S' : sp_S} (H : sg_G h p S) (H' : sg_G h p' S') : ∃ h1, bn_cp h (p' + 5) 0 (p + 5) 0 10 = some h1 ∧ sg_F (fun k => k = p + 5) h h1 ∧ sg_G h1 p (sp_w_hold S (sp_hold S')) := by
  obtain ⟨a0, a1, a2, a3, a4, a5, a6, a7, a8⟩ := H
  obtain ⟨b0, b1, b2, b3, b4, b5, b6, b7, b8⟩ := H'
  obtain ⟨h1, e1, F, A⟩ := b5.cp a5 (by decide)
  exact ⟨h1, e1, F, by rw [F.2.2.2 p (by omega)]; exact a0, a1.fr F (by omega), a2.fr F (by omega), a3.fr F (by omega), a4.fr F (by omega), A, a6.fr F (by omega), a7.fr F (by omega), a8.fr F (by omega)⟩
def sp_w_age (S : sp_S) (f : Nat → Nat) : sp_S := (S.1, (S.2.1.1, S.2.1.2), (S.2.2.1.1, S.2.2.1.2.1, S.2.2.1.2.2), S.2.2.2.1, S.2.2.2.2.1, f, S.2.2.2.2.2.2.1, S.2.2.2.2.2.2.2)
theorem sg_c_age {h : bn_H} {p p' : Nat} {S S' : sp_S} (H : sg_G h p S) (H' : sg_G h p' S') : ∃ h1, bn_cp h (p' + 6) 0 (p + 6) 0 10 = some h1 ∧ sg_F (fun k => k = p + 6) h h1 ∧ sg_G h1 p (sp_w_age S (sp_age S')) := by
  obtain ⟨a0, a1, a2, a3, a4, a5, a6, a7, a8⟩ := H
  obtain ⟨b0, b1, b2, b3, b4, b5, b6, b7, b8⟩ := H'
  obtain ⟨h1, e1, F, A⟩ := b6.cp a6 (by decide)
  exact ⟨h1, e1, F, by rw [F.2.2.2 p (by omega)]; exact a0, a1.fr F (by omega), a2.fr F (by omega), a3.fr F (by omega), a4.fr F (by omega), a5.fr F (by omega), A, a7.fr F (by omega), a8.fr F (by omega)⟩
def sp_w_eater (S : sp_S) (f : Nat → Int32) : sp_S := (S.1, (S.2.1.1, S.2.1.2), (S.2.2.1.1, S.2.2.1.2.1, S.2.2.1.2.2), S.2.2.2.1, S.2.2.2.2.1, S.2.2.2.2.2.1, f, S.2.2.2.2.2.2.2)
theorem sg_c_eater {h : bn_H} {p p' : Nat} {S S' : sp_S} (H : sg_G h p S) (H' : sg_G h p' S') : ∃ h1, bn_cp h (p' + 7) 0 (p + 7) 0 10 = some h1 ∧ sg_F (fun k => k = p + 7) h h1 ∧ sg_G h1 p (sp_w_eater S (sp_eater S')) := by
  obtain ⟨a0, a1, a2, a3, a4, a5, a6, a7, a8⟩ := H
  obtain ⟨b0, b1, b2, b3, b4, b5, b6, b7, b8⟩ := H'
  obtain ⟨h1, e1, F, A⟩ := b7.cp a7 (by decide)
  exact ⟨h1, e1, F, by rw [F.2.2.2 p (by omega)]; exact a0, a1.fr F (by omega), a2.fr F (by omega), a3.fr F (by omega), a4.fr F (by omega), a5.fr F (by omega), a6.fr F (by omega), A, a8.fr F (by omega)⟩
def sp_w_eon (S : sp_S) (f : Nat → Int32) : sp_S := (S.1, (S.2.1.1, S.2.1.2), (S.2.2.1.1, S.2.2.1.2.1, S.2.2.1.2.2), S.2.2.2.1, S.2.2.2.2.1, S.2.2.2.2.2.1, S.2.2.2.2.2.2.1, f)
theorem sg_c_eon {h : bn_H} {p p' : Nat} {S S' : sp_S} (H : sg_G h p S) (H' : sg_G h p' S') : ∃ h1, bn_cp h (p' + 8) 0 (p + 8) 0 10 = some h1 ∧ sg_F (fun k => k = p + 8) h h1 ∧ sg_G h1 p (sp_w_eon S (sp_eon S')) := by
  obtain ⟨a0, a1, a2, a3, a4, a5, a6, a7, a8⟩ := H
  obtain ⟨b0, b1, b2, b3, b4, b5, b6, b7, b8⟩ := H'
  obtain ⟨h1, e1, F, A⟩ := b8.cp a8 (by decide)
  exact ⟨h1, e1, F, by rw [F.2.2.2 p (by omega)]; exact a0, a1.fr F (by omega), a2.fr F (by omega), a3.fr F (by omega), a4.fr F (by omega), a5.fr F (by omega), a6.fr F (by omega), a7.fr F (by omega), A⟩
def sp_w_ate (S : sp_S) (f : Nat → Nat) : sp_S := (S.1, (S.2.1.1, S.2.1.2), (S.2.2.1.1, f, S.2.2.1.2.2), S.2.2.2.1, S.2.2.2.2.1, S.2.2.2.2.2.1, S.2.2.2.2.2.2.1, S.2.2.2.2.2.2.2)
theorem nar_01 {a : Nat} (h : a ≤ 1) : vp_nar .boolean (nI a) = nI a := by
  rcases (show a = 0 ∨ a = 1 by omega) with rfl | rfl
  · exact nar_0
  · exact nar_1
theorem sq_becomes {h : bn_H} {p p' : Nat} {S S' : sp_S} (H : sg_G h p S) (H' : sg_G h p' S') (B' : sp_B S') (hd : p + 8 < p' ∨ p' + 8 < p) : ∃ h', bn_ev 4 0 [some (.ref p), some (.ref p'), none] [] h = some (none, h') ∧ sg_F (sp_P p) h h' ∧ sg_G h' p S' := by
  obtain ⟨-, -, -, -, -, -, b_at, -, -, -⟩ := id B'
  have mm : ∀ {P : Nat → Prop} {a b : bn_H}, sg_F P a b → (∀ k, P k → sp_P p k) → sg_G a p' S' → sg_G b p' S' := fun F hP G => G.fr F (fun k h1 h2 hk => by have := hP k hk; unfold sp_P at this; omega)
  obtain ⟨h1, e1, F1, H1⟩ := sg_s_law H (sp_law S')
  have m1 : ∀ k, _ → sp_P p k := fun k (hk : k = p) => by unfold sp_P; omega
  have H'1 := mm F1 m1 H'
  obtain ⟨h2, e2, F2, H2⟩ := sg_s_lives H1 (sp_lives S')
  have m2 : ∀ k, _ → sp_P p k := fun k (hk : k = p) => by unfold sp_P; omega
  have H'2 := mm F2 m2 H'1
  obtain ⟨h3, e3, F3, H3⟩ := sg_s_badAt H2 (sp_badAt S')
  have m3 : ∀ k, _ → sp_P p k := fun k (hk : k = p) => by unfold sp_P; omega
  have H'3 := mm F3 m3 H'2
  obtain ⟨h4, e4, F4, H4⟩ := sg_s_day H3 (sp_day S')
  have m4 : ∀ k, _ → sp_P p k := fun k (hk : k = p) => by unfold sp_P; omega
  have H'4 := mm F4 m4 H'3
  obtain ⟨h5, e5, F5, H5⟩ := sg_s_seed H4 (sp_seed S')
  have m5 : ∀ k, _ → sp_P p k := fun k (hk : k = p) => by unfold sp_P; omega
  have H'5 := mm F5 m5 H'4
  obtain ⟨h6, e6, F6, H6⟩ := sg_s_people H5 (sp_people S')
  have m6 : ∀ k, _ → sp_P p k := fun k (hk : k = p) => by unfold sp_P; omega
  have H'6 := mm F6 m6 H'5
  obtain ⟨h7, e7, F7, H7⟩ := sg_c_fasted H6 H'6
  have m7 : ∀ k, _ → sp_P p k := fun k (hk : k = p + 1) => by unfold sp_P; omega
  have H'7 := mm F7 m7 H'6
  obtain ⟨h8, e8, F8, H8⟩ := sg_c_eatc H7 H'7
  have m8 : ∀ k, _ → sp_P p k := fun k (hk : k = p + 3) => by unfold sp_P; omega
  have H'8 := mm F8 m8 H'7
  have key : ∀ r i (g : bn_H) (T : sp_S), i + r = 5 → sg_G g p T → sg_G g p' S' → (∀ k, k < i → sp_ate T k = sp_ate S' k) → ∃ g', bn_ev 4 78 [some (.ref p), some (.ref p'), some (.int (nI i))] [] g = bn_ev 4 78 [some (.ref p), some (.ref p'), some (.int (nI 5))] [] g' ∧ sg_F (sp_P p) g g' ∧ sg_G g' p (sp_w_ate T (sp_ate S')) ∧ sg_G g' p' S' := by
    intro r
    induction r with
    | zero =>
      intro i g T hi G G' hT
      refine ⟨g, by rw [show i = 5 by omega], sg_F.rf, ?_, G'⟩
      obtain ⟨a0, a1, a2, a3, a4, a5, a6, a7, a8⟩ := G
      exact ⟨a0, a1, a2.cg (fun j hj => by rw [hT j (by omega)]; rfl), a3, a4, a5, a6, a7, a8⟩
    | succ r ih =>
      intro i g T hi G G' hT
      have h5 : i < 5 := by omega
      obtain ⟨g1, e1, F1, G1⟩ := sg_s_ate G h5 (sp_ate S' i)
      have m1 : ∀ k, _ → sp_P p k := fun k (hk : k = p + 2) => by unfold sp_P; omega
      obtain ⟨g', q1, q2, q3, q4⟩ := ih (i + 1) g1 _ (by omega) G1 (mm F1 m1 G') (fun k hk => by
        show (if k = i then sp_ate S' i else sp_ate T k) = _
        by_cases q : k = i
        · rw [if_pos q, q]
        · rw [if_neg q]; exact hT k (by omega))
      refine ⟨g', ?_, (F1.mono m1).tr q2, q3, q4⟩
      rw [bs_X0_becomes_78, if_neg (show ¬ (5 : Int32) ≤ nI i from nI_ge (b := 5) h5 (by decide)), sg_r2 G, sg_r2 G', sg_l_ate G' h5, Option.bind_some, nar_01 (b_at i), e1, Option.bind_some, ← nI_succ]
      exact q1
  obtain ⟨g, eg, Fg, Hg, H'g⟩ := key 5 0 h8 _ (by omega) H8 H'8 (fun k hk => by omega)
  obtain ⟨h9, e9, F9, H9⟩ := sg_s_loaves Hg (sp_loaves S')
  have m9 : ∀ k, _ → sp_P p k := fun k (hk : k = p) => by unfold sp_P; omega
  have H'9 := mm F9 m9 H'g
  obtain ⟨h10, e10, F10, H10⟩ := sg_c_num H9 H'9
  have m10 : ∀ k, _ → sp_P p k := fun k (hk : k = p + 4) => by unfold sp_P; omega
  have H'10 := mm F10 m10 H'9
  obtain ⟨h11, e11, F11, H11⟩ := sg_c_hold H10 H'10
  have m11 : ∀ k, _ → sp_P p k := fun k (hk : k = p + 5) => by unfold sp_P; omega
  have H'11 := mm F11 m11 H'10
  obtain ⟨h12, e12, F12, H12⟩ := sg_c_age H11 H'11
  have m12 : ∀ k, _ → sp_P p k := fun k (hk : k = p + 6) => by unfold sp_P; omega
  have H'12 := mm F12 m12 H'11
  obtain ⟨h13, e13, F13, H13⟩ := sg_c_eater H12 H'12
  have m13 : ∀ k, _ → sp_P p k := fun k (hk : k = p + 7) => by unfold sp_P; omega
  have H'13 := mm F13 m13 H'12
  obtain ⟨h14, e14, F14, H14⟩ := sg_c_eon H13 H'13
  have m14 : ∀ k, _ → sp_P p k := fun k (hk : k = p + 8) => by unfold sp_P; omega
  have H'14 := mm F14 m14 H'13
  refine ⟨h14, ?_, ?_, H14⟩
  · rw [bs_X0_becomes_0]
    simp only [sg_law H', e1, sg_lives H'1, e2, sg_badAt H'2, e3, sg_day H'3, e4, sg_seed H'4, e5, sg_people H'5, e6, sg_r1 H'6, sg_r1 H6, e7, sg_r3 H'7, sg_r3 H7, e8, Option.bind_some]
    refine eg.trans ?_
    rw [bs_X0_becomes_78, if_pos (show (5 : Int32) ≤ nI 5 from Int32.le_refl _)]
    simp only [sg_loaves H'g, e9, sg_r4 H'9, sg_r4 H9, e10, sg_r5 H'10, sg_r5 H10, e11, sg_r6 H'11, sg_r6 H11, e12, sg_r7 H'12, sg_r7 H12, e13, sg_r8 H'13, sg_r8 H13, e14, Option.bind_some]
  · exact ((((((((((((((F1.mono m1).tr (F2.mono m2)).tr (F3.mono m3)).tr (F4.mono m4)).tr (F5.mono m5)).tr (F6.mono m6)).tr (F7.mono m7)).tr (F8.mono m8)).tr Fg).tr (F9.mono m9)).tr (F10.mono m10)).tr (F11.mono m11)).tr (F12.mono m12)).tr (F13.mono m13)).tr (F14.mono m14)
