/-! WHAT THE MODEL ANSWERS, further; a store into now -/
section MN
variable {h : bn_H} {S : sp_S}
theorem mq_loaf (H : mg h S) (B : sp_B S) (a1 a2 : Int32) : bn_ev 93 0 [some (.ref 222), some (.int a1), some (.int a2)] [] h = some (some (.int (ca_loaf S a1 a2)), h) := by
  obtain ⟨b_law, ⟨b_l1, b_lv⟩, ⟨b_b1, b_bd⟩, b_pp, b_lo, b_fa, b_at, b_nu, b_ho, b_ag⟩ := id B
  rw [bs_X3_loaf_0, mg_C H, mq_isLoaf H B]
  simp only [bn_gd, bn_cI, if_true, sp_b_eq0]
  unfold ca_loaf
  cases hi : sp_in a1 (sp_loaves S) with
  | false => rfl
  | true =>
    obtain ⟨j, hj, rfl⟩ := sp_in_nI hi (by omega)
    obtain ⟨m0, m1, m2, m3, m4⟩ := mg_l H B hj
    have i0 : (20 : Int32) + 5 * nI j + 0 = 20 + 5 * nI j := by simp
    have ix : ∀ a k : Nat, nI a + 5 * nI j + nI k = nI (a + 5 * j + k) := fun a k => by rw [ix_l, nI_add]
    have m0' : bn_ld h 224 0 (20 + 5 * nI j + 0) = some (nI (sp_num S j)) := by rw [i0]; exact m0
    have m1' : bn_ld h 224 0 (20 + 5 * nI j + 1) = some (nI (sp_hold S j)) := by
      rw [show (20 : Int32) + 5 * nI j + 1 = 21 + 5 * nI j from by
        show nI 20 + 5 * nI j + nI 1 = nI 21 + 5 * nI j
        rw [ix, ix_l]
        congr 1
        omega]
      exact m1
    have m2' : bn_ld h 224 0 (20 + 5 * nI j + 2) = some (nI (sp_age S j)) := by
      rw [show (20 : Int32) + 5 * nI j + 2 = 22 + 5 * nI j from by
        show nI 20 + 5 * nI j + nI 2 = nI 22 + 5 * nI j
        rw [ix, ix_l]
        congr 1
        omega]
      exact m2
    have m3' : bn_ld h 224 0 (19 + 5 * nI j + 4) = some (sp_eater S j) := by
      rw [show (19 : Int32) + 5 * nI j + 4 = nI (23 + 5 * j) from by
        show nI 19 + 5 * nI j + nI 4 = _
        rw [ix]
        congr 1
        omega]
      exact m3
    have m4' : bn_ld h 224 0 (19 + 5 * nI j + 5) = some (sp_eon S j) := by
      rw [show (19 : Int32) + 5 * nI j + 5 = nI (24 + 5 * j) from by
        show nI 19 + 5 * nI j + nI 5 = _
        rw [ix]
        congr 1
        omega]
      exact m4
    simp only [nI_clamp (show j < 2 ^ 31 by omega), Bool.true_eq_false, if_false, if_true, bs_X3_loaf_48, bs_X3_loaf_76, mg_now H, mg_C H, mq_isBad H B hj, sp_bb]
    by_cases z0 : a2 = 0
    · subst z0
      simp only [if_true, m0', Option.bind_some]
    · by_cases z1 : a2 = 1
      · subst z1
        simp only [if_neg z0, if_true, m1', Option.bind_some]
      · by_cases z2 : a2 = 2
        · subst z2
          simp only [if_neg z0, if_neg z1, if_true, m2', Option.bind_some]
        · by_cases z3 : a2 = 3
          · simp only [if_neg z0, if_neg z1, if_neg z2, if_pos z3]
          · by_cases z4 : a2 = 4
            · subst z4
              simp only [if_neg z0, if_neg z1, if_neg z2, if_neg z3, if_true, m3', Option.bind_some]
            · by_cases z5 : a2 = 5
              · subst z5
                simp only [if_neg z0, if_neg z1, if_neg z2, if_neg z3, if_neg z4, if_true, m4', Option.bind_some]
              · simp only [if_neg z0, if_neg z1, if_neg z2, if_neg z3, if_neg z4, if_neg z5]
theorem mq_may (H : mg h S) (B : sp_B S) (a1 a2 : Int32) : bn_ev 96 0 [some (.ref 222), some (.int a1), some (.int a2)] [] h = some (some (.int (ca_may S a1 a2)), h) := by
  obtain ⟨b_law, ⟨b_l1, b_lv⟩, ⟨b_b1, b_bd⟩, b_pp, b_lo, b_fa, b_at, b_nu, b_ho, b_ag⟩ := id B
  rw [bs_X3_may_0]
  simp only [mg_C H, mq_isPerson H B, mq_isLoaf H B, bn_gd, bn_cI, if_true, sp_b_eq0]
  unfold ca_may
  cases hi : sp_in a1 (sp_people S) with
  | false => rfl
  | true =>
    cases hk : sp_in a2 (sp_loaves S) with
    | false => rfl
    | true =>
      obtain ⟨j, hj, rfl⟩ := sp_in_nI hi (by omega)
      obtain ⟨l, hl, rfl⟩ := sp_in_nI hk (by omega)
      simp only [nI_clamp (show j < 2 ^ 31 by omega), nI_clamp (show l < 2 ^ 31 by omega), mq_mayEat H B hj hl, sp_bb, Bool.true_eq_false, if_false, if_true]
/-- a store into now -/
theorem mg_st {T : sp_S} {k : Nat} {x : Int32} (H : mg h S) (hk : k < 71) (h1 : T.1 = S.1) (hs : sp_seed T = sp_seed S) (hN : ∀ N, mn_R S N → mn_R T (va_up N k x)) : ∃ h', bn_sd h 224 0 (nI k) x = some h' ∧ sg_F (fun q => q = 224) h h' ∧ mg h' T := by
  obtain ⟨fi, N, O, A, R, M⟩ := H
  obtain ⟨h', e, F, A'⟩ := A.sd hk (by decide) x
  refine ⟨h', e, F, fi, va_up N k x, ?_, A', ?_, hN N M⟩
  · rw [hs]
    exact O.fr F (by omega)
  · unfold mr_R at R ⊢
    rw [show sp_law T = sp_law S from congrArg (fun z => z.1) h1, show sp_lives T = sp_lives S from congrArg (fun z => z.2.1) h1, show sp_badAt T = sp_badAt S from congrArg (fun z => z.2.2.1) h1, show sp_people T = sp_people S from congrArg (fun z => z.2.2.2.1) h1, show sp_loaves T = sp_loaves S from congrArg (fun z => z.2.2.2.2) h1]
    exact R
end MN
