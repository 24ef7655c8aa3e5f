/-! A DAY GOES BY; the people eat as it is -/
def sp_hung (S : sp_S) (i : Nat) : Bool := sp_al S i && decide (sp_ate S i = 0)
def sp_dies (S : sp_S) (i : Nat) : Bool := sp_hung S i && decide (sp_lives S < sp_fasted S i + 1)
/-- behind the first i people -/
def sp_pp (S : sp_S) (i : Nat) : sp_S := (S.1, (sp_day S, sp_seed S), (fun k => if k < i ∧ sp_hung S k = true then sp_fasted S k + 1 else sp_fasted S k, fun k => if k < i then 0 else sp_ate S k, sp_eatc S), sp_num S, fun l => if l < sp_loaves S ∧ sp_hold S l < i ∧ sp_dies S (sp_hold S l) = true then 10 else sp_hold S l, sp_age S, sp_eater S, sp_eon S)
/-- behind the first i loaves -/
def sp_pl (S : sp_S) (i : Nat) : sp_S := (S.1, (sp_day S, sp_seed S), (sp_fasted S, sp_ate S, sp_eatc S), sp_num S, sp_hold S, fun l => if l < i ∧ ¬ sp_hold S l = 20 then (if 99 < sp_age S l + 1 then 99 else sp_age S l + 1) else sp_age S l, sp_eater S, sp_eon S)
def sp_pass (S : sp_S) : sp_S := sp_u_day (sp_pl (sp_pp S (sp_people S)) (sp_loaves S)) (sp_day S + 1)
def sp_died (S : sp_S) : Int32 := sp_bits (sp_dies S) (sp_people S)
def sp_leave (S : sp_S) (q i : Nat) : sp_S := (S.1, (sp_day S, sp_seed S), (sp_fasted S, sp_ate S, sp_eatc S), sp_num S, fun l => if l < i ∧ sp_hold S l = q then 10 else sp_hold S l, sp_age S, sp_eater S, sp_eon S)
theorem sp_ext {S T : sp_S} (h1 : S.1 = T.1) (h2 : S.2.1 = T.2.1) (h3 : ∀ k, sp_fasted S k = sp_fasted T k) (h4 : ∀ k, sp_ate S k = sp_ate T k) (h5 : ∀ k, sp_eatc S k = sp_eatc T k) (h6 : ∀ k, sp_num S k = sp_num T k) (h7 : ∀ k, sp_hold S k = sp_hold T k) (h8 : ∀ k, sp_age S k = sp_age T k) (h9 : ∀ k, sp_eater S k = sp_eater T k) (h10 : ∀ k, sp_eon S k = sp_eon T k) : S = T := by
  obtain ⟨a, b, ⟨c1, c2, c3⟩, d, e, f, g, i⟩ := S
  obtain ⟨a', b', ⟨c1', c2', c3'⟩, d', e', f', g', i'⟩ := T
  dsimp only at *
  rw [h1, h2, show c1 = c1' from funext h3, show c2 = c2' from funext h4, show c3 = c3' from funext h5, show d = d' from funext h6, show e = e' from funext h7, show f = f' from funext h8, show g = g' from funext h9, show i = i' from funext h10]
theorem sp_leave_B {S : sp_S} (B : sp_B S) (q i : Nat) : sp_B (sp_leave S q i) := by
  obtain ⟨b_law, ⟨b_l1, b_lv⟩, ⟨b_b1, b_bd⟩, b_pp, b_lo, b_fa, b_at, b_nu, b_ho, b_ag⟩ := id B
  refine ⟨b_law, ⟨b_l1, b_lv⟩, ⟨b_b1, b_bd⟩, b_pp, b_lo, b_fa, b_at, b_nu, fun l => ?_, b_ag⟩
  show (if _ then 10 else sp_hold S l) ≤ 20
  have := b_ho l
  split <;> omega
theorem sq_leave {h : bn_H} {p : Nat} {S : sp_S} (H : sg_G h p S) (B : sp_B S) {q : Nat} (hq : q < 5) : ∃ h', bn_ev 26 0 [some (.ref p), some (.int (nI q)), none] [] h = some (none, h') ∧ sg_F (sp_P p) h h' ∧ sg_G h' p (sp_leave S q (sp_loaves S)) := by
  obtain ⟨b_law, ⟨b_l1, b_lv⟩, ⟨b_b1, b_bd⟩, b_pp, b_lo, b_fa, b_at, b_nu, b_ho, b_ag⟩ := id B
  rw [bs_X0_leaveToPriest_0]
  have key : ∀ r i (h : bn_H), i + r = sp_loaves S → sg_G h p (sp_leave S q i) → ∃ h', bn_ev 26 2 [some (.ref p), some (.int (nI q)), some (.int (nI i))] [] h = some (none, h') ∧ sg_F (sp_P p) h h' ∧ sg_G h' p (sp_leave S q (sp_loaves S)) := by
    intro r
    induction r with
    | zero =>
      intro i h hi H
      refine ⟨h, ?_, sg_F.rf, by rw [show sp_loaves S = i by omega]; exact H⟩
      rw [bs_X0_leaveToPriest_2, sg_loaves H]
      exact if_pos (nI_le (by show sp_loaves S ≤ i; omega) (by omega))
    | succ r ih =>
      intro i h hi H
      have h10 : i < 10 := by omega
      have h3 := b_ho i
      have lh : bn_ld h (p + 5) 0 (nI i) = some (nI (sp_hold S i)) := by
        rw [sg_l_hold H h10]
        show some (nI (if i < i ∧ _ then 10 else sp_hold S i)) = _
        rw [if_neg (by omega)]
      rw [bs_X0_leaveToPriest_2, sg_loaves H]
      rw [show (if nI (sp_loaves (sp_leave S q i)) ≤ nI i then _ else _) = _ from if_neg (nI_ge (show i < sp_loaves S by omega) (show sp_loaves S < 2 ^ 31 by omega)), sg_r5 H, lh, Option.bind_some, sp_ifeq (by omega) (by omega), ← nI_succ]
      by_cases e : sp_hold S i = q
      · obtain ⟨h1, e1, F1, H1⟩ := sg_s_hold H h10 10
        have e1 : bn_sd h (p + 5) 0 (nI i) 10 = some h1 := e1
        have H2 : sg_G h1 p (sp_leave S q (i + 1)) := by
          have : sp_u_hold (sp_leave S q i) i 10 = sp_leave S q (i + 1) := by
            apply sp_ext <;> first | rfl | skip
            intro k
            show (if k = i then 10 else if k < i ∧ sp_hold S k = q then 10 else sp_hold S k) = if k < i + 1 ∧ sp_hold S k = q then 10 else sp_hold S k
            by_cases hk : k = i
            · subst hk; rw [if_pos rfl, if_pos ⟨by omega, e⟩]
            · rw [if_neg hk]
              by_cases hk2 : k < i ∧ sp_hold S k = q
              · rw [if_pos hk2, if_pos ⟨by omega, hk2.2⟩]
              · rw [if_neg hk2, if_neg (fun z => hk2 ⟨by omega, z.2⟩)]
          rw [← this]
          exact H1
        obtain ⟨h', g1, g2, g3⟩ := ih (i + 1) h1 (by omega) H2
        refine ⟨h', ?_, (F1.mono (fun k hk => by unfold sp_P; omega)).tr g2, g3⟩
        rw [if_pos e, sg_r5 H, e1, Option.bind_some]
        exact g1
      · have H2 : sg_G h p (sp_leave S q (i + 1)) := by
          have : sp_leave S q i = sp_leave S q (i + 1) := by
            apply sp_ext <;> first | rfl | skip
            intro k
            show (if k < i ∧ sp_hold S k = q then 10 else sp_hold S k) = if k < i + 1 ∧ sp_hold S k = q then 10 else sp_hold S k
            by_cases hk2 : k < i ∧ sp_hold S k = q
            · rw [if_pos hk2, if_pos ⟨by omega, hk2.2⟩]
            · rw [if_neg hk2, if_neg (fun z => hk2 ⟨by
                rcases Nat.lt_or_ge k i with q1 | q1
                · exact q1
                · have : k = i := by omega
                  rw [this] at z
                  exact absurd z.2 e, z.2⟩)]
          rw [← this]
          exact H
        obtain ⟨h', g1, g2, g3⟩ := ih (i + 1) h (by omega) H2
        exact ⟨h', by rw [if_neg e]; exact g1, g2, g3⟩
  exact key (sp_loaves S) 0 h (by omega) (by
    have : S = sp_leave S q 0 := by
      apply sp_ext <;> first | rfl | skip
      intro k
      show sp_hold S k = if k < 0 ∧ sp_hold S k = q then 10 else sp_hold S k
      rw [if_neg (by omega)]
    rw [← this]
    exact H)
