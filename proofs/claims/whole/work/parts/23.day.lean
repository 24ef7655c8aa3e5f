/-! A DAY GOES BY; the people eat as it is -/
def sp_hung (S : sp_S) (i : Nat) : Bool := sp_al S i && decide (sp_ate S i = 0)
def sp_dies (S : sp_S) (i : Nat) : Bool := sp_hung S i && decide (sp_lives S < sp_fasted S i + 1)
/-- behind the first i people -/
def sp_pp (S : sp_S) (i : Nat) : sp_S := (S.1, (sp_day S, sp_seed S), (fun k => if k < i ∧ sp_hung S k = true then sp_fasted S k + 1 else sp_fasted S k, fun k => if k < i then 0 else sp_ate S k, sp_eatc S), sp_num S, fun l => if l < sp_loaves S ∧ sp_hold S l < i ∧ sp_dies S (sp_hold S l) = true then 10 else sp_hold S l, sp_age S, sp_eater S, sp_eon S)
/-- behind the first i loaves -/
def sp_pl (S : sp_S) (i : Nat) : sp_S := (S.1, (sp_day S, sp_seed S), (sp_fasted S, sp_ate S, sp_eatc S), sp_num S, sp_hold S, fun l => if l < i ∧ ¬ sp_hold S l = 20 then (if 99 < sp_age S l + 1 then 99 else sp_age S l + 1) else sp_age S l, sp_eater S, sp_eon S)
def sp_pass (S : sp_S) : sp_S := sp_u_day (sp_pl (sp_pp S (sp_people S)) (sp_loaves S)) (sp_day S + 1)
def sp_died (S : sp_S) : Int32 := sp_bits (sp_dies S) (sp_people S)
def sp_leave (S : sp_S) (q i : Nat) : sp_S := (S.1, (sp_day S, sp_seed S), (sp_fasted S, sp_ate S, sp_eatc S), sp_num S, fun l => if l < i ∧ sp_hold S l = q then 10 else sp_hold S l, sp_age S, sp_eater S, sp_eon S)
theorem sp_ext {S T : sp_S} (h1 : S.1 = T.1) (h2 : S.2.1 = T.2.1) (h3 : ∀ k, sp_fasted S k = sp_fasted T k) (h4 : ∀ k, sp_ate S k = sp_ate T k) (h5 : ∀ k, sp_eatc S k = sp_eatc T k) (h6 : ∀ k, sp_num S k = sp_num T k) (h7 : ∀ k, sp_hold S k = sp_hold T k) (h8 : ∀ k, sp_age S k = sp_age T k) (h9 : ∀ k, sp_eater S k = sp_eater T k) (h10 : ∀ k, sp_eon S k = sp_eon T k) : S = T := by
  obtain ⟨a, b, ⟨c1, c2, c3⟩, d, e, f, g, i⟩ := S
  obtain ⟨a', b', ⟨c1', c2', c3'⟩, d', e', f', g', i'⟩ := T
  dsimp only at *
  rw [h1, h2, show c1 = c1' from funext h3, show c2 = c2' from funext h4, show c3 = c3' from funext h5, show d = d' from funext h6, show e = e' from funext h7, show f = f' from funext h8, show g = g' from funext h9, show i = i' from funext h10]
theorem sp_leave_B {S : sp_S} (B : sp_B S) (q i : Nat) : sp_B (sp_leave S q i) := by
  obtain ⟨b_law, ⟨b_l1, b_lv⟩, ⟨b_b1, b_bd⟩, b_pp, b_lo, b_fa, b_at, b_nu, b_ho, b_ag⟩ := id B
  refine ⟨b_law, ⟨b_l1, b_lv⟩, ⟨b_b1, b_bd⟩, b_pp, b_lo, b_fa, b_at, b_nu, fun l => ?_, b_ag⟩
  show (if _ then 10 else sp_hold S l) ≤ 20
  have := b_ho l
  split <;> omega
theorem sq_leave {h : bn_H} {p : Nat} {S : sp_S} (H : sg_G h p S) (B : sp_B S) {q : Nat} (hq : q < 5) : ∃ h', bn_ev 26 0 [some (.ref p), some (.int (nI q)), none] [] h = some (none, h') ∧ sg_F (sp_P p) h h' ∧ sg_G h' p (sp_leave S q (sp_loaves S)) := by
  obtain ⟨b_law, ⟨b_l1, b_lv⟩, ⟨b_b1, b_bd⟩, b_pp, b_lo, b_fa, b_at, b_nu, b_ho, b_ag⟩ := id B
  rw [bs_X0_leaveToPriest_0]
  have key : ∀ r i (h : bn_H), i + r = sp_loaves S → sg_G h p (sp_leave S q i) → ∃ h', bn_ev 26 2 [some (.ref p), some (.int (nI q)), some (.int (nI i))] [] h = some (none, h') ∧ sg_F (sp_P p) h h' ∧ sg_G h' p (sp_leave S q (sp_loaves S)) := by
    intro r
    induction r with
    | zero =>
      intro i h hi H
      refine ⟨h, ?_, sg_F.rf, by rw [show sp_loaves S = i by omega]; exact H⟩
      rw [bs_X0_leaveToPriest_2, sg_loaves H]
      exact if_pos (nI_le (by show sp_loaves S ≤ i; omega) (by omega))
    | succ r ih =>
      intro i h hi H
      have h10 : i < 10 := by omega
      have h3 := b_ho i
      have lh : bn_ld h (p + 5) 0 (nI i) = some (nI (sp_hold S i)) := by
        rw [sg_l_hold H h10]
        show some (nI (if i < i ∧ _ then 10 else sp_hold S i)) = _
        rw [if_neg (by omega)]
      rw [bs_X0_leaveToPriest_2, sg_loaves H]
      rw [show (if nI (sp_loaves (sp_leave S q i)) ≤ nI i then _ else _) = _ from if_neg (nI_ge (show i < sp_loaves S by omega) (show sp_loaves S < 2 ^ 31 by omega)), sg_r5 H, lh, Option.bind_some, sp_ifeq (by omega) (by omega), ← nI_succ]
      by_cases e : sp_hold S i = q
      · obtain ⟨h1, e1, F1, H1⟩ := sg_s_hold H h10 10
        have e1 : bn_sd h (p + 5) 0 (nI i) 10 = some h1 := e1
        have H2 : sg_G h1 p (sp_leave S q (i + 1)) := by
          have : sp_u_hold (sp_leave S q i) i 10 = sp_leave S q (i + 1) := by
            apply sp_ext <;> first | rfl | exact (fun _ => rfl) | skip
            intro k
            show (if k = i then 10 else if k < i ∧ sp_hold S k = q then 10 else sp_hold S k) = if k < i + 1 ∧ sp_hold S k = q then 10 else sp_hold S k
            by_cases hk : k = i
            · subst hk; rw [if_pos rfl, if_pos ⟨by omega, e⟩]
            · rw [if_neg hk]
              by_cases hk2 : k < i ∧ sp_hold S k = q
              · rw [if_pos hk2, if_pos ⟨by omega, hk2.2⟩]
              · rw [if_neg hk2, if_neg (fun z => hk2 ⟨by omega, z.2⟩)]
          rw [← this]
          exact H1
        obtain ⟨h', g1, g2, g3⟩ := ih (i + 1) h1 (by omega) H2
        refine ⟨h', ?_, (F1.mono (fun k hk => by unfold sp_P; omega)).tr g2, g3⟩
        rw [if_pos e, sg_r5 H, e1, Option.bind_some]
        exact g1
      · have H2 : sg_G h p (sp_leave S q (i + 1)) := by
          have : sp_leave S q i = sp_leave S q (i + 1) := by
            apply sp_ext <;> first | rfl | exact (fun _ => rfl) | skip
            intro k
            show (if k < i ∧ sp_hold S k = q then 10 else sp_hold S k) = if k < i + 1 ∧ sp_hold S k = q then 10 else sp_hold S k
            by_cases hk2 : k < i ∧ sp_hold S k = q
            · rw [if_pos hk2, if_pos ⟨by omega, hk2.2⟩]
            · rw [if_neg hk2, if_neg (fun z => hk2 ⟨by
                rcases Nat.lt_or_ge k i with q1 | q1
                · exact q1
                · have : k = i := by omega
                  rw [this] at z
                  exact absurd z.2 e, z.2⟩)]
          rw [← this]
          exact H
        obtain ⟨h', g1, g2, g3⟩ := ih (i + 1) h (by omega) H2
        exact ⟨h', by rw [if_neg e]; exact g1, g2, g3⟩
  exact key (sp_loaves S) 0 h (by omega) (by
    have : S = sp_leave S q 0 := by
      apply sp_ext <;> first | rfl | exact (fun _ => rfl) | exact (fun k => (if_neg (by omega)).symm)
    rw [← this]
    exact H)
theorem sp_pp_B {S : sp_S} (B : sp_B S) (i : Nat) : sp_B (sp_pp S i) := by
  obtain ⟨b_law, ⟨b_l1, b_lv⟩, ⟨b_b1, b_bd⟩, b_pp, b_lo, b_fa, b_at, b_nu, b_ho, b_ag⟩ := id B
  refine ⟨b_law, ⟨b_l1, b_lv⟩, ⟨b_b1, b_bd⟩, b_pp, b_lo, fun k => ?_, fun k => ?_, b_nu, fun l => ?_, b_ag⟩
  · show (if k < i ∧ sp_hung S k = true then sp_fasted S k + 1 else sp_fasted S k) ≤ 10
    have := b_fa k
    split
    · rename_i hh
      have h2 := hh.2
      simp only [sp_hung, sp_al, Bool.and_eq_true, decide_eq_true_eq] at h2
      omega
    · omega
  · show (if k < i then 0 else sp_ate S k) ≤ 1
    have := b_at k
    split <;> omega
  · show (if l < sp_loaves S ∧ sp_hold S l < i ∧ sp_dies S (sp_hold S l) = true then 10 else sp_hold S l) ≤ 20
    have := b_ho l
    split <;> omega
theorem sp_pl_B {S : sp_S} (B : sp_B S) (i : Nat) : sp_B (sp_pl S i) := by
  obtain ⟨b_law, ⟨b_l1, b_lv⟩, ⟨b_b1, b_bd⟩, b_pp, b_lo, b_fa, b_at, b_nu, b_ho, b_ag⟩ := id B
  refine ⟨b_law, ⟨b_l1, b_lv⟩, ⟨b_b1, b_bd⟩, b_pp, b_lo, b_fa, b_at, b_nu, b_ho, fun l => ?_⟩
  show (if l < i ∧ ¬ sp_hold S l = 20 then (if 99 < sp_age S l + 1 then 99 else sp_age S l + 1) else sp_age S l) ≤ 99
  have := b_ag l
  split
  · split <;> omega
  · omega
theorem sp_pass_B {S : sp_S} (B : sp_B S) : sp_B (sp_pass S) := sp_pl_B (sp_pp_B B (sp_people S)) (sp_loaves S)
/-- the state behind person i: what comes of the stores -/
theorem sp_pp_dead {S : sp_S} {i : Nat} (hd : sp_al S i = false) : sp_u_ate (sp_pp S i) i 0 = sp_pp S (i + 1) := by
  have hh : sp_hung S i = false := by simp [sp_hung, hd]
  apply sp_ext <;> first | rfl | exact (fun _ => rfl) | skip
  · intro k
    show (if k < i ∧ sp_hung S k = true then sp_fasted S k + 1 else sp_fasted S k) = if k < i + 1 ∧ sp_hung S k = true then sp_fasted S k + 1 else sp_fasted S k
    by_cases hk : k = i
    · subst hk; simp [hh]
    · have : (k < i) = (k < i + 1) := propext ⟨fun z => by omega, fun z => by omega⟩
      simp only [this]
  · intro k
    show (if k = i then 0 else if k < i then 0 else sp_ate S k) = if k < i + 1 then 0 else sp_ate S k
    by_cases hk : k = i
    · subst hk; simp
    · have : (k < i) = (k < i + 1) := propext ⟨fun z => by omega, fun z => by omega⟩
      rw [if_neg hk]; simp only [this]
  · intro l
    show (if l < sp_loaves S ∧ sp_hold S l < i ∧ sp_dies S (sp_hold S l) = true then 10 else sp_hold S l) = if l < sp_loaves S ∧ sp_hold S l < i + 1 ∧ sp_dies S (sp_hold S l) = true then 10 else sp_hold S l
    by_cases hk : sp_hold S l = i
    · have : sp_dies S (sp_hold S l) = false := by rw [hk]; simp [sp_dies, hh]
      simp [this]
    · have : (sp_hold S l < i) = (sp_hold S l < i + 1) := propext ⟨fun z => by omega, fun z => by omega⟩
      simp only [this]
theorem sp_pp_fed {S : sp_S} {i : Nat} (hd : ¬ sp_ate S i = 0) : sp_u_ate (sp_pp S i) i 0 = sp_pp S (i + 1) := by
  have hh : sp_hung S i = false := by simp [sp_hung, hd]
  apply sp_ext <;> first | rfl | exact (fun _ => rfl) | skip
  · intro k
    show (if k < i ∧ sp_hung S k = true then sp_fasted S k + 1 else sp_fasted S k) = if k < i + 1 ∧ sp_hung S k = true then sp_fasted S k + 1 else sp_fasted S k
    by_cases hk : k = i
    · subst hk; simp [hh]
    · have : (k < i) = (k < i + 1) := propext ⟨fun z => by omega, fun z => by omega⟩
      simp only [this]
  · intro k
    show (if k = i then 0 else if k < i then 0 else sp_ate S k) = if k < i + 1 then 0 else sp_ate S k
    by_cases hk : k = i
    · subst hk; simp
    · have : (k < i) = (k < i + 1) := propext ⟨fun z => by omega, fun z => by omega⟩
      rw [if_neg hk]; simp only [this]
  · intro l
    show (if l < sp_loaves S ∧ sp_hold S l < i ∧ sp_dies S (sp_hold S l) = true then 10 else sp_hold S l) = if l < sp_loaves S ∧ sp_hold S l < i + 1 ∧ sp_dies S (sp_hold S l) = true then 10 else sp_hold S l
    by_cases hk : sp_hold S l = i
    · have : sp_dies S (sp_hold S l) = false := by rw [hk]; simp [sp_dies, hh]
      simp [this]
    · have : (sp_hold S l < i) = (sp_hold S l < i + 1) := propext ⟨fun z => by omega, fun z => by omega⟩
      simp only [this]
theorem sp_pp_hung {S : sp_S} {i : Nat} (hh : sp_hung S i = true) (hd : sp_dies S i = false) : sp_u_ate (sp_u_fasted (sp_pp S i) i (sp_fasted S i + 1)) i 0 = sp_pp S (i + 1) := by
  apply sp_ext <;> first | rfl | exact (fun _ => rfl) | skip
  · intro k
    show (if k = i then sp_fasted S i + 1 else if k < i ∧ sp_hung S k = true then sp_fasted S k + 1 else sp_fasted S k) = if k < i + 1 ∧ sp_hung S k = true then sp_fasted S k + 1 else sp_fasted S k
    by_cases hk : k = i
    · subst hk; simp [hh]
    · have : (k < i) = (k < i + 1) := propext ⟨fun z => by omega, fun z => by omega⟩
      rw [if_neg hk]; simp only [this]
  · intro k
    show (if k = i then 0 else if k < i then 0 else sp_ate S k) = if k < i + 1 then 0 else sp_ate S k
    by_cases hk : k = i
    · subst hk; simp
    · have : (k < i) = (k < i + 1) := propext ⟨fun z => by omega, fun z => by omega⟩
      rw [if_neg hk]; simp only [this]
  · intro l
    show (if l < sp_loaves S ∧ sp_hold S l < i ∧ sp_dies S (sp_hold S l) = true then 10 else sp_hold S l) = if l < sp_loaves S ∧ sp_hold S l < i + 1 ∧ sp_dies S (sp_hold S l) = true then 10 else sp_hold S l
    by_cases hk : sp_hold S l = i
    · have : sp_dies S (sp_hold S l) = false := by rw [hk]; exact hd
      simp [this]
    · have : (sp_hold S l < i) = (sp_hold S l < i + 1) := propext ⟨fun z => by omega, fun z => by omega⟩
      simp only [this]
theorem sp_pp_dies {S : sp_S} {i : Nat} (hi : i < 10) (hh : sp_hung S i = true) (hd : sp_dies S i = true) : sp_u_ate (sp_leave (sp_u_fasted (sp_pp S i) i (sp_fasted S i + 1)) i (sp_loaves S)) i 0 = sp_pp S (i + 1) := by
  apply sp_ext <;> first | rfl | exact (fun _ => rfl) | skip
  · intro k
    show (if k = i then sp_fasted S i + 1 else if k < i ∧ sp_hung S k = true then sp_fasted S k + 1 else sp_fasted S k) = if k < i + 1 ∧ sp_hung S k = true then sp_fasted S k + 1 else sp_fasted S k
    by_cases hk : k = i
    · subst hk; simp [hh]
    · have : (k < i) = (k < i + 1) := propext ⟨fun z => by omega, fun z => by omega⟩
      rw [if_neg hk]; simp only [this]
  · intro k
    show (if k = i then 0 else if k < i then 0 else sp_ate S k) = if k < i + 1 then 0 else sp_ate S k
    by_cases hk : k = i
    · subst hk; simp
    · have : (k < i) = (k < i + 1) := propext ⟨fun z => by omega, fun z => by omega⟩
      rw [if_neg hk]; simp only [this]
  · intro l
    show (if l < sp_loaves S ∧ (if l < sp_loaves S ∧ sp_hold S l < i ∧ sp_dies S (sp_hold S l) = true then 10 else sp_hold S l) = i then 10 else (if l < sp_loaves S ∧ sp_hold S l < i ∧ sp_dies S (sp_hold S l) = true then 10 else sp_hold S l)) = if l < sp_loaves S ∧ sp_hold S l < i + 1 ∧ sp_dies S (sp_hold S l) = true then 10 else sp_hold S l
    by_cases hl : l < sp_loaves S
    · by_cases hk : sp_hold S l = i
      · have h1 : ¬ sp_hold S l < i := by omega
        have h2 : sp_dies S (sp_hold S l) = true := by rw [hk]; exact hd
        have h3 : sp_hold S l < i + 1 := by omega
        simp [hl, hk, hd]
      · have : (sp_hold S l < i) = (sp_hold S l < i + 1) := propext ⟨fun z => by omega, fun z => by omega⟩
        simp only [this]
        by_cases h5 : l < sp_loaves S ∧ sp_hold S l < i + 1 ∧ sp_dies S (sp_hold S l) = true
        · simp only [if_pos h5]
          rw [if_neg (by omega)]
        · simp only [if_neg h5]
          rw [if_neg (fun z => hk z.2)]
    · simp [hl]
theorem sq_pass {h : bn_H} {p : Nat} {S : sp_S} (H : sg_G h p S) (B : sp_B S) : ∃ h', bn_ev 25 0 [some (.ref p), none, none] [] h = some (some (.int (sp_died S)), h') ∧ sg_F (sp_P p) h h' ∧ sg_G h' p (sp_pass S) := by
  have B0 := B
  obtain ⟨b_law, ⟨b_l1, b_lv⟩, ⟨b_b1, b_bd⟩, b_pp, b_lo, b_fa, b_at, b_nu, b_ho, b_ag⟩ := id B
  have k2 : ∀ (T : sp_S), sp_B T → ∀ r i d (h : bn_H), i + r = sp_loaves T → sg_G h p (sp_pl T i) → ∃ h', bn_ev 25 73 [some (.ref p), some (.int d), some (.int (nI i))] [] h = some (some (.int d), h') ∧ sg_F (sp_P p) h h' ∧ sg_G h' p (sp_u_day (sp_pl T (sp_loaves T)) (sp_day T + 1)) := by
    intro T BT r
    obtain ⟨-, -, -, -, t_lo, -, -, -, t_ho, t_ag⟩ := id BT
    induction r with
    | zero =>
      intro i d h hi H
      obtain ⟨h1, e1, F1, H1⟩ := sg_s_day H (sp_day T + 1)
      refine ⟨h1, ?_, F1.mono (fun k hk => by unfold sp_P; omega), by rw [show sp_loaves T = i by omega]; exact H1⟩
      rw [bs_X0_passDay_73, sg_loaves H]
      refine (if_pos (nI_le (show sp_loaves T ≤ i by omega) (by omega))).trans ?_
      rw [sg_day H]
      show (bn_pf h p 0 3 (.int (sp_day T + 1))).bind _ = _
      rw [e1]
      rfl
    | succ r ih =>
      intro i d h hi H
      have h10 : i < 10 := by omega
      have h3 := t_ho i
      have h4 := t_ag i
      have lh : bn_ld h (p + 5) 0 (nI i) = some (nI (sp_hold T i)) := sg_l_hold H h10
      have la : bn_ld h (p + 6) 0 (nI i) = some (nI (sp_age T i)) := by
        rw [sg_l_age H h10]
        show some (nI (if i < i ∧ _ then _ else sp_age T i)) = _
        rw [if_neg (by omega)]
      rw [bs_X0_passDay_73, sg_loaves H]
      rw [show (if nI (sp_loaves (sp_pl T i)) ≤ nI i then _ else _) = _ from if_neg (nI_ge (show i < sp_loaves T by omega) (show sp_loaves T < 2 ^ 31 by omega)), sg_r5 H, lh, Option.bind_some, sp_if20 (by omega), ← nI_succ]
      by_cases e : sp_hold T i = 20
      · have H2 : sg_G h p (sp_pl T (i + 1)) := by
          have : sp_pl T i = sp_pl T (i + 1) := by
            apply sp_ext <;> first | rfl | exact (fun _ => rfl) | skip
            intro k
            show (if k < i ∧ ¬ sp_hold T k = 20 then _ else sp_age T k) = if k < i + 1 ∧ ¬ sp_hold T k = 20 then _ else sp_age T k
            by_cases hk : k = i
            · subst hk; simp [e]
            · have : (k < i) = (k < i + 1) := propext ⟨fun z => by omega, fun z => by omega⟩
              simp only [this]
          rw [← this]
          exact H
        obtain ⟨h', g1, g2, g3⟩ := ih (i + 1) d h (by omega) H2
        exact ⟨h', by rw [if_pos e]; exact g1, g2, g3⟩
      · obtain ⟨h1, e1, F1, H1⟩ := sg_s_age H h10 (if 99 < sp_age T i + 1 then 99 else sp_age T i + 1)
        have H2 : sg_G h1 p (sp_pl T (i + 1)) := by
          have : sp_u_age (sp_pl T i) i (if 99 < sp_age T i + 1 then 99 else sp_age T i + 1) = sp_pl T (i + 1) := by
            apply sp_ext <;> first | rfl | exact (fun _ => rfl) | skip
            intro k
            show (if k = i then (if 99 < sp_age T i + 1 then 99 else sp_age T i + 1) else if k < i ∧ ¬ sp_hold T k = 20 then (if 99 < sp_age T k + 1 then 99 else sp_age T k + 1) else sp_age T k) = if k < i + 1 ∧ ¬ sp_hold T k = 20 then (if 99 < sp_age T k + 1 then 99 else sp_age T k + 1) else sp_age T k
            by_cases hk : k = i
            · subst hk; simp [e]
            · have : (k < i) = (k < i + 1) := propext ⟨fun z => by omega, fun z => by omega⟩
              rw [if_neg hk]; simp only [this]
          rw [← this]
          exact H1
        obtain ⟨h', g1, g2, g3⟩ := ih (i + 1) d h1 (by omega) H2
        refine ⟨h', ?_, (F1.mono (fun k hk => by unfold sp_P; omega)).tr g2, g3⟩
        have e2 : (if (99 : Int32) < nI (sp_age T i) + 1 then 99 else nI (sp_age T i) + 1) = nI (if 99 < sp_age T i + 1 then 99 else sp_age T i + 1) := by
          rw [← nI_succ, ← nI_99, sp_iflt (by omega) (by omega)]
          split <;> rfl
        rw [if_neg e, sg_r6 H, sg_r6 H, la, Option.bind_some, e2, e1, Option.bind_some]
        exact g1
  have k1 : ∀ r i d (h : bn_H), i + r = sp_people S → sg_G h p (sp_pp S i) → ∃ h', bn_ev 25 4 [some (.ref p), some (.int d), some (.int (nI i))] [] h = some (some (.int (sp_fold (sp_g1 (sp_dies S)) r i d)), h') ∧ sg_F (sp_P p) h h' ∧ sg_G h' p (sp_pass S) := by
    intro r
    induction r with
    | zero =>
      intro i d h hi H
      have hi : i = sp_people S := by omega
      subst hi
      obtain ⟨h', g1, g2, g3⟩ := k2 (sp_pp S (sp_people S)) (sp_pp_B B0 _) (sp_loaves S) 0 d h (by show 0 + sp_loaves S = sp_loaves S; omega) (by
        have : sp_pp S (sp_people S) = sp_pl (sp_pp S (sp_people S)) 0 := by
          apply sp_ext <;> first | rfl | exact (fun _ => rfl) | exact (fun k => (if_neg (by omega)).symm)
        rw [← this]
        exact H)
      refine ⟨h', ?_, g2, g3⟩
      rw [bs_X0_passDay_4, sg_people H]
      exact (if_pos (nI_le (show sp_people S ≤ sp_people S by omega) (by omega))).trans g1
    | succ r ih =>
      intro i d h hi H
      have h5 : i < 5 := by omega
      have BI := sp_pp_B B0 i
      have hfi : sp_fasted (sp_pp S i) i = sp_fasted S i := by
        show (if i < i ∧ _ then _ else sp_fasted S i) = _
        rw [if_neg (by omega)]
      have hai : sp_ate (sp_pp S i) i = sp_ate S i := by
        show (if i < i then _ else sp_ate S i) = _
        rw [if_neg (by omega)]
      have hal : sp_al (sp_pp S i) i = sp_al S i := by unfold sp_al; rw [hfi]; rfl
      have hz : ∀ (h : bn_H) (T : sp_S), sg_G h p T → T = sp_pp S i ∨ True → ∃ h1, bn_sd h (p + 2) 1 (nI i) (nI 0) = some h1 ∧ sg_F (sp_P p) h h1 ∧ sg_G h1 p (sp_u_ate T i 0) := by
        intro h T HT _
        obtain ⟨h1, e1, F1, H1⟩ := sg_s_ate HT h5 0
        exact ⟨h1, e1, F1.mono (fun k hk => by unfold sp_P; omega), H1⟩
      have b1 := b_at i
      have b2 := b_fa i
      rw [bs_X0_passDay_4, sg_people H]
      rw [show (if nI (sp_people (sp_pp S i)) ≤ nI i then _ else _) = _ from if_neg (nI_ge (show i < sp_people S by omega) (show sp_people S < 2 ^ 31 by omega)), sg_isC H, sq_isAlive H BI h5, hal, ← nI_succ]
      simp only [bn_gd, bn_cI, if_true, sp_b_eq0, nar_0]
      have fs : sp_fold (sp_g1 (sp_dies S)) (r + 1) i d = sp_fold (sp_g1 (sp_dies S)) r (i + 1) (sp_g1 (sp_dies S) i d) := rfl
      rw [fs]
      cases ha : sp_al S i with
      | false =>
        obtain ⟨h1, e1, F1, H1⟩ := hz h _ H (Or.inr trivial)
        rw [sp_pp_dead ha] at H1
        obtain ⟨h', g1, g2, g3⟩ := ih (i + 1) d h1 (by omega) H1
        refine ⟨h', ?_, F1.tr g2, g3⟩
        have hd : sp_g1 (sp_dies S) i d = d := by simp [sp_g1, sp_dies, sp_hung, ha]
        rw [if_pos rfl, sg_r2 H, e1, hd]
        exact g1
      | true =>
        rw [if_neg (by decide), sg_r2 H]
        have la : bn_ld h (p + 2) 1 (nI i) = some (nI (sp_ate S i)) := by rw [sg_l_ate H h5, hai]
        rw [la, Option.bind_some, sp_if0 (by omega)]
        by_cases h0 : sp_ate S i = 0
        · rw [if_pos h0, sg_r1 H]
          have lf : bn_ld h (p + 1) 0 (nI i) = some (nI (sp_fasted S i)) := by rw [sg_l_fasted H h5, hfi]
          obtain ⟨h1, e1, F1, H1⟩ := sg_s_fasted H h5 (sp_fasted S i + 1)
          have hh : sp_hung S i = true := by simp [sp_hung, ha, h0]
          have hl9 : sp_fasted S i ≤ sp_lives S := by simpa [sp_al] using ha
          have BU : sp_B (sp_u_fasted (sp_pp S i) i (sp_fasted S i + 1)) := by
            obtain ⟨c1, c2, c3, c4, c5, c6, c7, c8, c9, c10⟩ := BI
            exact ⟨c1, c2, c3, c4, c5, va_up_le c6 (by omega), c7, c8, c9, c10⟩
          have hal2 : sp_al (sp_u_fasted (sp_pp S i) i (sp_fasted S i + 1)) i = !sp_dies S i := by
            have : sp_fasted (sp_u_fasted (sp_pp S i) i (sp_fasted S i + 1)) i = sp_fasted S i + 1 := by
              show (if i = i then sp_fasted S i + 1 else _) = _
              rw [if_pos rfl]
            unfold sp_al
            rw [this]
            simp only [sp_dies, hh, Bool.true_and]
            show decide (sp_fasted S i + 1 ≤ sp_lives S) = _
            by_cases q : sp_fasted S i + 1 ≤ sp_lives S
            · have : ¬ sp_lives S < sp_fasted S i + 1 := by omega
              simp [q, this]
            · have : sp_lives S < sp_fasted S i + 1 := by omega
              simp [q, this]
          rw [lf, Option.bind_some, ← nI_succ, e1, Option.bind_some, sg_isC H1, sq_isAlive H1 BU h5, hal2]
          simp only [if_true, sp_b_eq0]
          cases hd : sp_dies S i with
          | true =>
            obtain ⟨h2, e2, F2, H2⟩ := sq_leave H1 BU h5
            obtain ⟨h3, e3, F3, H3⟩ := hz h2 _ H2 (Or.inr trivial)
            have := sp_pp_dies (S := S) (i := i) (by omega) hh hd
            rw [show sp_loaves (sp_u_fasted (sp_pp S i) i (sp_fasted S i + 1)) = sp_loaves S from rfl, this] at H3
            obtain ⟨h', g1, g2, g3⟩ := ih (i + 1) (d ||| bn_shl 1 (nI i)) h3 (by omega) H3
            refine ⟨h', ?_, (((F1.mono (fun k hk => by unfold sp_P; omega)).tr F2).tr F3).tr g2, g3⟩
            have hd2 : sp_g1 (sp_dies S) i d = d ||| bn_shl 1 (nI i) := by simp [sp_g1, hd]
            rw [hd2, if_pos (by rfl), sg_isC H1, e2]
            simp only [bn_cV, if_true]
            rw [sg_r2 H2, e3]
            exact g1
          | false =>
            obtain ⟨h3, e3, F3, H3⟩ := hz h1 _ H1 (Or.inr trivial)
            have := sp_pp_hung (S := S) (i := i) hh hd
            rw [this] at H3
            obtain ⟨h', g1, g2, g3⟩ := ih (i + 1) d h3 (by omega) H3
            refine ⟨h', ?_, ((F1.mono (fun k hk => by unfold sp_P; omega)).tr F3).tr g2, g3⟩
            have hd2 : sp_g1 (sp_dies S) i d = d := by simp [sp_g1, hd]
            rw [hd2, if_neg (by decide), sg_r2 H1, e3]
            exact g1
        · rw [if_neg h0]
          obtain ⟨h1, e1, F1, H1⟩ := hz h _ H (Or.inr trivial)
          rw [sp_pp_fed h0] at H1
          obtain ⟨h', g1, g2, g3⟩ := ih (i + 1) d h1 (by omega) H1
          refine ⟨h', ?_, F1.tr g2, g3⟩
          have hd : sp_g1 (sp_dies S) i d = d := by simp [sp_g1, sp_dies, sp_hung, h0]
          rw [sg_r2 H, e1, hd]
          exact g1
  rw [bs_X0_passDay_0]
  exact k1 (sp_people S) 0 0 h (by omega) (by
    have : S = sp_pp S 0 := by
      apply sp_ext <;> first | rfl | exact (fun _ => rfl) | exact (fun k => (if_neg (by omega)).symm)
    rw [← this]
    exact H)
