/-! WHAT MAY BE EATEN; EATING; A DAY -/
theorem sp_if0 {α : Type} {a : Nat} (ha : a < 2 ^ 31) {A B : α} : (if nI a = 0 then A else B) = if a = 0 then A else B := sp_ifeq (b := 0) ha (by decide)
theorem sp_if1 {α : Type} {a : Nat} (ha : a < 2 ^ 31) {A B : α} : (if nI a = 1 then A else B) = if a = 1 then A else B := sp_ifeq (b := 1) ha (by decide)
theorem sp_if20 {α : Type} {a : Nat} (ha : a < 2 ^ 31) {A B : α} : (if nI a = 20 then A else B) = if a = 20 then A else B := sp_ifeq (b := 20) ha (by decide)
theorem nar_0 : vp_nar .boolean 0 = nI 0 := by decide +kernel
theorem nar_1 : vp_nar .boolean 1 = nI 1 := by decide +kernel
/-- a loaf that stands in the way of one of the number v -/
def sp_fb (S : sp_S) (q v l : Nat) : Bool := ((decide (sp_law S = 0) && decide (sp_hold S l = q)) || (decide (sp_law S = 1) && sp_hb S l)) && (decide (sp_num S l < v) && !sp_bd S l)
def sp_forb (S : sp_S) (q v : Nat) : Bool := sp_any (sp_fb S q v) (sp_loaves S) 0
def sp_may (S : sp_S) (q l : Nat) : Bool := sp_al S q && (decide (sp_ate S q = 0) && (decide (sp_hold S l = q) && (!sp_bd S l && !sp_forb S q (sp_num S l))))
section AA
variable {h : bn_H} {p : Nat} {S : sp_S}
theorem sq_forbids (H : sg_G h p S) (B : sp_B S) {q v : Nat} (hq : q < 2 ^ 31) (hv : v < 2 ^ 31) : bn_ev 23 0 [some (.ref p), some (.int (nI q)), some (.int (nI v)), none, none] [] h = some (some (.int (sp_b (sp_forb S q v))), h) := by
  obtain ⟨b_law, ⟨b_l1, b_lv⟩, ⟨b_b1, b_bd⟩, b_pp, b_lo, b_fa, b_at, b_nu, b_ho, b_ag⟩ := id B
  rw [bs_X0_lawForbids_0]
  have key : ∀ r i o, i + r = sp_loaves S → bn_ev 23 2 [some (.ref p), some (.int (nI q)), some (.int (nI v)), some (.int (nI i)), o] [] h = some (some (.int (sp_b (sp_any (sp_fb S q v) r i))), h) := by
    intro r
    induction r with
    | zero =>
      intro i o hi
      rw [bs_X0_lawForbids_2, sg_loaves H, if_pos (nI_le (by omega) (by omega))]
      rfl
    | succ r ih =>
      intro i o hi
      have h10 : i < 10 := by omega
      have h2 := b_nu i
      have h3 := b_ho i
      have hx : ∀ o, bn_ev 23 2 [some (.ref p), some (.int (nI q)), some (.int (nI v)), some (.int (nI i + 1)), o] [] h = some (some (.int (sp_b (sp_any (sp_fb S q v) r (i + 1)))), h) := fun o => by rw [← nI_succ]; exact ih (i + 1) o (by omega)
      have d10 : ¬ (1 : Int32) = 0 := by decide
      rw [bs_X0_lawForbids_2, sg_loaves H, if_neg (nI_ge (by omega) (by omega)), sg_law H, sp_if0 (by omega)]
      simp only [bs_X0_lawForbids_27, bs_X0_lawForbids_47, sg_law H, sg_r5 H, sg_l_hold H h10, Option.bind_some, sg_isC H, sq_isBad H B h10, sq_isHeld H B h10, sg_r4 H, sg_l_num H h10, bn_gd, bn_cI, if_true, hx, sp_b_eq0, if_neg d10]
      rw [sp_if1 (by omega), sp_ifeq (by omega) hq, sp_ifle hv (by omega)]
      simp only [sp_any, sp_fb]
      by_cases l0 : sp_law S = 0
      · have l1 : ¬ sp_law S = 1 := by omega
        by_cases e1 : sp_hold S i = q
        · by_cases e2 : v ≤ sp_num S i
          · have e3 : ¬ sp_num S i < v := by omega
            simp [l0, e1, e2, e3]
          · have e3 : sp_num S i < v := by omega
            cases hb : sp_bd S i <;> simp [l0, e1, e2, e3, sp_b]
        · simp [l0, e1]
      · by_cases l1 : sp_law S = 1
        · cases hh : sp_hb S i with
          | false => simp [l1]
          | true =>
            by_cases e2 : v ≤ sp_num S i
            · have e3 : ¬ sp_num S i < v := by omega
              simp [l1, e2, e3]
            · have e3 : sp_num S i < v := by omega
              cases hb : sp_bd S i <;> simp [l1, e2, e3, sp_b]
        · simp [l0, l1]
  exact key (sp_loaves S) 0 none (by omega)
theorem sq_allowed (H : sg_G h p S) (B : sp_B S) {q l : Nat} (hq : q < 5) (hl : l < 10) : bn_ev 22 0 [some (.ref p), some (.int (nI q)), some (.int (nI l))] [] h = some (some (.int (sp_b (sp_may S q l))), h) := by
  obtain ⟨b_law, ⟨b_l1, b_lv⟩, ⟨b_b1, b_bd⟩, b_pp, b_lo, b_fa, b_at, b_nu, b_ho, b_ag⟩ := id B
  have h1 := b_at q
  have h2 := b_ho l
  have h3 := b_nu l
  rw [bs_X0_isAllowed_0]
  simp only [sg_isC H, sq_isAlive H B hq, bn_gd, bn_cI, if_true, sp_b_eq0, sg_r2 H, sg_l_ate H hq, Option.bind_some, sg_r5 H, sg_l_hold H hl, sq_isBad H B hl, sg_r4 H, sg_l_num H hl, sq_forbids H B (show q < 2 ^ 31 by omega) (show sp_num S l < 2 ^ 31 by omega)]
  rw [sp_if0 (by omega), sp_ifeq (by omega) (by omega)]
  unfold sp_may
  cases sp_al S q with
  | false => rfl
  | true =>
    by_cases e1 : sp_ate S q = 0
    · by_cases e2 : sp_hold S l = q
      · cases sp_bd S l with
        | true => simp [e1, e2, sp_b]
        | false => cases sp_forb S q (sp_num S l) <;> simp [e1, e2, sp_b]
      · simp [e1, e2, sp_b]
    · simp [e1, sp_b]
/-- the loaf that is eaten next -/
def sp_gl (S : sp_S) (q i : Nat) (o : Option Nat) : Option Nat := if sp_may S q i = true then (match o with
  | none => some i
  | some k => if sp_num S k ≤ sp_num S i then some k else some i) else o
def sp_least (S : sp_S) (q : Nat) : Option Nat := sp_fold (sp_gl S q) (sp_loaves S) 0 none
theorem sq_least (H : sg_G h p S) (B : sp_B S) {q : Nat} (hq : q < 5) : bn_ev 28 0 [some (.ref p), some (.int (nI q)), none, none] [] h = some (some (.int (sp_o (sp_least S q))), h) ∧ ∀ k, sp_least S q = some k → k < sp_loaves S := by
  obtain ⟨b_law, ⟨b_l1, b_lv⟩, ⟨b_b1, b_bd⟩, b_pp, b_lo, b_fa, b_at, b_nu, b_ho, b_ag⟩ := id B
  rw [bs_X0_leastAllowed_0]
  have key : ∀ r i o, i + r = sp_loaves S → (∀ k, o = some k → k < i) → bn_ev 28 5 [some (.ref p), some (.int (nI q)), some (.int (sp_o o)), some (.int (nI i))] [] h = some (some (.int (sp_o (sp_fold (sp_gl S q) r i o))), h) ∧ ∀ k, sp_fold (sp_gl S q) r i o = some k → k < sp_loaves S := by
    intro r
    induction r with
    | zero =>
      intro i o hi ho
      rw [bs_X0_leastAllowed_5, sg_loaves H, if_pos (nI_le (by omega) (by omega))]
      exact ⟨rfl, fun k hk => by have := ho k hk; omega⟩
    | succ r ih =>
      intro i o hi ho
      have h10 : i < 10 := by omega
      rw [bs_X0_leastAllowed_5, sg_loaves H, if_neg (nI_ge (by omega) (by omega)), ← nI_succ]
      simp only [sg_isC H, sq_allowed H B hq h10, bn_gd, bn_cI, if_true, sp_b_eq0]
      have fs : sp_fold (sp_gl S q) (r + 1) i o = sp_fold (sp_gl S q) r (i + 1) (sp_gl S q i o) := rfl
      rw [fs]
      cases hm : sp_may S q i with
      | false =>
        have e : sp_gl S q i o = o := by simp [sp_gl, hm]
        rw [e, if_pos rfl]
        exact ih (i + 1) o (by omega) (fun k hk => by have := ho k hk; omega)
      | true =>
        rw [if_neg (by decide)]
        cases o with
        | none =>
          have e : sp_gl S q i none = some i := by simp [sp_gl, hm]
          rw [e, if_pos (by decide)]
          exact ih (i + 1) (some i) (by omega) (fun k hk => by cases hk; omega)
        | some k =>
          have hk := ho k rfl
          have h2 := b_nu i
          have h3 := b_nu k
          have h10k : k < 10 := by omega
          have e : sp_gl S q i (some k) = if sp_num S k ≤ sp_num S i then some k else some i := by simp [sp_gl, hm]
          have hpos : ¬ sp_o (some k) < 0 := nI_pos (by omega)
          have e9 : sp_o (some k) = nI k := rfl
          rw [e, if_neg hpos, e9]
          simp only [sg_r4 H, sg_l_num H h10, sg_l_num H h10k, Option.bind_some]
          rw [sp_ifle (by omega) (by omega)]
          split
          · exact ih (i + 1) (some k) (by omega) (fun k' hk' => by cases hk'; omega)
          · exact ih (i + 1) (some i) (by omega) (fun k' hk' => by cases hk'; omega)
  exact key (sp_loaves S) 0 none (by omega) (fun k hk => by cases hk)
end AA
def sp_P (p : Nat) : Nat → Prop := fun k => p ≤ k ∧ k ≤ p + 8
def sp_feed (S : sp_S) (q l : Nat) : sp_S := sp_u_eon (sp_u_eater (sp_u_hold (sp_u_eatc (sp_u_ate (sp_u_fasted S q 0) q 1) q (sp_eatc S q + 1)) l 20) l (nI q)) l (sp_day S)
theorem sq_feed {h : bn_H} {p : Nat} {S : sp_S} (H : sg_G h p S) {q l : Nat} (hq : q < 5) (hl : l < 10) : ∃ h', bn_ev 24 0 [some (.ref p), some (.int (nI q)), some (.int (nI l))] [] h = some (none, h') ∧ sg_F (sp_P p) h h' ∧ sg_G h' p (sp_feed S q l) := by
  obtain ⟨h1, e1, F1, H1⟩ := sg_s_fasted H hq 0
  obtain ⟨h2, e2, F2, H2⟩ := sg_s_ate H1 hq 1
  obtain ⟨h3, e3, F3, H3⟩ := sg_s_eatc H2 hq (sp_eatc S q + 1)
  obtain ⟨h4, e4, F4, H4⟩ := sg_s_hold H3 hl 20
  obtain ⟨h5, e5, F5, H5⟩ := sg_s_eater H4 hl (nI q)
  obtain ⟨h6, e6, F6, H6⟩ := sg_s_eon H5 hl (sp_day S)
  have e1 : bn_sd h (p + 1) 0 (nI q) 0 = some h1 := e1
  have e4 : bn_sd h3 (p + 5) 0 (nI l) 20 = some h4 := e4
  have l3 := sg_l_eatc H2 hq
  have l3 : bn_ld h2 (p + 3) 0 (nI q) = some (sp_eatc S q) := l3
  have l6 : ∀ K, bn_gI h5 p 0 3 K = K (sp_day S) := fun K => sg_day H5
  refine ⟨h6, ?_, ?_, H6⟩
  · rw [bs_X0_feed_0]
    simp only [sg_r1 H, e1, Option.bind_some, sg_r2 H1, nar_1, e2, sg_r3 H2, l3, e3, sg_r5 H3, e4, sg_r7 H4, e5, sg_r8 H5, l6, e6]
  · have m : ∀ j, j ≤ 8 → ∀ k, k = p + j → sp_P p k := fun j hj k hk => by unfold sp_P; omega
    exact (((((F1.mono (m 1 (by omega))).tr (F2.mono (m 2 (by omega)))).tr (F3.mono (m 3 (by omega)))).tr (F4.mono (m 5 (by omega)))).tr (F5.mono (m 7 (by omega)))).tr (F6.mono (m 8 (by omega)))
theorem va_up_le {f : Nat → Nat} {j x n : Nat} (h : ∀ k, f k ≤ n) (hx : x ≤ n) : ∀ k, va_up f j x k ≤ n := by
  intro k
  unfold va_up
  split
  · exact hx
  · exact h k
theorem sp_feed_B {S : sp_S} (B : sp_B S) (q l : Nat) : sp_B (sp_feed S q l) := by
  obtain ⟨b_law, ⟨b_l1, b_lv⟩, ⟨b_b1, b_bd⟩, b_pp, b_lo, b_fa, b_at, b_nu, b_ho, b_ag⟩ := id B
  exact ⟨b_law, ⟨b_l1, b_lv⟩, ⟨b_b1, b_bd⟩, b_pp, b_lo, va_up_le b_fa (by omega), va_up_le b_at (by omega), b_nu, va_up_le b_ho (by omega), b_ag⟩
