/-! A TEXT IS READ -/
/-- the figure at a place, if it is one of those that are allowed -/
def sr_fig (T : Nat × (Nat → Nat)) (pos lo hi : Nat) : Option Nat := if pos < T.1 ∧ 48 ≤ T.2 pos ∧ T.2 pos ≤ 57 ∧ lo ≤ T.2 pos - 48 ∧ T.2 pos - 48 ≤ hi then some (T.2 pos - 48) else none
def sr_dig (T : Nat × (Nat → Nat)) (pos : Nat) : Option Nat := if pos < T.1 ∧ 48 ≤ T.2 pos ∧ T.2 pos ≤ 57 then some (T.2 pos - 48) else none
def sr_sign (T : Nat × (Nat → Nat)) (pos c : Nat) : Bool := decide (pos < T.1 ∧ T.2 pos = c)
def sr_free (S : sp_S) (v : Nat) : Bool := decide (1 ≤ v) && !sp_told S v
def sr_some (S : sp_S) (t : Nat) : Bool := sp_any (fun u => sr_free S (10 * t + u)) 10 0
/-- a number at a place: or the place of the fault -/
def sr_num (T : Nat × (Nat → Nat)) (S : sp_S) (pos : Nat) : Nat ⊕ Nat := match sr_dig T pos with
  | none => .inl pos
  | some t => if sr_some S t = true then (match sr_dig T (pos + 1) with
    | none => .inl (pos + 1)
    | some u => if sr_free S (10 * t + u) = true then .inr (10 * t + u) else .inl (pos + 1)) else .inl pos
def sr_rules (T : Nat × (Nat → Nat)) (S : sp_S) : Nat ⊕ sp_S := if sr_sign T 0 83 = true then (match sr_fig T 1 0 2 with
  | none => .inl 1
  | some a => match sr_fig T 2 1 9 with
    | none => .inl 2
    | some b => match sr_fig T 3 1 9 with
      | none => .inl 3
      | some c => .inr (sp_begin S a b c)) else .inl 0
def sr_person (T : Nat × (Nat → Nat)) (S : sp_S) (pos : Nat) : Nat ⊕ (Nat × sp_S) := if sp_people S < 5 then (match sr_fig T (pos + 1) 0 (sp_lives S) with
  | none => .inl (pos + 1)
  | some f => .inr (pos + 2, sp_addP S f)) else .inl pos
def sr_loaf (T : Nat × (Nat → Nat)) (S : sp_S) (pos : Nat) : Nat ⊕ (Nat × sp_S) := if sp_people S = 0 ∨ 10 ≤ sp_loaves S ∨ sr_sign T pos 76 = false then .inl pos else (match sr_num T S (pos + 1) with
  | .inl q => .inl q
  | .inr v => match sr_fig T (pos + 3) 0 (sp_people S - 1) with
    | none => .inl (pos + 3)
    | some o => match sr_fig T (pos + 4) 0 9 with
      | none => .inl (pos + 4)
      | some a => .inr (pos + 5, sp_addL S v o a))
def sr_part (T : Nat × (Nat → Nat)) (S : sp_S) (pos : Nat) : Nat ⊕ (Nat × sp_S) := if sr_sign T pos 80 = true then sr_person T S pos else sr_loaf T S pos
/-- the parts; the fault, if there is one -/
def sr_parts (T : Nat × (Nat → Nat)) : Nat → Nat → sp_S → Option Nat × sp_S
  | 0, pos, S => (if pos < T.1 then some pos else none, S)
  | r + 1, pos, S => if pos < T.1 then (match sr_part T S pos with
    | .inl q => (some q, S)
    | .inr q => sr_parts T r q.1 q.2) else (none, S)
def sr_all (T : Nat × (Nat → Nat)) (S : sp_S) : Option Nat × sp_S := match sr_rules T S with
  | .inl q => (some q, S)
  | .inr S' => sr_parts T 15 4 S'
theorem sr_fig_le {T : Nat × (Nat → Nat)} {pos lo hi d : Nat} (h : sr_fig T pos lo hi = some d) : lo ≤ d ∧ d ≤ hi ∧ d ≤ 9 := by
  unfold sr_fig at h
  split at h
  · rename_i q; cases h; omega
  · cases h
theorem sp_begin_B {S : sp_S} (B : sp_B S) {a b c : Nat} (ha : a ≤ 2) (hb : 1 ≤ b ∧ b ≤ 9) (hc : 1 ≤ c ∧ c ≤ 9) : sp_B (sp_begin S a b c) := by
  obtain ⟨b_law, ⟨b_l1, b_lv⟩, ⟨b_b1, b_bd⟩, b_pp, b_lo, b_fa, b_at, b_nu, b_ho, b_ag⟩ := id B
  exact ⟨ha, hb, hc, Nat.zero_le _, Nat.zero_le _, b_fa, b_at, b_nu, b_ho, b_ag⟩
theorem sp_addP_B {S : sp_S} (B : sp_B S) {f : Nat} (hf : f ≤ 10) (hp : sp_people S < 5) : sp_B (sp_addP S f) := by
  obtain ⟨b_law, ⟨b_l1, b_lv⟩, ⟨b_b1, b_bd⟩, b_pp, b_lo, b_fa, b_at, b_nu, b_ho, b_ag⟩ := id B
  exact ⟨b_law, ⟨b_l1, b_lv⟩, ⟨b_b1, b_bd⟩, hp, b_lo, va_up_le b_fa hf, va_up_le b_at (by omega), b_nu, b_ho, b_ag⟩
theorem sp_addL_B {S : sp_S} (B : sp_B S) {n q a : Nat} (hn : n ≤ 99) (hq : q ≤ 20) (ha : a ≤ 99) (hl : sp_loaves S < 10) : sp_B (sp_addL S n q a) := by
  obtain ⟨b_law, ⟨b_l1, b_lv⟩, ⟨b_b1, b_bd⟩, b_pp, b_lo, b_fa, b_at, b_nu, b_ho, b_ag⟩ := id B
  exact ⟨b_law, ⟨b_l1, b_lv⟩, ⟨b_b1, b_bd⟩, b_pp, hl, b_fa, b_at, va_up_le b_nu hn, va_up_le b_ho hq, va_up_le b_ag ha⟩
/-- the text, with its place -/
def cr_T (h : bn_H) (T : Nat × (Nat → Nat)) (pos : Nat) : Prop := bn_g h 1 = some (.inr (1, [.ref 2, .int (nI T.1), .int (nI pos)])) ∧ sg_A h 2 0 80 (fun j => nI (T.2 j)) ∧ T.1 ≤ 80 ∧ (∀ j, T.2 j < 256) ∧ pos ≤ T.1
section RD
variable {h : bn_H} {T : Nat × (Nat → Nat)} {pos : Nat}
theorem cr_bytes (H : cr_T h T pos) {K : Nat → bn_R} : bn_gR h 1 1 0 K = K 2 := ob_R H.1 rfl
theorem cr_len (H : cr_T h T pos) {K : Int32 → bn_R} : bn_gI h 1 1 1 K = K (nI T.1) := ob_I H.1 rfl
theorem cr_pos (H : cr_T h T pos) {K : Int32 → bn_R} : bn_gI h 1 1 2 K = K (nI pos) := ob_I H.1 rfl
theorem cr_C (H : cr_T h T pos) : bn_isC h 1 1 = true := ob_C H.1
theorem cr_set (H : cr_T h T pos) {q : Nat} (hq : q ≤ T.1) : ∃ h', bn_pf h 1 1 2 (.int (nI q)) = some h' ∧ sg_F (fun k => k = 1) h h' ∧ cr_T h' T q := by
  obtain ⟨h1, e1, F1, O1⟩ := ob_P H.1 (k := 2) (by simp) (.int (nI q))
  exact ⟨h1, e1, F1, O1, H.2.1.fr F1 (by omega), H.2.2.1, H.2.2.2.1, hq⟩
theorem cr_ld (H : cr_T h T pos) (hp : pos < T.1) : bn_ld h 2 0 (nI pos) = some (nI (T.2 pos)) := by
  have := H.2.2.1
  exact H.2.1.ld (by omega) (by decide)
theorem sq_sign (H : cr_T h T pos) {c : Nat} (hc : c < 256) : bn_ev 42 0 [some (.ref 1), some (.int (nI c))] [] h = some (some (.int (sp_b (sr_sign T pos c))), h) := by
  have h1 := H.2.2.1
  have h2 := H.2.2.2.2
  have h3 := H.2.2.2.1 pos
  rw [bs_X1_isSignHere_0, cr_pos H, cr_len H, sp_ifle (by omega) (by omega)]
  unfold sr_sign
  by_cases q : T.1 ≤ pos
  · rw [if_pos q, decide_eq_false (by omega)]; rfl
  · rw [if_neg q, cr_bytes H, cr_pos H, cr_ld H (by omega), Option.bind_some, sp_ifeq (by omega) (by omega)]
    by_cases e : T.2 pos = c
    · rw [if_pos e, decide_eq_true ⟨by omega, e⟩]; rfl
    · rw [if_neg e, decide_eq_false (fun z => e z.2)]; rfl
theorem sq_readSign (H : cr_T h T pos) {c : Nat} (hc : c < 256) : ∃ h', bn_ev 41 0 [some (.ref 1), some (.int (nI c))] [] h = some (some (.int (sp_b (sr_sign T pos c))), h') ∧ sg_F (fun k => k = 1) h h' ∧ cr_T h' T (if sr_sign T pos c = true then pos + 1 else pos) := by
  rw [bs_X1_readSign_0, cr_C H, sq_sign H hc]
  simp only [bn_gd, bn_cI, if_true, sp_b_eq0]
  cases hs : sr_sign T pos c with
  | false => exact ⟨h, by simp only [if_true]; rfl, sg_F.rf, by simpa using H⟩
  | true =>
    have hp : pos < T.1 := by
      simp only [sr_sign, decide_eq_true_eq] at hs
      exact hs.1
    obtain ⟨h1, e1, F1, H1⟩ := cr_set H (q := pos + 1) hp
    refine ⟨h1, ?_, F1, by simpa using H1⟩
    simp only [Bool.true_eq_false, if_false]
    rw [cr_pos H, ← nI_succ, e1]
    rfl
theorem sq_figureHere (H : cr_T h T pos) : bn_ev 44 0 [some (.ref 1)] [] h = some (some (.int (sp_o (sr_dig T pos))), h) := by
  have h1 := H.2.2.1
  have h2 := H.2.2.2.2
  have h3 := H.2.2.2.1 pos
  rw [bs_X1_figureHere_0, cr_pos H, cr_len H, sp_ifle (by omega) (by omega)]
  unfold sr_dig
  by_cases q : T.1 ≤ pos
  · rw [if_pos q, if_neg (by omega)]; rfl
  · rw [if_neg q, cr_bytes H, cr_pos H, cr_ld H (by omega), Option.bind_some, show (48 : Int32) = nI 48 from rfl, sp_iflt (by omega) (by omega)]
    by_cases e : T.2 pos < 48
    · rw [if_pos e, if_neg (by omega)]; rfl
    · rw [if_neg e, cr_bytes H, cr_pos H, cr_ld H (by omega), Option.bind_some, show (57 : Int32) = nI 57 from rfl, sp_ifle (by omega) (by omega)]
      by_cases e2 : T.2 pos ≤ 57
      · rw [if_pos e2, if_pos ⟨by omega, by omega, e2⟩, cr_bytes H, cr_pos H, cr_ld H (by omega), Option.bind_some, pk_sub (by omega)]; rfl
      · rw [if_neg e2, if_neg (by omega)]; rfl
theorem sq_readFigure (H : cr_T h T pos) {lo hi : Nat} (hlo : lo ≤ 9) (hhi : hi ≤ 99) : ∃ h', bn_ev 43 0 [some (.ref 1), some (.int (nI lo)), some (.int (nI hi)), none] [] h = some (some (.int (sp_o (sr_fig T pos lo hi))), h') ∧ sg_F (fun k => k = 1) h h' ∧ cr_T h' T (if (sr_fig T pos lo hi).isSome = true then pos + 1 else pos) := by
  have h1 := H.2.2.1
  have h2 := H.2.2.2.2
  have h3 := H.2.2.2.1 pos
  rw [bs_X1_readFigure_0, cr_C H, sq_figureHere H]
  simp only [bn_gd, bn_cI, if_true]
  by_cases hd : pos < T.1 ∧ 48 ≤ T.2 pos ∧ T.2 pos ≤ 57
  · have ed : sr_dig T pos = some (T.2 pos - 48) := by unfold sr_dig; rw [if_pos hd]
    rw [ed, show sp_o (some (T.2 pos - 48)) = nI (T.2 pos - 48) from rfl, sp_iflt (by omega) (by omega)]
    by_cases q1 : T.2 pos - 48 < lo
    · have ef : sr_fig T pos lo hi = none := by unfold sr_fig; rw [if_neg (by omega)]
      rw [if_pos q1, ef]
      exact ⟨h, rfl, sg_F.rf, by simpa using H⟩
    · rw [if_neg q1, sp_ifle (by omega) (by omega)]
      by_cases q2 : T.2 pos - 48 ≤ hi
      · have ef : sr_fig T pos lo hi = some (T.2 pos - 48) := by unfold sr_fig; rw [if_pos ⟨hd.1, hd.2.1, hd.2.2, by omega, q2⟩]
        obtain ⟨h1, e1, F1, H1⟩ := cr_set H (q := pos + 1) hd.1
        rw [if_pos q2, ef]
        refine ⟨h1, ?_, F1, by simpa using H1⟩
        rw [cr_pos H, ← nI_succ, e1]
        rfl
      · have ef : sr_fig T pos lo hi = none := by unfold sr_fig; rw [if_neg (by omega)]
        rw [if_neg q2, ef]
        exact ⟨h, rfl, sg_F.rf, by simpa using H⟩
  · have ed : sr_dig T pos = none := by unfold sr_dig; rw [if_neg hd]
    have ef : sr_fig T pos lo hi = none := by unfold sr_fig; rw [if_neg (fun z => hd ⟨z.1, z.2.1, z.2.2.1⟩)]
    rw [ed, ef]
    have l9 : sp_o none < nI lo := by
      show (-9 : Int32) < nI lo
      rw [Int32.lt_iff_toInt_lt, nI_toInt (by omega)]
      show (-9 : Int) < _
      omega
    rw [if_pos l9]
    exact ⟨h, rfl, sg_F.rf, by simpa using H⟩
theorem sq_isFree {p : Nat} {S : sp_S} (G : sg_G h p S) (B : sp_B S) {v : Nat} (hv : v < 2 ^ 31) : bn_ev 40 0 [some (.ref p), some (.int (nI v))] [] h = some (some (.int (sp_b (sr_free S v))), h) := by
  rw [bs_X1_isFree_0, show (1 : Int32) = nI 1 from rfl, sp_iflt hv (by omega), sg_isC G, sq_hasNumber G B hv]
  simp only [bn_gd, bn_cI, if_true, sp_b_eq0]
  unfold sr_free
  by_cases q : v < 1
  · rw [if_pos q, decide_eq_false (by omega)]; rfl
  · rw [if_neg q, decide_eq_true (by omega)]
    show (if sp_told S v = false then _ else _) = _
    cases sp_told S v <;> rfl
theorem sq_hasFree {p : Nat} {S : sp_S} (G : sg_G h p S) (B : sp_B S) {t : Nat} (ht : t ≤ 9) : bn_ev 39 0 [some (.ref p), some (.int (nI t)), none] [] h = some (some (.int (sp_b (sr_some S t))), h) := by
  rw [bs_X1_hasFreeNumber_0]
  have key : ∀ r i, i + r = 10 → bn_ev 39 2 [some (.ref p), some (.int (nI t)), some (.int (nI i))] [] h = some (some (.int (sp_b (sp_any (fun u => sr_free S (10 * t + u)) r i))), h) := by
    intro r
    induction r with
    | zero =>
      intro i hi
      rw [bs_X1_hasFreeNumber_2, if_pos (show (9 : Int32) < nI i from nI_lt (a := 9) (by omega) (by omega))]
      rfl
    | succ r ih =>
      intro i hi
      rw [bs_X1_hasFreeNumber_2, if_neg (show ¬ (9 : Int32) < nI i from nI_nlt (b := i) (a := 9) (by omega) (by omega)), show (10 : Int32) * nI t = nI (10 * t) from pk_mul 10 t, nI_add, sq_isFree G B (by omega), ← nI_succ]
      simp only [bn_cI, sp_b_eq0]
      rw [ih (i + 1) (by omega)]
      simp only [sp_any]
      cases sr_free S (10 * t + i) <;> rfl
  exact key 10 0 (by omega)
end RD
