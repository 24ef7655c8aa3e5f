/-! WHAT THE METHODS OF Siege ANSWER -/
def sp_fold {α : Type} (g : Nat → α → α) : Nat → Nat → α → α
  | 0, _, a => a
  | r + 1, i, a => sp_fold g r (i + 1) (g i a)
def sp_any (f : Nat → Bool) : Nat → Nat → Bool
  | 0, _ => false
  | r + 1, i => f i || sp_any f r (i + 1)
/-- the k-th of those from i on -/
def sp_at (f : Nat → Bool) : Nat → Nat → Nat → Option Nat
  | 0, _, _ => none
  | r + 1, i, k => if f i = true then (match k with
    | 0 => some i
    | k + 1 => sp_at f r (i + 1) k) else sp_at f r (i + 1) k
def sp_b (b : Bool) : Int32 := if b = true then 1 else 0
def sp_o (o : Option Nat) : Int32 := match o with
  | none => -9
  | some k => nI k
theorem sp_b1 : sp_b true = 1 := rfl
theorem sp_b0 : sp_b false = 0 := rfl
theorem sp_b_eq0 (b : Bool) : (sp_b b = 0) = (b = false) := by cases b <;> simp [sp_b]
theorem lp_pure {α : Type} {n : Nat} {E : Nat → α → bn_R} {g : Nat → α → α} (step : ∀ i a, i < n → E i a = E (i + 1) (g i a)) : ∀ r i a, i + r = n → E i a = E n (sp_fold g r i a) := by
  intro r
  induction r with
  | zero => intro i a h; rw [show n = i by omega]; rfl
  | succ r ih => intro i a h; rw [step i a (by omega), ih (i + 1) _ (by omega)]; rfl
theorem sp_fold_cg {α : Type} {g g' : Nat → α → α} {n : Nat} (e : ∀ i a, i < n → g i a = g' i a) : ∀ r i a, i + r = n → sp_fold g r i a = sp_fold g' r i a := by
  intro r
  induction r with
  | zero => intro i a h; rfl
  | succ r ih => intro i a h; show sp_fold g r (i + 1) (g i a) = sp_fold g' r (i + 1) (g' i a); rw [e i a (by omega), ih (i + 1) _ (by omega)]
theorem sp_lt {a b : Nat} (ha : a < 2 ^ 31) (hb : b < 2 ^ 31) : (nI a < nI b) = (a < b) := propext (nI_ltI ha hb)
theorem sp_le {a b : Nat} (ha : a < 2 ^ 31) (hb : b < 2 ^ 31) : (nI a ≤ nI b) = (a ≤ b) := propext (nI_leI ha hb)
theorem sp_eq {a b : Nat} (ha : a < 2 ^ 31) (hb : b < 2 ^ 31) : (nI a = nI b) = (a = b) := propext (nI_eq ha hb)
theorem sp_ifeq {α : Type} {a b : Nat} (ha : a < 2 ^ 31) (hb : b < 2 ^ 31) {A B : α} : (if nI a = nI b then A else B) = if a = b then A else B := by simp only [sp_eq ha hb]
theorem sp_iflt {α : Type} {a b : Nat} (ha : a < 2 ^ 31) (hb : b < 2 ^ 31) {A B : α} : (if nI a < nI b then A else B) = if a < b then A else B := by simp only [sp_lt ha hb]
theorem sp_ifle {α : Type} {a b : Nat} (ha : a < 2 ^ 31) (hb : b < 2 ^ 31) {A B : α} : (if nI a ≤ nI b then A else B) = if a ≤ b then A else B := by simp only [sp_le ha hb]
theorem nI_d (n : Nat) : Int32.ofNat n = nI n := rfl
theorem sp_i2 {c : Prop} [Decidable c] {b : Bool} (h : c ↔ b = false) : (if c then (0 : Int32) else 1) = sp_b b := by
  cases b with
  | true => rw [if_neg (fun q => by simpa using h.mp q)]; rfl
  | false => rw [if_pos (h.mpr rfl)]; rfl
def sp_al (S : sp_S) (p : Nat) : Bool := decide (sp_fasted S p ≤ sp_lives S)
def sp_bd (S : sp_S) (l : Nat) : Bool := decide (sp_badAt S ≤ sp_age S l)
def sp_hb (S : sp_S) (l : Nat) : Bool := decide (sp_hold S l < 10)
def sp_ho (S : sp_S) (p l : Nat) : Bool := sp_hb S l && !decide (sp_hold S l = p)
theorem nI_10 : nI 10 = 10 := rfl
theorem nI_20 : nI 20 = 20 := rfl
theorem nI_99 : nI 99 = 99 := rfl
theorem nI_5 : nI 5 = 5 := rfl
section QQ
variable {h : bn_H} {p : Nat} {S : sp_S}
theorem sq_isAlive (H : sg_G h p S) (B : sp_B S) {j : Nat} (hj : j < 5) : bn_ev 7 0 [some (.ref p), some (.int (nI j))] [] h = some (some (.int (sp_b (sp_al S j))), h) := by
  obtain ⟨b_law, ⟨b_l1, b_lv⟩, ⟨b_b1, b_bd⟩, b_pp, b_lo, b_fa, b_at, b_nu, b_ho, b_ag⟩ := id B
  have := b_fa j
  rw [bs_X0_isAlive_0, sg_r1 H, sg_l_fasted H hj, Option.bind_some, sg_lives H, sp_i2 (b := sp_al S j)]
  rw [sp_lt (by omega) (by omega)]
  simp [sp_al]
theorem sq_isBad (H : sg_G h p S) (B : sp_B S) {j : Nat} (hj : j < 10) : bn_ev 8 0 [some (.ref p), some (.int (nI j))] [] h = some (some (.int (sp_b (sp_bd S j))), h) := by
  obtain ⟨b_law, ⟨b_l1, b_lv⟩, ⟨b_b1, b_bd⟩, b_pp, b_lo, b_fa, b_at, b_nu, b_ho, b_ag⟩ := id B
  have := b_ag j
  rw [bs_X0_isBad_0, sg_r6 H, sg_l_age H hj, Option.bind_some, sg_badAt H, sp_i2 (b := sp_bd S j)]
  rw [sp_lt (by omega) (by omega)]
  simp [sp_bd]
theorem sq_isHeld (H : sg_G h p S) (B : sp_B S) {j : Nat} (hj : j < 10) : bn_ev 9 0 [some (.ref p), some (.int (nI j))] [] h = some (some (.int (sp_b (sp_hb S j))), h) := by
  obtain ⟨b_law, ⟨b_l1, b_lv⟩, ⟨b_b1, b_bd⟩, b_pp, b_lo, b_fa, b_at, b_nu, b_ho, b_ag⟩ := id B
  have := b_ho j
  rw [bs_X0_isHeldByAnyone_0, sg_r5 H, sg_l_hold H hj, Option.bind_some, sp_i2 (b := sp_hb S j)]
  rw [← nI_10, sp_le (by omega) (by omega)]
  simp [sp_hb]
/-- an int within 0 .. n - 1, as a number -/
def sp_in (x : Int32) (n : Nat) : Bool := decide (0 ≤ x.toInt ∧ x.toInt < n)
theorem sp_in_nI {x : Int32} {n : Nat} (h : sp_in x n = true) (hn : n < 2 ^ 31) : ∃ j, j < n ∧ x = nI j := by
  simp only [sp_in, decide_eq_true_eq] at h
  exact vp_in_of (vp_in_iff.mpr h) hn
theorem sp_in_if {x : Int32} {n : Nat} (hn : n < 2 ^ 31) {α : Type} (A B : α) : (if x < 0 then A else if nI n ≤ x then A else B) = if sp_in x n = true then B else A := by
  have h0 : (x < 0) = (x.toInt < 0) := by rw [Int32.lt_iff_toInt_lt]; rfl
  have h1 : (nI n ≤ x) = ((n : Int) ≤ x.toInt) := by rw [Int32.le_iff_toInt_le, nI_toInt hn]
  simp only [h0, h1, sp_in, decide_eq_true_eq]
  by_cases a : x.toInt < 0
  · rw [if_pos a, if_neg (by omega)]
  · rw [if_neg a]
    by_cases b : (n : Int) ≤ x.toInt
    · rw [if_pos b, if_neg (by omega)]
    · rw [if_neg b, if_pos (by omega)]
theorem sq_hasPerson (H : sg_G h p S) (B : sp_B S) (x : Int32) : bn_ev 5 0 [some (.ref p), some (.int x)] [] h = some (some (.int (sp_b (sp_in x (sp_people S)))), h) := by
  obtain ⟨b_law, ⟨b_l1, b_lv⟩, ⟨b_b1, b_bd⟩, b_pp, b_lo, b_fa, b_at, b_nu, b_ho, b_ag⟩ := id B
  rw [bs_X0_hasPerson_0, sg_people H, sp_in_if (by omega)]
  cases sp_in x (sp_people S) <;> rfl
theorem sq_hasLoaf (H : sg_G h p S) (B : sp_B S) (x : Int32) : bn_ev 6 0 [some (.ref p), some (.int x)] [] h = some (some (.int (sp_b (sp_in x (sp_loaves S)))), h) := by
  obtain ⟨b_law, ⟨b_l1, b_lv⟩, ⟨b_b1, b_bd⟩, b_pp, b_lo, b_fa, b_at, b_nu, b_ho, b_ag⟩ := id B
  rw [bs_X0_hasLoaf_0, sg_loaves H, sp_in_if (by omega)]
  cases sp_in x (sp_loaves S) <;> rfl
def sp_g1 (f : Nat → Bool) (i : Nat) (a : Int32) : Int32 := if f i = true then a ||| bn_shl 1 (nI i) else a
def sp_g2 (f : Nat → Bool) (i : Nat) (a : Int32) : Int32 := if f i = true then a + 1 else a
def sp_bits (f : Nat → Bool) (n : Nat) : Int32 := sp_fold (sp_g1 f) n 0 0
def sp_count (f : Nat → Bool) (n : Nat) : Int32 := sp_fold (sp_g2 f) n 0 0
theorem sq_aliveBits (H : sg_G h p S) (B : sp_B S) : bn_ev 10 0 [some (.ref p), none, none] [] h = some (some (.int (sp_bits (sp_al S) (sp_people S))), h) := by
  obtain ⟨b_law, ⟨b_l1, b_lv⟩, ⟨b_b1, b_bd⟩, b_pp, b_lo, b_fa, b_at, b_nu, b_ho, b_ag⟩ := id B
  rw [bs_X0_aliveBits_0]
  refine (lp_pure (n := sp_people S) (E := fun i a => bn_ev 10 4 [some (.ref p), some (.int a), some (.int (nI i))] [] h) (g := sp_g1 (sp_al S)) (fun i a hi => ?_) (sp_people S) 0 0 (by omega)).trans ?_
  · show bn_ev 10 4 _ _ _ = _
    rw [bs_X0_aliveBits_4, sg_people H, if_neg (nI_ge hi (by omega)), sg_isC H, sq_isAlive H B (by omega), ← nI_succ]
    simp only [bn_gd, bn_cI, if_true, sp_g1]
    cases sp_al S i <;> rfl
  · show bn_ev 10 4 _ _ _ = _
    rw [bs_X0_aliveBits_4, sg_people H, if_pos (nI_le (Nat.le_refl _) (by omega))]
    rfl
theorem sq_heldBits (H : sg_G h p S) (B : sp_B S) (x : Int32) : bn_ev 13 0 [some (.ref p), some (.int x), none, none] [] h = some (some (.int (sp_bits (fun l => decide (nI (sp_hold S l) = x)) (sp_loaves S))), h) := by
  obtain ⟨b_law, ⟨b_l1, b_lv⟩, ⟨b_b1, b_bd⟩, b_pp, b_lo, b_fa, b_at, b_nu, b_ho, b_ag⟩ := id B
  rw [bs_X0_heldBits_0]
  refine (lp_pure (n := sp_loaves S) (E := fun i a => bn_ev 13 4 [some (.ref p), some (.int x), some (.int a), some (.int (nI i))] [] h) (g := sp_g1 (fun l => decide (nI (sp_hold S l) = x))) (fun i a hi => ?_) (sp_loaves S) 0 0 (by omega)).trans ?_
  · show bn_ev 13 4 _ _ _ = _
    rw [bs_X0_heldBits_4, sg_loaves H, if_neg (nI_ge hi (by omega)), sg_r5 H, sg_l_hold H (by omega), Option.bind_some, ← nI_succ]
    simp only [sp_g1, decide_eq_true_eq]
    split <;> rfl
  · show bn_ev 13 4 _ _ _ = _
    rw [bs_X0_heldBits_4, sg_loaves H, if_pos (nI_le (Nat.le_refl _) (by omega))]
    rfl
theorem sq_isOthers (H : sg_G h p S) (B : sp_B S) {j : Nat} (hj : j < 10) {q : Nat} (hq : q < 2 ^ 31) : bn_ev 14 0 [some (.ref p), some (.int (nI j)), some (.int (nI q))] [] h = some (some (.int (sp_b (sp_ho S q j))), h) := by
  obtain ⟨b_law, ⟨b_l1, b_lv⟩, ⟨b_b1, b_bd⟩, b_pp, b_lo, b_fa, b_at, b_nu, b_ho, b_ag⟩ := id B
  have := b_ho j
  rw [bs_X0_isHeldByOthers_0, sg_isC H, sq_isHeld H B hj]
  simp only [bn_gd, bn_cI, if_true, sp_b_eq0]
  rw [sg_r5 H, sg_l_hold H hj, Option.bind_some]
  rw [sp_ifeq (by omega) hq]
  unfold sp_ho
  cases sp_hb S j
  · rfl
  · simp only [Bool.true_eq_false, if_false, Bool.true_and]
    by_cases e : sp_hold S j = q
    · rw [if_pos e, decide_eq_true e]; rfl
    · rw [if_neg e, decide_eq_false e]; rfl
theorem sq_othersCount (H : sg_G h p S) (B : sp_B S) {q : Nat} (hq : q < 2 ^ 31) : bn_ev 15 0 [some (.ref p), some (.int (nI q)), none, none] [] h = some (some (.int (sp_count (sp_ho S q) (sp_loaves S))), h) := by
  obtain ⟨b_law, ⟨b_l1, b_lv⟩, ⟨b_b1, b_bd⟩, b_pp, b_lo, b_fa, b_at, b_nu, b_ho, b_ag⟩ := id B
  rw [bs_X0_heldByOthersCount_0]
  refine (lp_pure (n := sp_loaves S) (E := fun i a => bn_ev 15 4 [some (.ref p), some (.int (nI q)), some (.int a), some (.int (nI i))] [] h) (g := sp_g2 (sp_ho S q)) (fun i a hi => ?_) (sp_loaves S) 0 0 (by omega)).trans ?_
  · show bn_ev 15 4 _ _ _ = _
    rw [bs_X0_heldByOthersCount_4, sg_loaves H, if_neg (nI_ge hi (by omega)), sg_isC H, sq_isOthers H B (by omega) hq, ← nI_succ]
    simp only [bn_gd, bn_cI, if_true, sp_g2]
    cases sp_ho S q i <;> rfl
  · show bn_ev 15 4 _ _ _ = _
    rw [bs_X0_heldByOthersCount_4, sg_loaves H, if_pos (nI_le (Nat.le_refl _) (by omega))]
    rfl
theorem sq_aliveAt (H : sg_G h p S) (B : sp_B S) {k : Nat} (hk : k < 2 ^ 31) : bn_ev 12 0 [some (.ref p), some (.int (nI k)), none, none] [] h = some (some (.int (sp_o (sp_at (sp_al S) (sp_people S) 0 k))), h) := by
  obtain ⟨b_law, ⟨b_l1, b_lv⟩, ⟨b_b1, b_bd⟩, b_pp, b_lo, b_fa, b_at, b_nu, b_ho, b_ag⟩ := id B
  rw [bs_X0_aliveAt_0]
  have key : ∀ r i left, i + r = sp_people S → left < 2 ^ 31 → bn_ev 12 4 [some (.ref p), some (.int (nI k)), some (.int (nI left)), some (.int (nI i))] [] h = some (some (.int (sp_o (sp_at (sp_al S) r i left))), h) := by
    intro r
    induction r with
    | zero =>
      intro i left hi hl
      rw [bs_X0_aliveAt_4, sg_people H, if_pos (nI_le (by omega) (by omega))]
      rfl
    | succ r ih =>
      intro i left hi hl
      rw [bs_X0_aliveAt_4, sg_people H, if_neg (nI_ge (by omega) (by omega)), sg_isC H, sq_isAlive H B (by omega), ← nI_succ]
      simp only [bn_gd, bn_cI, if_true, sp_b_eq0, sp_at]
      cases sp_al S i with
      | false => simp only [if_true, Bool.false_eq_true, if_false]; exact ih (i + 1) left (by omega) hl
      | true =>
        simp only [if_true, Bool.true_eq_false, if_false]
        cases left with
        | zero => rw [if_pos nI_0]; rfl
        | succ left => rw [if_neg (nI_ne0 (by omega) hl), pk_m1]; exact ih (i + 1) left (by omega) (by omega)
  exact key (sp_people S) 0 k (by omega) hk
theorem sq_othersAt (H : sg_G h p S) (B : sp_B S) {q k : Nat} (hq : q < 2 ^ 31) (hk : k < 2 ^ 31) : bn_ev 16 0 [some (.ref p), some (.int (nI q)), some (.int (nI k)), none, none] [] h = some (some (.int (sp_o (sp_at (sp_ho S q) (sp_loaves S) 0 k))), h) := by
  obtain ⟨b_law, ⟨b_l1, b_lv⟩, ⟨b_b1, b_bd⟩, b_pp, b_lo, b_fa, b_at, b_nu, b_ho, b_ag⟩ := id B
  rw [bs_X0_heldByOthersAt_0]
  have key : ∀ r i left, i + r = sp_loaves S → left < 2 ^ 31 → bn_ev 16 5 [some (.ref p), some (.int (nI q)), some (.int (nI k)), some (.int (nI left)), some (.int (nI i))] [] h = some (some (.int (sp_o (sp_at (sp_ho S q) r i left))), h) := by
    intro r
    induction r with
    | zero =>
      intro i left hi hl
      rw [bs_X0_heldByOthersAt_5, sg_loaves H, if_pos (nI_le (by omega) (by omega))]
      rfl
    | succ r ih =>
      intro i left hi hl
      rw [bs_X0_heldByOthersAt_5, sg_loaves H, if_neg (nI_ge (by omega) (by omega)), sg_isC H, sq_isOthers H B (by omega) hq, ← nI_succ]
      simp only [bn_gd, bn_cI, if_true, sp_b_eq0, sp_at]
      cases sp_ho S q i with
      | false => simp only [if_true, Bool.false_eq_true, if_false]; exact ih (i + 1) left (by omega) hl
      | true =>
        simp only [if_true, Bool.true_eq_false, if_false]
        cases left with
        | zero => rw [if_pos nI_0]; rfl
        | succ left => rw [if_neg (nI_ne0 (by omega) hl), pk_m1]; exact ih (i + 1) left (by omega) (by omega)
  exact key (sp_loaves S) 0 k (by omega) hk
theorem sq_eatenLoaves (H : sg_G h p S) (B : sp_B S) : bn_ev 17 0 [some (.ref p), none, none] [] h = some (some (.int (sp_count (fun l => decide (sp_hold S l = 20)) (sp_loaves S))), h) := by
  obtain ⟨b_law, ⟨b_l1, b_lv⟩, ⟨b_b1, b_bd⟩, b_pp, b_lo, b_fa, b_at, b_nu, b_ho, b_ag⟩ := id B
  rw [bs_X0_eatenLoaves_0]
  refine (lp_pure (n := sp_loaves S) (E := fun i a => bn_ev 17 4 [some (.ref p), some (.int a), some (.int (nI i))] [] h) (g := sp_g2 (fun l => decide (sp_hold S l = 20))) (fun i a hi => ?_) (sp_loaves S) 0 0 (by omega)).trans ?_
  · show bn_ev 17 4 _ _ _ = _
    have := b_ho i
    rw [bs_X0_eatenLoaves_4, sg_loaves H, if_neg (nI_ge hi (by omega)), sg_r5 H, sg_l_hold H (by omega), Option.bind_some, ← nI_succ, ← nI_20, sp_ifeq (by omega) (by omega)]
    simp only [sp_g2, decide_eq_true_eq]
    split <;> rfl
  · show bn_ev 17 4 _ _ _ = _
    rw [bs_X0_eatenLoaves_4, sg_loaves H, if_pos (nI_le (Nat.le_refl _) (by omega))]
    rfl
theorem sq_badLoaves (H : sg_G h p S) (B : sp_B S) : bn_ev 18 0 [some (.ref p), none, none] [] h = some (some (.int (sp_count (fun l => !decide (sp_hold S l = 20) && sp_bd S l) (sp_loaves S))), h) := by
  obtain ⟨b_law, ⟨b_l1, b_lv⟩, ⟨b_b1, b_bd⟩, b_pp, b_lo, b_fa, b_at, b_nu, b_ho, b_ag⟩ := id B
  rw [bs_X0_badLoaves_0]
  refine (lp_pure (n := sp_loaves S) (E := fun i a => bn_ev 18 4 [some (.ref p), some (.int a), some (.int (nI i))] [] h) (g := sp_g2 (fun l => !decide (sp_hold S l = 20) && sp_bd S l)) (fun i a hi => ?_) (sp_loaves S) 0 0 (by omega)).trans ?_
  · show bn_ev 18 4 _ _ _ = _
    have := b_ho i
    rw [bs_X0_badLoaves_4, sg_loaves H, if_neg (nI_ge hi (by omega)), sg_r5 H, sg_l_hold H (by omega), Option.bind_some, ← nI_succ, ← nI_20, sp_ifeq (by omega) (by omega), sg_isC H, sq_isBad H B (by omega)]
    simp only [bn_gd, bn_cI, if_true, sp_b_eq0, sp_g2]
    by_cases e : sp_hold S i = 20
    · simp only [e, if_true, decide_true, Bool.not_true, Bool.false_and, Bool.false_eq_true, if_false]
    · simp only [e, if_false, decide_false, Bool.not_false, Bool.true_and]
      cases sp_bd S i <;> rfl
  · show bn_ev 18 4 _ _ _ = _
    rw [bs_X0_badLoaves_4, sg_loaves H, if_pos (nI_le (Nat.le_refl _) (by omega))]
    rfl
theorem sq_hasNumber (H : sg_G h p S) (B : sp_B S) {v : Nat} (hv : v < 2 ^ 31) : bn_ev 19 0 [some (.ref p), some (.int (nI v)), none] [] h = some (some (.int (sp_b (sp_any (fun l => decide (sp_num S l = v)) (sp_loaves S) 0))), h) := by
  obtain ⟨b_law, ⟨b_l1, b_lv⟩, ⟨b_b1, b_bd⟩, b_pp, b_lo, b_fa, b_at, b_nu, b_ho, b_ag⟩ := id B
  rw [bs_X0_hasNumber_0]
  have key : ∀ r i, i + r = sp_loaves S → bn_ev 19 2 [some (.ref p), some (.int (nI v)), some (.int (nI i))] [] h = some (some (.int (sp_b (sp_any (fun l => decide (sp_num S l = v)) r i))), h) := by
    intro r
    induction r with
    | zero =>
      intro i hi
      rw [bs_X0_hasNumber_2, sg_loaves H, if_pos (nI_le (by omega) (by omega))]
      rfl
    | succ r ih =>
      intro i hi
      have := b_nu i
      rw [bs_X0_hasNumber_2, sg_loaves H, if_neg (nI_ge (by omega) (by omega)), sg_r4 H, sg_l_num H (by omega), Option.bind_some, sp_ifeq (by omega) hv, ← nI_succ, ih (i + 1) (by omega)]
      simp only [sp_any]
      by_cases e : sp_num S i = v
      · rw [if_pos e, decide_eq_true e]; rfl
      · rw [if_neg e, decide_eq_false e]; rfl
  exact key (sp_loaves S) 0 (by omega)
def sp_gmax (S : sp_S) (i a : Nat) : Nat := if a < sp_num S i then sp_num S i else a
def sp_max (S : sp_S) : Nat := sp_fold (sp_gmax S) (sp_loaves S) 0 0
theorem sq_greatest (H : sg_G h p S) (B : sp_B S) : bn_ev 20 0 [some (.ref p), none, none] [] h = some (some (.int (nI (sp_max S))), h) ∧ sp_max S ≤ 99 := by
  obtain ⟨b_law, ⟨b_l1, b_lv⟩, ⟨b_b1, b_bd⟩, b_pp, b_lo, b_fa, b_at, b_nu, b_ho, b_ag⟩ := id B
  rw [bs_X0_greatestNumber_0]
  have key : ∀ r i a, i + r = sp_loaves S → a ≤ 99 → bn_ev 20 4 [some (.ref p), some (.int (nI a)), some (.int (nI i))] [] h = some (some (.int (nI (sp_fold (sp_gmax S) r i a))), h) ∧ sp_fold (sp_gmax S) r i a ≤ 99 := by
    intro r
    induction r with
    | zero =>
      intro i a hi ha
      rw [bs_X0_greatestNumber_4, sg_loaves H, if_pos (nI_le (by omega) (by omega))]
      exact ⟨rfl, ha⟩
    | succ r ih =>
      intro i a hi ha
      have hn := b_nu i
      rw [bs_X0_greatestNumber_4, sg_loaves H, if_neg (nI_ge (by omega) (by omega)), sg_r4 H, sg_l_num H (by omega), Option.bind_some, sp_iflt (by omega) (by omega), ← nI_succ]
      show bn_ev 20 4 _ _ _ = some (some (.int (nI (sp_fold (sp_gmax S) r (i + 1) (sp_gmax S i a)))), h) ∧ sp_fold (sp_gmax S) r (i + 1) (sp_gmax S i a) ≤ 99
      unfold sp_gmax
      split
      · exact ih (i + 1) _ (by omega) hn
      · exact ih (i + 1) _ (by omega) ha
  exact key (sp_loaves S) 0 0 (by omega) (by omega)
def sp_told (S : sp_S) (v : Nat) : Bool := sp_any (fun l => decide (sp_num S l = v)) (sp_loaves S) 0
def sp_miss (S : sp_S) : Int32 := sp_fold (sp_g2 (fun v => !sp_told S v)) (sp_max S - 1) 1 0
theorem sq_missingCount (H : sg_G h p S) (B : sp_B S) : bn_ev 21 0 [some (.ref p), none, none, none] [] h = some (some (.int (sp_miss S)), h) := by
  obtain ⟨b_law, ⟨b_l1, b_lv⟩, ⟨b_b1, b_bd⟩, b_pp, b_lo, b_fa, b_at, b_nu, b_ho, b_ag⟩ := id B
  obtain ⟨hg, hm⟩ := sq_greatest H B
  rw [bs_X0_missingCount_0, sg_isC H, hg]
  simp only [bn_gd, bn_cI, if_true]
  rcases Nat.eq_zero_or_pos (sp_max S) with h0 | h0
  · rw [bs_X0_missingCount_9, h0, if_pos (by decide)]
    unfold sp_miss
    rw [h0]
    rfl
  · refine (lp_pure (n := sp_max S) (E := fun i a => bn_ev 21 9 [some (.ref p), some (.int (nI (sp_max S))), some (.int a), some (.int (nI i))] [] h) (g := sp_g2 (fun v => !sp_told S v)) (fun i a hi => ?_) (sp_max S - 1) 1 0 (by omega)).trans ?_
    · show bn_ev 21 9 _ _ _ = _
      rw [bs_X0_missingCount_9, if_neg (nI_ge hi (by omega)), sg_isC H, sq_hasNumber H B (by omega), ← nI_succ]
      simp only [bn_gd, bn_cI, if_true, sp_b_eq0, sp_g2]
      show _ = bn_ev 21 9 [some (.ref p), some (.int (nI (sp_max S))), some (.int (if (!sp_told S i) = true then a + 1 else a)), some (.int (nI (i + 1)))] [] h
      show (if sp_told S i = false then _ else _) = _
      cases sp_told S i <;> rfl
    · show bn_ev 21 9 _ _ _ = _
      rw [bs_X0_missingCount_9, if_pos (nI_le (Nat.le_refl _) (by omega))]
      rfl
end QQ
