/-! AT BEST, as the class counts it -/
def iI (z : Int) : Int32 := Int32.ofInt z
theorem iI_toInt {z : Int} (h1 : -(2 ^ 31) ≤ z) (h2 : z < 2 ^ 31) : (iI z).toInt = z := Int32.toInt_ofInt_of_le h1 h2
theorem iI_nI (n : Nat) : nI n = iI n := by
  unfold nI iI
  exact (Int32.ofInt_eq_ofNat ..).symm
theorem iI_sub (a b : Int) : iI a - iI b = iI (a - b) := (Int32.ofInt_sub a b).symm
theorem iI_add (a b : Int) : iI a + iI b = iI (a + b) := (Int32.ofInt_add a b).symm
theorem iI_lt {a b : Int} (a1 : -(2 ^ 31) ≤ a) (a2 : a < 2 ^ 31) (b1 : -(2 ^ 31) ≤ b) (b2 : b < 2 ^ 31) {α : Type} {A B : α} : (if iI a < iI b then A else B) = if a < b then A else B := by
  have : (iI a < iI b) = (a < b) := by rw [Int32.lt_iff_toInt_lt, iI_toInt a1 a2, iI_toInt b1 b2]
  simp only [this]
theorem iI_le {a b : Int} (a1 : -(2 ^ 31) ≤ a) (a2 : a < 2 ^ 31) (b1 : -(2 ^ 31) ≤ b) (b2 : b < 2 ^ 31) {α : Type} {A B : α} : (if iI a ≤ iI b then A else B) = if a ≤ b then A else B := by
  have : (iI a ≤ iI b) = (a ≤ b) := by rw [Int32.le_iff_toInt_le, iI_toInt a1 a2, iI_toInt b1 b2]
  simp only [this]
def sb_f (S : sp_S) (k l : Nat) : Bool := sp_hb S l && decide (sp_age S l + k < sp_badAt S)
def sb_good (S : sp_S) (k : Nat) : Nat := sp_ct (sb_f S k) (sp_loaves S)
/-- meals behind fed, the last on m, those on the day fr or later -/
def sb_meals (lv : Nat) (fr : Nat) : Nat → Int → Int → Nat
  | 0, _, _ => 0
  | r + 1, fed, m => if m ≤ fed then 0 else (if (if m < 0 then 0 else m) < fr then 0 else 1) + sb_meals lv fr r fed (m - (lv + 1))
def sb_fed (S : sp_S) (p : Nat) : Int := if sp_ate S p = 0 then -1 - (sp_fasted S p : Int) else 0
def sb_dueP (S : sp_S) (lm : Int) (fr p : Nat) : Nat := if sp_al S p = true then sb_meals (sp_lives S) fr 300 (sb_fed S p) lm else 0
def sb_due (S : sp_S) (lm : Int) (fr : Nat) : Nat := sp_fold (fun p a => a + sb_dueP S lm fr p) (sp_people S) 0 0
/-- whether the days can be lived: for the days from fr on, r of them -/
def sb_can (S : sp_S) (lm : Int) : Nat → Nat → Bool
  | 0, _ => true
  | r + 1, fr => decide (sb_due S lm fr ≤ sb_good S fr) && sb_can S lm r (fr + 1)
def sb_ok (S : sp_S) (days : Nat) : Bool := sb_can S ((days : Int) - sp_lives S - 1) (((days : Int) - sp_lives S - 1).toNat + 1) 0
def sb_best (S : sp_S) : Nat → Nat → Nat
  | 0, d => d
  | r + 1, d => if sb_ok S (d + 1) = true then sb_best S r (d + 1) else d
theorem sb_meals_le (lv fr : Nat) : ∀ r fed m, sb_meals lv fr r fed m ≤ r := by
  intro r
  induction r with
  | zero => intro fed m; exact Nat.le_refl _
  | succ r ih =>
    intro fed m
    simp only [sb_meals]
    have := ih fed (m - (lv + 1))
    repeat' split
    all_goals omega
section BE
variable {h : bn_H} {p : Nat} {S : sp_S}
theorem sq_good (H : sg_G h p S) (B : sp_B S) {k : Nat} (hk : k < 1000) : bn_ev 31 0 [some (.ref p), some (.int (nI k)), none, none] [] h = some (some (.int (nI (sb_good S k))), h) := by
  obtain ⟨b_law, ⟨b_l1, b_lv⟩, ⟨b_b1, b_bd⟩, b_pp, b_lo, b_fa, b_at, b_nu, b_ho, b_ag⟩ := id B
  rw [bs_X0_loavesGoodOn_0]
  unfold sb_good
  rw [← sp_count_nI]
  refine (lp_pure (n := sp_loaves S) (E := fun i a => bn_ev 31 4 [some (.ref p), some (.int (nI k)), some (.int a), some (.int (nI i))] [] h) (g := sp_g2 (sb_f S k)) (fun i a hi => ?_) (sp_loaves S) 0 0 (by omega)).trans ?_
  · show bn_ev 31 4 _ _ _ = _
    have := b_ag i
    rw [bs_X0_loavesGoodOn_4, sg_loaves H, if_neg (nI_ge hi (by omega)), sg_isC H, sq_isHeld H B (by omega)]
    simp only [bn_gd, bn_cI, if_true, sp_b_eq0]
    rw [sg_r6 H, sg_l_age H (by omega), Option.bind_some, sg_badAt H, nI_add, sp_ifle (by omega) (by omega), ← nI_succ]
    simp only [sp_g2, sb_f]
    by_cases hh : sp_hb S i = true
    · by_cases q : sp_badAt S ≤ sp_age S i + k
      · have : ¬ sp_age S i + k < sp_badAt S := by omega
        simp [hh, q, this]
      · have : sp_age S i + k < sp_badAt S := by omega
        simp [hh, q, this]
    · simp [hh]
  · show bn_ev 31 4 _ _ _ = _
    rw [bs_X0_loavesGoodOn_4, sg_loaves H, if_pos (nI_le (Nat.le_refl _) (by omega))]
    rfl
theorem sq_meals (H : sg_G h p S) (B : sp_B S) {fr : Nat} (hfr : fr < 1000) (L : Int32) (i : Nat) (fed : Int) (f1 : -20 ≤ fed) (f2 : fed ≤ 0) : ∀ (r a k : Nat) (m : Int), m < 400 → m - fed ≤ r → -50 ≤ m → 2 * (k : Int) + (m - fed) ≤ 398 → k ≤ 300 → ∃ m' k', bn_ev 30 54 [some (.ref p), some (.int L), some (.int (nI fr)), some (.int (nI a)), some (.int (nI i)), some (.int (iI fed)), some (.int (iI m)), some (.int (nI k))] [] h = bn_ev 30 5 [some (.ref p), some (.int L), some (.int (nI fr)), some (.int (nI (a + sb_meals (sp_lives S) fr r fed m))), some (.int (nI (i + 1))), some (.int (iI fed)), some (.int m'), some (.int k')] [] h := by
  obtain ⟨b_law, ⟨b_l1, b_lv⟩, ⟨b_b1, b_bd⟩, b_pp, b_lo, b_fa, b_at, b_nu, b_ho, b_ag⟩ := id B
  intro r
  induction r with
  | zero =>
    intro a k m hm hr h50 hk hk3
    refine ⟨iI m, nI k, ?_⟩
    rw [bs_X0_mealsDue_54, iI_le (by omega) (by omega) (by omega) (by omega), if_pos (show m ≤ fed by omega), ite_self, ← nI_succ]
    rfl
  | succ r ih =>
    intro a k m hm hr h50 hk hk3
    have ev := bs_X0_mealsDue_54 p L (nI fr) (nI a) (nI i) (iI fed) (iI m) (nI k) h
    rw [iI_le (by omega) (by omega) (by omega) (by omega)] at ev
    by_cases q : m ≤ fed
    · refine ⟨iI m, nI k, ?_⟩
      rw [ev, if_pos q, ite_self, ← nI_succ]
      have : sb_meals (sp_lives S) fr (r + 1) fed m = 0 := by simp only [sb_meals]; rw [if_pos q]
      rw [this]
      rfl
    · rw [if_neg q, if_neg (show ¬ (200 : Int32) ≤ nI k from nI_ge (b := 200) (by omega) (by omega)), bs_X0_mealsDue_82, bs_X0_mealsDue_82] at ev
      have emax : (if iI m < 0 then 0 else iI m) = iI (if m < 0 then 0 else m) := by
        rw [show (0 : Int32) = iI 0 from rfl, iI_lt (by omega) (by omega) (by omega) (by omega)]
        split <;> rfl
      have ml : (if m < 0 then 0 else m) < 400 := by split <;> omega
      have ml2 : 0 ≤ (if m < 0 then 0 else m) := by split <;> omega
      have es : iI m - (nI (sp_lives S) + 1) = iI (m - ((sp_lives S : Int) + 1)) := by
        rw [← nI_succ, iI_nI, iI_sub]
        rfl
      have e1 : nI fr = iI fr := iI_nI fr
      rw [emax, e1, iI_lt (by omega) (by omega) (by omega) (by omega), ← e1, sg_lives H, sg_lives H, es, ← nI_succ, ← nI_succ] at ev
      have em : sb_meals (sp_lives S) fr (r + 1) fed m = (if (if m < 0 then 0 else m) < (fr : Int) then 0 else 1) + sb_meals (sp_lives S) fr r fed (m - ((sp_lives S : Int) + 1)) := by
        simp only [sb_meals]
        rw [if_neg q]
      rw [em]
      by_cases q2 : (if m < 0 then 0 else m) < (fr : Int)
      · obtain ⟨m', k', e⟩ := ih a (k + 1) (m - ((sp_lives S : Int) + 1)) (by omega) (by omega) (by omega) (by omega) (by omega)
        refine ⟨m', k', ?_⟩
        rw [ev, if_pos q2, if_pos q2, e, Nat.zero_add]
      · obtain ⟨m', k', e⟩ := ih (a + 1) (k + 1) (m - ((sp_lives S : Int) + 1)) (by omega) (by omega) (by omega) (by omega) (by omega)
        refine ⟨m', k', ?_⟩
        rw [ev, if_neg q2, if_neg q2, e, Nat.add_assoc]
theorem sq_due (H : sg_G h p S) (B : sp_B S) {fr : Nat} (hfr : fr < 1000) (lm : Int) (l1 : -30 ≤ lm) (l2 : lm < 250) : bn_ev 30 0 [some (.ref p), some (.int (iI lm)), some (.int (nI fr)), none, none, none, none, none] [] h = some (some (.int (nI (sb_due S lm fr))), h) ∧ sb_due S lm fr ≤ 1500 := by
  obtain ⟨b_law, ⟨b_l1, b_lv⟩, ⟨b_b1, b_bd⟩, b_pp, b_lo, b_fa, b_at, b_nu, b_ho, b_ag⟩ := id B
  rw [bs_X0_mealsDue_0]
  have key : ∀ r i a o o' o3, i + r = sp_people S → a ≤ 300 * i → bn_ev 30 5 [some (.ref p), some (.int (iI lm)), some (.int (nI fr)), some (.int (nI a)), some (.int (nI i)), o, o', o3] [] h = some (some (.int (nI (sp_fold (fun p a => a + sb_dueP S lm fr p) r i a))), h) ∧ sp_fold (fun p a => a + sb_dueP S lm fr p) r i a ≤ 300 * (i + r) := by
    intro r
    induction r with
    | zero =>
      intro i a o o' o3 hi ha
      rw [bs_X0_mealsDue_5, sg_people H, if_pos (nI_le (by omega) (by omega))]
      exact ⟨rfl, ha⟩
    | succ r ih =>
      intro i a o o' o3 hi ha
      have h5 : i < 5 := by omega
      have hf := b_fa i
      have hat := b_at i
      have fs : sp_fold (fun p a => a + sb_dueP S lm fr p) (r + 1) i a = sp_fold (fun p a => a + sb_dueP S lm fr p) r (i + 1) (a + sb_dueP S lm fr i) := rfl
      have hd : sb_dueP S lm fr i ≤ 300 := by
        unfold sb_dueP
        split
        · exact sb_meals_le _ _ _ _ _
        · omega
      rw [fs, bs_X0_mealsDue_5, sg_people H, if_neg (nI_ge (by omega) (by omega)), sg_isC H, sq_isAlive H B h5]
      simp only [bn_gd, bn_cI, if_true, sp_b_eq0]
      cases ha2 : sp_al S i with
      | false =>
        have e0 : sb_dueP S lm fr i = 0 := by unfold sb_dueP; rw [ha2]; rfl
        rw [if_pos rfl, e0, ← nI_succ]
        have := ih (i + 1) (a + 0) o o' o3 (by omega) (by omega)
        refine ⟨this.1, by have := this.2; omega⟩
      | true =>
        have e0 : sb_dueP S lm fr i = sb_meals (sp_lives S) fr 300 (sb_fed S i) lm := by unfold sb_dueP; rw [ha2]; rfl
        have hfl : sp_fasted S i ≤ sp_lives S := by simpa [sp_al] using ha2
        rw [if_neg (by decide), sg_r2 H, sg_l_ate H h5, Option.bind_some, sp_if0 (by omega)]
        have ef : -20 ≤ sb_fed S i ∧ sb_fed S i ≤ 0 := by unfold sb_fed; split <;> omega
        have fin : ∀ x : Int32, x = iI (sb_fed S i) → bn_ev 30 54 [some (.ref p), some (.int (iI lm)), some (.int (nI fr)), some (.int (nI a)), some (.int (nI i)), some (.int x), some (.int (iI lm)), some (.int 0)] [] h = some (some (.int (nI (sp_fold (fun p a => a + sb_dueP S lm fr p) r (i + 1) (a + sb_dueP S lm fr i)))), h) ∧ sp_fold (fun p a => a + sb_dueP S lm fr p) r (i + 1) (a + sb_dueP S lm fr i) ≤ 300 * (i + (r + 1)) := by
          intro x hx
          subst hx
          obtain ⟨m', k', e⟩ := sq_meals H B hfr (iI lm) i (sb_fed S i) ef.1 ef.2 300 a 0 lm (by omega) (by omega) (by omega) (by omega) (by omega)
          rw [show (0 : Int32) = nI 0 from rfl, e, ← e0]
          have := ih (i + 1) (a + sb_dueP S lm fr i) (some (.int (iI (sb_fed S i)))) (some (.int m')) (some (.int k')) (by omega) (by omega)
          exact ⟨this.1, by have := this.2; omega⟩
        by_cases q : sp_ate S i = 0
        · rw [if_pos q, sg_r1 H, sg_l_fasted H h5, Option.bind_some]
          refine fin _ ?_
          unfold sb_fed
          rw [if_pos q, iI_nI, show (-1 : Int32) = iI (-1) from rfl, iI_sub]
        · rw [if_neg q]
          refine fin _ ?_
          unfold sb_fed
          rw [if_neg q]
          rfl
  obtain ⟨h1, h2⟩ := key (sp_people S) 0 0 none none none (by omega) (by omega)
  exact ⟨h1, by unfold sb_due; omega⟩
theorem sq_can (H : sg_G h p S) (B : sp_B S) {days : Nat} (hd : days ≤ 200) : bn_ev 29 0 [some (.ref p), some (.int (nI days)), none, none] [] h = some (some (.int (sp_b (sb_ok S days))), h) := by
  obtain ⟨b_law, ⟨b_l1, b_lv⟩, ⟨b_b1, b_bd⟩, b_pp, b_lo, b_fa, b_at, b_nu, b_ho, b_ag⟩ := id B
  rw [bs_X0_canAllLive_0, sg_lives H]
  have el : nI days - nI (sp_lives S) - 1 = iI ((days : Int) - sp_lives S - 1) := by
    rw [iI_nI, iI_nI, iI_sub, show (1 : Int32) = iI 1 from rfl, iI_sub]
  rw [el]
  generalize hlm : (days : Int) - sp_lives S - 1 = lm
  have key : ∀ r fr, fr + r = lm.toNat + 1 → bn_ev 29 11 [some (.ref p), some (.int (nI days)), some (.int (iI lm)), some (.int (nI fr))] [] h = some (some (.int (sp_b (sb_can S lm r fr))), h) := by
    intro r
    induction r with
    | zero =>
      intro fr hr
      have emax : (if iI lm < 0 then 0 else iI lm) = nI lm.toNat := by
        rw [show (0 : Int32) = iI 0 from rfl, iI_lt (by omega) (by omega) (by omega) (by omega), iI_nI]
        split
        · rw [show lm.toNat = 0 by omega]; rfl
        · rw [show (lm.toNat : Int) = lm by omega]
      rw [bs_X0_canAllLive_11, emax, sp_iflt (by omega) (by omega), if_pos (by omega)]
      rfl
    | succ r ih =>
      intro fr hr
      have emax : (if iI lm < 0 then 0 else iI lm) = nI lm.toNat := by
        rw [show (0 : Int32) = iI 0 from rfl, iI_lt (by omega) (by omega) (by omega) (by omega), iI_nI]
        split
        · rw [show lm.toNat = 0 by omega]; rfl
        · rw [show (lm.toNat : Int) = lm by omega]
      obtain ⟨d1, d2⟩ := sq_due H B (show fr < 1000 by omega) lm (by omega) (by omega)
      have g2 : sb_good S fr ≤ sp_loaves S := sp_ct_le _ _
      rw [bs_X0_canAllLive_11, emax, sp_iflt (by omega) (by omega), if_neg (by omega), sg_isC H, d1]
      simp only [bn_gd, bn_cI, if_true]
      rw [sg_isC H, sq_good H B (show fr < 1000 by omega)]
      simp only [if_true]
      rw [sp_ifle (by omega) (by omega), ← nI_succ, ih (fr + 1) (by omega)]
      simp only [sb_can]
      by_cases q : sb_due S lm fr ≤ sb_good S fr
      · rw [if_pos q, decide_eq_true q]; rfl
      · rw [if_neg q, decide_eq_false q]; rfl
  unfold sb_ok
  rw [hlm]
  exact key (lm.toNat + 1) 0 (by omega)
end BE
def ca_best (S : sp_S) : Int32 := if sn_a S = 0 ∨ 3 < sn_a S then -3 else nI (sb_best S 200 0)
theorem cq_best {h : bn_H} {X : ct_X} (H : cw h X) (hB : ct_B X) : bn_ev 62 0 [some (.ref 0), none, none] [] h = some (some (.int (ca_best X.2.1)), h) := by
  obtain ⟨f, c, O, -⟩ := H.O
  have G := H.G
  have B := hB.2.2.1
  have ec : bn_ev 11 0 [some (.ref 3)] [] h = some (some (.int (nI (sn_a X.2.1))), h) := sq_aliveCount G B
  have ale : sn_a X.2.1 ≤ sp_people X.2.1 := sp_ct_le _ _
  have hpp := B.2.2.2.1
  have e0 := bs_X2_best_0 0 h
  simp only [co_now O, sg_isC G, ec, bn_gd, bn_cI, if_true, sp_if0 (show sn_a X.2.1 < 2 ^ 31 by omega)] at e0
  rw [show (3 : Int32) = nI 3 from rfl, sp_ifle (by omega) (by omega)] at e0
  rw [e0]
  unfold ca_best
  by_cases h0 : sn_a X.2.1 = 0
  · rw [if_pos h0, if_pos (Or.inl h0)]
    rfl
  · rw [if_neg h0]
    by_cases h3 : sn_a X.2.1 ≤ 3
    · rw [if_pos h3, if_neg (by omega)]
      have key : ∀ r d, d + r = 200 → bn_ev 62 22 [some (.ref 0), some (.int (nI (sn_a X.2.1))), some (.int (nI d))] [] h = some (some (.int (nI (sb_best X.2.1 r d))), h) := by
        intro r
        induction r with
        | zero =>
          intro d hd
          rw [bs_X2_best_22, if_pos (show (200 : Int32) ≤ nI d from nI_le (a := 200) (by omega) (by omega))]
          rfl
        | succ r ih =>
          intro d hd
          rw [bs_X2_best_22, if_neg (show ¬ (200 : Int32) ≤ nI d from nI_ge (b := 200) (by omega) (by omega)), co_now O, sg_isC G, ← nI_succ, sq_can G B (show d + 1 ≤ 200 by omega)]
          simp only [bn_gd, bn_cI, if_true, sp_b_eq0, sb_best]
          rw [ih (d + 1) (by omega)]
          cases sb_ok X.2.1 (d + 1) <;> rfl
      exact key 200 0 (by omega)
    · rw [if_neg h3, if_pos (by omega)]
      rfl
