/-! WHAT THE CLASS DOES: acts and slots -/
def sp_gc (f : Nat → Bool) (i a : Nat) : Nat := if f i = true then a + 1 else a
def sp_ct (f : Nat → Bool) (n : Nat) : Nat := sp_fold (sp_gc f) n 0 0
theorem sp_ct_key (f : Nat → Bool) : ∀ r i a, sp_fold (sp_g2 f) r i (nI a) = nI (sp_fold (sp_gc f) r i a) ∧ a ≤ sp_fold (sp_gc f) r i a ∧ sp_fold (sp_gc f) r i a ≤ a + r := by
  intro r
  induction r with
  | zero => intro i a; exact ⟨rfl, Nat.le_refl _, Nat.le_refl _⟩
  | succ r ih =>
    intro i a
    show sp_fold (sp_g2 f) r (i + 1) (sp_g2 f i (nI a)) = nI (sp_fold (sp_gc f) r (i + 1) (sp_gc f i a)) ∧ a ≤ sp_fold (sp_gc f) r (i + 1) (sp_gc f i a) ∧ sp_fold (sp_gc f) r (i + 1) (sp_gc f i a) ≤ a + (r + 1)
    have e : sp_g2 f i (nI a) = nI (sp_gc f i a) := by
      unfold sp_g2 sp_gc
      split
      · exact (nI_succ a).symm
      · rfl
    have e2 : a ≤ sp_gc f i a ∧ sp_gc f i a ≤ a + 1 := by unfold sp_gc; split <;> omega
    obtain ⟨h1, h2, h3⟩ := ih (i + 1) (sp_gc f i a)
    rw [e]
    exact ⟨h1, by omega, by omega⟩
theorem sp_count_nI (f : Nat → Bool) (n : Nat) : sp_count f n = nI (sp_ct f n) := (sp_ct_key f n 0 0).1
theorem sp_ct_le (f : Nat → Bool) (n : Nat) : sp_ct f n ≤ n := by have := (sp_ct_key f n 0 0).2.2; unfold sp_ct; omega
theorem sq_bitCount (h : bn_H) (f : Nat → Bool) {n : Nat} (hn : n ≤ 5) : bn_ev 129 0 [some (.int (sp_bits f n))] [] h = some (some (.int (sp_count f n)), h) := by
  rw [bs_J6_bitCount_0f7a4_0]
  congr 4
  have h6 : n = 0 ∨ n = 1 ∨ n = 2 ∨ n = 3 ∨ n = 4 ∨ n = 5 := by omega
  unfold sp_bits sp_count
  rcases h6 with rfl | rfl | rfl | rfl | rfl | rfl <;> simp only [sp_fold, sp_g1, sp_g2, Nat.zero_add, Nat.reduceAdd] <;> generalize f 0 = b0 <;> generalize f 1 = b1 <;> generalize f 2 = b2 <;> generalize f 3 = b3 <;> generalize f 4 = b4 <;> revert b0 b1 b2 b3 b4 <;> decide +kernel
theorem sq_aliveCount {h : bn_H} {p : Nat} {S : sp_S} (H : sg_G h p S) (B : sp_B S) : bn_ev 11 0 [some (.ref p)] [] h = some (some (.int (nI (sp_ct (sp_al S) (sp_people S)))), h) := by
  obtain ⟨b_law, ⟨b_l1, b_lv⟩, ⟨b_b1, b_bd⟩, b_pp, b_lo, b_fa, b_at, b_nu, b_ho, b_ag⟩ := id B
  rw [bs_X0_aliveCount_0]
  simp only [sg_isC H, sq_aliveBits H B, bn_gd, bn_cI, if_true, sq_bitCount h _ b_pp, sp_count_nI]
def ct_rem (X : ct_X) (S : sp_S) : ct_X := (X.1, S, (X.2.1 :: X.2.2.1).take 20, X.2.2.2)
def ca_eat (X : ct_X) (a1 a2 : Int32) : Int32 × ct_X := if sp_in a1 (sp_people X.2.1) = true then (if sp_in a2 (sp_loaves X.2.1) = true then (if sp_may X.2.1 a1.toNatClampNeg a2.toNatClampNeg = true then (nI (sp_num X.2.1 a2.toNatClampNeg), ct_rem X (sp_feed X.2.1 a1.toNatClampNeg a2.toNatClampNeg)) else (-3, X)) else (-1, X)) else (-1, X)
def ca_give (X : ct_X) (a1 a2 : Int32) : Int32 × ct_X := if sp_in a1 (sp_loaves X.2.1) = true then (if a2 = 10 ∨ sp_in a2 (sp_people X.2.1) = true then (if sp_hold X.2.1 a1.toNatClampNeg = 20 ∨ nI (sp_hold X.2.1 a1.toNatClampNeg) = a2 ∨ (¬ a2 = 10 ∧ sp_al X.2.1 a2.toNatClampNeg = false) then (-3, X) else (nI (sp_hold X.2.1 a1.toNatClampNeg), ct_rem X (sp_u_hold X.2.1 a1.toNatClampNeg a2.toNatClampNeg))) else (-1, X)) else (-1, X)
def sp_nine (v : Nat) : Bool := decide (v / 10 = 9) || decide (v % 10 = 9)
def sp_cut (v : Nat) : Nat := if v / 10 = 9 then v - 30 else v - 3
def ca_cut (X : ct_X) (a1 : Int32) : Int32 × ct_X := if sp_in a1 (sp_loaves X.2.1) = true then (if sp_hold X.2.1 a1.toNatClampNeg = 20 ∨ sp_nine (sp_num X.2.1 a1.toNatClampNeg) = false then (-3, X) else (nI (sp_cut (sp_num X.2.1 a1.toNatClampNeg)), ct_rem X (sp_u_num X.2.1 a1.toNatClampNeg (sp_cut (sp_num X.2.1 a1.toNatClampNeg))))) else (-1, X)
def ca_day (X : ct_X) : Int32 × ct_X := (sp_died X.2.1, ct_rem X (sp_pass X.2.1))
def ca_seed (X : ct_X) (y : Int64) : Int64 × ct_X := (sp_seed X.2.1, (X.1, sp_u_seed X.2.1 y, X.2.2))
def ca_undo (X : ct_X) : Int32 × ct_X := match X.2.2.1 with
  | [] => (-3, X)
  | a :: A => (nI A.length, (X.1, a, A, X.2.2.2))
def ca_keep (X : ct_X) (a1 : Int32) : Int32 × ct_X := if sp_in a1 2 = true then (sp_day X.2.1, (X.1, X.2.1, X.2.2.1, va_up X.2.2.2 a1.toNatClampNeg (some X.2.1))) else (-1, X)
def ca_again (X : ct_X) (a1 : Int32) : Int32 × ct_X := if sp_in a1 2 = true then (match X.2.2.2 a1.toNatClampNeg with
  | none => (-3, X)
  | some S => (sp_day S, (X.1, S, [], X.2.2.2))) else (-1, X)
/-- a call of the class, with an int for an answer -/
def cq_ok (mi : Nat) (as : bn_L) (h : bn_H) (r : Int32) (X' : ct_X) : Prop := ∃ h', bn_ev mi 0 as [] h = some (some (.int r), h') ∧ cw h' X' ∧ sg_F cw_P h h'
theorem cq_ok.same {mi : Nat} {as : bn_L} {h : bn_H} {r : Int32} {X : ct_X} (H : cw h X) (e : bn_ev mi 0 as [] h = some (some (.int r), h)) : cq_ok mi as h r X := ⟨h, e, H, sg_F.rf⟩
theorem cw.G {h : bn_H} {X : ct_X} (H : cw h X) : sg_G h 3 X.2.1 := by
  obtain ⟨f, c, R, K, b, Sp, O, -, G, -⟩ := H
  exact G
theorem cw.O {h : bn_H} {X : ct_X} (H : cw h X) : ∃ f c, cw_O h f c ∧ c = X.2.2.1.length := by
  obtain ⟨f, c, R, K, b, Sp, O, -, G, -, -, -, A, -⟩ := H
  exact ⟨f, c, O, A.2.2.1.symm⟩
section DO
variable {h : bn_H} {X : ct_X}
theorem cq_eat (H : cw h X) (hB : ct_B X) (a1 a2 : Int32) : cq_ok 53 [some (.ref 0), some (.int a1), some (.int a2)] h (ca_eat X a1 a2).1 (ca_eat X a1 a2).2 := by
  obtain ⟨f, c, O, -⟩ := H.O
  have G := H.G
  have B := hB.2.2.1
  obtain ⟨b_law, ⟨b_l1, b_lv⟩, ⟨b_b1, b_bd⟩, b_pp, b_lo, b_fa, b_at, b_nu, b_ho, b_ag⟩ := id B
  unfold ca_eat
  have e0 := bs_X2_eat_0 0 a1 a2 h
  simp only [co_now O, sg_isC G, sq_hasPerson G B, sq_hasLoaf G B, bn_gd, bn_cI, if_true, sp_b_eq0] at e0
  cases hi : sp_in a1 (sp_people X.2.1) with
  | false => rw [hi] at e0; exact cq_ok.same H e0
  | true =>
    cases hk : sp_in a2 (sp_loaves X.2.1) with
    | false => rw [hi, hk] at e0; exact cq_ok.same H e0
    | true =>
      rw [hi, hk] at e0
      obtain ⟨j, hj, rfl⟩ := sp_in_nI hi (by omega)
      obtain ⟨l, hl, rfl⟩ := sp_in_nI hk (by omega)
      have h5 : j < 5 := by omega
      have h10 : l < 10 := by omega
      simp only [sq_allowed G B h5 h10, sp_b_eq0, Bool.true_eq_false, if_false] at e0
      simp only [nI_clamp (show j < 2 ^ 31 by omega), nI_clamp (show l < 2 ^ 31 by omega), if_true]
      cases hm : sp_may X.2.1 j l with
      | false => rw [hm] at e0; exact cq_ok.same H e0
      | true =>
        rw [hm] at e0
        obtain ⟨h1, e1, H1, F1⟩ := cq_remember H hB
        obtain ⟨f1, c1, O1, -⟩ := H1.O
        have G1 : sg_G h1 3 X.2.1 := H1.G
        obtain ⟨h2, e2, F2, G2⟩ := sq_feed G1 h5 h10
        have H2 := H1.now F2 G2
        obtain ⟨f2, c2, O2, -⟩ := H2.O
        have ln : bn_ld h2 7 0 (nI l) = some (nI (sp_num X.2.1 l)) := sg_l_num G2 h10
        refine ⟨h2, ?_, H2, F1.tr (F2.mono (sp_P_lt (by omega)))⟩
        refine e0.trans ?_
        simp only [Bool.true_eq_false, if_false, if_true, co_C O, e1, bn_cV, co_now O1, sg_isC G1, e2, co_now O2, sg_r4 G2, ln, Option.bind_some]
theorem cq_day (H : cw h X) (hB : ct_B X) : cq_ok 56 [some (.ref 0)] h (ca_day X).1 (ca_day X).2 := by
  obtain ⟨f, c, O, -⟩ := H.O
  have B := hB.2.2.1
  obtain ⟨h1, e1, H1, F1⟩ := cq_remember H hB
  obtain ⟨f1, c1, O1, -⟩ := H1.O
  have G1 : sg_G h1 3 X.2.1 := H1.G
  obtain ⟨h2, e2, F2, G2⟩ := sq_pass G1 B
  refine ⟨h2, ?_, H1.now F2 G2, F1.tr (F2.mono (sp_P_lt (by omega)))⟩
  rw [bs_X2_day_0]
  simp only [co_C O, bn_gd, if_true, e1, bn_cV, co_now O1, sg_isC G1, e2, bn_cI]
  rfl
theorem cq_seed (H : cw h X) (y : Int64) : ∃ h', bn_ev 59 0 [some (.ref 0), some (.long y), none, none, none] [] h = some (some (.long (ca_seed X y).1), h') ∧ cw h' (ca_seed X y).2 ∧ sg_F cw_P h h' := by
  obtain ⟨f, c, O, -⟩ := H.O
  have G := H.G
  obtain ⟨h1, e1, F1, G1⟩ := sg_s_seed G y
  refine ⟨h1, ?_, H.now (F1.mono (fun k hk => by unfold sp_P; omega)) G1, F1.mono (eq_lt (by omega))⟩
  rw [bs_X2_seed_0]
  simp only [co_now O, sg_seed G, e1, Option.bind_some]
  rfl
theorem cq_give (H : cw h X) (hB : ct_B X) (a1 a2 : Int32) : cq_ok 54 [some (.ref 0), some (.int a1), some (.int a2), none] h (ca_give X a1 a2).1 (ca_give X a1 a2).2 := by
  obtain ⟨f, c, O, -⟩ := H.O
  have G := H.G
  have B := hB.2.2.1
  obtain ⟨b_law, ⟨b_l1, b_lv⟩, ⟨b_b1, b_bd⟩, b_pp, b_lo, b_fa, b_at, b_nu, b_ho, b_ag⟩ := id B
  unfold ca_give
  have e0 := bs_X2_give_0 0 a1 a2 h
  simp only [co_now O, sg_isC G, sq_hasPerson G B, sq_hasLoaf G B, bn_gd, bn_cI, if_true, sp_b_eq0] at e0
  cases hi : sp_in a1 (sp_loaves X.2.1) with
  | false => rw [hi] at e0; exact cq_ok.same H e0
  | true =>
    rw [hi] at e0
    obtain ⟨l, hl, rfl⟩ := sp_in_nI hi (by omega)
    have h10 : l < 10 := by omega
    have h20 := b_ho l
    simp only [nI_clamp (show l < 2 ^ 31 by omega), if_true]
    simp only [Bool.true_eq_false, if_false] at e0
    have fin : ∀ o (q : Nat), a2 = nI q → q < 2 ^ 31 → cq_ok 54 [some (.ref 0), some (.int (nI l)), some (.int a2), none] h (nI (sp_hold X.2.1 l)) (ct_rem X (sp_u_hold X.2.1 l q)) ∨ ¬ bn_ev 54 0 [some (.ref 0), some (.int (nI l)), some (.int a2), none] [] h = bn_ev 54 71 [some (.ref 0), some (.int (nI l)), some (.int a2), some (.int (nI (sp_hold X.2.1 l)))] [] h ∨ o = 1 := by
      intro o q hq hq2
      by_cases ee : bn_ev 54 0 [some (.ref 0), some (.int (nI l)), some (.int a2), none] [] h = bn_ev 54 71 [some (.ref 0), some (.int (nI l)), some (.int a2), some (.int (nI (sp_hold X.2.1 l)))] [] h
      · refine Or.inl ?_
        obtain ⟨h1, e1, H1, F1⟩ := cq_remember H hB
        obtain ⟨f1, c1, O1, -⟩ := H1.O
        have G1 : sg_G h1 3 X.2.1 := H1.G
        obtain ⟨h2, e2, F2, G2⟩ := sg_s_hold G1 h10 q
        rw [← hq] at e2
        refine ⟨h2, ee.trans ?_, H1.now (F2.mono (fun k hk => by unfold sp_P; omega)) G2, F1.tr (F2.mono (eq_lt (by omega)))⟩
        rw [bs_X2_give_71]
        simp only [co_C O, bn_gd, if_true, e1, bn_cV, co_now O1, sg_r5 G1, e2, Option.bind_some]
      · exact Or.inr (Or.inl ee)
    have e30 : ∀ o, bn_ev 54 30 [some (.ref 0), some (.int (nI l)), some (.int a2), o] [] h = if sp_hold X.2.1 l = 20 then some (some (.int (-3)), h) else if nI (sp_hold X.2.1 l) = a2 then some (some (.int (-3)), h) else if a2 = 10 then bn_ev 54 71 [some (.ref 0), some (.int (nI l)), some (.int a2), some (.int (nI (sp_hold X.2.1 l)))] [] h else bn_cI (bn_ev 7 0 [some (.ref 3), some (.int a2)] [] h) (fun x6 h5 => if x6 = 0 then some (some (.int (-3)), h5) else bn_ev 54 71 [some (.ref 0), some (.int (nI l)), some (.int a2), some (.int (nI (sp_hold X.2.1 l)))] [] h5) := by
      intro o
      rw [bs_X2_give_30]
      simp only [co_now O, sg_r5 G, sg_l_hold G h10, Option.bind_some, sg_isC G, bn_gd, if_true]
      rw [sp_if20 (by omega)]
    by_cases h1 : a2 = 10
    · rw [if_pos h1, e30] at e0
      rw [if_pos (Or.inl h1)]
      by_cases h2 : sp_hold X.2.1 l = 20
      · rw [if_pos h2] at e0
        rw [if_pos (Or.inl h2)]
        exact cq_ok.same H e0
      · by_cases h3 : nI (sp_hold X.2.1 l) = a2
        · rw [if_neg h2, if_pos h3] at e0
          rw [if_pos (Or.inr (Or.inl h3))]
          exact cq_ok.same H e0
        · rw [if_neg h2, if_neg h3, if_pos h1] at e0
          rw [if_neg (fun q => q.elim h2 (fun q => q.elim h3 (fun q => q.1 h1)))]
          have hc : a2.toNatClampNeg = 10 := by rw [h1]; decide
          rw [hc]
          rcases fin 0 10 h1 (by omega) with q | q | q
          · exact q
          · exact absurd e0 q
          · exact absurd q (by decide)
    · rw [if_neg h1] at e0
      cases hk : sp_in a2 (sp_people X.2.1) with
      | false =>
        rw [hk] at e0
        rw [if_neg (fun q => q.elim h1 (fun q => absurd q (by decide)))]
        exact cq_ok.same H e0
      | true =>
        rw [hk] at e0
        rw [if_pos (Or.inr rfl)]
        simp only [Bool.true_eq_false, if_false] at e0
        rw [e30] at e0
        obtain ⟨q, hq, rfl⟩ := sp_in_nI hk (by omega)
        have h5 : q < 5 := by omega
        simp only [nI_clamp (show q < 2 ^ 31 by omega)]
        by_cases h2 : sp_hold X.2.1 l = 20
        · rw [if_pos h2] at e0
          rw [if_pos (Or.inl h2)]
          exact cq_ok.same H e0
        · by_cases h3 : nI (sp_hold X.2.1 l) = nI q
          · rw [if_neg h2, if_pos h3] at e0
            rw [if_pos (Or.inr (Or.inl h3))]
            exact cq_ok.same H e0
          · rw [if_neg h2, if_neg h3, if_neg h1, sq_isAlive G B h5] at e0
            simp only [bn_cI, sp_b_eq0] at e0
            cases ha : sp_al X.2.1 q with
            | false =>
              rw [ha] at e0
              rw [if_pos (Or.inr (Or.inr ⟨h1, rfl⟩))]
              exact cq_ok.same H e0
            | true =>
              rw [ha] at e0
              rw [if_neg (fun z => z.elim h2 (fun z => z.elim h3 (fun z => absurd z.2 (by decide))))]
              rcases fin 0 q rfl (by omega) with z | z | z
              · exact z
              · exact absurd e0 z
              · exact absurd z (by decide)
theorem sq_nine (h : bn_H) {v : Nat} (hv : v ≤ 99) : bn_ev 72 0 [some (.int (nI v))] [] h = some (some (.int (sp_b (sp_nine v))), h) := by
  rw [bs_X2_hasNine_0]
  have e1 : nI v / 10 = nI (v / 10) := pk_div (d := 10) (by omega) (by decide) (by decide)
  have e2 : bn_rem (nI v) 10 = nI (v % 10) := pk_rem (d := 10) (by omega) (by decide) (by decide)
  have i1 : (nI (v / 10) = 9) = (v / 10 = 9) := sp_eq (b := 9) (by omega) (by decide)
  have i2 : (nI (v % 10) = 9) = (v % 10 = 9) := sp_eq (b := 9) (by omega) (by decide)
  simp only [e1, e2, i1, i2]
  unfold sp_nine
  by_cases a : v / 10 = 9
  · simp [a, sp_b]
  · by_cases b : v % 10 = 9
    · simp [a, b, sp_b]
    · simp [a, b, sp_b]
theorem sq_whenCut (h : bn_H) {v : Nat} (hv : v ≤ 99) (h9 : sp_nine v = true) : bn_ev 73 0 [some (.int (nI v))] [] h = some (some (.int (nI (sp_cut v))), h) ∧ sp_cut v ≤ 99 := by
  rw [bs_X2_whenCut_0]
  have e1 : nI v / 10 = nI (v / 10) := pk_div (d := 10) (by omega) (by decide) (by decide)
  have i1 : (nI (v / 10) = 9) = (v / 10 = 9) := sp_eq (b := 9) (by omega) (by decide)
  simp only [e1, i1]
  simp only [sp_nine, Bool.or_eq_true, decide_eq_true_eq] at h9
  unfold sp_cut
  by_cases a : v / 10 = 9
  · rw [if_pos a, if_pos a]
    refine ⟨?_, by omega⟩
    rw [show nI v - 30 = nI (v - 30) from pk_sub (b := 30) (by omega)]
  · rw [if_neg a, if_neg a]
    refine ⟨?_, by omega⟩
    rw [show nI v - 3 = nI (v - 3) from pk_sub (b := 3) (by omega)]
theorem cq_cut (H : cw h X) (hB : ct_B X) (a1 : Int32) : cq_ok 55 [some (.ref 0), some (.int a1)] h (ca_cut X a1).1 (ca_cut X a1).2 := by
  obtain ⟨f, c, O, -⟩ := H.O
  have G := H.G
  have B := hB.2.2.1
  obtain ⟨b_law, ⟨b_l1, b_lv⟩, ⟨b_b1, b_bd⟩, b_pp, b_lo, b_fa, b_at, b_nu, b_ho, b_ag⟩ := id B
  unfold ca_cut
  have e0 := bs_X2_cut_0 0 a1 h
  simp only [co_now O, sg_isC G, sq_hasLoaf G B, bn_gd, bn_cI, if_true, sp_b_eq0] at e0
  cases hi : sp_in a1 (sp_loaves X.2.1) with
  | false => rw [hi] at e0; exact cq_ok.same H e0
  | true =>
    rw [hi] at e0
    obtain ⟨l, hl, rfl⟩ := sp_in_nI hi (by omega)
    have h10 : l < 10 := by omega
    have h20 := b_ho l
    have h99 := b_nu l
    simp only [nI_clamp (show l < 2 ^ 31 by omega), if_true]
    simp only [Bool.true_eq_false, if_false, sg_r5 G, sg_l_hold G h10, Option.bind_some, sg_r4 G, sg_l_num G h10, sq_nine h h99, sp_b_eq0, sp_if20 (show sp_hold X.2.1 l < 2 ^ 31 by omega)] at e0
    by_cases h2 : sp_hold X.2.1 l = 20
    · rw [if_pos h2] at e0
      rw [if_pos (Or.inl h2)]
      exact cq_ok.same H e0
    · rw [if_neg h2] at e0
      cases h9 : sp_nine (sp_num X.2.1 l) with
      | false =>
        rw [h9] at e0
        rw [if_pos (Or.inr rfl)]
        exact cq_ok.same H e0
      | true =>
        rw [h9] at e0
        rw [if_neg (fun z => z.elim h2 (fun z => absurd z (by decide)))]
        obtain ⟨h1, e1, H1, F1⟩ := cq_remember H hB
        obtain ⟨f1, c1, O1, -⟩ := H1.O
        have G1 : sg_G h1 3 X.2.1 := H1.G
        obtain ⟨h2, e2, F2, G2⟩ := sg_s_num G1 h10 (sp_cut (sp_num X.2.1 l))
        have H2 := H1.now (F2.mono (fun k hk => by unfold sp_P; omega)) G2
        obtain ⟨f2, c2, O2, -⟩ := H2.O
        have wc := (sq_whenCut h1 h99 h9).1
        have ln : bn_ld h2 7 0 (nI l) = some (nI (sp_cut (sp_num X.2.1 l))) := by
          rw [sg_l_num G2 h10]
          show some (nI (if l = l then _ else _)) = _
          rw [if_pos rfl]
        refine ⟨h2, e0.trans ?_, H2, F1.tr (F2.mono (eq_lt (by omega)))⟩
        simp only [Bool.true_eq_false, if_false, if_true, co_C O, e1, bn_cV, co_now O1, sg_r4 G1, sg_l_num G1 h10, Option.bind_some, wc, e2, co_now O2, sg_r4 G2, ln]
theorem cq_undo (H : cw h X) (hB : ct_B X) : cq_ok 58 [some (.ref 0)] h (ca_undo X).1 (ca_undo X).2 := by
  have H0 := H
  obtain ⟨f, c, R, K, b, Sp, O, a2, a3, a4, a5, a6, ⟨c1, c2, c3, c4⟩, a8⟩ := H
  have e0 := bs_X2_undo_0 0 h
  rw [co_cnt O, sp_if0 (by omega)] at e0
  unfold ca_undo
  cases hA : X.2.2.1 with
  | nil =>
    rw [hA] at c3
    rw [if_pos (show c = 0 from c3.symm)] at e0
    exact cq_ok.same H0 e0
  | cons a A =>
    rw [hA] at c3 c4
    have hc : c = A.length + 1 := c3.symm
    rw [if_neg (by omega), co_cnt O] at e0
    obtain ⟨h1, e1, F1, O1⟩ := ob_P O (k := 5) (by simp) (.int (nI (c - 1)))
    have O1 : cw_O h1 f (c - 1) := O1
    have em : nI c - 1 = nI (c - 1) := pk_sub (b := 1) (by omega)
    have b2 := a2.fr F1 (by omega) (by omega)
    have b3 := a3.fr F1 (fun k x y => by omega)
    have b4 := a4.fr F1 (fun k x y => by omega)
    have b5 := a5.fr F1 (fun q hq => by omega)
    have b6 := a6.fr F1 (fun q hq => by omega)
    have hj : (f + (c - 1)) % 20 < 20 := Nat.mod_lt _ (by omega)
    have hR : R ((f + (c - 1)) % 20) = a := by
      have := c4 0 (by omega)
      rw [show c - 1 - 0 = c - 1 by omega] at this
      simpa using this.symm
    have Ga := b5.2 _ hj
    rw [hR] at Ga
    obtain ⟨h2, e2, F2, G2⟩ := sq_becomes b3 Ga (hB.2.2.2.1 a (by rw [hA]; exact List.mem_cons_self)).1 (by omega)
    have hn : ∀ q, (q < 3 ∨ 11 < q) → ¬ sp_P 3 q := fun q hq hp => by unfold sp_P at hp; omega
    have d1 := O1.fr F2 (hn 0 (by omega))
    refine ⟨h2, ?_, ⟨f, c - 1, R, K, b, Sp, d1, b2.fr F2 (hn 1 (by omega)) (hn 2 (by omega)), G2, b4.fr F2 (fun k x y => hn k (by omega)), b5.fr F2 (fun q hq => hn q (by omega)), b6.fr F2 (fun q hq => hn q (by omega)), ⟨c1, by omega, by show A.length = c - 1; omega, fun k hk => ?_⟩, a8⟩, (F1.mono (eq_lt (by omega))).tr (F2.mono (sp_P_lt (by omega)))⟩
    · refine e0.trans ?_
      rw [em, e1, Option.bind_some, co_now O1, co_acts O1, co_first O1, co_cnt O1, nI_add, rem_20 (by omega), b5.1.ld hj (by decide), Option.bind_some, sg_isC b3, e2]
      simp only [bn_gd, bn_cV, if_true]
      rw [co_cnt d1]
      show some (some (Value.int (nI (c - 1))), h2) = some (some (Value.int (nI A.length)), h2)
      rw [show c - 1 = A.length by omega]
    · have := c4 (k + 1) (by omega)
      rw [show c - 1 - 1 - k = c - 1 - (k + 1) by omega, ← this]
      rfl
theorem cq_forget {f c : Nat} (O : cw_O h f c) : ∃ h', bn_ev 70 0 [some (.ref 0)] [] h = some (none, h') ∧ sg_F (fun q => q = 0) h h' ∧ cw_O h' 0 0 := by
  obtain ⟨h1, e1, F1, O1⟩ := ob_P O (k := 4) (by simp) (.int 0)
  obtain ⟨h2, e2, F2, O2⟩ := ob_P O1 (k := 5) (by simp) (.int 0)
  exact ⟨h2, by rw [bs_X2_forgetActs_0, e1, Option.bind_some, e2]; rfl, F1.tr F2, O2⟩
theorem sp_in_2 {α : Type} (x : Int32) (A B : α) : (if x < 0 then A else if x < 2 then B else A) = if sp_in x 2 = true then B else A := by
  rw [← sp_in_if (n := 2) (by omega)]
  by_cases a : x < 0
  · rw [if_pos a, if_pos a]
  · rw [if_neg a, if_neg a]
    have : (nI 2 ≤ x) = ¬ (x < 2) := by
      apply propext
      rw [Int32.not_lt]
      rfl
    by_cases b : x < 2
    · rw [if_pos b, if_neg (by rw [this]; exact fun q => q b)]
    · rw [if_neg b, if_pos (by rw [this]; exact b)]
theorem cq_keep (H : cw h X) (hB : ct_B X) (a1 : Int32) : cq_ok 66 [some (.ref 0), some (.int a1)] h (ca_keep X a1).1 (ca_keep X a1).2 := by
  have H0 := H
  obtain ⟨f, c, R, K, b, Sp, O, a2, a3, a4, a5, a6, a7, a8⟩ := H
  have e0 := bs_X2_keep_0 0 a1 h
  rw [sp_in_2] at e0
  unfold ca_keep
  cases hi : sp_in a1 2 with
  | false => rw [hi] at e0; exact cq_ok.same H0 e0
  | true =>
    rw [hi] at e0
    obtain ⟨j, hj, rfl⟩ := sp_in_nI hi (by omega)
    simp only [nI_clamp (show j < 2 ^ 31 by omega), if_true]
    rw [if_pos rfl, co_slots O, a6.1.ld hj (by decide), Option.bind_some, co_now O] at e0
    have Gj := a6.2.1 j hj
    obtain ⟨h1, e1, F1, G1⟩ := sq_becomes Gj a3 hB.2.2.1 (by omega)
    have hn : ∀ q, (q < 204 ∨ 221 < q) → ¬ sp_P (204 + 9 * j) q := fun q hq hp => by unfold sp_P at hp; omega
    have A1 : sg_A h1 23 1 2 (fun j => sp_b (b j)) := a6.2.2.fr F1 (hn 23 (by omega))
    obtain ⟨h2, e2, F2, A2⟩ := A1.sd hj (by decide) 1
    have d1 := (O.fr F1 (hn 0 (by omega))).fr F2 (by omega)
    have d3 := (a3.fr F1 (fun k x y => hn k (by omega))).fr F2 (fun k x y => by omega)
    refine ⟨h2, ?_, ⟨f, c, R, va_up K j X.2.1, va_up b j true, Sp, d1, (a2.fr F1 (hn 1 (by omega)) (hn 2 (by omega))).fr F2 (by omega) (by omega), d3, (a4.fr F1 (fun k x y => hn k (by omega))).fr F2 (fun k x y => by omega), (a5.fr F1 (fun q hq => hn q (by omega))).fr F2 (fun q hq => by omega), ⟨(a6.1.fr F1 (hn 22 (by omega))).fr F2 (by omega), fun i hi2 => ?_, A2.cg (fun i hi2 => ?_)⟩, a7, fun i hi2 => ?_, a8.2⟩, (F1.mono (sp_P_lt (by omega))).tr (F2.mono (eq_lt (by omega)))⟩
    · refine e0.trans ?_
      rw [sg_isC Gj, e1]
      simp only [bn_gd, bn_cV, if_true]
      rw [co_kept (O.fr F1 (hn 0 (by omega))), show vp_nar .boolean 1 = 1 from nar_1, e2, Option.bind_some, co_now d1, sg_day d3]
    · unfold va_up
      by_cases q : i = j
      · subst q; rw [if_pos rfl]; exact G1.fr F2 (fun k x y => by omega)
      · rw [if_neg q]
        exact ((a6.2.1 i hi2).fr F1 (fun k x y hp => by unfold sp_P at hp; omega)).fr F2 (fun k x y => by omega)
    · unfold va_up
      by_cases q : i = j
      · rw [if_pos q, if_pos q]; rfl
      · rw [if_neg q, if_neg q]
    · show va_up X.2.2.2 j (some X.2.1) i = if va_up b j true i = true then some (va_up K j X.2.1 i) else none
      unfold va_up
      by_cases q : i = j
      · simp [q]
      · simp only [if_neg q]; exact a8.1 i hi2
theorem cq_again (H : cw h X) (hB : ct_B X) (a1 : Int32) : cq_ok 67 [some (.ref 0), some (.int a1)] h (ca_again X a1).1 (ca_again X a1).2 := by
  have H0 := H
  obtain ⟨f, c, R, K, b, Sp, O, a2, a3, a4, a5, a6, a7, a8⟩ := H
  have e0 := bs_X2_again_0 0 a1 h
  rw [sp_in_2] at e0
  unfold ca_again
  cases hi : sp_in a1 2 with
  | false => rw [hi] at e0; exact cq_ok.same H0 e0
  | true =>
    rw [hi] at e0
    obtain ⟨j, hj, rfl⟩ := sp_in_nI hi (by omega)
    simp only [nI_clamp (show j < 2 ^ 31 by omega), if_true]
    rw [if_pos rfl, co_kept O, a6.2.2.ld hj (by decide), Option.bind_some] at e0
    simp only [sp_b_eq0] at e0
    have hk := a8.1 j hj
    cases hb : b j with
    | false =>
      rw [hb] at e0 hk
      rw [show X.2.2.2 j = none from hk]
      exact cq_ok.same H0 e0
    | true =>
      rw [hb] at e0 hk
      have hk : X.2.2.2 j = some (K j) := hk
      rw [hk]
      simp only [Bool.true_eq_false, if_false] at e0
      rw [co_now O, co_slots O, a6.1.ld hj (by decide), Option.bind_some, sg_isC a3] at e0
      have Gj := a6.2.1 j hj
      obtain ⟨h1, e1, F1, G1⟩ := sq_becomes a3 Gj (hB.2.2.2.2 j _ hk).1 (by omega)
      have hn : ∀ q, (q < 3 ∨ 11 < q) → ¬ sp_P 3 q := fun q hq hp => by unfold sp_P at hp; omega
      have d1 := O.fr F1 (hn 0 (by omega))
      obtain ⟨h2, e2, F2, O2⟩ := cq_forget d1
      have G2 := G1.fr F2 (fun k x y => by omega)
      refine ⟨h2, ?_, ⟨0, 0, R, K, b, Sp, O2, (a2.fr F1 (hn 1 (by omega)) (hn 2 (by omega))).fr F2 (by omega) (by omega), G2, (a4.fr F1 (fun k x y => hn k (by omega))).fr F2 (fun k x y => by omega), (a5.fr F1 (fun q hq => hn q (by omega))).fr F2 (fun q hq => by omega), (a6.fr F1 (fun q hq => hn q (by omega))).fr F2 (fun q hq => by omega), ⟨by omega, by omega, rfl, fun k hk => by omega⟩, a8⟩, (F1.mono (sp_P_lt (by omega))).tr (F2.mono (eq_lt (by omega)))⟩
      refine e0.trans ?_
      rw [e1]
      simp only [bn_gd, bn_cV, if_true]
      rw [co_C d1, e2]
      simp only [if_true]
      rw [co_now O2, sg_day G2]
theorem cq_wipe (H : cw h X) : cq_ok 47 [some (.ref 0), none] h (nI X.1.1) ((0, X.1.2), X.2) := by
  obtain ⟨f, c, R, K, b, Sp, O, ⟨⟨pl, T1⟩, T2⟩, a3, a4, a5, a6, a7, a8⟩ := H
  obtain ⟨h1, e1, F1, O1⟩ := ob_P T1 (k := 1) (by simp) (.int 0)
  refine ⟨h1, ?_, ⟨f, c, R, K, b, Sp, O.fr F1 (by omega), ⟨⟨pl, O1⟩, T2.fr F1 (by omega)⟩, a3.fr F1 (fun k x y => by omega), a4.fr F1 (fun k x y => by omega), a5.fr F1 (fun q hq => by omega), a6.fr F1 (fun q hq => by omega), a7, a8⟩, F1.mono (eq_lt (by omega))⟩
  rw [bs_X2_wipe_0, co_text O, ob_I T1 rfl, co_text O, e1]
  rfl
end DO
