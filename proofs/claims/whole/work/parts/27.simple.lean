/-! WHAT THE CLASS ANSWERS: the simple calls -/
section CO
variable {h : bn_H} {f c : Nat}
theorem co_text (H : cw_O h f c) {K : Nat → bn_R} : bn_gR h 0 2 0 K = K 1 := ob_R H rfl
theorem co_now (H : cw_O h f c) {K : Nat → bn_R} : bn_gR h 0 2 1 K = K 3 := ob_R H rfl
theorem co_spare (H : cw_O h f c) {K : Nat → bn_R} : bn_gR h 0 2 2 K = K 12 := ob_R H rfl
theorem co_acts (H : cw_O h f c) {K : Nat → bn_R} : bn_gR h 0 2 3 K = K 21 := ob_R H rfl
theorem co_first (H : cw_O h f c) {K : Int32 → bn_R} : bn_gI h 0 2 4 K = K (nI f) := ob_I H rfl
theorem co_cnt (H : cw_O h f c) {K : Int32 → bn_R} : bn_gI h 0 2 5 K = K (nI c) := ob_I H rfl
theorem co_slots (H : cw_O h f c) {K : Nat → bn_R} : bn_gR h 0 2 6 K = K 22 := ob_R H rfl
theorem co_kept (H : cw_O h f c) {K : Nat → bn_R} : bn_gR h 0 2 7 K = K 23 := ob_R H rfl
theorem co_C (H : cw_O h f c) : bn_isC h 0 2 = true := ob_C H
end CO
theorem sp_bb (b : Bool) : (if sp_b b = 0 then (0 : Int32) else 1) = sp_b b := by cases b <;> rfl
theorem sp_ba {a : Nat} (h : a ≤ 1) : (if nI a = 0 then (0 : Int32) else 1) = nI a := by
  rcases (show a = 0 ∨ a = 1 by omega) with rfl | rfl <;> decide
def ca_person (S : sp_S) (a1 a2 : Int32) : Int32 := if sp_in a1 (sp_people S) = true then (if a2 = 0 then nI (sp_fasted S a1.toNatClampNeg) else if a2 = 1 then sp_b (sp_al S a1.toNatClampNeg) else if a2 = 2 then nI (sp_ate S a1.toNatClampNeg) else if a2 = 3 then sp_bits (fun l => decide (nI (sp_hold S l) = a1)) (sp_loaves S) else if a2 = 4 then sp_eatc S a1.toNatClampNeg else -2) else -1
def ca_loaf (S : sp_S) (a1 a2 : Int32) : Int32 := if sp_in a1 (sp_loaves S) = true then (if a2 = 0 then nI (sp_num S a1.toNatClampNeg) else if a2 = 1 then nI (sp_hold S a1.toNatClampNeg) else if a2 = 2 then nI (sp_age S a1.toNatClampNeg) else if a2 = 3 then sp_b (sp_bd S a1.toNatClampNeg) else if a2 = 4 then sp_eater S a1.toNatClampNeg else if a2 = 5 then sp_eon S a1.toNatClampNeg else -2) else -1
def ca_may (S : sp_S) (a1 a2 : Int32) : Int32 := if sp_in a1 (sp_people S) = true then (if sp_in a2 (sp_loaves S) = true then sp_b (sp_may S a1.toNatClampNeg a2.toNatClampNeg) else -1) else -1
def ca_count (X : ct_X) (a1 : Int32) : Int32 := if a1 = 0 then nI X.1.1 else if a1 = 1 then nI (sp_people X.2.1) else if a1 = 2 then nI (sp_loaves X.2.1) else if a1 = 3 then sp_bits (sp_al X.2.1) (sp_people X.2.1) else if a1 = 4 then sp_day X.2.1 else if a1 = 5 then sp_count (fun l => decide (sp_hold X.2.1 l = 20)) (sp_loaves X.2.1) else if a1 = 6 then sp_count (fun l => !decide (sp_hold X.2.1 l = 20) && sp_bd X.2.1 l) (sp_loaves X.2.1) else if a1 = 7 then nI X.2.2.1.length else if a1 = 8 then sp_miss X.2.1 else if a1 = 9 then nI (sp_law X.2.1) else -2
section SI
variable {h : bn_H} {X : ct_X}
theorem cq_person (H : cw h X) (hB : ct_B X) (a1 a2 : Int32) : bn_ev 50 0 [some (.ref 0), some (.int a1), some (.int a2)] [] h = some (some (.int (ca_person X.2.1 a1 a2)), h) := by
  obtain ⟨f, c, R, K, b, Sp, O, -, G, -⟩ := H
  have B := hB.2.2.1
  obtain ⟨b_law, ⟨b_l1, b_lv⟩, ⟨b_b1, b_bd⟩, b_pp, b_lo, b_fa, b_at, b_nu, b_ho, b_ag⟩ := id B
  rw [bs_X2_person_0]
  simp only [co_now O, sg_isC G, sq_hasPerson G B, bn_gd, bn_cI, if_true, sp_b_eq0]
  unfold ca_person
  cases hi : sp_in a1 (sp_people X.2.1) with
  | false => rfl
  | true =>
    obtain ⟨j, hj, rfl⟩ := sp_in_nI hi (by omega)
    have h5 : j < 5 := by omega
    simp only [nI_clamp (show j < 2 ^ 31 by omega), sg_r1 G, sg_r2 G, sg_r3 G, sg_l_fasted G h5, sg_l_ate G h5, sg_l_eatc G h5, Option.bind_some, sq_isAlive G B h5, sq_heldBits G B, sp_bb, sp_ba (b_at j), Bool.true_eq_false, if_false, if_true]
    repeat' split
    all_goals rfl
theorem cq_loaf (H : cw h X) (hB : ct_B X) (a1 a2 : Int32) : bn_ev 51 0 [some (.ref 0), some (.int a1), some (.int a2)] [] h = some (some (.int (ca_loaf X.2.1 a1 a2)), h) := by
  obtain ⟨f, c, R, K, b, Sp, O, -, G, -⟩ := H
  have B := hB.2.2.1
  obtain ⟨b_law, ⟨b_l1, b_lv⟩, ⟨b_b1, b_bd⟩, b_pp, b_lo, b_fa, b_at, b_nu, b_ho, b_ag⟩ := id B
  rw [bs_X2_loaf_0]
  simp only [co_now O, sg_isC G, sq_hasLoaf G B, bn_gd, bn_cI, if_true, sp_b_eq0]
  unfold ca_loaf
  cases hi : sp_in a1 (sp_loaves X.2.1) with
  | false => rfl
  | true =>
    obtain ⟨j, hj, rfl⟩ := sp_in_nI hi (by omega)
    have h5 : j < 10 := by omega
    simp only [nI_clamp (show j < 2 ^ 31 by omega), sg_r4 G, sg_r5 G, sg_r6 G, sg_r7 G, sg_r8 G, sg_l_num G h5, sg_l_hold G h5, sg_l_age G h5, sg_l_eater G h5, sg_l_eon G h5, Option.bind_some, sq_isBad G B h5, sp_bb, Bool.true_eq_false, if_false, if_true]
    repeat' split
    all_goals rfl
theorem cq_may (H : cw h X) (hB : ct_B X) (a1 a2 : Int32) : bn_ev 52 0 [some (.ref 0), some (.int a1), some (.int a2)] [] h = some (some (.int (ca_may X.2.1 a1 a2)), h) := by
  obtain ⟨f, c, R, K, b, Sp, O, -, G, -⟩ := H
  have B := hB.2.2.1
  obtain ⟨b_law, ⟨b_l1, b_lv⟩, ⟨b_b1, b_bd⟩, b_pp, b_lo, b_fa, b_at, b_nu, b_ho, b_ag⟩ := id B
  rw [bs_X2_may_0]
  simp only [co_now O, sg_isC G, sq_hasPerson G B, sq_hasLoaf G B, bn_gd, bn_cI, if_true, sp_b_eq0]
  unfold ca_may
  cases hi : sp_in a1 (sp_people X.2.1) with
  | false => rfl
  | true =>
    cases hk : sp_in a2 (sp_loaves X.2.1) with
    | false => rfl
    | true =>
      obtain ⟨j, hj, rfl⟩ := sp_in_nI hi (by omega)
      obtain ⟨l, hl, rfl⟩ := sp_in_nI hk (by omega)
      simp only [nI_clamp (show j < 2 ^ 31 by omega), nI_clamp (show l < 2 ^ 31 by omega), sq_allowed G B (show j < 5 by omega) (show l < 10 by omega), sp_bb, Bool.true_eq_false, if_false, if_true]
theorem cq_count (H : cw h X) (hB : ct_B X) (a1 : Int32) : bn_ev 68 0 [some (.ref 0), some (.int a1)] [] h = some (some (.int (ca_count X a1)), h) := by
  obtain ⟨f, c, R, K, b, Sp, O, ⟨⟨pl, T1⟩, T2⟩, G, -, -, -, A, -⟩ := H
  have B := hB.2.2.1
  have t1 : ∀ K, bn_gI h 1 1 1 K = K (nI X.1.1) := fun K => ob_I T1 rfl
  rw [bs_X2_count_0]
  simp only [co_now O, co_text O, co_cnt O, t1, sg_isC G, sg_people G, sg_loaves G, sg_day G, sg_law G, sq_aliveBits G B, sq_eatenLoaves G B, sq_badLoaves G B, sq_missingCount G B, bn_gd, bn_cI, if_true]
  unfold ca_count
  rw [A.2.2.1]
  repeat' split
  all_goals rfl
def ca_mis (S : sp_S) (x : Int32) : Nat → Nat → Int32 → Int32
  | 0, _, _ => -9
  | r + 1, v, k => if sp_told S v = true then ca_mis S x r (v + 1) k else if k = x then nI v else ca_mis S x r (v + 1) (k + 1)
theorem cq_missing (H : cw h X) (hB : ct_B X) (a1 : Int32) : bn_ev 63 0 [some (.ref 0), some (.int a1), none, none, none] [] h = some (some (.int (ca_mis X.2.1 a1 (sp_max X.2.1 - 1) 1 0)), h) := by
  obtain ⟨f, c, R, K, b, Sp, O, -, G, -⟩ := H
  have B := hB.2.2.1
  obtain ⟨hg, hm⟩ := sq_greatest G B
  rw [bs_X2_missing_0]
  simp only [co_now O, sg_isC G, hg, bn_gd, bn_cI, if_true]
  have key : ∀ r v k, (sp_max X.2.1 ≤ v ∧ r = 0 ∨ v + r = sp_max X.2.1) → v ≤ 99 + 1 → bn_ev 63 13 [some (.ref 0), some (.int a1), some (.int (nI (sp_max X.2.1))), some (.int k), some (.int (nI v))] [] h = some (some (.int (ca_mis X.2.1 a1 r v k)), h) := by
    intro r
    induction r with
    | zero =>
      intro v k hv h99
      rw [bs_X2_missing_13, if_pos (nI_le (by omega) (by omega))]
      rfl
    | succ r ih =>
      intro v k hv h99
      have i1 : ∀ k, bn_ev 63 13 [some (.ref 0), some (.int a1), some (.int (nI (sp_max X.2.1))), some (.int k), some (.int (nI v + 1))] [] h = some (some (.int (ca_mis X.2.1 a1 r (v + 1) k)), h) := fun k => by rw [← nI_succ]; exact ih (v + 1) k (by omega) (by omega)
      rw [bs_X2_missing_13, if_neg (nI_ge (by omega) (by omega))]
      simp only [co_now O, sg_isC G, sq_hasNumber G B (show v < 2 ^ 31 by omega), bn_gd, bn_cI, if_true, sp_b_eq0, i1, ca_mis]
      show (if sp_told X.2.1 v = false then _ else _) = _
      cases sp_told X.2.1 v with
      | true => rfl
      | false =>
        simp only [if_true, Bool.false_eq_true, if_false]
        split <;> rfl
  exact key _ 1 0 (by omega) (by omega)
end SI
