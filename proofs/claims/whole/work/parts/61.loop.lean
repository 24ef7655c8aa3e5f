/-! THE LAW'S LOOP, AND ALL OF ITS WALK -/
theorem nf' : ∀ q, q < 222 → ¬ False := fun _ _ z => z
theorem cw.gw {P : Nat → Prop} {n z : Nat} {h h1 : bn_H} {X : ct_X} (H : cw h X) (F : gw n z P h h1) (hn : ∀ q, q < 222 → ¬ P q) : cw h1 X := by
  obtain ⟨f, c, R, K, b, Sp, a1, a2, a3, a4, ⟨a5, a5'⟩, ⟨a6, a6', a6''⟩, a7, a8⟩ := H
  exact ⟨f, c, R, K, b, Sp, F.g a1 (hn 0 (by omega)), a2.gw F (hn 1 (by omega)) (hn 2 (by omega)), a3.gw F (fun k x y => hn k (by omega)), a4.gw F (fun k x y => hn k (by omega)), ⟨a5.gw F (hn 21 (by omega)), fun i hi => (a5' i hi).gw F (fun k x y => hn k (by omega))⟩, ⟨a6.gw F (hn 22 (by omega)), fun i hi => (a6' i hi).gw F (fun k x y => hn k (by omega)), a6''.gw F (hn 23 (by omega))⟩, a7, a8⟩
theorem lp_arm {L i : Nat} {xs : Nat → Int32} {h : bn_H} (J : lp_J L xs h) (hi : i + 5 ≤ L) (hL : L ≤ 320) : ∃ h', bn_ev 132 18 [some (.retAddr 0), some (.ref 0), some (.ref 222), some (.int (nI i))] [] h = bn_ev 132 18 [some (.retAddr 0), some (.ref 0), some (.ref 222), some (.int (nI (i + 5)))] [] h' ∧ lp_J L xs h' ∧ h'.2.1 = h.2.1 ∧ h'.2.2.1 = h.2.2.1 := by
  have e0 := bs_L_law_18 0 222 (nI i) h
  have hh := J.1
  have c0 : (nI i).toNatClampNeg = i := nI_clamp (by omega)
  have s0 : (nI i < 0 ∨ L ≤ i) = False := eq_false (fun z => z.elim (nI_pos (by omega)) (by omega))
  have sl : Int32.ofNat L - 5 = iI ((L : Int) - 5) := by
    rw [show Int32.ofNat L = nI L from rfl, iI_nI, show (5 : Int32) = iI 5 from rfl, iI_sub]
  simp only [hh, c0, s0, sl, if_false] at e0
  rw [iI_nI i, iI_lt (by omega) (by omega) (by omega) (by omega), if_neg (by omega), ← iI_nI i] at e0
  have fin : ∀ g, bn_ev 132 773 [some (.retAddr 0), some (.ref 0), some (.ref 222), some (.int (nI i))] [] g = bn_ev 132 18 [some (.retAddr 0), some (.ref 0), some (.ref 222), some (.int (nI (i + 5)))] [] g := fun g => by
    rw [bs_L_law_773, show nI i + 5 = nI (i + 5) from nI_add i 5]
  by_cases k0 : xs i &&& 31 = 0
  · rw [if_pos k0] at e0
    obtain ⟨h', e1, J1, z1, z2⟩ := la_140 (i := i) J (by omega) hL
    exact ⟨h', e0.trans (e1.trans (fin h')), J1, z1, z2⟩
  rw [if_neg k0] at e0
  by_cases k1 : xs i &&& 31 = 1
  · rw [if_pos k1] at e0
    obtain ⟨h', e1, J1, z1, z2⟩ := la_203 (i := i) J (by omega) hL
    exact ⟨h', e0.trans (e1.trans (fin h')), J1, z1, z2⟩
  rw [if_neg k1] at e0
  by_cases k2 : xs i &&& 31 = 2
  · rw [if_pos k2] at e0
    obtain ⟨h', e1, J1, z1, z2⟩ := la_216 (i := i) J (by omega) hL
    exact ⟨h', e0.trans (e1.trans (fin h')), J1, z1, z2⟩
  rw [if_neg k2] at e0
  by_cases k3 : xs i &&& 31 = 3
  · rw [if_pos k3] at e0
    obtain ⟨h', e1, J1, z1, z2⟩ := la_229 (i := i) J (by omega) hL
    exact ⟨h', e0.trans (e1.trans (fin h')), J1, z1, z2⟩
  rw [if_neg k3] at e0
  by_cases k4 : xs i &&& 31 = 4
  · rw [if_pos k4] at e0
    obtain ⟨h', e1, J1, z1, z2⟩ := la_242 (i := i) J (by omega) hL
    exact ⟨h', e0.trans (e1.trans (fin h')), J1, z1, z2⟩
  rw [if_neg k4] at e0
  by_cases k5 : xs i &&& 31 = 5
  · rw [if_pos k5] at e0
    obtain ⟨h', e1, J1, z1, z2⟩ := la_275 (i := i) J (by omega) hL
    exact ⟨h', e0.trans (e1.trans (fin h')), J1, z1, z2⟩
  rw [if_neg k5] at e0
  by_cases k6 : xs i &&& 31 = 6
  · rw [if_pos k6] at e0
    obtain ⟨h', e1, J1, z1, z2⟩ := la_308 (i := i) J (by omega) hL
    exact ⟨h', e0.trans (e1.trans (fin h')), J1, z1, z2⟩
  rw [if_neg k6] at e0
  by_cases k7 : xs i &&& 31 = 7
  · rw [if_pos k7] at e0
    obtain ⟨h', e1, J1, z1, z2⟩ := la_341 (i := i) J (by omega) hL
    exact ⟨h', e0.trans (e1.trans (fin h')), J1, z1, z2⟩
  rw [if_neg k7] at e0
  by_cases k8 : xs i &&& 31 = 8
  · rw [if_pos k8] at e0
    obtain ⟨h', e1, J1, z1, z2⟩ := la_374 (i := i) J (by omega) hL
    exact ⟨h', e0.trans (e1.trans (fin h')), J1, z1, z2⟩
  rw [if_neg k8] at e0
  by_cases k9 : xs i &&& 31 = 9
  · rw [if_pos k9] at e0
    obtain ⟨h', e1, J1, z1, z2⟩ := la_407 (i := i) J (by omega) hL
    exact ⟨h', e0.trans (e1.trans (fin h')), J1, z1, z2⟩
  rw [if_neg k9] at e0
  by_cases k10 : xs i &&& 31 = 10
  · rw [if_pos k10] at e0
    obtain ⟨h', e1, J1, z1, z2⟩ := la_430 (i := i) J (by omega) hL
    exact ⟨h', e0.trans (e1.trans (fin h')), J1, z1, z2⟩
  rw [if_neg k10] at e0
  by_cases k11 : xs i &&& 31 = 11
  · rw [if_pos k11] at e0
    obtain ⟨h', e1, J1, z1, z2⟩ := la_443 (i := i) J (by omega) hL
    exact ⟨h', e0.trans (e1.trans (fin h')), J1, z1, z2⟩
  rw [if_neg k11] at e0
  by_cases k12 : xs i &&& 31 = 12
  · rw [if_pos k12] at e0
    obtain ⟨h', e1, J1, z1, z2⟩ := la_456 (i := i) J (by omega) hL
    exact ⟨h', e0.trans (e1.trans (fin h')), J1, z1, z2⟩
  rw [if_neg k12] at e0
  by_cases k13 : xs i &&& 31 = 13
  · rw [if_pos k13] at e0
    obtain ⟨h', e1, J1, z1, z2⟩ := la_469 (i := i) J (by omega) hL
    exact ⟨h', e0.trans (e1.trans (fin h')), J1, z1, z2⟩
  rw [if_neg k13] at e0
  by_cases k14 : xs i &&& 31 = 14
  · rw [if_pos k14] at e0
    obtain ⟨h', e1, J1, z1, z2⟩ := la_523 (i := i) J (by omega) hL
    exact ⟨h', e0.trans (e1.trans (fin h')), J1, z1, z2⟩
  rw [if_neg k14] at e0
  by_cases k15 : xs i &&& 31 = 15
  · rw [if_pos k15] at e0
    obtain ⟨h', e1, J1, z1, z2⟩ := la_536 (i := i) J (by omega) hL
    exact ⟨h', e0.trans (e1.trans (fin h')), J1, z1, z2⟩
  rw [if_neg k15] at e0
  by_cases k16 : xs i &&& 31 = 16
  · rw [if_pos k16] at e0
    obtain ⟨h', e1, J1, z1, z2⟩ := la_549 (i := i) J (by omega) hL
    exact ⟨h', e0.trans (e1.trans (fin h')), J1, z1, z2⟩
  rw [if_neg k16] at e0
  by_cases k17 : xs i &&& 31 = 17
  · rw [if_pos k17] at e0
    obtain ⟨h', e1, J1, z1, z2⟩ := la_562 (i := i) J (by omega) hL
    exact ⟨h', e0.trans (e1.trans (fin h')), J1, z1, z2⟩
  rw [if_neg k17] at e0
  by_cases k18 : xs i &&& 31 = 18
  · rw [if_pos k18] at e0
    obtain ⟨h', e1, J1, z1, z2⟩ := la_585 (i := i) J (by omega) hL
    exact ⟨h', e0.trans (e1.trans (fin h')), J1, z1, z2⟩
  rw [if_neg k18] at e0
  by_cases k19 : xs i &&& 31 = 19
  · rw [if_pos k19] at e0
    obtain ⟨h', e1, J1, z1, z2⟩ := la_654 (i := i) J (by omega) hL
    exact ⟨h', e0.trans (e1.trans (fin h')), J1, z1, z2⟩
  rw [if_neg k19] at e0
  by_cases k20 : xs i &&& 31 = 20
  · rw [if_pos k20] at e0
    obtain ⟨h', e1, J1, z1, z2⟩ := la_704 (i := i) J (by omega) hL
    exact ⟨h', e0.trans (e1.trans (fin h')), J1, z1, z2⟩
  rw [if_neg k20] at e0
  by_cases k21 : xs i &&& 31 = 21
  · rw [if_pos k21] at e0
    obtain ⟨h', e1, J1, z1, z2⟩ := la_727 (i := i) J (by omega) hL
    exact ⟨h', e0.trans (e1.trans (fin h')), J1, z1, z2⟩
  rw [if_neg k21] at e0
  by_cases k22 : xs i &&& 31 = 22
  · rw [if_pos k22] at e0
    obtain ⟨h', e1, J1, z1, z2⟩ := la_750 (i := i) J (by omega) hL
    exact ⟨h', e0.trans (e1.trans (fin h')), J1, z1, z2⟩
  rw [if_neg k22] at e0
  exact ⟨h, e0.trans (fin h), J, rfl, rfl⟩
theorem lp_loop {L : Nat} {xs : Nat → Int32} (hL : L ≤ 320) : ∀ r i h, L ≤ i + r → i ≤ L + 5 → lp_J L xs h → ∃ h', bn_ev 132 18 [some (.retAddr 0), some (.ref 0), some (.ref 222), some (.int (nI i))] [] h = some (some (.int 1), h') ∧ h'.2.1 = h.2.1 ∧ h'.2.2.1 = h.2.2.1 := by
  intro r
  induction r with
  | zero =>
    intro i h hr hi J
    have e0 := bs_L_law_18 0 222 (nI i) h
    have sl : Int32.ofNat L - 5 = iI ((L : Int) - 5) := by
      rw [show Int32.ofNat L = nI L from rfl, iI_nI, show (5 : Int32) = iI 5 from rfl, iI_sub]
    simp only [J.1, sl] at e0
    rw [iI_nI i, iI_lt (by omega) (by omega) (by omega) (by omega), if_pos (by omega), ← iI_nI i] at e0
    exact ⟨h, e0, rfl, rfl⟩
  | succ r ih =>
    intro i h hr hi J
    by_cases q : i + 5 ≤ L
    · obtain ⟨h1, e1, J1, z1, z2⟩ := lp_arm J q hL
      obtain ⟨h2, e2, y1, y2⟩ := ih (i + 5) h1 (by omega) (by omega) J1
      exact ⟨h2, e1.trans e2, y1.trans z1, y2.trans z2⟩
    · have e0 := bs_L_law_18 0 222 (nI i) h
      have sl : Int32.ofNat L - 5 = iI ((L : Int) - 5) := by
        rw [show Int32.ofNat L = nI L from rfl, iI_nI, show (5 : Int32) = iI 5 from rfl, iI_sub]
      simp only [J.1, sl] at e0
      rw [iI_nI i, iI_lt (by omega) (by omega) (by omega) (by omega), if_pos (by omega), ← iI_nI i] at e0
      exact ⟨h, e0, rfl, rfl⟩
theorem ct_I0 : ct_I ((0, fun _ => 0), sp_0, [], fun _ => none) := ⟨⟨Nat.zero_le _, fun _ => (by show 0 < 256; omega), sp_0_B, fun a ha => (by cases ha), fun j a ha => (by cases ha)⟩, fun p hp => absurd hp (Nat.not_lt_zero _), fun a ha => (by cases ha), fun j a ha => (by cases ha)⟩
theorem gw.lt {P : Nat → Prop} {n z : Nat} {h h1 : bn_H} (a : gw n z P h h1) : h1.2.1 = h.2.1 + n ∧ h1.2.2.1 = h.2.2.1 + z := ⟨a.2.1, a.2.2.1⟩
def lw_h0 (L : Nat) (xs : Nat → Int32) : bn_H := ((L, xs), 0, 0, fun _ => .inl (0, 0, .inl (fun _ => 0)))
theorem lw_ev {L : Nat} {xs : Nat → Int32} (hL : L ≤ 320) : ∃ h', bn_ev 132 0 [some (.retAddr 0), none, none, none] [] (lw_h0 L xs) = some (some (.int 1), h') ∧ h'.2.1 = 235 ∧ h'.2.2.1 = 25975 := by
  obtain ⟨h1, e1, F1, B1⟩ := nc_O (lw_h0 L xs) 2 (fun _ => False)
  have hs : (lw_h0 L xs).2.1 = 0 := rfl
  rw [hs] at e1 B1
  have s1 : h1.2.1 = 1 := by rw [F1.2.1, hs]
  obtain ⟨h2, e2, F2, C2⟩ := in_class B1 s1
  have s2 : h2.2.1 = 222 := by rw [F2.2.1, s1]
  obtain ⟨h3, e3, F3, B3⟩ := nc_O h2 3 (fun _ => False)
  rw [s2] at e3 B3
  have s3 : h3.2.1 = 223 := by rw [F3.2.1, s2]
  obtain ⟨h4, e4, F4, M4⟩ := in_model B3 s3
  have s4 : h4.2.1 = 235 := by rw [F4.2.1, s3]
  have z4 : h4.2.2.1 = 25975 := by
    have q2 : bn_N 2 = 8 := rfl
    have q3 : bn_N 3 = 29 := rfl
    have q0 : (lw_h0 L xs).2.2.1 = 0 := rfl
    rw [F4.2.2.1, F3.2.2.1, F2.2.2.1, F1.2.2.1, q0, q2, q3]
  have C4 : cw h4 ((0, fun _ => 0), sp_0, [], fun _ => none) := (C2.gw F3 nf').gw F4 (fun q hq => by omega)
  have J4 : lp_J L xs h4 := ⟨by rw [F4.1, F3.1, F2.1, F1.1]; rfl, _, C4, M4, ct_I0⟩
  obtain ⟨h5, e5, y1, y2⟩ := lp_loop hL (L + 1) 0 h4 (by omega) (by omega) J4
  refine ⟨h5, ?_, y1.trans s4, y2.trans z4⟩
  rw [bs_L_law_0, e1, e2, cV_s, e3, e4, cV_s]
  exact e5
