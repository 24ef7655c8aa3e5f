/-! THE CLASS IS MADE -/
theorem cV_s {h : bn_H} {K : bn_H → bn_R} : bn_cV (some (none, h)) K = K h := rfl
theorem gw.trn {P P' : Nat → Prop} {n z n' z' : Nat} {h h1 h2 : bn_H} (a : gw n z P h h1) (b : gw n' z' P' h1 h2) (k : ∀ q, q < h.2.1 → P' q → P q) : gw (n + n') (z + z') P h h2 := ⟨b.1.trans a.1, by rw [b.2.1, a.2.1]; omega, by rw [b.2.2.1, a.2.2.1]; omega, fun q hq hp => (b.2.2.2 q (by rw [a.2.1]; omega) (fun y => hp (k q hq y))).trans (a.2.2.2 q hq hp)⟩
theorem cw_Q.gw {P : Nat → Prop} {n z q k b : Nat} {h h1 : bn_H} (H : cw_Q h q k b) (a : gw n z P h h1) (hq : ¬ P q) : cw_Q h1 q k b := by
  obtain ⟨g, e, y⟩ := H
  exact ⟨g, a.g e hq, y⟩
theorem rs_d {h : bn_H} {q n j k : Nat} {g : Nat → Option Nat} (Q : bn_g h q = some (.inl (3, n, .inr (.inr (.inr (.inr g)))))) (hj : j < n) (hn : n < 2 ^ 31) (hC : bn_isC h k 0 = true) : ∃ h', bn_rsd h q (nI j) k = some h' ∧ sg_F (fun z => z = q) h h' ∧ bn_g h' q = some (.inl (3, n, .inr (.inr (.inr (.inr (va_up g j (some k))))))) := by
  refine ⟨bn_u h q (.inl (3, n, .inr (.inr (.inr (.inr (va_up g j (some k))))))), ?_, bn_u_fr Q, by rw [bn_g_u Q, if_pos rfl]⟩
  unfold bn_rsd bn_ar
  rw [Q]
  simp only [if_true, Option.bind_some]
  rw [if_neg (fun z => z.elim (nI_in hj hn) (fun z => by rw [hC] at z; cases z)), nI_clamp (by omega)]
theorem in_loop {E : Nat → bn_H → bn_R} {q n b : Nat} (hq : q < b) (hn : n < 2 ^ 31) (I : bn_H → Prop) (hI : ∀ h h' m z, I h → gw m z (fun k => k = q) h h' → I h') (step : ∀ j h, j < n → I h → E j h = bn_nc h (.inr (0, bn_ob 0)) (bn_N 0) (fun p3 h2 => bn_cV (bn_ev 0 0 [some (.ref p3)] [] h2) (fun h4 => (bn_rsd h4 q (nI j) p3).bind (fun h6 => E (j + 1) h6)))) : ∀ r j h g, j + r = n → I h → h.2.1 = b + 9 * j → bn_g h q = some (.inl (3, n, .inr (.inr (.inr (.inr g))))) → (∀ i, i < j → g i = some (b + 9 * i)) → (∀ i, i < j → sg_G h (b + 9 * i) sp_0) → ∃ h', E j h = E n h' ∧ gw (9 * r) (80 * r) (fun k => k = q) h h' ∧ cw_Q h' q n b ∧ ∀ i, i < n → sg_G h' (b + 9 * i) sp_0 := by
  intro r
  induction r with
  | zero =>
    intro j h g hj ij hs Q a1 a2
    have hj : j = n := hj
    subst hj
    exact ⟨h, rfl, gw.rf, ⟨g, Q, a1⟩, a2⟩
  | succ r ih =>
    intro j h g hj ij hs Q a1 a2
    obtain ⟨h1, e1, F1, B1⟩ := nc_O h 0 (fun _ => False)
    rw [hs] at e1 B1
    have s1 : h1.2.1 = b + 9 * j + 1 := by rw [F1.2.1, hs]
    obtain ⟨h2, e2, F2, G2⟩ := in_siege B1 s1
    have Q2 := F2.g (F1.g Q nf) (by omega)
    obtain ⟨h3, e3, F3, Q3⟩ := rs_d Q2 (show j < n by omega) hn (sg_isC G2)
    have s3 : h3.2.1 = b + 9 * (j + 1) := by rw [F3.2.1, F2.2.1, s1]; omega
    have FF : gw 9 80 (fun k => k = q) h h3 := ((F1.mono (fun q _ z => z.elim)).trn F2 (fun k hk z => by omega)).trn F3.gw (fun k _ z => z)
    obtain ⟨h', ev, F', Q', G'⟩ := ih (j + 1) h3 _ (by omega) (hI _ _ _ _ ij FF) s3 Q3 (fun i hi => by
      by_cases z : i = j
      · subst z; rw [up_e]
      · rw [up_n z]; exact a1 i (by omega)) (fun i hi => by
      by_cases z : i = j
      · subst z; exact G2.fr F3 (fun k x y => by omega)
      · exact (a2 i (by omega)).gw FF (fun k x y => by omega))
    refine ⟨h', ?_, (FF.tr F').cast (by omega) (by omega), Q', G'⟩
    rw [step j h (by omega) ij, e1, e2, cV_s, e3, Option.bind_some, ev]
theorem in_class {h : bn_H} (O : bn_g h 0 = some (.inr (2, bn_ob 2))) (hn : h.2.1 = 1) : ∃ h', bn_ev 45 0 [some (.ref 0), none] [] h = some (none, h') ∧ gw 221 2027 (fun q => q = 0) h h' ∧ cw h' ((0, fun _ => 0), sp_0, [], fun _ => none) := by
  have g0 : gw 0 0 (fun q => q = 0) h h := gw.rf
  obtain ⟨h1, e1, F1, B1⟩ := nc_O h 1 (fun _ => False)
  rw [hn] at e1 B1
  have O_1 := F1.g O nf
  have s1 : h1.2.1 = 2 := by rw [F1.2.1, hn]
  have g1 := g0.tr (F1.mono (fun q _ z => z.elim))
  obtain ⟨h2, e2, F2, B2⟩ := in_text B1 s1
  have O_2 := F2.g O_1 (by omega)
  have s2 : h2.2.1 = 3 := by rw [F2.2.1, s1]
  have g2 := g1.trn F2 (fun k hk z => by omega)
  obtain ⟨h3, e3, F3, O_3⟩ := ob_P O_2 (k := 0) (Nat.le_of_ble_eq_true rfl) (.ref 1)
  have T_3 := B2.fr F3 (by omega) (by omega)
  have s3 : h3.2.1 = 3 := F3.2.1.trans s2
  have g3 := g2.tr F3.gw
  obtain ⟨h4, e4, F4, B4⟩ := nc_O h3 0 (fun _ => False)
  rw [s3] at e4 B4
  have T_4 := T_3.gw F4 nf nf
  have O_4 := F4.g O_3 nf
  have s4 : h4.2.1 = 4 := by rw [F4.2.1, s3]
  have g4 := g3.tr (F4.mono (fun q _ z => z.elim))
  obtain ⟨h5, e5, F5, B5⟩ := in_siege B4 s4
  have T_5 := T_4.gw F5 (by omega) (by omega)
  have O_5 := F5.g O_4 (by omega)
  have s5 : h5.2.1 = 12 := by rw [F5.2.1, s4]
  have g5 := g4.trn F5 (fun k hk z => by omega)
  obtain ⟨h6, e6, F6, O_6⟩ := ob_P O_5 (k := 1) (Nat.le_of_ble_eq_true rfl) (.ref 3)
  have T_6 := T_5.fr F6 (by omega) (by omega)
  have G3_6 := B5.fr F6 (fun k a b => by omega)
  have s6 : h6.2.1 = 12 := F6.2.1.trans s5
  have g6 := g5.tr F6.gw
  obtain ⟨h7, e7, F7, B7⟩ := nc_O h6 0 (fun _ => False)
  rw [s6] at e7 B7
  have T_7 := T_6.gw F7 nf nf
  have G3_7 := G3_6.gw F7 (fun k a b => nf)
  have O_7 := F7.g O_6 nf
  have s7 : h7.2.1 = 13 := by rw [F7.2.1, s6]
  have g7 := g6.tr (F7.mono (fun q _ z => z.elim))
  obtain ⟨h8, e8, F8, B8⟩ := in_siege B7 s7
  have T_8 := T_7.gw F8 (by omega) (by omega)
  have G3_8 := G3_7.gw F8 (fun k a b => (by omega))
  have O_8 := F8.g O_7 (by omega)
  have s8 : h8.2.1 = 21 := by rw [F8.2.1, s7]
  have g8 := g7.trn F8 (fun k hk z => by omega)
  obtain ⟨h9, e9, F9, O_9⟩ := ob_P O_8 (k := 2) (Nat.le_of_ble_eq_true rfl) (.ref 12)
  have T_9 := T_8.fr F9 (by omega) (by omega)
  have G3_9 := G3_8.fr F9 (fun k a b => by omega)
  have G12_9 := B8.fr F9 (fun k a b => by omega)
  have s9 : h9.2.1 = 21 := F9.2.1.trans s8
  have g9 := g8.tr F9.gw
  obtain ⟨h10, e10, F10, B10⟩ := nc_R h9 20 (fun _ => False)
  rw [s9] at e10 B10
  have T_10 := T_9.gw F10 nf nf
  have G3_10 := G3_9.gw F10 (fun k a b => nf)
  have G12_10 := G12_9.gw F10 (fun k a b => nf)
  have O_10 := F10.g O_9 nf
  have s10 : h10.2.1 = 22 := by rw [F10.2.1, s9]
  have g10 := g9.tr (F10.mono (fun q _ z => z.elim))
  obtain ⟨h11, e11, F11, O_11⟩ := ob_P O_10 (k := 3) (Nat.le_of_ble_eq_true rfl) (.ref 21)
  have T_11 := T_10.fr F11 (by omega) (by omega)
  have G3_11 := G3_10.fr F11 (fun k a b => by omega)
  have G12_11 := G12_10.fr F11 (fun k a b => by omega)
  have Q21_11 := (F11.2.2.2 _ (by omega)).trans B10
  have s11 : h11.2.1 = 22 := F11.2.1.trans s10
  have g11 := g10.tr F11.gw
  obtain ⟨h12, e12, F12, O_12⟩ := ob_P O_11 (k := 4) (Nat.le_of_ble_eq_true rfl) (.int 0)
  have T_12 := T_11.fr F12 (by omega) (by omega)
  have G3_12 := G3_11.fr F12 (fun k a b => by omega)
  have G12_12 := G12_11.fr F12 (fun k a b => by omega)
  have Q21_12 := (F12.2.2.2 _ (by omega)).trans Q21_11
  have s12 : h12.2.1 = 22 := F12.2.1.trans s11
  have g12 := g11.tr F12.gw
  obtain ⟨h13, e13, F13, O_13⟩ := ob_P O_12 (k := 5) (Nat.le_of_ble_eq_true rfl) (.int 0)
  have T_13 := T_12.fr F13 (by omega) (by omega)
  have G3_13 := G3_12.fr F13 (fun k a b => by omega)
  have G12_13 := G12_12.fr F13 (fun k a b => by omega)
  have Q21_13 := (F13.2.2.2 _ (by omega)).trans Q21_12
  have s13 : h13.2.1 = 22 := F13.2.1.trans s12
  have g13 := g12.tr F13.gw
  obtain ⟨h14, e14, F14, B14⟩ := nc_R h13 2 (fun _ => False)
  rw [s13] at e14 B14
  have T_14 := T_13.gw F14 nf nf
  have G3_14 := G3_13.gw F14 (fun k a b => nf)
  have G12_14 := G12_13.gw F14 (fun k a b => nf)
  have Q21_14 := F14.g Q21_13 nf
  have O_14 := F14.g O_13 nf
  have s14 : h14.2.1 = 23 := by rw [F14.2.1, s13]
  have g14 := g13.tr (F14.mono (fun q _ z => z.elim))
  obtain ⟨h15, e15, F15, O_15⟩ := ob_P O_14 (k := 6) (Nat.le_of_ble_eq_true rfl) (.ref 22)
  have T_15 := T_14.fr F15 (by omega) (by omega)
  have G3_15 := G3_14.fr F15 (fun k a b => by omega)
  have G12_15 := G12_14.fr F15 (fun k a b => by omega)
  have Q21_15 := (F15.2.2.2 _ (by omega)).trans Q21_14
  have Q22_15 := (F15.2.2.2 _ (by omega)).trans B14
  have s15 : h15.2.1 = 23 := F15.2.1.trans s14
  have g15 := g14.tr F15.gw
  obtain ⟨h16, e16, F16, B16⟩ := nc_A h15 1 2 (fun _ => False)
  rw [s15] at e16 B16
  have T_16 := T_15.gw F16 nf nf
  have G3_16 := G3_15.gw F16 (fun k a b => nf)
  have G12_16 := G12_15.gw F16 (fun k a b => nf)
  have Q21_16 := F16.g Q21_15 nf
  have Q22_16 := F16.g Q22_15 nf
  have O_16 := F16.g O_15 nf
  have s16 : h16.2.1 = 24 := by rw [F16.2.1, s15]
  have g16 := g15.tr (F16.mono (fun q _ z => z.elim))
  obtain ⟨h17, e17, F17, O_17⟩ := ob_P O_16 (k := 7) (Nat.le_of_ble_eq_true rfl) (.ref 23)
  have T_17 := T_16.fr F17 (by omega) (by omega)
  have G3_17 := G3_16.fr F17 (fun k a b => by omega)
  have G12_17 := G12_16.fr F17 (fun k a b => by omega)
  have Q21_17 := (F17.2.2.2 _ (by omega)).trans Q21_16
  have Q22_17 := (F17.2.2.2 _ (by omega)).trans Q22_16
  have A23_17 := B16.fr F17 (by omega)
  have s17 : h17.2.1 = 24 := F17.2.1.trans s16
  have g17 := g16.tr F17.gw
  have OO : cw_O h17 0 0 := O_17
  obtain ⟨x1, y1, Y1, Q1, Z1⟩ := in_loop (E := fun j h => bn_ev 45 73 [some (.ref 0), some (.int (nI j))] [] h) (q := 21) (n := 20) (b := 24) (by omega) (by omega) (fun h => cw_O h 0 0) (fun h h' m z i F => F.g i (by omega)) (fun j h hj i => by
    show bn_ev 45 73 _ _ _ = _
    rw [bs_X2_init_73, if_neg (show ¬ (20 : Int32) ≤ nI j from nI_ge (b := 20) hj (by omega)), ob_R i rfl, n1]) 20 0 h17 _ (by omega) OO s17 Q21_17 (fun i hi => absurd hi (Nat.not_lt_zero _)) (fun i hi => absurd hi (Nat.not_lt_zero _))
  have t1 : x1.2.1 = 204 := by rw [Y1.2.1, s17]
  have O1 : cw_O x1 0 0 := Y1.g OO (by omega)
  have q22 := Y1.g Q22_17 (by omega)
  obtain ⟨x2, y2, Y2, Q2, Z2⟩ := in_loop (E := fun j h => bn_ev 45 100 [some (.ref 0), some (.int (nI j))] [] h) (q := 22) (n := 2) (b := 204) (by omega) (by omega) (fun h => cw_O h 0 0) (fun h h' m z i F => F.g i (by omega)) (fun j h hj i => by
    show bn_ev 45 100 _ _ _ = _
    rw [bs_X2_init_100, if_neg (show ¬ (2 : Int32) ≤ nI j from nI_ge (b := 2) hj (by omega)), ob_R i rfl, n1]) 2 0 x1 _ (by omega) O1 t1 q22 (fun i hi => absurd hi (Nat.not_lt_zero _)) (fun i hi => absurd hi (Nat.not_lt_zero _))
  have O2 : cw_O x2 0 0 := Y2.g O1 (by omega)
  refine ⟨x2, ?_, ((g17.trn Y1 (fun k hk z => by omega)).trn Y2 (fun k hk z => by omega)).cast rfl rfl, ⟨0, 0, fun _ => sp_0, fun _ => sp_0, fun _ => false, sp_0, O2, (T_17.gw Y1 (by omega) (by omega)).gw Y2 (by omega) (by omega), (G3_17.gw Y1 (fun k a b => by omega)).gw Y2 (fun k a b => by omega), (G12_17.gw Y1 (fun k a b => by omega)).gw Y2 (fun k a b => by omega), ⟨Q1.gw Y2 (by omega), fun i hi => (Z1 i hi).gw Y2 (fun k a b => by omega)⟩, ⟨Q2, Z2, ((A23_17.gw Y1 (by omega)).gw Y2 (by omega)).cg (fun _ _ => rfl)⟩, ⟨by omega, by omega, rfl, fun k hk => absurd hk (Nat.not_lt_zero _)⟩, fun j _ => rfl, sp_0_B⟩⟩
  rw [bs_X2_init_0, e1, e2, cV_s, e3, Option.bind_some, e4, e5, cV_s, e6, Option.bind_some, e7, e8, cV_s, e9, Option.bind_some, e10, e11, Option.bind_some, e12, Option.bind_some, e13, Option.bind_some, e14, e15, Option.bind_some, e16, e17, Option.bind_some]
  refine Eq.trans y1 (Eq.trans ?_ (Eq.trans y2 ?_))
  · show bn_ev 45 73 _ _ _ = bn_ev 45 100 _ _ _
    rw [bs_X2_init_73, if_pos (show (20 : Int32) ≤ nI 20 by decide)]
    rfl
  · show bn_ev 45 100 _ _ _ = _
    rw [bs_X2_init_100, if_pos (show (2 : Int32) ≤ nI 2 by decide)]
