/-! THE CONSTRUCTORS: the first cells -/
/-- n new cells of z slots; of those that were there only those of P differ -/
def gw (n z : Nat) (P : Nat → Prop) (h h' : bn_H) : Prop := h'.1 = h.1 ∧ h'.2.1 = h.2.1 + n ∧ h'.2.2.1 = h.2.2.1 + z ∧ ∀ q, q < h.2.1 → ¬ P q → bn_g h' q = bn_g h q
theorem gw.rf {P : Nat → Prop} {h : bn_H} : gw 0 0 P h h := ⟨rfl, rfl, rfl, fun _ _ _ => rfl⟩
theorem gw.tr {P : Nat → Prop} {n z n' z' : Nat} {h h1 h2 : bn_H} (a : gw n z P h h1) (b : gw n' z' P h1 h2) : gw (n + n') (z + z') P h h2 := ⟨b.1.trans a.1, by rw [b.2.1, a.2.1]; omega, by rw [b.2.2.1, a.2.2.1]; omega, fun q hq hp => (b.2.2.2 q (by rw [a.2.1]; omega) hp).trans (a.2.2.2 q hq hp)⟩
theorem gw.mono {P P' : Nat → Prop} {n z : Nat} {h h1 : bn_H} (a : gw n z P h h1) (hp : ∀ q, q < h.2.1 → P q → P' q) : gw n z P' h h1 := ⟨a.1, a.2.1, a.2.2.1, fun q hq z => a.2.2.2 q hq (fun y => z (hp q hq y))⟩
theorem gw.cast {P : Nat → Prop} {n z n' z' : Nat} {h h1 : bn_H} (a : gw n z P h h1) (e1 : n = n') (e2 : z = z') : gw n' z' P h h1 := by subst e1; subst e2; exact a
theorem sg_F.gw {P : Nat → Prop} {h h1 : bn_H} (a : sg_F P h h1) : gw 0 0 P h h1 := ⟨a.1, a.2.1, a.2.2.1, fun q _ hp => a.2.2.2 q hp⟩
theorem bn_g_n {h : bn_H} {e : bn_E} {z q : Nat} : bn_g (bn_n h e z) q = if q = h.2.1 then some e else bn_g h q := by
  unfold bn_g bn_n va_up
  dsimp only
  by_cases c : q = h.2.1
  · rw [if_pos c, if_pos (by omega), if_pos c]
  · rw [if_neg c, if_neg c]
    by_cases d : q < h.2.1
    · rw [if_pos d, if_pos (by omega)]
    · rw [if_neg d, if_neg (by omega)]
theorem bn_n_gw (h : bn_H) (e : bn_E) (z : Nat) {P : Nat → Prop} : gw 1 z P h (bn_n h e z) := ⟨rfl, rfl, rfl, fun q hq _ => by rw [bn_g_n, if_neg (by omega)]⟩
theorem gw.g {P : Nat → Prop} {n z q : Nat} {h h1 : bn_H} {e : bn_E} (a : gw n z P h h1) (H : bn_g h q = some e) (hq : ¬ P q) : bn_g h1 q = some e := (a.2.2.2 q (bn_g_lt H) hq).trans H
theorem sg_A.gw {P : Nat → Prop} {n z q t k : Nat} {h h1 : bn_H} {f : Nat → Int32} (H : sg_A h q t k f) (a : gw n z P h h1) (hq : ¬ P q) : sg_A h1 q t k f := by
  obtain ⟨g, h1, h2⟩ := H
  exact ⟨g, a.g h1 hq, h2⟩
theorem sg_J.gw {P : Nat → Prop} {n z q k : Nat} {h h1 : bn_H} {f : Nat → Int64} (H : sg_J h q k f) (a : gw n z P h h1) (hq : ¬ P q) : sg_J h1 q k f := by
  obtain ⟨g, h1, h2⟩ := H
  exact ⟨g, a.g h1 hq, h2⟩
theorem sg_G.gw {P : Nat → Prop} {n z p : Nat} {h h1 : bn_H} {S : sp_S} (H : sg_G h p S) (a : gw n z P h h1) (hq : ∀ k, p ≤ k → k ≤ p + 8 → ¬ P k) : sg_G h1 p S := by
  obtain ⟨a0, a1, a2, a3, a4, a5, a6, a7, a8⟩ := H
  exact ⟨a.g a0 (hq p (by omega) (by omega)), a1.gw a (hq _ (by omega) (by omega)), a2.gw a (hq _ (by omega) (by omega)), a3.gw a (hq _ (by omega) (by omega)), a4.gw a (hq _ (by omega) (by omega)), a5.gw a (hq _ (by omega) (by omega)), a6.gw a (hq _ (by omega) (by omega)), a7.gw a (hq _ (by omega) (by omega)), a8.gw a (hq _ (by omega) (by omega))⟩
theorem nc_A (h : bn_H) (t N : Nat) (P : Nat → Prop) : ∃ h', (∀ K, bn_nc h (.inl (t, N, .inl (fun _ => 0))) N K = K h.2.1 h') ∧ gw 1 N P h h' ∧ sg_A h' h.2.1 t N (fun _ => 0) := ⟨_, fun _ => rfl, bn_n_gw _ _ _, fun _ => 0, by rw [bn_g_n, if_pos rfl], fun _ _ => rfl⟩
theorem nc_J (h : bn_H) (N : Nat) (P : Nat → Prop) : ∃ h', (∀ K, bn_nc h (.inl (2, N, .inr (.inl (fun _ => 0)))) N K = K h.2.1 h') ∧ gw 1 N P h h' ∧ sg_J h' h.2.1 N (fun _ => 0) := ⟨_, fun _ => rfl, bn_n_gw _ _ _, fun _ => 0, by rw [bn_g_n, if_pos rfl], fun _ _ => rfl⟩
theorem nc_R (h : bn_H) (N : Nat) (P : Nat → Prop) : ∃ h', (∀ K, bn_nc h (.inl (3, N, .inr (.inr (.inr (.inr (fun _ => none)))))) N K = K h.2.1 h') ∧ gw 1 N P h h' ∧ bn_g h' h.2.1 = some (.inl (3, N, .inr (.inr (.inr (.inr (fun _ => none)))))) := ⟨_, fun _ => rfl, bn_n_gw _ _ _, by rw [bn_g_n, if_pos rfl]⟩
theorem nc_O (h : bn_H) (ci : Nat) (P : Nat → Prop) : ∃ h', (∀ K, bn_nc h (.inr (ci, bn_ob ci)) (bn_N ci) K = K h.2.1 h') ∧ gw 1 (bn_N ci) P h h' ∧ bn_g h' h.2.1 = some (.inr (ci, bn_ob ci)) := ⟨_, fun _ => rfl, bn_n_gw _ _ _, by rw [bn_g_n, if_pos rfl]⟩
def sp_0 : sp_S := ((0, 9, 9, 0, 0), (0, 0), (fun _ => 0, fun _ => 0, fun _ => 0), fun _ => 0, fun _ => 0, fun _ => 0, fun _ => 0, fun _ => 0)
theorem sp_0_B : sp_B sp_0 := ⟨Nat.zero_le _, ⟨by decide, by decide⟩, ⟨by decide, by decide⟩, Nat.zero_le _, Nat.zero_le _, fun _ => Nat.zero_le _, fun _ => Nat.zero_le _, fun _ => Nat.zero_le _, fun _ => Nat.zero_le _, fun _ => Nat.zero_le _⟩
theorem cw_T.gw {P : Nat → Prop} {n z : Nat} {h h1 : bn_H} {T : Nat × (Nat → Nat)} (H : cw_T h T) (a : gw n z P h h1) (n1 : ¬ P 1) (n2 : ¬ P 2) : cw_T h1 T := by
  obtain ⟨⟨pl, e⟩, A⟩ := H
  exact ⟨⟨pl, a.g e n1⟩, A.gw a n2⟩
theorem nf : ¬ False := fun z => z
theorem in_siege {h : bn_H} {p : Nat} (O : bn_g h p = some (.inr (0, bn_ob 0))) (hn : h.2.1 = p + 1) : ∃ h', bn_ev 0 0 [some (.ref p)] [] h = some (none, h') ∧ gw 8 65 (fun q => q = p) h h' ∧ sg_G h' p sp_0 := by
  have g0 : gw 0 0 (fun q => q = p) h h := gw.rf
  obtain ⟨h1, e1, F1, O_1⟩ := ob_P O (k := 0) (Nat.le_of_ble_eq_true rfl) (.int 0)
  have s1 : h1.2.1 = p + 1 := F1.2.1.trans hn
  have g1 := g0.tr F1.gw
  obtain ⟨h2, e2, F2, O_2⟩ := ob_P O_1 (k := 1) (Nat.le_of_ble_eq_true rfl) (.int 9)
  have s2 : h2.2.1 = p + 1 := F2.2.1.trans s1
  have g2 := g1.tr F2.gw
  obtain ⟨h3, e3, F3, O_3⟩ := ob_P O_2 (k := 2) (Nat.le_of_ble_eq_true rfl) (.int 9)
  have s3 : h3.2.1 = p + 1 := F3.2.1.trans s2
  have g3 := g2.tr F3.gw
  obtain ⟨h4, e4, F4, O_4⟩ := ob_P O_3 (k := 3) (Nat.le_of_ble_eq_true rfl) (.int 0)
  have s4 : h4.2.1 = p + 1 := F4.2.1.trans s3
  have g4 := g3.tr F4.gw
  obtain ⟨h5, e5, F5, O_5⟩ := ob_P O_4 (k := 4) (Nat.le_of_ble_eq_true rfl) (.long 0)
  have s5 : h5.2.1 = p + 1 := F5.2.1.trans s4
  have g5 := g4.tr F5.gw
  obtain ⟨h6, e6, F6, O_6⟩ := ob_P O_5 (k := 5) (Nat.le_of_ble_eq_true rfl) (.int 0)
  have s6 : h6.2.1 = p + 1 := F6.2.1.trans s5
  have g6 := g5.tr F6.gw
  obtain ⟨h7, e7, F7, B7⟩ := nc_A h6 0 5 (fun _ => False)
  rw [s6] at e7 B7
  have O_7 := F7.g O_6 nf
  have s7 : h7.2.1 = p + 2 := by rw [F7.2.1, s6]
  have g7 := g6.tr (F7.mono (fun q _ z => z.elim))
  obtain ⟨h8, e8, F8, O_8⟩ := ob_P O_7 (k := 6) (Nat.le_of_ble_eq_true rfl) (.ref (p + 1))
  have X1_8 := B7.fr F8 (by omega)
  have s8 : h8.2.1 = p + 2 := F8.2.1.trans s7
  have g8 := g7.tr F8.gw
  obtain ⟨h9, e9, F9, B9⟩ := nc_A h8 1 5 (fun _ => False)
  rw [s8] at e9 B9
  have X1_9 := X1_8.gw F9 nf
  have O_9 := F9.g O_8 nf
  have s9 : h9.2.1 = p + 3 := by rw [F9.2.1, s8]
  have g9 := g8.tr (F9.mono (fun q _ z => z.elim))
  obtain ⟨h10, e10, F10, O_10⟩ := ob_P O_9 (k := 7) (Nat.le_of_ble_eq_true rfl) (.ref (p + 2))
  have X1_10 := X1_9.fr F10 (by omega)
  have X2_10 := B9.fr F10 (by omega)
  have s10 : h10.2.1 = p + 3 := F10.2.1.trans s9
  have g10 := g9.tr F10.gw
  obtain ⟨h11, e11, F11, B11⟩ := nc_A h10 0 5 (fun _ => False)
  rw [s10] at e11 B11
  have X1_11 := X1_10.gw F11 nf
  have X2_11 := X2_10.gw F11 nf
  have O_11 := F11.g O_10 nf
  have s11 : h11.2.1 = p + 4 := by rw [F11.2.1, s10]
  have g11 := g10.tr (F11.mono (fun q _ z => z.elim))
  obtain ⟨h12, e12, F12, O_12⟩ := ob_P O_11 (k := 8) (Nat.le_of_ble_eq_true rfl) (.ref (p + 3))
  have X1_12 := X1_11.fr F12 (by omega)
  have X2_12 := X2_11.fr F12 (by omega)
  have X3_12 := B11.fr F12 (by omega)
  have s12 : h12.2.1 = p + 4 := F12.2.1.trans s11
  have g12 := g11.tr F12.gw
  obtain ⟨h13, e13, F13, O_13⟩ := ob_P O_12 (k := 9) (Nat.le_of_ble_eq_true rfl) (.int 0)
  have X1_13 := X1_12.fr F13 (by omega)
  have X2_13 := X2_12.fr F13 (by omega)
  have X3_13 := X3_12.fr F13 (by omega)
  have s13 : h13.2.1 = p + 4 := F13.2.1.trans s12
  have g13 := g12.tr F13.gw
  obtain ⟨h14, e14, F14, B14⟩ := nc_A h13 0 10 (fun _ => False)
  rw [s13] at e14 B14
  have X1_14 := X1_13.gw F14 nf
  have X2_14 := X2_13.gw F14 nf
  have X3_14 := X3_13.gw F14 nf
  have O_14 := F14.g O_13 nf
  have s14 : h14.2.1 = p + 5 := by rw [F14.2.1, s13]
  have g14 := g13.tr (F14.mono (fun q _ z => z.elim))
  obtain ⟨h15, e15, F15, O_15⟩ := ob_P O_14 (k := 10) (Nat.le_of_ble_eq_true rfl) (.ref (p + 4))
  have X1_15 := X1_14.fr F15 (by omega)
  have X2_15 := X2_14.fr F15 (by omega)
  have X3_15 := X3_14.fr F15 (by omega)
  have X4_15 := B14.fr F15 (by omega)
  have s15 : h15.2.1 = p + 5 := F15.2.1.trans s14
  have g15 := g14.tr F15.gw
  obtain ⟨h16, e16, F16, B16⟩ := nc_A h15 0 10 (fun _ => False)
  rw [s15] at e16 B16
  have X1_16 := X1_15.gw F16 nf
  have X2_16 := X2_15.gw F16 nf
  have X3_16 := X3_15.gw F16 nf
  have X4_16 := X4_15.gw F16 nf
  have O_16 := F16.g O_15 nf
  have s16 : h16.2.1 = p + 6 := by rw [F16.2.1, s15]
  have g16 := g15.tr (F16.mono (fun q _ z => z.elim))
  obtain ⟨h17, e17, F17, O_17⟩ := ob_P O_16 (k := 11) (Nat.le_of_ble_eq_true rfl) (.ref (p + 5))
  have X1_17 := X1_16.fr F17 (by omega)
  have X2_17 := X2_16.fr F17 (by omega)
  have X3_17 := X3_16.fr F17 (by omega)
  have X4_17 := X4_16.fr F17 (by omega)
  have X5_17 := B16.fr F17 (by omega)
  have s17 : h17.2.1 = p + 6 := F17.2.1.trans s16
  have g17 := g16.tr F17.gw
  obtain ⟨h18, e18, F18, B18⟩ := nc_A h17 0 10 (fun _ => False)
  rw [s17] at e18 B18
  have X1_18 := X1_17.gw F18 nf
  have X2_18 := X2_17.gw F18 nf
  have X3_18 := X3_17.gw F18 nf
  have X4_18 := X4_17.gw F18 nf
  have X5_18 := X5_17.gw F18 nf
  have O_18 := F18.g O_17 nf
  have s18 : h18.2.1 = p + 7 := by rw [F18.2.1, s17]
  have g18 := g17.tr (F18.mono (fun q _ z => z.elim))
  obtain ⟨h19, e19, F19, O_19⟩ := ob_P O_18 (k := 12) (Nat.le_of_ble_eq_true rfl) (.ref (p + 6))
  have X1_19 := X1_18.fr F19 (by omega)
  have X2_19 := X2_18.fr F19 (by omega)
  have X3_19 := X3_18.fr F19 (by omega)
  have X4_19 := X4_18.fr F19 (by omega)
  have X5_19 := X5_18.fr F19 (by omega)
  have X6_19 := B18.fr F19 (by omega)
  have s19 : h19.2.1 = p + 7 := F19.2.1.trans s18
  have g19 := g18.tr F19.gw
  obtain ⟨h20, e20, F20, B20⟩ := nc_A h19 0 10 (fun _ => False)
  rw [s19] at e20 B20
  have X1_20 := X1_19.gw F20 nf
  have X2_20 := X2_19.gw F20 nf
  have X3_20 := X3_19.gw F20 nf
  have X4_20 := X4_19.gw F20 nf
  have X5_20 := X5_19.gw F20 nf
  have X6_20 := X6_19.gw F20 nf
  have O_20 := F20.g O_19 nf
  have s20 : h20.2.1 = p + 8 := by rw [F20.2.1, s19]
  have g20 := g19.tr (F20.mono (fun q _ z => z.elim))
  obtain ⟨h21, e21, F21, O_21⟩ := ob_P O_20 (k := 13) (Nat.le_of_ble_eq_true rfl) (.ref (p + 7))
  have X1_21 := X1_20.fr F21 (by omega)
  have X2_21 := X2_20.fr F21 (by omega)
  have X3_21 := X3_20.fr F21 (by omega)
  have X4_21 := X4_20.fr F21 (by omega)
  have X5_21 := X5_20.fr F21 (by omega)
  have X6_21 := X6_20.fr F21 (by omega)
  have X7_21 := B20.fr F21 (by omega)
  have s21 : h21.2.1 = p + 8 := F21.2.1.trans s20
  have g21 := g20.tr F21.gw
  obtain ⟨h22, e22, F22, B22⟩ := nc_A h21 0 10 (fun _ => False)
  rw [s21] at e22 B22
  have X1_22 := X1_21.gw F22 nf
  have X2_22 := X2_21.gw F22 nf
  have X3_22 := X3_21.gw F22 nf
  have X4_22 := X4_21.gw F22 nf
  have X5_22 := X5_21.gw F22 nf
  have X6_22 := X6_21.gw F22 nf
  have X7_22 := X7_21.gw F22 nf
  have O_22 := F22.g O_21 nf
  have s22 : h22.2.1 = p + 9 := by rw [F22.2.1, s21]
  have g22 := g21.tr (F22.mono (fun q _ z => z.elim))
  obtain ⟨h23, e23, F23, O_23⟩ := ob_P O_22 (k := 14) (Nat.le_of_ble_eq_true rfl) (.ref (p + 8))
  have X1_23 := X1_22.fr F23 (by omega)
  have X2_23 := X2_22.fr F23 (by omega)
  have X3_23 := X3_22.fr F23 (by omega)
  have X4_23 := X4_22.fr F23 (by omega)
  have X5_23 := X5_22.fr F23 (by omega)
  have X6_23 := X6_22.fr F23 (by omega)
  have X7_23 := X7_22.fr F23 (by omega)
  have X8_23 := B22.fr F23 (by omega)
  have s23 : h23.2.1 = p + 9 := F23.2.1.trans s22
  have g23 := g22.tr F23.gw
  refine ⟨h23, ?_, g23.cast rfl rfl, O_23, X1_23.cg (fun _ _ => rfl), X2_23.cg (fun _ _ => rfl), X3_23.cg (fun _ _ => rfl), X4_23.cg (fun _ _ => rfl), X5_23.cg (fun _ _ => rfl), X6_23.cg (fun _ _ => rfl), X7_23.cg (fun _ _ => rfl), X8_23.cg (fun _ _ => rfl)⟩
  rw [bs_X0_init_0, e1, Option.bind_some, e2, Option.bind_some, e3, Option.bind_some, e4, Option.bind_some, e5, Option.bind_some, e6, Option.bind_some, e7, e8, Option.bind_some, e9, e10, Option.bind_some, e11, e12, Option.bind_some, e13, Option.bind_some, e14, e15, Option.bind_some, e16, e17, Option.bind_some, e18, e19, Option.bind_some, e20, e21, Option.bind_some, e22, e23, Option.bind_some]
theorem in_text {h : bn_H} (O : bn_g h 1 = some (.inr (1, bn_ob 1))) (hn : h.2.1 = 2) : ∃ h', bn_ev 32 0 [some (.ref 1)] [] h = some (none, h') ∧ gw 1 80 (fun q => q = 1) h h' ∧ cw_T h' (0, fun _ => 0) := by
  have g0 : gw 0 0 (fun q => q = 1) h h := gw.rf
  obtain ⟨h1, e1, F1, B1⟩ := nc_A h 0 80 (fun _ => False)
  rw [hn] at e1 B1
  have O_1 := F1.g O nf
  have s1 : h1.2.1 = 3 := by rw [F1.2.1, hn]
  have g1 := g0.tr (F1.mono (fun q _ z => z.elim))
  obtain ⟨h2, e2, F2, O_2⟩ := ob_P O_1 (k := 0) (Nat.le_of_ble_eq_true rfl) (.ref 2)
  have X1_2 := B1.fr F2 (by omega)
  have s2 : h2.2.1 = 3 := F2.2.1.trans s1
  have g2 := g1.tr F2.gw
  obtain ⟨h3, e3, F3, O_3⟩ := ob_P O_2 (k := 1) (Nat.le_of_ble_eq_true rfl) (.int 0)
  have X1_3 := X1_2.fr F3 (by omega)
  have s3 : h3.2.1 = 3 := F3.2.1.trans s2
  have g3 := g2.tr F3.gw
  obtain ⟨h4, e4, F4, O_4⟩ := ob_P O_3 (k := 2) (Nat.le_of_ble_eq_true rfl) (.int 0)
  have X1_4 := X1_3.fr F4 (by omega)
  have s4 : h4.2.1 = 3 := F4.2.1.trans s3
  have g4 := g3.tr F4.gw
  refine ⟨h4, ?_, g4.cast rfl rfl, ⟨0, O_4⟩, X1_4.cg (fun _ _ => rfl)⟩
  rw [bs_X1_init_0, e1, e2, Option.bind_some, e3, Option.bind_some, e4, Option.bind_some]
def mo_0 : Nat → Int32 := fun j => if j = 8 then 9 else if j = 9 then 9 else 0
theorem in_model {h : bn_H} (O : bn_g h 222 = some (.inr (3, bn_ob 3))) (hn : h.2.1 = 223) : ∃ h', bn_ev 76 0 [some (.ref 222)] [] h = some (none, h') ∧ gw 12 23911 (fun q => q = 222) h h' ∧ mw h' ((0, fun _ => 0), sp_0, [], fun _ => none) := by
  have g0 : gw 0 0 (fun q => q = 222) h h := gw.rf
  obtain ⟨h1, e1, F1, B1⟩ := nc_A h 0 71 (fun _ => False)
  rw [hn] at e1 B1
  have O_1 := F1.g O nf
  have s1 : h1.2.1 = 224 := by rw [F1.2.1, hn]
  have g1 := g0.tr (F1.mono (fun q _ z => z.elim))
  obtain ⟨h2, e2, F2, O_2⟩ := ob_P O_1 (k := 0) (Nat.le_of_ble_eq_true rfl) (.ref 223)
  have X223_2 := B1.fr F2 (by omega)
  have s2 : h2.2.1 = 224 := F2.2.1.trans s1
  have g2 := g1.tr F2.gw
  obtain ⟨h3, e3, F3, B3⟩ := nc_A h2 0 71 (fun _ => False)
  rw [s2] at e3 B3
  have X223_3 := X223_2.gw F3 nf
  have O_3 := F3.g O_2 nf
  have s3 : h3.2.1 = 225 := by rw [F3.2.1, s2]
  have g3 := g2.tr (F3.mono (fun q _ z => z.elim))
  obtain ⟨h4, e4, F4, O_4⟩ := ob_P O_3 (k := 6) (Nat.le_of_ble_eq_true rfl) (.ref 224)
  have X223_4 := X223_3.fr F4 (by omega)
  have X224_4 := B3.fr F4 (by omega)
  have s4 : h4.2.1 = 225 := F4.2.1.trans s3
  have g4 := g3.tr F4.gw
  obtain ⟨h5, e5, F5, B5⟩ := nc_A h4 0 80 (fun _ => False)
  rw [s4] at e5 B5
  have X223_5 := X223_4.gw F5 nf
  have X224_5 := X224_4.gw F5 nf
  have O_5 := F5.g O_4 nf
  have s5 : h5.2.1 = 226 := by rw [F5.2.1, s4]
  have g5 := g4.tr (F5.mono (fun q _ z => z.elim))
  obtain ⟨h6, e6, F6, O_6⟩ := ob_P O_5 (k := 13) (Nat.le_of_ble_eq_true rfl) (.ref 225)
  have X223_6 := X223_5.fr F6 (by omega)
  have X224_6 := X224_5.fr F6 (by omega)
  have X225_6 := B5.fr F6 (by omega)
  have s6 : h6.2.1 = 226 := F6.2.1.trans s5
  have g6 := g5.tr F6.gw
  obtain ⟨h7, e7, F7, B7⟩ := nc_A h6 0 1440 (fun _ => False)
  rw [s6] at e7 B7
  have X223_7 := X223_6.gw F7 nf
  have X224_7 := X224_6.gw F7 nf
  have X225_7 := X225_6.gw F7 nf
  have O_7 := F7.g O_6 nf
  have s7 : h7.2.1 = 227 := by rw [F7.2.1, s6]
  have g7 := g6.tr (F7.mono (fun q _ z => z.elim))
  obtain ⟨h8, e8, F8, O_8⟩ := ob_P O_7 (k := 19) (Nat.le_of_ble_eq_true rfl) (.ref 226)
  have X223_8 := X223_7.fr F8 (by omega)
  have X224_8 := X224_7.fr F8 (by omega)
  have X225_8 := X225_7.fr F8 (by omega)
  have X226_8 := B7.fr F8 (by omega)
  have s8 : h8.2.1 = 227 := F8.2.1.trans s7
  have g8 := g7.tr F8.gw
  obtain ⟨h9, e9, F9, B9⟩ := nc_J h8 20 (fun _ => False)
  rw [s8] at e9 B9
  have X223_9 := X223_8.gw F9 nf
  have X224_9 := X224_8.gw F9 nf
  have X225_9 := X225_8.gw F9 nf
  have X226_9 := X226_8.gw F9 nf
  have O_9 := F9.g O_8 nf
  have s9 : h9.2.1 = 228 := by rw [F9.2.1, s8]
  have g9 := g8.tr (F9.mono (fun q _ z => z.elim))
  obtain ⟨h10, e10, F10, O_10⟩ := ob_P O_9 (k := 20) (Nat.le_of_ble_eq_true rfl) (.ref 227)
  have X223_10 := X223_9.fr F10 (by omega)
  have X224_10 := X224_9.fr F10 (by omega)
  have X225_10 := X225_9.fr F10 (by omega)
  have X226_10 := X226_9.fr F10 (by omega)
  have X227_10 := B9.fr F10 (by omega)
  have s10 : h10.2.1 = 228 := F10.2.1.trans s9
  have g10 := g9.tr F10.gw
  obtain ⟨h11, e11, F11, B11⟩ := nc_A h10 0 71 (fun _ => False)
  rw [s10] at e11 B11
  have X223_11 := X223_10.gw F11 nf
  have X224_11 := X224_10.gw F11 nf
  have X225_11 := X225_10.gw F11 nf
  have X226_11 := X226_10.gw F11 nf
  have X227_11 := X227_10.gw F11 nf
  have O_11 := F11.g O_10 nf
  have s11 : h11.2.1 = 229 := by rw [F11.2.1, s10]
  have g11 := g10.tr (F11.mono (fun q _ z => z.elim))
  obtain ⟨h12, e12, F12, O_12⟩ := ob_P O_11 (k := 21) (Nat.le_of_ble_eq_true rfl) (.ref 228)
  have X223_12 := X223_11.fr F12 (by omega)
  have X224_12 := X224_11.fr F12 (by omega)
  have X225_12 := X225_11.fr F12 (by omega)
  have X226_12 := X226_11.fr F12 (by omega)
  have X227_12 := X227_11.fr F12 (by omega)
  have X228_12 := B11.fr F12 (by omega)
  have s12 : h12.2.1 = 229 := F12.2.1.trans s11
  have g12 := g11.tr F12.gw
  obtain ⟨h13, e13, F13, B13⟩ := nc_A h12 1 11000 (fun _ => False)
  rw [s12] at e13 B13
  have X223_13 := X223_12.gw F13 nf
  have X224_13 := X224_12.gw F13 nf
  have X225_13 := X225_12.gw F13 nf
  have X226_13 := X226_12.gw F13 nf
  have X227_13 := X227_12.gw F13 nf
  have X228_13 := X228_12.gw F13 nf
  have O_13 := F13.g O_12 nf
  have s13 : h13.2.1 = 230 := by rw [F13.2.1, s12]
  have g13 := g12.tr (F13.mono (fun q _ z => z.elim))
  obtain ⟨h14, e14, F14, O_14⟩ := ob_P O_13 (k := 23) (Nat.le_of_ble_eq_true rfl) (.ref 229)
  have X223_14 := X223_13.fr F14 (by omega)
  have X224_14 := X224_13.fr F14 (by omega)
  have X225_14 := X225_13.fr F14 (by omega)
  have X226_14 := X226_13.fr F14 (by omega)
  have X227_14 := X227_13.fr F14 (by omega)
  have X228_14 := X228_13.fr F14 (by omega)
  have X229_14 := B13.fr F14 (by omega)
  have s14 : h14.2.1 = 230 := F14.2.1.trans s13
  have g14 := g13.tr F14.gw
  obtain ⟨h15, e15, F15, B15⟩ := nc_A h14 1 11000 (fun _ => False)
  rw [s14] at e15 B15
  have X223_15 := X223_14.gw F15 nf
  have X224_15 := X224_14.gw F15 nf
  have X225_15 := X225_14.gw F15 nf
  have X226_15 := X226_14.gw F15 nf
  have X227_15 := X227_14.gw F15 nf
  have X228_15 := X228_14.gw F15 nf
  have X229_15 := X229_14.gw F15 nf
  have O_15 := F15.g O_14 nf
  have s15 : h15.2.1 = 231 := by rw [F15.2.1, s14]
  have g15 := g14.tr (F15.mono (fun q _ z => z.elim))
  obtain ⟨h16, e16, F16, O_16⟩ := ob_P O_15 (k := 24) (Nat.le_of_ble_eq_true rfl) (.ref 230)
  have X223_16 := X223_15.fr F16 (by omega)
  have X224_16 := X224_15.fr F16 (by omega)
  have X225_16 := X225_15.fr F16 (by omega)
  have X226_16 := X226_15.fr F16 (by omega)
  have X227_16 := X227_15.fr F16 (by omega)
  have X228_16 := X228_15.fr F16 (by omega)
  have X229_16 := X229_15.fr F16 (by omega)
  have X230_16 := B15.fr F16 (by omega)
  have s16 : h16.2.1 = 231 := F16.2.1.trans s15
  have g16 := g15.tr F16.gw
  obtain ⟨h17, e17, F17, B17⟩ := nc_A h16 0 10 (fun _ => False)
  rw [s16] at e17 B17
  have X223_17 := X223_16.gw F17 nf
  have X224_17 := X224_16.gw F17 nf
  have X225_17 := X225_16.gw F17 nf
  have X226_17 := X226_16.gw F17 nf
  have X227_17 := X227_16.gw F17 nf
  have X228_17 := X228_16.gw F17 nf
  have X229_17 := X229_16.gw F17 nf
  have X230_17 := X230_16.gw F17 nf
  have O_17 := F17.g O_16 nf
  have s17 : h17.2.1 = 232 := by rw [F17.2.1, s16]
  have g17 := g16.tr (F17.mono (fun q _ z => z.elim))
  obtain ⟨h18, e18, F18, O_18⟩ := ob_P O_17 (k := 25) (Nat.le_of_ble_eq_true rfl) (.ref 231)
  have X223_18 := X223_17.fr F18 (by omega)
  have X224_18 := X224_17.fr F18 (by omega)
  have X225_18 := X225_17.fr F18 (by omega)
  have X226_18 := X226_17.fr F18 (by omega)
  have X227_18 := X227_17.fr F18 (by omega)
  have X228_18 := X228_17.fr F18 (by omega)
  have X229_18 := X229_17.fr F18 (by omega)
  have X230_18 := X230_17.fr F18 (by omega)
  have X231_18 := B17.fr F18 (by omega)
  have s18 : h18.2.1 = 232 := F18.2.1.trans s17
  have g18 := g17.tr F18.gw
  obtain ⟨h19, e19, F19, B19⟩ := nc_A h18 1 2 (fun _ => False)
  rw [s18] at e19 B19
  have X223_19 := X223_18.gw F19 nf
  have X224_19 := X224_18.gw F19 nf
  have X225_19 := X225_18.gw F19 nf
  have X226_19 := X226_18.gw F19 nf
  have X227_19 := X227_18.gw F19 nf
  have X228_19 := X228_18.gw F19 nf
  have X229_19 := X229_18.gw F19 nf
  have X230_19 := X230_18.gw F19 nf
  have X231_19 := X231_18.gw F19 nf
  have O_19 := F19.g O_18 nf
  have s19 : h19.2.1 = 233 := by rw [F19.2.1, s18]
  have g19 := g18.tr (F19.mono (fun q _ z => z.elim))
  obtain ⟨h20, e20, F20, O_20⟩ := ob_P O_19 (k := 26) (Nat.le_of_ble_eq_true rfl) (.ref 232)
  have X223_20 := X223_19.fr F20 (by omega)
  have X224_20 := X224_19.fr F20 (by omega)
  have X225_20 := X225_19.fr F20 (by omega)
  have X226_20 := X226_19.fr F20 (by omega)
  have X227_20 := X227_19.fr F20 (by omega)
  have X228_20 := X228_19.fr F20 (by omega)
  have X229_20 := X229_19.fr F20 (by omega)
  have X230_20 := X230_19.fr F20 (by omega)
  have X231_20 := X231_19.fr F20 (by omega)
  have X232_20 := B19.fr F20 (by omega)
  have s20 : h20.2.1 = 233 := F20.2.1.trans s19
  have g20 := g19.tr F20.gw
  obtain ⟨h21, e21, F21, B21⟩ := nc_A h20 0 144 (fun _ => False)
  rw [s20] at e21 B21
  have X223_21 := X223_20.gw F21 nf
  have X224_21 := X224_20.gw F21 nf
  have X225_21 := X225_20.gw F21 nf
  have X226_21 := X226_20.gw F21 nf
  have X227_21 := X227_20.gw F21 nf
  have X228_21 := X228_20.gw F21 nf
  have X229_21 := X229_20.gw F21 nf
  have X230_21 := X230_20.gw F21 nf
  have X231_21 := X231_20.gw F21 nf
  have X232_21 := X232_20.gw F21 nf
  have O_21 := F21.g O_20 nf
  have s21 : h21.2.1 = 234 := by rw [F21.2.1, s20]
  have g21 := g20.tr (F21.mono (fun q _ z => z.elim))
  obtain ⟨h22, e22, F22, O_22⟩ := ob_P O_21 (k := 27) (Nat.le_of_ble_eq_true rfl) (.ref 233)
  have X223_22 := X223_21.fr F22 (by omega)
  have X224_22 := X224_21.fr F22 (by omega)
  have X225_22 := X225_21.fr F22 (by omega)
  have X226_22 := X226_21.fr F22 (by omega)
  have X227_22 := X227_21.fr F22 (by omega)
  have X228_22 := X228_21.fr F22 (by omega)
  have X229_22 := X229_21.fr F22 (by omega)
  have X230_22 := X230_21.fr F22 (by omega)
  have X231_22 := X231_21.fr F22 (by omega)
  have X232_22 := X232_21.fr F22 (by omega)
  have X233_22 := B21.fr F22 (by omega)
  have s22 : h22.2.1 = 234 := F22.2.1.trans s21
  have g22 := g21.tr F22.gw
  obtain ⟨h23, e23, F23, B23⟩ := nc_J h22 2 (fun _ => False)
  rw [s22] at e23 B23
  have X223_23 := X223_22.gw F23 nf
  have X224_23 := X224_22.gw F23 nf
  have X225_23 := X225_22.gw F23 nf
  have X226_23 := X226_22.gw F23 nf
  have X227_23 := X227_22.gw F23 nf
  have X228_23 := X228_22.gw F23 nf
  have X229_23 := X229_22.gw F23 nf
  have X230_23 := X230_22.gw F23 nf
  have X231_23 := X231_22.gw F23 nf
  have X232_23 := X232_22.gw F23 nf
  have X233_23 := X233_22.gw F23 nf
  have O_23 := F23.g O_22 nf
  have s23 : h23.2.1 = 235 := by rw [F23.2.1, s22]
  have g23 := g22.tr (F23.mono (fun q _ z => z.elim))
  obtain ⟨h24, e24, F24, O_24⟩ := ob_P O_23 (k := 28) (Nat.le_of_ble_eq_true rfl) (.ref 234)
  have X223_24 := X223_23.fr F24 (by omega)
  have X224_24 := X224_23.fr F24 (by omega)
  have X225_24 := X225_23.fr F24 (by omega)
  have X226_24 := X226_23.fr F24 (by omega)
  have X227_24 := X227_23.fr F24 (by omega)
  have X228_24 := X228_23.fr F24 (by omega)
  have X229_24 := X229_23.fr F24 (by omega)
  have X230_24 := X230_23.fr F24 (by omega)
  have X231_24 := X231_23.fr F24 (by omega)
  have X232_24 := X232_23.fr F24 (by omega)
  have X233_24 := X233_23.fr F24 (by omega)
  have X234_24 := B23.fr F24 (by omega)
  have s24 : h24.2.1 = 235 := F24.2.1.trans s23
  have g24 := g23.tr F24.gw
  obtain ⟨h25, e25, F25, O_25⟩ := ob_P O_24 (k := 8) (Nat.le_of_ble_eq_true rfl) (.int 9)
  have X223_25 := X223_24.fr F25 (by omega)
  have X224_25 := X224_24.fr F25 (by omega)
  have X225_25 := X225_24.fr F25 (by omega)
  have X226_25 := X226_24.fr F25 (by omega)
  have X227_25 := X227_24.fr F25 (by omega)
  have X228_25 := X228_24.fr F25 (by omega)
  have X229_25 := X229_24.fr F25 (by omega)
  have X230_25 := X230_24.fr F25 (by omega)
  have X231_25 := X231_24.fr F25 (by omega)
  have X232_25 := X232_24.fr F25 (by omega)
  have X233_25 := X233_24.fr F25 (by omega)
  have X234_25 := X234_24.fr F25 (by omega)
  have s25 : h25.2.1 = 235 := F25.2.1.trans s24
  have g25 := g24.tr F25.gw
  obtain ⟨h26, e26, F26, O_26⟩ := ob_P O_25 (k := 9) (Nat.le_of_ble_eq_true rfl) (.int 9)
  have X223_26 := X223_25.fr F26 (by omega)
  have X224_26 := X224_25.fr F26 (by omega)
  have X225_26 := X225_25.fr F26 (by omega)
  have X226_26 := X226_25.fr F26 (by omega)
  have X227_26 := X227_25.fr F26 (by omega)
  have X228_26 := X228_25.fr F26 (by omega)
  have X229_26 := X229_25.fr F26 (by omega)
  have X230_26 := X230_25.fr F26 (by omega)
  have X231_26 := X231_25.fr F26 (by omega)
  have X232_26 := X232_25.fr F26 (by omega)
  have X233_26 := X233_25.fr F26 (by omega)
  have X234_26 := X234_25.fr F26 (by omega)
  have s26 : h26.2.1 = 235 := F26.2.1.trans s25
  have g26 := g25.tr F26.gw
  have OO : mo h26 mo_0 0 := O_26
  refine ⟨h26, ?_, g26.cast rfl rfl, mo_0, fun _ => 0, OO, X224_26, ⟨rfl, rfl, rfl, rfl, rfl⟩, ⟨fun p hp => absurd hp (Nat.not_lt_zero _), fun p hp => absurd hp (Nat.not_lt_zero _), rfl⟩, ⟨rfl, X225_26.cg (fun _ _ => rfl)⟩, ⟨0, fun _ => 0, fun _ => 0, by omega, Nat.zero_le _, rfl, rfl, X226_26, X227_26, fun k a hk => by cases hk⟩, ⟨fun _ => 0, fun _ => 0, X232_26.cg (fun _ _ => rfl), X233_26, X234_26, fun j a _ hk => by cases hk⟩, ⟨_, X223_26⟩, ⟨_, X228_26⟩, ⟨_, X229_26⟩, ⟨_, X230_26⟩, ⟨_, X231_26⟩⟩
  rw [bs_X3_init_0, e1, e2, Option.bind_some, e3, e4, Option.bind_some, e5, e6, Option.bind_some, e7, e8, Option.bind_some, e9, e10, Option.bind_some, e11, e12, Option.bind_some, e13, e14, Option.bind_some, e15, e16, Option.bind_some, e17, e18, Option.bind_some, e19, e20, Option.bind_some, e21, e22, Option.bind_some, e23, e24, Option.bind_some, e25, Option.bind_some, e26, Option.bind_some]
