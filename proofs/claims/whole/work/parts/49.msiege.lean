/-! THE MODEL: all of a text; fault, siege -/
section MS
variable {h : bn_H} {X : ct_X}
theorem mq_readText (H : mw h X) (hB : ct_B X) {Sp : sp_S} (BS : sp_B Sp) : ∃ h', bn_ev 82 0 [some (.ref 222), none] [] h = some (some (.int (sp_o (sr_all X.1 Sp).1)), h') ∧ ∃ fi, mo h fi (sp_seed X.2.1) ∧ mq_red (sr_all X.1 Sp) (sp_seed X.2.1) fi h h' := by
  obtain ⟨fi, N, O, A, R, M, ⟨t1, t2⟩, a, k, ⟨⟨N3, A3⟩, r⟩⟩ := H
  obtain ⟨h1, e1, F1, O1⟩ := mo_p15 O (nI 0)
  obtain ⟨h2, e2, F2, O2⟩ := mo_p16 O1 (-9)
  obtain ⟨h3, e3, F3, O3⟩ := mo_p4 O2 (nI 0)
  obtain ⟨h4, e4, F4, O4⟩ := mo_p5 O3 (nI 0)
  have F14 := ((F1.tr F2).tr F3).tr F4
  have T4 := t2.fr F14 (by omega)
  have A4 := A3.fr F14 (by omega)
  have b80 := hB.1
  have b256 := hB.2.1
  have i14 : va_up (va_up (va_up (va_up fi 15 (nI 0)) 16 (-9)) 4 (nI 0)) 5 (nI 0) 14 = nI X.1.1 := by
    rw [up_n (by omega), up_n (by omega), up_n (by omega), up_n (by omega)]; exact t1
  have kk4 : ∀ j, 6 ≤ j → j ≠ 15 → j ≠ 16 → va_up (va_up (va_up (va_up fi 15 (nI 0)) 16 (-9)) 4 (nI 0)) 5 (nI 0) j = fi j := fun j a b c => by
    rw [up_n (by omega), up_n (by omega), up_n (by omega), up_n (by omega)]
  have e0 := bs_X3_readText_0 222 h
  rw [show (0 : Int32) = nI 0 from rfl, e1, Option.bind_some, e2, Option.bind_some, e3, Option.bind_some, e4, Option.bind_some, mo_i14 O4, i14, sp_ifeq (b := 0) (by omega) (by omega)] at e0
  have bad : ∀ z, z = none ∨ z = some (0 : Nat) → z ≠ none → mq_red (z, Sp) (sp_seed X.2.1) fi h h4 := fun z _ hz => ⟨F14.mono mv_2, _, N3, O4, kk4, A4, fun q => absurd q hz⟩
  unfold sr_all sr_rules
  by_cases c0 : X.1.1 = 0
  · rw [if_pos c0] at e0
    rw [if_neg (show ¬ sr_sign X.1 0 83 = true from fun z => by have := (of_decide_eq_true z).1; omega)]
    exact ⟨h4, e0, fi, O, bad (some 0) (Or.inr rfl) (by simp)⟩
  · have hc := b256 0
    rw [if_neg c0, mo_r13 O4, T4.ld (j := 0) (by omega) (by decide), Option.bind_some, show (83 : Int32) = nI 83 from rfl, sp_ifeq (by omega) (by omega)] at e0
    by_cases c83 : X.1.2 0 = 83
    · rw [if_pos c83] at e0
      rw [if_pos (show sr_sign X.1 0 83 = true from decide_eq_true ⟨by omega, c83⟩)]
      have Z4 : mz h4 (va_up (va_up (va_up (va_up fi 15 (nI 0)) 16 (-9)) 4 (nI 0)) 5 (nI 0)) (sp_seed X.2.1) X.1 none 0 := ⟨O4, ⟨i14, by rw [up_n (by omega), up_n (by omega), up_n (by omega), up_e], by rw [up_n (by omega), up_n (by omega), up_e]; rfl⟩, T4, b80, b256, Nat.zero_le _, fun q hq => by cases hq⟩
      obtain ⟨h5, f5, e5, F5, Z5, k5'⟩ := Z4.at (by omega)
      have O5 := Z5.O
      obtain ⟨h6, f6, e6, F6, Z6, k6⟩ := mq_figure Z5 (A := fun d => decide (0 ≤ d ∧ d ≤ 2)) (a := 7) bx_02
      have m1 := mf_fig X.1 0 2 1
      generalize mf X.1 (fun d => decide (0 ≤ d ∧ d ≤ 2)) none (0 + 1) = y1 at e6 Z6 m1
      obtain ⟨v1, g1, p1⟩ := y1
      have O6 := Z6.O
      obtain ⟨h7, e7, F7, O7⟩ := mo_p1 O6 (nI v1)
      have Z7 : mz h7 (va_up f6 1 (nI v1)) (sp_seed X.2.1) X.1 g1 p1 := ⟨O7, ⟨by rw [up_n (by omega)]; exact Z6.2.1.1, by rw [up_n (by omega)]; exact Z6.2.1.2.1, by rw [up_n (by omega)]; exact Z6.2.1.2.2⟩, Z6.2.2.1.fr F7 (by omega), Z6.2.2.2⟩
      obtain ⟨h8, f8, e8, F8, Z8, k8⟩ := mq_figure Z7 (A := fun d => decide (1 ≤ d ∧ d ≤ 9)) (a := 1022) bx_19
      generalize m2d : mf X.1 (fun d => decide (1 ≤ d ∧ d ≤ 9)) g1 p1 = y2 at e8 Z8
      obtain ⟨v2, g2, p2⟩ := y2
      have O8 := Z8.O
      obtain ⟨h9, e9, F9, O9⟩ := mo_p2 O8 (nI v2)
      have Z9 : mz h9 (va_up f8 2 (nI v2)) (sp_seed X.2.1) X.1 g2 p2 := ⟨O9, ⟨by rw [up_n (by omega)]; exact Z8.2.1.1, by rw [up_n (by omega)]; exact Z8.2.1.2.1, by rw [up_n (by omega)]; exact Z8.2.1.2.2⟩, Z8.2.2.1.fr F9 (by omega), Z8.2.2.2⟩
      obtain ⟨ha, fa, ea, Fa, Za, ka⟩ := mq_figure Z9 (A := fun d => decide (1 ≤ d ∧ d ≤ 9)) (a := 1022) bx_19
      generalize m3d : mf X.1 (fun d => decide (1 ≤ d ∧ d ≤ 9)) g2 p2 = y3 at ea Za
      obtain ⟨v3, g3, p3⟩ := y3
      have Oa := Za.O
      obtain ⟨hb, eb, Fb, Ob⟩ := mo_p3 Oa (nI v3)
      have Zb : mz hb (va_up fa 3 (nI v3)) (sp_seed X.2.1) X.1 g3 p3 := ⟨Ob, ⟨by rw [up_n (by omega)]; exact Za.2.1.1, by rw [up_n (by omega)]; exact Za.2.1.2.1, by rw [up_n (by omega)]; exact Za.2.1.2.2⟩, Za.2.2.1.fr Fb (by omega), Za.2.2.2⟩
      have F5b := (((((F5.tr F6).tr F7).tr F8).tr F9).tr Fa).tr Fb
      have FF : sg_F mv_P h hb := (F14.tr F5b).mono mv_2
      have Ab := A4.fr F5b (by omega)
      have kb : ∀ j, 4 ≤ j → j ≠ 15 → j ≠ 16 → va_up fa 3 (nI v3) j = va_up (va_up (va_up (va_up fi 15 (nI 0)) 16 (-9)) 4 (nI 0)) 5 (nI 0) j := fun j a b c => by
        rw [up_n (by omega), ka j b c, up_n (by omega), k8 j b c, up_n (by omega), k6 j b c, k5' j b]
      have kc : ∀ j, 6 ≤ j → j ≠ 15 → j ≠ 16 → va_up fa 3 (nI v3) j = fi j := fun j a b c => (kb j (by omega) b c).trans (kk4 j a b c)
      have ev : bn_ev 82 0 [some (.ref 222), none] [] h = bn_ev 82 78 [some (.ref 222), none] [] hb := by
        refine e0.trans ?_
        rw [show (1 : Int32) = nI (0 + 1) from rfl, e5, Option.bind_some, mo_C O5, e6]
        simp only [bn_gd, bn_cI, if_true]
        rw [e7, Option.bind_some, mo_C O7, if_pos rfl, e8]
        simp only []
        rw [e9, Option.bind_some, mo_C O9, if_pos rfl, ea]
        simp only []
        rw [eb, Option.bind_some]
      have fin : ∀ q, g3 = some q → mq_red (some q, Sp) (sp_seed X.2.1) fi h hb := fun q _ => ⟨FF, _, N3, Ob, kc, Ab, fun z => absurd z (by simp)⟩
      cases x1 : sr_fig X.1 1 0 2 with
      | none =>
        rw [x1] at m1
        simp only [Prod.mk.injEq] at m1
        obtain ⟨rfl, rfl, rfl⟩ := m1
        simp only [mf, Prod.mk.injEq] at m2d
        obtain ⟨rfl, rfl, rfl⟩ := m2d
        simp only [mf, Prod.mk.injEq] at m3d
        obtain ⟨rfl, rfl, rfl⟩ := m3d
        exact ⟨hb, ev.trans (mq_rend Zb _), fi, O, fin 1 rfl⟩
      | some w1 =>
        rw [x1] at m1
        simp only [Prod.mk.injEq] at m1
        obtain ⟨rfl, rfl, rfl⟩ := m1
        rw [mf_fig] at m2d
        dsimp only
        cases x2 : sr_fig X.1 2 1 9 with
        | none =>
          rw [x2] at m2d
          simp only [Prod.mk.injEq] at m2d
          obtain ⟨rfl, rfl, rfl⟩ := m2d
          simp only [mf, Prod.mk.injEq] at m3d
          obtain ⟨rfl, rfl, rfl⟩ := m3d
          exact ⟨hb, ev.trans (mq_rend Zb _), fi, O, fin 2 rfl⟩
        | some w2 =>
          rw [x2] at m2d
          simp only [Prod.mk.injEq] at m2d
          obtain ⟨rfl, rfl, rfl⟩ := m2d
          rw [mf_fig] at m3d
          dsimp only
          cases x3 : sr_fig X.1 3 1 9 with
          | none =>
            rw [x3] at m3d
            simp only [Prod.mk.injEq] at m3d
            obtain ⟨rfl, rfl, rfl⟩ := m3d
            exact ⟨hb, ev.trans (mq_rend Zb _), fi, O, fin 3 rfl⟩
          | some w3 =>
            rw [x3] at m3d
            simp only [Prod.mk.injEq] at m3d
            obtain ⟨rfl, rfl, rfl⟩ := m3d
            have l1 := sr_fig_le x1
            have l2 := sr_fig_le x2
            have l3 := sr_fig_le x3
            have Rb : mz_R hb (va_up fa 3 (nI w3)) (sp_begin Sp v1 w2 w3) N3 := by
              refine ⟨⟨?_, ?_, ?_, ?_, ?_⟩, Ab, fun p hp => absurd hp (Nat.not_lt_zero _), fun p hp => absurd hp (Nat.not_lt_zero _), rfl⟩
              · rw [up_n (by omega), ka _ (by omega) (by omega), up_n (by omega), k8 _ (by omega) (by omega), up_e]; rfl
              · rw [up_n (by omega), ka _ (by omega) (by omega), up_e]; rfl
              · rw [up_e]; rfl
              · rw [kb _ (by omega) (by omega) (by omega), up_n (by omega), up_e]; rfl
              · rw [kb _ (by omega) (by omega) (by omega), up_e]; rfl
            obtain ⟨hc, ec, Fc, fc, Nc, Oc, kd, Ac, Mc⟩ := mq_parts 15 4 (sp_begin Sp v1 w2 w3) hb _ N3 none rfl Zb Rb (sp_begin_B BS (by omega) ⟨l2.1, l2.2.1⟩ ⟨l3.1, l3.2.1⟩)
            exact ⟨hc, ev.trans ec, fi, O, FF.tr Fc, fc, Nc, Oc, fun j a b c => (kd j a b c).trans (kc j a b c), Ac, Mc⟩
    · rw [if_neg c83] at e0
      rw [if_neg (show ¬ sr_sign X.1 0 83 = true from fun z => c83 (of_decide_eq_true z).2)]
      exact ⟨h4, e0, fi, O, bad (some 0) (Or.inr rfl) (by simp)⟩
theorem mo_inj {h : bn_H} {fi fj : Nat → Int32} {s t : Int64} (a : mo h fi s) (b : mo h fj t) : ∀ j, (7 ≤ j ∧ j ≤ 11) ∨ j = 14 ∨ j = 17 ∨ j = 18 → fi j = fj j := by
  have hh : mo_f fi s = mo_f fj t := by
    have := a.symm.trans b
    injection this with this
    injection this with this
    injection this with _ this
  have key : ∀ (k : Nat) (x y : Int32), (mo_f fi s)[k]? = some (Value.int x) → (mo_f fj t)[k]? = some (Value.int y) → x = y := fun k x y p q => by
    rw [hh, q] at p
    injection p with p
    injection p with p
    exact p.symm
  intro j hj
  have : j = 7 ∨ j = 8 ∨ j = 9 ∨ j = 10 ∨ j = 11 ∨ j = 14 ∨ j = 17 ∨ j = 18 := by omega
  rcases this with rfl | rfl | rfl | rfl | rfl | rfl | rfl | rfl
  · exact key 7 _ _ rfl rfl
  · exact key 8 _ _ rfl rfl
  · exact key 9 _ _ rfl rfl
  · exact key 10 _ _ rfl rfl
  · exact key 11 _ _ rfl rfl
  · exact key 14 _ _ rfl rfl
  · exact key 17 _ _ rfl rfl
  · exact key 18 _ _ rfl rfl
/-- a reading leaves the world as it is -/
theorem mw.red {h h' : bn_H} {X : ct_X} {fi : Nat → Int32} {r : Option Nat × sp_S} (H : mw h X) (O : mo h fi (sp_seed X.2.1)) (D : mq_red r (sp_seed X.2.1) fi h h') : mw h' X := by
  obtain ⟨f0, N, O0, A, R, M, ⟨t1, t2⟩, ⟨nx, W, Z, a1, a2, a3, a4, a5, a6, a7⟩, k, ⟨r1, r2, r3, r4, r5⟩⟩ := H
  obtain ⟨F, fi', N', O', kk, A', -⟩ := D
  have ii := mo_inj O O0
  have hn : ∀ q, q ≠ 222 → q ≠ 223 → ¬ mv_P q := fun q a b z => z.elim a b
  have j : ∀ j, (7 ≤ j ∧ j ≤ 11) ∨ j = 14 ∨ j = 17 ∨ j = 18 → fi' j = f0 j := fun j hj => (kk j (by omega) (by omega) (by omega)).trans (ii j hj)
  obtain ⟨f2, r2⟩ := r2
  obtain ⟨f3, r3⟩ := r3
  obtain ⟨f4, r4⟩ := r4
  obtain ⟨f5, r5⟩ := r5
  exact ⟨fi', N, O', A.fr F (hn _ (by omega) (by omega)), mr_cg R (fun i x y => j i (by omega)), M, ⟨by rw [j 14 (by omega)]; exact t1, t2.fr F (hn _ (by omega) (by omega))⟩, ⟨nx, W, Z, a1, a2, by rw [j 17 (by omega)]; exact a3, by rw [j 18 (by omega)]; exact a4, a5.fr F (hn _ (by omega) (by omega)), a6.fr F (hn _ (by omega) (by omega)), a7⟩, k.fr F (fun q x y => hn _ (by omega) (by omega)), ⟨⟨N', A'⟩, ⟨f2, r2.fr F (hn _ (by omega) (by omega))⟩, ⟨f3, r3.fr F (hn _ (by omega) (by omega))⟩, ⟨f4, r4.fr F (hn _ (by omega) (by omega))⟩, ⟨f5, r5.fr F (hn _ (by omega) (by omega))⟩⟩⟩
theorem mv_lt : ∀ q, mv_P q → mw_P q := fun q h => by unfold mv_P at h; unfold mw_P; omega
theorem mq_fault (H : mw h X) (hB : ct_B X) {Sp : sp_S} (BS : sp_B Sp) : mq_ok 84 [some (.ref 222)] h (sp_o (sr_all X.1 Sp).1) X := by
  obtain ⟨h1, e1, fi, O, D⟩ := mq_readText H hB BS
  refine ⟨h1, ?_, H.red O D, D.1.mono mv_lt⟩
  rw [bs_X3_fault_0, mo_C O, e1]
  rfl
theorem m70 {j : Nat} (h : j < 70) : ¬ (70 : Int32) ≤ nI j := nI_ge (b := 70) h (by omega)
theorem mq_siege (H : mw h X) (hB : ct_B X) {r : Int32} {X' : ct_X} (C : ca_told X r X') : mq_ok 85 [some (.ref 222), none] h r X' := by
  obtain ⟨Sp, BS, C⟩ := C
  obtain ⟨h1, e1, fi, O, D⟩ := mq_readText H hB BS
  have H1 := H.red O D
  have e0 := bs_X3_siege_0 222 h
  rw [mo_C O, e1] at e0
  simp only [bn_gd, bn_cI, if_true] at e0
  cases hf : (sr_all X.1 Sp).1 with
  | some q =>
    rw [hf] at C e0
    obtain ⟨rfl, rfl⟩ := C
    have hle := sr_all_le hf
    rw [if_neg (show ¬ sp_o (some q) = -9 from ne9 (by omega))] at e0
    exact ⟨h1, e0, H1, D.1.mono mv_lt⟩
  | none =>
    rw [hf] at C e0
    obtain ⟨rfl, rfl, B⟩ := C
    rw [if_pos (show sp_o none = -9 from rfl)] at e0
    obtain ⟨F, f1, N1, O1, k1, A1, M1⟩ := D
    obtain ⟨⟨r1, r2, r3, r4, r5⟩, -, MT⟩ := M1 hf
    generalize (sr_all X.1 Sp).2 = S at B r1 r2 r3 r4 r5 MT ⊢
    obtain ⟨f0, N0, O0, A0, R0, M0, ⟨t1, t2⟩, ⟨nx, W, Z, a1, a2, a3, a4, a5, a6, a7⟩, ⟨Q, Y, q1, q2, q3, q4⟩, rr⟩ := H1
    have ii := mo_inj O1 O0
    obtain ⟨h2, e2, F2, A2⟩ := cp_loop (E := fun j h => bn_ev 85 14 [some (.ref 222), some (.int (nI j))] [] h) (c := 70) (q := 223) (q' := 224) (a := 0) (b := 0) (N := N1) (W := N0) (fun h => mo h f1 (sp_seed X.2.1)) (fun h h' i F => i.fr F (by omega)) (fun j h hj i => by
      show bn_ev 85 14 _ _ _ = _
      rw [bs_X3_siege_14, if_neg (m70 hj), mo_r6 i, mo_r0 i, n1, Nat.zero_add]) (by omega) (by omega) (by omega) (by omega) (by omega) O1 A1 A0
    have O2 := O1.fr F2 (by omega)
    obtain ⟨h3, e3, F3, A3⟩ := A2.sd (j := 70) (by omega) (by omega) 0
    have O3 := O2.fr F3 (by omega)
    obtain ⟨h4, e4, F4, O4⟩ := mo_p7 O3 (f1 1)
    obtain ⟨h5, e5, F5, O5⟩ := mo_p8 O4 (f1 2)
    obtain ⟨h6, e6, F6, O6⟩ := mo_p9 O5 (f1 3)
    obtain ⟨h7, e7, F7, O7⟩ := mo_p10 O6 (f1 4)
    obtain ⟨h8, e8, F8, O8⟩ := mo_p11 O7 (f1 5)
    obtain ⟨h9, e9, F9, O9⟩ := mo_p17 O8 (nI 0)
    have F49 := ((((F4.tr F5).tr F6).tr F7).tr F8).tr F9
    have K9 := ((q1.fr F2 (by omega)).fr F3 (by omega)).fr F49 (by omega)
    obtain ⟨ha, ea, Fa, Ka⟩ := K9.sd (j := 0) (by omega) (by decide) (nI 0)
    obtain ⟨hb, eb, Fb, Kb⟩ := Ka.sd (j := 1) (by omega) (by decide) (nI 0)
    have Fab := Fa.tr Fb
    have Oa := O9.fr Fa (by omega)
    have Ob := Oa.fr Fb (by omega)
    have ea : bn_sd h9 232 1 0 (nI 0) = some ha := ea
    have eb : bn_sd ha 232 1 1 (nI 0) = some hb := eb
    have e9 : bn_pf h8 222 3 17 (.int 0) = some h9 := e9
    have e3 : bn_sd h2 224 0 70 0 = some h3 := e3
    have g2 : ∀ {f : Nat → Int32} {q t n : Nat}, sg_A h1 q t n f → q ≠ 222 → q ≠ 224 → q ≠ 232 → sg_A hb q t n f := fun a z1 z2 z3 => (((a.fr F2 z2).fr F3 z2).fr F49 z1).fr Fab z3
    have kJ : ∀ {f : Nat → Int64} {q n : Nat}, sg_J h1 q n f → q ≠ 222 → q ≠ 224 → q ≠ 232 → sg_J hb q n f := fun a z1 z2 z3 => (((a.fr F2 z2).fr F3 z2).fr F49 z1).fr Fab z3
    have Ab := (A3.fr F49 (by omega)).fr Fab (by omega)
    have p10 : va_up (va_up (va_up (va_up (va_up (va_up f1 7 (f1 1)) 8 (f1 2)) 9 (f1 3)) 10 (f1 4)) 11 (f1 5)) 17 (nI 0) 10 = nI (sp_people S) := by rw [up_n (by omega), up_n (by omega), up_e]; exact r4
    have p11 : va_up (va_up (va_up (va_up (va_up (va_up f1 7 (f1 1)) 8 (f1 2)) 9 (f1 3)) 10 (f1 4)) 11 (f1 5)) 17 (nI 0) 11 = nI (sp_loaves S) := by rw [up_n (by omega), up_e]; exact r5
    have FF : sg_F mw_P h hb := ((((F.mono mv_lt).tr (F2.mono (mw_eq (by omega)))).tr (F3.mono (mw_eq (by omega)))).tr (F49.mono (mw_eq (by omega)))).tr (Fab.mono (mw_eq (by omega)))
    refine ⟨hb, ?_, ?_, FF⟩
    · refine e0.trans (e2.trans ?_)
      show bn_ev 85 14 _ _ _ = _
      have w2 : va_up f1 7 (f1 1) 2 = f1 2 := up_n (by omega)
      have w3 : va_up (va_up f1 7 (f1 1)) 8 (f1 2) 3 = f1 3 := by rw [up_n (by omega), up_n (by omega)]
      have w4 : va_up (va_up (va_up f1 7 (f1 1)) 8 (f1 2)) 9 (f1 3) 4 = f1 4 := by rw [up_n (by omega), up_n (by omega), up_n (by omega)]
      have w5 : va_up (va_up (va_up (va_up f1 7 (f1 1)) 8 (f1 2)) 9 (f1 3)) 10 (f1 4) 5 = f1 5 := by rw [up_n (by omega), up_n (by omega), up_n (by omega), up_n (by omega)]
      rw [bs_X3_siege_14, if_pos (show (70 : Int32) ≤ nI 70 by decide), mo_r6 O2, e3, Option.bind_some, mo_i1 O3, e4, Option.bind_some, mo_i2 O4, w2, e5, Option.bind_some, mo_i3 O5, w3, e6, Option.bind_some, mo_i4 O6, w4, e7, Option.bind_some, mo_i5 O7, w5, e8, Option.bind_some, e9, Option.bind_some, mo_r26 O9, nar_0, ea, Option.bind_some, mo_r26 Oa, eb, Option.bind_some, mo_i10 Ob, p10, mo_i11 Ob, p11]
    · obtain ⟨⟨x1, y1⟩, ⟨x2, y2⟩, ⟨x3, y3⟩, ⟨x4, y4⟩, ⟨x5, y5⟩⟩ := rr
      refine ⟨_, _, Ob, Ab, ⟨?_, ?_, ?_, p10, p11⟩, ⟨fun p hp => ?_, fun l hl => ?_, ?_⟩, ⟨?_, g2 t2 (by omega) (by omega) (by omega)⟩, ⟨nx, W, Z, a1, Nat.zero_le _, up_e, ?_, g2 a5 (by omega) (by omega) (by omega), kJ a6 (by omega) (by omega) (by omega), fun k a hk => by cases hk⟩, ⟨Q, Y, Kb.cg (fun j hj => ?_), g2 q2 (by omega) (by omega) (by omega), kJ q3 (by omega) (by omega) (by omega), fun j a _ hk => by cases hk⟩, ⟨x1, g2 y1 (by omega) (by omega) (by omega)⟩, ⟨x2, g2 y2 (by omega) (by omega) (by omega)⟩, ⟨x3, g2 y3 (by omega) (by omega) (by omega)⟩, ⟨x4, g2 y4 (by omega) (by omega) (by omega)⟩, ⟨x5, g2 y5 (by omega) (by omega) (by omega)⟩⟩
      · rw [up_n (by omega), up_n (by omega), up_n (by omega), up_n (by omega), up_n (by omega), up_e]; exact r1
      · rw [up_n (by omega), up_n (by omega), up_n (by omega), up_n (by omega), up_e]; exact r2
      · rw [up_n (by omega), up_n (by omega), up_n (by omega), up_e]; exact r3
      · have hp : p < sp_people S := hp
        have hp5 := B.2.2.2.1
        have u : ∀ j, j < 70 → va_up (cp_W N0 0 70 (fun i => N1 (0 + i))) 70 0 j = N1 j := fun j hj => by
          rw [up_n (by omega)]
          have := cp_in (W := N0) (b := 0) (N := fun i => N1 (0 + i)) hj
          rw [Nat.zero_add] at this
          rw [this]
        rw [u _ (by omega), u _ (by omega), u _ (by omega), u _ (by omega)]
        exact MT.1 p hp
      · have hl : l < sp_loaves S := hl
        have hl5 := B.2.2.2.2.1
        have u : ∀ j, j < 70 → va_up (cp_W N0 0 70 (fun i => N1 (0 + i))) 70 0 j = N1 j := fun j hj => by
          rw [up_n (by omega)]
          have := cp_in (W := N0) (b := 0) (N := fun i => N1 (0 + i)) hj
          rw [Nat.zero_add] at this
          rw [this]
        rw [u _ (by omega), u _ (by omega), u _ (by omega), u _ (by omega), u _ (by omega)]
        exact MT.2.1 l hl
      · rw [up_e]; exact MT.2.2.symm
      · rw [up_n (by omega), up_n (by omega), up_n (by omega), up_n (by omega), up_n (by omega), up_n (by omega), ii 14 (by omega)]; exact t1
      · rw [up_n (by omega), up_n (by omega), up_n (by omega), up_n (by omega), up_n (by omega), up_n (by omega), ii 18 (by omega)]; exact a4
      · have : j = 0 ∨ j = 1 := by omega
        rcases this with rfl | rfl
        · rw [up_n (by omega), up_e]; rfl
        · rw [up_e]; rfl
end MS
