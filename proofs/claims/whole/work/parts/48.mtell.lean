/-! THE MODEL READS A TEXT: loaves, people, all; fault, siege -/
def mv_P : Nat → Prop := fun q => q = 222 ∨ q = 223
theorem mv_2 : ∀ q, q = 222 → mv_P q := fun q h => Or.inl h
theorem mv_3 : ∀ q, q = 223 → mv_P q := fun q h => Or.inr h
theorem bx_low : ∀ lv, lv < 10 → ∀ d, d < 10 → bn_shr (bn_shl 2 (nI lv) - 1) (nI d) &&& 1 = sp_b (decide (0 ≤ d ∧ d ≤ lv)) := by decide +kernel
theorem bx_lowp : ∀ n, n < 6 → 0 < n → ∀ d, d < 10 → bn_shr (bn_shl 1 (nI n) - 1) (nI d) &&& 1 = sp_b (decide (0 ≤ d ∧ d ≤ n - 1)) := by decide +kernel
theorem bx_all : ∀ d, d < 10 → bn_shr 1023 (nI d) &&& 1 = sp_b (decide (0 ≤ d ∧ d ≤ 9)) := by decide +kernel
theorem bx_19 : ∀ d, d < 10 → bn_shr 1022 (nI d) &&& 1 = sp_b (decide (1 ≤ d ∧ d ≤ 9)) := by decide +kernel
theorem bx_02 : ∀ d, d < 10 → bn_shr 7 (nI d) &&& 1 = sp_b (decide (0 ≤ d ∧ d ≤ 2)) := by decide +kernel
theorem sr_some0 (S : sp_S) (t : Nat) : (sp_bits (fun u => sr_free S (10 * t + u)) 10 = 0) = (sr_some S t = false) := by
  rw [sp_bits0 _ (by omega)]
  apply propext
  refine Iff.trans (sp_ct0 _ 10 0) ?_
  rw [← Bool.not_eq_true, sr_some, sp_any_iff]
  constructor
  · rintro a ⟨k, b, c, d⟩
    rw [a k b c] at d
    exact absurd d (by decide)
  · intro a k b c
    cases hq : sr_free S (10 * t + k) with
    | false => rfl
    | true => exact absurd ⟨k, b, c, hq⟩ a
/-- the fields of what is read -/
def mz_R (h : bn_H) (fi : Nat → Int32) (S : sp_S) (N : Nat → Int32) : Prop := (fi 1 = nI (sp_law S) ∧ fi 2 = nI (sp_lives S) ∧ fi 3 = nI (sp_badAt S) ∧ fi 4 = nI (sp_people S) ∧ fi 5 = nI (sp_loaves S)) ∧ sg_A h 223 0 71 N ∧ mt_R S N
section RL
variable {h : bn_H} {fi : Nat → Int32} {s : Int64} {T : Nat × (Nat → Nat)} {S : sp_S} {pos : Nat} {N : Nat → Int32}
theorem mz.O {f : Option Nat} (H : mz h fi s T f pos) : mo h fi s := H.1
theorem mq_readLoaf (H : mz h fi s T none pos) (R : mz_R h fi S N) (B : sp_B S) (hs : sr_sign T pos 76 = true) (hl : sp_loaves S < 10) (hq : 0 < sp_people S) : ∃ h' fi' N', bn_ev 83 0 [some (.ref 222), none, none, none, none, none] [] h = some (none, h') ∧ sg_F mv_P h h' ∧ sg_A h' 223 0 71 N' ∧ (∀ j, j ≠ 5 → j ≠ 15 → j ≠ 16 → fi' j = fi j) ∧ (match sr_loaf T S pos with
    | .inl q => ∃ ps, mz h' fi' s T (some q) ps
    | .inr q => mz h' fi' s T none q.1 ∧ mz_R h' fi' q.2 N' ∧ sp_B q.2 ∧ sp_people q.2 + sp_loaves q.2 = sp_people S + sp_loaves S + 1) := by
  obtain ⟨b_law, ⟨b_l1, b_lv⟩, ⟨b_b1, b_bd⟩, b_pp, b_lo, b_fa, b_at, b_nu, b_ho, b_ag⟩ := id B
  obtain ⟨⟨r1, r2, r3, r4, r5⟩, AN, M⟩ := R
  have hp : pos < T.1 := by
    simp only [sr_sign, decide_eq_true_eq] at hs
    exact hs.1
  have h0 : ¬ (sp_people S = 0 ∨ 10 ≤ sp_loaves S ∨ sr_sign T pos 76 = false) := by
    rintro (z | z | z)
    · omega
    · omega
    · rw [hs] at z; exact absurd z (by decide)
  obtain ⟨h1, f1, e1, F1, Z1, k1⟩ := H.at hp
  have A1 := AN.fr F1 (by omega)
  have O1 := Z1.O
  have l1 : f1 5 = nI (sp_loaves S) := by rw [k1 _ (by omega)]; exact r5
  have lp : bn_ev 83 14 [some (.ref 222), some (.int 0), some (.int (nI 0)), none, none, none] [] h1 = bn_ev 83 14 [some (.ref 222), some (.int (sp_bits (sr_some S) 10)), some (.int (nI 10)), none, none, none] [] h1 := by
    refine lp_pure (n := 10) (E := fun i a => bn_ev 83 14 [some (.ref 222), some (.int a), some (.int (nI i)), none, none, none] [] h1) (g := sp_g1 (sr_some S)) (fun i a hi => ?_) 10 0 0 (by omega)
    show bn_ev 83 14 _ _ _ = bn_ev 83 14 _ _ _
    rw [bs_X3_readLoaf_14, if_neg (show ¬ (10 : Int32) ≤ nI i from nI_ge (b := 10) hi (by omega)), mo_C O1, mq_free O1 A1 B l1 (fun l q => (M.2.1 l q).1) (by omega)]
    simp only [bn_gd, bn_cI, if_true, n1, sr_some0, sp_g1]
    by_cases q : sr_some S i = true
    · rw [if_neg (by rw [q]; decide), if_pos q]
    · rw [if_pos (by simpa using q), if_neg q, show a ||| 0 = a by simp]
  obtain ⟨h2, f2, e2, F2, Z2, k2⟩ := mq_figure Z1 (A := sr_some S) (a := sp_bits (sr_some S) 10) (fun d hd => (sp_bits_bit _ (by omega) (by omega)).trans (by rw [decide_eq_true hd, Bool.true_and]))
  have t9 := mf_le T (sr_some S) none (pos + 1)
  generalize hm1 : mf T (sr_some S) none (pos + 1) = m1 at e2 Z2 t9
  obtain ⟨t, g1, p1⟩ := m1
  have A2 := A1.fr F2 (by omega)
  have O2 := Z2.O
  have l2 : f2 5 = nI (sp_loaves S) := by rw [k2 _ (by omega) (by omega)]; exact l1
  have ef := mq_free O2 A2 B l2 (fun l q => (M.2.1 l q).1) t9
  obtain ⟨h3, f3, e3, F3, Z3, k3⟩ := mq_figure Z2 (A := fun u => sr_free S (10 * t + u)) (a := sp_bits (fun u => sr_free S (10 * t + u)) 10) (fun d hd => (sp_bits_bit _ (by omega) (by omega)).trans (by rw [decide_eq_true hd, Bool.true_and]))
  have u9 := mf_le T (fun u => sr_free S (10 * t + u)) g1 p1
  generalize hm2 : mf T (fun u => sr_free S (10 * t + u)) g1 p1 = m2 at e3 Z3 u9
  obtain ⟨u, g2, p2⟩ := m2
  have A3 := A2.fr F3 (by omega)
  have O3 := Z3.O
  have p3' : f3 4 = nI (sp_people S) := by rw [k3 _ (by omega) (by omega), k2 _ (by omega) (by omega), k1 _ (by omega)]; exact r4
  obtain ⟨h4, f4, e4, F4, Z4, k4⟩ := mq_figure Z3 (A := fun d => decide (0 ≤ d ∧ d ≤ sp_people S - 1)) (a := bn_shl 1 (nI (sp_people S)) - 1) (bx_lowp _ (by omega) hq)
  have o9 := mf_le T (fun d => decide (0 ≤ d ∧ d ≤ sp_people S - 1)) g2 p2
  generalize hm3 : mf T (fun d => decide (0 ≤ d ∧ d ≤ sp_people S - 1)) g2 p2 = m3 at e4 Z4 o9
  obtain ⟨o, g3, p3⟩ := m3
  have A4 := A3.fr F4 (by omega)
  have O4 := Z4.O
  have l4 : f4 5 = nI (sp_loaves S) := by rw [k4 _ (by omega) (by omega), k3 _ (by omega) (by omega)]; exact l2
  obtain ⟨h5, e5, F5, A5⟩ := A4.sd (j := 20 + 5 * sp_loaves S) (by omega) (by omega) (nI (10 * t + u))
  have O5 := O4.fr F5 (by omega)
  obtain ⟨h6, e6, F6, A6⟩ := A5.sd (j := 20 + 5 * sp_loaves S + 1) (by omega) (by omega) (nI o)
  have F56 := F5.tr F6
  have O6 := O5.fr F6 (by omega)
  have Z6 : mz h6 f4 s T g3 p3 := ⟨O6, Z4.2.1, Z4.2.2.1.fr F56 (by omega), Z4.2.2.2⟩
  obtain ⟨h7, f7, e7, F7, Z7, k7⟩ := mq_figure Z6 (A := fun d => decide (0 ≤ d ∧ d ≤ 9)) (a := 1023) bx_all
  have a9 := mf_le T (fun d => decide (0 ≤ d ∧ d ≤ 9)) g3 p3
  generalize hm4 : mf T (fun d => decide (0 ≤ d ∧ d ≤ 9)) g3 p3 = m4 at e7 Z7 a9
  obtain ⟨a, g4, p4⟩ := m4
  have A7 := A6.fr F7 (by omega)
  have O7 := Z7.O
  obtain ⟨h8, e8, F8, A8⟩ := A7.sd (j := 20 + 5 * sp_loaves S + 2) (by omega) (by omega) (nI a)
  have O8 := O7.fr F8 (by omega)
  obtain ⟨h9, e9, F9, A9⟩ := A8.sd (j := 20 + 5 * sp_loaves S + 3) (by omega) (by omega) (-9)
  have O9 := O8.fr F9 (by omega)
  obtain ⟨h10, e10, F10, A10⟩ := A9.sd (j := 20 + 5 * sp_loaves S + 4) (by omega) (by omega) (-9)
  have O10 := O9.fr F10 (by omega)
  have l10 : f7 5 = nI (sp_loaves S) := by rw [k7 _ (by omega) (by omega)]; exact l4
  obtain ⟨h11, e11, F11, O11⟩ := mo_p5 O10 (nI (sp_loaves S + 1))
  have F810 := (F8.tr F9).tr F10
  have A11 := A10.fr F11 (by omega)
  have Z11 : mz h11 (va_up f7 5 (nI (sp_loaves S + 1))) s T g4 p4 := ⟨O11, ⟨by rw [up_n (by omega)]; exact Z7.2.1.1, by rw [up_n (by omega)]; exact Z7.2.1.2.1, by rw [up_n (by omega)]; exact Z7.2.1.2.2⟩, (Z7.2.2.1.fr F810 (by omega)).fr F11 (by omega), Z7.2.2.2⟩
  have kk : ∀ j, j ≠ 5 → j ≠ 15 → j ≠ 16 → va_up f7 5 (nI (sp_loaves S + 1)) j = fi j := fun j a b c => by
    rw [up_n a, k7 j b c, k4 j b c, k3 j b c, k2 j b c, k1 j b]
  have FF : sg_F mv_P h h11 := (((((((F1.mono mv_2).tr (F2.mono mv_2)).tr (F3.mono mv_2)).tr (F4.mono mv_2)).tr (F56.mono mv_3)).tr (F7.mono mv_2)).tr (F810.mono mv_3)).tr (F11.mono mv_2)
  refine ⟨h11, _, _, ?_, FF, A11, kk, ?_⟩
  · have e20 : (20 : Int32) + 5 * nI (sp_loaves S) = nI (20 + 5 * sp_loaves S) := k5 _
    have en : (10 : Int32) * nI t + nI u = nI (10 * t + u) := by rw [show (10 : Int32) * nI t = nI (10 * t) from pk_mul 10 t, nI_add]
    rw [bs_X3_readLoaf_0, mo_i15 H.O, H.2.1.2.1, n1, e1, Option.bind_some]
    refine (show _ = bn_ev 83 14 [some (.ref 222), some (.int 0), some (.int (nI 0)), none, none, none] [] h1 from rfl).trans (lp.trans ?_)
    rw [bs_X3_readLoaf_14, if_pos (show (10 : Int32) ≤ nI 10 by decide), mo_C O1, e2]
    simp only [bn_gd, bn_cI, if_true]
    rw [mo_C O2, if_pos rfl, ef]
    simp only []
    rw [mo_C O2, if_pos rfl, e3]
    simp only []
    rw [mo_i4 O3, p3', mo_C O3, if_pos rfl, e4]
    simp only []
    rw [mo_i5 O4, l4, mo_r0 O4, e20, en, e5, Option.bind_some, mo_r0 O5, n1, e6, Option.bind_some, mo_r0 O6, mo_C O6, if_pos rfl, e7]
    simp only []
    rw [n2, e8, Option.bind_some, mo_r0 O8, n3, e9, Option.bind_some, mo_r0 O9, n4, e10, Option.bind_some, mo_i5 O10, l10, n1, e11, Option.bind_some]
  · have := mf_loaf h0 hm1 hm2 hm3 hm4
    revert this
    cases hx : sr_loaf T S pos with
    | inl q =>
      intro e
      subst e
      exact ⟨p4, Z11⟩
    | inr q =>
      rintro ⟨rfl, rfl, hS⟩
      dsimp only
      rw [hS]
      refine ⟨Z11, ⟨⟨?_, ?_, ?_, ?_, ?_⟩, A11, mt_addL M b_pp _ _ _⟩, sp_addL_B B (by omega) (by omega) (by omega) hl, ?_⟩
      · rw [kk _ (by omega) (by omega) (by omega)]; exact r1
      · rw [kk _ (by omega) (by omega) (by omega)]; exact r2
      · rw [kk _ (by omega) (by omega) (by omega)]; exact r3
      · rw [kk _ (by omega) (by omega) (by omega)]; exact r4
      · rw [up_e]; rfl
      · show sp_people S + (sp_loaves S + 1) = _; omega
/-- where a fault is, the reading ends -/
theorem mq_rend {q : Nat} (H : mz h fi s T (some q) pos) (o : Option Value) : bn_ev 82 78 [some (.ref 222), o] [] h = some (some (.int (nI q)), h) := by
  have q80 := H.2.2.2.2.2.2 q rfl
  rw [bs_X3_readText_78, mo_i16 H.O, H.2.1.2.2, if_neg (show ¬ sp_o (some q) = -9 from ne9 (by omega)), mo_i16 H.O, H.2.1.2.2]
  rfl
theorem mq_rbad (H : mz h fi s T none pos) (R : mz_R h fi S N) (B : sp_B S) (hp : pos < T.1) (hx : ¬ T.2 pos = 76 ∨ 10 ≤ sp_loaves S ∨ sp_people S = 0) (o : Option Value) : ∃ h' fi', bn_ev 82 195 [some (.ref 222), o] [] h = some (some (.int (nI pos)), h') ∧ sg_F (fun q => q = 222) h h' ∧ mz h' fi' s T (some pos) pos ∧ ∀ j, j ≠ 16 → fi' j = fi j := by
  obtain ⟨b_law, ⟨b_l1, b_lv⟩, ⟨b_b1, b_bd⟩, b_pp, b_lo, b_fa, b_at, b_nu, b_ho, b_ag⟩ := id B
  obtain ⟨⟨r1, r2, r3, r4, r5⟩, AN, M⟩ := R
  obtain ⟨O, ⟨x1, x2, x3⟩, TA, b1, b2, b3, b4⟩ := id H
  have hc := b2 pos
  obtain ⟨h1, f1, e1, F1, Z1, k1⟩ := H.fault (q := pos) (by omega)
  refine ⟨h1, f1, ?_, F1, Z1, k1⟩
  have ee := mq_rend Z1 o
  rw [bs_X3_readText_195, mo_r13 O, mo_i15 O, x2, TA.ld (j := pos) (by omega) (by decide), Option.bind_some, show (76 : Int32) = nI 76 from rfl, sp_ifeq (by omega) (by omega)]
  by_cases c : T.2 pos = 76
  · rw [if_pos c, mo_i5 O, r5, show (10 : Int32) = nI 10 from rfl, sp_ifle (by omega) (by omega)]
    by_cases c2 : 10 ≤ sp_loaves S
    · rw [if_pos c2, mo_i15 O, x2, e1, Option.bind_some, ee]
    · rw [if_neg c2, mo_i4 O, r4, show (0 : Int32) = nI 0 from rfl, sp_ifle (by omega) (by omega), if_pos (by omega), mo_i15 O, x2, e1, Option.bind_some, ee]
  · rw [if_neg c, mo_i15 O, x2, e1, Option.bind_some, ee]
end RL
/-- what a reading comes to -/
def mq_red (r : Option Nat × sp_S) (s : Int64) (fi : Nat → Int32) (h h' : bn_H) : Prop := sg_F mv_P h h' ∧ ∃ fi' N', mo h' fi' s ∧ (∀ j, 6 ≤ j → j ≠ 15 → j ≠ 16 → fi' j = fi j) ∧ sg_A h' 223 0 71 N' ∧ (r.1 = none → mz_R h' fi' r.2 N')
theorem mq_parts {s : Int64} {T : Nat × (Nat → Nat)} : ∀ (r pos : Nat) (S : sp_S) (h : bn_H) (fi N : Nat → Int32) (o : Option Value), sp_people S + sp_loaves S + r = 15 → mz h fi s T none pos → mz_R h fi S N → sp_B S → ∃ h', bn_ev 82 78 [some (.ref 222), o] [] h = some (some (.int (sp_o (sr_parts T r pos S).1)), h') ∧ mq_red (sr_parts T r pos S) s fi h h' := by
  intro r
  induction r with
  | zero =>
    intro pos S h fi N o hr H R B
    obtain ⟨b_law, ⟨b_l1, b_lv⟩, ⟨b_b1, b_bd⟩, b_pp, b_lo, b_fa, b_at, b_nu, b_ho, b_ag⟩ := id B
    obtain ⟨O, ⟨x1, x2, x3⟩, TA, b1, b2, b3, b4⟩ := id H
    have hc := b2 pos
    have e0 := bs_X3_readText_78 222 o h
    rw [mo_i16 O, x3, if_pos (show sp_o none = -9 from rfl), mo_i15 O, mo_i14 O, x1, x2, sp_ifle (by omega) (by omega)] at e0
    simp only [sr_parts]
    by_cases q : pos < T.1
    · obtain ⟨h1, f1, e1, F1, Z1, k1⟩ := mq_rbad H R B q (Or.inr (Or.inl (by omega))) o
      rw [if_neg (by omega), mo_r13 O, mo_i15 O, x2, TA.ld (j := pos) (by omega) (by decide), Option.bind_some] at e0
      rw [if_pos q]
      refine ⟨h1, ?_, F1.mono mv_2, f1, N, Z1.O, fun j a b c => k1 j c, R.2.1.fr F1 (by omega), fun z => absurd z (by simp)⟩
      refine e0.trans ?_
      split
      · rw [mo_i4 O, R.1.2.2.2.1, show (5 : Int32) = nI 5 from rfl, sp_ifle (by omega) (by omega), if_pos (by omega)]
        exact e1
      · exact e1
    · rw [if_pos (by omega), mo_i16 O, x3] at e0
      rw [if_neg q]
      exact ⟨h, e0, sg_F.rf, fi, N, O, fun j _ _ _ => rfl, R.2.1, fun _ => R⟩
  | succ r ih =>
    intro pos S h fi N o hr H R B
    obtain ⟨b_law, ⟨b_l1, b_lv⟩, ⟨b_b1, b_bd⟩, b_pp, b_lo, b_fa, b_at, b_nu, b_ho, b_ag⟩ := id B
    obtain ⟨O, ⟨x1, x2, x3⟩, TA, b1, b2, b3, b4⟩ := id H
    have hc := b2 pos
    have e0 := bs_X3_readText_78 222 o h
    rw [mo_i16 O, x3, if_pos (show sp_o none = -9 from rfl), mo_i15 O, mo_i14 O, x1, x2, sp_ifle (by omega) (by omega)] at e0
    simp only [sr_parts]
    by_cases q : pos < T.1
    · rw [if_neg (by omega), mo_r13 O, mo_i15 O, x2, TA.ld (j := pos) (by omega) (by decide), Option.bind_some, show (80 : Int32) = nI 80 from rfl, sp_ifeq (by omega) (by omega)] at e0
      rw [if_pos q]
      unfold sr_part
      by_cases c : T.2 pos = 80
      · rw [if_pos c, mo_i4 O, R.1.2.2.2.1, show (5 : Int32) = nI 5 from rfl, sp_ifle (by omega) (by omega)] at e0
        rw [if_pos (show sr_sign T pos 80 = true from decide_eq_true ⟨q, c⟩)]
        unfold sr_person
        by_cases c5 : sp_people S < 5
        · rw [if_neg (by omega)] at e0
          rw [if_pos c5]
          obtain ⟨⟨r1, r2, r3, r4, r5⟩, AN, M⟩ := R
          obtain ⟨h1, f1, e1, F1, Z1, k1⟩ := H.at q
          have O1 := Z1.O
          obtain ⟨h2, f2, e2, F2, Z2, k2⟩ := mq_figure Z1 (A := fun d => decide (0 ≤ d ∧ d ≤ sp_lives S)) (a := bn_shl 2 (nI (sp_lives S)) - 1) (bx_low _ (by omega))
          have d9 := mf_le T (fun d => decide (0 ≤ d ∧ d ≤ sp_lives S)) none (pos + 1)
          have hm := mf_fig T 0 (sp_lives S) (pos + 1)
          generalize mf T (fun d => decide (0 ≤ d ∧ d ≤ sp_lives S)) none (pos + 1) = m1 at e2 Z2 d9 hm
          obtain ⟨d, g1, p1⟩ := m1
          have O2 := Z2.O
          have A2 := (AN.fr F1 (by omega)).fr F2 (by omega)
          obtain ⟨h3, e3, F3, A3⟩ := A2.sd (j := 4 * sp_people S) (by omega) (by omega) (nI d)
          have O3 := O2.fr F3 (by omega)
          obtain ⟨h4, e4, F4, A4⟩ := A3.sd (j := 4 * sp_people S + 1) (by omega) (by omega) 1
          have O4 := O3.fr F4 (by omega)
          obtain ⟨h5, e5, F5, A5⟩ := A4.sd (j := 4 * sp_people S + 2) (by omega) (by omega) 0
          have O5 := O4.fr F5 (by omega)
          obtain ⟨h6, e6, F6, A6⟩ := A5.sd (j := 4 * sp_people S + 3) (by omega) (by omega) 0
          have O6 := O5.fr F6 (by omega)
          obtain ⟨h7, e7, F7, O7⟩ := mo_p4 O6 (nI (sp_people S + 1))
          have F36 := ((F3.tr F4).tr F5).tr F6
          have A7 := A6.fr F7 (by omega)
          have Z7 : mz h7 (va_up f2 4 (nI (sp_people S + 1))) s T g1 p1 := ⟨O7, ⟨by rw [up_n (by omega)]; exact Z2.2.1.1, by rw [up_n (by omega)]; exact Z2.2.1.2.1, by rw [up_n (by omega)]; exact Z2.2.1.2.2⟩, (Z2.2.2.1.fr F36 (by omega)).fr F7 (by omega), Z2.2.2.2⟩
          have kk : ∀ j, j ≠ 4 → j ≠ 15 → j ≠ 16 → va_up f2 4 (nI (sp_people S + 1)) j = fi j := fun j a b c => by rw [up_n a, k2 j b c, k1 j b]
          have FF : sg_F mv_P h h7 := (((F1.mono mv_2).tr (F2.mono mv_2)).tr (F36.mono mv_3)).tr (F7.mono mv_2)
          have p1' : f1 4 = nI (sp_people S) := by rw [k1 _ (by omega)]; exact r4
          have l1' : f1 2 = nI (sp_lives S) := by rw [k1 _ (by omega)]; exact r2
          have p2' : f2 4 = nI (sp_people S) := by rw [k2 _ (by omega) (by omega)]; exact p1'
          have ej : (4 : Int32) * nI (sp_people S) = nI (4 * sp_people S) := j4 _
          have ev : bn_ev 82 78 [some (.ref 222), o] [] h = bn_ev 82 78 [some (.ref 222), some (.int (nI (4 * sp_people S)))] [] h7 := by
            refine e0.trans ?_
            rw [mo_i15 O, x2, n1, e1, Option.bind_some, mo_i4 O1, p1', mo_r0 O1, mo_i2 O1, l1', mo_C O1, e2]
            simp only [bn_gd, bn_cI, if_true]
            rw [ej, e3, Option.bind_some, mo_r0 O3, n1, e4, Option.bind_some, mo_r0 O4, n2, e5, Option.bind_some, mo_r0 O5, n3, e6, Option.bind_some, mo_i4 O6, p2', n1, e7, Option.bind_some]
          cases hf : sr_fig T (pos + 1) 0 (sp_lives S) with
          | none =>
            rw [hf] at hm
            simp only [Prod.mk.injEq] at hm
            obtain ⟨rfl, rfl, rfl⟩ := hm
            exact ⟨h7, ev.trans (mq_rend Z7 _), FF, _, _, O7, fun j a b c => kk j (by omega) b c, A7, fun z => absurd z (by simp)⟩
          | some d' =>
            have hd := sr_fig_le hf
            rw [hf] at hm
            simp only [Prod.mk.injEq] at hm
            obtain ⟨rfl, rfl, rfl⟩ := hm
            have R7 : mz_R h7 (va_up f2 4 (nI (sp_people S + 1))) (sp_addP S d) _ := ⟨⟨by rw [kk _ (by omega) (by omega) (by omega)]; exact r1, by rw [kk _ (by omega) (by omega) (by omega)]; exact r2, by rw [kk _ (by omega) (by omega) (by omega)]; exact r3, by rw [up_e]; rfl, by rw [kk _ (by omega) (by omega) (by omega)]; exact r5⟩, A7, mt_addP M c5 hd.2.1⟩
            obtain ⟨h8, e8, F8, fi8, N8, O8, k8, A8, M8⟩ := ih (pos + 1 + 1) (sp_addP S d) h7 _ _ (some (.int (nI (4 * sp_people S)))) (by show sp_people S + 1 + sp_loaves S + r = 15; omega) Z7 R7 (sp_addP_B B (by omega) c5)
            exact ⟨h8, ev.trans e8, FF.tr F8, fi8, N8, O8, fun j a b c => (k8 j a b c).trans (kk j (by omega) b c), A8, M8⟩
        · rw [if_pos (by omega)] at e0
          rw [if_neg c5]
          obtain ⟨h1, f1, e1, F1, Z1, k1⟩ := mq_rbad H R B q (Or.inl (by omega)) o
          exact ⟨h1, e0.trans e1, F1.mono mv_2, f1, N, Z1.O, fun j a b c => k1 j c, R.2.1.fr F1 (by omega), fun z => absurd z (by simp)⟩
      · rw [if_neg c] at e0
        rw [if_neg (show ¬ sr_sign T pos 80 = true from fun z => c (of_decide_eq_true z).2)]
        by_cases g : ¬ T.2 pos = 76 ∨ 10 ≤ sp_loaves S ∨ sp_people S = 0
        · obtain ⟨h1, f1, e1, F1, Z1, k1⟩ := mq_rbad H R B q g o
          have hs : sr_loaf T S pos = .inl pos := by
            unfold sr_loaf
            refine if_pos ?_
            rcases g with g | g | g
            · exact Or.inr (Or.inr (decide_eq_false (fun z => g z.2)))
            · exact Or.inr (Or.inl g)
            · exact Or.inl g
          rw [hs]
          exact ⟨h1, e0.trans e1, F1.mono mv_2, f1, N, Z1.O, fun j a b c => k1 j c, R.2.1.fr F1 (by omega), fun z => absurd z (by simp)⟩
        · have g1 : T.2 pos = 76 := by omega
          have g2 : sp_loaves S < 10 := by omega
          have g3 : 0 < sp_people S := by omega
          obtain ⟨h1, f1, N1, e1, F1, A1, k1, L⟩ := mq_readLoaf H R B (show sr_sign T pos 76 = true from decide_eq_true ⟨q, g1⟩) g2 g3
          have ev : bn_ev 82 78 [some (.ref 222), o] [] h = bn_ev 82 78 [some (.ref 222), o] [] h1 := by
            refine e0.trans ?_
            rw [bs_X3_readText_195, mo_r13 O, mo_i15 O, x2, TA.ld (j := pos) (by omega) (by decide), Option.bind_some, show (76 : Int32) = nI 76 from rfl, sp_ifeq (by omega) (by omega), if_pos g1, mo_i5 O, R.1.2.2.2.2, show (10 : Int32) = nI 10 from rfl, sp_ifle (by omega) (by omega), if_neg (by omega), mo_i4 O, R.1.2.2.2.1, if_neg (nI_nle g3 (by omega)), mo_C O, e1]
            rfl
          cases hx : sr_loaf T S pos with
          | inl z =>
            rw [hx] at L
            obtain ⟨ps, L⟩ := L
            exact ⟨h1, ev.trans (mq_rend L _), F1, f1, N1, L.O, fun j a b c => k1 j (by omega) b c, A1, fun z => absurd z (by simp)⟩
          | inr z =>
            rw [hx] at L
            obtain ⟨L1, L2, L3, L4⟩ := L
            obtain ⟨h8, e8, F8, fi8, N8, O8, k8, A8, M8⟩ := ih z.1 z.2 h1 f1 N1 o (by omega) L1 L2 L3
            exact ⟨h8, ev.trans e8, F1.tr F8, fi8, N8, O8, fun j a b c => (k8 j a b c).trans (k1 j (by omega) b c), A8, M8⟩
    · rw [if_pos (by omega), mo_i16 O, x3] at e0
      rw [if_neg q]
      exact ⟨h, e0, sg_F.rf, fi, N, O, fun j _ _ _ => rfl, R.2.1, fun _ => R⟩
