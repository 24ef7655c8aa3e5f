/-! AT BEST: the model's search, all of it -/
/-- a row is filled -/
theorem fl_loop {E : Nat → bn_H → bn_R} {q t n : Nat} {x W : Nat → Int32} (I : bn_H → Prop) (hI : ∀ h h', I h → sg_F (fun k => k = q) h h' → I h') (step : ∀ j h, j < n → I h → E j h = (bn_sd h q t (nI j) (x j)).bind fun h' => E (j + 1) h') (hn : n < 2 ^ 31) {h : bn_H} (i0 : I h) (A : sg_A h q t n W) : ∃ h', E 0 h = E n h' ∧ sg_F (fun k => k = q) h h' ∧ sg_A h' q t n x := by
  have key : ∀ r j h, j + r = n → I h → sg_A h q t n (fun k => if k < j then x k else W k) → ∃ h', E j h = E n h' ∧ sg_F (fun k => k = q) h h' ∧ sg_A h' q t n x := by
    intro r
    induction r with
    | zero =>
      intro j h hj _ A
      have hj : j = n := hj
      subst hj
      exact ⟨h, rfl, sg_F.rf, A.cg (fun k hk => if_pos hk)⟩
    | succ r ih =>
      intro j h hj ij A
      obtain ⟨h1, e1, F1, A1⟩ := A.sd (j := j) (by omega) hn (x j)
      obtain ⟨h2, e2, F2, A2⟩ := ih (j + 1) h1 (by omega) (hI _ _ ij F1) (A1.cg (fun k hk => by
        unfold va_up
        by_cases z : k = j
        · subst z; rw [if_pos rfl, if_pos (by omega)]
        · rw [if_neg z]
          by_cases y : k < j
          · exact (if_pos y).trans (if_pos (by omega)).symm
          · exact (if_neg y).trans (if_neg (by omega)).symm))
      refine ⟨h2, ?_, F1.tr F2, A2⟩
      rw [step j h (by omega) ij, e1, Option.bind_some, e2]
  exact key n 0 h (by omega) i0 (A.cg (fun k hk => (if_neg (by omega)).symm))
def bt_P : Nat → Prop := fun q => q = 229 ∨ q = 230
theorem bt_P9 : ∀ q, q = 229 → bt_P q := fun q h => Or.inl h
theorem bt_P0 : ∀ q, q = 230 → bt_P q := fun q h => Or.inr h
theorem m11 {j : Nat} (h : j < 11000) : ¬ (11000 : Int32) ≤ nI j := nI_ge (b := 11000) h (by omega)
theorem m11e : (11000 : Int32) ≤ nI 11000 := by decide
theorem nar_b (b : Bool) : vp_nar .boolean (sp_b b) = sp_b b := by cases b <;> decide +kernel
section BB
variable {S : sp_S}
theorem mq_goOn {h : bn_H} {n d v m : Nat} {gd ix : Nat → Nat} {G T0 : Nat → Int32} {C : Nat → Bool} (H : mg h S) (B : sp_B S) (hm : m ≤ 3) (hn : n ≤ 10) (hv : v < 2 ^ 31) (hd : d < 300) (AC : sg_A h 229 1 11000 (fun j => sp_b (C j))) (AT : sg_A h 230 1 11000 T0) (AG : sg_A h 231 0 10 G) (hG : ∀ i, i < n → G i = nI (gd i)) (hgd : ∀ i, i < n → gd i ≤ 9) (hix : ∀ i, i < n → (gd i ≤ d ↔ i < ix d)) (hxn : ix d ≤ n) (hC : ∀ j, C j = true → j < 11000 ∧ bt_g j ≤ n) : ∃ (h' : bn_H) (C' : Nat → Bool) (b : Bool), bn_ev 118 0 [some (.ref 222), some (.int (nI n)), some (.int (nI d)), some (.int (nI v)), some (.int (nI m)), none, none, none, none, none] [] h = some (some (.int (sp_b b)), h') ∧ sg_F bt_P h h' ∧ sg_A h' 229 1 11000 (fun j => sp_b (C' j)) ∧ (∃ T, sg_A h' 230 1 11000 T) ∧ (∀ j', C' j' = true ↔ ∃ j e, C j = true ∧ bt_st n (sp_lives S) m ix d v.testBit j e j') ∧ (b = true ↔ ∃ j', C' j' = true) := by
  obtain ⟨b_law, ⟨b_l1, b_lv⟩, ⟨b_b1, b_bd⟩, b_pp, b_lo, b_fa, b_at, b_nu, b_ho, b_ag⟩ := id B
  -- then[] is emptied
  obtain ⟨h1, e1, F1, A1⟩ := fl_loop (E := fun j h => bn_ev 118 6 [some (.ref 222), some (.int (nI n)), some (.int (nI d)), some (.int (nI v)), some (.int (nI m)), some (.int 0), some (.int (nI j)), none, none, none] [] h) (q := 230) (t := 1) (n := 11000) (x := fun _ => nI 0) (fun h => mg h S) (fun h h' i F => i.fr F (by omega) (by omega)) (fun j h hj i => by
    show bn_ev 118 6 _ _ _ = _
    rw [bs_X3_goOn_6, if_neg (m11 hj), i.r24, nar_0, n1]) (by omega) H AT
  have H1 := H.fr F1 (by omega) (by omega)
  have AC1 := AC.fr F1 (by omega)
  have AG1 := AG.fr F1 (by omega)
  -- state by state
  have key : ∀ r j (h : bn_H) (T : Nat → Bool) (b : Bool) (o7 o8 o9 : Option Value), j + r = 11000 → mg h S → sg_A h 229 1 11000 (fun j => sp_b (C j)) → sg_A h 231 0 10 G → sg_A h 230 1 11000 (fun j => sp_b (T j)) → (b = true ↔ ∃ j', T j' = true) → ∃ (h' : bn_H) (T' : Nat → Bool) (b' : Bool) (p7 p8 p9 : Option Value), bn_ev 118 31 [some (.ref 222), some (.int (nI n)), some (.int (nI d)), some (.int (nI v)), some (.int (nI m)), some (.int (sp_b b)), some (.int (nI j)), o7, o8, o9] [] h = bn_ev 118 179 [some (.ref 222), some (.int (nI n)), some (.int (nI d)), some (.int (nI v)), some (.int (nI m)), some (.int (sp_b b')), some (.int 0), p7, p8, p9] [] h' ∧ sg_F (fun q => q = 230) h h' ∧ sg_A h' 230 1 11000 (fun j => sp_b (T' j)) ∧ (∀ j', T' j' = true ↔ T j' = true ∨ ∃ i eat, j ≤ i ∧ i < 11000 ∧ C i = true ∧ eat < 2 ^ m ∧ bt_st n (sp_lives S) m ix d v.testBit i eat.testBit j') ∧ (b' = true ↔ ∃ j', T' j' = true) := by
    intro r
    induction r with
    | zero =>
      intro j h T b o7 o8 o9 hj H AC AG AT hb
      have hj : j = 11000 := hj
      subst hj
      refine ⟨h, T, b, o7, o8, o9, ?_, sg_F.rf, AT, fun j' => ⟨Or.inl, fun z => z.elim id (fun ⟨i, e, x, y, _⟩ => by omega)⟩, hb⟩
      rw [bs_X3_goOn_31, if_pos m11e]
    | succ r ih =>
      intro j h T b o7 o8 o9 hj H AC AG AT hb
      have hjl : j < 11000 := by omega
      have e0 := bs_X3_goOn_31 222 (nI n) (nI d) (nI v) (nI m) (sp_b b) (nI j) o7 o8 o9 h
      rw [if_neg (m11 hjl), H.r23, AC.ld hjl (by decide), Option.bind_some, n1] at e0
      simp only [sp_b_eq0] at e0
      cases hc : C j with
      | false =>
        rw [hc, if_pos rfl] at e0
        obtain ⟨h', T', b', p7, p8, p9, x1, x2, x3, x4, x5⟩ := ih (j + 1) h T b o7 o8 o9 (by omega) H AC AG AT hb
        refine ⟨h', T', b', p7, p8, p9, e0.trans x1, x2, x3, fun j' => (x4 j').trans (or_congr Iff.rfl ⟨fun ⟨i, e, y1, y2⟩ => ⟨i, e, by omega, y2⟩, fun ⟨i, e, y1, y2, y3, y4⟩ => ⟨i, e, ?_, y2, y3, y4⟩⟩), x5⟩
        by_cases q : i = j
        · subst q; rw [hc] at y3; cases y3
        · omega
      | true =>
        have hCj := hC j hc
        have ej : nI j / 1000 = nI (bt_g j) := pk_div (d := 1000) (by omega) (by omega) (by omega)
        rw [hc, if_neg (by decide), ej] at e0
        have e57 := mq_go57 n d j (ix d) H AG hG hgd hix hn hxn hd (nI v) (nI m) (sp_b b) o8 o9 (n - bt_g j) (bt_g j) hCj.2 (by omega)
        obtain ⟨h1, T1, b1, o1, y1, y2, y3, y4, y5⟩ := mq_go83 (ix := ix) (d := d) (g1 := max (bt_g j) (ix d)) B hm hn hv hjl rfl (by omega) (2 ^ m) 0 h T b o9 (by omega) H AT hb
        obtain ⟨h', T', b', p7, p8, p9, x1, x2, x3, x4, x5⟩ := ih (j + 1) h1 T1 b1 (some (.int (nI (max (bt_g j) (ix d))))) (some (.int (nI (2 ^ m)))) o1 (by omega) (H.fr y2 (by omega) (by omega)) (AC.fr y2 (by omega)) (AG.fr y2 (by omega)) y3 y5
        refine ⟨h', T', b', p7, p8, p9, e0.trans (e57.trans (y1.trans x1)), y2.tr x2, x3, fun j' => (x4 j').trans ?_, x5⟩
        rw [y4 j']
        constructor
        · rintro ((z | ⟨e, z1, z2, z3⟩) | ⟨i, e, z1, z2⟩)
          · exact Or.inl z
          · exact Or.inr ⟨j, e, Nat.le_refl _, hjl, hc, z2, z3⟩
          · exact Or.inr ⟨i, e, by omega, z2⟩
        · rintro (z | ⟨i, e, z1, z2, z3, z4, z5⟩)
          · exact Or.inl (Or.inl z)
          · by_cases q : i = j
            · subst q; exact Or.inl (Or.inr ⟨e, Nat.zero_le _, z4, z5⟩)
            · exact Or.inr ⟨i, e, by omega, z2, z3, z4, z5⟩
  obtain ⟨h2, T, b, p7, p8, p9, e2, F2, A2, hT, hb⟩ := key 11000 0 h1 (fun _ => false) false none none none (by omega) H1 AC1 AG1 A1 ⟨fun z => (by cases z), fun ⟨_, z⟩ => (by cases z)⟩
  have H2 := H1.fr F2 (by omega) (by omega)
  -- then[] becomes can[]
  obtain ⟨h3, e3, F3, A3⟩ := fl_loop (E := fun j h => bn_ev 118 179 [some (.ref 222), some (.int (nI n)), some (.int (nI d)), some (.int (nI v)), some (.int (nI m)), some (.int (sp_b b)), some (.int (nI j)), p7, p8, p9] [] h) (q := 229) (t := 1) (n := 11000) (x := fun j => sp_b (T j)) (fun h => mg h S ∧ sg_A h 230 1 11000 (fun j => sp_b (T j))) (fun h h' i F => ⟨i.1.fr F (by omega) (by omega), i.2.fr F (by omega)⟩) (fun j h hj i => by
    show bn_ev 118 179 _ _ _ = _
    rw [bs_X3_goOn_179, if_neg (m11 hj), i.1.r23, i.1.r24, i.2.ld hj (by decide), Option.bind_some, nar_b, n1]) (by omega) ⟨H2, A2⟩ (AC1.fr F2 (by omega))
  refine ⟨h3, T, b, ?_, ((F1.mono bt_P0).tr (F2.mono bt_P0)).tr (F3.mono bt_P9), A3, ⟨_, A2.fr F3 (by omega)⟩, fun j' => ?_, hb⟩
  · rw [bs_X3_goOn_0]
    refine (show _ = bn_ev 118 31 [some (.ref 222), some (.int (nI n)), some (.int (nI d)), some (.int (nI v)), some (.int (nI m)), some (.int (sp_b false)), some (.int (nI 0)), none, none, none] [] h1 from ?_).trans (e2.trans (Eq.trans e3 ?_))
    · refine Eq.trans e1 ?_
      show bn_ev 118 6 _ _ _ = _
      rw [bs_X3_goOn_6, if_pos m11e]
      rfl
    · show bn_ev 118 179 _ _ _ = _
      rw [bs_X3_goOn_179, if_pos m11e]
      exact sp_bz b
  · rw [hT j']
    constructor
    · rintro (z | ⟨i, e, -, -, z3, z4, z5⟩)
      · cases z
      · exact ⟨i, e.testBit, z3, z5⟩
    · rintro ⟨i, e, z1, z2⟩
      obtain ⟨-, -, q3⟩ := sp_bits_v e (n := m) (by omega)
      refine Or.inr ⟨i, sp_v e m, Nat.zero_le _, (hC i z1).1, z1, ?_, bt_st_cg (fun _ _ => rfl) (fun k hk => ?_) z2⟩
      · have := (sp_v_key e m 0 0 (by omega) (by omega)).2.1
        rw [Nat.zero_add] at this
        exact this
      · rw [q3 k, decide_eq_true hk, Bool.true_and]
theorem mw.search {h h' : bn_H} {X : ct_X} (H : mw h X) (F : sg_F (fun q => 229 ≤ q ∧ q ≤ 231) h h') (a : ∃ f, sg_A h' 229 1 11000 f) (b : ∃ f, sg_A h' 230 1 11000 f) (c : ∃ f, sg_A h' 231 0 10 f) : mw h' X := by
  obtain ⟨fi, N, O, A, R, M, ⟨t1, t2⟩, k1, k, ⟨⟨x1, r1⟩, ⟨x2, r2⟩, r3⟩⟩ := H
  exact ⟨fi, N, O.fr F (by omega), A.fr F (by omega), R, M, ⟨t1, t2.fr F (by omega)⟩, k1.fr F (by omega) (by omega), k.fr F (fun q x y => by omega), ⟨⟨x1, r1.fr F (by omega)⟩, ⟨x2, r2.fr F (by omega)⟩, a, b, c⟩⟩
/-- the walk of days -/
theorem mq_best134 {gd : Nat → Nat} {G : Nat → Int32} (B : sp_B S) (Cc : sp_C S) (h0 : 0 < sn_a S) (hm : sn_a S ≤ 3) (hG : ∀ i, i < sb_good S 0 → G i = nI (gd i)) (hs : bt_so S (sp_loaves S) gd) (a1 : Int32) (o7 : Option Value) : ∀ r d (h : bn_H) (C : Nat → Bool) (T0 : Nat → Int32), d + r = 200 → mg h S → sg_A h 229 1 11000 (fun j => sp_b (C j)) → sg_A h 230 1 11000 T0 → sg_A h 231 0 10 G → (∀ j, C j = true → j < 11000 ∧ bt_g j ≤ sb_good S 0) → (∀ q, (∃ j, C j = true ∧ bt_F (sb_good S 0) (sp_lives S) (sn_a S) (bt_x S) (bt_i0 S) q d j) ↔ bt_F (sb_good S 0) (sp_lives S) (sn_a S) (bt_x S) (bt_i0 S) (d + q) 0 (bt_j S)) → ∃ h', bn_ev 117 134 [some (.ref 222), some (.int a1), some (.int (nI (sn_a S))), some (.int (nI (sb_good S 0))), some (.int (nI (bt_j S))), some (.int (sp_bits (bt_i0 S) (sn_a S))), some (.int (nI d)), o7] [] h = some (some (.int (nI (sb_best S r d))), h') ∧ sg_F bt_P h h' ∧ (∃ f, sg_A h' 229 1 11000 f) ∧ (∃ f, sg_A h' 230 1 11000 f) := by
  obtain ⟨b_law, ⟨b_l1, b_lv⟩, ⟨b_b1, b_bd⟩, b_pp, b_lo, b_fa, b_at, b_nu, b_ho, b_ag⟩ := id B
  have gle := bt_gl_le S (sp_loaves S) 0
  have eg : bt_gl S (sp_loaves S) 0 = sb_good S 0 := rfl
  have hstep : ∀ d (h : bn_H) (C : Nat → Bool) (T0 : Nat → Int32), d ≤ 200 → mg h S → sg_A h 229 1 11000 (fun j => sp_b (C j)) → sg_A h 230 1 11000 T0 → sg_A h 231 0 10 G → (∀ j, C j = true → j < 11000 ∧ bt_g j ≤ sb_good S 0) → (∀ q, (∃ j, C j = true ∧ bt_F (sb_good S 0) (sp_lives S) (sn_a S) (bt_x S) (bt_i0 S) q d j) ↔ bt_F (sb_good S 0) (sp_lives S) (sn_a S) (bt_x S) (bt_i0 S) (d + q) 0 (bt_j S)) → ∃ (h' : bn_H) (C' : Nat → Bool) (T : Nat → Int32), bn_ev 118 0 [some (.ref 222), some (.int (nI (sb_good S 0))), some (.int (nI d)), some (.int (if nI d = 0 then sp_bits (bt_i0 S) (sn_a S) else 0)), some (.int (nI (sn_a S))), none, none, none, none, none] [] h = some (some (.int (sp_b (sb_ok S (d + 1)))), h') ∧ sg_F bt_P h h' ∧ sg_A h' 229 1 11000 (fun j => sp_b (C' j)) ∧ sg_A h' 230 1 11000 T ∧ (∀ j, C' j = true → j < 11000 ∧ bt_g j ≤ sb_good S 0) ∧ (∀ q, (∃ j, C' j = true ∧ bt_F (sb_good S 0) (sp_lives S) (sn_a S) (bt_x S) (bt_i0 S) q (d + 1) j) ↔ bt_F (sb_good S 0) (sp_lives S) (sn_a S) (bt_x S) (bt_i0 S) (d + 1 + q) 0 (bt_j S)) := by
    intro d h C T0 hd H AC AT AG hC hF
    obtain ⟨v1, v2, v3⟩ := sp_bits_v (bt_i0 S) (n := sn_a S) (by omega)
    have hv : ∃ v, v < 2 ^ 31 ∧ (if nI d = 0 then sp_bits (bt_i0 S) (sn_a S) else 0) = nI v ∧ ∀ k, k < sn_a S → v.testBit k = bt_i (bt_i0 S) d k := by
      rw [sp_if0 (by omega)]
      unfold bt_i
      by_cases q : d = 0
      · refine ⟨_, v2, by rw [if_pos q, v1], fun k hk => ?_⟩
        rw [v3 k, decide_eq_true hk, decide_eq_true q]
      · refine ⟨0, by omega, by rw [if_neg q]; rfl, fun k hk => ?_⟩
        rw [decide_eq_false q, Nat.zero_testBit]
        rfl
    obtain ⟨v, hv1, hv2, hv3⟩ := hv
    obtain ⟨h', C', b, e, F, AC', ⟨T, AT'⟩, hC', hb⟩ := mq_goOn (gd := gd) (ix := bt_x S) (d := d) (v := v) (m := sn_a S) (n := sb_good S 0) H B hm (by omega) hv1 (by omega) AC AT AG hG (fun i hi => (hs i hi).1.2) (fun i hi => (hs i hi).2 d) (Nat.sub_le _ _) hC
    have hst : ∀ j e j', bt_st (sb_good S 0) (sp_lives S) (sn_a S) (bt_x S) d v.testBit j e j' ↔ bt_st (sb_good S 0) (sp_lives S) (sn_a S) (bt_x S) d (bt_i (bt_i0 S) d) j e j' := fun j e j' => ⟨bt_st_cg hv3 (fun _ _ => rfl), bt_st_cg (fun k hk => (hv3 k hk).symm) (fun _ _ => rfl)⟩
    have hq : ∀ q, (∃ j, C' j = true ∧ bt_F (sb_good S 0) (sp_lives S) (sn_a S) (bt_x S) (bt_i0 S) q (d + 1) j) ↔ bt_F (sb_good S 0) (sp_lives S) (sn_a S) (bt_x S) (bt_i0 S) (d + 1 + q) 0 (bt_j S) := fun q => by
      rw [show d + 1 + q = d + (q + 1) by omega, ← hF (q + 1)]
      constructor
      · rintro ⟨j', z1, z2⟩
        obtain ⟨j, e, y1, y2⟩ := (hC' j').mp z1
        exact ⟨j, y1, e, j', (hst j e j').mp y2, z2⟩
      · rintro ⟨j, z1, e, j', z2, z3⟩
        exact ⟨j', (hC' j').mpr ⟨j, e, z1, (hst j e j').mpr z2⟩, z3⟩
    have hbb : b = sb_ok S (d + 1) := by
      apply Bool.eq_iff_iff.mpr
      rw [hb, ← bt_S B Cc hm (show d + 1 ≤ 201 by omega)]
      have := hq 0
      rw [show d + 1 + 0 = d + 1 from rfl] at this
      rw [← this]
      exact ⟨fun ⟨j, z⟩ => ⟨j, z, trivial⟩, fun ⟨j, z, _⟩ => ⟨j, z⟩⟩
    refine ⟨h', C', T, ?_, F, AC', AT', fun j' z => ?_, hq⟩
    · rw [hv2, e, hbb]
    · obtain ⟨j, e, y1, y2⟩ := (hC' j').mp z
      exact bt_st_lt hm b_lv (by omega) y2
  intro r
  induction r with
  | zero =>
    intro d h C T0 hd H AC AT AG hC hF
    have hd : d = 200 := hd
    subst hd
    obtain ⟨h', C', T, e, F, AC', AT', -, -⟩ := hstep 200 h C T0 (by omega) H AC AT AG hC hF
    rw [sb_no B h0] at e
    refine ⟨h', ?_, F, ⟨_, AC'⟩, ⟨_, AT'⟩⟩
    rw [bs_X3_best_134, mg_C H, e]
    rfl
  | succ r ih =>
    intro d h C T0 hd H AC AT AG hC hF
    obtain ⟨h', C', T, e, F, AC', AT', hC', hF'⟩ := hstep d h C T0 (by omega) H AC AT AG hC hF
    have e0 := bs_X3_best_134 222 a1 (nI (sn_a S)) (nI (sb_good S 0)) (nI (bt_j S)) (sp_bits (bt_i0 S) (sn_a S)) (nI d) o7 h
    rw [mg_C H, e] at e0
    simp only [bn_gd, bn_cI, if_true, sp_b_eq0, n1] at e0
    simp only [sb_best]
    cases hk : sb_ok S (d + 1) with
    | false =>
      rw [hk, if_pos rfl] at e0
      rw [if_neg (by decide)]
      exact ⟨h', e0, F, ⟨_, AC'⟩, ⟨_, AT'⟩⟩
    | true =>
      rw [hk, if_neg (by decide)] at e0
      rw [if_pos rfl]
      have hn : ∀ q, (q = 222 ∨ q = 224 ∨ q = 231) → ¬ bt_P q := fun q hq z => by unfold bt_P at z; omega
      obtain ⟨h2, e2, F2, x1, x2⟩ := ih (d + 1) h' C' T (by omega) (H.fr F (hn _ (by omega)) (hn _ (by omega))) AC' AT' (AG.fr F (hn _ (by omega))) hC' hF'
      exact ⟨h2, e0.trans e2, F.tr F2, x1, x2⟩
theorem mq_best {h : bn_H} {X : ct_X} (H : mw h X) (hB : ct_B X) (Cc : sp_C X.2.1) : mq_ok 117 [some (.ref 222), none, none, none, none, none, none, none] h (ca_best X.2.1) X := by
  have H0 := H
  have G := H.G
  have B := hB.2.2.1
  obtain ⟨-, ⟨-, b_lv⟩, -, b_pp, b_lo, b_fa, b_at, -⟩ := id B
  have e0 := bs_X3_best_0 222 h
  have al5 : sn_a X.2.1 ≤ 5 := by
    have : ∀ (f : Nat → Bool) l, sp_ct f l ≤ l := fun f l => by
      induction l with
      | zero => exact Nat.le_refl _
      | succ l ih =>
        unfold sp_ct at ih ⊢
        rw [sp_fold_snoc]
        have hx : ∀ a, sp_gc f (0 + l) a ≤ a + 1 := fun a => by unfold sp_gc; split <;> omega
        have := hx (sp_fold (sp_gc f) l 0 0)
        omega
    have := this (sp_al X.2.1) (sp_people X.2.1)
    unfold sn_a
    omega
  have hon : bn_ev 105 0 [some (.int (sp_bits (sp_al X.2.1) (sp_people X.2.1))), none, none] [] h = some (some (.int (nI (sn_a X.2.1))), h) := mq_ones h _ (by omega)
  rw [mg_C G, mq_alive G B] at e0
  simp only [bn_gd, bn_cI, if_true, hon] at e0
  rw [sp_if0 (by omega), show (3 : Int32) = nI 3 from rfl, sp_ifle (by omega) (by omega), mg_C G] at e0
  simp only [if_true] at e0
  unfold ca_best
  by_cases c0 : sn_a X.2.1 = 0
  · rw [if_pos c0] at e0
    rw [if_pos (Or.inl c0)]
    exact mq_ok.same H0 e0
  · rw [if_neg c0] at e0
    by_cases c3 : sn_a X.2.1 ≤ 3
    · rw [if_pos c3] at e0
      rw [if_neg (by omega)]
      obtain ⟨⟨x1, r1⟩, ⟨x2, r2⟩, ⟨x3, r3⟩, ⟨x4, r4⟩, ⟨x5, r5⟩⟩ : mw_r h := H.choose_spec.choose_spec.2.2.2.2.2.2.2
      obtain ⟨h1, gd, Gg, e1, F1, A1, hG, hs⟩ := mq_layGood G B r5
      have G1 := G.fr F1 (by omega) (by omega)
      rw [e1] at e0
      simp only [] at e0
      have sh0 : ∀ k, k < 31 → bn_shl 0 (nI k) = 0 := by decide +kernel
      have k36 : ∀ r k (o : Option Value), k + r = sn_a X.2.1 → ∃ o' : Option Value, bn_ev 117 36 [some (.ref 222), some (.int (sp_bits (sp_al X.2.1) (sp_people X.2.1))), some (.int (nI (sn_a X.2.1))), some (.int (nI (sb_good X.2.1 0))), some (.int (nI (bt_sm k (fun k => sp_fasted X.2.1 (bt_p X.2.1 k) * bt_t k)))), some (.int (sp_fold (sp_g1 (bt_i0 X.2.1)) k 0 0)), some (.int (nI k)), o] [] h1 = bn_ev 117 98 [some (.ref 222), some (.int (sp_bits (sp_al X.2.1) (sp_people X.2.1))), some (.int (nI (sn_a X.2.1))), some (.int (nI (sb_good X.2.1 0))), some (.int (nI (bt_j X.2.1))), some (.int (sp_bits (bt_i0 X.2.1) (sn_a X.2.1))), some (.int 0), o'] [] h1 := by
        intro r
        induction r with
        | zero =>
          intro k o hk
          have hk : k = sn_a X.2.1 := hk
          rw [hk]
          refine ⟨o, ?_⟩
          rw [bs_X3_best_36, if_pos (nI_le (Nat.le_refl _) (by omega))]
          rfl
        | succ r ih =>
          intro k o hk
          have hkm : k < sn_a X.2.1 := by omega
          obtain ⟨q1, q2, q3⟩ := bt_pal hkm
          obtain ⟨o', e'⟩ := ih (k + 1) (some (.int (nI (bt_p X.2.1 k)))) (by omega)
          refine ⟨o', Eq.trans ?_ e'⟩
          have ld0 : bn_ld h1 224 0 (4 * nI (bt_p X.2.1 k)) = some (nI (sp_fasted X.2.1 (bt_p X.2.1 k))) := by
            obtain ⟨fi, N, O, A, R, M⟩ := G1
            rw [j4, A.ld (by omega) (by omega), (M.1 _ q2).1]
          have hate := b_at (bt_p X.2.1 k)
          rw [bs_X3_best_36, if_neg (nI_ge hkm (by omega)), mq_nth h1 _ (by omega) q1 (by omega)]
          simp only [bn_cI]
          rw [mg_now G1, ld0, Option.bind_some, bs_X3_tenTo_0]
          simp only []
          rw [bt_ten (by omega), mg_now G1, mg_ate G1 B q2, Option.bind_some, pk_mul, nI_add, n1, sp_fold_snoc, Nat.zero_add]
          have eo : sp_fold (sp_g1 (bt_i0 X.2.1)) k 0 0 ||| bn_shl (nI (sp_ate X.2.1 (bt_p X.2.1 k))) (nI k) = sp_g1 (bt_i0 X.2.1) k (sp_fold (sp_g1 (bt_i0 X.2.1)) k 0 0) := by
            unfold sp_g1 bt_i0
            by_cases z : sp_ate X.2.1 (bt_p X.2.1 k) = 0
            · rw [if_neg (by rw [decide_eq_true z]; decide), z, show nI 0 = 0 from rfl, sh0 k (by omega)]
              simp
            · have z1 : sp_ate X.2.1 (bt_p X.2.1 k) = 1 := by omega
              rw [if_pos (by rw [decide_eq_false z]; rfl), z1]
              rfl
          rw [eo]
          rfl
      obtain ⟨o', e36⟩ := k36 (sn_a X.2.1) 0 none (by omega)
      obtain ⟨h2, e2, F2, A2⟩ := fl_loop (E := fun j h => bn_ev 117 98 [some (.ref 222), some (.int (sp_bits (sp_al X.2.1) (sp_people X.2.1))), some (.int (nI (sn_a X.2.1))), some (.int (nI (sb_good X.2.1 0))), some (.int (nI (bt_j X.2.1))), some (.int (sp_bits (bt_i0 X.2.1) (sn_a X.2.1))), some (.int (nI j)), o'] [] h) (q := 229) (t := 1) (n := 11000) (x := fun j => sp_b (decide (j = bt_j X.2.1))) (fun h => mg h X.2.1) (fun h h' i F => i.fr F (by omega) (by omega)) (fun j h hj i => by
        show bn_ev 117 98 _ _ _ = _
        have jl := (bt_jd c3 b_lv).1
        have eb : (if j = bt_j X.2.1 then (1 : Int32) else 0) = sp_b (decide (j = bt_j X.2.1)) := by
          by_cases z : j = bt_j X.2.1
          · rw [if_pos z, decide_eq_true z]; rfl
          · rw [if_neg z, decide_eq_false z]; rfl
        rw [bs_X3_best_98, if_neg (m11 hj), i.r23, sp_ifeq (by omega) (by omega), eb, nar_b, n1]) (by omega) G1 (r3.fr F1 (by omega))
      have G2 := G1.fr F2 (by omega) (by omega)
      obtain ⟨j1, j2, -⟩ := bt_jd c3 b_lv
      obtain ⟨h3, e3, F3, y1, y2⟩ := mq_best134 B Cc (by omega) c3 hG hs (sp_bits (sp_al X.2.1) (sp_people X.2.1)) o' 200 0 h2 (fun j => decide (j = bt_j X.2.1)) x4 (by omega) G2 A2 ((r4.fr F1 (by omega)).fr F2 (by omega)) (A1.fr F2 (by omega)) (fun j z => by
        have := of_decide_eq_true z
        rw [this]
        omega) (fun q => by
        rw [Nat.zero_add]
        exact ⟨fun ⟨j, z1, z2⟩ => by rw [of_decide_eq_true z1] at z2; exact z2, fun z => ⟨_, decide_eq_true rfl, z⟩⟩)
      have FF : sg_F (fun q => 229 ≤ q ∧ q ≤ 231) h h3 := ((F1.mono (fun q z => by omega)).tr (F2.mono (fun q z => by omega))).tr (F3.mono (fun q z => by unfold bt_P at z; omega))
      refine ⟨h3, e0.trans (e36.trans (Eq.trans e2 (Eq.trans ?_ e3))), H0.search FF y1 y2 ⟨_, (A1.fr F2 (by omega)).fr F3 (fun z => by unfold bt_P at z; omega)⟩, FF.mono (fun q z => by unfold mw_P; omega)⟩
      show bn_ev 117 98 _ _ _ = _
      rw [bs_X3_best_98, if_pos m11e]
      rfl
    · rw [if_neg c3] at e0
      rw [if_pos (Or.inr (by omega))]
      exact mq_ok.same H0 e0
end BB
