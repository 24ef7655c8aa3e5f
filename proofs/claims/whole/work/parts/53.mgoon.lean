/-! AT BEST, the model's search: one day more -/
theorem sp_b_eq1 (b : Bool) : (sp_b b = 1) = (b = true) := by cases b <;> simp [sp_b]
theorem bt_ten {k : Nat} (hk : k < 3) : (if nI k = 0 then (1 : Int32) else if nI k = 1 then 10 else 100) = nI (bt_t k) := by
  have : k = 0 ∨ k = 1 ∨ k = 2 := by omega
  rcases this with rfl | rfl | rfl <;> decide +kernel
theorem bt_t_pos {k : Nat} : 1 ≤ bt_t k ∧ bt_t k ≤ 100 := by
  unfold bt_t
  split
  · omega
  · split <;> omega
theorem bt_eb {e m : Nat} (hm : m ≤ 3) (he : e < 2 ^ m) : nI e = sp_bits e.testBit m := by
  obtain ⟨e1, -, e3⟩ := sp_bits_v e.testBit (n := m) (by omega)
  rw [e1]
  congr 1
  apply Nat.eq_of_testBit_eq
  intro k
  rw [e3 k]
  by_cases q : k < m
  · rw [decide_eq_true q, Bool.true_and]
  · rw [decide_eq_false q, Bool.false_and, Nat.testBit_lt_two_pow (Nat.lt_of_lt_of_le he (Nat.pow_le_pow_right (by omega) (by omega)))]
theorem bt_ct (f : Nat → Bool) (m : Nat) : sp_ct f m = bt_sm m (fun k => bt_1 (f k)) := by
  induction m with
  | zero => rfl
  | succ m ih =>
    unfold sp_ct at ih ⊢
    rw [sp_fold_snoc, ih]
    show sp_gc f (0 + m) _ = bt_sm m _ + bt_1 (f m)
    unfold sp_gc bt_1
    rw [Nat.zero_add]
    split <;> omega
theorem bt_and0 {e v m : Nat} (he : e < 2 ^ m) : e &&& v = 0 ↔ ∀ k, k < m → e.testBit k = true → v.testBit k = false := by
  constructor
  · intro a k _ b
    have := congrArg (fun z => z.testBit k) a
    simp only [Nat.testBit_and, Nat.zero_testBit] at this
    rw [b, Bool.true_and] at this
    exact this
  · intro a
    apply Nat.eq_of_testBit_eq
    intro k
    rw [Nat.testBit_and, Nat.zero_testBit]
    by_cases q : k < m
    · cases z : e.testBit k with
      | false => rfl
      | true => rw [a k q z]; rfl
    · rw [Nat.testBit_lt_two_pow (Nat.lt_of_lt_of_le he (Nat.pow_le_pow_right (by omega) (by omega)))]
      rfl
theorem bt_st_cg {n L m d j j' : Nat} {ix : Nat → Nat} {i i' e e' : Nat → Bool} (hi : ∀ k, k < m → i k = i' k) (he : ∀ k, k < m → e k = e' k) (H : bt_st n L m ix d i j e j') : bt_st n L m ix d i' j e' j' := by
  obtain ⟨v1, v2, v3, v4⟩ := H
  have hn : ∀ k, k < m → bt_n j e' i' k = bt_n j e i k := fun k hk => by
    unfold bt_n
    rw [hi k hk, he k hk]
  have hs : bt_sm m (fun k => bt_1 (e' k)) = bt_sm m (fun k => bt_1 (e k)) := bt_cg (fun k hk => by rw [he k hk])
  have ht : bt_sm m (fun k => bt_n j e' i' k * bt_t k) = bt_sm m (fun k => bt_n j e i k * bt_t k) := bt_cg (fun k hk => by rw [hn k hk])
  refine ⟨fun k hk z => ?_, by rw [hs]; exact v2, fun k hk => by rw [hn k hk]; exact v3 k hk, by rw [hs, ht]; exact v4⟩
  rw [← hi k hk]
  exact v1 k hk (by rw [he k hk]; exact z)
theorem bt_st_lt {n L m d j j' : Nat} {ix : Nat → Nat} {i e : Nat → Bool} (hm : m ≤ 3) (hL : L ≤ 9) (hn : n ≤ 10) (H : bt_st n L m ix d i j e j') : j' < 11000 ∧ bt_g j' ≤ n := by
  obtain ⟨v1, v2, v3, v4⟩ := H
  obtain ⟨d1, d2, d3⟩ := bt_dec (G := max (bt_g j) (ix d) + bt_sm m (fun k => bt_1 (e k))) hm hL v3
  rw [← v4] at d2
  exact ⟨by omega, by omega⟩
section GO
variable {h : bn_H} {S : sp_S}
theorem mq_fasted (H : mg h S) (B : sp_B S) {j e v m : Nat} (hm : m ≤ 3) (he : e < 2 ^ 31) (hv : v < 2 ^ 31) : ∃ x, bn_ev 116 0 [some (.ref 222), some (.int (nI (j % 1000))), some (.int (nI e)), some (.int (nI v)), some (.int (nI m)), none, none, none] [] h = some (some (.int x), h) ∧ ((∀ k, k < m → bt_n j e.testBit v.testBit k ≤ sp_lives S) → x = nI (bt_sm m (fun k => bt_n j e.testBit v.testBit k * bt_t k))) ∧ (¬ (∀ k, k < m → bt_n j e.testBit v.testBit k ≤ sp_lives S) → x = -9) := by
  obtain ⟨b_law, ⟨b_l1, b_lv⟩, ⟨b_b1, b_bd⟩, b_pp, b_lo, b_fa, b_at, b_nu, b_ho, b_ag⟩ := id B
  have key : ∀ r k o, k + r = m → (∀ i, i < k → bt_n j e.testBit v.testBit i ≤ sp_lives S) → ∃ x, bn_ev 116 6 [some (.ref 222), some (.int (nI (j % 1000))), some (.int (nI e)), some (.int (nI v)), some (.int (nI m)), some (.int (nI (bt_sm k (fun k => bt_n j e.testBit v.testBit k * bt_t k)))), some (.int (nI k)), o] [] h = some (some (.int x), h) ∧ ((∀ k, k < m → bt_n j e.testBit v.testBit k ≤ sp_lives S) → x = nI (bt_sm m (fun k => bt_n j e.testBit v.testBit k * bt_t k))) ∧ (¬ (∀ k, k < m → bt_n j e.testBit v.testBit k ≤ sp_lives S) → x = -9) := by
    intro r
    induction r with
    | zero =>
      intro k o hk a
      have hk : k = m := hk
      subst hk
      refine ⟨_, ?_, fun _ => rfl, fun z => absurd a z⟩
      rw [bs_X3_fasted_6, if_pos (nI_le (Nat.le_refl _) (by omega))]
    | succ r ih =>
      intro k o hk a
      have hkm : k < m := by omega
      have tp := bt_t_pos (k := k)
      have jm : j % 1000 < 1000 := Nat.mod_lt _ (by omega)
      have ed : nI (j % 1000) / nI (bt_t k) = nI (j % 1000 / bt_t k) := pk_div (by omega) (by omega) (by omega)
      have dl : j % 1000 / bt_t k ≤ j % 1000 := Nat.div_le_self _ _
      have er : bn_rem (nI (j % 1000 / bt_t k)) 10 = nI (bt_f j k) := pk_rem (d := 10) (by omega) (by omega) (by omega)
      have fl : bt_f j k < 10 := Nat.mod_lt _ (by omega)
      have hval : (if (bn_shr (nI e) (nI k) &&& 1) = 1 then 0 else if (bn_shr (nI v) (nI k) &&& 1) = 1 then bn_rem (nI (j % 1000) / nI (bt_t k)) 10 else bn_rem (nI (j % 1000) / nI (bt_t k)) 10 + 1) = nI (bt_n j e.testBit v.testBit k) := by
        rw [bx_bit he (by omega), bx_bit hv (by omega), ed, er, n1]
        simp only [sp_b_eq1]
        unfold bt_n
        by_cases q : e.testBit k = true
        · rw [if_pos q, if_pos q]; rfl
        · rw [if_neg q, if_neg q]
          by_cases q2 : v.testBit k = true
          · rw [if_pos q2, if_pos q2]
          · rw [if_neg q2, if_neg q2]
      have nl : bt_n j e.testBit v.testBit k ≤ 10 := by
        unfold bt_n
        split
        · omega
        · split <;> omega
      rw [bs_X3_fasted_6, if_neg (nI_ge hkm (by omega)), bs_X3_tenTo_0]
      simp only [bn_cI]
      rw [bt_ten (by omega), if_neg (nI_ne0 (by omega) (by omega)), mg_lives H, hval, sp_ifle (by omega) (by omega)]
      by_cases c : bt_n j e.testBit v.testBit k ≤ sp_lives S
      · rw [if_pos c, bs_X3_tenTo_0]
        simp only []
        rw [bt_ten (by omega), pk_mul, nI_add, n1]
        exact ih (k + 1) _ (by omega) (fun i hi => by
          by_cases q : i = k
          · subst q; exact c
          · exact a i (by omega))
      · rw [if_neg c]
        exact ⟨-9, rfl, fun z => absurd (z k hkm) c, fun _ => rfl⟩
  rw [bs_X3_fasted_0]
  exact key m 0 none (by omega) (fun i hi => absurd hi (Nat.not_lt_zero _))
theorem mq_go57 (n d j ixd : Nat) {gd : Nat → Nat} {G : Nat → Int32} (H : mg h S) (A : sg_A h 231 0 10 G) (hG : ∀ i, i < n → G i = nI (gd i)) (hgd : ∀ i, i < n → gd i ≤ 9) (hix : ∀ i, i < n → (gd i ≤ d ↔ i < ixd)) (hn : n ≤ 10) (hxn : ixd ≤ n) (hd : d < 300) (a3 a4 a5 : Int32) (o8 o9 : Option Value) : ∀ r g, g ≤ n → g + r = n → bn_ev 118 57 [some (.ref 222), some (.int (nI n)), some (.int (nI d)), some (.int a3), some (.int a4), some (.int a5), some (.int (nI j)), some (.int (nI g)), o8, o9] [] h = bn_ev 118 83 [some (.ref 222), some (.int (nI n)), some (.int (nI d)), some (.int a3), some (.int a4), some (.int a5), some (.int (nI j)), some (.int (nI (max g ixd))), some (.int 0), o9] [] h := by
  intro r
  induction r with
  | zero =>
    intro g hg hr
    rw [bs_X3_goOn_57, if_pos (nI_le (by omega) (by omega)), show max g ixd = g by omega]
  | succ r ih =>
    intro g hg hr
    have h9 := hgd g (by omega)
    have hi := hix g (by omega)
    rw [bs_X3_goOn_57, if_neg (nI_ge (by omega) (by omega)), H.r25, A.ld (j := g) (by omega) (by decide), Option.bind_some, hG g (by omega), sp_iflt (by omega) (by omega)]
    by_cases c : d < gd g
    · rw [if_pos c, show max g ixd = g by omega]
    · rw [if_neg c, n1, ih (g + 1) (by omega) (by omega), show max (g + 1) ixd = max g ixd by omega]
theorem sp_b_up (T : Nat → Bool) (k : Nat) : va_up (fun j => sp_b (T j)) k (nI 1) = fun j => sp_b (va_up T k true j) := by
  funext j
  unfold va_up
  split <;> rfl
theorem mq_go83 {n d v m j g1 : Nat} {ix : Nat → Nat} (B : sp_B S) (hm : m ≤ 3) (hn : n ≤ 10) (hv : v < 2 ^ 31) (hj : j < 11000) (hg : g1 = max (bt_g j) (ix d)) (hgn : g1 ≤ 20) : ∀ r eat (h : bn_H) (T : Nat → Bool) (b : Bool) (o9 : Option Value), eat + r = 2 ^ m → mg h S → sg_A h 230 1 11000 (fun j => sp_b (T j)) → (b = true ↔ ∃ j', T j' = true) → ∃ (h' : bn_H) (T' : Nat → Bool) (b' : Bool) (o' : Option Value), bn_ev 118 83 [some (.ref 222), some (.int (nI n)), some (.int (nI d)), some (.int (nI v)), some (.int (nI m)), some (.int (sp_b b)), some (.int (nI j)), some (.int (nI g1)), some (.int (nI eat)), o9] [] h = bn_ev 118 31 [some (.ref 222), some (.int (nI n)), some (.int (nI d)), some (.int (nI v)), some (.int (nI m)), some (.int (sp_b b')), some (.int (nI (j + 1))), some (.int (nI g1)), some (.int (nI (2 ^ m))), o'] [] h' ∧ sg_F (fun q => q = 230) h h' ∧ sg_A h' 230 1 11000 (fun j => sp_b (T' j)) ∧ (∀ j', T' j' = true ↔ T j' = true ∨ ∃ eat', eat ≤ eat' ∧ eat' < 2 ^ m ∧ bt_st n (sp_lives S) m ix d v.testBit j eat'.testBit j') ∧ (b' = true ↔ ∃ j', T' j' = true) := by
  obtain ⟨b_law, ⟨b_l1, b_lv⟩, ⟨b_b1, b_bd⟩, b_pp, b_lo, b_fa, b_at, b_nu, b_ho, b_ag⟩ := id B
  have p2 : 2 ^ m ≤ 2 ^ 3 := Nat.pow_le_pow_right (by omega) hm
  have p8 : (2 : Nat) ^ 3 = 8 := rfl
  intro r
  induction r with
  | zero =>
    intro eat h T b o9 hr H A hb
    have hr : eat = 2 ^ m := hr
    refine ⟨h, T, b, o9, ?_, sg_F.rf, A, fun j' => ⟨Or.inl, fun z => z.elim id (fun ⟨e, x, y, _⟩ => by omega)⟩, hb⟩
    rw [bs_X3_goOn_83, bx_shl m (by omega), if_pos (nI_le (by omega) (by omega)), n1, hr]
  | succ r ih =>
    intro eat h T b o9 hr H A hb
    have hlt : eat < 2 ^ m := by omega
    have e0 := bs_X3_goOn_83 222 (nI n) (nI d) (nI v) (nI m) (sp_b b) (nI j) (nI g1) (nI eat) o9 h
    have e129 := bs_X3_goOn_129 222 (nI n) (nI d) (nI v) (nI m) (sp_b b) (nI j) (nI g1) (nI eat) o9 h
    rw [if_pos rfl, n1] at e129
    rw [bx_shl m (by omega), if_neg (nI_ge hlt (by omega)), bx_and, sp_if0 (Nat.lt_of_le_of_lt Nat.and_le_left (by omega)), e129] at e0
    have skip : (∀ j', ¬ bt_st n (sp_lives S) m ix d v.testBit j eat.testBit j') → ∀ o, ∃ (h' : bn_H) (T' : Nat → Bool) (b' : Bool) (o' : Option Value), bn_ev 118 83 [some (.ref 222), some (.int (nI n)), some (.int (nI d)), some (.int (nI v)), some (.int (nI m)), some (.int (sp_b b)), some (.int (nI j)), some (.int (nI g1)), some (.int (nI (eat + 1))), o] [] h = bn_ev 118 31 [some (.ref 222), some (.int (nI n)), some (.int (nI d)), some (.int (nI v)), some (.int (nI m)), some (.int (sp_b b')), some (.int (nI (j + 1))), some (.int (nI g1)), some (.int (nI (2 ^ m))), o'] [] h' ∧ sg_F (fun q => q = 230) h h' ∧ sg_A h' 230 1 11000 (fun j => sp_b (T' j)) ∧ (∀ j', T' j' = true ↔ T j' = true ∨ ∃ eat', eat ≤ eat' ∧ eat' < 2 ^ m ∧ bt_st n (sp_lives S) m ix d v.testBit j eat'.testBit j') ∧ (b' = true ↔ ∃ j', T' j' = true) := fun hno o => by
      obtain ⟨h', T', b', o', x1, x2, x3, x4, x5⟩ := ih (eat + 1) h T b o (by omega) H A hb
      refine ⟨h', T', b', o', x1, x2, x3, fun j' => (x4 j').trans (or_congr Iff.rfl ⟨fun ⟨e, y1, y2, y3⟩ => ⟨e, by omega, y2, y3⟩, fun ⟨e, y1, y2, y3⟩ => ⟨e, ?_, y2, y3⟩⟩), x5⟩
      by_cases q : e = eat
      · subst q; exact absurd y3 (hno j')
      · omega
    by_cases c1 : eat &&& v = 0
    · have hon : bn_ev 105 0 [some (.int (nI eat)), none, none] [] h = some (some (.int (nI (bt_sm m (fun k => bt_1 (eat.testBit k))))), h) := by
        rw [bt_eb hm hlt, mq_ones h _ (by omega), bt_ct]
      have hs3 : bt_sm m (fun k => bt_1 (eat.testBit k)) ≤ m := by
        rw [← bt_ct]
        have : ∀ (f : Nat → Bool) l, sp_ct f l ≤ l := fun f l => by
          induction l with
          | zero => exact Nat.le_refl _
          | succ l ih => 
            unfold sp_ct at ih ⊢
            rw [sp_fold_snoc]
            have hx : ∀ a, sp_gc f (0 + l) a ≤ a + 1 := fun a => by unfold sp_gc; split <;> omega
            have := hx (sp_fold (sp_gc f) l 0 0)
            omega
        exact this _ _
      rw [if_pos c1, hon] at e0
      simp only [bn_cI] at e0
      rw [nI_add, sp_iflt (by omega) (by omega)] at e0
      by_cases c2 : n < g1 + bt_sm m (fun k => bt_1 (eat.testBit k))
      · rw [if_pos c2] at e0
        obtain ⟨h', T', b', o', x1, x2⟩ := skip (fun j' z => by have := z.2.1; rw [← hg] at this; omega) (some (.int (-9)))
        exact ⟨h', T', b', o', e0.trans (e129.trans x1), x2⟩
      · obtain ⟨x, ef, f1, f2⟩ := mq_fasted H B (j := j) (e := eat) (v := v) hm (by omega) hv
        have er : bn_rem (nI j) 1000 = nI (j % 1000) := pk_rem (d := 1000) (by omega) (by omega) (by omega)
        rw [if_neg c2, mg_C H, er, ef] at e0
        simp only [bn_gd, if_true] at e0
        by_cases c3 : ∀ k, k < m → bt_n j eat.testBit v.testBit k ≤ sp_lives S
        · obtain ⟨d1, d2, d3⟩ := bt_dec (G := g1 + bt_sm m (fun k => bt_1 (eat.testBit k))) hm b_lv c3
          rw [f1 c3, if_neg (ne9 (by omega)), H.r24, hon] at e0
          simp only [] at e0
          rw [nI_add, show (1000 : Int32) * nI (g1 + bt_sm m (fun k => bt_1 (eat.testBit k))) = nI (1000 * (g1 + bt_sm m (fun k => bt_1 (eat.testBit k)))) from pk_mul 1000 _, nI_add, nar_1] at e0
          have hst : bt_st n (sp_lives S) m ix d v.testBit j eat.testBit (1000 * (g1 + bt_sm m (fun k => bt_1 (eat.testBit k))) + bt_sm m (fun k => bt_n j eat.testBit v.testBit k * bt_t k)) := ⟨(bt_and0 hlt).mp c1, by rw [← hg]; omega, c3, by rw [← hg]⟩
          have huq : ∀ j', bt_st n (sp_lives S) m ix d v.testBit j eat.testBit j' → j' = 1000 * (g1 + bt_sm m (fun k => bt_1 (eat.testBit k))) + bt_sm m (fun k => bt_n j eat.testBit v.testBit k * bt_t k) := fun j' z => by rw [hg]; exact z.2.2.2
          generalize 1000 * (g1 + bt_sm m (fun k => bt_1 (eat.testBit k))) + bt_sm m (fun k => bt_n j eat.testBit v.testBit k * bt_t k) = jn at e0 hst huq d1
          have hjn := (bt_st_lt hm b_lv hn hst).1
          obtain ⟨h1, e1, F1, A1⟩ := A.sd (j := jn) hjn (by decide) (nI 1)
          rw [sp_b_up] at A1
          rw [e1, Option.bind_some, n1] at e0
          obtain ⟨h', T', b', o', x1, x2, x3, x4, x5⟩ := ih (eat + 1) h1 (va_up T jn true) true (some (.int (nI (bt_sm m (fun k => bt_n j eat.testBit v.testBit k * bt_t k))))) (by omega) (H.fr F1 (by omega) (by omega)) A1 ⟨fun _ => ⟨jn, up_e⟩, fun _ => rfl⟩
          refine ⟨h', T', b', o', e0.trans x1, F1.tr x2, x3, fun j' => (x4 j').trans ?_, x5⟩
          constructor
          · rintro (z | ⟨e, y1, y2, y3⟩)
            · by_cases q : j' = jn
              · subst q; exact Or.inr ⟨eat, Nat.le_refl _, hlt, hst⟩
              · rw [up_n q] at z; exact Or.inl z
            · exact Or.inr ⟨e, by omega, y2, y3⟩
          · rintro (z | ⟨e, y1, y2, y3⟩)
            · refine Or.inl ?_
              by_cases q : j' = jn
              · rw [q, up_e]
              · rw [up_n q]; exact z
            · by_cases q : e = eat
              · subst q
                rw [huq j' y3]
                exact Or.inl up_e
              · exact Or.inr ⟨e, by omega, y2, y3⟩
        · rw [f2 c3, if_pos rfl, n1] at e0
          obtain ⟨h', T', b', o', x1, x2⟩ := skip (fun j' z => c3 z.2.2.1) (some (.int (-9)))
          exact ⟨h', T', b', o', e0.trans x1, x2⟩
    · rw [if_neg c1] at e0
      obtain ⟨h', T', b', o', x1, x2⟩ := skip (fun j' z => c1 ((bt_and0 hlt).mpr z.1)) (some (.int (-9)))
      exact ⟨h', T', b', o', e0.trans x1, x2⟩
end GO
