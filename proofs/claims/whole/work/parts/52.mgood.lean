/-! AT BEST, the model's search: the loaves by how long they are good; a day of some -/
theorem sp_fold_snoc {α : Type} (g : Nat → α → α) : ∀ r i a, sp_fold g (r + 1) i a = g (i + r) (sp_fold g r i a) := by
  intro r
  induction r with
  | zero => intro i a; rfl
  | succ r ih =>
    intro i a
    have e : sp_fold g (r + 1 + 1) i a = sp_fold g (r + 1) (i + 1) (g i a) := rfl
    rw [e, ih (i + 1) (g i a), show i + 1 + r = i + (r + 1) by omega]
    rfl
/-- of the first l loaves, how many are good for so many days more -/
def bt_gl (S : sp_S) (l day : Nat) : Nat := sp_ct (sb_f S day) l
theorem bt_gl_s (S : sp_S) (l day : Nat) : bt_gl S (l + 1) day = if sb_f S day l = true then bt_gl S l day + 1 else bt_gl S l day := by
  unfold bt_gl sp_ct
  rw [sp_fold_snoc]
  unfold sp_gc
  rw [Nat.zero_add]
theorem bt_gl_m (S : sp_S) (l : Nat) {a b : Nat} (h : a ≤ b) : bt_gl S l b ≤ bt_gl S l a := by
  refine sp_ct_mono (fun k q => ?_) _ _ _ _ (Nat.le_refl _)
  simp only [sb_f, Bool.and_eq_true, decide_eq_true_eq] at q ⊢
  exact ⟨q.1, by omega⟩
theorem bt_gl_le (S : sp_S) : ∀ l day, bt_gl S l day ≤ l := by
  intro l
  induction l with
  | zero => intro day; exact Nat.le_refl _
  | succ l ih =>
    intro day
    rw [bt_gl_s]
    have := ih day
    split <;> omega
/-- the first n of gd are in order, as the first l loaves have it -/
def bt_so (S : sp_S) (l : Nat) (gd : Nat → Nat) : Prop := ∀ i, i < bt_gl S l 0 → (1 ≤ gd i ∧ gd i ≤ 9) ∧ ∀ day, gd i ≤ day ↔ i < bt_gl S l 0 - bt_gl S l day
theorem bt_so_s {S : sp_S} {l : Nat} {gd gd' : Nat → Nat} (H : bt_so S l gd) (hb : sp_badAt S ≤ 9) (hh : sp_hb S l = true) (hg : sp_age S l < sp_badAt S) (h1 : ∀ i, i < bt_gl S l 0 - bt_gl S l (sp_badAt S - sp_age S l) → gd' i = gd i) (h2 : gd' (bt_gl S l 0 - bt_gl S l (sp_badAt S - sp_age S l)) = sp_badAt S - sp_age S l) (h3 : ∀ i, bt_gl S l 0 - bt_gl S l (sp_badAt S - sp_age S l) ≤ i → i < bt_gl S l 0 → gd' (i + 1) = gd i) : bt_so S (l + 1) gd' ∧ bt_gl S (l + 1) 0 = bt_gl S l 0 + 1 := by
  have hf : ∀ day, sb_f S day l = decide (day < sp_badAt S - sp_age S l) := fun day => by
    unfold sb_f
    rw [hh, Bool.true_and]
    by_cases q : sp_age S l + day < sp_badAt S
    · rw [decide_eq_true q, decide_eq_true (by omega)]
    · rw [decide_eq_false q, decide_eq_false (by omega)]
  have e0 : bt_gl S (l + 1) 0 = bt_gl S l 0 + 1 := by
    rw [bt_gl_s, hf 0, if_pos (decide_eq_true (by omega))]
  refine ⟨fun i hi => ?_, e0⟩
  rw [e0] at hi
  generalize hx : sp_badAt S - sp_age S l = x at h1 h2 h3 hf
  have gx := bt_gl_m S l (Nat.zero_le x)
  have ed : ∀ day, bt_gl S (l + 1) day = if day < x then bt_gl S l day + 1 else bt_gl S l day := fun day => by
    rw [bt_gl_s, hf day]
    by_cases q : day < x
    · rw [if_pos q, if_pos (decide_eq_true q)]
    · rw [if_neg q, if_neg (fun z => q (of_decide_eq_true z))]
  by_cases c1 : i < bt_gl S l 0 - bt_gl S l x
  · obtain ⟨a, b⟩ := H i (by omega)
    rw [h1 i c1]
    refine ⟨a, fun day => ?_⟩
    rw [b day, e0, ed day]
    have m0 := bt_gl_m S l (Nat.zero_le day)
    by_cases q : day < x
    · rw [if_pos q]; omega
    · have := bt_gl_m S l (show x ≤ day by omega)
      rw [if_neg q]; omega
  · by_cases c2 : i = bt_gl S l 0 - bt_gl S l x
    · rw [c2, h2]
      refine ⟨by omega, fun day => ?_⟩
      rw [e0, ed day]
      have m0 := bt_gl_m S l (Nat.zero_le day)
      by_cases q : day < x
      · have := bt_gl_m S l (show day ≤ x by omega)
        rw [if_pos q]; omega
      · have := bt_gl_m S l (show x ≤ day by omega)
        rw [if_neg q]; omega
    · obtain ⟨k, rfl⟩ : ∃ k, i = k + 1 := ⟨i - 1, by omega⟩
      obtain ⟨a, b⟩ := H k (by omega)
      rw [h3 k (by omega) (by omega)]
      refine ⟨a, fun day => ?_⟩
      rw [b day, e0, ed day]
      have m0 := bt_gl_m S l (Nat.zero_le day)
      by_cases q : day < x
      · have := bt_gl_m S l (show day ≤ x by omega)
        rw [if_pos q]; omega
      · rw [if_neg q]; omega
section LG
variable {h : bn_H} {S : sp_S}
theorem mg.r25 (H : mg h S) {K : Nat → bn_R} : bn_gR h 222 3 25 K = K 231 := by
  obtain ⟨fi, N, O, A, R, M⟩ := H
  exact mo_r25 O
theorem mg.r23 (H : mg h S) {K : Nat → bn_R} : bn_gR h 222 3 23 K = K 229 := by
  obtain ⟨fi, N, O, A, R, M⟩ := H
  exact mo_r23 O
theorem mg.r24 (H : mg h S) {K : Nat → bn_R} : bn_gR h 222 3 24 K = K 230 := by
  obtain ⟨fi, N, O, A, R, M⟩ := H
  exact mo_r24 O
theorem mg.fr {P : Nat → Prop} {h1 : bn_H} (H : mg h S) (F : sg_F P h h1) (h2 : ¬ P 222) (h4 : ¬ P 224) : mg h1 S := by
  obtain ⟨fi, N, O, A, R, M⟩ := H
  exact ⟨fi, N, O.fr F h2, A.fr F h4, R, M⟩
theorem mq_lg32 {gd : Nat → Nat} (n l x : Nat) (B : sp_B S) (hl : l < sp_loaves S) (hg : sp_age S l < sp_badAt S) (hx : sp_badAt S - sp_age S l = x) (hn : n < 10) (hgd : ∀ i, i < n → gd i ≤ 9) (t : Nat) (ht : ∀ i, i < n → (gd i ≤ x ↔ i < t)) : ∀ r k (h : bn_H) (G : Nat → Int32), mg h S → k = t + r → k ≤ n → sg_A h 231 0 10 G → (∀ i, i < k → G i = nI (gd i)) → (∀ i, k ≤ i → i < n → G (i + 1) = nI (gd i)) → ∃ h' G', bn_ev 114 32 [some (.ref 222), some (.int (nI n)), some (.int (nI l)), some (.int (nI k))] [] h = bn_ev 114 83 [some (.ref 222), some (.int (nI n)), some (.int (nI l)), some (.int (nI t))] [] h' ∧ sg_F (fun q => q = 231) h h' ∧ sg_A h' 231 0 10 G' ∧ (∀ i, i < t → G' i = nI (gd i)) ∧ (∀ i, t ≤ i → i < n → G' (i + 1) = nI (gd i)) := by
  obtain ⟨b_law, ⟨b_l1, b_lv⟩, ⟨b_b1, b_bd⟩, b_pp, b_lo, b_fa, b_at, b_nu, b_ho, b_ag⟩ := id B
  intro r
  induction r with
  | zero =>
    intro k h G H hk hkn A a1 a2
    have hk : k = t := hk
    subst hk
    refine ⟨h, G, ?_, sg_F.rf, A, a1, a2⟩
    rw [bs_X3_layGood_32]
    by_cases q : k = 0
    · subst q
      rw [if_pos (show nI 0 ≤ 0 by decide)]
    · obtain ⟨m, rfl⟩ : ∃ m, k = m + 1 := ⟨k - 1, by omega⟩
      have e22 : (22 : Int32) + 5 * nI l = 22 + 5 * nI l := rfl
      have hgm := hgd m (by omega)
      have htm := (ht m (by omega)).mpr (by omega)
      rw [if_neg (nI_nle (by omega) (by omega)), H.r25, nI_pred, A.ld (j := m) (by omega) (by decide), Option.bind_some, mg_badAt H, mg_now H, (mg_l H B hl).2.2.1, Option.bind_some, pk_sub (by omega), hx, a1 m (by omega), sp_ifle (by omega) (by omega), if_pos (by omega)]
  | succ r ih =>
    intro k h G H hk hkn A a1 a2
    obtain ⟨m, rfl⟩ : ∃ m, k = m + 1 := ⟨k - 1, by omega⟩
    have hgm := hgd m (by omega)
    have htm : ¬ gd m ≤ x := fun z => by have := (ht m (by omega)).mp z; omega
    obtain ⟨h1, e1, F1, A1⟩ := A.sd (j := m + 1) (by omega) (by decide) (G m)
    have H1 := H.fr F1 (by omega) (by omega)
    obtain ⟨h2, G2, e2, F2, A2, b1, b2⟩ := ih m h1 _ H1 (by omega) (by omega) A1 (fun i hi => by rw [up_n (by omega)]; exact a1 i (by omega)) (fun i hi hin => by
      by_cases q : i = m
      · subst q; rw [up_e]; exact a1 i (by omega)
      · rw [up_n (by omega)]; exact a2 i (by omega) hin)
    refine ⟨h2, G2, ?_, F1.tr F2, A2, b1, b2⟩
    rw [bs_X3_layGood_32, if_neg (nI_nle (by omega) (by omega)), H.r25, nI_pred, A.ld (j := m) (by omega) (by decide), Option.bind_some, mg_badAt H, mg_now H, (mg_l H B hl).2.2.1, Option.bind_some, pk_sub (by omega), hx, a1 m (by omega), sp_ifle (by omega) (by omega), if_neg htm, H.r25, H.r25, A.ld (j := m) (by omega) (by decide), Option.bind_some, e1, Option.bind_some, pk_m1]
    exact e2
theorem mq_layGood (H : mg h S) (B : sp_B S) {G0 : Nat → Int32} (A0 : sg_A h 231 0 10 G0) : ∃ h' gd G, bn_ev 114 0 [some (.ref 222), none, none, none] [] h = some (some (.int (nI (sb_good S 0))), h') ∧ sg_F (fun q => q = 231) h h' ∧ sg_A h' 231 0 10 G ∧ (∀ i, i < sb_good S 0 → G i = nI (gd i)) ∧ bt_so S (sp_loaves S) gd := by
  obtain ⟨b_law, ⟨b_l1, b_lv⟩, ⟨b_b1, b_bd⟩, b_pp, b_lo, b_fa, b_at, b_nu, b_ho, b_ag⟩ := id B
  have key : ∀ r l (h : bn_H) (G : Nat → Int32) (gd : Nat → Nat) (o : Option Value), l + r = sp_loaves S → mg h S → sg_A h 231 0 10 G → (∀ i, i < bt_gl S l 0 → G i = nI (gd i)) → bt_so S l gd → ∃ h' gd' G', bn_ev 114 4 [some (.ref 222), some (.int (nI (bt_gl S l 0))), some (.int (nI l)), o] [] h = some (some (.int (nI (sb_good S 0))), h') ∧ sg_F (fun q => q = 231) h h' ∧ sg_A h' 231 0 10 G' ∧ (∀ i, i < sb_good S 0 → G' i = nI (gd' i)) ∧ bt_so S (sp_loaves S) gd' := by
    intro r
    induction r with
    | zero =>
      intro l h G gd o hl H A a1 a2
      have hl : l = sp_loaves S := hl
      subst hl
      refine ⟨h, gd, G, ?_, sg_F.rf, A, a1, a2⟩
      rw [bs_X3_layGood_4, mg_loaves H, if_pos (nI_le (by omega) (by omega))]
      rfl
    | succ r ih =>
      intro l h G gd o hl H A a1 a2
      have hll : l < sp_loaves S := by omega
      have bh := b_ho l
      have ba := b_ag l
      have e0 := bs_X3_layGood_4 222 (nI (bt_gl S l 0)) (nI l) o h
      rw [mg_loaves H, if_neg (nI_ge hll (by omega)), mg_C H, mq_holder H B hll] at e0
      simp only [bn_gd, bn_cI, if_true, n1] at e0
      rw [show (10 : Int32) = nI 10 from rfl, sp_ifle (by omega) (by omega), mg_C H, mq_isBad H B hll] at e0
      simp only [if_true, sp_b_eq0] at e0
      have gle := bt_gl_le S l 0
      by_cases c : sp_hold S l < 10 ∧ sp_bd S l = false
      · rw [if_neg (by omega), if_pos c.2] at e0
        have hh : sp_hb S l = true := decide_eq_true c.1
        have hg : sp_age S l < sp_badAt S := by
          have := c.2
          unfold sp_bd at this
          have := of_decide_eq_false this
          omega
        generalize hx : sp_badAt S - sp_age S l = x
        have tle : bt_gl S l 0 - bt_gl S l x ≤ bt_gl S l 0 := Nat.sub_le _ _
        obtain ⟨h1, G1, e1, F1, A1, b1, b2⟩ := mq_lg32 (gd := gd) (bt_gl S l 0) l x B hll hg hx (by omega) (fun i hi => (a2 i hi).1.2) (bt_gl S l 0 - bt_gl S l x) (fun i hi => (a2 i hi).2 x) (bt_gl S l 0 - (bt_gl S l 0 - bt_gl S l x)) (bt_gl S l 0) h G H (by omega) (by omega) A a1 (fun i hi hin => by omega)
        have H1 := H.fr F1 (by omega) (by omega)
        generalize ht : bt_gl S l 0 - bt_gl S l x = t at e1 b1 b2 tle
        obtain ⟨h2, e2, F2, A2⟩ := A1.sd (j := t) (by omega) (by decide) (nI x)
        have H2 := H1.fr F2 (by omega) (by omega)
        let gd' : Nat → Nat := fun i => if i < t then gd i else if i = t then x else gd (i - 1)
        have q1 : ∀ i, i < t → gd' i = gd i := fun i hi => if_pos hi
        have q2 : gd' t = x := by show (if t < t then _ else if t = t then x else _) = x; rw [if_neg (by omega), if_pos rfl]
        have q3 : ∀ i, t ≤ i → gd' (i + 1) = gd i := fun i hi => by
          show (if i + 1 < t then _ else if i + 1 = t then x else gd (i + 1 - 1)) = gd i
          rw [if_neg (by omega), if_neg (by omega), Nat.add_sub_cancel]
        obtain ⟨s1, s2⟩ := bt_so_s (gd' := gd') a2 b_bd hh hg (by rw [hx, ht]; exact q1) (by rw [hx, ht]; exact q2) (by rw [hx, ht]; exact fun i hi _ => q3 i hi)
        obtain ⟨h3, gd3, G3, e3, F3, A3, z1, z2⟩ := ih (l + 1) h2 _ gd' (some (.int (nI t))) (by omega) H2 A2 (fun i hi => by
          rw [s2] at hi
          by_cases y1 : i < t
          · rw [up_n (by omega), q1 i y1]; exact b1 i y1
          · by_cases y2 : i = t
            · subst y2; rw [up_e, q2]
            · obtain ⟨k, rfl⟩ : ∃ k, i = k + 1 := ⟨i - 1, by omega⟩
              rw [up_n (by omega), q3 k (by omega)]; exact b2 k (by omega) (by omega)) s1
        refine ⟨h3, gd3, G3, ?_, (F1.tr F2).tr F3, A3, z1, z2⟩
        rw [s2] at e3
        refine e0.trans (e1.trans ?_)
        rw [bs_X3_layGood_83, H1.r25, mg_badAt H1, mg_now H1, (mg_l H1 B hll).2.2.1, Option.bind_some, pk_sub (by omega), hx, e2, Option.bind_some, n1, n1]
        exact e3
      · have hf : ∀ day, sb_f S day l = false := fun day => by
          unfold sb_f sp_hb
          by_cases q : sp_hold S l < 10
          · have : ¬ sp_bd S l = false := fun z => c ⟨q, z⟩
            unfold sp_bd at this
            have := Classical.byContradiction (fun y => this (decide_eq_false y))
            rw [decide_eq_false (show ¬ sp_age S l + day < sp_badAt S by omega), Bool.and_false]
          · rw [decide_eq_false q, Bool.false_and]
        have eg : ∀ day, bt_gl S (l + 1) day = bt_gl S l day := fun day => by rw [bt_gl_s, hf day, if_neg (by decide)]
        obtain ⟨h3, gd3, G3, e3, F3, A3, z1, z2⟩ := ih (l + 1) h G gd o (by omega) H A (by rw [eg]; exact a1) (fun i hi => by
          rw [eg] at hi
          obtain ⟨y1, y2⟩ := a2 i hi
          exact ⟨y1, fun day => by rw [eg, eg]; exact y2 day⟩)
        rw [eg] at e3
        refine ⟨h3, gd3, G3, e0.trans ?_, F3, A3, z1, z2⟩
        by_cases q : 10 ≤ sp_hold S l
        · rw [if_pos q]; exact e3
        · rw [if_neg q, if_neg (fun z => c ⟨by omega, z⟩)]; exact e3
  rw [bs_X3_layGood_0]
  exact key (sp_loaves S) 0 h G0 (fun _ => 0) none (by omega) H A0 (fun i hi => absurd hi (Nat.not_lt_zero _)) (fun i hi => absurd hi (Nat.not_lt_zero _))
end LG
