/-! THE MODEL DOES: eat, give, cut, day, night -/
theorem sp_ct0 (f : Nat → Bool) : ∀ r i, sp_fold (sp_gc f) r i 0 = 0 ↔ ∀ k, i ≤ k → k < i + r → f k = false := by
  intro r
  induction r with
  | zero => intro i; exact ⟨fun _ k a b => by omega, fun _ => rfl⟩
  | succ r ih =>
    intro i
    show sp_fold (sp_gc f) r (i + 1) (sp_gc f i 0) = 0 ↔ _
    rw [sp_gc_add]
    have hg : sp_gc f i 0 = if f i = true then 0 + 1 else 0 := rfl
    rw [hg]
    constructor
    · intro e k a b
      by_cases hf : f i = true
      · rw [if_pos hf] at e; omega
      · rw [if_neg hf] at e
        by_cases c : k = i
        · subst c; simpa using hf
        · exact (ih (i + 1)).mp (by omega) k (by omega) (by omega)
    · intro a
      have : ¬ f i = true := by rw [a i (by omega) (by omega)]; decide
      rw [if_neg this, (ih (i + 1)).mpr (fun k b c => a k (by omega) (by omega))]
theorem sp_v0 (f : Nat → Bool) {n : Nat} (hn : n ≤ 10) : sp_v f n = 0 ↔ ∀ k, k < n → f k = false := by
  obtain ⟨-, -, h3⟩ := sp_bits_v f hn
  constructor
  · intro e k hk
    have := h3 k
    rw [e] at this
    simpa [hk] using this.symm
  · intro a
    apply Nat.eq_of_testBit_eq
    intro k
    rw [h3 k]
    by_cases hk : k < n
    · simp [a k hk]
    · simp [hk]
theorem sp_bits0 (f : Nat → Bool) {n : Nat} (hn : n ≤ 10) : (sp_bits f n = 0) = (sp_ct f n = 0) := by
  apply propext
  obtain ⟨h1, h2, -⟩ := sp_bits_v f hn
  rw [h1]
  have e : (nI (sp_v f n) = 0) = (sp_v f n = 0) := sp_eq (b := 0) h2 (by decide)
  rw [e, sp_v0 f hn]
  refine Iff.trans ?_ (sp_ct0 f n 0).symm
  exact ⟨fun a k _ b => a k (by omega), fun a k b => a k (by omega) (by omega)⟩
theorem mw.O {h : bn_H} {X : ct_X} (H : mw h X) : ∃ fi, mo h fi (sp_seed X.2.1) ∧ fi 14 = nI X.1.1 ∧ fi 17 = nI X.2.2.1.length := by
  obtain ⟨fi, N, O, A, R, M, ⟨t1, t2⟩, ⟨nx, W, Z, a1, a2, a3, a4, a5, a6, a7⟩, k, r⟩ := H
  exact ⟨fi, O, t1, a3⟩
theorem mw.seed {h : bn_H} {X : ct_X} (H : mw h X) (y : Int64) : ∃ h', bn_pf h 222 3 12 (.long y) = some h' ∧ mw h' (X.1, sp_u_seed X.2.1 y, X.2.2) ∧ sg_F (fun q => q = 222) h h' := by
  obtain ⟨fi, N, O, A, R, M, ⟨t1, t2⟩, a, k, r⟩ := H
  obtain ⟨h1, e1, F1, O1⟩ := mo_ps O y
  exact ⟨h1, e1, ⟨fi, N, O1, A.fr F1 (by omega), mr_1 R rfl, M, ⟨t1, t2.fr F1 (by omega)⟩, a.fr F1 (by omega) (by omega), k.fr F1 (fun q x y => by omega), r.fr F1 (fun q x => by omega)⟩, F1⟩
/-- a loaf's holder, a loaf's number -/
theorem mn_hold {S : sp_S} {N : Nat → Int32} (M : mn_R S N) (B : sp_B S) {l : Nat} (hl : l < sp_loaves S) (q : Nat) : mn_R (sp_u_hold S l q) (va_up N (21 + 5 * l) (nI q)) := by
  obtain ⟨b_law, ⟨b_l1, b_lv⟩, ⟨b_b1, b_bd⟩, b_pp, b_lo, b_fa, b_at, b_nu, b_ho, b_ag⟩ := id B
  obtain ⟨M1, M2, M3⟩ := M
  refine ⟨fun p hp => ?_, fun k hk => ?_, ?_⟩
  · have hp : p < sp_people S := hp
    have := M1 p hp
    unfold va_up
    rw [if_neg (by omega), if_neg (by omega), if_neg (by omega), if_neg (by omega)]
    exact this
  · have hk : k < sp_loaves S := hk
    obtain ⟨q0, q1, q2, q3, q4⟩ := M2 k hk
    have g1 : sp_hold (sp_u_hold S l q) k = if k = l then q else sp_hold S k := rfl
    rw [g1]
    unfold va_up
    refine ⟨?_, ?_, ?_, ?_, ?_⟩
    · rw [if_neg (by omega)]; exact q0
    · by_cases e : k = l
      · subst e; rw [if_pos rfl, if_pos rfl]
      · rw [if_neg (by omega), if_neg e]; exact q1
    · rw [if_neg (by omega)]; exact q2
    · rw [if_neg (by omega)]; exact q3
    · rw [if_neg (by omega)]; exact q4
  · unfold va_up
    rw [if_neg (by omega)]
    exact M3
theorem mn_num {S : sp_S} {N : Nat → Int32} (M : mn_R S N) (B : sp_B S) {l : Nat} (hl : l < sp_loaves S) (v : Nat) : mn_R (sp_u_num S l v) (va_up N (20 + 5 * l) (nI v)) := by
  obtain ⟨b_law, ⟨b_l1, b_lv⟩, ⟨b_b1, b_bd⟩, b_pp, b_lo, b_fa, b_at, b_nu, b_ho, b_ag⟩ := id B
  obtain ⟨M1, M2, M3⟩ := M
  refine ⟨fun p hp => ?_, fun k hk => ?_, ?_⟩
  · have hp : p < sp_people S := hp
    have := M1 p hp
    unfold va_up
    rw [if_neg (by omega), if_neg (by omega), if_neg (by omega), if_neg (by omega)]
    exact this
  · have hk : k < sp_loaves S := hk
    obtain ⟨q0, q1, q2, q3, q4⟩ := M2 k hk
    have g1 : sp_num (sp_u_num S l v) k = if k = l then v else sp_num S k := rfl
    rw [g1]
    unfold va_up
    refine ⟨?_, ?_, ?_, ?_, ?_⟩
    · by_cases e : k = l
      · subst e; rw [if_pos rfl, if_pos rfl]
      · rw [if_neg (by omega), if_neg e]; exact q0
    · rw [if_neg (by omega)]; exact q1
    · rw [if_neg (by omega)]; exact q2
    · rw [if_neg (by omega)]; exact q3
    · rw [if_neg (by omega)]; exact q4
  · unfold va_up
    rw [if_neg (by omega)]
    exact M3
theorem k21 (l : Nat) : (21 : Int32) + 5 * nI l = nI (21 + 5 * l) := ix_l 21 l
theorem mq_cutOf (h : bn_H) {v : Nat} (hv : v ≤ 99) : bn_ev 100 0 [some (.int (nI v))] [] h = some (some (.int (nI (if sp_nine v = true then sp_cut v else v))), h) := by
  rw [bs_X3_cutOf_0]
  have e1 : nI v / 10 = nI (v / 10) := pk_div (d := 10) (by omega) (by decide) (by decide)
  have e2 : bn_rem (nI v) 10 = nI (v % 10) := pk_rem (d := 10) (by omega) (by decide) (by decide)
  have i1 : (nI (v / 10) = 9) = (v / 10 = 9) := sp_eq (b := 9) (by omega) (by decide)
  have i2 : (nI (v % 10) = 9) = (v % 10 = 9) := sp_eq (b := 9) (by omega) (by decide)
  simp only [e1, e2, i1, i2]
  unfold sp_nine sp_cut
  by_cases a : v / 10 = 9
  · rw [if_pos a, if_pos a, if_pos (by simp [a]), show nI v - 30 = nI (v - 30) from pk_sub (b := 30) (by omega)]
  · rw [if_neg a, if_neg a]
    by_cases b : v % 10 = 9
    · rw [if_pos b, if_pos (by simp [b]), show nI v - 3 = nI (v - 3) from pk_sub (b := 3) (by omega)]
    · rw [if_neg b, if_neg (by simp [a, b])]
theorem sp_cut_lt {v : Nat} (h : sp_nine v = true) : sp_cut v < v := by
  simp only [sp_nine, Bool.or_eq_true, decide_eq_true_eq] at h
  unfold sp_cut
  split <;> omega
theorem sz_seed (S : sp_S) (y : Int64) (l q : Nat) : sp_seed (sp_u_hold (sp_u_seed S y) l q) = sp_seed (sp_u_seed S y) := rfl
theorem mg_sth {h : bn_H} {S : sp_S} {y : Int64} (G : mg h (sp_u_seed S y)) (B : sp_B S) {l : Nat} (hl : l < sp_loaves S) (q : Nat) : ∃ h', bn_sd h 224 0 (nI (21 + 5 * l)) (nI q) = some h' ∧ sg_F (fun k => k = 224) h h' ∧ mg h' (sp_u_hold (sp_u_seed S y) l q) := by
  have := B.2.2.2.2.1
  exact mg_st (T := sp_u_hold (sp_u_seed S y) l q) G (by omega) rfl rfl (fun N M => mn_hold M (sp_seed_B B y) hl q)
theorem sz_n58 {h2 : bn_H} {S : sp_S} {y : Int64} (G2 : mg h2 (sp_u_seed S y)) (B : sp_B S) (sm u : Int32) {t : Nat} (ht : t < 2 ^ 31) : bn_ev 107 58 [some (.ref 222), some (.int sm), some (.int u), some (.int (nI t)), some (.int 0), some (.int 0)] [] h2 = bn_ev 107 58 [some (.ref 222), some (.int sm), some (.int u), some (.int (nI t)), some (.int (sp_bits (sp_ho S t) (sp_loaves S))), some (.int (nI (sp_loaves S)))] [] h2 := by
  obtain ⟨b_law, ⟨b_l1, b_lv⟩, ⟨b_b1, b_bd⟩, b_pp, b_lo, b_fa, b_at, b_nu, b_ho, b_ag⟩ := id B
  have key : ∀ r i a, i + r = sp_loaves S → bn_ev 107 58 [some (.ref 222), some (.int sm), some (.int u), some (.int (nI t)), some (.int a), some (.int (nI i))] [] h2 = bn_ev 107 58 [some (.ref 222), some (.int sm), some (.int u), some (.int (nI t)), some (.int (sp_fold (sp_g1 (sp_ho S t)) r i a)), some (.int (nI (sp_loaves S)))] [] h2 := by
    intro r
    induction r with
    | zero => intro i a hi; rw [show i = sp_loaves S by omega]; rfl
    | succ r ih =>
      intro i a hi
      have hl : i < sp_loaves S := by omega
      have hh := b_ho i
      have fs : sp_fold (sp_g1 (sp_ho S t)) (r + 1) i a = sp_fold (sp_g1 (sp_ho S t)) r (i + 1) (sp_g1 (sp_ho S t) i a) := rfl
      have hq : bn_ev 89 0 [some (.ref 222), some (.int (nI i))] [] h2 = some (some (.int (nI (sp_hold S i))), h2) := mq_holder G2 (sp_seed_B B y) hl
      have le10 : ((10 : Int32) ≤ nI (sp_hold S i)) = (10 ≤ sp_hold S i) := sp_le (a := 10) (by decide) (by omega)
      rw [fs, ← ih (i + 1) _ (by omega), bs_X3_night_58, mg_loaves G2, if_neg (nI_ge (show i < sp_loaves (sp_u_seed S y) from hl) (show sp_loaves S < 2 ^ 31 by omega))]
      simp only [mg_C G2, bn_gd, if_true, hq, bn_cI, le10, or_0, n1]
      rw [sp_ifeq (by omega) ht]
      unfold sp_g1 sp_ho sp_hb
      by_cases c : 10 ≤ sp_hold S i
      · have : ¬ sp_hold S i < 10 := by omega
        rw [if_pos c, decide_eq_false this]
        rfl
      · have : sp_hold S i < 10 := by omega
        rw [if_neg c, decide_eq_true this]
        by_cases d : sp_hold S i = t
        · rw [if_pos d, decide_eq_true d]
          rfl
        · rw [if_neg d, decide_eq_false d]
          rfl
  exact key (sp_loaves S) 0 0 (by omega)
theorem sz_n58b {h2 : bn_H} {S : sp_S} {y : Int64} (G2 : mg h2 (sp_u_seed S y)) (B : sp_B S) (sm u t o : Int32) : bn_ev 107 58 [some (.ref 222), some (.int sm), some (.int u), some (.int t), some (.int o), some (.int (nI (sp_loaves S)))] [] h2 = (if o = 0 then (some (some (.int (-9)), h2)) else (bn_cI (bn_ev 105 0 [some (.int sm), none, none] [] h2) (fun x3 h2 => if x3 = 0 then none else (bn_cI (bn_ev 105 0 [some (.int o), none, none] [] h2) (fun x5 h4 => if x5 = 0 then none else (bn_cI (bn_ev 106 0 [some (.int o), some (.int (bn_rem (u / x3) x5)), none, none] [] h4) (fun x7 h6 => bn_gR h6 222 3 6 (fun p8 => (bn_sd h6 p8 0 (21 + (5 * x7)) t).bind (fun h9 => some (some (.int ((10 * t) + x7)), h9)))))))))) := by
  have := B.2.2.2.2.1
  rw [bs_X3_night_58, mg_loaves G2, if_pos (show nI (sp_loaves (sp_u_seed S y)) ≤ nI (sp_loaves S) from nI_le (Nat.le_refl _) (by omega))]
theorem sz_sd {h : bn_H} {S : sp_S} {y : Int64} (G : mg h (sp_u_seed S y)) {K : Int64 → bn_R} : bn_gJ h 222 3 12 K = K y := mg_seed G
theorem sz_now {h h1 : bn_H} {T : Nat × (Nat → Nat)} {S : sp_S} {r : List sp_S × (Nat → Option sp_S)} {y : Int64} {l q : Nat} (H : mw h (T, sp_u_seed S y, r)) (F : sg_F (fun k => k = 224) h h1) (G : mg h1 (sp_u_hold (sp_u_seed S y) l q)) : mw h1 (T, sp_u_hold (sp_u_seed S y) l q, r) := H.now F G rfl
section MD
variable {h : bn_H} {X : ct_X}
theorem mq_eat (H : mw h X) (hB : ct_B X) (a1 a2 : Int32) : mq_ok 98 [some (.ref 222), some (.int a1), some (.int a2)] h (ca_eat X a1 a2).1 (ca_eat X a1 a2).2 := by
  have G := H.G
  have B := hB.2.2.1
  obtain ⟨b_law, ⟨b_l1, b_lv⟩, ⟨b_b1, b_bd⟩, b_pp, b_lo, b_fa, b_at, b_nu, b_ho, b_ag⟩ := id B
  unfold ca_eat
  have e0 := bs_X3_eat_0 222 a1 a2 h
  simp only [mg_C G, mq_isPerson G B, mq_isLoaf G B, bn_gd, bn_cI, if_true, sp_b_eq0] at e0
  cases hi : sp_in a1 (sp_people X.2.1) with
  | false => rw [hi] at e0; exact mq_ok.same H e0
  | true =>
    cases hk : sp_in a2 (sp_loaves X.2.1) with
    | false => rw [hi, hk] at e0; exact mq_ok.same H e0
    | true =>
      rw [hi, hk] at e0
      obtain ⟨j, hj, rfl⟩ := sp_in_nI hi (by omega)
      obtain ⟨l, hl, rfl⟩ := sp_in_nI hk (by omega)
      simp only [mq_mayEat G B hj hl, sp_b_eq0, Bool.true_eq_false, if_false] at e0
      simp only [nI_clamp (show j < 2 ^ 31 by omega), nI_clamp (show l < 2 ^ 31 by omega), if_true]
      cases hm : sp_may X.2.1 j l with
      | false => rw [hm] at e0; exact mq_ok.same H e0
      | true =>
        rw [hm] at e0
        have hal : sp_al X.2.1 j = true := by
          unfold sp_may at hm
          simp only [Bool.and_eq_true] at hm
          exact hm.1
        obtain ⟨h1, e1, H1, F1⟩ := mq_keepAct H hB
        have G1 : mg h1 X.2.1 := H1.G
        obtain ⟨h2, e2, F2, G2⟩ := mq_eaten G1 B hj hl hal
        have H2 := H1.now F2 G2 rfl
        have ln : bn_ld h2 224 0 (20 + 5 * nI l) = some (nI (sp_num X.2.1 l)) := by
          obtain ⟨fi, N, O, A, R, M⟩ := G2
          rw [k5, A.ld (by omega) (by decide), (M.2.1 l hl).1]
          rfl
        refine ⟨h2, ?_, H2, F1.tr (F2.mono (mw_eq (by omega)))⟩
        refine e0.trans ?_
        simp only [Bool.true_eq_false, if_false, if_true, e1, bn_cV, mg_C G, mg_C G1, e2, mg_C G2]
        rw [bs_X3_number_0, mg_now G2, ln]
        rfl
theorem mq_day (H : mw h X) (hB : ct_B X) : mq_ok 103 [some (.ref 222)] h (ca_day X).1 (ca_day X).2 := by
  have G := H.G
  have B := hB.2.2.1
  obtain ⟨h1, e1, H1, F1⟩ := mq_keepAct H hB
  have G1 : mg h1 X.2.1 := H1.G
  obtain ⟨h2, e2, F2, G2⟩ := mq_goBy G1 B
  refine ⟨h2, ?_, H1.now F2 G2 rfl, F1.tr (F2.mono (mw_eq (by omega)))⟩
  rw [bs_X3_day_0]
  simp only [mg_C G, bn_gd, if_true, e1, bn_cV, mg_C G1, e2, bn_cI]
  rfl
theorem mq_give (H : mw h X) (hB : ct_B X) (a1 a2 : Int32) : mq_ok 99 [some (.ref 222), some (.int a1), some (.int a2), none] h (ca_give X a1 a2).1 (ca_give X a1 a2).2 := by
  have G := H.G
  have B := hB.2.2.1
  obtain ⟨b_law, ⟨b_l1, b_lv⟩, ⟨b_b1, b_bd⟩, b_pp, b_lo, b_fa, b_at, b_nu, b_ho, b_ag⟩ := id B
  unfold ca_give
  have e0 := bs_X3_give_0 222 a1 a2 h
  simp only [mg_C G, mq_isPerson G B, mq_isLoaf G B, bn_gd, bn_cI, if_true, sp_b_eq0] at e0
  cases hi : sp_in a1 (sp_loaves X.2.1) with
  | false => rw [hi] at e0; exact mq_ok.same H e0
  | true =>
    rw [hi] at e0
    obtain ⟨l, hl, rfl⟩ := sp_in_nI hi (by omega)
    have h20 := b_ho l
    simp only [nI_clamp (show l < 2 ^ 31 by omega), if_true]
    simp only [Bool.true_eq_false, if_false] at e0
    have fin : ∀ (q : Nat), a2 = nI q → q < 2 ^ 31 → bn_ev 99 0 [some (.ref 222), some (.int (nI l)), some (.int a2), none] [] h = bn_ev 99 63 [some (.ref 222), some (.int (nI l)), some (.int a2), some (.int (nI (sp_hold X.2.1 l)))] [] h → mq_ok 99 [some (.ref 222), some (.int (nI l)), some (.int a2), none] h (nI (sp_hold X.2.1 l)) (ct_rem X (sp_u_hold X.2.1 l q)) := by
      intro q hq hq2 ee
      obtain ⟨h1, e1, H1, F1⟩ := mq_keepAct H hB
      have G1 : mg h1 X.2.1 := H1.G
      obtain ⟨h2, e2, F2, G2⟩ := mg_st (T := sp_u_hold X.2.1 l q) (k := 21 + 5 * l) (x := nI q) G1 (by omega) rfl rfl (fun N M => mn_hold M B hl q)
      refine ⟨h2, ee.trans ?_, H1.now F2 G2 rfl, F1.tr (F2.mono (mw_eq (by omega)))⟩
      rw [bs_X3_give_63]
      simp only [mg_C G, bn_gd, if_true, e1, bn_cV, mg_now G1, k21, hq, e2, Option.bind_some]
    have e24 : ∀ o, bn_ev 99 24 [some (.ref 222), some (.int (nI l)), some (.int a2), o] [] h = if sp_hold X.2.1 l = 20 then some (some (.int (-3)), h) else if nI (sp_hold X.2.1 l) = a2 then some (some (.int (-3)), h) else if a2 = 10 then bn_ev 99 63 [some (.ref 222), some (.int (nI l)), some (.int a2), some (.int (nI (sp_hold X.2.1 l)))] [] h else (bn_ld h 224 0 ((4 * a2) + 1)).bind (fun x4 => if x4 = 0 then (some (some (.int (-3)), h)) else (bn_ev 99 63 [some (.ref 222), some (.int (nI l)), some (.int a2), some (.int (nI (sp_hold X.2.1 l)))] [] h)) := by
      intro o
      rw [bs_X3_give_24]
      simp only [mg_C G, mq_holder G B hl, bn_gd, if_true, bn_cI, mg_now G]
      rw [sp_if20 (by omega)]
    by_cases h1 : a2 = 10
    · rw [if_pos h1, e24] at e0
      rw [if_pos (Or.inl h1)]
      by_cases h2 : sp_hold X.2.1 l = 20
      · rw [if_pos h2] at e0
        rw [if_pos (Or.inl h2)]
        exact mq_ok.same H e0
      · by_cases h3 : nI (sp_hold X.2.1 l) = a2
        · rw [if_neg h2, if_pos h3] at e0
          rw [if_pos (Or.inr (Or.inl h3))]
          exact mq_ok.same H e0
        · rw [if_neg h2, if_neg h3, if_pos h1] at e0
          rw [if_neg (fun q => q.elim h2 (fun q => q.elim h3 (fun q => q.1 h1)))]
          have hc : a2.toNatClampNeg = 10 := by rw [h1]; decide
          rw [hc]
          exact fin 10 h1 (by omega) e0
    · rw [if_neg h1] at e0
      cases hk : sp_in a2 (sp_people X.2.1) with
      | false =>
        rw [hk] at e0
        rw [if_neg (fun q => q.elim h1 (fun q => absurd q (by decide)))]
        exact mq_ok.same H e0
      | true =>
        rw [hk] at e0
        rw [if_pos (Or.inr rfl)]
        simp only [Bool.true_eq_false, if_false] at e0
        rw [e24] at e0
        obtain ⟨q, hq, rfl⟩ := sp_in_nI hk (by omega)
        simp only [nI_clamp (show q < 2 ^ 31 by omega)]
        by_cases h2 : sp_hold X.2.1 l = 20
        · rw [if_pos h2] at e0
          rw [if_pos (Or.inl h2)]
          exact mq_ok.same H e0
        · by_cases h3 : nI (sp_hold X.2.1 l) = nI q
          · rw [if_neg h2, if_pos h3] at e0
            rw [if_pos (Or.inr (Or.inl h3))]
            exact mq_ok.same H e0
          · rw [if_neg h2, if_neg h3, if_neg h1, mg_al G B hq, Option.bind_some] at e0
            simp only [sp_b_eq0] at e0
            cases ha : sp_al X.2.1 q with
            | false =>
              rw [ha] at e0
              rw [if_pos (Or.inr (Or.inr ⟨h1, rfl⟩))]
              exact mq_ok.same H e0
            | true =>
              rw [ha] at e0
              rw [if_neg (fun z => z.elim h2 (fun z => z.elim h3 (fun z => absurd z.2 (by decide))))]
              exact fin q rfl (by omega) e0
theorem mq_cut (H : mw h X) (hB : ct_B X) (a1 : Int32) : mq_ok 101 [some (.ref 222), some (.int a1)] h (ca_cut X a1).1 (ca_cut X a1).2 := by
  have G := H.G
  have B := hB.2.2.1
  obtain ⟨b_law, ⟨b_l1, b_lv⟩, ⟨b_b1, b_bd⟩, b_pp, b_lo, b_fa, b_at, b_nu, b_ho, b_ag⟩ := id B
  unfold ca_cut
  have e0 := bs_X3_cut_0 222 a1 h
  simp only [mg_C G, mq_isLoaf G B, bn_gd, bn_cI, if_true, sp_b_eq0] at e0
  cases hi : sp_in a1 (sp_loaves X.2.1) with
  | false => rw [hi] at e0; exact mq_ok.same H e0
  | true =>
    rw [hi] at e0
    obtain ⟨l, hl, rfl⟩ := sp_in_nI hi (by omega)
    have h20 := b_ho l
    have h99 := b_nu l
    simp only [nI_clamp (show l < 2 ^ 31 by omega), if_true]
    simp only [Bool.true_eq_false, if_false, mg_C G, if_true, mq_holder G B hl, mq_number G B hl, mq_cutOf h h99, sp_if20 (show sp_hold X.2.1 l < 2 ^ 31 by omega)] at e0
    by_cases h2 : sp_hold X.2.1 l = 20
    · rw [if_pos h2] at e0
      rw [if_pos (Or.inl h2)]
      exact mq_ok.same H e0
    · rw [if_neg h2] at e0
      cases h9 : sp_nine (sp_num X.2.1 l) with
      | false =>
        rw [h9] at e0
        rw [if_pos (Or.inr rfl)]
        exact mq_ok.same H (e0.trans (if_pos rfl))
      | true =>
        have hc := sp_cut_lt h9
        rw [h9, if_pos rfl, sp_ifeq (by omega) (by omega), if_neg (by omega)] at e0
        rw [if_neg (fun z => z.elim h2 (fun z => absurd z (by decide)))]
        obtain ⟨h1, e1, H1, F1⟩ := mq_keepAct H hB
        have G1 : mg h1 X.2.1 := H1.G
        obtain ⟨h2, e2, F2, G2⟩ := mg_st (T := sp_u_num X.2.1 l (sp_cut (sp_num X.2.1 l))) (k := 20 + 5 * l) (x := nI (sp_cut (sp_num X.2.1 l))) G1 (by omega) rfl rfl (fun N M => mn_num M B hl _)
        have ln : bn_ld h2 224 0 (20 + 5 * nI l) = some (nI (sp_cut (sp_num X.2.1 l))) := by
          obtain ⟨fi, N, O, A, R, M⟩ := G2
          rw [k5, A.ld (by omega) (by decide), (M.2.1 l hl).1]
          show some (nI (if l = l then _ else _)) = _
          rw [if_pos rfl]
        refine ⟨h2, e0.trans ?_, H1.now F2 G2 rfl, F1.tr (F2.mono (mw_eq (by omega)))⟩
        simp only [if_true, mg_C G, e1, bn_cV, mg_now G1, mg_C G1, mq_number G1 B hl, mq_cutOf h1 h99, h9, k5, e2, Option.bind_some, mg_C G2]
        rw [bs_X3_number_0, mg_now G2, ln]
        rfl
theorem mq_night (H : mw h X) (hB : ct_B X) : mq_ok 107 [some (.ref 222), none, none, none, none, none] h (ca_night X).1 (ca_night X).2 := by
  have G := H.G
  have B := hB.2.2.1
  obtain ⟨b_law, ⟨b_l1, b_lv⟩, ⟨b_b1, b_bd⟩, b_pp, b_lo, b_fa, b_at, b_nu, b_ho, b_ag⟩ := id B
  have hu := sn_u_lt X.2.1
  have e0 := bs_X3_night_0 222 h
  have ale : sn_a X.2.1 ≤ sp_people X.2.1 := sp_ct_le _ _
  simp only [mg_C G, mq_alive G B, bn_gd, bn_cI, if_true, sp_bits0 (sp_al X.2.1) (show sp_people X.2.1 ≤ 10 by omega), show sp_ct (sp_al X.2.1) (sp_people X.2.1) = sn_a X.2.1 from rfl] at e0
  unfold ca_night
  by_cases h0 : sn_a X.2.1 = 0
  · rw [if_pos h0] at e0
    rw [if_pos h0]
    exact mq_ok.same H e0
  · rw [if_neg h0] at e0
    rw [if_neg h0]
    obtain ⟨ht1, ht2⟩ := sn_t_ok h0
    obtain ⟨h1, e1, H1, F1⟩ := mq_keepAct H hB
    have G1 : mg h1 X.2.1 := H1.G
    obtain ⟨h2, e2, H2, F2⟩ := H1.seed (sn_y X.2.1)
    have G2 : mg h2 (sp_u_seed X.2.1 (sn_y X.2.1)) := H2.G
    have B2 := sp_seed_B B (sn_y X.2.1)
    have na : ¬ nI (sn_a X.2.1) = 0 := nI_ne0 (Nat.pos_of_ne_zero h0) (by omega)
    have er : bn_rem (nI (sn_u X.2.1)) (nI (sn_a X.2.1)) = nI (sn_u X.2.1 % sn_a X.2.1) := pk_rem (by omega) (Nat.pos_of_ne_zero h0) (by omega)
    have ed : nI (sn_u X.2.1) / nI (sn_a X.2.1) = nI (sn_u X.2.1 / sn_a X.2.1) := pk_div (by omega) (Nat.pos_of_ne_zero h0) (by omega)
    have sd : ∀ K, bn_gJ h2 222 3 12 K = K (sn_y X.2.1) := fun K => sz_sd G2
    have e2' : bn_pf h1 222 3 12 (.long (sp_seed X.2.1 * 6364136223846793005 + 1442695040888963407)) = some h2 := e2
    have FF := F1.tr (F2.mono (mw_eq (by omega)))
    have on : bn_ev 105 0 [some (.int (sp_bits (sp_al X.2.1) (sp_people X.2.1))), none, none] [] h2 = some (some (.int (nI (sn_a X.2.1))), h2) := mq_ones h2 _ (by omega)
    have nt : bn_ev 106 0 [some (.int (sp_bits (sp_al X.2.1) (sp_people X.2.1))), some (.int (nI (sn_u X.2.1 % sn_a X.2.1))), none, none] [] h2 = some (some (.int (nI (sn_t X.2.1))), h2) := mq_nth h2 _ (by omega) ht1 (by have := Nat.mod_lt (sn_u X.2.1) (Nat.pos_of_ne_zero h0); omega)
    have ev : bn_ev 107 0 [some (.ref 222), none, none, none, none, none] [] h = bn_ev 107 58 [some (.ref 222), some (.int (sp_bits (sp_al X.2.1) (sp_people X.2.1))), some (.int (nI (sn_u X.2.1))), some (.int (nI (sn_t X.2.1))), some (.int 0), some (.int 0)] [] h2 := by
      refine e0.trans ?_
      simp only [e1, bn_cV, mg_seed G1, e2', Option.bind_some, sd, on, if_neg na, sn_drawn, er, nt]
    rw [sz_n58 G2 B _ _ (show sn_t X.2.1 < 2 ^ 31 by omega), sz_n58b G2 B] at ev
    simp only [sp_bits0 (sp_ho X.2.1 (sn_t X.2.1)) b_lo, show sp_ct (sp_ho X.2.1 (sn_t X.2.1)) (sp_loaves X.2.1) = sn_o X.2.1 from rfl] at ev
    have ole : sn_o X.2.1 ≤ sp_loaves X.2.1 := sp_ct_le _ _
    by_cases ho : sn_o X.2.1 = 0
    · rw [if_pos ho] at ev
      rw [if_pos ho]
      exact ⟨h2, ev, H2, FF⟩
    · rw [if_neg ho] at ev
      rw [if_neg ho]
      obtain ⟨hl1, hl2⟩ := sn_l_ok ho
      have hq : sn_u X.2.1 / sn_a X.2.1 ≤ sn_u X.2.1 := Nat.div_le_self _ _
      have er2 : bn_rem (nI (sn_u X.2.1 / sn_a X.2.1)) (nI (sn_o X.2.1)) = nI (sn_u X.2.1 / sn_a X.2.1 % sn_o X.2.1) := pk_rem (by omega) (Nat.pos_of_ne_zero ho) (by omega)
      have no : ¬ nI (sn_o X.2.1) = 0 := nI_ne0 (Nat.pos_of_ne_zero ho) (by omega)
      have on2 : bn_ev 105 0 [some (.int (sp_bits (sp_ho X.2.1 (sn_t X.2.1)) (sp_loaves X.2.1))), none, none] [] h2 = some (some (.int (nI (sn_o X.2.1))), h2) := mq_ones h2 _ (by omega)
      have nt2 : bn_ev 106 0 [some (.int (sp_bits (sp_ho X.2.1 (sn_t X.2.1)) (sp_loaves X.2.1))), some (.int (nI (sn_u X.2.1 / sn_a X.2.1 % sn_o X.2.1))), none, none] [] h2 = some (some (.int (nI (sn_l X.2.1))), h2) := mq_nth h2 _ (by omega) hl1 (by have := Nat.mod_lt (sn_u X.2.1 / sn_a X.2.1) (Nat.pos_of_ne_zero ho); omega)
      obtain ⟨h3, e3, F3, G3⟩ := mg_sth G2 B hl2 (sn_t X.2.1)
      refine ⟨h3, ev.trans ?_, sz_now H2 F3 G3, FF.tr (F3.mono (mw_eq (by omega)))⟩
      simp only [on, on2, bn_cI, if_neg na, if_neg no, ed, er2, nt2, mg_now G2, k21, e3, Option.bind_some]
      rw [show (10 : Int32) * nI (sn_t X.2.1) = nI (10 * sn_t X.2.1) from pk_mul 10 _, nI_add]
end MD
