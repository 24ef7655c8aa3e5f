/-! CHANCES -/
theorem lg_0 {a : Nat} (ha : a < 2 ^ 63) : (lg_cmp (lN a) 0 = 0) = (a = 0) := by
  apply propext
  have e0 : (0 : Int64) = lN 0 := rfl
  constructor
  · intro h
    rcases Nat.eq_zero_or_pos a with q | q
    · exact q
    · have h1 : (0 : Int64) < lN a := by rw [e0, pk_lLT (by omega) ha]; exact q
      simp [lg_cmp, h1] at h
  · intro h
    subst h
    decide
theorem eu_key : ∀ (k r a b : Nat), k < r → a * b < 2 ^ k → b ≤ a → a < 2 ^ 62 → ∀ (F : Nat → Nat → Nat → Nat), (∀ r a b, F (r + 1) a b = if b = 0 then a else F r b (a % b)) → F r a b = Nat.gcd a b := by
  intro k
  induction k with
  | zero =>
    intro r a b hr hab hba ha F hF
    obtain ⟨r, rfl⟩ := Nat.exists_eq_add_of_lt hr
    have : b = 0 := by
      rcases Nat.eq_zero_or_pos b with q | q
      · exact q
      · have : 1 ≤ a * b := Nat.mul_pos (by omega) q
        simp at hab
        omega
    subst this
    rw [show 0 + r + 1 = r + 1 by omega, hF, if_pos rfl, Nat.gcd_zero_right]
  | succ k ih =>
    intro r a b hr hab hba ha F hF
    obtain ⟨r', rfl⟩ := Nat.exists_eq_add_of_lt hr
    rw [hF]
    by_cases hb : b = 0
    · subst hb
      rw [if_pos rfl, Nat.gcd_zero_right]
    · rw [if_neg hb]
      have hb0 : 0 < b := Nat.pos_of_ne_zero hb
      have h1 : a % b < b := Nat.mod_lt _ hb0
      have h2 : 2 * (a % b) ≤ a := by
        have := Nat.div_add_mod a b
        have h3 : 1 ≤ a / b := Nat.div_pos hba hb0
        have h4 : b ≤ b * (a / b) := Nat.le_mul_of_pos_right b h3
        omega
      have h5 : b * (a % b) < 2 ^ k := by
        have h6 : b * (2 * (a % b)) ≤ b * a := Nat.mul_le_mul_left b h2
        have h7 : b * (2 * (a % b)) = 2 * (b * (a % b)) := by rw [Nat.mul_left_comm]
        have h8 : b * a = a * b := Nat.mul_comm b a
        have h9 : 2 ^ (k + 1) = 2 * 2 ^ k := by rw [Nat.pow_succ, Nat.mul_comm]
        omega
      rw [ih (k + 1 + r') b (a % b) (by omega) h5 (by omega) (by omega) F hF]
      rw [Nat.gcd_comm a b, Nat.gcd_comm b (a % b), ← Nat.gcd_rec]
def eu (r a b : Nat) : Nat := match r with
  | 0 => a
  | r + 1 => if b = 0 then a else eu r b (a % b)
theorem eu_ok {a b : Nat} (ha : a < 2 ^ 60) (hb : b < 2 ^ 60) : eu 200 a b = Nat.gcd a b := by
  have hF : ∀ r a b, eu (r + 1) a b = if b = 0 then a else eu r b (a % b) := fun r a b => rfl
  by_cases hab : b ≤ a
  · have h1 : a * b < 2 ^ 120 := by
      have : a * b < 2 ^ 60 * 2 ^ 60 := Nat.mul_lt_mul'' ha hb
      calc a * b < 2 ^ 60 * 2 ^ 60 := this
        _ = 2 ^ 120 := by decide
    exact eu_key 120 200 a b (by omega) h1 hab (by omega) eu hF
  · rw [hF 199, if_neg (by omega), Nat.mod_eq_of_lt (by omega)]
    have h1 : b * a < 2 ^ 120 := by
      have : b * a < 2 ^ 60 * 2 ^ 60 := Nat.mul_lt_mul'' hb ha
      calc b * a < 2 ^ 60 * 2 ^ 60 := this
        _ = 2 ^ 120 := by decide
    rw [eu_key 120 199 b a (by omega) h1 (by omega) (by omega) eu hF, Nat.gcd_comm]
theorem sq_gcd (h : bn_H) {a b : Nat} (ha : a < 2 ^ 60) (hb : b < 2 ^ 60) : bn_ev 75 0 [some (.long (lN a)), none, some (.long (lN b)), none, none, none, none] [] h = some (some (.long (lN (Nat.gcd a b))), h) := by
  rw [bs_X2_greatestDivisor_0, ← eu_ok ha hb]
  have key : ∀ r k a b o o', k + r = 200 → a < 2 ^ 60 → b < 2 ^ 60 → bn_ev 75 3 [some (.long (lN a)), none, some (.long (lN b)), none, some (.int (nI k)), o, o'] [] h = some (some (.long (lN (eu r a b))), h) := by
    intro r
    induction r with
    | zero =>
      intro k a b o o' hk ha hb
      rw [bs_X2_greatestDivisor_3, if_pos (show (200 : Int32) ≤ nI k from nI_le (a := 200) (by omega) (by omega))]
      rfl
    | succ r ih =>
      intro k a b o o' hk ha hb
      rw [bs_X2_greatestDivisor_3, if_neg (show ¬ (200 : Int32) ≤ nI k from nI_ge (b := 200) (by omega) (by omega))]
      have e0 : (lN b = 0) = (b = 0) := propext (pk_lEQ (b := 0) (by omega) (by decide))
      simp only [lg_0 (show b < 2 ^ 63 by omega), e0, eu]
      by_cases q : b = 0
      · rw [if_pos q, if_pos q]
      · have er : bn_lrem (lN a) (lN b) = lN (a % b) := pk_lRem (by omega) (Nat.pos_of_ne_zero q) (by omega)
        have hm := Nat.mod_lt a (Nat.pos_of_ne_zero q)
        rw [if_neg q, if_neg q, if_neg q, er, ← nI_succ]
        exact ih (k + 1) b (a % b) _ _ (by omega) hb (by omega)
  exact key 200 0 a b none none (by omega) ha hb
def ch_part (a b : Nat) (up : Int32) : Nat := if up = 0 then b / Nat.gcd a b else a / Nat.gcd a b
theorem sq_part (h : bn_H) {a b : Nat} (ha : a < 2 ^ 60) (hb : b < 2 ^ 60) (b0 : 0 < b) (up : Int32) : bn_ev 74 0 [some (.long (lN a)), none, some (.long (lN b)), none, some (.int up), none, none] [] h = some (some (.long (lN (ch_part a b up))), h) := by
  rw [bs_X2_partInLeastTerms_0, sq_gcd h ha hb]
  have hg : 0 < Nat.gcd a b := Nat.gcd_pos_of_pos_right _ b0
  have hg2 : Nat.gcd a b ≤ b := Nat.gcd_le_right _ b0
  have e0 : (lN (Nat.gcd a b) = 0) = (Nat.gcd a b = 0) := propext (pk_lEQ (b := 0) (by omega) (by decide))
  simp only [bn_cJ, lg_0 (show Nat.gcd a b < 2 ^ 63 by omega), e0]
  rw [if_neg (by omega)]
  unfold ch_part
  rw [show lN b / lN (Nat.gcd a b) = lN (b / Nat.gcd a b) from pk_lDiv (by omega) hg (by omega), show lN a / lN (Nat.gcd a b) = lN (a / Nat.gcd a b) from pk_lDiv (by omega) hg (by omega)]
  split
  · rw [if_neg (by omega)]
  · rw [if_neg (by omega)]
def ch_cut (v x : Nat) (u a : Nat) : Nat := if sp_nine u = true ∧ sp_cut u = v then a + x else a
def ch_were (v n x : Nat) : Nat := sp_fold (ch_cut v x) n 1 0
def ch_have (v n x : Nat) : Nat := ch_were v n x + (if v ≤ n then (if sp_nine v = true then 10 - x else 10) else 0)
def ca_forged (v n x up : Int32) : Int32 := if 1 ≤ v.toInt ∧ v.toInt ≤ 99 ∧ 1 ≤ n.toInt ∧ n.toInt ≤ 99 ∧ 0 ≤ x.toInt ∧ x.toInt ≤ 10 then (if ch_have v.toNatClampNeg n.toNatClampNeg x.toNatClampNeg = 0 then -3 else nI (ch_part (ch_were v.toNatClampNeg n.toNatClampNeg x.toNatClampNeg) (ch_have v.toNatClampNeg n.toNatClampNeg x.toNatClampNeg) up)) else -2
theorem ch_were_le (v x : Nat) (hx : x ≤ 10) : ∀ r u a, sp_fold (ch_cut v x) r u a ≤ a + 10 * r := by
  intro r
  induction r with
  | zero => intro u a; exact Nat.le_refl _
  | succ r ih =>
    intro u a
    show sp_fold (ch_cut v x) r (u + 1) (ch_cut v x u a) ≤ _
    have := ih (u + 1) (ch_cut v x u a)
    have h2 : ch_cut v x u a ≤ a + 10 := by unfold ch_cut; split <;> omega
    omega
theorem cq_forged (h : bn_H) (v n x up : Int32) : bn_ev 64 0 [some (.ref 0), some (.int v), some (.int n), some (.int x), some (.int up), none, none] [] h = some (some (.int (ca_forged v n x up)), h) := by
  rw [bs_X2_forged_0]
  have i1 : ∀ y : Int32, (y < 1) = (y.toInt < 1) := fun y => by rw [Int32.lt_iff_toInt_lt]; rfl
  have i2 : ∀ y : Int32, (99 < y) = (99 < y.toInt) := fun y => by rw [Int32.lt_iff_toInt_lt]; rfl
  have i3 : ∀ y : Int32, (y < 0) = (y.toInt < 0) := fun y => by rw [Int32.lt_iff_toInt_lt]; rfl
  have i4 : ∀ y : Int32, (y ≤ 10) = (y.toInt ≤ 10) := fun y => by rw [Int32.le_iff_toInt_le]; rfl
  simp only [i1, i2, i3, i4]
  unfold ca_forged
  by_cases hc : 1 ≤ v.toInt ∧ v.toInt ≤ 99 ∧ 1 ≤ n.toInt ∧ n.toInt ≤ 99 ∧ 0 ≤ x.toInt ∧ x.toInt ≤ 10
  · obtain ⟨c1, c2, c3, c4, c5, c6⟩ := hc
    rw [if_neg (by omega), if_neg (by omega), if_neg (by omega), if_neg (by omega), if_neg (by omega), if_pos c6, if_pos ⟨c1, c2, c3, c4, c5, c6⟩]
    obtain ⟨v, hv, rfl⟩ := vp_in_of (x := v) (n := 100) (vp_in_iff.mpr ⟨by omega, by omega⟩) (by omega)
    obtain ⟨n, hn, rfl⟩ := vp_in_of (x := n) (n := 100) (vp_in_iff.mpr ⟨by omega, by omega⟩) (by omega)
    obtain ⟨x, hx, rfl⟩ := vp_in_of (x := x) (n := 11) (vp_in_iff.mpr ⟨by omega, by omega⟩) (by omega)
    rw [nI_toInt (by omega)] at c1 c2 c3 c4 c5 c6
    rw [nI_clamp (by omega), nI_clamp (by omega), nI_clamp (by omega)]
    have wle := ch_were_le v x (by omega)
    have e106 : ∀ a6 a5 : Nat, a5 < 2000 → a6 < 2000 → bn_ev 64 106 [some (.ref 0), some (.int (nI v)), some (.int (nI n)), some (.int (nI x)), some (.int up), some (.int (nI a5)), some (.int (nI a6))] [] h = some (some (.int (if a6 = 0 then -3 else nI (ch_part a5 a6 up))), h) := by
      intro a6 a5 h5 h6
      rw [bs_X2_forged_106, sp_if0 (by omega)]
      by_cases q : a6 = 0
      · rw [if_pos q, if_pos q]
      · rw [if_neg q, if_neg q, nI_l (by omega), nI_l (by omega), sq_part h (by omega) (by omega) (by omega)]
        simp only [bn_cJ]
        rw [lN_i]
    have key : ∀ r u a, u + r = n + 1 → a + 10 * r < 1500 → bn_ev 64 41 [some (.ref 0), some (.int (nI v)), some (.int (nI n)), some (.int (nI x)), some (.int up), some (.int (nI a)), some (.int (nI u))] [] h = some (some (.int (if sp_fold (ch_cut v x) r u a + (if v ≤ n then (if sp_nine v = true then 10 - x else 10) else 0) = 0 then -3 else nI (ch_part (sp_fold (ch_cut v x) r u a) (sp_fold (ch_cut v x) r u a + (if v ≤ n then (if sp_nine v = true then 10 - x else 10) else 0)) up))), h) := by
      intro r
      induction r with
      | zero =>
        intro u a hu ha
        rw [bs_X2_forged_41, sp_iflt (by omega) (by omega), if_pos (by omega), sp_iflt (by omega) (by omega)]
        show _ = some (some (Value.int (if a + _ = 0 then -3 else nI (ch_part a (a + _) up))), h)
        by_cases q : n < v
        · rw [if_pos q, e106 a a (by omega) (by omega), if_neg (show ¬ v ≤ n by omega)]
          rfl
        · rw [if_neg q, sq_nine h (by omega)]
          simp only [bn_cI, sp_b_eq0]
          rw [if_pos (show v ≤ n by omega)]
          cases h9 : sp_nine v with
          | true =>
            rw [if_neg (by decide), if_pos rfl, show (10 : Int32) - nI x = nI (10 - x) from pk_sub (a := 10) (by omega), nI_add, e106 (a + (10 - x)) a (by omega) (by omega)]
          | false =>
            rw [if_pos rfl, if_neg (show ¬ (false = true) by decide), show nI a + 10 = nI (a + 10) from nI_add a 10, e106 (a + 10) a (by omega) (by omega)]
      | succ r ih =>
        intro u a hu ha
        have ev := bs_X2_forged_41 0 (nI v) (nI n) (nI x) up (nI a) (nI u) h
        rw [sp_iflt (by omega) (by omega), if_neg (by omega), sq_nine h (by omega)] at ev
        simp only [bn_cI, sp_b_eq0] at ev
        have fs : sp_fold (ch_cut v x) (r + 1) u a = sp_fold (ch_cut v x) r (u + 1) (ch_cut v x u a) := rfl
        rw [fs]
        have hcle : ch_cut v x u a ≤ a + 10 := by unfold ch_cut; split <;> omega
        refine Eq.trans ?_ (ih (u + 1) (ch_cut v x u a) (by omega) (by omega))
        rw [ev, ← nI_succ]
        cases h9 : sp_nine u with
        | false =>
          have : ch_cut v x u a = a := by unfold ch_cut; rw [if_neg (fun z => by rw [h9] at z; exact absurd z.1 (by decide))]
          rw [if_pos rfl, this]
        | true =>
          obtain ⟨ec, hcut⟩ := sq_whenCut h (show u ≤ 99 by omega) h9
          rw [if_neg (by decide), ec]
          dsimp only
          rw [sp_ifeq (by omega) (by omega)]
          by_cases q : sp_cut u = v
          · have : ch_cut v x u a = a + x := by unfold ch_cut; rw [if_pos ⟨h9, q⟩]
            rw [if_pos q, this, nI_add]
          · have : ch_cut v x u a = a := by unfold ch_cut; rw [if_neg (fun z => q z.2)]
            rw [if_neg q, this]
    exact key n 1 0 (by omega) (by omega)
  · rw [if_neg hc]
    by_cases c1 : v.toInt < 1
    · rw [if_pos c1]
    · rw [if_neg c1]
      by_cases c2 : 99 < v.toInt
      · rw [if_pos c2]
      · rw [if_neg c2]
        by_cases c3 : n.toInt < 1
        · rw [if_pos c3]
        · rw [if_neg c3]
          by_cases c4 : 99 < n.toInt
          · rw [if_pos c4]
          · rw [if_neg c4]
            by_cases c5 : x.toInt < 0
            · rw [if_pos c5]
            · rw [if_neg c5, if_neg (by omega)]
def ch_days (S : sp_S) : Nat := match sp_days 200 1 S with
  | none => 199
  | some q => q.1 - 1
def ch_k (S : sp_S) : Nat := min (ch_days S) 18
def ca_help (S : sp_S) (x up : Int32) : Int64 := if 0 ≤ x.toInt ∧ x.toInt ≤ 10 then (if sn_a S = 0 then -3 else lN (ch_part (10 ^ ch_k S - (10 - x.toNatClampNeg) ^ ch_k S) (10 ^ ch_k S) up)) else -2
theorem cq_help {h : bn_H} {X : ct_X} (H : cw h X) (hB : ct_B X) (x up : Int32) : ∃ h', bn_ev 65 0 [some (.ref 0), some (.int x), some (.int up), none, none, none, none, none, none, none] [] h = some (some (.long (ca_help X.2.1 x up)), h') ∧ cw h' X ∧ sg_F cw_P h h' := by
  obtain ⟨f, c, O, -⟩ := H.O
  have G := H.G
  have B := hB.2.2.1
  have e0 := bs_X2_help_0 0 x up h
  have i3 : (x < 0) = (x.toInt < 0) := by rw [Int32.lt_iff_toInt_lt]; rfl
  have i4 : (x ≤ 10) = (x.toInt ≤ 10) := by rw [Int32.le_iff_toInt_le]; rfl
  simp only [i3, i4] at e0
  unfold ca_help
  by_cases hc : 0 ≤ x.toInt ∧ x.toInt ≤ 10
  · rw [if_neg (by omega), if_pos hc.2] at e0
    rw [if_pos hc]
    have ec : bn_ev 11 0 [some (.ref 3)] [] h = some (some (.int (nI (sn_a X.2.1))), h) := sq_aliveCount G B
    have ale : sn_a X.2.1 ≤ sp_people X.2.1 := sp_ct_le _ _
    have hpp := B.2.2.2.1
    simp only [co_now O, sg_isC G, ec, bn_gd, bn_cI, if_true, sp_if0 (show sn_a X.2.1 < 2 ^ 31 by omega)] at e0
    by_cases h0 : sn_a X.2.1 = 0
    · rw [if_pos h0] at e0
      rw [if_pos h0]
      exact ⟨h, e0, H, sg_F.rf⟩
    · rw [if_neg h0] at e0
      rw [if_neg h0]
      obtain ⟨h1, e1, H1, -, F1⟩ := cq_days H hB
      rw [co_C O, e1] at e0
      simp only [if_true] at e0
      obtain ⟨x, hx, rfl⟩ := vp_in_of (x := x) (n := 11) (vp_in_iff.mpr ⟨by omega, by omega⟩) (by omega)
      have hd : (if ca_lasts X.2.1 = (-9) then (199 : Int32) else ca_lasts X.2.1 - 1) = nI (ch_days X.2.1) ∧ ch_days X.2.1 < 200 := by
        have hl : ca_lasts X.2.1 = match sp_days 200 1 X.2.1 with
          | none => -9
          | some q => nI q.1 := by unfold ca_lasts; rw [if_neg (show ¬ sp_ct (sp_al X.2.1) (sp_people X.2.1) = 0 from h0)]; cases sp_days 200 1 X.2.1 <;> rfl
        unfold ch_days
        rw [hl]
        cases hq : sp_days 200 1 X.2.1 with
        | none => exact ⟨rfl, by decide⟩
        | some q =>
          have := sp_days_le _ _ _ _ hq
          dsimp only
          have hne : ¬ nI q.1 = (-9 : Int32) := by
            intro z
            have h1 := nI_pos (n := q.1) (by omega)
            rw [z] at h1
            exact h1 (by decide)
          rw [if_neg hne]
          exact ⟨pk_sub (b := 1) (by omega), by omega⟩
      obtain ⟨hd1, hd2⟩ := hd
      rw [hd1] at e0
      have key : ∀ r k, k + r = ch_k X.2.1 → bn_ev 65 59 [some (.ref 0), some (.int (nI x)), some (.int up), some (.int (ca_lasts X.2.1)), some (.int (nI (ch_days X.2.1))), some (.long (lN (10 ^ k))), none, some (.long (lN ((10 - x) ^ k))), none, some (.int (nI k))] [] h1 = some (some (.long (lN (ch_part (10 ^ ch_k X.2.1 - (10 - x) ^ ch_k X.2.1) (10 ^ ch_k X.2.1) up))), h1) := by
        intro r
        induction r with
        | zero =>
          intro k hk
          have hk : k = ch_k X.2.1 := by omega
          subst hk
          have k18 : ch_k X.2.1 ≤ 18 := Nat.min_le_right _ _
          have p1 : 10 ^ ch_k X.2.1 ≤ 10 ^ 18 := Nat.pow_le_pow_right (by omega) k18
          have p2 : (10 - x) ^ ch_k X.2.1 ≤ 10 ^ ch_k X.2.1 := Nat.pow_le_pow_left (by omega) _
          have p3 : 0 < 10 ^ ch_k X.2.1 := Nat.pow_pos (by omega)
          have p4 : 10 ^ 18 < 2 ^ 60 := by decide
          have ep := sq_part h1 (a := 10 ^ ch_k X.2.1 - (10 - x) ^ ch_k X.2.1) (b := 10 ^ ch_k X.2.1) (by omega) (by omega) p3 up
          rw [bs_X2_help_59, sp_ifle (by omega) (by omega), lN_sub p2, ep, show (18 : Int32) = nI 18 from rfl, sp_ifle (by omega) (by omega)]
          simp only [bn_cJ]
          by_cases q : ch_days X.2.1 ≤ ch_k X.2.1
          · rw [if_pos q]
          · rw [if_neg q, if_pos (by unfold ch_k at q ⊢; omega)]
        | succ r ih =>
          intro k hk
          have hk1 : k < ch_days X.2.1 ∧ k < 18 := by unfold ch_k at hk; omega
          have e10 : (10 - nI x : Int32).toInt64 = lN (10 - x) := by rw [show (10 : Int32) - nI x = nI (10 - x) from pk_sub (a := 10) (by omega), nI_l (by omega)]
          rw [bs_X2_help_59, sp_ifle (by omega) (by omega), if_neg (by omega), show (18 : Int32) = nI 18 from rfl, sp_ifle (by omega) (by omega), if_neg (by omega), e10, show lN (10 ^ k) * 10 = lN (10 ^ k * 10) from lN_mul _ 10, lN_mul, ← Nat.pow_succ, ← Nat.pow_succ, ← nI_succ]
          exact ih (k + 1) (by omega)
      have := key (ch_k X.2.1) 0 (by omega)
      refine ⟨h1, ?_, H1, F1⟩
      rw [nI_clamp (by omega)]
      exact e0.trans this
  · rw [if_neg hc]
    by_cases c5 : x.toInt < 0
    · rw [if_pos c5] at e0
      exact ⟨h, e0, H, sg_F.rf⟩
    · rw [if_neg c5, if_neg (by omega)] at e0
      exact ⟨h, e0, H, sg_F.rf⟩
