/-! SETS AS BITS (bx_or, bx_set began as rows of the kit's to-paste families) -/
theorem bx_or (a b : Nat) : nI a ||| nI b = nI (a ||| b) := by
  apply Int32.toBitVec_inj.mp
  show BitVec.ofNat 32 a ||| BitVec.ofNat 32 b = BitVec.ofNat 32 (a ||| b)
  apply BitVec.eq_of_toNat_eq
  simp [Nat.or_mod_two_pow]
theorem bx_shl : ∀ i, i < 31 → bn_shl 1 (nI i) = nI (2 ^ i) := by decide +kernel
theorem bx_sm : ∀ k, k < 31 → ((nI k &&& 31).toBitVec.smod 32).toNat = k := by decide +kernel
theorem bx_bit {m k : Nat} (hm : m < 2 ^ 31) (hk : k < 31) : bn_shr (nI m) (nI k) &&& 1 = sp_b (m.testBit k) := by
  unfold bn_shr
  rw [pk_shrN hm _ k (bx_sm k hk), pk_andN (n := m / 2 ^ k) (by have := Nat.div_le_self m (2 ^ k); omega) 1 (by decide), Nat.testBit_eq_decide_div_mod_eq]
  have h2 : m / 2 ^ k % 2 < 2 := Nat.mod_lt _ (by omega)
  rcases (show m / 2 ^ k % 2 = 0 ∨ m / 2 ^ k % 2 = 1 by omega) with e | e
  · simp [e, sp_b]; rfl
  · simp [e, sp_b]; rfl
def sp_gv (f : Nat → Bool) (i a : Nat) : Nat := if f i = true then a ||| 2 ^ i else a
def sp_v (f : Nat → Bool) (n : Nat) : Nat := sp_fold (sp_gv f) n 0 0
theorem sp_v_key (f : Nat → Bool) : ∀ r i a, i + r ≤ 30 → a < 2 ^ i → sp_fold (sp_g1 f) r i (nI a) = nI (sp_fold (sp_gv f) r i a) ∧ sp_fold (sp_gv f) r i a < 2 ^ (i + r) ∧ ∀ k, (sp_fold (sp_gv f) r i a).testBit k = (a.testBit k || (decide (i ≤ k ∧ k < i + r) && f k)) := by
  intro r
  induction r with
  | zero =>
    intro i a hi ha
    refine ⟨rfl, ha, fun k => ?_⟩
    have : ¬ (i ≤ k ∧ k < i + 0) := by omega
    show a.testBit k = (a.testBit k || (decide (i ≤ k ∧ k < i + 0) && f k))
    rw [decide_eq_false this]
    simp
  | succ r ih =>
    intro i a hi ha
    have hp : 2 ^ (i + 1) = 2 * 2 ^ i := by rw [Nat.pow_succ, Nat.mul_comm]
    have hlt : sp_gv f i a < 2 ^ (i + 1) := by
      unfold sp_gv
      split
      · exact Nat.or_lt_two_pow (by omega) (by omega)
      · omega
    have e1 : sp_g1 f i (nI a) = nI (sp_gv f i a) := by
      unfold sp_g1 sp_gv
      split
      · rw [bx_shl i (by omega), bx_or]
      · rfl
    obtain ⟨h1, h2, h3⟩ := ih (i + 1) (sp_gv f i a) (by omega) hlt
    refine ⟨?_, ?_, fun k => ?_⟩
    · show sp_fold (sp_g1 f) r (i + 1) (sp_g1 f i (nI a)) = _
      rw [e1]
      exact h1
    · rw [show i + (r + 1) = i + 1 + r by omega]
      exact h2
    · refine (h3 k).trans ?_
      have e2 : (sp_gv f i a).testBit k = (a.testBit k || (decide (k = i) && f k)) := by
        unfold sp_gv
        by_cases hf : f i = true
        · rw [if_pos hf, Nat.testBit_or, Nat.testBit_two_pow]
          by_cases e : k = i
          · subst e; simp [hf]
          · have : ¬ i = k := fun z => e z.symm
            simp [e, this]
        · rw [if_neg hf]
          by_cases e : k = i
          · subst e; simp [hf]
          · simp [e]
      rw [e2, Bool.or_assoc, ← Bool.and_or_distrib_right]
      congr 2
      by_cases e : k = i
      · have : i ≤ k ∧ k < i + (r + 1) := by omega
        simp [e]
      · by_cases e3 : i + 1 ≤ k ∧ k < i + 1 + r
        · have : i ≤ k ∧ k < i + (r + 1) := by omega
          simp [e, e3, this]
        · have : ¬ (i ≤ k ∧ k < i + (r + 1)) := by omega
          simp [e, e3, this]
theorem sp_bits_v (f : Nat → Bool) {n : Nat} (hn : n ≤ 10) : sp_bits f n = nI (sp_v f n) ∧ sp_v f n < 2 ^ 31 ∧ ∀ k, (sp_v f n).testBit k = (decide (k < n) && f k) := by
  obtain ⟨h1, h2, h3⟩ := sp_v_key f n 0 0 (by omega) (by decide)
  have h4 : (2 : Nat) ^ (0 + n) ≤ 2 ^ 10 := Nat.pow_le_pow_right (by omega) (by omega)
  refine ⟨h1, by unfold sp_v; omega, fun k => ?_⟩
  refine (h3 k).trans ?_
  simp
theorem sp_bits_bit (f : Nat → Bool) {n k : Nat} (hn : n ≤ 10) (hk : k < 31) : bn_shr (sp_bits f n) (nI k) &&& 1 = sp_b (decide (k < n) && f k) := by
  obtain ⟨h1, h2, h3⟩ := sp_bits_v f hn
  rw [h1, bx_bit h2 hk, h3]
theorem mq_ones (h : bn_H) (f : Nat → Bool) {n : Nat} (hn : n ≤ 10) : bn_ev 105 0 [some (.int (sp_bits f n)), none, none] [] h = some (some (.int (nI (sp_ct f n))), h) := by
  rw [bs_X3_ones_0]
  have k2 : ∀ r i (a : Int32), n ≤ i → i + r = 10 → bn_ev 105 4 [some (.int (sp_bits f n)), some (.int a), some (.int (nI i))] [] h = some (some (.int a), h) := by
    intro r
    induction r with
    | zero =>
      intro i a hni hi
      rw [bs_X3_ones_4, if_pos (show (10 : Int32) ≤ nI i from nI_le (a := 10) (by omega) (by omega))]
    | succ r ih =>
      intro i a hni hi
      have : ¬ i < n := by omega
      rw [bs_X3_ones_4, if_neg (show ¬ (10 : Int32) ≤ nI i from nI_ge (b := 10) (by omega) (by omega)), sp_bits_bit f hn (by omega), ← nI_succ]
      simp only [this, decide_false, Bool.false_and, sp_b0]
      rw [show a + 0 = a by simp]
      exact ih (i + 1) a (by omega) (by omega)
  have key : ∀ r i a, i + r = n → bn_ev 105 4 [some (.int (sp_bits f n)), some (.int (nI a)), some (.int (nI i))] [] h = some (some (.int (nI (sp_fold (sp_gc f) r i a))), h) := by
    intro r
    induction r with
    | zero =>
      intro i a hi
      exact k2 (10 - i) i (nI a) (by omega) (by omega)
    | succ r ih =>
      intro i a hi
      have hin : i < n := by omega
      have fs : sp_fold (sp_gc f) (r + 1) i a = sp_fold (sp_gc f) r (i + 1) (sp_gc f i a) := rfl
      rw [bs_X3_ones_4, if_neg (show ¬ (10 : Int32) ≤ nI i from nI_ge (b := 10) (by omega) (by omega)), sp_bits_bit f hn (by omega), ← nI_succ, fs]
      have e : nI a + sp_b (decide (i < n) && f i) = nI (sp_gc f i a) := by
        simp only [hin, decide_true, Bool.true_and]
        unfold sp_gc
        cases f i with
        | true => exact (nI_succ a).symm
        | false => show nI a + 0 = nI a; simp
      rw [e]
      exact ih (i + 1) (sp_gc f i a) (by omega)
  exact key n 0 0 (by omega)
theorem mq_nth (h : bn_H) (f : Nat → Bool) {n k j : Nat} (hn : n ≤ 10) (hj : sp_at f n 0 k = some j) (hk : k < 2 ^ 30) : bn_ev 106 0 [some (.int (sp_bits f n)), some (.int (nI k)), none, none] [] h = some (some (.int (nI j)), h) := by
  rw [bs_X3_nth_0]
  have key : ∀ r i left, i + r = n → left < 2 ^ 30 → sp_at f r i left = some j → bn_ev 106 4 [some (.int (sp_bits f n)), some (.int (nI k)), some (.int (nI i)), some (.int (nI left))] [] h = some (some (.int (nI j)), h) := by
    intro r
    induction r with
    | zero => intro i left hi hl ha; cases ha
    | succ r ih =>
      intro i left hi hl ha
      have hin : i < n := by omega
      have eb := sp_bits_bit f hn (show i < 31 by omega)
      simp only [hin, decide_true, Bool.true_and] at eb
      have e0 : ((0 : Int32) < nI left) = (0 < left) := sp_lt (a := 0) (by decide) (by omega)
      rw [bs_X3_nth_4, bs_X3_nth_16, eb, ← nI_succ]
      simp only [e0, sp_b_eq0]
      simp only [sp_at] at ha
      cases hf : f i with
      | false =>
        rw [hf] at ha
        have ha : sp_at f r (i + 1) left = some j := by simpa using ha
        have e1 : nI left - sp_b false = nI left := by show nI left - 0 = nI left; simp
        rw [e1, ih (i + 1) left (by omega) hl ha]
        simp
      | true =>
        rw [hf] at ha
        cases left with
        | zero =>
          have ha : some i = some j := by simpa using ha
          cases ha
          rw [if_neg (by omega), if_neg (by decide)]
        | succ left =>
          have ha : sp_at f r (i + 1) left = some j := by simpa using ha
          have e1 : nI (left + 1) - sp_b true = nI left := nI_pred left
          rw [if_pos (by omega), e1]
          exact ih (i + 1) left (by omega) (by omega) ha
  exact key n 0 k (by omega) hk hj
