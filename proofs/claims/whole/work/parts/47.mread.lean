/-! THE MODEL READS A TEXT: figures, free numbers, a loaf -/
theorem sp_any_iff {f : Nat → Bool} : ∀ r i, sp_any f r i = true ↔ ∃ k, i ≤ k ∧ k < i + r ∧ f k = true := by
  intro r
  induction r with
  | zero =>
    intro i
    constructor
    · intro e; exact absurd (show false = true from e) (by decide)
    · rintro ⟨k, a, b, -⟩; omega
  | succ r ih =>
    intro i
    show (f i || sp_any f r (i + 1)) = true ↔ _
    rw [Bool.or_eq_true, ih (i + 1)]
    constructor
    · rintro (e | ⟨k, a, b, c⟩)
      · exact ⟨i, Nat.le_refl _, by omega, e⟩
      · exact ⟨k, by omega, by omega, c⟩
    · rintro ⟨k, a, b, c⟩
      by_cases q : k = i
      · subst q; exact Or.inl c
      · exact Or.inr ⟨k, by omega, by omega, c⟩
theorem bx_and (a b : Nat) : nI a &&& nI b = nI (a &&& b) := by
  apply Int32.toBitVec_inj.mp
  show BitVec.ofNat 32 a &&& BitVec.ofNat 32 b = BitVec.ofNat 32 (a &&& b)
  apply BitVec.eq_of_toNat_eq
  simp [Nat.and_mod_two_pow]
theorem bx_clr0 : ∀ d, d < 10 → nI 1023 &&& ((bn_shl 1 (nI d)) ^^^ (-1)) = nI (1023 - 2 ^ d) := by decide +kernel
theorem bx_clr {m d : Nat} (hm : m < 1024) (hd : d < 10) : nI m &&& ((bn_shl 1 (nI d)) ^^^ (-1)) = nI (m &&& (1023 - 2 ^ d)) := by
  have e : nI m &&& nI 1023 = nI m := by
    rw [bx_and, show m &&& 1023 = m % 2 ^ 10 from Nat.and_two_pow_sub_one_eq_mod m 10, Nat.mod_eq_of_lt hm]
  calc nI m &&& ((bn_shl 1 (nI d)) ^^^ (-1)) = (nI m &&& nI 1023) &&& ((bn_shl 1 (nI d)) ^^^ (-1)) := by rw [e]
    _ = nI m &&& (nI 1023 &&& ((bn_shl 1 (nI d)) ^^^ (-1))) := Int32.and_assoc _ _ _
    _ = nI (m &&& (1023 - 2 ^ d)) := by rw [bx_clr0 d hd, bx_and]
theorem bx_tb : ∀ d, d < 10 → ∀ u, u < 10 → (1023 - 2 ^ d).testBit u = !decide (u = d) := by decide +kernel
theorem bx_22 : ∀ u, u < 10 → (1022).testBit u = decide (1 ≤ u) := by decide +kernel
theorem bx_23 : ∀ u, u < 10 → (1023).testBit u = true := by decide +kernel
theorem up_e {α : Type} {f : Nat → α} {k : Nat} {x : α} : va_up f k x k = x := if_pos rfl
theorem up_n {α : Type} {f : Nat → α} {k j : Nat} {x : α} (h : j ≠ k) : va_up f k x j = f j := if_neg h
theorem n2 (a : Nat) : nI a + 2 = nI (a + 2) := nI_add a 2
theorem n3 (a : Nat) : nI a + 3 = nI (a + 3) := nI_add a 3
theorem n4 (a : Nat) : nI a + 4 = nI (a + 4) := nI_add a 4
/-- of a first figure, the second ones that are free -/
theorem mq_free {h : bn_H} {fi : Nat → Int32} {s : Int64} {N : Nat → Int32} {S : sp_S} (O : mo h fi s) (A : sg_A h 223 0 71 N) (B : sp_B S) (h5 : fi 5 = nI (sp_loaves S)) (hN : ∀ l, l < sp_loaves S → N (20 + 5 * l) = nI (sp_num S l)) {t : Nat} (ht : t ≤ 9) : bn_ev 81 0 [some (.ref 222), some (.int (nI t)), none, none, none] [] h = some (some (.int (sp_bits (fun u => sr_free S (10 * t + u)) 10)), h) := by
  obtain ⟨b_law, ⟨b_l1, b_lv⟩, ⟨b_b1, b_bd⟩, b_pp, b_lo, b_fa, b_at, b_nu, b_ho, b_ag⟩ := id B
  have key : ∀ r i m o, i + r = sp_loaves S → m < 1024 → (∀ u, m.testBit u = true ↔ u < 10 ∧ 1 ≤ 10 * t + u ∧ ∀ l, l < i → sp_num S l ≠ 10 * t + u) → bn_ev 81 16 [some (.ref 222), some (.int (nI t)), some (.int (nI m)), some (.int (nI i)), o] [] h = some (some (.int (sp_bits (fun u => sr_free S (10 * t + u)) 10)), h) := by
    intro r
    induction r with
    | zero =>
      intro i m o hi hm hb
      rw [bs_X3_free_16, mo_i5 O, h5, if_pos (nI_le (by omega) (by omega))]
      obtain ⟨e1, e2, e3⟩ := sp_bits_v (fun u => sr_free S (10 * t + u)) (n := 10) (by omega)
      have hv : m = sp_v (fun u => sr_free S (10 * t + u)) 10 := by
        apply Nat.eq_of_testBit_eq
        intro u
        rw [e3 u]
        apply Bool.eq_iff_iff.mpr
        rw [hb u]
        simp only [Bool.and_eq_true, decide_eq_true_eq, sr_free, Bool.not_eq_true']
        have ht : sp_told S (10 * t + u) = false ↔ ∀ l, l < i → sp_num S l ≠ 10 * t + u := by
          rw [← Bool.not_eq_true]
          unfold sp_told
          rw [sp_any_iff]
          constructor
          · intro a l hl e
            exact a ⟨l, Nat.zero_le _, by omega, by simpa using e⟩
          · rintro a ⟨l, -, b, c⟩
            exact a l (by omega) (by simpa using c)
        rw [ht]
      rw [e1, ← hv]
    | succ r ih =>
      intro i m o hi hm hb
      have hn := b_nu i
      have e20 : (20 : Int32) + 5 * nI i = nI (20 + 5 * i) := k5 i
      rw [bs_X3_free_16, mo_i5 O, h5, if_neg (nI_ge (by omega) (by omega)), mo_r0 O, e20, A.ld (by omega) (by omega), Option.bind_some, hN i (by omega), n1]
      have ed : nI (sp_num S i) / 10 = nI (sp_num S i / 10) := pk_div (d := 10) (by omega) (by omega) (by omega)
      have er : bn_rem (nI (sp_num S i)) 10 = nI (sp_num S i % 10) := pk_rem (d := 10) (by omega) (by omega) (by omega)
      rw [ed, er, sp_ifeq (by omega) (by omega)]
      by_cases q : sp_num S i / 10 = t
      · rw [if_pos q, bx_clr hm (Nat.mod_lt _ (by omega))]
        apply ih (i + 1) _ _ (by omega) (Nat.lt_of_le_of_lt Nat.and_le_left hm)
        intro u
        rw [Nat.testBit_and, Bool.and_eq_true, hb u]
        constructor
        · rintro ⟨⟨a, b, c⟩, d⟩
          refine ⟨a, b, fun l hl e => ?_⟩
          by_cases g : l = i
          · subst g
            rw [bx_tb _ (Nat.mod_lt _ (by omega)) u a] at d
            have : u = sp_num S l % 10 := by omega
            simp [this] at d
          · exact c l (by omega) e
        · rintro ⟨a, b, c⟩
          refine ⟨⟨a, b, fun l hl => c l (by omega)⟩, ?_⟩
          rw [bx_tb _ (Nat.mod_lt _ (by omega)) u a]
          have : ¬ u = sp_num S i % 10 := fun z => c i (by omega) (by omega)
          simp [this]
      · have em : nI m &&& (-1) = nI m := by rw [pk_andN (n := m) (by omega) 32 (by decide), Nat.mod_eq_of_lt (by omega)]
        rw [if_neg q, em]
        apply ih (i + 1) _ _ (by omega) hm
        intro u
        rw [hb u]
        constructor
        · rintro ⟨a, b, c⟩
          refine ⟨a, b, fun l hl e => ?_⟩
          by_cases g : l = i
          · subst g; omega
          · exact c l (by omega) e
        · rintro ⟨a, b, c⟩
          exact ⟨a, b, fun l hl => c l (by omega)⟩
  rw [bs_X3_free_0, sp_if0 (by omega)]
  by_cases q : t = 0
  · rw [if_pos q]
    refine key (sp_loaves S) 0 1022 none (by omega) (by omega) (fun u => ?_)
    constructor
    · intro e
      by_cases u10 : u < 10
      · rw [bx_22 u u10, decide_eq_true_eq] at e
        exact ⟨u10, by omega, fun l hl => by omega⟩
      · rw [Nat.testBit_lt_two_pow (Nat.lt_of_lt_of_le (show 1022 < 2 ^ 10 by decide) (Nat.pow_le_pow_right (by omega) (by omega)))] at e
        exact absurd e (by decide)
    · rintro ⟨a, b, -⟩
      rw [bx_22 u a, decide_eq_true_eq]
      omega
  · rw [if_neg q]
    refine key (sp_loaves S) 0 1023 none (by omega) (by omega) (fun u => ?_)
    constructor
    · intro e
      by_cases u10 : u < 10
      · exact ⟨u10, by omega, fun l hl => by omega⟩
      · rw [Nat.testBit_lt_two_pow (Nat.lt_of_lt_of_le (show 1023 < 2 ^ 10 by decide) (Nat.pow_le_pow_right (by omega) (by omega)))] at e
        exact absurd e (by decide)
    · rintro ⟨a, b, -⟩
      exact bx_23 u a
/-- a figure: its value; the fault, the place behind it -/
def mf (T : Nat × (Nat → Nat)) (A : Nat → Bool) (f : Option Nat) (pos : Nat) : Nat × (Option Nat × Nat) := match f with
  | some q => (0, some q, pos)
  | none => if pos < T.1 ∧ 48 ≤ T.2 pos ∧ T.2 pos ≤ 57 ∧ A (T.2 pos - 48) = true then (T.2 pos - 48, none, pos + 1) else (0, some pos, pos)
def mz (h : bn_H) (fi : Nat → Int32) (s : Int64) (T : Nat × (Nat → Nat)) (f : Option Nat) (pos : Nat) : Prop := mo h fi s ∧ (fi 14 = nI T.1 ∧ fi 15 = nI pos ∧ fi 16 = sp_o f) ∧ sg_A h 225 0 80 (fun j => nI (T.2 j)) ∧ (T.1 ≤ 80 ∧ (∀ j, T.2 j < 256) ∧ pos ≤ T.1 ∧ ∀ q, f = some q → q ≤ 80)
theorem mf_le (T : Nat × (Nat → Nat)) (A : Nat → Bool) (f : Option Nat) (pos : Nat) : (mf T A f pos).1 ≤ 9 := by
  unfold mf
  cases f with
  | some q => exact Nat.zero_le _
  | none =>
    dsimp only
    split
    · rename_i q; show T.2 pos - 48 ≤ 9; omega
    · exact Nat.zero_le _
theorem mf_dig (T : Nat × (Nat → Nat)) (A : Nat → Bool) (pos : Nat) : mf T A none pos = match sr_dig T pos with
    | none => (0, some pos, pos)
    | some d => if A d = true then (d, none, pos + 1) else (0, some pos, pos) := by
  unfold mf sr_dig
  dsimp only
  by_cases c : pos < T.1 ∧ 48 ≤ T.2 pos ∧ T.2 pos ≤ 57
  · rw [if_pos c]
    dsimp only
    by_cases a : A (T.2 pos - 48) = true
    · rw [if_pos a, if_pos ⟨c.1, c.2.1, c.2.2, a⟩]
    · rw [if_neg a, if_neg (fun z => a z.2.2.2)]
  · rw [if_neg c, if_neg (fun z => c ⟨z.1, z.2.1, z.2.2.1⟩)]
theorem mf_fig (T : Nat × (Nat → Nat)) (lo hi pos : Nat) : mf T (fun d => decide (lo ≤ d ∧ d ≤ hi)) none pos = match sr_fig T pos lo hi with
    | none => (0, some pos, pos)
    | some d => (d, none, pos + 1) := by
  unfold mf sr_fig
  dsimp only
  by_cases c : pos < T.1 ∧ 48 ≤ T.2 pos ∧ T.2 pos ≤ 57 ∧ lo ≤ T.2 pos - 48 ∧ T.2 pos - 48 ≤ hi
  · rw [if_pos c, if_pos ⟨c.1, c.2.1, c.2.2.1, decide_eq_true c.2.2.2⟩]
  · rw [if_neg c, if_neg (fun z => c ⟨z.1, z.2.1, z.2.2.1, of_decide_eq_true z.2.2.2⟩)]
theorem ne9 {q : Nat} (h : q < 2 ^ 31) : ¬ nI q = (-9 : Int32) := by
  intro z
  have h1 := nI_pos h
  rw [z] at h1
  exact h1 (by decide)
section FI
variable {h : bn_H} {fi : Nat → Int32} {s : Int64} {T : Nat × (Nat → Nat)} {f : Option Nat} {pos : Nat}
theorem mz.at (H : mz h fi s T f pos) (hp : pos < T.1) : ∃ h' fi', bn_pf h 222 3 15 (.int (nI (pos + 1))) = some h' ∧ sg_F (fun q => q = 222) h h' ∧ mz h' fi' s T f (pos + 1) ∧ ∀ j, j ≠ 15 → fi' j = fi j := by
  obtain ⟨O, ⟨e1, e2, e3⟩, A, b1, b2, b3, b4⟩ := H
  obtain ⟨h1, e, F, O1⟩ := mo_p15 O (nI (pos + 1))
  exact ⟨h1, _, e, F, ⟨O1, ⟨by rw [up_n (by omega)]; exact e1, up_e, by rw [up_n (by omega)]; exact e3⟩, A.fr F (by omega), b1, b2, hp, b4⟩, fun j hj => up_n hj⟩
theorem mz.fault (H : mz h fi s T f pos) {q : Nat} (hq : q ≤ 80) : ∃ h' fi', bn_pf h 222 3 16 (.int (nI q)) = some h' ∧ sg_F (fun q => q = 222) h h' ∧ mz h' fi' s T (some q) pos ∧ ∀ j, j ≠ 16 → fi' j = fi j := by
  obtain ⟨O, ⟨e1, e2, e3⟩, A, b1, b2, b3, b4⟩ := H
  obtain ⟨h1, e, F, O1⟩ := mo_p16 O (nI q)
  exact ⟨h1, _, e, F, ⟨O1, ⟨by rw [up_n (by omega)]; exact e1, by rw [up_n (by omega)]; exact e2, up_e⟩, A.fr F (by omega), b1, b2, b3, fun k hk => by cases hk; exact hq⟩, fun j hj => up_n hj⟩
theorem mq_f57 (H : mz h fi s T f pos) (a v : Int32) : ∃ h' fi', bn_ev 80 57 [some (.ref 222), some (.int a), some (.int v)] [] h = some (some (.int 0), h') ∧ sg_F (fun q => q = 222) h h' ∧ mz h' fi' s T (some (f.getD pos)) pos ∧ ∀ j, j ≠ 15 → j ≠ 16 → fi' j = fi j := by
  have H0 := H
  obtain ⟨O, ⟨e1, e2, e3⟩, A, b1, b2, b3, b4⟩ := H
  cases f with
  | none =>
    obtain ⟨h1, f1, g1, F1, Z1, k1⟩ := H0.fault (q := pos) (by omega)
    refine ⟨h1, f1, ?_, F1, Z1, fun j _ hj => k1 j hj⟩
    rw [bs_X3_figure_57, mo_i16 O, e3, if_pos (show sp_o none = -9 from rfl), mo_i15 O, e2, g1]
    rfl
  | some q =>
    have q80 := b4 q rfl
    obtain ⟨h1, f1, g1, F1, Z1, k1⟩ := H0.fault (q := q) q80
    refine ⟨h1, f1, ?_, F1, Z1, fun j _ hj => k1 j hj⟩
    rw [bs_X3_figure_57, mo_i16 O, e3, if_neg (show ¬ sp_o (some q) = -9 from ne9 (by omega)), mo_i16 O, e3, show sp_o (some q) = nI q from rfl, g1]
    rfl
theorem mq_figure (H : mz h fi s T f pos) {A : Nat → Bool} {a : Int32} (hA : ∀ d, d < 10 → bn_shr a (nI d) &&& 1 = sp_b (A d)) : ∃ h' fi', bn_ev 80 0 [some (.ref 222), some (.int a), none] [] h = some (some (.int (nI (mf T A f pos).1)), h') ∧ sg_F (fun q => q = 222) h h' ∧ mz h' fi' s T (mf T A f pos).2.1 (mf T A f pos).2.2 ∧ ∀ j, j ≠ 15 → j ≠ 16 → fi' j = fi j := by
  have H0 := H
  obtain ⟨O, ⟨e1, e2, e3⟩, TA, b1, b2, b3, b4⟩ := H
  have e0 := bs_X3_figure_0 222 a h
  have e35 : bn_ev 80 35 [some (.ref 222), some (.int a), none] [] h = bn_ev 80 57 [some (.ref 222), some (.int a), some (.int (-1))] [] h := by
    rw [bs_X3_figure_35, mq_in]
    simp only [bn_cI]
    rw [if_pos (by decide)]
  rw [mo_i16 O, e3] at e0
  cases f with
  | some q =>
    have q80 := b4 q rfl
    rw [if_neg (show ¬ sp_o (some q) = -9 from ne9 (by omega)), e35] at e0
    obtain ⟨h1, f1, g1, F1, Z1, k1⟩ := mq_f57 H0 a (-1)
    exact ⟨h1, f1, e0.trans g1, F1, Z1, k1⟩
  | none =>
    rw [if_pos (show sp_o none = -9 from rfl), mo_i15 O, mo_i14 O, e1, e2, sp_ifle (by omega) (by omega)] at e0
    unfold mf
    dsimp only
    by_cases q : T.1 ≤ pos
    · rw [if_pos q, e35] at e0
      rw [if_neg (by omega)]
      obtain ⟨h1, f1, g1, F1, Z1, k1⟩ := mq_f57 H0 a (-1)
      exact ⟨h1, f1, e0.trans g1, F1, Z1, k1⟩
    · have hc := b2 pos
      have ec : ((nI (T.2 pos) - 48 : Int32)).toInt = (T.2 pos : Int) - 48 := pk_sub_toInt (b := 48) (by omega) (by omega)
      have e77 : bn_ev 77 0 [some (.long ((nI (T.2 pos) - 48).toInt64)), none, some (.long 0), none, some (.long 9), none] [] h = some (some (.int (sp_b (decide (48 ≤ T.2 pos ∧ T.2 pos ≤ 57)))), h) := by
        rw [mq_in, Int32.toInt_toInt64, ec]
        have : ((0 : Int64).toInt ≤ (T.2 pos : Int) - 48 ∧ (T.2 pos : Int) - 48 ≤ (9 : Int64).toInt) = (48 ≤ T.2 pos ∧ T.2 pos ≤ 57) := by
          rw [show (0 : Int64).toInt = 0 from rfl, show (9 : Int64).toInt = 9 from rfl]
          exact propext (by omega)
        simp only [this]
      rw [if_neg q, mo_r13 O, mo_i15 O, e2, TA.ld (j := pos) (by omega) (by decide), Option.bind_some, e77] at e0
      simp only [bn_cI, sp_b_eq0, decide_eq_false_iff_not] at e0
      by_cases d : 48 ≤ T.2 pos ∧ T.2 pos ≤ 57
      · rw [if_neg (fun z => z d)] at e0
        have es : nI (T.2 pos) - 48 = nI (T.2 pos - 48) := pk_sub (b := 48) d.1
        rw [es, hA _ (by omega)] at e0
        simp only [sp_b_eq0] at e0
        by_cases g : A (T.2 pos - 48) = true
        · rw [if_neg (by rw [g]; decide), mo_i15 O, e2, n1] at e0
          rw [if_pos ⟨by omega, d.1, d.2, g⟩]
          obtain ⟨h1, f1, g1, F1, Z1, k1⟩ := H0.at (by omega)
          rw [g1, Option.bind_some] at e0
          exact ⟨h1, f1, e0, F1, Z1, fun j hj _ => k1 j hj⟩
        · rw [if_pos (by simpa using g)] at e0
          rw [if_neg (fun z => g z.2.2.2)]
          obtain ⟨h1, f1, g1, F1, Z1, k1⟩ := mq_f57 H0 a (nI (T.2 pos - 48))
          exact ⟨h1, f1, e0.trans g1, F1, Z1, k1⟩
      · rw [if_pos d] at e0
        rw [if_neg (fun z => d ⟨z.2.1, z.2.2.1⟩)]
        obtain ⟨h1, f1, g1, F1, Z1, k1⟩ := mq_f57 H0 a (nI (T.2 pos) - 48)
        exact ⟨h1, f1, e0.trans g1, F1, Z1, k1⟩
end FI
/-- what is read so far: a siege -/
def mt_R (S : sp_S) (N : Nat → Int32) : Prop := (∀ p, p < sp_people S → N (4 * p) = nI (sp_fasted S p) ∧ N (4 * p + 1) = sp_b (sp_al S p) ∧ N (4 * p + 2) = nI (sp_ate S p) ∧ N (4 * p + 3) = sp_eatc S p) ∧ (∀ l, l < sp_loaves S → N (20 + 5 * l) = nI (sp_num S l) ∧ N (21 + 5 * l) = nI (sp_hold S l) ∧ N (22 + 5 * l) = nI (sp_age S l) ∧ N (23 + 5 * l) = sp_eater S l ∧ N (24 + 5 * l) = sp_eon S l) ∧ sp_day S = 0
theorem mt_addP {S : sp_S} {N : Nat → Int32} (M : mt_R S N) (hp : sp_people S < 5) {d : Nat} (hd : d ≤ sp_lives S) : mt_R (sp_addP S d) (va_up (va_up (va_up (va_up N (4 * sp_people S) (nI d)) (4 * sp_people S + 1) 1) (4 * sp_people S + 2) 0) (4 * sp_people S + 3) 0) := by
  obtain ⟨M1, M2, M3⟩ := M
  refine ⟨fun p q => ?_, fun l q => ?_, M3⟩
  · have q : p < sp_people S + 1 := q
    have eF : sp_fasted (sp_addP S d) p = va_up (sp_fasted S) (sp_people S) d p := rfl
    have eA : sp_ate (sp_addP S d) p = va_up (sp_ate S) (sp_people S) 0 p := rfl
    have eC : sp_eatc (sp_addP S d) p = va_up (sp_eatc S) (sp_people S) 0 p := rfl
    have eL : sp_al (sp_addP S d) p = decide (va_up (sp_fasted S) (sp_people S) d p ≤ sp_lives S) := rfl
    rw [eF, eA, eC, eL]
    by_cases g : p = sp_people S
    · subst g
      refine ⟨?_, ?_, ?_, ?_⟩
      · rw [up_n (by omega), up_n (by omega), up_n (by omega), up_e, up_e]
      · rw [up_n (by omega), up_n (by omega), up_e, up_e, decide_eq_true hd]; rfl
      · rw [up_n (by omega), up_e, up_e]; rfl
      · rw [up_e, up_e]
    · obtain ⟨a1, a2, a3, a4⟩ := M1 p (by omega)
      rw [up_n g, up_n g, up_n g]
      refine ⟨?_, ?_, ?_, ?_⟩
      · rw [up_n (by omega), up_n (by omega), up_n (by omega), up_n (by omega)]; exact a1
      · rw [up_n (by omega), up_n (by omega), up_n (by omega), up_n (by omega)]; exact a2
      · rw [up_n (by omega), up_n (by omega), up_n (by omega), up_n (by omega)]; exact a3
      · rw [up_n (by omega), up_n (by omega), up_n (by omega), up_n (by omega)]; exact a4
  · obtain ⟨a1, a2, a3, a4, a5⟩ := M2 l q
    have u : ∀ j, 20 ≤ j → va_up (va_up (va_up (va_up N (4 * sp_people S) (nI d)) (4 * sp_people S + 1) 1) (4 * sp_people S + 2) 0) (4 * sp_people S + 3) 0 j = N j := fun j hj => by
      rw [up_n (by omega), up_n (by omega), up_n (by omega), up_n (by omega)]
    rw [u _ (by omega), u _ (by omega), u _ (by omega), u _ (by omega), u _ (by omega)]
    exact ⟨a1, a2, a3, a4, a5⟩
theorem mt_addL {S : sp_S} {N : Nat → Int32} (M : mt_R S N) (hp : sp_people S ≤ 5) (n q a : Nat) : mt_R (sp_addL S n q a) (va_up (va_up (va_up (va_up (va_up N (20 + 5 * sp_loaves S) (nI n)) (20 + 5 * sp_loaves S + 1) (nI q)) (20 + 5 * sp_loaves S + 2) (nI a)) (20 + 5 * sp_loaves S + 3) (-9)) (20 + 5 * sp_loaves S + 4) (-9)) := by
  obtain ⟨M1, M2, M3⟩ := M
  refine ⟨fun p g => ?_, fun l g => ?_, M3⟩
  · have g : p < sp_people S := g
    obtain ⟨a1, a2, a3, a4⟩ := M1 p g
    have u : ∀ j, j < 20 → va_up (va_up (va_up (va_up (va_up N (20 + 5 * sp_loaves S) (nI n)) (20 + 5 * sp_loaves S + 1) (nI q)) (20 + 5 * sp_loaves S + 2) (nI a)) (20 + 5 * sp_loaves S + 3) (-9)) (20 + 5 * sp_loaves S + 4) (-9) j = N j := fun j hj => by
      rw [up_n (by omega), up_n (by omega), up_n (by omega), up_n (by omega), up_n (by omega)]
    rw [u _ (by omega), u _ (by omega), u _ (by omega), u _ (by omega)]
    exact ⟨a1, a2, a3, a4⟩
  · have g : l < sp_loaves S + 1 := g
    have e1 : sp_num (sp_addL S n q a) l = va_up (sp_num S) (sp_loaves S) n l := rfl
    have e2 : sp_hold (sp_addL S n q a) l = va_up (sp_hold S) (sp_loaves S) q l := rfl
    have e3 : sp_age (sp_addL S n q a) l = va_up (sp_age S) (sp_loaves S) a l := rfl
    have e4 : sp_eater (sp_addL S n q a) l = va_up (sp_eater S) (sp_loaves S) (-9) l := rfl
    have e5 : sp_eon (sp_addL S n q a) l = va_up (sp_eon S) (sp_loaves S) (-9) l := rfl
    rw [e1, e2, e3, e4, e5]
    by_cases c : l = sp_loaves S
    · subst c
      refine ⟨?_, ?_, ?_, ?_, ?_⟩
      · rw [up_n (by omega), up_n (by omega), up_n (by omega), up_n (by omega), up_e, up_e]
      · rw [up_n (by omega), up_n (by omega), up_n (by omega), show 21 + 5 * sp_loaves S = 20 + 5 * sp_loaves S + 1 by omega, up_e, up_e]
      · rw [up_n (by omega), up_n (by omega), show 22 + 5 * sp_loaves S = 20 + 5 * sp_loaves S + 2 by omega, up_e, up_e]
      · rw [up_n (by omega), show 23 + 5 * sp_loaves S = 20 + 5 * sp_loaves S + 3 by omega, up_e, up_e]
      · rw [show 24 + 5 * sp_loaves S = 20 + 5 * sp_loaves S + 4 by omega, up_e, up_e]
    · obtain ⟨a1, a2, a3, a4, a5⟩ := M2 l (by omega)
      have u : ∀ j, j < 20 + 5 * sp_loaves S → va_up (va_up (va_up (va_up (va_up N (20 + 5 * sp_loaves S) (nI n)) (20 + 5 * sp_loaves S + 1) (nI q)) (20 + 5 * sp_loaves S + 2) (nI a)) (20 + 5 * sp_loaves S + 3) (-9)) (20 + 5 * sp_loaves S + 4) (-9) j = N j := fun j hj => by
        rw [up_n (by omega), up_n (by omega), up_n (by omega), up_n (by omega), up_n (by omega)]
      rw [up_n c, up_n c, up_n c, up_n c, up_n c, u _ (by omega), u _ (by omega), u _ (by omega), u _ (by omega), u _ (by omega)]
      exact ⟨a1, a2, a3, a4, a5⟩
/-- the figures of a loaf, one by one, are the loaf that the text tells -/
theorem mf_loaf {T : Nat × (Nat → Nat)} {S : sp_S} {pos t u o a p1 p2 p3 p4 : Nat} {f1 f2 f3 f4 : Option Nat} (h0 : ¬ (sp_people S = 0 ∨ 10 ≤ sp_loaves S ∨ sr_sign T pos 76 = false)) (m1 : mf T (sr_some S) none (pos + 1) = (t, f1, p1)) (m2 : mf T (fun u => sr_free S (10 * t + u)) f1 p1 = (u, f2, p2)) (m3 : mf T (fun d => decide (0 ≤ d ∧ d ≤ sp_people S - 1)) f2 p2 = (o, f3, p3)) (m4 : mf T (fun d => decide (0 ≤ d ∧ d ≤ 9)) f3 p3 = (a, f4, p4)) : match sr_loaf T S pos with
    | .inl q => f4 = some q
    | .inr q => f4 = none ∧ p4 = q.1 ∧ q.2 = sp_addL S (10 * t + u) o a := by
  unfold sr_loaf
  rw [if_neg h0]
  unfold sr_num
  rw [mf_dig] at m1
  cases hd : sr_dig T (pos + 1) with
  | none =>
    rw [hd] at m1
    simp only [Prod.mk.injEq] at m1
    obtain ⟨rfl, rfl, rfl⟩ := m1
    simp only [mf, Prod.mk.injEq] at m2
    obtain ⟨rfl, rfl, rfl⟩ := m2
    simp only [mf, Prod.mk.injEq] at m3
    obtain ⟨rfl, rfl, rfl⟩ := m3
    simp only [mf, Prod.mk.injEq] at m4
    obtain ⟨rfl, rfl, rfl⟩ := m4
    rfl
  | some d =>
    rw [hd] at m1
    dsimp only at m1 ⊢
    by_cases c : sr_some S d = true
    · rw [if_pos c] at m1 ⊢
      simp only [Prod.mk.injEq] at m1
      obtain ⟨rfl, rfl, rfl⟩ := m1
      rw [mf_dig] at m2
      cases hd2 : sr_dig T (pos + 1 + 1) with
      | none =>
        rw [hd2] at m2
        simp only [Prod.mk.injEq] at m2
        obtain ⟨rfl, rfl, rfl⟩ := m2
        simp only [mf, Prod.mk.injEq] at m3
        obtain ⟨rfl, rfl, rfl⟩ := m3
        simp only [mf, Prod.mk.injEq] at m4
        obtain ⟨rfl, rfl, rfl⟩ := m4
        rfl
      | some e =>
        rw [hd2] at m2
        dsimp only at m2 ⊢
        by_cases c2 : sr_free S (10 * d + e) = true
        · rw [if_pos c2] at m2 ⊢
          simp only [Prod.mk.injEq] at m2
          obtain ⟨rfl, rfl, rfl⟩ := m2
          rw [mf_fig] at m3
          dsimp only
          cases hf : sr_fig T (pos + 1 + 1 + 1) 0 (sp_people S - 1) with
          | none =>
            rw [hf] at m3
            simp only [Prod.mk.injEq] at m3
            obtain ⟨rfl, rfl, rfl⟩ := m3
            simp only [mf, Prod.mk.injEq] at m4
            obtain ⟨rfl, rfl, rfl⟩ := m4
            rfl
          | some o' =>
            rw [hf] at m3
            simp only [Prod.mk.injEq] at m3
            obtain ⟨rfl, rfl, rfl⟩ := m3
            rw [mf_fig] at m4
            dsimp only
            cases hg : sr_fig T (pos + 1 + 1 + 1 + 1) 0 9 with
            | none =>
              rw [hg] at m4
              simp only [Prod.mk.injEq] at m4
              obtain ⟨rfl, rfl, rfl⟩ := m4
              rfl
            | some a' =>
              rw [hg] at m4
              simp only [Prod.mk.injEq] at m4
              obtain ⟨rfl, rfl, rfl⟩ := m4
              exact ⟨rfl, rfl, rfl⟩
        · rw [if_neg c2] at m2 ⊢
          simp only [Prod.mk.injEq] at m2
          obtain ⟨rfl, rfl, rfl⟩ := m2
          simp only [mf, Prod.mk.injEq] at m3
          obtain ⟨rfl, rfl, rfl⟩ := m3
          simp only [mf, Prod.mk.injEq] at m4
          obtain ⟨rfl, rfl, rfl⟩ := m4
          rfl
    · rw [if_neg c] at m1 ⊢
      simp only [Prod.mk.injEq] at m1
      obtain ⟨rfl, rfl, rfl⟩ := m1
      simp only [mf, Prod.mk.injEq] at m2
      obtain ⟨rfl, rfl, rfl⟩ := m2
      simp only [mf, Prod.mk.injEq] at m3
      obtain ⟨rfl, rfl, rfl⟩ := m3
      simp only [mf, Prod.mk.injEq] at m4
      obtain ⟨rfl, rfl, rfl⟩ := m4
      rfl
