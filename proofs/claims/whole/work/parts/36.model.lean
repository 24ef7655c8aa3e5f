/-! THE MODEL'S CELLS: 222 the object, 223 read, 224 now, 225 the text, 226 and 227 the row of acts, 228 spare, 229 .. 231 for the search, 232 .. 234 what is kept -/
def mo_f (fi : Nat → Int32) (s : Int64) : List Value := [.ref 223, .int (fi 1), .int (fi 2), .int (fi 3), .int (fi 4), .int (fi 5), .ref 224, .int (fi 7), .int (fi 8), .int (fi 9), .int (fi 10), .int (fi 11), .long s, .ref 225, .int (fi 14), .int (fi 15), .int (fi 16), .int (fi 17), .int (fi 18), .ref 226, .ref 227, .ref 228, .int (fi 22), .ref 229, .ref 230, .ref 231, .ref 232, .ref 233, .ref 234]
def mo (h : bn_H) (fi : Nat → Int32) (s : Int64) : Prop := bn_g h 222 = some (.inr (3, mo_f fi s))
section MF
variable {h : bn_H} {fi : Nat → Int32} {s : Int64}
theorem mo_C (H : mo h fi s) : bn_isC h 222 3 = true := ob_C H
theorem mo_r0 (H : mo h fi s) {K : Nat → bn_R} : bn_gR h 222 3 0 K = K 223 := ob_R H rfl
theorem mo_i1 (H : mo h fi s) {K : Int32 → bn_R} : bn_gI h 222 3 1 K = K (fi 1) := ob_I H rfl
theorem mo_i2 (H : mo h fi s) {K : Int32 → bn_R} : bn_gI h 222 3 2 K = K (fi 2) := ob_I H rfl
theorem mo_i3 (H : mo h fi s) {K : Int32 → bn_R} : bn_gI h 222 3 3 K = K (fi 3) := ob_I H rfl
theorem mo_i4 (H : mo h fi s) {K : Int32 → bn_R} : bn_gI h 222 3 4 K = K (fi 4) := ob_I H rfl
theorem mo_i5 (H : mo h fi s) {K : Int32 → bn_R} : bn_gI h 222 3 5 K = K (fi 5) := ob_I H rfl
theorem mo_r6 (H : mo h fi s) {K : Nat → bn_R} : bn_gR h 222 3 6 K = K 224 := ob_R H rfl
theorem mo_i7 (H : mo h fi s) {K : Int32 → bn_R} : bn_gI h 222 3 7 K = K (fi 7) := ob_I H rfl
theorem mo_i8 (H : mo h fi s) {K : Int32 → bn_R} : bn_gI h 222 3 8 K = K (fi 8) := ob_I H rfl
theorem mo_i9 (H : mo h fi s) {K : Int32 → bn_R} : bn_gI h 222 3 9 K = K (fi 9) := ob_I H rfl
theorem mo_i10 (H : mo h fi s) {K : Int32 → bn_R} : bn_gI h 222 3 10 K = K (fi 10) := ob_I H rfl
theorem mo_i11 (H : mo h fi s) {K : Int32 → bn_R} : bn_gI h 222 3 11 K = K (fi 11) := ob_I H rfl
theorem mo_s (H : mo h fi s) {K : Int64 → bn_R} : bn_gJ h 222 3 12 K = K s := ob_J H rfl
theorem mo_r13 (H : mo h fi s) {K : Nat → bn_R} : bn_gR h 222 3 13 K = K 225 := ob_R H rfl
theorem mo_i14 (H : mo h fi s) {K : Int32 → bn_R} : bn_gI h 222 3 14 K = K (fi 14) := ob_I H rfl
theorem mo_i15 (H : mo h fi s) {K : Int32 → bn_R} : bn_gI h 222 3 15 K = K (fi 15) := ob_I H rfl
theorem mo_i16 (H : mo h fi s) {K : Int32 → bn_R} : bn_gI h 222 3 16 K = K (fi 16) := ob_I H rfl
theorem mo_i17 (H : mo h fi s) {K : Int32 → bn_R} : bn_gI h 222 3 17 K = K (fi 17) := ob_I H rfl
theorem mo_i18 (H : mo h fi s) {K : Int32 → bn_R} : bn_gI h 222 3 18 K = K (fi 18) := ob_I H rfl
theorem mo_r19 (H : mo h fi s) {K : Nat → bn_R} : bn_gR h 222 3 19 K = K 226 := ob_R H rfl
theorem mo_r20 (H : mo h fi s) {K : Nat → bn_R} : bn_gR h 222 3 20 K = K 227 := ob_R H rfl
theorem mo_r21 (H : mo h fi s) {K : Nat → bn_R} : bn_gR h 222 3 21 K = K 228 := ob_R H rfl
theorem mo_i22 (H : mo h fi s) {K : Int32 → bn_R} : bn_gI h 222 3 22 K = K (fi 22) := ob_I H rfl
theorem mo_r23 (H : mo h fi s) {K : Nat → bn_R} : bn_gR h 222 3 23 K = K 229 := ob_R H rfl
theorem mo_r24 (H : mo h fi s) {K : Nat → bn_R} : bn_gR h 222 3 24 K = K 230 := ob_R H rfl
theorem mo_r25 (H : mo h fi s) {K : Nat → bn_R} : bn_gR h 222 3 25 K = K 231 := ob_R H rfl
theorem mo_r26 (H : mo h fi s) {K : Nat → bn_R} : bn_gR h 222 3 26 K = K 232 := ob_R H rfl
theorem mo_r27 (H : mo h fi s) {K : Nat → bn_R} : bn_gR h 222 3 27 K = K 233 := ob_R H rfl
theorem mo_r28 (H : mo h fi s) {K : Nat → bn_R} : bn_gR h 222 3 28 K = K 234 := ob_R H rfl
theorem mo_p1 (H : mo h fi s) (x : Int32) : ∃ h', bn_pf h 222 3 1 (.int x) = some h' ∧ sg_F (fun q => q = 222) h h' ∧ mo h' (va_up fi 1 x) s := by
  obtain ⟨h1, e, F, O⟩ := ob_P H (k := 1) (by simp [mo_f]) (.int x)
  exact ⟨h1, e, F, O⟩
theorem mo_p2 (H : mo h fi s) (x : Int32) : ∃ h', bn_pf h 222 3 2 (.int x) = some h' ∧ sg_F (fun q => q = 222) h h' ∧ mo h' (va_up fi 2 x) s := by
  obtain ⟨h1, e, F, O⟩ := ob_P H (k := 2) (by simp [mo_f]) (.int x)
  exact ⟨h1, e, F, O⟩
theorem mo_p3 (H : mo h fi s) (x : Int32) : ∃ h', bn_pf h 222 3 3 (.int x) = some h' ∧ sg_F (fun q => q = 222) h h' ∧ mo h' (va_up fi 3 x) s := by
  obtain ⟨h1, e, F, O⟩ := ob_P H (k := 3) (by simp [mo_f]) (.int x)
  exact ⟨h1, e, F, O⟩
theorem mo_p4 (H : mo h fi s) (x : Int32) : ∃ h', bn_pf h 222 3 4 (.int x) = some h' ∧ sg_F (fun q => q = 222) h h' ∧ mo h' (va_up fi 4 x) s := by
  obtain ⟨h1, e, F, O⟩ := ob_P H (k := 4) (by simp [mo_f]) (.int x)
  exact ⟨h1, e, F, O⟩
theorem mo_p5 (H : mo h fi s) (x : Int32) : ∃ h', bn_pf h 222 3 5 (.int x) = some h' ∧ sg_F (fun q => q = 222) h h' ∧ mo h' (va_up fi 5 x) s := by
  obtain ⟨h1, e, F, O⟩ := ob_P H (k := 5) (by simp [mo_f]) (.int x)
  exact ⟨h1, e, F, O⟩
theorem mo_p7 (H : mo h fi s) (x : Int32) : ∃ h', bn_pf h 222 3 7 (.int x) = some h' ∧ sg_F (fun q => q = 222) h h' ∧ mo h' (va_up fi 7 x) s := by
  obtain ⟨h1, e, F, O⟩ := ob_P H (k := 7) (by simp [mo_f]) (.int x)
  exact ⟨h1, e, F, O⟩
theorem mo_p8 (H : mo h fi s) (x : Int32) : ∃ h', bn_pf h 222 3 8 (.int x) = some h' ∧ sg_F (fun q => q = 222) h h' ∧ mo h' (va_up fi 8 x) s := by
  obtain ⟨h1, e, F, O⟩ := ob_P H (k := 8) (by simp [mo_f]) (.int x)
  exact ⟨h1, e, F, O⟩
theorem mo_p9 (H : mo h fi s) (x : Int32) : ∃ h', bn_pf h 222 3 9 (.int x) = some h' ∧ sg_F (fun q => q = 222) h h' ∧ mo h' (va_up fi 9 x) s := by
  obtain ⟨h1, e, F, O⟩ := ob_P H (k := 9) (by simp [mo_f]) (.int x)
  exact ⟨h1, e, F, O⟩
theorem mo_p10 (H : mo h fi s) (x : Int32) : ∃ h', bn_pf h 222 3 10 (.int x) = some h' ∧ sg_F (fun q => q = 222) h h' ∧ mo h' (va_up fi 10 x) s := by
  obtain ⟨h1, e, F, O⟩ := ob_P H (k := 10) (by simp [mo_f]) (.int x)
  exact ⟨h1, e, F, O⟩
theorem mo_p11 (H : mo h fi s) (x : Int32) : ∃ h', bn_pf h 222 3 11 (.int x) = some h' ∧ sg_F (fun q => q = 222) h h' ∧ mo h' (va_up fi 11 x) s := by
  obtain ⟨h1, e, F, O⟩ := ob_P H (k := 11) (by simp [mo_f]) (.int x)
  exact ⟨h1, e, F, O⟩
theorem mo_ps (H : mo h fi s) (x : Int64) : ∃ h', bn_pf h 222 3 12 (.long x) = some h' ∧ sg_F (fun q => q = 222) h h' ∧ mo h' fi x := by
  obtain ⟨h1, e, F, O⟩ := ob_P H (k := 12) (by simp [mo_f]) (.long x)
  exact ⟨h1, e, F, O⟩
theorem mo_p14 (H : mo h fi s) (x : Int32) : ∃ h', bn_pf h 222 3 14 (.int x) = some h' ∧ sg_F (fun q => q = 222) h h' ∧ mo h' (va_up fi 14 x) s := by
  obtain ⟨h1, e, F, O⟩ := ob_P H (k := 14) (by simp [mo_f]) (.int x)
  exact ⟨h1, e, F, O⟩
theorem mo_p15 (H : mo h fi s) (x : Int32) : ∃ h', bn_pf h 222 3 15 (.int x) = some h' ∧ sg_F (fun q => q = 222) h h' ∧ mo h' (va_up fi 15 x) s := by
  obtain ⟨h1, e, F, O⟩ := ob_P H (k := 15) (by simp [mo_f]) (.int x)
  exact ⟨h1, e, F, O⟩
theorem mo_p16 (H : mo h fi s) (x : Int32) : ∃ h', bn_pf h 222 3 16 (.int x) = some h' ∧ sg_F (fun q => q = 222) h h' ∧ mo h' (va_up fi 16 x) s := by
  obtain ⟨h1, e, F, O⟩ := ob_P H (k := 16) (by simp [mo_f]) (.int x)
  exact ⟨h1, e, F, O⟩
theorem mo_p17 (H : mo h fi s) (x : Int32) : ∃ h', bn_pf h 222 3 17 (.int x) = some h' ∧ sg_F (fun q => q = 222) h h' ∧ mo h' (va_up fi 17 x) s := by
  obtain ⟨h1, e, F, O⟩ := ob_P H (k := 17) (by simp [mo_f]) (.int x)
  exact ⟨h1, e, F, O⟩
theorem mo_p18 (H : mo h fi s) (x : Int32) : ∃ h', bn_pf h 222 3 18 (.int x) = some h' ∧ sg_F (fun q => q = 222) h h' ∧ mo h' (va_up fi 18 x) s := by
  obtain ⟨h1, e, F, O⟩ := ob_P H (k := 18) (by simp [mo_f]) (.int x)
  exact ⟨h1, e, F, O⟩
theorem mo_p22 (H : mo h fi s) (x : Int32) : ∃ h', bn_pf h 222 3 22 (.int x) = some h' ∧ sg_F (fun q => q = 222) h h' ∧ mo h' (va_up fi 22 x) s := by
  obtain ⟨h1, e, F, O⟩ := ob_P H (k := 22) (by simp [mo_f]) (.int x)
  exact ⟨h1, e, F, O⟩
theorem mo.fr {P : Nat → Prop} {h1 : bn_H} (H : mo h fi s) (F : sg_F P h h1) (hq : ¬ P 222) : mo h1 fi s := (F.2.2.2 222 hq).trans H
end MF
/-- now, as a row of numbers -/
def mn_R (S : sp_S) (N : Nat → Int32) : Prop := (∀ p, p < sp_people S → N (4 * p) = nI (sp_fasted S p) ∧ N (4 * p + 1) = sp_b (sp_al S p) ∧ N (4 * p + 2) = nI (sp_ate S p) ∧ N (4 * p + 3) = sp_eatc S p) ∧ (∀ l, l < sp_loaves S → N (20 + 5 * l) = nI (sp_num S l) ∧ N (21 + 5 * l) = nI (sp_hold S l) ∧ N (22 + 5 * l) = nI (sp_age S l) ∧ N (23 + 5 * l) = sp_eater S l ∧ N (24 + 5 * l) = sp_eon S l) ∧ N 70 = sp_day S
def mr_R (S : sp_S) (fi : Nat → Int32) : Prop := fi 7 = nI (sp_law S) ∧ fi 8 = nI (sp_lives S) ∧ fi 9 = nI (sp_badAt S) ∧ fi 10 = nI (sp_people S) ∧ fi 11 = nI (sp_loaves S)
/-- the siege of the model is S -/
def mg (h : bn_H) (S : sp_S) : Prop := ∃ fi N, mo h fi (sp_seed S) ∧ sg_A h 224 0 71 N ∧ mr_R S fi ∧ mn_R S N
theorem lg_lt0 (x y : Int64) : (lg_cmp x y < 0) = (x.toInt < y.toInt) := by
  apply propext
  rw [← Int64.lt_iff_toInt_lt]
  unfold lg_cmp
  by_cases a : y < x
  · rw [if_pos a]
    constructor
    · intro q; exact absurd q (by decide)
    · intro q; exact absurd (Int64.lt_trans a q) (Int64.lt_irrefl)
  · rw [if_neg a]
    by_cases b : x = y
    · rw [if_pos b]
      constructor
      · intro q; exact absurd q (by decide)
      · intro q; rw [b] at q; exact absurd q (Int64.lt_irrefl)
    · rw [if_neg b]
      constructor
      · intro _
        have h1 : ¬ y.toInt < x.toInt := fun z => a (Int64.lt_iff_toInt_lt.mpr z)
        have h2 : ¬ x.toInt = y.toInt := fun z => b (Int64.toInt_inj.mp z)
        rw [Int64.lt_iff_toInt_lt]
        omega
      · intro _; decide
theorem lg_gt0 (x y : Int64) : (0 < lg_cmp x y) = (y.toInt < x.toInt) := by
  apply propext
  rw [← Int64.lt_iff_toInt_lt]
  unfold lg_cmp
  by_cases a : y < x
  · rw [if_pos a]
    exact ⟨fun _ => a, fun _ => by decide⟩
  · rw [if_neg a]
    by_cases b : x = y
    · rw [if_pos b]
      exact ⟨fun q => absurd q (by decide), fun q => absurd q a⟩
    · rw [if_neg b]
      exact ⟨fun q => absurd q (by decide), fun q => absurd q a⟩
theorem mq_in (h : bn_H) (x y z : Int64) : bn_ev 77 0 [some (.long x), none, some (.long y), none, some (.long z), none] [] h = some (some (.int (sp_b (decide (y.toInt ≤ x.toInt ∧ x.toInt ≤ z.toInt)))), h) := by
  rw [bs_X3_in_0]
  simp only [lg_lt0, lg_gt0]
  by_cases a : x.toInt < y.toInt
  · rw [if_pos a, decide_eq_false (by omega)]; rfl
  · rw [if_neg a]
    by_cases b : z.toInt < x.toInt
    · rw [if_pos b, decide_eq_false (by omega)]; rfl
    · rw [if_neg b, decide_eq_true (by omega)]; rfl
theorem mq_inI (h : bn_H) (x : Int32) (n : Nat) (hn : n < 2 ^ 30) : bn_ev 77 0 [some (.long x.toInt64), none, some (.long 0), none, some (.long ((nI n - 1).toInt64)), none] [] h = some (some (.int (sp_b (sp_in x n))), h) := by
  rw [mq_in]
  have e1 : x.toInt64.toInt = x.toInt := Int32.toInt_toInt64 x
  have e2 : (0 : Int64).toInt = 0 := rfl
  have e3 : ((nI n - 1).toInt64).toInt = (n : Int) - 1 := by
    rw [Int32.toInt_toInt64, iI_nI, show (1 : Int32) = iI 1 from rfl, iI_sub, iI_toInt (by omega) (by omega)]
  rw [e1, e2, e3]
  unfold sp_in
  have e : (0 ≤ x.toInt ∧ x.toInt ≤ (n : Int) - 1) = (0 ≤ x.toInt ∧ x.toInt < (n : Int)) := propext (by omega)
  simp only [e]
section MQ
variable {h : bn_H} {S : sp_S}
theorem mq_isPerson (H : mg h S) (B : sp_B S) (x : Int32) : bn_ev 86 0 [some (.ref 222), some (.int x)] [] h = some (some (.int (sp_b (sp_in x (sp_people S)))), h) := by
  obtain ⟨fi, N, O, A, ⟨r7, r8, r9, r10, r11⟩, M⟩ := H
  obtain ⟨b_law, ⟨b_l1, b_lv⟩, ⟨b_b1, b_bd⟩, b_pp, b_lo, b_fa, b_at, b_nu, b_ho, b_ag⟩ := id B
  rw [bs_X3_isPerson_0, mo_i10 O, r10, mq_inI h x _ (by omega)]
  cases sp_in x (sp_people S) <;> rfl
theorem mq_isLoaf (H : mg h S) (B : sp_B S) (x : Int32) : bn_ev 87 0 [some (.ref 222), some (.int x)] [] h = some (some (.int (sp_b (sp_in x (sp_loaves S)))), h) := by
  obtain ⟨fi, N, O, A, ⟨r7, r8, r9, r10, r11⟩, M⟩ := H
  obtain ⟨b_law, ⟨b_l1, b_lv⟩, ⟨b_b1, b_bd⟩, b_pp, b_lo, b_fa, b_at, b_nu, b_ho, b_ag⟩ := id B
  rw [bs_X3_isLoaf_0, mo_i11 O, r11, mq_inI h x _ (by omega)]
  cases sp_in x (sp_loaves S) <;> rfl
theorem ix_l (a l : Nat) : nI a + (5 * nI l) = nI (a + 5 * l) := by rw [show (5 : Int32) * nI l = nI (5 * l) from pk_mul 5 l, nI_add]
theorem mg_C (H : mg h S) : bn_isC h 222 3 = true := by
  obtain ⟨fi, N, O, -⟩ := H
  exact mo_C O
theorem mg_now (H : mg h S) {K : Nat → bn_R} : bn_gR h 222 3 6 K = K 224 := by
  obtain ⟨fi, N, O, -⟩ := H
  exact mo_r6 O
theorem mg_law (H : mg h S) {K : Int32 → bn_R} : bn_gI h 222 3 7 K = K (nI (sp_law S)) := by
  obtain ⟨fi, N, O, A, ⟨r7, r8, r9, r10, r11⟩, M⟩ := H
  rw [mo_i7 O, r7]
theorem mg_lives (H : mg h S) {K : Int32 → bn_R} : bn_gI h 222 3 8 K = K (nI (sp_lives S)) := by
  obtain ⟨fi, N, O, A, ⟨r7, r8, r9, r10, r11⟩, M⟩ := H
  rw [mo_i8 O, r8]
theorem mg_badAt (H : mg h S) {K : Int32 → bn_R} : bn_gI h 222 3 9 K = K (nI (sp_badAt S)) := by
  obtain ⟨fi, N, O, A, ⟨r7, r8, r9, r10, r11⟩, M⟩ := H
  rw [mo_i9 O, r9]
theorem mg_people (H : mg h S) {K : Int32 → bn_R} : bn_gI h 222 3 10 K = K (nI (sp_people S)) := by
  obtain ⟨fi, N, O, A, ⟨r7, r8, r9, r10, r11⟩, M⟩ := H
  rw [mo_i10 O, r10]
theorem mg_loaves (H : mg h S) {K : Int32 → bn_R} : bn_gI h 222 3 11 K = K (nI (sp_loaves S)) := by
  obtain ⟨fi, N, O, A, ⟨r7, r8, r9, r10, r11⟩, M⟩ := H
  rw [mo_i11 O, r11]
theorem mg_seed (H : mg h S) {K : Int64 → bn_R} : bn_gJ h 222 3 12 K = K (sp_seed S) := by
  obtain ⟨fi, N, O, A, ⟨r7, r8, r9, r10, r11⟩, M⟩ := H
  exact mo_s O
/-- places of now -/
theorem mg_ld (H : mg h S) {k : Nat} (hk : k < 71) : ∃ x, bn_ld h 224 0 (nI k) = some x ∧ ∃ N, sg_A h 224 0 71 N ∧ mn_R S N ∧ x = N k := by
  obtain ⟨fi, N, O, A, -, M⟩ := H
  exact ⟨N k, A.ld hk (by decide), N, A, M, rfl⟩
theorem mg_p0 (H : mg h S) (B : sp_B S) {p : Nat} (hp : p < sp_people S) : bn_ld h 224 0 (4 * nI p) = some (nI (sp_fasted S p)) := by
  have := B.2.2.2.1
  obtain ⟨fi, N, O, A, -, M⟩ := H
  rw [show (4 : Int32) * nI p = nI (4 * p) from pk_mul 4 p, A.ld (by omega) (by decide), (M.1 p hp).1]
theorem mg_pk (H : mg h S) (B : sp_B S) {p : Nat} (hp : p < sp_people S) : bn_ld h 224 0 (4 * nI p + 1) = some (sp_b (sp_al S p)) ∧ bn_ld h 224 0 (4 * nI p + 2) = some (nI (sp_ate S p)) ∧ bn_ld h 224 0 (4 * nI p + 3) = some (sp_eatc S p) := by
  have := B.2.2.2.1
  obtain ⟨fi, N, O, A, -, M⟩ := H
  have e : ∀ k, (4 : Int32) * nI p + nI k = nI (4 * p + k) := fun k => by rw [show (4 : Int32) * nI p = nI (4 * p) from pk_mul 4 p, nI_add]
  refine ⟨?_, ?_, ?_⟩
  · rw [show (1 : Int32) = nI 1 from rfl, e 1, A.ld (by omega) (by decide), (M.1 p hp).2.1]
  · rw [show (2 : Int32) = nI 2 from rfl, e 2, A.ld (by omega) (by decide), (M.1 p hp).2.2.1]
  · rw [show (3 : Int32) = nI 3 from rfl, e 3, A.ld (by omega) (by decide), (M.1 p hp).2.2.2]
theorem mg_al (H : mg h S) (B : sp_B S) {p : Nat} (hp : p < sp_people S) : bn_ld h 224 0 (4 * nI p + 1) = some (sp_b (sp_al S p)) := (mg_pk H B hp).1
theorem mg_ate (H : mg h S) (B : sp_B S) {p : Nat} (hp : p < sp_people S) : bn_ld h 224 0 (4 * nI p + 2) = some (nI (sp_ate S p)) := (mg_pk H B hp).2.1
theorem mg_eatc (H : mg h S) (B : sp_B S) {p : Nat} (hp : p < sp_people S) : bn_ld h 224 0 (4 * nI p + 3) = some (sp_eatc S p) := (mg_pk H B hp).2.2
theorem mg_l (H : mg h S) (B : sp_B S) {l : Nat} (hl : l < sp_loaves S) : bn_ld h 224 0 (20 + 5 * nI l) = some (nI (sp_num S l)) ∧ bn_ld h 224 0 (21 + 5 * nI l) = some (nI (sp_hold S l)) ∧ bn_ld h 224 0 (22 + 5 * nI l) = some (nI (sp_age S l)) ∧ bn_ld h 224 0 (nI (23 + 5 * l)) = some (sp_eater S l) ∧ bn_ld h 224 0 (nI (24 + 5 * l)) = some (sp_eon S l) := by
  have := B.2.2.2.2.1
  obtain ⟨fi, N, O, A, -, M⟩ := H
  have m := M.2.1 l hl
  refine ⟨?_, ?_, ?_, ?_, ?_⟩
  · rw [show (20 : Int32) = nI 20 from rfl, ix_l, A.ld (by omega) (by decide), m.1]
  · rw [show (21 : Int32) = nI 21 from rfl, ix_l, A.ld (by omega) (by decide), m.2.1]
  · rw [show (22 : Int32) = nI 22 from rfl, ix_l, A.ld (by omega) (by decide), m.2.2.1]
  · rw [A.ld (by omega) (by decide), m.2.2.2.1]
  · rw [A.ld (by omega) (by decide), m.2.2.2.2]
theorem mq_number (H : mg h S) (B : sp_B S) {l : Nat} (hl : l < sp_loaves S) : bn_ev 88 0 [some (.ref 222), some (.int (nI l))] [] h = some (some (.int (nI (sp_num S l))), h) := by
  rw [bs_X3_number_0, mg_now H, (mg_l H B hl).1]
  rfl
theorem mq_holder (H : mg h S) (B : sp_B S) {l : Nat} (hl : l < sp_loaves S) : bn_ev 89 0 [some (.ref 222), some (.int (nI l))] [] h = some (some (.int (nI (sp_hold S l))), h) := by
  rw [bs_X3_holder_0, mg_now H, (mg_l H B hl).2.1]
  rfl
theorem mq_isBad (H : mg h S) (B : sp_B S) {l : Nat} (hl : l < sp_loaves S) : bn_ev 90 0 [some (.ref 222), some (.int (nI l))] [] h = some (some (.int (sp_b (sp_bd S l))), h) := by
  obtain ⟨b_law, ⟨b_l1, b_lv⟩, ⟨b_b1, b_bd⟩, b_pp, b_lo, b_fa, b_at, b_nu, b_ho, b_ag⟩ := id B
  have := b_ag l
  rw [bs_X3_isBad_0, mg_now H, (mg_l H B hl).2.2.1, Option.bind_some, mg_badAt H, sp_i2 (b := sp_bd S l)]
  rw [sp_lt (by omega) (by omega)]
  simp [sp_bd]
theorem or_0 (x : Int32) : x ||| 0 = x := by simp
theorem mq_held (H : mg h S) (B : sp_B S) (x : Int32) : bn_ev 91 0 [some (.ref 222), some (.int x), none, none] [] h = some (some (.int (sp_bits (fun l => decide (nI (sp_hold S l) = x)) (sp_loaves S))), h) := by
  obtain ⟨b_law, ⟨b_l1, b_lv⟩, ⟨b_b1, b_bd⟩, b_pp, b_lo, b_fa, b_at, b_nu, b_ho, b_ag⟩ := id B
  rw [bs_X3_held_0]
  refine (lp_pure (n := sp_loaves S) (E := fun i a => bn_ev 91 4 [some (.ref 222), some (.int x), some (.int a), some (.int (nI i))] [] h) (g := sp_g1 (fun l => decide (nI (sp_hold S l) = x))) (fun i a hi => ?_) (sp_loaves S) 0 0 (by omega)).trans ?_
  · show bn_ev 91 4 _ _ _ = _
    rw [bs_X3_held_4, mg_loaves H, if_neg (nI_ge hi (by omega)), mg_C H, mq_holder H B hi, ← nI_succ]
    simp only [bn_gd, bn_cI, if_true, sp_g1, decide_eq_true_eq]
    split
    · rfl
    · rw [or_0]
  · show bn_ev 91 4 _ _ _ = _
    rw [bs_X3_held_4, mg_loaves H, if_pos (nI_le (Nat.le_refl _) (by omega))]
    rfl
theorem mq_alive (H : mg h S) (B : sp_B S) : bn_ev 104 0 [some (.ref 222), none, none] [] h = some (some (.int (sp_bits (sp_al S) (sp_people S))), h) := by
  obtain ⟨b_law, ⟨b_l1, b_lv⟩, ⟨b_b1, b_bd⟩, b_pp, b_lo, b_fa, b_at, b_nu, b_ho, b_ag⟩ := id B
  rw [bs_X3_alive_0]
  refine (lp_pure (n := sp_people S) (E := fun i a => bn_ev 104 4 [some (.ref 222), some (.int a), some (.int (nI i))] [] h) (g := sp_g1 (sp_al S)) (fun i a hi => ?_) (sp_people S) 0 0 (by omega)).trans ?_
  · show bn_ev 104 4 _ _ _ = _
    rw [bs_X3_alive_4, mg_people H, if_neg (nI_ge hi (by omega)), mg_now H, mg_al H B hi, Option.bind_some, ← nI_succ]
    simp only [sp_g1]
    cases sp_al S i with
    | true => rfl
    | false =>
      have e : ∀ y : Int32, bn_shl (sp_b false) y = 0 := fun y => by show (0 : Int32) <<< _ = 0; simp
      rw [e, or_0]
      rfl
  · show bn_ev 104 4 _ _ _ = _
    rw [bs_X3_alive_4, mg_people H, if_pos (nI_le (Nat.le_refl _) (by omega))]
    rfl
end MQ
