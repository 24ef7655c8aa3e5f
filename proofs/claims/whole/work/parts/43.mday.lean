/-! THE MODEL: A DAY GOES BY -/
theorem j4 (q : Nat) : (4 : Int32) * nI q = nI (4 * q) := pk_mul 4 q
theorem k5 (l : Nat) : (20 : Int32) + 5 * nI l = nI (20 + 5 * l) := ix_l 20 l
theorem mq_gb {h : bn_H} {fi : Nat → Int32} {s : Int64} {N : Nat → Int32} {p f t lv n : Nat} (d : Int32) (o : Option Value) (O : mo h fi s) (A : sg_A h 224 0 71 N) (hp : p < 5) (hf : f ≤ 10) (ht : t ≤ 1) (hl : lv ≤ 9) (e0 : N (4 * p) = nI f) (e1 : N (4 * p + 1) = sp_b (decide (f ≤ lv))) (e2 : N (4 * p + 2) = nI t) (el : fi 8 = nI lv) (en : fi 10 = nI n) (hn : n ≤ 5) (hpn : p < n) : ∃ h', bn_ev 102 4 [some (.ref 222), some (.int d), some (.int (nI p)), o] [] h = bn_ev 102 4 [some (.ref 222), some (.int (if (f ≤ lv ∧ t = 0) ∧ lv < f + 1 then d ||| bn_shl 1 (nI p) else d)), some (.int (nI (p + 1))), some (.int (nI (4 * p)))] [] h' ∧ sg_F (fun q => q = 224) h h' ∧ sg_A h' 224 0 71 (va_up (va_up (va_up N (4 * p) (nI (if f ≤ lv ∧ t = 0 then f + 1 else f))) (4 * p + 1) (sp_b (decide ((if f ≤ lv ∧ t = 0 then f + 1 else f) ≤ lv)))) (4 * p + 2) 0) := by
  generalize hf' : (if f ≤ lv ∧ t = 0 then f + 1 else f) = f'
  have hf2 : f' ≤ 11 := by rw [← hf']; split <;> omega
  obtain ⟨h1, s1, F1, A1⟩ := A.sd (j := 4 * p) (by omega) (by decide) (nI f')
  obtain ⟨h2, s2, F2, A2⟩ := A1.sd (j := 4 * p + 1) (by omega) (by decide) (sp_b (decide (f' ≤ lv)))
  obtain ⟨h3, s3, F3, A3⟩ := A2.sd (j := 4 * p + 2) (by omega) (by decide) 0
  have O1 := O.fr F1 (by omega)
  have O2 := O1.fr F2 (by omega)
  have l0 : bn_ld h 224 0 (nI (4 * p)) = some (nI f) := by rw [A.ld (by omega) (by decide), e0]
  have l1 : bn_ld h 224 0 (nI (4 * p + 1)) = some (sp_b (decide (f ≤ lv))) := by rw [A.ld (by omega) (by decide), e1]
  have l2 : bn_ld h 224 0 (nI (4 * p + 2)) = some (nI t) := by rw [A.ld (by omega) (by decide), e2]
  have m0 : bn_ld h1 224 0 (nI (4 * p)) = some (nI f') := by
    rw [A1.ld (by omega) (by decide)]; unfold va_up; rw [if_pos rfl]
  have m1 : bn_ld h1 224 0 (nI (4 * p + 1)) = some (sp_b (decide (f ≤ lv))) := by
    rw [A1.ld (by omega) (by decide)]; unfold va_up; rw [if_neg (by omega), e1]
  have i2 : nI (4 * p) + 2 = nI (4 * p + 2) := nI_add _ 2
  have sb1 : ∀ b : Bool, (sp_b b = 1) = (b = true) := fun b => by cases b <;> simp [sp_b]
  have c120 : ∀ d', bn_ev 102 120 [some (.ref 222), some (.int d'), some (.int (nI p)), some (.int (nI (4 * p)))] [.int (sp_b (decide (f' ≤ lv))), .int (nI (4 * p + 1)), .ref 224] h1 = bn_ev 102 4 [some (.ref 222), some (.int d'), some (.int (nI (p + 1))), some (.int (nI (4 * p)))] [] h3 := by
    intro d'
    rw [bs_X3_goBy_120, s2, Option.bind_some, mo_r6 O2, i2, s3, Option.bind_some, n1]
  refine ⟨h3, ?_, (F1.tr F2).tr F3, A3⟩
  have c85 : ∀ d' d'', f' ≤ lv ∨ ¬ f ≤ lv → bn_ev 102 85 [some (.ref 222), some (.int d''), some (.int (nI p)), some (.int (nI (4 * p)))] [.int d'] h1 = bn_ev 102 4 [some (.ref 222), some (.int d'), some (.int (nI (p + 1))), some (.int (nI (4 * p)))] [] h3 := by
    intro d' d'' hh
    rw [bs_X3_goBy_85, mo_r6 O1, mo_r6 O1, m0, Option.bind_some, mo_i8 O1, el, sp_ifle (by omega) (by omega), n1, or_0]
    by_cases c : f' ≤ lv
    · rw [if_pos c, mo_r6 O1, m1, Option.bind_some, ← c120 d']
      have : f ≤ lv := by rw [← hf'] at c; split at c <;> omega
      rw [decide_eq_true this, decide_eq_true c]
    · rw [if_neg c, ← c120 d', decide_eq_false c]
      rfl
  rw [bs_X3_goBy_4, mo_i10 O, en, if_neg (nI_ge (by omega) (by omega))]
  simp only [mo_r6 O, j4, n1, i2, l0, l1, l2, Option.bind_some, sb1, decide_eq_true_eq]
  have c50 : f' = f → bn_ev 102 50 [some (.ref 222), some (.int d), some (.int (nI p)), some (.int (nI (4 * p)))] [.int (nI f), .int (nI (4 * p)), .ref 224] h = bn_ev 102 4 [some (.ref 222), some (.int d), some (.int (nI (p + 1))), some (.int (nI (4 * p)))] [] h3 := by
    intro hff
    rw [hff] at s1 m0
    rw [bs_X3_goBy_50, show nI f + 0 = nI f from by simp, s1, Option.bind_some, mo_r6 O1, n1, m1, Option.bind_some]
    simp only [sb1, decide_eq_true_eq]
    by_cases c : f ≤ lv
    · rw [if_pos c, mo_r6 O1, m0, Option.bind_some, mo_i8 O1, el, sp_ifle (by omega) (by omega), if_pos c]
      exact c85 d d (Or.inl (by omega))
    · rw [if_neg c]
      exact c85 d d (Or.inr c)
  by_cases ca : f ≤ lv
  · rw [if_pos ca, sp_if0 (by omega)]
    by_cases ct : t = 0
    · rw [if_pos ct]
      have hff : f' = f + 1 := by rw [← hf', if_pos ⟨ca, ct⟩]
      rw [hff] at s1 m0
      simp only [s1, Option.bind_some, mo_r6 O1, m1, sb1, decide_eq_true_eq, m0, mo_i8 O1, el]
      rw [if_pos ca, sp_ifle (by omega) (by omega)]
      by_cases c : f + 1 ≤ lv
      · rw [if_pos c, if_neg (show ¬ ((f ≤ lv ∧ t = 0) ∧ lv < f + 1) by omega)]
        exact c85 d d (Or.inl (by omega))
      · rw [if_neg c, if_pos (show (f ≤ lv ∧ t = 0) ∧ lv < f + 1 by omega), sp_ifle (by omega) (by omega), if_neg c, ← c120, decide_eq_false (by omega)]
        rfl
    · rw [if_neg ct, if_neg (show ¬ ((f ≤ lv ∧ t = 0) ∧ lv < f + 1) by omega)]
      exact c50 (by rw [← hf', if_neg (by omega)])
  · rw [if_neg ca, if_neg (show ¬ ((f ≤ lv ∧ t = 0) ∧ lv < f + 1) by omega)]
    exact c50 (by rw [← hf', if_neg (by omega)])
theorem mq_gl {h : bn_H} {fi : Nat → Int32} {s : Int64} {N : Nat → Int32} {l hd ag m n : Nat} (g : Nat → Bool) (o : Option Value) (O : mo h fi s) (A : sg_A h 224 0 71 N) (hm : m ≤ 10) (hlm : l < m) (hh : hd ≤ 20) (ha : ag ≤ 99) (hn : n ≤ 5) (e1 : N (21 + 5 * l) = nI hd) (e2 : N (22 + 5 * l) = nI ag) (em : fi 11 = nI m) : ∃ h', bn_ev 102 138 [some (.ref 222), some (.int (sp_bits g n)), some (.int (nI l)), o] [] h = bn_ev 102 138 [some (.ref 222), some (.int (sp_bits g n)), some (.int (nI (l + 1))), some (.int (nI (20 + 5 * l)))] [] h' ∧ sg_F (fun q => q = 224) h h' ∧ sg_A h' 224 0 71 (va_up (va_up N (22 + 5 * l) (nI (if ¬ hd = 20 ∧ ag < 99 then ag + 1 else ag))) (21 + 5 * l) (nI (if hd < n ∧ g hd = true then 10 else hd))) := by
  generalize hag : (if ¬ hd = 20 ∧ ag < 99 then ag + 1 else ag) = ag'
  generalize hhd : (if hd < n ∧ g hd = true then 10 else hd) = hd'
  obtain ⟨h1, s1, F1, A1⟩ := A.sd (j := 22 + 5 * l) (by omega) (by decide) (nI ag')
  obtain ⟨h2, s2, F2, A2⟩ := A1.sd (j := 21 + 5 * l) (by omega) (by decide) (nI hd')
  have O1 := O.fr F1 (by omega)
  have l1 : bn_ld h 224 0 (nI (21 + 5 * l)) = some (nI hd) := by rw [A.ld (by omega) (by decide), e1]
  have l2 : bn_ld h 224 0 (nI (22 + 5 * l)) = some (nI ag) := by rw [A.ld (by omega) (by decide), e2]
  have m1 : bn_ld h1 224 0 (nI (21 + 5 * l)) = some (nI hd) := by
    rw [A1.ld (by omega) (by decide)]; unfold va_up; rw [if_neg (by omega), e1]
  have i1 : nI (20 + 5 * l) + 1 = nI (21 + 5 * l) := by rw [n1]; congr 1; omega
  have i2 : nI (20 + 5 * l) + 2 = nI (22 + 5 * l) := by rw [show nI (20 + 5 * l) + 2 = nI (20 + 5 * l + 2) from nI_add _ 2]; congr 1; omega
  refine ⟨h2, ?_, F1.tr F2, A2⟩
  have c236 : hd' = hd → bn_ev 102 236 [some (.ref 222), some (.int (sp_bits g n)), some (.int (nI l)), some (.int (nI (20 + 5 * l)))] [.int (nI (21 + 5 * l)), .ref 224] h1 = bn_ev 102 138 [some (.ref 222), some (.int (sp_bits g n)), some (.int (nI (l + 1))), some (.int (nI (20 + 5 * l)))] [] h2 := by
    intro e
    rw [e] at s2
    rw [bs_X3_goBy_236, mo_r6 O1, i1, m1, Option.bind_some, s2, Option.bind_some, n1]
  have bit : hd < 10 → bn_shr (sp_bits g n) (nI hd) &&& 1 = sp_b (decide (hd < n) && g hd) := fun h10 => sp_bits_bit g (by omega) (by omega)
  have sb1 : ∀ b : Bool, (sp_b b = 1) = (b = true) := fun b => by cases b <;> simp [sp_b]
  have le10 : ((10 : Int32) ≤ nI hd) = (10 ≤ hd) := sp_le (a := 10) (by decide) (by omega)
  have tail : (if (10 : Int32) ≤ nI hd then bn_ev 102 236 [some (.ref 222), some (.int (sp_bits g n)), some (.int (nI l)), some (.int (nI (20 + 5 * l)))] [.int (nI (21 + 5 * l)), .ref 224] h1 else if bn_shr (sp_bits g n) (nI hd) &&& 1 = 1 then (bn_sd h1 224 0 (nI (21 + 5 * l)) 10).bind (fun h17 => bn_ev 102 138 [some (.ref 222), some (.int (sp_bits g n)), some (.int (nI (l + 1))), some (.int (nI (20 + 5 * l)))] [] h17) else bn_ev 102 236 [some (.ref 222), some (.int (sp_bits g n)), some (.int (nI l)), some (.int (nI (20 + 5 * l)))] [.int (nI (21 + 5 * l)), .ref 224] h1) = bn_ev 102 138 [some (.ref 222), some (.int (sp_bits g n)), some (.int (nI (l + 1))), some (.int (nI (20 + 5 * l)))] [] h2 := by
    simp only [le10]
    by_cases c : 10 ≤ hd
    · rw [if_pos c]
      exact c236 (by rw [← hhd, if_neg (by omega)])
    · rw [if_neg c, bit (by omega)]
      simp only [sb1, Bool.and_eq_true, decide_eq_true_eq]
      by_cases c2 : hd < n ∧ g hd = true
      · rw [if_pos c2]
        have e : hd' = 10 := by rw [← hhd, if_pos c2]
        rw [e] at s2
        rw [show (10 : Int32) = nI 10 from rfl, s2, Option.bind_some]
      · rw [if_neg c2]
        exact c236 (by rw [← hhd, if_neg c2])
  have c192 : ag' = ag → bn_ev 102 192 [some (.ref 222), some (.int (sp_bits g n)), some (.int (nI l)), some (.int (nI (20 + 5 * l)))] [.int (nI ag), .int (nI (22 + 5 * l)), .ref 224] h = bn_ev 102 138 [some (.ref 222), some (.int (sp_bits g n)), some (.int (nI (l + 1))), some (.int (nI (20 + 5 * l)))] [] h2 := by
    intro e
    rw [e] at s1
    rw [bs_X3_goBy_192, show nI ag + 0 = nI ag from by simp]
    simp only [s1, Option.bind_some, mo_r6 O1, i1, m1, n1]
    exact tail
  rw [bs_X3_goBy_138, mo_i11 O, em, if_neg (nI_ge (by omega) (by omega))]
  simp only [mo_r6 O, k5, i1, i2, l2, l1, Option.bind_some]
  rw [sp_if20 (by omega)]
  by_cases c20 : hd = 20
  · rw [if_pos c20]
    exact c192 (by rw [← hag, if_neg (by omega)])
  · rw [if_neg c20]
    have le99 : ((99 : Int32) ≤ nI ag) = (99 ≤ ag) := sp_le (a := 99) (by decide) (by omega)
    simp only [le99]
    by_cases c99 : 99 ≤ ag
    · rw [if_pos c99]
      exact c192 (by rw [← hag, if_neg (by omega)])
    · rw [if_neg c99]
      have e : ag' = ag + 1 := by rw [← hag, if_pos (by omega)]
      rw [e] at s1
      simp only [n1, s1, Option.bind_some, mo_r6 O1, m1]
      exact tail
/-- the first i of people have had their day -/
def mt_1 (S : sp_S) (i : Nat) : sp_S := (S.1, (sp_day S, sp_seed S), (fun k => if k < i ∧ sp_hung S k = true then sp_fasted S k + 1 else sp_fasted S k, fun k => if k < i then 0 else sp_ate S k, sp_eatc S), sp_num S, sp_hold S, sp_age S, sp_eater S, sp_eon S)
/-- and the first i of loaves -/
def mt_2 (S : sp_S) (i : Nat) : sp_S := (S.1, (sp_day S, sp_seed S), (fun k => if k < sp_people S ∧ sp_hung S k = true then sp_fasted S k + 1 else sp_fasted S k, fun k => if k < sp_people S then 0 else sp_ate S k, sp_eatc S), sp_num S, fun l => if l < i ∧ (sp_hold S l < sp_people S ∧ sp_dies S (sp_hold S l) = true) then 10 else sp_hold S l, fun l => if l < i then (if ¬ sp_hold S l = 20 ∧ sp_age S l < 99 then sp_age S l + 1 else sp_age S l) else sp_age S l, sp_eater S, sp_eon S)
theorem mt_1s {S : sp_S} {N : Nat → Int32} {i : Nat} (M : mn_R (mt_1 S i) N) (B : sp_B S) (hi : i < sp_people S) : mn_R (mt_1 S (i + 1)) (va_up (va_up (va_up N (4 * i) (nI (if sp_fasted S i ≤ sp_lives S ∧ sp_ate S i = 0 then sp_fasted S i + 1 else sp_fasted S i))) (4 * i + 1) (sp_b (decide ((if sp_fasted S i ≤ sp_lives S ∧ sp_ate S i = 0 then sp_fasted S i + 1 else sp_fasted S i) ≤ sp_lives S)))) (4 * i + 2) 0) := by
  obtain ⟨b_law, ⟨b_l1, b_lv⟩, ⟨b_b1, b_bd⟩, b_pp, b_lo, b_fa, b_at, b_nu, b_ho, b_ag⟩ := id B
  obtain ⟨M1, M2, M3⟩ := M
  refine ⟨fun p hp => ?_, fun l hl => ?_, ?_⟩
  · have hp : p < sp_people S := hp
    obtain ⟨q0, q1, q2, q3⟩ := M1 p hp
    have g0 : sp_fasted (mt_1 S (i + 1)) p = if p < i + 1 ∧ sp_hung S p = true then sp_fasted S p + 1 else sp_fasted S p := rfl
    have g1 : sp_al (mt_1 S (i + 1)) p = decide ((if p < i + 1 ∧ sp_hung S p = true then sp_fasted S p + 1 else sp_fasted S p) ≤ sp_lives S) := rfl
    have g2 : sp_ate (mt_1 S (i + 1)) p = if p < i + 1 then 0 else sp_ate S p := rfl
    have g3 : sp_eatc (mt_1 S (i + 1)) p = sp_eatc S p := rfl
    have f0 : sp_fasted (mt_1 S i) p = if p < i ∧ sp_hung S p = true then sp_fasted S p + 1 else sp_fasted S p := rfl
    have f1 : sp_al (mt_1 S i) p = decide ((if p < i ∧ sp_hung S p = true then sp_fasted S p + 1 else sp_fasted S p) ≤ sp_lives S) := rfl
    have f2 : sp_ate (mt_1 S i) p = if p < i then 0 else sp_ate S p := rfl
    have f3 : sp_eatc (mt_1 S i) p = sp_eatc S p := rfl
    rw [f0] at q0
    rw [f1] at q1
    rw [f2] at q2
    rw [f3] at q3
    rw [g0, g1, g2, g3]
    unfold va_up
    by_cases e : p = i
    · subst e
      have hu : (sp_hung S p = true) ↔ (sp_fasted S p ≤ sp_lives S ∧ sp_ate S p = 0) := by
        unfold sp_hung sp_al
        rw [Bool.and_eq_true, decide_eq_true_eq, decide_eq_true_eq]
      have hx : (if p < p + 1 ∧ sp_hung S p = true then sp_fasted S p + 1 else sp_fasted S p) = if sp_fasted S p ≤ sp_lives S ∧ sp_ate S p = 0 then sp_fasted S p + 1 else sp_fasted S p := by
        by_cases c : sp_hung S p = true
        · rw [if_pos ⟨by omega, c⟩, if_pos (hu.mp c)]
        · rw [if_neg (fun z => c z.2), if_neg (fun z => c (hu.mpr z))]
      rw [hx]
      refine ⟨?_, ?_, ?_, ?_⟩
      · rw [if_neg (by omega), if_neg (by omega), if_pos rfl]
      · rw [if_neg (by omega), if_pos rfl]
      · rw [if_pos rfl, if_pos (by omega)]; rfl
      · rw [if_neg (by omega), if_neg (by omega), if_neg (by omega)]; exact q3
    · have hpi : (p < i + 1) = (p < i) := propext (by omega)
      simp only [hpi]
      refine ⟨?_, ?_, ?_, ?_⟩
      all_goals rw [if_neg (by omega), if_neg (by omega), if_neg (by omega)]
      · exact q0
      · exact q1
      · exact q2
      · exact q3
  · have hl : l < sp_loaves S := hl
    have := M2 l hl
    unfold va_up
    refine ⟨?_, ?_, ?_, ?_, ?_⟩
    all_goals rw [if_neg (by omega), if_neg (by omega), if_neg (by omega)]
    · exact this.1
    · exact this.2.1
    · exact this.2.2.1
    · exact this.2.2.2.1
    · exact this.2.2.2.2
  · unfold va_up
    rw [if_neg (by omega), if_neg (by omega), if_neg (by omega)]
    exact M3
theorem mt_2s {S : sp_S} {N : Nat → Int32} {i : Nat} (M : mn_R (mt_2 S i) N) (B : sp_B S) (hi : i < sp_loaves S) : mn_R (mt_2 S (i + 1)) (va_up (va_up N (22 + 5 * i) (nI (if ¬ sp_hold S i = 20 ∧ sp_age S i < 99 then sp_age S i + 1 else sp_age S i))) (21 + 5 * i) (nI (if sp_hold S i < sp_people S ∧ sp_dies S (sp_hold S i) = true then 10 else sp_hold S i))) := by
  obtain ⟨b_law, ⟨b_l1, b_lv⟩, ⟨b_b1, b_bd⟩, b_pp, b_lo, b_fa, b_at, b_nu, b_ho, b_ag⟩ := id B
  obtain ⟨M1, M2, M3⟩ := M
  refine ⟨fun p hp => ?_, fun l hl => ?_, ?_⟩
  · have hp : p < sp_people S := hp
    have := M1 p hp
    unfold va_up
    refine ⟨?_, ?_, ?_, ?_⟩
    all_goals rw [if_neg (by omega), if_neg (by omega)]
    · exact this.1
    · exact this.2.1
    · exact this.2.2.1
    · exact this.2.2.2
  · have hl : l < sp_loaves S := hl
    obtain ⟨q0, q1, q2, q3, q4⟩ := M2 l hl
    have g1 : sp_hold (mt_2 S (i + 1)) l = if l < i + 1 ∧ (sp_hold S l < sp_people S ∧ sp_dies S (sp_hold S l) = true) then 10 else sp_hold S l := rfl
    have g2 : sp_age (mt_2 S (i + 1)) l = if l < i + 1 then (if ¬ sp_hold S l = 20 ∧ sp_age S l < 99 then sp_age S l + 1 else sp_age S l) else sp_age S l := rfl
    have f1 : sp_hold (mt_2 S i) l = if l < i ∧ (sp_hold S l < sp_people S ∧ sp_dies S (sp_hold S l) = true) then 10 else sp_hold S l := rfl
    have f2 : sp_age (mt_2 S i) l = if l < i then (if ¬ sp_hold S l = 20 ∧ sp_age S l < 99 then sp_age S l + 1 else sp_age S l) else sp_age S l := rfl
    rw [f1] at q1
    rw [f2] at q2
    rw [g1, g2]
    unfold va_up
    by_cases e : l = i
    · subst e
      refine ⟨?_, ?_, ?_, ?_, ?_⟩
      · rw [if_neg (by omega), if_neg (by omega)]; exact q0
      · rw [if_pos rfl]
        congr 1
        by_cases c : sp_hold S l < sp_people S ∧ sp_dies S (sp_hold S l) = true
        · rw [if_pos c, if_pos ⟨by omega, c⟩]
        · rw [if_neg c, if_neg (fun z => c z.2)]
      · rw [if_neg (by omega), if_pos rfl, if_pos (show l < l + 1 by omega)]
      · rw [if_neg (by omega), if_neg (by omega)]; exact q3
      · rw [if_neg (by omega), if_neg (by omega)]; exact q4
    · have hpi : (l < i + 1) = (l < i) := propext (by omega)
      simp only [hpi]
      refine ⟨?_, ?_, ?_, ?_, ?_⟩
      all_goals rw [if_neg (by omega), if_neg (by omega)]
      · exact q0
      · exact q1
      · exact q2
      · exact q3
      · exact q4
  · unfold va_up
    rw [if_neg (by omega), if_neg (by omega)]
    exact M3
theorem mt_3 {S : sp_S} {N : Nat → Int32} (M : mn_R (mt_2 S (sp_loaves S)) N) (B : sp_B S) : mn_R (sp_pass S) (va_up N 70 (sp_day S + 1)) := by
  obtain ⟨b_law, ⟨b_l1, b_lv⟩, ⟨b_b1, b_bd⟩, b_pp, b_lo, b_fa, b_at, b_nu, b_ho, b_ag⟩ := id B
  obtain ⟨M1, M2, M3⟩ := M
  refine ⟨fun p hp => ?_, fun l hl => ?_, ?_⟩
  · have hp : p < sp_people S := hp
    have := M1 p hp
    unfold va_up
    refine ⟨?_, ?_, ?_, ?_⟩
    all_goals rw [if_neg (by omega)]
    · exact this.1
    · exact this.2.1
    · exact this.2.2.1
    · exact this.2.2.2
  · have hl : l < sp_loaves S := hl
    obtain ⟨q0, q1, q2, q3, q4⟩ := M2 l hl
    have h20 := b_ho l
    have h99 := b_ag l
    have g1 : sp_hold (sp_pass S) l = if l < sp_loaves S ∧ sp_hold S l < sp_people S ∧ sp_dies S (sp_hold S l) = true then 10 else sp_hold S l := rfl
    have g2 : sp_age (sp_pass S) l = if l < sp_loaves S ∧ ¬ (if l < sp_loaves S ∧ sp_hold S l < sp_people S ∧ sp_dies S (sp_hold S l) = true then 10 else sp_hold S l) = 20 then (if 99 < sp_age S l + 1 then 99 else sp_age S l + 1) else sp_age S l := rfl
    have f1 : sp_hold (mt_2 S (sp_loaves S)) l = if l < sp_loaves S ∧ (sp_hold S l < sp_people S ∧ sp_dies S (sp_hold S l) = true) then 10 else sp_hold S l := rfl
    have f2 : sp_age (mt_2 S (sp_loaves S)) l = if l < sp_loaves S then (if ¬ sp_hold S l = 20 ∧ sp_age S l < 99 then sp_age S l + 1 else sp_age S l) else sp_age S l := rfl
    rw [f1] at q1
    rw [f2, if_pos hl] at q2
    have ea : sp_age (sp_pass S) l = if ¬ sp_hold S l = 20 ∧ sp_age S l < 99 then sp_age S l + 1 else sp_age S l := by
      have hx : ((if l < sp_loaves S ∧ sp_hold S l < sp_people S ∧ sp_dies S (sp_hold S l) = true then 10 else sp_hold S l) = 20) = (sp_hold S l = 20) := by
        apply propext
        by_cases c : l < sp_loaves S ∧ sp_hold S l < sp_people S ∧ sp_dies S (sp_hold S l) = true
        · rw [if_pos c]; have := c.2.1; omega
        · rw [if_neg c]
      rw [g2]
      simp only [hx]
      by_cases d : sp_hold S l = 20
      · rw [if_neg (by omega), if_neg (by omega)]
      · rw [if_pos (show l < sp_loaves S ∧ ¬ sp_hold S l = 20 from ⟨hl, d⟩)]
        by_cases e : sp_age S l < 99
        · rw [if_neg (by omega), if_pos (show ¬ sp_hold S l = 20 ∧ sp_age S l < 99 from ⟨d, e⟩)]
        · rw [if_neg (fun z : ¬ sp_hold S l = 20 ∧ sp_age S l < 99 => e z.2)]
          split <;> omega
    rw [g1, ea]
    unfold va_up
    refine ⟨?_, ?_, ?_, ?_, ?_⟩
    all_goals rw [if_neg (by omega)]
    · exact q0
    · exact q1
    · exact q2
    · exact q3
    · exact q4
  · unfold va_up
    rw [if_pos rfl]
    rfl
theorem mq_goBy {h : bn_H} {S : sp_S} (H : mg h S) (B : sp_B S) : ∃ h', bn_ev 102 0 [some (.ref 222), none, none, none] [] h = some (some (.int (sp_died S)), h') ∧ sg_F (fun q => q = 224) h h' ∧ mg h' (sp_pass S) := by
  obtain ⟨b_law, ⟨b_l1, b_lv⟩, ⟨b_b1, b_bd⟩, b_pp, b_lo, b_fa, b_at, b_nu, b_ho, b_ag⟩ := id B
  obtain ⟨fi, N, O, A, R, M⟩ := H
  have R0 := R
  obtain ⟨r7, r8, r9, r10, r11⟩ := R
  have key1 : ∀ r i o h N d, i + r = sp_people S → mo h fi (sp_seed S) → sg_A h 224 0 71 N → mn_R (mt_1 S i) N → ∃ h' N' o', bn_ev 102 4 [some (.ref 222), some (.int d), some (.int (nI i)), o] [] h = bn_ev 102 4 [some (.ref 222), some (.int (sp_fold (sp_g1 (sp_dies S)) r i d)), some (.int (nI (sp_people S))), o'] [] h' ∧ sg_F (fun q => q = 224) h h' ∧ mo h' fi (sp_seed S) ∧ sg_A h' 224 0 71 N' ∧ mn_R (mt_1 S (sp_people S)) N' := by
    intro r
    induction r with
    | zero =>
      intro i o h N d hi O A M
      have hi : i = sp_people S := by omega
      subst hi
      exact ⟨h, N, o, rfl, sg_F.rf, O, A, M⟩
    | succ r ih =>
      intro i o h N d hi O A M
      have hip : i < sp_people S := by omega
      obtain ⟨q0, q1, q2, q3⟩ := M.1 i hip
      have f0 : sp_fasted (mt_1 S i) i = sp_fasted S i := by show (if i < i ∧ _ then _ else _) = _; rw [if_neg (by omega)]
      have f2 : sp_ate (mt_1 S i) i = sp_ate S i := by show (if i < i then _ else _) = _; rw [if_neg (by omega)]
      have f1 : sp_al (mt_1 S i) i = decide (sp_fasted S i ≤ sp_lives S) := by unfold sp_al; rw [f0]; rfl
      rw [f0] at q0
      rw [f1] at q1
      rw [f2] at q2
      obtain ⟨h1, e1, F1, A1⟩ := mq_gb d o O A (by omega) (b_fa i) (b_at i) b_lv q0 q1 q2 r8 r10 b_pp hip
      have hd : (if (sp_fasted S i ≤ sp_lives S ∧ sp_ate S i = 0) ∧ sp_lives S < sp_fasted S i + 1 then d ||| bn_shl 1 (nI i) else d) = sp_g1 (sp_dies S) i d := by
        unfold sp_g1 sp_dies sp_hung sp_al
        simp only [Bool.and_eq_true, decide_eq_true_eq]
      rw [hd] at e1
      obtain ⟨h2, N2, o2, e2, F2, O2, A2, M2⟩ := ih (i + 1) _ h1 _ (sp_g1 (sp_dies S) i d) (by omega) (O.fr F1 (by omega)) A1 (mt_1s M B hip)
      exact ⟨h2, N2, o2, e1.trans e2, F1.tr F2, O2, A2, M2⟩
  have key2 : ∀ r i o h N, i + r = sp_loaves S → mo h fi (sp_seed S) → sg_A h 224 0 71 N → mn_R (mt_2 S i) N → ∃ h' N' o', bn_ev 102 138 [some (.ref 222), some (.int (sp_died S)), some (.int (nI i)), o] [] h = bn_ev 102 138 [some (.ref 222), some (.int (sp_died S)), some (.int (nI (sp_loaves S))), o'] [] h' ∧ sg_F (fun q => q = 224) h h' ∧ mo h' fi (sp_seed S) ∧ sg_A h' 224 0 71 N' ∧ mn_R (mt_2 S (sp_loaves S)) N' := by
    intro r
    induction r with
    | zero =>
      intro i o h N hi O A M
      have hi : i = sp_loaves S := by omega
      subst hi
      exact ⟨h, N, o, rfl, sg_F.rf, O, A, M⟩
    | succ r ih =>
      intro i o h N hi O A M
      have hip : i < sp_loaves S := by omega
      obtain ⟨q0, q1, q2, q3, q4⟩ := M.2.1 i hip
      have f1 : sp_hold (mt_2 S i) i = sp_hold S i := by show (if i < i ∧ _ then _ else _) = _; rw [if_neg (by omega)]
      have f2 : sp_age (mt_2 S i) i = sp_age S i := by show (if i < i then _ else _) = _; rw [if_neg (by omega)]
      rw [f1] at q1
      rw [f2] at q2
      obtain ⟨h1, e1, F1, A1⟩ := mq_gl (n := sp_people S) (sp_dies S) o O A b_lo hip (b_ho i) (b_ag i) b_pp q1 q2 r11
      obtain ⟨h2, N2, o2, e2, F2, O2, A2, M2⟩ := ih (i + 1) _ h1 _ (by omega) (O.fr F1 (by omega)) A1 (mt_2s M B hip)
      exact ⟨h2, N2, o2, e1.trans e2, F1.tr F2, O2, A2, M2⟩
  have M0 : mn_R (mt_1 S 0) N := by
    obtain ⟨M1, M2, M3⟩ := M
    refine ⟨fun p hp => ?_, M2, M3⟩
    have := M1 p hp
    have f0 : sp_fasted (mt_1 S 0) p = sp_fasted S p := by
      have e : sp_fasted (mt_1 S 0) p = if p < 0 ∧ sp_hung S p = true then sp_fasted S p + 1 else sp_fasted S p := rfl
      rw [e, if_neg (by omega)]
    have f2 : sp_ate (mt_1 S 0) p = sp_ate S p := by
      have e : sp_ate (mt_1 S 0) p = if p < 0 then 0 else sp_ate S p := rfl
      rw [e, if_neg (by omega)]
    have f1 : sp_al (mt_1 S 0) p = sp_al S p := by unfold sp_al; rw [f0]; rfl
    rw [f0, f1, f2]
    exact this
  obtain ⟨h1, N1, o1, e1, F1, O1, A1, M1⟩ := key1 (sp_people S) 0 none h N 0 (by omega) O A M0
  have M1' : mn_R (mt_2 S 0) N1 := by
    obtain ⟨m1, m2, m3⟩ := M1
    refine ⟨m1, fun l hl => ?_, m3⟩
    have := m2 l hl
    have f1 : sp_hold (mt_2 S 0) l = sp_hold S l := by
      have e : sp_hold (mt_2 S 0) l = if l < 0 ∧ (sp_hold S l < sp_people S ∧ sp_dies S (sp_hold S l) = true) then 10 else sp_hold S l := rfl
      rw [e, if_neg (by omega)]
    have f2 : sp_age (mt_2 S 0) l = sp_age S l := by
      have e : sp_age (mt_2 S 0) l = if l < 0 then (if ¬ sp_hold S l = 20 ∧ sp_age S l < 99 then sp_age S l + 1 else sp_age S l) else sp_age S l := rfl
      rw [e, if_neg (by omega)]
    rw [f1, f2]
    exact this
  obtain ⟨h2, N2, o2, e2, F2, O2, A2, M2⟩ := key2 (sp_loaves S) 0 o1 h1 N1 (by omega) O1 A1 M1'
  obtain ⟨h3, e3, F3, A3⟩ := A2.sd (j := 70) (by omega) (by decide) (sp_day S + 1)
  refine ⟨h3, ?_, (F1.tr F2).tr F3, fi, _, O2.fr F3 (by omega), A3, mr_1 R0 rfl, mt_3 M2 B⟩
  refine (bs_X3_goBy_0 222 h).trans (e1.trans ?_)
  rw [bs_X3_goBy_4, mo_i10 O1, r10, if_pos (nI_le (Nat.le_refl _) (by omega))]
  refine e2.trans ?_
  rw [bs_X3_goBy_138, mo_i11 O2, r11, if_pos (nI_le (Nat.le_refl _) (by omega)), mo_r6 O2, show (70 : Int32) = nI 70 from rfl, A2.ld (by omega) (by omega), Option.bind_some, M2.2.2]
  rw [show sp_day (mt_2 S (sp_loaves S)) = sp_day S from rfl, e3, Option.bind_some]
