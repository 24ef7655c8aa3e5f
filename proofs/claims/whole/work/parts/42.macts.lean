/-! THE MODEL'S ACTS: rows are copied; acts, slots, what is simple -/
def cp_W (W : Nat → Int32) (b j : Nat) (N : Nat → Int32) : Nat → Int32 := fun i => if b ≤ i ∧ i < b + j then N (i - b) else W i
theorem cp_W0 (W : Nat → Int32) (b : Nat) (N : Nat → Int32) : cp_W W b 0 N = W := by
  funext i
  unfold cp_W
  rw [if_neg (by omega)]
theorem cp_Ws (W : Nat → Int32) (b j : Nat) (N : Nat → Int32) : va_up (cp_W W b j N) (b + j) (N j) = cp_W W b (j + 1) N := by
  funext i
  unfold cp_W va_up
  by_cases e : i = b + j
  · rw [if_pos e, if_pos (by omega), show i - b = j by omega]
  · rw [if_neg e]
    by_cases e2 : b ≤ i ∧ i < b + j
    · exact (if_pos e2).trans (if_pos (by omega)).symm
    · exact (if_neg e2).trans (if_neg (by omega)).symm
theorem cp_in {W : Nat → Int32} {b j : Nat} {N : Nat → Int32} {i : Nat} (h : i < j) : cp_W W b j N (b + i) = N i := by
  unfold cp_W
  rw [if_pos (by omega), show b + i - b = i by omega]
theorem cp_out {W : Nat → Int32} {b j : Nat} {N : Nat → Int32} {i : Nat} (h : i < b ∨ b + j ≤ i) : cp_W W b j N i = W i := by
  unfold cp_W
  rw [if_neg (by omega)]
theorem cp_loop {E : Nat → bn_H → bn_R} {c q q' n m a b : Nat} {N W : Nat → Int32} (I : bn_H → Prop) (hI : ∀ h h', I h → sg_F (fun k => k = q') h h' → I h') (step : ∀ j h, j < c → I h → E j h = (bn_ld h q 0 (nI (a + j))).bind fun x => (bn_sd h q' 0 (nI (b + j)) x).bind fun h' => E (j + 1) h') (hq : q ≠ q') (ha : a + c ≤ n) (hb : b + c ≤ m) (hn : n < 2 ^ 31) (hm : m < 2 ^ 31) {h : bn_H} (i0 : I h) (A : sg_A h q 0 n N) (A' : sg_A h q' 0 m W) : ∃ h', E 0 h = E c h' ∧ sg_F (fun k => k = q') h h' ∧ sg_A h' q' 0 m (cp_W W b c (fun i => N (a + i))) := by
  have key : ∀ r j h, j + r = c → I h → sg_A h q 0 n N → sg_A h q' 0 m (cp_W W b j (fun i => N (a + i))) → ∃ h', E j h = E c h' ∧ sg_F (fun k => k = q') h h' ∧ sg_A h' q' 0 m (cp_W W b c (fun i => N (a + i))) := by
    intro r
    induction r with
    | zero =>
      intro j h hj _ _ B'
      rw [show j = c by omega] at B' ⊢
      exact ⟨h, rfl, sg_F.rf, B'⟩
    | succ r ih =>
      intro j h hj ij B B'
      obtain ⟨h1, e1, F1, C⟩ := B'.sd (j := b + j) (by omega) hm (N (a + j))
      rw [cp_Ws (N := fun i => N (a + i))] at C
      obtain ⟨h2, e2, F2, C2⟩ := ih (j + 1) h1 (by omega) (hI _ _ ij F1) (B.fr F1 hq) C
      refine ⟨h2, ?_, F1.tr F2, C2⟩
      rw [step j h (by omega) ij, B.ld (by omega) hn, Option.bind_some, e1, Option.bind_some, e2]
  exact key c 0 h (by omega) i0 A (by rw [cp_W0]; exact A')
theorem m71 {j : Nat} (h : j < 71) : ¬ (71 : Int32) ≤ nI j := nI_ge (b := 71) h (by omega)
def mq_ok (mi : Nat) (as : bn_L) (h : bn_H) (r : Int32) (X' : ct_X) : Prop := ∃ h', bn_ev mi 0 as [] h = some (some (.int r), h') ∧ mw h' X' ∧ sg_F mw_P h h'
theorem mq_ok.same {mi : Nat} {as : bn_L} {h : bn_H} {r : Int32} {X : ct_X} (H : mw h X) (e : bn_ev mi 0 as [] h = some (some (.int r), h)) : mq_ok mi as h r X := ⟨h, e, H, sg_F.rf⟩
theorem mw_eq {q : Nat} (hq : 222 ≤ q) : ∀ k, k = q → mw_P k := fun k hk => by unfold mw_P; omega
theorem n1 (a : Nat) : nI a + 1 = nI (a + 1) := nI_1 a
theorem mn_cg {S : sp_S} {N N' : Nat → Int32} (H : mn_R S N) (e : ∀ j, j < 71 → N' j = N j) (hp : sp_people S ≤ 5) (hl : sp_loaves S ≤ 10) : mn_R S N' := by
  obtain ⟨m1, m2, m3⟩ := H
  refine ⟨fun p q => ?_, fun l q => ?_, ?_⟩
  · rw [e _ (by omega), e _ (by omega), e _ (by omega), e _ (by omega)]; exact m1 p q
  · rw [e _ (by omega), e _ (by omega), e _ (by omega), e _ (by omega), e _ (by omega)]; exact m2 l q
  · rw [e _ (by omega)]; exact m3
theorem mr_cg {S : sp_S} {fi fi' : Nat → Int32} (H : mr_R S fi) (e : ∀ j, 7 ≤ j → j ≤ 11 → fi' j = fi j) : mr_R S fi' := by
  unfold mr_R at H ⊢
  rw [e 7 (by omega) (by omega), e 8 (by omega) (by omega), e 9 (by omega) (by omega), e 10 (by omega) (by omega), e 11 (by omega) (by omega)]
  exact H
theorem mr_1 {S T : sp_S} {fi : Nat → Int32} (H : mr_R S fi) (e : T.1 = S.1) : mr_R T fi := by
  unfold mr_R at H ⊢
  rw [show sp_law T = sp_law S from congrArg (fun z => z.1) e, show sp_lives T = sp_lives S from congrArg (fun z => z.2.1) e, show sp_badAt T = sp_badAt S from congrArg (fun z => z.2.2.1) e, show sp_people T = sp_people S from congrArg (fun z => z.2.2.2.1) e, show sp_loaves T = sp_loaves S from congrArg (fun z => z.2.2.2.2) e]
  exact H
section MA
variable {h : bn_H} {X : ct_X}
theorem mq_keepAct (H : mw h X) (hB : ct_B X) : ∃ h', bn_ev 94 0 [some (.ref 222), none] [] h = some (none, h') ∧ mw h' (ct_rem X X.2.1) ∧ sg_F mw_P h h' := by
  obtain ⟨fi, N, O, A, R, M, ⟨t1, t2⟩, ⟨nx, W, Z, a1, a2, a3, a4, a5, a6, a7⟩, k, r⟩ := H
  have b_pp := hB.2.2.1.2.2.2.1
  have b_lo := hB.2.2.1.2.2.2.2.1
  obtain ⟨h1, e1, F1, A1⟩ := cp_loop (E := fun j h => bn_ev 94 2 [some (.ref 222), some (.int (nI j))] [] h) (c := 71) (q := 224) (q' := 226) (a := 0) (b := 72 * nx) (N := N) (W := W) (fun h => mo h fi (sp_seed X.2.1)) (fun h h' i F => i.fr F (by omega)) (fun j h hj i => by
    show bn_ev 94 2 _ _ _ = _
    rw [bs_X3_keepAct_2, if_neg (m71 hj), mo_r19 i, mo_i18 i, mo_r6 i, a4, show (72 : Int32) * nI nx + nI j = nI (72 * nx + j) from by rw [show (72 : Int32) * nI nx = nI (72 * nx) from pk_mul 72 nx, nI_add], n1, Nat.zero_add]) (by omega) (by omega) (by omega) (by omega) (by omega) O A a5
  have O1 := O.fr F1 (by omega)
  have Z1 := a6.fr F1 (by omega)
  obtain ⟨h2, e2, F2, Z2⟩ := Z1.sd a1 (by omega) (sp_seed X.2.1)
  have O2 := O1.fr F2 (by omega)
  obtain ⟨h3, e3, F3, O3⟩ := mo_p18 O2 (nI ((nx + 1) % 20))
  have hx : bn_rem (nI nx + 1) 20 = nI ((nx + 1) % 20) := by rw [n1]; exact pk_rem (d := 20) (by omega) (by decide) (by decide)
  have hx2 : (nx + 1) % 20 < 20 := Nat.mod_lt _ (by omega)
  obtain ⟨h4, e4, F4, O4⟩ := mo_p17 O3 (nI (X.2.1 :: X.2.2.1 |>.take 20).length)
  have el : ((X.2.1 :: X.2.2.1).take 20).length = if 20 ≤ X.2.2.1.length then 20 else X.2.2.1.length + 1 := by
    rw [List.length_take, List.length_cons]
    split <;> omega
  have i17 : va_up fi 18 (nI ((nx + 1) % 20)) 17 = nI X.2.2.1.length := by unfold va_up; rw [if_neg (by omega)]; exact a3
  have F : sg_F mw_P h h4 := ((((F1.mono (mw_eq (by omega))).tr (F2.mono (mw_eq (by omega)))).tr (F3.mono (mw_eq (by omega)))).tr (F4.mono (mw_eq (by omega))))
  have fr3 : ∀ {f : Nat → Int32} {q t n : Nat}, sg_A h q t n f → q ≠ 226 → q ≠ 227 → q ≠ 222 → sg_A h4 q t n f := fun a z1 z2 z3 => (((a.fr F1 z1).fr F2 z2).fr F3 z3).fr F4 z3
  refine ⟨h4, ?_, ?_, F⟩
  · refine (bs_X3_keepAct_0 222 h).trans (e1.trans ?_)
    show bn_ev 94 2 _ _ _ = _
    rw [bs_X3_keepAct_2, if_pos (show (71 : Int32) ≤ nI 71 by decide), mo_r20 O1, mo_i18 O1, mo_s O1, a4, e2, Option.bind_some, mo_i18 O2, a4, hx, e3, Option.bind_some, mo_i17 O3, i17]
    rw [el] at e4
    by_cases q : 20 ≤ X.2.2.1.length
    · rw [if_pos q] at e4
      rw [if_pos (show (20 : Int32) ≤ nI X.2.2.1.length from nI_le (a := 20) q (by omega)), show (20 : Int32) = nI 20 from rfl, e4, Option.bind_some]
    · rw [if_neg q] at e4
      rw [if_neg (show ¬ (20 : Int32) ≤ nI X.2.2.1.length from nI_ge (b := 20) (by omega) (by omega)), mo_i17 O3, i17, n1, e4, Option.bind_some]
  · refine ⟨_, N, O4, fr3 A (by omega) (by omega) (by omega), mr_cg R (fun j x y => by unfold va_up; rw [if_neg (by omega), if_neg (by omega)]), M, ⟨?_, fr3 t2 (by omega) (by omega) (by omega)⟩, ⟨(nx + 1) % 20, _, _, hx2, ?_, ?_, ?_, ((A1.fr F2 (by omega)).fr F3 (by omega)).fr F4 (by omega), (Z2.fr F3 (by omega)).fr F4 (by omega), ?_⟩, (((k.fr F1 (fun q x y => by omega)).fr F2 (fun q x y => by omega)).fr F3 (fun q x y => by omega)).fr F4 (fun q x y => by omega), (((r.fr F1 (fun q x => by omega)).fr F2 (fun q x => by omega)).fr F3 (fun q x => by omega)).fr F4 (fun q x => by omega)⟩
    · unfold va_up
      rw [if_neg (by omega), if_neg (by omega)]
      exact t1
    · show ((X.2.1 :: X.2.2.1).take 20).length ≤ 20
      rw [List.length_take]; omega
    · unfold va_up
      rw [if_pos rfl]
      rfl
    · unfold va_up
      rw [if_neg (by omega), if_pos rfl]
    · intro k a hk
      have hk : ((X.2.1 :: X.2.2.1).take 20)[k]? = some a := hk
      rw [List.getElem?_take] at hk
      by_cases q : k < 20
      · rw [if_pos q] at hk
        cases k with
        | zero =>
          have : X.2.1 = a := by simpa using hk
          subst this
          have e : ((nx + 1) % 20 + 19 - 0) % 20 = nx := by omega
          rw [e]
          refine ⟨mn_cg M (fun j hj => ?_) b_pp b_lo, ?_⟩
          · rw [cp_in hj, Nat.zero_add]
          · unfold va_up; rw [if_pos rfl]
        | succ k =>
          have hk : X.2.2.1[k]? = some a := by simpa using hk
          have e : ((nx + 1) % 20 + 19 - (k + 1)) % 20 = (nx + 19 - k) % 20 := by omega
          have ne : (nx + 19 - k) % 20 ≠ nx := by omega
          have lt : (nx + 19 - k) % 20 < 20 := Nat.mod_lt _ (by omega)
          rw [e]
          obtain ⟨m, z⟩ := a7 k a hk
          have ha := hB.2.2.2.1 a (List.mem_of_getElem? hk)
          refine ⟨mn_cg m (fun j hj => ?_) ha.1.2.2.2.1 ha.1.2.2.2.2.1, ?_⟩
          · rw [cp_out (by omega)]
          · unfold va_up; rw [if_neg ne]; exact z
      · rw [if_neg q] at hk; cases hk
theorem mq_seed (H : mw h X) (y : Int64) : ∃ h', bn_ev 109 0 [some (.ref 222), some (.long y), none, none, none] [] h = some (some (.long (ca_seed X y).1), h') ∧ mw h' (ca_seed X y).2 ∧ sg_F mw_P h h' := by
  obtain ⟨fi, N, O, A, R, M, ⟨t1, t2⟩, a, k, r⟩ := H
  obtain ⟨h1, e1, F1, O1⟩ := mo_ps O y
  refine ⟨h1, ?_, ⟨fi, N, O1, A.fr F1 (by omega), mr_1 R rfl, M, ⟨t1, t2.fr F1 (by omega)⟩, a.fr F1 (by omega) (by omega), k.fr F1 (fun q x y => by omega), r.fr F1 (fun q x => by omega)⟩, F1.mono (mw_eq (by omega))⟩
  rw [bs_X3_seed_0, mo_s O, e1]
  rfl
theorem mq_wipe (H : mw h X) : mq_ok 79 [some (.ref 222), none] h (nI X.1.1) ((0, X.1.2), X.2) := by
  obtain ⟨fi, N, O, A, R, M, ⟨t1, t2⟩, ⟨nx, W, Z, a1, a2, a3, a4, a5, a6, a7⟩, k, r⟩ := H
  obtain ⟨h1, e1, F1, O1⟩ := mo_p14 O 0
  refine ⟨h1, ?_, ⟨_, N, O1, A.fr F1 (by omega), mr_cg R (fun j x y => by unfold va_up; rw [if_neg (by omega)]), M, ⟨?_, t2.fr F1 (by omega)⟩, ⟨nx, W, Z, a1, a2, ?_, ?_, a5.fr F1 (by omega), a6.fr F1 (by omega), a7⟩, k.fr F1 (fun q x y => by omega), r.fr F1 (fun q x => by omega)⟩, F1.mono (mw_eq (by omega))⟩
  · rw [bs_X3_wipe_0, mo_i14 O, t1, e1]
    rfl
  · unfold va_up; rw [if_pos rfl]; rfl
  · unfold va_up; rw [if_neg (by omega)]; exact a3
  · unfold va_up; rw [if_neg (by omega)]; exact a4
theorem mq_undo (H : mw h X) (hB : ct_B X) : mq_ok 108 [some (.ref 222), none] h (ca_undo X).1 (ca_undo X).2 := by
  have H0 := H
  obtain ⟨fi, N, O, A, R, M, ⟨t1, t2⟩, ⟨nx, W, Z, a1, a2, a3, a4, a5, a6, a7⟩, k, r⟩ := H
  have e0 := bs_X3_undo_0 222 h
  rw [mo_i17 O, a3, sp_if0 (by omega), mo_i17 O, a3] at e0
  unfold ca_undo
  cases hA : X.2.2.1 with
  | nil =>
    rw [hA, if_pos (show ([] : List sp_S).length = 0 from rfl)] at e0
    exact mq_ok.same H0 e0
  | cons a L =>
    rw [hA] at e0 a2 a3 a7
    rw [if_neg (show ¬ (a :: L).length = 0 from by simp)] at e0
    have ll : (a :: L).length = L.length + 1 := rfl
    rw [ll] at a2 a3 e0
    obtain ⟨h1, e1, F1, O1⟩ := mo_p17 O (nI L.length)
    have i18 : va_up fi 17 (nI L.length) 18 = nI nx := by unfold va_up; rw [if_neg (by omega)]; exact a4
    obtain ⟨h2, e2, F2, O2⟩ := mo_p18 O1 (nI ((nx + 19) % 20))
    have hx : bn_rem (nI nx + 19) 20 = nI ((nx + 19) % 20) := by
      rw [show nI nx + 19 = nI (nx + 19) from nI_add nx 19]
      exact pk_rem (d := 20) (by omega) (by decide) (by decide)
    have hx2 : (nx + 19) % 20 < 20 := Nat.mod_lt _ (by omega)
    have hm := hB.2.2.2.1 a (by rw [hA]; exact List.mem_cons_self)
    obtain ⟨m, z⟩ := a7 0 a rfl
    have i18' : ∀ x, va_up (va_up fi 17 (nI L.length)) 18 x 18 = x := fun x => by unfold va_up; rw [if_pos rfl]
    have i17' : ∀ x, va_up (va_up fi 17 (nI L.length)) 18 x 17 = nI L.length := fun x => by unfold va_up; rw [if_neg (by omega), if_pos rfl]
    obtain ⟨h3, e3, F3, A3⟩ := cp_loop (E := fun j h => bn_ev 108 36 [some (.ref 222), some (.int (nI j))] [] h) (c := 71) (q := 226) (q' := 224) (a := 72 * ((nx + 19) % 20)) (b := 0) (N := W) (W := N) (fun h => mo h _ (sp_seed X.2.1)) (fun h h' i F => i.fr F (by omega)) (fun j h hj i => by
      show bn_ev 108 36 _ _ _ = _
      rw [bs_X3_undo_36, if_neg (m71 hj), mo_r6 i, mo_r19 i, mo_i18 i, i18', show (72 : Int32) * nI ((nx + 19) % 20) + nI j = nI (72 * ((nx + 19) % 20) + j) from by rw [show (72 : Int32) * nI ((nx + 19) % 20) = nI (72 * ((nx + 19) % 20)) from pk_mul 72 _, nI_add], n1, Nat.zero_add]) (by omega) (by omega) (by omega) (by omega) (by omega) O2 ((a5.fr F1 (by omega)).fr F2 (by omega)) ((A.fr F1 (by omega)).fr F2 (by omega))
    have O3 := O2.fr F3 (by omega)
    have Z3 := ((a6.fr F1 (by omega)).fr F2 (by omega)).fr F3 (by omega)
    obtain ⟨h4, e4, F4, O4⟩ := mo_ps O3 (Z ((nx + 19) % 20))
    have F : sg_F mw_P h h4 := ((((F1.mono (mw_eq (by omega))).tr (F2.mono (mw_eq (by omega)))).tr (F3.mono (mw_eq (by omega)))).tr (F4.mono (mw_eq (by omega))))
    have fr3 : ∀ {f : Nat → Int32} {q t n : Nat}, sg_A h q t n f → q ≠ 224 → q ≠ 222 → sg_A h4 q t n f := fun a z1 z2 => (((a.fr F1 z2).fr F2 z2).fr F3 z1).fr F4 z2
    refine ⟨h4, ?_, ⟨_, _, by rw [← z]; exact O4, A3.fr F4 (by omega), mr_1 (mr_cg R (fun j x y => ?_)) hm.2, mn_cg m (fun j hj => ?_) hm.1.2.2.2.1 hm.1.2.2.2.2.1, ⟨?_, fr3 t2 (by omega) (by omega)⟩, ⟨(nx + 19) % 20, W, Z, hx2, ?_, i17' _, i18' _, fr3 a5 (by omega) (by omega), Z3.fr F4 (by omega), fun i b hi => ?_⟩, (((k.fr F1 (fun q x y => by omega)).fr F2 (fun q x y => by omega)).fr F3 (fun q x y => by omega)).fr F4 (fun q x y => by omega), (((r.fr F1 (fun q x => by omega)).fr F2 (fun q x => by omega)).fr F3 (fun q x => by omega)).fr F4 (fun q x => by omega)⟩, F⟩
    · refine e0.trans ?_
      rw [show nI (L.length + 1) - 1 = nI L.length from pk_sub (b := 1) (by omega), e1, Option.bind_some, mo_i18 O1, i18, hx, e2, Option.bind_some]
      refine e3.trans ?_
      show bn_ev 108 36 _ _ _ = _
      rw [bs_X3_undo_36, if_pos (show (71 : Int32) ≤ nI 71 by decide), mo_r20 O3, mo_i18 O3, i18', Z3.ld hx2 (by omega), Option.bind_some, e4, Option.bind_some, mo_i17 O4, i17']
    · unfold va_up
      rw [if_neg (by omega), if_neg (by omega)]
    · have := cp_in (W := N) (b := 0) (N := fun i => W (72 * ((nx + 19) % 20) + i)) hj
      rw [Nat.zero_add] at this
      rw [this]
      rfl
    · unfold va_up
      rw [if_neg (by omega), if_neg (by omega)]
      exact t1
    · show L.length ≤ 20
      omega
    · have hi : L[i]? = some b := hi
      have hil : i < L.length := by
        rcases Nat.lt_or_ge i L.length with q | q
        · exact q
        · rw [List.getElem?_eq_none q] at hi; cases hi
      have e : ((nx + 19) % 20 + 19 - i) % 20 = (nx + 19 - (i + 1)) % 20 := by omega
      rw [e]
      exact a7 (i + 1) b (by simpa using hi)
theorem sp_in_01 (x : Int32) (h : bn_H) : bn_ev 77 0 [some (.long x.toInt64), none, some (.long 0), none, some (.long 1), none] [] h = some (some (.int (sp_b (sp_in x 2))), h) := mq_inI h x 2 (by omega)
theorem mq_keep (H : mw h X) (hB : ct_B X) (a1 : Int32) : mq_ok 126 [some (.ref 222), some (.int a1), none] h (ca_keep X a1).1 (ca_keep X a1).2 := by
  have H0 := H
  obtain ⟨fi, N, O, A, R, M, ⟨t1, t2⟩, ⟨nx, W, Z, a1', a2, a3, a4, a5, a6, a7⟩, ⟨Q, Y, k1, k2, k3, k4⟩, r⟩ := H
  have e0 := bs_X3_keep_0 222 a1 h
  rw [sp_in_01] at e0
  simp only [bn_cI, sp_b_eq0] at e0
  unfold ca_keep
  cases hi : sp_in a1 2 with
  | false => rw [hi] at e0; exact mq_ok.same H0 e0
  | true =>
    rw [hi] at e0
    obtain ⟨j, hj, rfl⟩ := sp_in_nI hi (by omega)
    simp only [nI_clamp (show j < 2 ^ 31 by omega), if_true]
    simp only [Bool.true_eq_false, if_false, mo_r26 O, show vp_nar .boolean 1 = 1 from nar_1] at e0
    have b_pp := hB.2.2.1.2.2.2.1
    have b_lo := hB.2.2.1.2.2.2.2.1
    obtain ⟨h1, e1, F1, K1⟩ := k1.sd hj (by decide) 1
    have O1 := O.fr F1 (by omega)
    obtain ⟨h2, e2, F2, K2⟩ := cp_loop (E := fun i h => bn_ev 126 21 [some (.ref 222), some (.int (nI j)), some (.int (nI i))] [] h) (c := 71) (q := 224) (q' := 233) (a := 0) (b := 72 * j) (N := N) (W := Q) (fun h => mo h fi (sp_seed X.2.1)) (fun h h' i F => i.fr F (by omega)) (fun i h hi o => by
      show bn_ev 126 21 _ _ _ = _
      rw [bs_X3_keep_21, if_neg (m71 hi), mo_r27 o, mo_r6 o, show (72 : Int32) * nI j + nI i = nI (72 * j + i) from by rw [show (72 : Int32) * nI j = nI (72 * j) from pk_mul 72 j, nI_add], n1, Nat.zero_add]) (by omega) (by omega) (by omega) (by omega) (by omega) O1 (A.fr F1 (by omega)) (k2.fr F1 (by omega))
    have O2 := O1.fr F2 (by omega)
    obtain ⟨h3, e3, F3, K3⟩ := ((k3.fr F1 (by omega)).fr F2 (by omega)).sd hj (by decide) (sp_seed X.2.1)
    have O3 := O2.fr F3 (by omega)
    have A3 := ((A.fr F1 (by omega)).fr F2 (by omega)).fr F3 (by omega)
    have F : sg_F mw_P h h3 := (((F1.mono (mw_eq (by omega))).tr (F2.mono (mw_eq (by omega)))).tr (F3.mono (mw_eq (by omega))))
    refine ⟨h3, ?_, ⟨fi, N, O3, A3, R, M, ⟨t1, ((t2.fr F1 (by omega)).fr F2 (by omega)).fr F3 (by omega)⟩, ⟨nx, W, Z, a1', a2, a3, a4, ((a5.fr F1 (by omega)).fr F2 (by omega)).fr F3 (by omega), ((a6.fr F1 (by omega)).fr F2 (by omega)).fr F3 (by omega), a7⟩, ⟨_, _, ((K1.fr F2 (by omega)).fr F3 (by omega)).cg (fun i hi2 => ?_), K2.fr F3 (by omega), K3, fun i b hi2 hb => ?_⟩, ((r.fr F1 (fun q x => by omega)).fr F2 (fun q x => by omega)).fr F3 (fun q x => by omega)⟩, F⟩
    · refine e0.trans ?_
      rw [e1, Option.bind_some]
      refine e2.trans ?_
      show bn_ev 126 21 _ _ _ = _
      rw [bs_X3_keep_21, if_pos (show (71 : Int32) ≤ nI 71 by decide), mo_r28 O2, mo_s O2, e3, Option.bind_some, mo_r6 O3, show (70 : Int32) = nI 70 from rfl, A3.ld (by omega) (by omega), Option.bind_some, M.2.2]
    · show va_up _ j 1 i = sp_b (va_up X.2.2.2 j (some X.2.1) i).isSome
      unfold va_up
      by_cases q : i = j
      · rw [if_pos q, if_pos q]; rfl
      · rw [if_neg q, if_neg q]
    · have hb : va_up X.2.2.2 j (some X.2.1) i = some b := hb
      unfold va_up at hb
      by_cases q : i = j
      · subst q
        rw [if_pos rfl] at hb
        cases hb
        refine ⟨mn_cg M (fun x hx => ?_) b_pp b_lo, ?_⟩
        · rw [cp_in hx, Nat.zero_add]
        · unfold va_up; rw [if_pos rfl]
      · rw [if_neg q] at hb
        obtain ⟨m, z⟩ := k4 i b hi2 hb
        have hm := hB.2.2.2.2 i b hb
        refine ⟨mn_cg m (fun x hx => ?_) hm.1.2.2.2.1 hm.1.2.2.2.2.1, ?_⟩
        · rw [cp_out (by omega)]
        · unfold va_up; rw [if_neg q]; exact z
theorem mq_again (H : mw h X) (hB : ct_B X) (a1 : Int32) : mq_ok 127 [some (.ref 222), some (.int a1), none] h (ca_again X a1).1 (ca_again X a1).2 := by
  have H0 := H
  obtain ⟨fi, N, O, A, R, M, ⟨t1, t2⟩, ⟨nx, W, Z, a1', a2, a3, a4, a5, a6, a7⟩, ⟨Q, Y, k1, k2, k3, k4⟩, r⟩ := H
  have e0 := bs_X3_again_0 222 a1 h
  rw [sp_in_01] at e0
  simp only [bn_cI, sp_b_eq0] at e0
  unfold ca_again
  cases hi : sp_in a1 2 with
  | false => rw [hi] at e0; exact mq_ok.same H0 e0
  | true =>
    rw [hi] at e0
    obtain ⟨j, hj, rfl⟩ := sp_in_nI hi (by omega)
    simp only [nI_clamp (show j < 2 ^ 31 by omega), if_true]
    simp only [Bool.true_eq_false, if_false, mo_r26 O, k1.ld hj (by decide), Option.bind_some, sp_b_eq0] at e0
    cases hk : X.2.2.2 j with
    | none =>
      rw [hk] at e0
      exact mq_ok.same H0 e0
    | some b =>
      rw [hk] at e0
      simp only [Option.isSome_some, Bool.true_eq_false, if_false] at e0
      have hm := hB.2.2.2.2 j b hk
      obtain ⟨m, z⟩ := k4 j b hj hk
      obtain ⟨h1, e1, F1, A1⟩ := cp_loop (E := fun i h => bn_ev 127 26 [some (.ref 222), some (.int (nI j)), some (.int (nI i))] [] h) (c := 71) (q := 233) (q' := 224) (a := 72 * j) (b := 0) (N := Q) (W := N) (fun h => mo h fi (sp_seed X.2.1)) (fun h h' i F => i.fr F (by omega)) (fun i h hi o => by
        show bn_ev 127 26 _ _ _ = _
        rw [bs_X3_again_26, if_neg (m71 hi), mo_r6 o, mo_r27 o, show (72 : Int32) * nI j + nI i = nI (72 * j + i) from by rw [show (72 : Int32) * nI j = nI (72 * j) from pk_mul 72 j, nI_add], n1, Nat.zero_add]) (by omega) (by omega) (by omega) (by omega) (by omega) O k2 A
      have O1 := O.fr F1 (by omega)
      obtain ⟨h2, e2, F2, O2⟩ := mo_ps O1 (Y j)
      obtain ⟨h3, e3, F3, O3⟩ := mo_p17 O2 0
      have A3 := (A1.fr F2 (by omega)).fr F3 (by omega)
      have Mb : mn_R b (cp_W N 0 71 (fun i => Q (72 * j + i))) := mn_cg m (fun i hi => by
        have := cp_in (W := N) (b := 0) (N := fun i => Q (72 * j + i)) hi
        rw [Nat.zero_add] at this
        rw [this]) hm.1.2.2.2.1 hm.1.2.2.2.2.1
      have F : sg_F mw_P h h3 := (((F1.mono (mw_eq (by omega))).tr (F2.mono (mw_eq (by omega)))).tr (F3.mono (mw_eq (by omega))))
      refine ⟨h3, ?_, ⟨_, _, by rw [← z]; exact O3, A3, mr_1 (mr_cg R (fun i x y => by unfold va_up; rw [if_neg (by omega)])) hm.2, Mb, ⟨?_, ((t2.fr F1 (by omega)).fr F2 (by omega)).fr F3 (by omega)⟩, ⟨nx, W, Z, a1', by simp, ?_, ?_, ((a5.fr F1 (by omega)).fr F2 (by omega)).fr F3 (by omega), ((a6.fr F1 (by omega)).fr F2 (by omega)).fr F3 (by omega), fun i c hc => ?_⟩, ⟨Q, Y, ((k1.fr F1 (by omega)).fr F2 (by omega)).fr F3 (by omega), ((k2.fr F1 (by omega)).fr F2 (by omega)).fr F3 (by omega), ((k3.fr F1 (by omega)).fr F2 (by omega)).fr F3 (by omega), k4⟩, ((r.fr F1 (fun q x => by omega)).fr F2 (fun q x => by omega)).fr F3 (fun q x => by omega)⟩, F⟩
      · refine e0.trans (e1.trans ?_)
        show bn_ev 127 26 _ _ _ = _
        rw [bs_X3_again_26, if_pos (show (71 : Int32) ≤ nI 71 by decide), mo_r28 O1, (k3.fr F1 (by omega)).ld hj (by decide), Option.bind_some, e2, Option.bind_some, e3, Option.bind_some, mo_r6 O3, show (70 : Int32) = nI 70 from rfl, A3.ld (by omega) (by omega), Option.bind_some, Mb.2.2]
      · unfold va_up; rw [if_neg (by omega)]; exact t1
      · unfold va_up; rw [if_pos rfl]; rfl
      · unfold va_up; rw [if_neg (by omega)]; exact a4
      · cases hc
end MA
