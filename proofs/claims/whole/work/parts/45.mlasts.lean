/-! THE MODEL: HOW LONG IT LASTS AS IT IS -/
theorem sp_least_al {S : sp_S} {q l : Nat} (h : sp_least S q = some l) : sp_al S q = true := by
  have key : ∀ r i o, (o ≠ none → sp_al S q = true) → sp_fold (sp_gl S q) r i o ≠ none → sp_al S q = true := by
    intro r
    induction r with
    | zero => intro i o ho hh; exact ho hh
    | succ r ih =>
      intro i o ho hh
      refine ih (i + 1) (sp_gl S q i o) (fun hz => ?_) hh
      by_cases hm : sp_may S q i = true
      · unfold sp_may at hm
        simp only [Bool.and_eq_true] at hm
        exact hm.1
      · have e : sp_gl S q i o = o := by unfold sp_gl; rw [if_neg hm]
        rw [e] at hz
        exact ho hz
  exact key (sp_loaves S) 0 none (fun z => absurd rfl z) (by show sp_least S q ≠ none; rw [h]; exact fun z => by cases z)
theorem sp_feed_al {S : sp_S} {q : Nat} (l : Nat) (hal : sp_al S q = true) (p : Nat) : sp_al (sp_feed S q l) p = sp_al S p := by
  by_cases e : p = q
  · subst e
    rw [hal]
    unfold sp_al
    have : sp_fasted (sp_feed S p l) p = 0 := by show (if p = p then 0 else _) = _; rw [if_pos rfl]
    rw [this]
    exact decide_eq_true (Nat.zero_le _)
  · unfold sp_al
    have : sp_fasted (sp_feed S q l) p = sp_fasted S p := by show (if p = q then 0 else _) = _; rw [if_neg e]
    rw [this]
    rfl
theorem sp_gea_al (i : Nat) (S : sp_S) (p : Nat) : sp_al (sp_gea i S) p = sp_al S p := by
  unfold sp_gea
  cases hs : sp_least S i with
  | none => rfl
  | some l => exact sp_feed_al l (sp_least_al hs) p
theorem sp_pass_al (S : sp_S) {p : Nat} (hp : p < sp_people S) : sp_al (sp_pass S) p = (sp_al S p && !sp_dies S p) := by
  have e : sp_al (sp_pass S) p = decide ((if p < sp_people S ∧ sp_hung S p = true then sp_fasted S p + 1 else sp_fasted S p) ≤ sp_lives S) := rfl
  rw [e]
  have hd : sp_dies S p = (sp_hung S p && decide (sp_lives S < sp_fasted S p + 1)) := rfl
  rw [hd]
  cases hu : sp_hung S p with
  | false =>
    rw [if_neg (by simp)]
    unfold sp_al
    simp
  | true =>
    rw [if_pos ⟨hp, rfl⟩]
    have : sp_al S p = true := by
      unfold sp_hung at hu
      simp only [Bool.and_eq_true] at hu
      exact hu.1
    rw [this]
    by_cases c : sp_fasted S p + 1 ≤ sp_lives S
    · rw [decide_eq_true c, decide_eq_false (by omega)]; rfl
    · rw [decide_eq_false c, decide_eq_true (by omega)]; rfl
theorem sp_died0 {S : sp_S} (B : sp_B S) : (sp_died S = 0) = (∀ k, k < sp_people S → sp_dies S k = false) := by
  have := B.2.2.2.1
  apply propext
  unfold sp_died
  rw [sp_bits0 _ (by omega)]
  refine Iff.trans (sp_ct0 _ _ 0) ?_
  exact ⟨fun a k b => a k (by omega) (by omega), fun a k _ b => a k (by omega)⟩
theorem sp_at_cg {f g : Nat → Bool} : ∀ r i k, (∀ j, i ≤ j → j < i + r → f j = g j) → sp_at f r i k = sp_at g r i k := by
  intro r
  induction r with
  | zero => intro i k _; rfl
  | succ r ih =>
    intro i k h
    simp only [sp_at]
    rw [h i (by omega) (by omega)]
    have e := fun k => ih (i + 1) k (fun j a b => h j (by omega) (by omega))
    split
    · cases k with
      | zero => rfl
      | succ k => exact e k
    · exact e k
theorem mg_p22 {h : bn_H} {T : sp_S} {fi : Nat → Int32} {s : Int64} (G : mg h T) (O : mo h fi s) (x : Int32) : ∃ h', bn_pf h 222 3 22 (.int x) = some h' ∧ sg_F (fun q => q = 222) h h' ∧ mg h' T ∧ mo h' (va_up fi 22 x) s := by
  obtain ⟨h1, e1, F1, O1⟩ := mo_p22 O x
  obtain ⟨fi', N, O', A, R, M⟩ := G
  obtain ⟨h2, e2, F2, O2⟩ := mo_p22 O' x
  have : h1 = h2 := Option.some.inj (e1.symm.trans e2)
  subst this
  exact ⟨h1, e1, F1, ⟨_, N, O2, A.fr F1 (by omega), mr_cg R (fun j x y => by unfold va_up; rw [if_neg (by omega)]), M⟩, O1⟩
section ML
theorem mq_dayEat (a1 a2 : Int32) : ∀ r i o (h : bn_H) (T : sp_S), i + r = sp_people T → mg h T → sp_B T → ∃ h' o', bn_ev 111 61 [some (.ref 222), some (.int a1), some (.int a2), some (.int (nI i)), o] [] h = bn_ev 111 61 [some (.ref 222), some (.int a1), some (.int a2), some (.int (nI (sp_people T))), o'] [] h' ∧ sg_F (fun q => q = 224) h h' ∧ mg h' (sp_fold sp_gea r i T) ∧ sp_B (sp_fold sp_gea r i T) ∧ (sp_fold sp_gea r i T).1 = T.1 ∧ ∀ p, sp_al (sp_fold sp_gea r i T) p = sp_al T p := by
  intro r
  induction r with
  | zero =>
    intro i o h T hi H B
    have hi : i = sp_people T := by omega
    subst hi
    exact ⟨h, o, rfl, sg_F.rf, H, B, rfl, fun p => rfl⟩
  | succ r ih =>
    intro i o h T hi H B
    obtain ⟨b_law, ⟨b_l1, b_lv⟩, ⟨b_b1, b_bd⟩, b_pp, b_lo, b_fa, b_at, b_nu, b_ho, b_ag⟩ := id B
    have hip : i < sp_people T := by omega
    obtain ⟨hl, hb⟩ := mq_least H B hip
    have fs : sp_fold sp_gea (r + 1) i T = sp_fold sp_gea r (i + 1) (sp_gea i T) := rfl
    have al1 := sp_gea_al i T
    rw [bs_X3_layLasts_61, mg_people H, if_neg (nI_ge (by omega) (by omega)), mg_C H, hl, fs, ← nI_succ]
    simp only [bn_gd, bn_cI, if_true]
    cases hs : sp_least T i with
    | none =>
      have e : sp_gea i T = T := by unfold sp_gea; rw [hs]
      obtain ⟨h', o', g1, g2, g3, g4, g5, g6⟩ := ih (i + 1) (some (.int (-9))) h T (by omega) H B
      rw [e]
      refine ⟨h', o', ?_, g2, g3, g4, g5, g6⟩
      rw [if_pos (by decide)]
      exact g1
    | some l =>
      have e : sp_gea i T = sp_feed T i l := by unfold sp_gea; rw [hs]
      have hl10 := hb l hs
      obtain ⟨h1, e1, F1, H1⟩ := mq_eaten H B hip hl10 (sp_least_al hs)
      obtain ⟨h', o', g1, g2, g3, g4, g5, g6⟩ := ih (i + 1) (some (.int (nI l))) h1 (sp_feed T i l) (by show i + 1 + r = sp_people T; omega) H1 (sp_feed_B B _ _)
      rw [e]
      refine ⟨h', o', ?_, F1.tr g2, g3, g4, g5, fun p => ?_⟩
      · have e9 : sp_o (some l) = nI l := rfl
        have hn : ¬ nI l = -9 := by
          intro z
          have h1 := nI_pos (n := l) (by omega)
          rw [z] at h1
          exact h1 (by decide)
        rw [e9, if_neg hn, mg_C H, if_pos rfl, e1]
        simp only [bn_cV]
        exact g1
      · rw [g6 p, ← e, al1 p]
theorem mq_layLasts {h : bn_H} {X : ct_X} (H : mw h X) (hB : ct_B X) : ∃ h', bn_ev 111 0 [some (.ref 222), none, none, none, none] [] h = some (some (.int (ca_lasts X.2.1)), h') ∧ mw h' X ∧ (∃ fi, mo h' fi (sp_seed X.2.1) ∧ fi 22 = ca_first X.2.1) ∧ sg_F mw_P h h' := by
  have G := H.G
  have B := hB.2.2.1
  obtain ⟨b_law, ⟨b_l1, b_lv⟩, ⟨b_b1, b_bd⟩, b_pp, b_lo, b_fa, b_at, b_nu, b_ho, b_ag⟩ := id B
  obtain ⟨fi, N, O, A, R, M, ⟨t1, t2⟩, ⟨nx, W, Z, a1, a2, a3, a4, a5, a6, a7⟩, k, r⟩ := H
  have r0 := r
  obtain ⟨r1, ⟨fs, r2⟩, r3, r4, r5⟩ := r0
  obtain ⟨h1, e1, F1, G1, O1⟩ := mg_p22 G O (-9)
  have e0 := bs_X3_layLasts_0 222 h
  rw [e1, Option.bind_some, mg_C G1] at e0
  simp only [bn_gd, if_true, mq_alive G1 B, bn_cI, sp_bits0 (sp_al X.2.1) (show sp_people X.2.1 ≤ 10 by omega)] at e0
  have A1 := A.fr F1 (by omega)
  have up22 : ∀ x j, j ≠ 22 → va_up fi 22 x j = fi j := fun x j hj => by unfold va_up; rw [if_neg hj]
  unfold ca_lasts ca_first ca_days
  by_cases h0 : sp_ct (sp_al X.2.1) (sp_people X.2.1) = 0
  · rw [if_pos h0] at e0
    rw [if_pos h0, if_pos h0]
    refine ⟨h1, e0, ⟨_, N, O1, A1, mr_cg R (fun j x y => up22 _ _ (by omega)), M, ⟨by rw [up22 _ _ (by omega)]; exact t1, t2.fr F1 (by omega)⟩, ⟨nx, W, Z, a1, a2, by rw [up22 _ _ (by omega)]; exact a3, by rw [up22 _ _ (by omega)]; exact a4, a5.fr F1 (by omega), a6.fr F1 (by omega), a7⟩, k.fr F1 (fun q x y => by omega), r.fr F1 (fun q x => by omega)⟩, ⟨_, O1, ?_⟩, F1.mono (mw_eq (by omega))⟩
    unfold va_up
    rw [if_pos rfl]
  · rw [if_neg h0] at e0
    rw [if_neg h0, if_neg h0]
    obtain ⟨h2, e2, F2, A2⟩ := cp_loop (E := fun j h => bn_ev 111 17 [some (.ref 222), some (.int (nI j)), none, none, none] [] h) (c := 71) (q := 224) (q' := 228) (a := 0) (b := 0) (N := N) (W := fs) (fun h => mo h (va_up fi 22 (-9)) (sp_seed X.2.1)) (fun h h' i F => i.fr F (by omega)) (fun j h hj i => by
      show bn_ev 111 17 _ _ _ = _
      rw [bs_X3_layLasts_17, if_neg (m71 hj), mo_r21 i, mo_r6 i, n1, Nat.zero_add]) (by omega) (by omega) (by omega) (by omega) (by omega) O1 A1 (r2.fr F1 (by omega))
    have e2 : bn_ev 111 17 [some (.ref 222), some (.int 0), none, none, none] [] h1 = bn_ev 111 46 [some (.ref 222), some (.int (-9)), some (.int 1), none, none] [] h2 := by
      refine e2.trans ?_
      show bn_ev 111 17 _ _ _ = _
      rw [bs_X3_layLasts_17, if_pos (show (71 : Int32) ≤ nI 71 by decide)]
    have O2 := O1.fr F2 (by omega)
    have G2 : mg h2 X.2.1 := ⟨_, N, O2, A1.fr F2 (by omega), mr_cg R (fun j x y => up22 _ _ (by omega)), M⟩
    have key : ∀ r d o3 o4 (g : bn_H) (T : sp_S) (fj : Nat → Int32), d + r = 201 → mo g fj (sp_seed X.2.1) → (∀ j, j ≠ 22 → fj j = fi j) → fj 22 = -9 → mg g T → sp_B T → T.1 = X.2.1.1 → (∀ p, p < sp_people X.2.1 → sp_al T p = sp_al X.2.1 p) → ∃ g' o3' o4' fk, bn_ev 111 46 [some (.ref 222), some (.int (-9)), some (.int (nI d)), o3, o4] [] g = bn_ev 111 138 [some (.ref 222), some (.int (match sp_days r d T with
        | none => -9
        | some q => nI q.1)), some (.int 0), o3', o4'] [] g' ∧ sg_F (fun q => q = 222 ∨ q = 224) g g' ∧ mo g' fk (sp_seed X.2.1) ∧ (∀ j, j ≠ 22 → fk j = fi j) ∧ fk 22 = (match sp_days r d T with
        | none => -9
        | some q => sp_o (sp_at (fun p => sp_al X.2.1 p && !sp_al q.2 p) (sp_people X.2.1) 0 0)) ∧ ∃ N', sg_A g' 224 0 71 N' := by
      intro r
      induction r with
      | zero =>
        intro d o3 o4 g T fj hd Og hj h9 GT BT hT hal
        refine ⟨g, o3, o4, fj, ?_, sg_F.rf, Og, hj, h9, ?_⟩
        · rw [bs_X3_layLasts_46, if_pos (show (200 : Int32) < nI d from nI_lt (a := 200) (by omega) (by omega))]
          rfl
        · obtain ⟨f', N', O', A', -⟩ := GT
          exact ⟨N', A'⟩
      | succ r ih =>
        intro d o3 o4 g T fj hd Og hj h9 GT BT hT hal
        have hpe : sp_people T = sp_people X.2.1 := congrArg (fun z => z.2.2.2.1) hT
        obtain ⟨g1, o1, e1, F1, G1, B1, T1, al1⟩ := mq_dayEat (-9) (nI d) (sp_people T) 0 o4 g T (by omega) GT BT
        have G1 : mg g1 (sp_eat T) := G1
        have B1 : sp_B (sp_eat T) := B1
        have T1 : (sp_eat T).1 = T.1 := T1
        have al1 : ∀ p, sp_al (sp_eat T) p = sp_al T p := al1
        have hpe1 : sp_people (sp_eat T) = sp_people X.2.1 := (congrArg (fun z => z.2.2.2.1) T1).trans hpe
        obtain ⟨g2, e2, F2, G2⟩ := mq_goBy G1 B1
        have B2 := sp_pass_B B1
        have Og2 := (Og.fr F1 (by omega)).fr F2 (by omega)
        have ev : bn_ev 111 46 [some (.ref 222), some (.int (-9)), some (.int (nI d)), o3, o4] [] g = (fun (x3 : Int32) h2 => if x3 = 0 then ((bn_pf h2 222 3 22 (.int (-9))).bind (fun h4 => bn_ev 111 46 [some (.ref 222), some (.int (if x3 = 0 then (-9) else nI d)), some (.int (nI d + 1)), some (.int x3), o1] [] h4)) else (bn_cI (bn_ev 106 0 [some (.int x3), some (.int 0), none, none] [] h2) (fun x6 h5 => (bn_pf h5 222 3 22 (.int x6)).bind (fun h7 => bn_ev 111 46 [some (.ref 222), some (.int (if x3 = 0 then (-9) else nI d)), some (.int (nI d + 1)), some (.int x3), o1] [] h7)))) (sp_died (sp_eat T)) g2 := by
          rw [bs_X3_layLasts_46, if_neg (show ¬ (200 : Int32) < nI d from nI_nlt (b := d) (a := 200) (by omega) (by omega)), if_pos rfl]
          refine e1.trans ?_
          rw [bs_X3_layLasts_61, mg_people G1, hpe1, hpe, if_pos (nI_le (Nat.le_refl _) (by omega)), mg_C G1, e2]
          rfl
        have dz := sp_died0 B1
        rw [hpe1] at dz
        simp only [] at ev
        simp only [sp_days]
        by_cases hz : sp_died (sp_eat T) = 0
        · rw [if_pos hz] at ev
          simp only [if_pos hz] at ev ⊢
          obtain ⟨g3, e3, F3, G3, O3⟩ := mg_p22 G2 Og2 (-9)
          rw [e3, Option.bind_some, n1] at ev
          have hd0 := dz.mp hz
          obtain ⟨g', p3, p4, fk, q1, q2, q3, q4, q5, q6⟩ := ih (d + 1) (some (.int (sp_died (sp_eat T)))) o1 g3 (sp_pass (sp_eat T)) _ (by omega) O3 (fun j hj2 => by unfold va_up; rw [if_neg hj2]; exact hj j hj2) (by unfold va_up; rw [if_pos rfl]) G3 B2 (T1.trans hT) (fun p hp => by rw [sp_pass_al _ (by omega), hd0 p hp, al1 p, hal p hp]; simp)
          exact ⟨g', p3, p4, fk, ev.trans q1, (((F1.mono (fun q hq => Or.inr hq)).tr (F2.mono (fun q hq => Or.inr hq))).tr (F3.mono (fun q hq => Or.inl hq))).tr q2, q3, q4, q5, q6⟩
        · rw [if_neg hz] at ev
          simp only [if_neg hz] at ev ⊢
          have hc : 0 < sp_fold (sp_gc (sp_dies (sp_eat T))) (sp_people (sp_eat T)) 0 0 := by
            have : ¬ sp_ct (sp_dies (sp_eat T)) (sp_people (sp_eat T)) = 0 := by
              rw [← sp_bits0 _ (by omega)]
              exact hz
            exact Nat.pos_of_ne_zero this
          obtain ⟨j, hj1, -, -, -⟩ := sp_at_some (sp_dies (sp_eat T)) (sp_people (sp_eat T)) 0 0 hc
          have nt : bn_ev 106 0 [some (.int (sp_died (sp_eat T))), some (.int 0), none, none] [] g2 = some (some (.int (nI j)), g2) := mq_nth (k := 0) g2 _ (by omega) hj1 (by decide)
          obtain ⟨g3, e3, F3, G3, O3⟩ := mg_p22 G2 Og2 (nI j)
          rw [nt] at ev
          simp only [bn_cI] at ev
          rw [e3, Option.bind_some] at ev
          refine ⟨g3, some (.int (sp_died (sp_eat T))), o1, _, ev.trans ?_, ((F1.mono (fun q hq => Or.inr hq)).tr (F2.mono (fun q hq => Or.inr hq))).tr (F3.mono (fun q hq => Or.inl hq)), O3, (fun j hj2 => by unfold va_up; rw [if_neg hj2]; exact hj j hj2), ?_, ?_⟩
          · have hn : ¬ nI d = -9 := by
              intro z
              have h1 := nI_pos (n := d) (by omega)
              rw [z] at h1
              exact h1 (by decide)
            rw [bs_X3_layLasts_46]
            simp only [if_neg hn]
            split <;> rfl
          · unfold va_up
            rw [if_pos rfl]
            have cg : sp_at (fun p => sp_al X.2.1 p && !sp_al (sp_pass (sp_eat T)) p) (sp_people X.2.1) 0 0 = sp_at (sp_dies (sp_eat T)) (sp_people (sp_eat T)) 0 0 := by
              rw [hpe1]
              refine sp_at_cg _ _ _ (fun p _ hp => ?_)
              have hp : p < sp_people X.2.1 := by omega
              rw [sp_pass_al _ (by omega), ← hal p hp, ← al1 p]
              have : sp_dies (sp_eat T) p = true → sp_al (sp_eat T) p = true := by
                intro z
                unfold sp_dies sp_hung at z
                simp only [Bool.and_eq_true] at z
                exact z.1.1
              cases hd : sp_dies (sp_eat T) p with
              | false => cases sp_al (sp_eat T) p <;> rfl
              | true => rw [this hd]; rfl
            rw [cg, hj1]
            rfl
          · obtain ⟨f', N', O', A', -⟩ := G3
            exact ⟨N', A'⟩
    obtain ⟨g', p3, p4, fk, q1, q2, q3, q4, q5, N', q6⟩ := key 200 1 none none h2 X.2.1 _ (by omega) O2 (fun j hj => up22 _ _ hj) (by unfold va_up; rw [if_pos rfl]) G2 B rfl (fun p hp => rfl)
    have S3 := A2.fr q2 (by omega)
    obtain ⟨h4, e4, F4, A4⟩ := cp_loop (E := fun j h => bn_ev 111 138 [some (.ref 222), some (.int (match sp_days 200 1 X.2.1 with
        | none => -9
        | some q => nI q.1)), some (.int (nI j)), p3, p4] [] h) (c := 71) (q := 228) (q' := 224) (a := 0) (b := 0) (N := cp_W fs 0 71 (fun i => N (0 + i))) (W := N') (fun h => mo h fk (sp_seed X.2.1)) (fun h h' i F => i.fr F (by omega)) (fun j h hj i => by
      show bn_ev 111 138 _ _ _ = _
      rw [bs_X3_layLasts_138, if_neg (m71 hj), mo_r6 i, mo_r21 i, n1, Nat.zero_add]) (by omega) (by omega) (by omega) (by omega) (by omega) q3 S3 q6
    have O4 := q3.fr F4 (by omega)
    have FF : sg_F (fun q => q = 222 ∨ q = 224 ∨ q = 228) h h4 := (((F1.mono (fun q hq => Or.inl hq)).tr (F2.mono (fun q hq => Or.inr (Or.inr hq)))).tr (q2.mono (fun q hq => hq.elim Or.inl (fun z => Or.inr (Or.inl z))))).tr (F4.mono (fun q hq => Or.inr (Or.inl hq)))
    have rd : ∀ (V W : Nat → Int32) {j : Nat}, j < 71 → cp_W W 0 71 V j = V j := fun V W j hj => by
      have := cp_in (W := W) (b := 0) (N := V) hj
      rw [Nat.zero_add] at this
      exact this
    refine ⟨h4, ?_, ⟨fk, _, O4, A4, mr_cg R (fun j x y => q4 _ (by omega)), mn_cg M (fun j hj => ?_) b_pp b_lo, ⟨by rw [q4 _ (by omega)]; exact t1, t2.fr FF (by omega)⟩, ⟨nx, W, Z, a1, a2, by rw [q4 _ (by omega)]; exact a3, by rw [q4 _ (by omega)]; exact a4, a5.fr FF (by omega), a6.fr FF (by omega), a7⟩, k.fr FF (fun q x y => by omega), ?_⟩, ⟨fk, O4, q5⟩, FF.mono (fun q hq => by unfold mw_P; omega)⟩
    · refine e0.trans (e2.trans (q1.trans (e4.trans ?_)))
      show bn_ev 111 138 _ _ _ = _
      rw [bs_X3_layLasts_138, if_pos (show (71 : Int32) ≤ nI 71 by decide)]
      rfl
    · rw [rd _ _ hj, Nat.zero_add, rd _ _ hj, Nat.zero_add]
    · refine ⟨?_, ⟨_, S3.fr F4 (by omega)⟩, ?_, ?_, ?_⟩
      · obtain ⟨f, z⟩ := r1; exact ⟨f, z.fr FF (by omega)⟩
      · obtain ⟨f, z⟩ := r3; exact ⟨f, z.fr FF (by omega)⟩
      · obtain ⟨f, z⟩ := r4; exact ⟨f, z.fr FF (by omega)⟩
      · obtain ⟨f, z⟩ := r5; exact ⟨f, z.fr FF (by omega)⟩
theorem mq_lasts {h : bn_H} {X : ct_X} (H : mw h X) (hB : ct_B X) : mq_ok 112 [some (.ref 222)] h (ca_lasts X.2.1) X := by
  obtain ⟨h', e, H', -, F⟩ := mq_layLasts H hB
  refine ⟨h', ?_, H', F⟩
  rw [bs_X3_lasts_0, mg_C H.G, e]
  rfl
theorem mq_first {h : bn_H} {X : ct_X} (H : mw h X) (hB : ct_B X) : mq_ok 113 [some (.ref 222)] h (ca_first X.2.1) X := by
  obtain ⟨h', e, H', ⟨fi, O, e22⟩, F⟩ := mq_layLasts H hB
  refine ⟨h', ?_, H', F⟩
  rw [bs_X3_first_0, mg_C H.G, e]
  simp only [bn_gd, bn_cI, if_true, mo_i22 O, e22]
end ML
