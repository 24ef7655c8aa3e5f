/-! WHAT THE CLASS DOES, FURTHER: bytes, nights, days that lie ahead -/
def ly_n (y : Int64) : Nat := y.toUInt64.toNat
theorem ly_of (x : UInt64) : x.toInt64 = lN x.toNat := by
  show (⟨x⟩ : Int64) = ⟨UInt64.ofNat x.toNat⟩
  rw [UInt64.ofNat_toNat]
theorem ly_sh : ∀ s, s < 64 → ((nI s).toInt64.toUInt64 &&& Int64.toUInt64 63) = UInt64.ofNat s := by decide +kernel
theorem ly_lushr (y : Int64) {s : Nat} (hs : s < 64) : bn_lushr y (nI s) = lN (ly_n y / 2 ^ s) := by
  unfold bn_lushr ly_n
  have e1 : (UInt64.ofNat s).toNat = s := by
    show (BitVec.ofNat 64 s).toNat = s
    rw [BitVec.toNat_ofNat]
    omega
  rw [ly_sh s hs, ly_of, UInt64.toNat_shiftRight, Nat.shiftRight_eq_div_pow, e1, Nat.mod_eq_of_lt hs]
theorem ly_lt (y : Int64) : ly_n y < 2 ^ 64 := UInt64.toNat_lt _
def ly_b (y : Int64) (k : Nat) : Nat := ly_n y / 2 ^ (8 * k) % 256
theorem nI_and255 (n : Nat) : nI n &&& 255 = nI (n % 256) := by
  rw [pk_and (nI n) 8 (by decide)]
  have : (nI n).toBitVec.toNat = n % 2 ^ 32 := by
    show (BitVec.ofNat 32 n).toNat = _
    exact BitVec.toNat_ofNat _ _
  rw [this]
  congr 1
  omega
theorem ly_byte (y : Int64) {k : Nat} (hk : k < 8) : ((bn_lushr y (8 * nI k)).toInt32) &&& 255 = nI (ly_b y k) := by
  rw [show (8 : Int32) * nI k = nI (8 * k) from pk_mul 8 k, ly_lushr y (by omega), lN_i, nI_and255]
  rfl
def ca_text (T : Nat × (Nat → Nat)) (y : Int64) : Nat → Nat × (Nat → Nat)
  | 0 => T
  | k + 1 => ca_text (T.1 + 1, va_up T.2 T.1 (ly_b y k)) y k
theorem ca_text_n (y : Int64) : ∀ k (T : Nat × (Nat → Nat)), (ca_text T y k).1 = T.1 + k := by
  intro k
  induction k with
  | zero => intro T; rfl
  | succ k ih => intro T; show (ca_text _ y k).1 = _; rw [ih]; dsimp only; omega
theorem ca_text_b (y : Int64) : ∀ k (T : Nat × (Nat → Nat)), (∀ j, T.2 j < 256) → ∀ j, (ca_text T y k).2 j < 256 := by
  intro k
  induction k with
  | zero => intro T h; exact h
  | succ k ih =>
    intro T h
    refine ih _ (fun j => ?_)
    show (if j = T.1 then ly_b y k else T.2 j) < 256
    split
    · exact Nat.mod_lt _ (by omega)
    · exact h j
def ca_write (X : ct_X) (a1 : Int32) (y : Int64) : Int32 × ct_X := if 1 ≤ a1.toInt ∧ a1.toInt ≤ 8 then (if X.1.1 + a1.toNatClampNeg ≤ 80 then (nI (X.1.1 + a1.toNatClampNeg), (ca_text X.1 y a1.toNatClampNeg, X.2)) else (-4, X)) else (-2, X)
section MO
variable {h : bn_H} {X : ct_X}
/-- the text changes -/
theorem cw.text {h h1 : bn_H} {X : ct_X} {T : Nat × (Nat → Nat)} (H : cw h X) (F : sg_F (fun q => q = 1 ∨ q = 2) h h1) (G : cw_T h1 T) : cw h1 (T, X.2) := by
  obtain ⟨f, c, R, K, b, Sp, a1, a2, a3, a4, a5, a6, a7, a8⟩ := H
  exact ⟨f, c, R, K, b, Sp, a1.fr F (by omega), G, a3.fr F (fun k x y => by omega), a4.fr F (fun k x y => by omega), a5.fr F (fun q hq => by omega), a6.fr F (fun q hq => by omega), a7, a8⟩
theorem cw.T {h : bn_H} {X : ct_X} (H : cw h X) : cw_T h X.1 := by
  obtain ⟨f, c, R, K, b, Sp, a1, a2, -⟩ := H
  exact a2
theorem sq_append {T : Nat × (Nat → Nat)} (H : cw_T h T) (hT : T.1 < 80) (b : Nat) : ∃ h', bn_ev 33 0 [some (.ref 1), some (.int (nI b))] [] h = some (none, h') ∧ sg_F (fun q => q = 1 ∨ q = 2) h h' ∧ cw_T h' (T.1 + 1, va_up T.2 T.1 b) := by
  obtain ⟨⟨pl, e⟩, A⟩ := H
  obtain ⟨h1, e1, F1, A1⟩ := A.sd hT (by decide) (nI b)
  have o1 := (F1.2.2.2 1 (by omega)).trans e
  obtain ⟨h2, e2, F2, o2⟩ := ob_P o1 (k := 1) (by simp) (.int (nI (T.1 + 1)))
  rw [← nI_up] at A1
  refine ⟨h2, ?_, (F1.mono (fun q hq => Or.inr hq)).tr (F2.mono (fun q hq => Or.inl hq)), ⟨pl, o2⟩, A1.fr F2 (by omega)⟩
  rw [bs_X1_append_0, ob_I e rfl, if_neg (show ¬ (80 : Int32) ≤ nI T.1 from nI_ge (b := 80) hT (by decide)), ob_R e rfl, ob_I e rfl, e1, Option.bind_some, ob_I o1 rfl, ← nI_succ, e2]
  rfl
theorem cq_write (H : cw h X) (hB : ct_B X) (a1 : Int32) (y : Int64) : cq_ok 46 [some (.ref 0), some (.int a1), some (.long y), none, none] h (ca_write X a1 y).1 (ca_write X a1 y).2 := by
  obtain ⟨f, c, O, -⟩ := H.O
  have t1 : ∀ (g : bn_H) (T : Nat × (Nat → Nat)) K, cw_T g T → bn_gI g 1 1 1 K = K (nI T.1) := fun g T K hT => ob_I hT.1.choose_spec rfl
  have tC : ∀ (g : bn_H) (T : Nat × (Nat → Nat)), cw_T g T → bn_isC g 1 1 = true := fun g T hT => ob_C hT.1.choose_spec
  have e0 := bs_X2_write_0 0 a1 y h
  have i1 : (a1 < 1) = (a1.toInt < 1) := by rw [Int32.lt_iff_toInt_lt]; rfl
  have i8 : (a1 ≤ 8) = (a1.toInt ≤ 8) := by rw [Int32.le_iff_toInt_le]; rfl
  simp only [i1, i8] at e0
  unfold ca_write
  by_cases h1 : a1.toInt < 1
  · rw [if_pos h1] at e0
    rw [if_neg (by omega)]
    exact cq_ok.same H e0
  · rw [if_neg h1] at e0
    by_cases h8 : a1.toInt ≤ 8
    · rw [if_pos h8, co_text O, t1 h _ _ H.T] at e0
      rw [if_pos ⟨by omega, h8⟩]
      obtain ⟨m, hm, rfl⟩ := vp_in_of (x := a1) (n := 9) (vp_in_iff.mpr ⟨by omega, by omega⟩) (by omega)
      rw [nI_toInt (by omega)] at h1 h8
      have hn := hB.1
      rw [nI_clamp (by omega)]
      rw [nI_add, show (80 : Int32) = nI 80 from rfl, sp_ifle (by omega) (by omega)] at e0
      by_cases h80 : X.1.1 + m ≤ 80
      · rw [if_pos h80] at e0
        rw [if_pos h80]
        have key : ∀ k (g : bn_H) (Y : ct_X), cw g Y → Y.1.1 + k ≤ 80 → k ≤ 8 → ∃ g', bn_ev 46 36 [some (.ref 0), some (.int (nI m)), some (.long y), none, some (.int (nI k - 1))] [] g = some (some (.int (nI (Y.1.1 + k))), g') ∧ cw g' (ca_text Y.1 y k, Y.2) ∧ sg_F cw_P g g' := by
          intro k
          induction k with
          | zero =>
            intro g Y HY hY _
            obtain ⟨f, c, O, -⟩ := HY.O
            refine ⟨g, ?_, HY, sg_F.rf⟩
            rw [bs_X2_write_36, if_pos (by decide), co_text O, t1 g _ _ HY.T]
            rfl
          | succ k ih =>
            intro g Y HY hY hk
            obtain ⟨f, c, O, -⟩ := HY.O
            obtain ⟨g1, e1, F1, T1⟩ := sq_append HY.T (by omega) (ly_b y k)
            have H1 := HY.text F1 T1
            obtain ⟨g', e2, H2, F2⟩ := ih g1 _ H1 (by show Y.1.1 + 1 + k ≤ 80; omega) (by omega)
            refine ⟨g', ?_, H2, (F1.mono (fun q hq => by unfold cw_P; omega)).tr F2⟩
            rw [nI_pred, bs_X2_write_36, if_neg (nI_pos (by omega)), co_text O, tC g _ HY.T, ly_byte y (by omega), e1]
            simp only [bn_gd, bn_cV, if_true]
            rw [show nI k + -1 = nI k - 1 from by rw [Int32.sub_eq_add_neg]]
            refine e2.trans ?_
            show some (some (Value.int (nI (Y.1.1 + 1 + k))), g') = _
            rw [show Y.1.1 + 1 + k = Y.1.1 + (k + 1) by omega]
        obtain ⟨g', e2, H2, F2⟩ := key m h X H h80 (by omega)
        exact ⟨g', e0.trans e2, H2, F2⟩
      · rw [if_neg h80] at e0
        rw [if_neg h80]
        exact cq_ok.same H e0
    · rw [if_neg h8] at e0
      rw [if_neg (by omega)]
      exact cq_ok.same H e0
def sp_days : Nat → Nat → sp_S → Option (Nat × sp_S)
  | 0, _, _ => none
  | r + 1, d, T => if sp_died (sp_eat T) = 0 then sp_days r (d + 1) (sp_pass (sp_eat T)) else some (d, sp_pass (sp_eat T))
def ca_days (S : sp_S) : Option (Nat × sp_S) := if sp_ct (sp_al S) (sp_people S) = 0 then none else sp_days 200 1 S
def ca_lasts (S : sp_S) : Int32 := if sp_ct (sp_al S) (sp_people S) = 0 then 0 else match sp_days 200 1 S with
  | none => -9
  | some q => nI q.1
theorem sp_days_le : ∀ r d T q, sp_days r d T = some q → d ≤ q.1 ∧ q.1 < d + r := by
  intro r
  induction r with
  | zero => intro d T q h; cases h
  | succ r ih =>
    intro d T q h
    simp only [sp_days] at h
    split at h
    · have := ih _ _ _ h; omega
    · cases h; exact ⟨Nat.le_refl _, by show d < d + (r + 1); omega⟩
theorem cq_days (H : cw h X) (hB : ct_B X) : ∃ h', bn_ev 71 0 [some (.ref 0), none] [] h = some (some (.int (ca_lasts X.2.1)), h') ∧ cw h' X ∧ (∀ q, ca_days X.2.1 = some q → sg_G h' 12 q.2 ∧ sp_B q.2) ∧ sg_F cw_P h h' := by
  have H0 := H
  obtain ⟨f, c, R, K, b, Sp, O, a2, G, G12, -⟩ := H
  have B := hB.2.2.1
  have ec := sq_aliveCount G B
  have e0 := bs_X2_daysUntilDeath_0 0 h
  have hle := sp_ct_le (sp_al X.2.1) (sp_people X.2.1)
  have hpp := B.2.2.2.1
  simp only [co_now O, sg_isC G, ec, bn_gd, bn_cI, if_true, sp_if0 (show sp_ct (sp_al X.2.1) (sp_people X.2.1) < 2 ^ 31 by omega)] at e0
  unfold ca_lasts ca_days
  by_cases h0 : sp_ct (sp_al X.2.1) (sp_people X.2.1) = 0
  · rw [if_pos h0] at e0
    rw [if_pos h0, if_pos h0]
    exact ⟨h, e0, H0, fun q hq => (by cases hq), sg_F.rf⟩
  · rw [if_neg h0] at e0
    rw [if_neg h0, if_neg h0]
    obtain ⟨h1, e1, F1, G1⟩ := sq_becomes G12 G B (by omega)
    have H1 := H0.spare F1 G1 B
    have key : ∀ r d (g : bn_H) (T : sp_S), d + r = 201 → cw g X → sg_G g 12 T → sp_B T → ∃ g', bn_ev 71 25 [some (.ref 0), some (.int (nI d))] [] g = some (some (.int (match sp_days r d T with
        | none => -9
        | some q => nI q.1)), g') ∧ cw g' X ∧ (∀ q, sp_days r d T = some q → sg_G g' 12 q.2 ∧ sp_B q.2) ∧ sg_F cw_P g g' := by
      intro r
      induction r with
      | zero =>
        intro d g T hd Hg GT BT
        refine ⟨g, ?_, Hg, fun q hq => (by cases hq), sg_F.rf⟩
        rw [bs_X2_daysUntilDeath_25, if_pos (show (200 : Int32) < nI d from nI_lt (a := 200) (by omega) (by omega))]
        rfl
      | succ r ih =>
        intro d g T hd Hg GT BT
        obtain ⟨f, c, O, -⟩ := Hg.O
        obtain ⟨g1, e1, F1, G1, B1, -⟩ := sq_eatAsItIs GT BT
        have Hg1 := Hg.spare F1 G1 B1
        obtain ⟨f1, c1, O1, -⟩ := Hg1.O
        obtain ⟨g2, e2, F2, G2⟩ := sq_pass G1 B1
        have Hg2 := Hg1.spare F2 G2 (sp_pass_B B1)
        have FF := (F1.mono (sp_P_lt (by omega))).tr (F2.mono (sp_P_lt (by omega)))
        have ev : bn_ev 71 25 [some (.ref 0), some (.int (nI d))] [] g = if sp_died (sp_eat T) = 0 then bn_ev 71 25 [some (.ref 0), some (.int (nI (d + 1)))] [] g2 else some (some (.int (nI d)), g2) := by
          rw [bs_X2_daysUntilDeath_25, if_neg (show ¬ (200 : Int32) < nI d from nI_nlt (b := d) (a := 200) (by omega) (by omega)), ← nI_succ]
          simp only [co_spare O, sg_isC GT, e1, bn_gd, bn_cV, if_true, co_spare O1, sg_isC G1, e2, bn_cI]
        rw [ev]
        simp only [sp_days]
        by_cases hz : sp_died (sp_eat T) = 0
        · simp only [if_pos hz]
          obtain ⟨g', q1, q2, q3, q4⟩ := ih (d + 1) g2 _ (by omega) Hg2 G2 (sp_pass_B B1)
          exact ⟨g', q1, q2, q3, FF.tr q4⟩
        · simp only [if_neg hz]
          exact ⟨g2, rfl, Hg2, fun q hq => by cases hq; exact ⟨G2, sp_pass_B B1⟩, FF⟩
    obtain ⟨g', q1, q2, q3, q4⟩ := key 200 1 h1 X.2.1 (by omega) H1 G1 B
    refine ⟨g', ?_, q2, q3, (F1.mono (sp_P_lt (by omega))).tr q4⟩
    refine e0.trans ?_
    rw [co_spare O, sg_isC G12, if_pos rfl, e1]
    exact q1
theorem cq_lasts (H : cw h X) (hB : ct_B X) : cq_ok 60 [some (.ref 0)] h (ca_lasts X.2.1) X := by
  obtain ⟨f, c, O, -⟩ := H.O
  obtain ⟨h', e, H', -, F⟩ := cq_days H hB
  refine ⟨h', ?_, H', F⟩
  rw [bs_X2_lasts_0, co_C O, e]
  rfl
def ca_first (S : sp_S) : Int32 := match ca_days S with
  | none => -9
  | some q => sp_o (sp_at (fun p => sp_al S p && !sp_al q.2 p) (sp_people S) 0 0)
theorem cq_first (H : cw h X) (hB : ct_B X) : cq_ok 61 [some (.ref 0), none] h (ca_first X.2.1) X := by
  obtain ⟨f, c, O, -⟩ := H.O
  obtain ⟨h', e, H', hq, F⟩ := cq_days H hB
  have B := hB.2.2.1
  have hpp := B.2.2.2.1
  refine ⟨h', ?_, H', F⟩
  rw [bs_X2_first_0, co_C O, e]
  simp only [bn_gd, bn_cI, if_true]
  unfold ca_first
  have hl : ca_lasts X.2.1 = match ca_days X.2.1 with
    | none => if sp_ct (sp_al X.2.1) (sp_people X.2.1) = 0 then 0 else -9
    | some q => nI q.1 := by
    unfold ca_lasts ca_days
    by_cases h0 : sp_ct (sp_al X.2.1) (sp_people X.2.1) = 0
    · simp only [if_pos h0]
    · simp only [if_neg h0]
  rw [hl]
  cases hd : ca_days X.2.1 with
  | none =>
    dsimp only
    split
    · rfl
    · exact if_neg (by decide)
  | some q =>
    obtain ⟨Gq, Bq⟩ := hq q hd
    have hq1 : 1 ≤ q.1 ∧ q.1 < 201 := by
      unfold ca_days at hd
      split at hd
      · cases hd
      · have := sp_days_le _ _ _ _ hd; omega
    dsimp only
    rw [if_pos (show (0 : Int32) < nI q.1 from nI_lt (a := 0) (by omega) (by omega))]
    obtain ⟨f1, c1, O1, -⟩ := H'.O
    have G1 := H'.G
    have key : ∀ r i, i + r = sp_people X.2.1 → bn_ev 61 12 [some (.ref 0), some (.int (nI i))] [] h' = some (some (.int (sp_o (sp_at (fun p => sp_al X.2.1 p && !sp_al q.2 p) r i 0))), h') := by
      intro r
      induction r with
      | zero =>
        intro i hi
        rw [bs_X2_first_12, co_now O1, sg_people G1, if_pos (nI_le (by omega) (by omega))]
        rfl
      | succ r ih =>
        intro i hi
        have i1 := ih (i + 1) (by omega)
        rw [nI_succ] at i1
        rw [bs_X2_first_12, co_now O1, sg_people G1, if_neg (nI_ge (by omega) (by omega))]
        simp only [co_now O1, co_spare O1, sg_isC G1, sg_isC Gq, sq_isAlive G1 B (show i < 5 by omega), sq_isAlive Gq Bq (show i < 5 by omega), bn_gd, bn_cI, if_true, sp_b_eq0, i1, sp_at]
        cases sp_al X.2.1 i with
        | false => rfl
        | true => cases sp_al q.2 i <;> rfl
    exact key _ 0 (by omega)
end MO
