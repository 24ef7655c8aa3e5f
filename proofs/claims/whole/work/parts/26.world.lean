/-! THE CLASS'S OWN CELLS: 0 the object, 1 and 2 the text, 3 now, 12 spare, 21 the row of acts, 22 the slots, 23 what is kept, from 24 on the sieges of the acts, from 204 on those of the slots -/
/-- text (length, bytes), now, acts (the last first), slots -/
abbrev ct_X : Type := (Nat × (Nat → Nat)) × sp_S × List sp_S × (Nat → Option sp_S)
def cw_O (h : bn_H) (f c : Nat) : Prop := bn_g h 0 = some (.inr (2, [.ref 1, .ref 3, .ref 12, .ref 21, .int (nI f), .int (nI c), .ref 22, .ref 23]))
def cw_T (h : bn_H) (T : Nat × (Nat → Nat)) : Prop := (∃ pl, bn_g h 1 = some (.inr (1, [.ref 2, .int (nI T.1), .int pl]))) ∧ sg_A h 2 0 80 (fun j => nI (T.2 j))
def cw_Q (h : bn_H) (q n p : Nat) : Prop := ∃ g, bn_g h q = some (.inl (3, n, .inr (.inr (.inr (.inr g))))) ∧ ∀ i, i < n → g i = some (p + 9 * i)
def cw_R (h : bn_H) (R : Nat → sp_S) : Prop := cw_Q h 21 20 24 ∧ ∀ i, i < 20 → sg_G h (24 + 9 * i) (R i)
def cw_K (h : bn_H) (K : Nat → sp_S) (b : Nat → Bool) : Prop := cw_Q h 22 2 204 ∧ (∀ j, j < 2 → sg_G h (204 + 9 * j) (K j)) ∧ sg_A h 23 1 2 (fun j => sp_b (b j))
def cw_a (f c : Nat) (R : Nat → sp_S) (A : List sp_S) : Prop := f < 20 ∧ c ≤ 20 ∧ A.length = c ∧ ∀ k, k < c → A[k]? = some (R ((f + (c - 1 - k)) % 20))
def cw_k (K : Nat → sp_S) (b : Nat → Bool) (k : Nat → Option sp_S) : Prop := ∀ j, j < 2 → k j = if b j = true then some (K j) else none
def cw (h : bn_H) (X : ct_X) : Prop := ∃ (f c : Nat) (R K : Nat → sp_S) (b : Nat → Bool) (Sp : sp_S), cw_O h f c ∧ cw_T h X.1 ∧ sg_G h 3 X.2.1 ∧ sg_G h 12 Sp ∧ cw_R h R ∧ cw_K h K b ∧ cw_a f c R X.2.2.1 ∧ cw_k K b X.2.2.2 ∧ sp_B Sp
def ct_B (X : ct_X) : Prop := X.1.1 ≤ 80 ∧ (∀ j, X.1.2 j < 256) ∧ sp_B X.2.1 ∧ (∀ a ∈ X.2.2.1, sp_B a ∧ a.1 = X.2.1.1) ∧ ∀ j a, X.2.2.2 j = some a → sp_B a ∧ a.1 = X.2.1.1
def cw_P : Nat → Prop := fun q => q < 222
theorem ob_R {h : bn_H} {p ci k q : Nat} {fs : List Value} (e : bn_g h p = some (.inr (ci, fs))) (hk : fs[k]? = some (.ref q)) {K : Nat → bn_R} : bn_gR h p ci k K = K q := by
  unfold bn_gR bn_gf
  rw [e]
  simp only [if_true, hk]
theorem ob_I {h : bn_H} {p ci k : Nat} {x : Int32} {fs : List Value} (e : bn_g h p = some (.inr (ci, fs))) (hk : fs[k]? = some (.int x)) {K : Int32 → bn_R} : bn_gI h p ci k K = K x := by
  unfold bn_gI bn_gf
  rw [e]
  simp only [if_true, hk]
theorem ob_J {h : bn_H} {p ci k : Nat} {x : Int64} {fs : List Value} (e : bn_g h p = some (.inr (ci, fs))) (hk : fs[k]? = some (.long x)) {K : Int64 → bn_R} : bn_gJ h p ci k K = K x := by
  unfold bn_gJ bn_gf
  rw [e]
  simp only [if_true, hk]
theorem ob_C {h : bn_H} {p ci : Nat} {fs : List Value} (e : bn_g h p = some (.inr (ci, fs))) : bn_isC h p ci = true := by
  unfold bn_isC
  rw [e]
  simp
theorem ob_P {h : bn_H} {p ci k : Nat} {fs : List Value} (e : bn_g h p = some (.inr (ci, fs))) (hk : k < fs.length) (v : Value) : ∃ h', bn_pf h p ci k v = some h' ∧ sg_F (fun q => q = p) h h' ∧ bn_g h' p = some (.inr (ci, fs.set k v)) := by
  refine ⟨bn_u h p (.inr (ci, fs.set k v)), ?_, bn_u_fr e, by rw [bn_g_u e, if_pos rfl]⟩
  unfold bn_pf
  rw [e]
  simp only [hk, true_and, if_true]
theorem cw_Q.ld {h : bn_H} {q n p j : Nat} (H : cw_Q h q n p) (hj : j < n) (hn : n < 2 ^ 31) : bn_rld h q (nI j) = some (p + 9 * j) := by
  obtain ⟨g, h1, h2⟩ := H
  unfold bn_rld bn_ar
  rw [h1]
  simp only [if_true, Option.bind_some]
  rw [if_neg (nI_in hj hn), nI_clamp (by omega), h2 j hj]
theorem cw_O.fr {P : Nat → Prop} {h h1 : bn_H} {f c : Nat} (H : cw_O h f c) (F : sg_F P h h1) (hq : ¬ P 0) : cw_O h1 f c := (F.2.2.2 0 hq).trans H
theorem cw_T.fr {P : Nat → Prop} {h h1 : bn_H} {T : Nat × (Nat → Nat)} (H : cw_T h T) (F : sg_F P h h1) (n1 : ¬ P 1) (n2 : ¬ P 2) : cw_T h1 T := by
  obtain ⟨⟨pl, e⟩, A⟩ := H
  exact ⟨⟨pl, (F.2.2.2 1 n1).trans e⟩, A.fr F n2⟩
theorem cw_Q.fr {P : Nat → Prop} {h h1 : bn_H} {q n p : Nat} (H : cw_Q h q n p) (F : sg_F P h h1) (hq : ¬ P q) : cw_Q h1 q n p := by
  obtain ⟨g, e, a⟩ := H
  exact ⟨g, (F.2.2.2 q hq).trans e, a⟩
theorem cw_R.fr {P : Nat → Prop} {h h1 : bn_H} {R : Nat → sp_S} (H : cw_R h R) (F : sg_F P h h1) (hq : ∀ q, q = 21 ∨ (24 ≤ q ∧ q < 204) → ¬ P q) : cw_R h1 R := ⟨H.1.fr F (hq 21 (Or.inl rfl)), fun i hi => (H.2 i hi).fr F (fun k a b => hq k (Or.inr ⟨by omega, by omega⟩))⟩
theorem cw_K.fr {P : Nat → Prop} {h h1 : bn_H} {K : Nat → sp_S} {b : Nat → Bool} (H : cw_K h K b) (F : sg_F P h h1) (hq : ∀ q, q = 22 ∨ q = 23 ∨ (204 ≤ q ∧ q < 222) → ¬ P q) : cw_K h1 K b := ⟨H.1.fr F (hq 22 (Or.inl rfl)), fun i hi => (H.2.1 i hi).fr F (fun k a b => hq k (Or.inr (Or.inr ⟨by omega, by omega⟩))), H.2.2.fr F (hq 23 (Or.inr (Or.inl rfl)))⟩
/-- what the class's own cells are is not touched by what lies behind them -/
theorem cw.fr {h h1 : bn_H} {X : ct_X} {P : Nat → Prop} (H : cw h X) (F : sg_F P h h1) (hP : ∀ q, P q → 222 ≤ q) : cw h1 X := by
  obtain ⟨f, c, R, K, b, Sp, a1, a2, a3, a4, a5, a6, a7, a8⟩ := H
  have hn : ∀ q, q < 222 → ¬ P q := fun q hq hp => by have := hP q hp; omega
  exact ⟨f, c, R, K, b, Sp, a1.fr F (hn 0 (by omega)), a2.fr F (hn 1 (by omega)) (hn 2 (by omega)), a3.fr F (fun k x y => hn k (by omega)), a4.fr F (fun k x y => hn k (by omega)), a5.fr F (fun q hq => hn q (by omega)), a6.fr F (fun q hq => hn q (by omega)), a7, a8⟩
/-- now changes -/
theorem cw.now {h h1 : bn_H} {X : ct_X} {S : sp_S} (H : cw h X) (F : sg_F (sp_P 3) h h1) (G : sg_G h1 3 S) : cw h1 (X.1, S, X.2.2) := by
  obtain ⟨f, c, R, K, b, Sp, a1, a2, a3, a4, a5, a6, a7, a8⟩ := H
  have hn : ∀ q, (q < 3 ∨ 11 < q) → ¬ sp_P 3 q := fun q hq hp => by unfold sp_P at hp; omega
  exact ⟨f, c, R, K, b, Sp, a1.fr F (hn 0 (by omega)), a2.fr F (hn 1 (by omega)) (hn 2 (by omega)), G, a4.fr F (fun k x y => hn k (by omega)), a5.fr F (fun q hq => hn q (by omega)), a6.fr F (fun q hq => hn q (by omega)), a7, a8⟩
/-- spare changes -/
theorem cw.spare {h h1 : bn_H} {X : ct_X} {S : sp_S} (H : cw h X) (F : sg_F (sp_P 12) h h1) (G : sg_G h1 12 S) (B : sp_B S) : cw h1 X := by
  obtain ⟨f, c, R, K, b, Sp, a1, a2, a3, a4, a5, a6, a7, a8⟩ := H
  have hn : ∀ q, (q < 12 ∨ 20 < q) → ¬ sp_P 12 q := fun q hq hp => by unfold sp_P at hp; omega
  exact ⟨f, c, R, K, b, S, a1.fr F (hn 0 (by omega)), a2.fr F (hn 1 (by omega)) (hn 2 (by omega)), a3.fr F (fun k x y => hn k (by omega)), G, a5.fr F (fun q hq => hn q (by omega)), a6.fr F (fun q hq => hn q (by omega)), a7, a8.1, B⟩
theorem sp_P_lt {p : Nat} (hp : p + 8 < 222) : ∀ q, sp_P p q → cw_P q := fun q hq => by unfold sp_P at hq; unfold cw_P; omega
theorem eq_lt {p : Nat} (hp : p < 222) : ∀ q, q = p → cw_P q := fun q hq => by unfold cw_P; omega
theorem rem_20 {a : Nat} (h : a < 2 ^ 31) : bn_rem (nI a) 20 = nI (a % 20) := pk_rem (d := 20) h (by decide) (by decide)
/-- an act is remembered -/
theorem cq_remember {h : bn_H} {X : ct_X} (H : cw h X) (hB : ct_B X) : ∃ h', bn_ev 69 0 [some (.ref 0)] [] h = some (none, h') ∧ cw h' (X.1, X.2.1, (X.2.1 :: X.2.2.1).take 20, X.2.2.2) ∧ sg_F cw_P h h' := by
  have k1 : ∀ (h : bn_H) (f c : Nat) (R K : Nat → sp_S) (b : Nat → Bool) (Sp : sp_S), f < 20 → c < 20 → cw_O h f c → cw_T h X.1 → sg_G h 3 X.2.1 → sg_G h 12 Sp → cw_R h R → cw_K h K b → ∃ h', bn_ev 69 32 [some (.ref 0)] [] h = some (none, h') ∧ (cw_O h' f (c + 1) ∧ cw_T h' X.1 ∧ sg_G h' 3 X.2.1 ∧ sg_G h' 12 Sp ∧ cw_R h' (va_up R ((f + c) % 20) X.2.1) ∧ cw_K h' K b) ∧ sg_F cw_P h h' := by
    intro h f c R K b Sp hf hc a1 a2 a3 a4 a5 a6
    have hj : (f + c) % 20 < 20 := Nat.mod_lt _ (by omega)
    generalize hjd : (f + c) % 20 = j at hj ⊢
    have G := a5.2 j hj
    obtain ⟨h1, e1, F1, G1⟩ := sq_becomes G a3 hB.2.2.1 (by omega)
    have hn : ∀ q, (q < 24 ∨ 203 < q) → ¬ sp_P (24 + 9 * j) q := fun q hq hp => by unfold sp_P at hp; omega
    have b1 := a1.fr F1 (hn 0 (by omega))
    obtain ⟨h2, e2, F2, O2⟩ := ob_P b1 (k := 5) (by simp) (.int (nI (c + 1)))
    have b2 := a2.fr F1 (hn 1 (by omega)) (hn 2 (by omega))
    have b3 := a3.fr F1 (fun k x y => hn k (by omega))
    have b4 := a4.fr F1 (fun k x y => hn k (by omega))
    have b6 := a6.fr F1 (fun q hq => hn q (by omega))
    have b5 : cw_R h1 (va_up R j X.2.1) := by
      refine ⟨a5.1.fr F1 (hn 21 (by omega)), fun i hi => ?_⟩
      unfold va_up
      by_cases q : i = j
      · subst q; rw [if_pos rfl]; exact G1
      · rw [if_neg q]
        exact (a5.2 i hi).fr F1 (fun k x y hp => by unfold sp_P at hp; omega)
    refine ⟨h2, ?_, ⟨O2, b2.fr F2 (by omega) (by omega), b3.fr F2 (fun k x y => by omega), b4.fr F2 (fun k x y => by omega), b5.fr F2 (fun q hq => by omega), b6.fr F2 (fun q hq => by omega)⟩, (F1.mono (sp_P_lt (by omega))).tr (F2.mono (eq_lt (by omega)))⟩
    rw [bs_X2_rememberAct_32, ob_R a1 rfl, ob_I a1 rfl, ob_I a1 rfl, nI_add, rem_20 (by omega), hjd, a5.1.ld hj (by decide), Option.bind_some, ob_R a1 rfl, sg_isC G, e1]
    simp only [bn_gd, bn_cV, if_true]
    rw [ob_I b1 rfl, ← nI_succ, e2]
    rfl
  obtain ⟨f, c, R, K, b, Sp, a1, a2, a3, a4, a5, a6, a7, a8⟩ := H
  obtain ⟨c1, c2, c3, c4⟩ := a7
  rw [bs_X2_rememberAct_0, ob_I a1 rfl, sp_if20 (by omega)]
  by_cases h20 : c = 20
  · subst h20
    obtain ⟨h1, e1, F1, O1⟩ := ob_P a1 (k := 4) (by simp) (.int (nI ((f + 1) % 20)))
    obtain ⟨h2, e2, F2, O2⟩ := ob_P O1 (k := 5) (by simp) (.int (nI 19))
    have O2 : cw_O h2 ((f + 1) % 20) 19 := O2
    have F := F1.tr F2
    obtain ⟨h3, e3, ⟨d1, d2, d3, d4, d5, d6⟩, F3⟩ := k1 h2 ((f + 1) % 20) 19 R K b Sp (Nat.mod_lt _ (by omega)) (by omega) O2 (a2.fr F (by omega) (by omega)) (a3.fr F (fun k x y => by omega)) (a4.fr F (fun k x y => by omega)) (a5.fr F (fun q hq => by omega)) (a6.fr F (fun q hq => by omega))
    refine ⟨h3, ?_, ⟨(f + 1) % 20, 20, _, K, b, Sp, d1, d2, d3, d4, d5, d6, ⟨Nat.mod_lt _ (by omega), by omega, ?_, fun k hk => ?_⟩, a8⟩, (F.mono (eq_lt (by omega))).tr F3⟩
    · have ee2 : bn_pf h1 0 2 5 (.int (nI 20 - 1)) = some h2 := by rw [show nI 20 - 1 = nI 19 from by decide]; exact e2
      rw [if_pos rfl, ob_I a1 rfl, ← nI_succ, rem_20 (by omega), e1, Option.bind_some, ob_I O1 rfl, ee2, Option.bind_some]
      exact e3
    · simp [c3]
    · have hj : ((f + 1) % 20 + 19) % 20 = f := by omega
      rw [hj]
      cases k with
      | zero =>
        have : ((f + 1) % 20 + (20 - 1 - 0)) % 20 = f := by omega
        rw [this]
        simp [va_up]
      | succ k =>
        have h1 : ((f + 1) % 20 + (20 - 1 - (k + 1))) % 20 = (f + (20 - 1 - k)) % 20 := by omega
        have h2 : ¬ (f + (20 - 1 - k)) % 20 = f := by omega
        rw [h1]
        unfold va_up
        rw [if_neg h2, ← c4 k (by omega), List.getElem?_take_of_lt (by omega)]
        rfl
  · rw [if_neg h20]
    obtain ⟨h3, e3, ⟨d1, d2, d3, d4, d5, d6⟩, F3⟩ := k1 h f c R K b Sp c1 (by omega) a1 a2 a3 a4 a5 a6
    refine ⟨h3, e3, ⟨f, c + 1, _, K, b, Sp, d1, d2, d3, d4, d5, d6, ⟨c1, by omega, ?_, fun k hk => ?_⟩, a8⟩, F3⟩
    · show (List.take 20 (X.2.1 :: X.2.2.1)).length = c + 1
      simp [c3]
      omega
    · cases k with
      | zero =>
        have : (f + (c + 1 - 1 - 0)) % 20 = (f + c) % 20 := by omega
        rw [this]
        simp [va_up]
      | succ k =>
        have h1 : (f + (c + 1 - 1 - (k + 1))) % 20 = (f + (c - 1 - k)) % 20 := by
          have : c + 1 - 1 - (k + 1) = c - 1 - k := by omega
          rw [this]
        have h2 : ¬ (f + (c - 1 - k)) % 20 = (f + c) % 20 := by omega
        rw [h1]
        unfold va_up
        rw [if_neg h2, ← c4 k (by omega), List.getElem?_take_of_lt (by omega)]
        rfl
