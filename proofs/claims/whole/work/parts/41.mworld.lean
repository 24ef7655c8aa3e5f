/-! THE MODEL'S WORLD: what it remembers and keeps; an act is remembered -/
def sg_J (h : bn_H) (q n : Nat) (f : Nat → Int64) : Prop := ∃ g, bn_g h q = some (.inl (2, n, .inr (.inl g))) ∧ ∀ j, j < n → g j = f j
theorem sg_J.fr {P : Nat → Prop} {h h1 : bn_H} {q n : Nat} {f : Nat → Int64} (H : sg_J h q n f) (F : sg_F P h h1) (hq : ¬ P q) : sg_J h1 q n f := by
  obtain ⟨g, e, a⟩ := H
  exact ⟨g, (F.2.2.2 q hq).trans e, a⟩
theorem sg_J.ld {h : bn_H} {q n j : Nat} {f : Nat → Int64} (H : sg_J h q n f) (hj : j < n) (hn : n < 2 ^ 31) : bn_lld h q (nI j) = some (f j) := by
  obtain ⟨g, h1, h2⟩ := H
  unfold bn_lld bn_al
  rw [h1]
  simp only [if_true, Option.bind_some]
  rw [if_neg (nI_in hj hn), nI_clamp (by omega), h2 j hj]
theorem sg_J.sd {h : bn_H} {q n j : Nat} {f : Nat → Int64} (H : sg_J h q n f) (hj : j < n) (hn : n < 2 ^ 31) (x : Int64) : ∃ h', bn_lsd h q (nI j) x = some h' ∧ sg_F (fun k => k = q) h h' ∧ sg_J h' q n (va_up f j x) := by
  obtain ⟨g, h1, h2⟩ := H
  refine ⟨bn_u h q (.inl (2, n, .inr (.inl (vp_updL g j x)))), ?_, bn_u_fr h1, vp_updL g j x, ?_, ?_⟩
  · unfold bn_lsd bn_al
    rw [h1]
    simp only [if_true, Option.bind_some]
    rw [if_neg (nI_in hj hn), nI_clamp (by omega)]
  · rw [bn_g_u h1, if_pos rfl]
  · intro k hk
    unfold va_up
    by_cases hkj : k = j
    · subst hkj
      rw [if_pos rfl, pk_uLs]
    · rw [if_neg hkj, pk_uLn hkj]
      exact h2 k hk
/-- the row of acts -/
def mw_a (h : bn_H) (fi : Nat → Int32) (A : List sp_S) : Prop := ∃ (nx : Nat) (W : Nat → Int32) (Z : Nat → Int64), nx < 20 ∧ A.length ≤ 20 ∧ fi 17 = nI A.length ∧ fi 18 = nI nx ∧ sg_A h 226 0 1440 W ∧ sg_J h 227 20 Z ∧ ∀ k a, A[k]? = some a → mn_R a (fun j => W (72 * ((nx + 19 - k) % 20) + j)) ∧ Z ((nx + 19 - k) % 20) = sp_seed a
/-- the slots -/
def mw_k (h : bn_H) (K : Nat → Option sp_S) : Prop := ∃ (Q : Nat → Int32) (Y : Nat → Int64), sg_A h 232 1 2 (fun j => sp_b (K j).isSome) ∧ sg_A h 233 0 144 Q ∧ sg_J h 234 2 Y ∧ ∀ j a, j < 2 → K j = some a → mn_R a (fun i => Q (72 * j + i)) ∧ Y j = sp_seed a
/-- rows that are used and used again -/
def mw_r (h : bn_H) : Prop := (∃ f, sg_A h 223 0 71 f) ∧ (∃ f, sg_A h 228 0 71 f) ∧ (∃ f, sg_A h 229 1 11000 f) ∧ (∃ f, sg_A h 230 1 11000 f) ∧ ∃ f, sg_A h 231 0 10 f
def mw (h : bn_H) (X : ct_X) : Prop := ∃ fi N, mo h fi (sp_seed X.2.1) ∧ sg_A h 224 0 71 N ∧ mr_R X.2.1 fi ∧ mn_R X.2.1 N ∧ (fi 14 = nI X.1.1 ∧ sg_A h 225 0 80 (fun j => nI (X.1.2 j))) ∧ mw_a h fi X.2.2.1 ∧ mw_k h X.2.2.2 ∧ mw_r h
theorem mw.G {h : bn_H} {X : ct_X} (H : mw h X) : mg h X.2.1 := by
  obtain ⟨fi, N, O, A, R, M, -⟩ := H
  exact ⟨fi, N, O, A, R, M⟩
theorem mw_k.fr {P : Nat → Prop} {h h1 : bn_H} {K : Nat → Option sp_S} (H : mw_k h K) (F : sg_F P h h1) (hq : ∀ q, 232 ≤ q → q ≤ 234 → ¬ P q) : mw_k h1 K := by
  obtain ⟨Q, Y, a1, a2, a3, a4⟩ := H
  exact ⟨Q, Y, a1.fr F (hq _ (by omega) (by omega)), a2.fr F (hq _ (by omega) (by omega)), a3.fr F (hq _ (by omega) (by omega)), a4⟩
theorem mw_r.fr {P : Nat → Prop} {h h1 : bn_H} (H : mw_r h) (F : sg_F P h h1) (hq : ∀ q, q = 223 ∨ (228 ≤ q ∧ q ≤ 231) → ¬ P q) : mw_r h1 := by
  obtain ⟨⟨f1, a1⟩, ⟨f2, a2⟩, ⟨f3, a3⟩, ⟨f4, a4⟩, ⟨f5, a5⟩⟩ := H
  exact ⟨⟨f1, a1.fr F (hq _ (by omega))⟩, ⟨f2, a2.fr F (hq _ (by omega))⟩, ⟨f3, a3.fr F (hq _ (by omega))⟩, ⟨f4, a4.fr F (hq _ (by omega))⟩, ⟨f5, a5.fr F (hq _ (by omega))⟩⟩
theorem mw_a.fr {P : Nat → Prop} {h h1 : bn_H} {fi : Nat → Int32} {A : List sp_S} (H : mw_a h fi A) (F : sg_F P h h1) (h6 : ¬ P 226) (h7 : ¬ P 227) : mw_a h1 fi A := by
  obtain ⟨nx, W, Z, a1, a2, a3, a4, a5, a6, a7⟩ := H
  exact ⟨nx, W, Z, a1, a2, a3, a4, a5.fr F h6, a6.fr F h7, a7⟩
/-- what lies ahead isn't touched -/
theorem mw.fr {h h1 : bn_H} {X : ct_X} (H : mw h X) (F : sg_F cw_P h h1) : mw h1 X := by
  obtain ⟨fi, N, O, A, R, M, ⟨t1, t2⟩, a, k, r⟩ := H
  have hn : ∀ q, 222 ≤ q → ¬ cw_P q := fun q hq hp => by unfold cw_P at hp; omega
  exact ⟨fi, N, O.fr F (hn _ (by omega)), A.fr F (hn _ (by omega)), R, M, ⟨t1, t2.fr F (hn _ (by omega))⟩, a.fr F (hn _ (by omega)) (hn _ (by omega)), k.fr F (fun q a b => hn q (by omega)), r.fr F (fun q a => hn q (by omega))⟩
def mw_P : Nat → Prop := fun q => 222 ≤ q
/-- now changes -/
theorem mw.now {h h1 : bn_H} {X : ct_X} {S : sp_S} (H : mw h X) (F : sg_F (fun k => k = 224) h h1) (G : mg h1 S) (hs : sp_seed S = sp_seed X.2.1) : mw h1 (X.1, S, X.2.2) := by
  obtain ⟨fi, N, O, A, R, M, ⟨t1, t2⟩, a, k, r⟩ := H
  obtain ⟨fi', N', O', A', R', M'⟩ := G
  have O1 : mo h1 fi (sp_seed S) := by rw [hs]; exact O.fr F (by omega)
  have R1 : mr_R S fi := by
    have e : ∀ (K : Int32 → bn_R) , True := fun _ => trivial
    have hh : mo_f fi' (sp_seed S) = mo_f fi (sp_seed S) := by
      have := O'.symm.trans O1
      injection this with this
      injection this with this
      injection this with _ this
    unfold mo_f at hh
    injection hh with _ hh
    injection hh with _ hh
    injection hh with _ hh
    injection hh with _ hh
    injection hh with _ hh
    injection hh with _ hh
    injection hh with _ hh
    injection hh with h7 hh
    injection hh with h8 hh
    injection hh with h9 hh
    injection hh with h10 hh
    injection hh with h11 hh
    injection h7 with h7
    injection h8 with h8
    injection h9 with h9
    injection h10 with h10
    injection h11 with h11
    unfold mr_R at R' ⊢
    rw [← h7, ← h8, ← h9, ← h10, ← h11]
    exact R'
  exact ⟨fi, N', O1, A', R1, M', ⟨t1, t2.fr F (by omega)⟩, a.fr F (by omega) (by omega), k.fr F (fun q a b => by omega), r.fr F (fun q a => by omega)⟩
