/-! THE STATE OF A SIEGE, in numbers; and how it lies in the cells -/
/-- rules (law, lives, badAt), people, loaves; day, seed; of people fasted, ate, how many eaten; of loaves number, holder, age, eater, eaten on -/
abbrev sp_S : Type := (Nat × Nat × Nat × Nat × Nat) × (Int32 × Int64) × ((Nat → Nat) × (Nat → Nat) × (Nat → Int32)) × (Nat → Nat) × (Nat → Nat) × (Nat → Nat) × (Nat → Int32) × (Nat → Int32)
abbrev sp_law (S : sp_S) : Nat := S.1.1
abbrev sp_lives (S : sp_S) : Nat := S.1.2.1
abbrev sp_badAt (S : sp_S) : Nat := S.1.2.2.1
abbrev sp_people (S : sp_S) : Nat := S.1.2.2.2.1
abbrev sp_loaves (S : sp_S) : Nat := S.1.2.2.2.2
abbrev sp_day (S : sp_S) : Int32 := S.2.1.1
abbrev sp_seed (S : sp_S) : Int64 := S.2.1.2
abbrev sp_fasted (S : sp_S) : Nat → Nat := S.2.2.1.1
abbrev sp_ate (S : sp_S) : Nat → Nat := S.2.2.1.2.1
abbrev sp_eatc (S : sp_S) : Nat → Int32 := S.2.2.1.2.2
abbrev sp_num (S : sp_S) : Nat → Nat := S.2.2.2.1
abbrev sp_hold (S : sp_S) : Nat → Nat := S.2.2.2.2.1
abbrev sp_age (S : sp_S) : Nat → Nat := S.2.2.2.2.2.1
abbrev sp_eater (S : sp_S) : Nat → Int32 := S.2.2.2.2.2.2.1
abbrev sp_eon (S : sp_S) : Nat → Int32 := S.2.2.2.2.2.2.2
/-- the numbers are small -/
def sp_B (S : sp_S) : Prop := sp_law S ≤ 2 ∧ (1 ≤ sp_lives S ∧ sp_lives S ≤ 9) ∧ (1 ≤ sp_badAt S ∧ sp_badAt S ≤ 9) ∧ sp_people S ≤ 5 ∧ sp_loaves S ≤ 10 ∧ (∀ p, sp_fasted S p ≤ 10) ∧ (∀ p, sp_ate S p ≤ 1) ∧ (∀ l, sp_num S l ≤ 99) ∧ (∀ l, sp_hold S l ≤ 20) ∧ (∀ l, sp_age S l ≤ 99)
/-- an array of ints, booleans: its first n are f -/
def sg_A (h : bn_H) (q t n : Nat) (f : Nat → Int32) : Prop := ∃ g, bn_g h q = some (.inl (t, n, .inl g)) ∧ ∀ j, j < n → g j = f j
def sg_f (p : Nat) (S : sp_S) : List Value := [.int (nI (sp_law S)), .int (nI (sp_lives S)), .int (nI (sp_badAt S)), .int (sp_day S), .long (sp_seed S), .int (nI (sp_people S)), .ref (p + 1), .ref (p + 2), .ref (p + 3), .int (nI (sp_loaves S)), .ref (p + 4), .ref (p + 5), .ref (p + 6), .ref (p + 7), .ref (p + 8)]
def sg_G (h : bn_H) (p : Nat) (S : sp_S) : Prop := bn_g h p = some (.inr (0, sg_f p S)) ∧ sg_A h (p + 1) 0 5 (fun j => nI (sp_fasted S j)) ∧ sg_A h (p + 2) 1 5 (fun j => nI (sp_ate S j)) ∧ sg_A h (p + 3) 0 5 (sp_eatc S) ∧ sg_A h (p + 4) 0 10 (fun j => nI (sp_num S j)) ∧ sg_A h (p + 5) 0 10 (fun j => nI (sp_hold S j)) ∧ sg_A h (p + 6) 0 10 (fun j => nI (sp_age S j)) ∧ sg_A h (p + 7) 0 10 (sp_eater S) ∧ sg_A h (p + 8) 0 10 (sp_eon S)
/-- only the cells of P differ -/
def sg_F (P : Nat → Prop) (h h' : bn_H) : Prop := h'.1 = h.1 ∧ h'.2.1 = h.2.1 ∧ h'.2.2.1 = h.2.2.1 ∧ ∀ q, ¬ P q → bn_g h' q = bn_g h q
theorem sg_F.rf {P : Nat → Prop} {h : bn_H} : sg_F P h h := ⟨rfl, rfl, rfl, fun _ _ => rfl⟩
theorem sg_F.tr {P : Nat → Prop} {h h1 h2 : bn_H} (a : sg_F P h h1) (b : sg_F P h1 h2) : sg_F P h h2 := ⟨b.1.trans a.1, b.2.1.trans a.2.1, b.2.2.1.trans a.2.2.1, fun q hq => (b.2.2.2 q hq).trans (a.2.2.2 q hq)⟩
theorem sg_F.mono {P P' : Nat → Prop} {h h1 : bn_H} (a : sg_F P h h1) (b : ∀ q, P q → P' q) : sg_F P' h h1 := ⟨a.1, a.2.1, a.2.2.1, fun q hq => a.2.2.2 q (fun z => hq (b q z))⟩
theorem bn_g_u {h : bn_H} {q : Nat} {e0 e : bn_E} (hq : bn_g h q = some e0) (k : Nat) : bn_g (bn_u h q e) k = if k = q then some e else bn_g h k := by
  have hlt := bn_g_lt hq
  unfold bn_g bn_u va_up
  dsimp only
  by_cases hk : k = q
  · subst hk
    simp [hlt]
  · simp [hk]
theorem bn_u_fr {h : bn_H} {q : Nat} {e0 e : bn_E} (hq : bn_g h q = some e0) : sg_F (fun k => k = q) h (bn_u h q e) := ⟨rfl, rfl, rfl, fun k hk => by rw [bn_g_u hq, if_neg hk]⟩
theorem sg_A.fr {P : Nat → Prop} {h h1 : bn_H} {q t n : Nat} {f : Nat → Int32} (H : sg_A h q t n f) (F : sg_F P h h1) (hq : ¬ P q) : sg_A h1 q t n f := by
  obtain ⟨g, h1, h2⟩ := H
  exact ⟨g, by rw [F.2.2.2 q hq]; exact h1, h2⟩
theorem sg_A.ld {h : bn_H} {q t n j : Nat} {f : Nat → Int32} (H : sg_A h q t n f) (hj : j < n) (hn : n < 2 ^ 31) : bn_ld h q t (nI j) = some (f j) := by
  obtain ⟨g, h1, h2⟩ := H
  unfold bn_ld bn_ai
  rw [h1]
  simp only [if_true, Option.bind_some]
  rw [if_neg (nI_in hj hn), nI_clamp (by omega), h2 j hj]
theorem sg_A.sd {h : bn_H} {q t n j : Nat} {f : Nat → Int32} (H : sg_A h q t n f) (hj : j < n) (hn : n < 2 ^ 31) (x : Int32) : ∃ h', bn_sd h q t (nI j) x = some h' ∧ sg_F (fun k => k = q) h h' ∧ sg_A h' q t n (va_up f j x) := by
  obtain ⟨g, h1, h2⟩ := H
  refine ⟨bn_u h q (.inl (t, n, .inl (upd g j x))), ?_, bn_u_fr h1, upd g j x, ?_, ?_⟩
  · unfold bn_sd bn_ai
    rw [h1]
    simp only [if_true, Option.bind_some]
    rw [if_neg (nI_in hj hn), nI_clamp (by omega)]
  · rw [bn_g_u h1, if_pos rfl]
  · intro k hk
    unfold va_up
    by_cases hkj : k = j
    · subst hkj
      rw [if_pos rfl, pk_us]
    · rw [if_neg hkj, pk_un hkj]
      exact h2 k hk
theorem sg_A.cg {h : bn_H} {q t n : Nat} {f f' : Nat → Int32} (H : sg_A h q t n f) (e : ∀ j, j < n → f j = f' j) : sg_A h q t n f' := by
  obtain ⟨g, h1, h2⟩ := H
  exact ⟨g, h1, fun j hj => (h2 j hj).trans (e j hj)⟩
theorem sg_A.cp {h : bn_H} {q q' n : Nat} {f f' : Nat → Int32} (H : sg_A h q 0 n f) (H' : sg_A h q' 0 n f') (hn : n < 2 ^ 31) : ∃ h', bn_cp h q 0 q' 0 (nI n) = some h' ∧ sg_F (fun k => k = q') h h' ∧ sg_A h' q' 0 n f := by
  obtain ⟨g, h1, h2⟩ := H
  obtain ⟨g', h1', h2'⟩ := H'
  refine ⟨bn_u h q' (.inl (0, n, .inl (va_cpy g g' 0 0 n))), ?_, bn_u_fr h1', va_cpy g g' 0 0 n, ?_, ?_⟩
  · unfold bn_cp bn_ai
    rw [h1, h1']
    simp only [if_true, Option.bind_some]
    have e0 : (0 : Int32).toNatClampNeg = 0 := by decide
    rw [nI_clamp hn, e0]
    rw [if_neg (by
      rintro ((q | q | q) | q)
      · exact absurd q (by decide)
      · exact absurd q (by decide)
      · exact nI_pos hn q
      · omega)]
  · rw [bn_g_u h1', if_pos rfl]
  · intro k hk
    rw [pk_cpy_in (by omega) (by omega)]
    simpa using h2 k hk
theorem sg_G.fr {P : Nat → Prop} {h h1 : bn_H} {p : Nat} {S : sp_S} (H : sg_G h p S) (F : sg_F P h h1) (hq : ∀ k, p ≤ k → k ≤ p + 8 → ¬ P k) : sg_G h1 p S := by
  obtain ⟨a0, a1, a2, a3, a4, a5, a6, a7, a8⟩ := H
  exact ⟨by rw [F.2.2.2 p (hq p (by omega) (by omega))]; exact a0, a1.fr F (hq _ (by omega) (by omega)), a2.fr F (hq _ (by omega) (by omega)), a3.fr F (hq _ (by omega) (by omega)), a4.fr F (hq _ (by omega) (by omega)), a5.fr F (hq _ (by omega) (by omega)), a6.fr F (hq _ (by omega) (by omega)), a7.fr F (hq _ (by omega) (by omega)), a8.fr F (hq _ (by omega) (by omega))⟩
section GG
variable {h : bn_H} {p : Nat} {S : sp_S}
theorem sg_gf (H : sg_G h p S) (k : Nat) : bn_gf h p 0 k = (sg_f p S)[k]? := by
  unfold bn_gf
  rw [H.1]
  simp only [if_true]
theorem sg_isC (H : sg_G h p S) : bn_isC h p 0 = true := by
  unfold bn_isC
  rw [H.1]
  rfl
theorem sg_law (H : sg_G h p S) {K : Int32 → bn_R} : bn_gI h p 0 0 K = K (nI (sp_law S)) := by unfold bn_gI; rw [sg_gf H]; rfl
theorem sg_lives (H : sg_G h p S) {K : Int32 → bn_R} : bn_gI h p 0 1 K = K (nI (sp_lives S)) := by unfold bn_gI; rw [sg_gf H]; rfl
theorem sg_badAt (H : sg_G h p S) {K : Int32 → bn_R} : bn_gI h p 0 2 K = K (nI (sp_badAt S)) := by unfold bn_gI; rw [sg_gf H]; rfl
theorem sg_day (H : sg_G h p S) {K : Int32 → bn_R} : bn_gI h p 0 3 K = K (sp_day S) := by unfold bn_gI; rw [sg_gf H]; rfl
theorem sg_seed (H : sg_G h p S) {K : Int64 → bn_R} : bn_gJ h p 0 4 K = K (sp_seed S) := by unfold bn_gJ; rw [sg_gf H]; rfl
theorem sg_people (H : sg_G h p S) {K : Int32 → bn_R} : bn_gI h p 0 5 K = K (nI (sp_people S)) := by unfold bn_gI; rw [sg_gf H]; rfl
theorem sg_r1 (H : sg_G h p S) {K : Nat → bn_R} : bn_gR h p 0 6 K = K (p + 1) := by unfold bn_gR; rw [sg_gf H]; rfl
theorem sg_r2 (H : sg_G h p S) {K : Nat → bn_R} : bn_gR h p 0 7 K = K (p + 2) := by unfold bn_gR; rw [sg_gf H]; rfl
theorem sg_r3 (H : sg_G h p S) {K : Nat → bn_R} : bn_gR h p 0 8 K = K (p + 3) := by unfold bn_gR; rw [sg_gf H]; rfl
theorem sg_loaves (H : sg_G h p S) {K : Int32 → bn_R} : bn_gI h p 0 9 K = K (nI (sp_loaves S)) := by unfold bn_gI; rw [sg_gf H]; rfl
theorem sg_r4 (H : sg_G h p S) {K : Nat → bn_R} : bn_gR h p 0 10 K = K (p + 4) := by unfold bn_gR; rw [sg_gf H]; rfl
theorem sg_r5 (H : sg_G h p S) {K : Nat → bn_R} : bn_gR h p 0 11 K = K (p + 5) := by unfold bn_gR; rw [sg_gf H]; rfl
theorem sg_r6 (H : sg_G h p S) {K : Nat → bn_R} : bn_gR h p 0 12 K = K (p + 6) := by unfold bn_gR; rw [sg_gf H]; rfl
theorem sg_r7 (H : sg_G h p S) {K : Nat → bn_R} : bn_gR h p 0 13 K = K (p + 7) := by unfold bn_gR; rw [sg_gf H]; rfl
theorem sg_r8 (H : sg_G h p S) {K : Nat → bn_R} : bn_gR h p 0 14 K = K (p + 8) := by unfold bn_gR; rw [sg_gf H]; rfl
theorem sg_l_fasted (H : sg_G h p S) {j : Nat} (hj : j < 5) : bn_ld h (p + 1) 0 (nI j) = some (nI (sp_fasted S j)) := H.2.1.ld hj (by decide)
theorem sg_l_ate (H : sg_G h p S) {j : Nat} (hj : j < 5) : bn_ld h (p + 2) 1 (nI j) = some (nI (sp_ate S j)) := H.2.2.1.ld hj (by decide)
theorem sg_l_eatc (H : sg_G h p S) {j : Nat} (hj : j < 5) : bn_ld h (p + 3) 0 (nI j) = some (sp_eatc S j) := H.2.2.2.1.ld hj (by decide)
theorem sg_l_num (H : sg_G h p S) {j : Nat} (hj : j < 10) : bn_ld h (p + 4) 0 (nI j) = some (nI (sp_num S j)) := H.2.2.2.2.1.ld hj (by decide)
theorem sg_l_hold (H : sg_G h p S) {j : Nat} (hj : j < 10) : bn_ld h (p + 5) 0 (nI j) = some (nI (sp_hold S j)) := H.2.2.2.2.2.1.ld hj (by decide)
theorem sg_l_age (H : sg_G h p S) {j : Nat} (hj : j < 10) : bn_ld h (p + 6) 0 (nI j) = some (nI (sp_age S j)) := H.2.2.2.2.2.2.1.ld hj (by decide)
theorem sg_l_eater (H : sg_G h p S) {j : Nat} (hj : j < 10) : bn_ld h (p + 7) 0 (nI j) = some (sp_eater S j) := H.2.2.2.2.2.2.2.1.ld hj (by decide)
theorem sg_l_eon (H : sg_G h p S) {j : Nat} (hj : j < 10) : bn_ld h (p + 8) 0 (nI j) = some (sp_eon S j) := H.2.2.2.2.2.2.2.2.ld hj (by decide)
end GG
theorem nI_up (f : Nat → Nat) (j x : Nat) : (fun k => nI (va_up f j x k)) = va_up (fun k => nI (f k)) j (nI x) := by
  funext k
  unfold va_up
  split <;> rfl
def sp_u_fasted (S : sp_S) (j : Nat) (x : Nat) : sp_S := (S.1, (S.2.1.1, S.2.1.2), (va_up (sp_fasted S) j x, S.2.2.1.2.1, S.2.2.1.2.2), S.2.2.2.1, S.2.2.2.2.1, S.2.2.2.2.2.1, S.2.2.2.2.2.2.1, S.2.2.2.2.2.2.2)
theorem sg_s_fasted {h : bn_H} {p : Nat} {S : sp_S} (H : sg_G h p S) {j : Nat} (hj : j < 5) (x : Nat) : ∃ h', bn_sd h (p + 1) 0 (nI j) (nI x) = some h' ∧ sg_F (fun k => k = p + 1) h h' ∧ sg_G h' p (sp_u_fasted S j x) := by
  obtain ⟨a0, a1, a2, a3, a4, a5, a6, a7, a8⟩ := H
  obtain ⟨h1, e1, F, A⟩ := a1.sd hj (by decide) (nI x)
  rw [← nI_up] at A
  refine ⟨h1, e1, F, ?_⟩
  exact ⟨by rw [F.2.2.2 p (by omega)]; exact a0, A, a2.fr F (by omega), a3.fr F (by omega), a4.fr F (by omega), a5.fr F (by omega), a6.fr F (by omega), a7.fr F (by omega), a8.fr F (by omega)⟩
def sp_u_ate (S : sp_S) (j : Nat) (x : Nat) : sp_S := (S.1, (S.2.1.1, S.2.1.2), (S.2.2.1.1, va_up (sp_ate S) j x, S.2.2.1.2.2), S.2.2.2.1, S.2.2.2.2.1, S.2.2.2.2.2.1, S.2.2.2.2.2.2.1, S.2.2.2.2.2.2.2)
theorem sg_s_ate {h : bn_H} {p : Nat} {S : sp_S} (H : sg_G h p S) {j : Nat} (hj : j < 5) (x : Nat) : ∃ h', bn_sd h (p + 2) 1 (nI j) (nI x) = some h' ∧ sg_F (fun k => k = p + 2) h h' ∧ sg_G h' p (sp_u_ate S j x) := by
  obtain ⟨a0, a1, a2, a3, a4, a5, a6, a7, a8⟩ := H
  obtain ⟨h1, e1, F, A⟩ := a2.sd hj (by decide) (nI x)
  rw [← nI_up] at A
  refine ⟨h1, e1, F, ?_⟩
  exact ⟨by rw [F.2.2.2 p (by omega)]; exact a0, a1.fr F (by omega), A, a3.fr F (by omega), a4.fr F (by omega), a5.fr F (by omega), a6.fr F (by omega), a7.fr F (by omega), a8.fr F (by omega)⟩
def sp_u_eatc (S : sp_S) (j : Nat) (x : Int32) : sp_S := (S.1, (S.2.1.1, S.2.1.2), (S.2.2.1.1, S.2.2.1.2.1, va_up (sp_eatc S) j x), S.2.2.2.1, S.2.2.2.2.1, S.2.2.2.2.2.1, S.2.2.2.2.2.2.1, S.2.2.2.2.2.2.2)
theorem sg_s_eatc {h : bn_H} {p : Nat} {S : sp_S} (H : sg_G h p S) {j : Nat} (hj : j < 5) (x : Int32) : ∃ h', bn_sd h (p + 3) 0 (nI j) x = some h' ∧ sg_F (fun k => k = p + 3) h h' ∧ sg_G h' p (sp_u_eatc S j x) := by
  obtain ⟨a0, a1, a2, a3, a4, a5, a6, a7, a8⟩ := H
  obtain ⟨h1, e1, F, A⟩ := a3.sd hj (by decide) x
  refine ⟨h1, e1, F, ?_⟩
  exact ⟨by rw [F.2.2.2 p (by omega)]; exact a0, a1.fr F (by omega), a2.fr F (by omega), A, a4.fr F (by omega), a5.fr F (by omega), a6.fr F (by omega), a7.fr F (by omega), a8.fr F (by omega)⟩
def sp_u_num (S : sp_S) (j : Nat) (x : Nat) : sp_S := (S.1, (S.2.1.1, S.2.1.2), (S.2.2.1.1, S.2.2.1.2.1, S.2.2.1.2.2), va_up (sp_num S) j x, S.2.2.2.2.1, S.2.2.2.2.2.1, S.2.2.2.2.2.2.1, S.2.2.2.2.2.2.2)
theorem sg_s_num {h : bn_H} {p : Nat} {S : sp_S} (H : sg_G h p S) {j : Nat} (hj : j < 10) (x : Nat) : ∃ h', bn_sd h (p + 4) 0 (nI j) (nI x) = some h' ∧ sg_F (fun k => k = p + 4) h h' ∧ sg_G h' p (sp_u_num S j x) := by
  obtain ⟨a0, a1, a2, a3, a4, a5, a6, a7, a8⟩ := H
  obtain ⟨h1, e1, F, A⟩ := a4.sd hj (by decide) (nI x)
  rw [← nI_up] at A
  refine ⟨h1, e1, F, ?_⟩
  exact ⟨by rw [F.2.2.2 p (by omega)]; exact a0, a1.fr F (by omega), a2.fr F (by omega), a3.fr F (by omega), A, a5.fr F (by omega), a6.fr F (by omega), a7.fr F (by omega), a8.fr F (by omega)⟩
def sp_u_hold (S : sp_S) (j : Nat) (x : Nat) : sp_S := (S.1, (S.2.1.1, S.2.1.2), (S.2.2.1.1, S.2.2.1.2.1, S.2.2.1.2.2), S.2.2.2.1, va_up (sp_hold S) j x, S.2.2.2.2.2.1, S.2.2.2.2.2.2.1, S.2.2.2.2.2.2.2)
theorem sg_s_hold {h : bn_H} {p : Nat} {S : sp_S} (H : sg_G h p S) {j : Nat} (hj : j < 10) (x : Nat) : ∃ h', bn_sd h (p + 5) 0 (nI j) (nI x) = some h' ∧ sg_F (fun k => k = p + 5) h h' ∧ sg_G h' p (sp_u_hold S j x) := by
  obtain ⟨a0, a1, a2, a3, a4, a5, a6, a7, a8⟩ := H
  obtain ⟨h1, e1, F, A⟩ := a5.sd hj (by decide) (nI x)
  rw [← nI_up] at A
  refine ⟨h1, e1, F, ?_⟩
  exact ⟨by rw [F.2.2.2 p (by omega)]; exact a0, a1.fr F (by omega), a2.fr F (by omega), a3.fr F (by omega), a4.fr F (by omega), A, a6.fr F (by omega), a7.fr F (by omega), a8.fr F (by omega)⟩
def sp_u_age (S : sp_S) (j : Nat) (x : Nat) : sp_S := (S.1, (S.2.1.1, S.2.1.2), (S.2.2.1.1, S.2.2.1.2.1, S.2.2.1.2.2), S.2.2.2.1, S.2.2.2.2.1, va_up (sp_age S) j x, S.2.2.2.2.2.2.1, S.2.2.2.2.2.2.2)
theorem sg_s_age {h : bn_H} {p : Nat} {S : sp_S} (H : sg_G h p S) {j : Nat} (hj : j < 10) (x : Nat) : ∃ h', bn_sd h (p + 6) 0 (nI j) (nI x) = some h' ∧ sg_F (fun k => k = p + 6) h h' ∧ sg_G h' p (sp_u_age S j x) := by
  obtain ⟨a0, a1, a2, a3, a4, a5, a6, a7, a8⟩ := H
  obtain ⟨h1, e1, F, A⟩ := a6.sd hj (by decide) (nI x)
  rw [← nI_up] at A
  refine ⟨h1, e1, F, ?_⟩
  exact ⟨by rw [F.2.2.2 p (by omega)]; exact a0, a1.fr F (by omega), a2.fr F (by omega), a3.fr F (by omega), a4.fr F (by omega), a5.fr F (by omega), A, a7.fr F (by omega), a8.fr F (by omega)⟩
def sp_u_eater (S : sp_S) (j : Nat) (x : Int32) : sp_S := (S.1, (S.2.1.1, S.2.1.2), (S.2.2.1.1, S.2.2.1.2.1, S.2.2.1.2.2), S.2.2.2.1, S.2.2.2.2.1, S.2.2.2.2.2.1, va_up (sp_eater S) j x, S.2.2.2.2.2.2.2)
theorem sg_s_eater {h : bn_H} {p : Nat} {S : sp_S} (H : sg_G h p S) {j : Nat} (hj : j < 10) (x : Int32) : ∃ h', bn_sd h (p + 7) 0 (nI j) x = some h' ∧ sg_F (fun k => k = p + 7) h h' ∧ sg_G h' p (sp_u_eater S j x) := by
  obtain ⟨a0, a1, a2, a3, a4, a5, a6, a7, a8⟩ := H
  obtain ⟨h1, e1, F, A⟩ := a7.sd hj (by decide) x
  refine ⟨h1, e1, F, ?_⟩
  exact ⟨by rw [F.2.2.2 p (by omega)]; exact a0, a1.fr F (by omega), a2.fr F (by omega), a3.fr F (by omega), a4.fr F (by omega), a5.fr F (by omega), a6.fr F (by omega), A, a8.fr F (by omega)⟩
def sp_u_eon (S : sp_S) (j : Nat) (x : Int32) : sp_S := (S.1, (S.2.1.1, S.2.1.2), (S.2.2.1.1, S.2.2.1.2.1, S.2.2.1.2.2), S.2.2.2.1, S.2.2.2.2.1, S.2.2.2.2.2.1, S.2.2.2.2.2.2.1, va_up (sp_eon S) j x)
theorem sg_s_eon {h : bn_H} {p : Nat} {S : sp_S} (H : sg_G h p S) {j : Nat} (hj : j < 10) (x : Int32) : ∃ h', bn_sd h (p + 8) 0 (nI j) x = some h' ∧ sg_F (fun k => k = p + 8) h h' ∧ sg_G h' p (sp_u_eon S j x) := by
  obtain ⟨a0, a1, a2, a3, a4, a5, a6, a7, a8⟩ := H
  obtain ⟨h1, e1, F, A⟩ := a8.sd hj (by decide) x
  refine ⟨h1, e1, F, ?_⟩
  exact ⟨by rw [F.2.2.2 p (by omega)]; exact a0, a1.fr F (by omega), a2.fr F (by omega), a3.fr F (by omega), a4.fr F (by omega), a5.fr F (by omega), a6.fr F (by omega), a7.fr F (by omega), A⟩
def sp_u_law (S : sp_S) (x : Nat) : sp_S := ((x, S.1.2.1, S.1.2.2.1, S.1.2.2.2.1, S.1.2.2.2.2), (S.2.1.1, S.2.1.2), (S.2.2.1.1, S.2.2.1.2.1, S.2.2.1.2.2), S.2.2.2.1, S.2.2.2.2.1, S.2.2.2.2.2.1, S.2.2.2.2.2.2.1, S.2.2.2.2.2.2.2)
theorem sg_s_law {h : bn_H} {p : Nat} {S : sp_S} (H : sg_G h p S) (x : Nat) : ∃ h', bn_pf h p 0 0 (.int (nI x)) = some h' ∧ sg_F (fun k => k = p) h h' ∧ sg_G h' p (sp_u_law S x) := by
  obtain ⟨a0, a1, a2, a3, a4, a5, a6, a7, a8⟩ := H
  refine ⟨bn_u h p (.inr (0, (sg_f p S).set 0 (.int (nI x)))), ?_, bn_u_fr a0, ?_⟩
  · unfold bn_pf
    rw [a0]
    rfl
  · have F : sg_F (fun k => k = p) h (bn_u h p (.inr (0, (sg_f p S).set 0 (.int (nI x))))) := bn_u_fr a0
    exact ⟨by rw [bn_g_u a0, if_pos rfl]; rfl, a1.fr F (by omega), a2.fr F (by omega), a3.fr F (by omega), a4.fr F (by omega), a5.fr F (by omega), a6.fr F (by omega), a7.fr F (by omega), a8.fr F (by omega)⟩
def sp_u_lives (S : sp_S) (x : Nat) : sp_S := ((S.1.1, x, S.1.2.2.1, S.1.2.2.2.1, S.1.2.2.2.2), (S.2.1.1, S.2.1.2), (S.2.2.1.1, S.2.2.1.2.1, S.2.2.1.2.2), S.2.2.2.1, S.2.2.2.2.1, S.2.2.2.2.2.1, S.2.2.2.2.2.2.1, S.2.2.2.2.2.2.2)
theorem sg_s_lives {h : bn_H} {p : Nat} {S : sp_S} (H : sg_G h p S) (x : Nat) : ∃ h', bn_pf h p 0 1 (.int (nI x)) = some h' ∧ sg_F (fun k => k = p) h h' ∧ sg_G h' p (sp_u_lives S x) := by
  obtain ⟨a0, a1, a2, a3, a4, a5, a6, a7, a8⟩ := H
  refine ⟨bn_u h p (.inr (0, (sg_f p S).set 1 (.int (nI x)))), ?_, bn_u_fr a0, ?_⟩
  · unfold bn_pf
    rw [a0]
    rfl
  · have F : sg_F (fun k => k = p) h (bn_u h p (.inr (0, (sg_f p S).set 1 (.int (nI x))))) := bn_u_fr a0
    exact ⟨by rw [bn_g_u a0, if_pos rfl]; rfl, a1.fr F (by omega), a2.fr F (by omega), a3.fr F (by omega), a4.fr F (by omega), a5.fr F (by omega), a6.fr F (by omega), a7.fr F (by omega), a8.fr F (by omega)⟩
def sp_u_badAt (S : sp_S) (x : Nat) : sp_S := ((S.1.1, S.1.2.1, x, S.1.2.2.2.1, S.1.2.2.2.2), (S.2.1.1, S.2.1.2), (S.2.2.1.1, S.2.2.1.2.1, S.2.2.1.2.2), S.2.2.2.1, S.2.2.2.2.1, S.2.2.2.2.2.1, S.2.2.2.2.2.2.1, S.2.2.2.2.2.2.2)
theorem sg_s_badAt {h : bn_H} {p : Nat} {S : sp_S} (H : sg_G h p S) (x : Nat) : ∃ h', bn_pf h p 0 2 (.int (nI x)) = some h' ∧ sg_F (fun k => k = p) h h' ∧ sg_G h' p (sp_u_badAt S x) := by
  obtain ⟨a0, a1, a2, a3, a4, a5, a6, a7, a8⟩ := H
  refine ⟨bn_u h p (.inr (0, (sg_f p S).set 2 (.int (nI x)))), ?_, bn_u_fr a0, ?_⟩
  · unfold bn_pf
    rw [a0]
    rfl
  · have F : sg_F (fun k => k = p) h (bn_u h p (.inr (0, (sg_f p S).set 2 (.int (nI x))))) := bn_u_fr a0
    exact ⟨by rw [bn_g_u a0, if_pos rfl]; rfl, a1.fr F (by omega), a2.fr F (by omega), a3.fr F (by omega), a4.fr F (by omega), a5.fr F (by omega), a6.fr F (by omega), a7.fr F (by omega), a8.fr F (by omega)⟩
def sp_u_day (S : sp_S) (x : Int32) : sp_S := (S.1, (x, S.2.1.2), (S.2.2.1.1, S.2.2.1.2.1, S.2.2.1.2.2), S.2.2.2.1, S.2.2.2.2.1, S.2.2.2.2.2.1, S.2.2.2.2.2.2.1, S.2.2.2.2.2.2.2)
theorem sg_s_day {h : bn_H} {p : Nat} {S : sp_S} (H : sg_G h p S) (x : Int32) : ∃ h', bn_pf h p 0 3 (.int x) = some h' ∧ sg_F (fun k => k = p) h h' ∧ sg_G h' p (sp_u_day S x) := by
  obtain ⟨a0, a1, a2, a3, a4, a5, a6, a7, a8⟩ := H
  refine ⟨bn_u h p (.inr (0, (sg_f p S).set 3 (.int x))), ?_, bn_u_fr a0, ?_⟩
  · unfold bn_pf
    rw [a0]
    rfl
  · have F : sg_F (fun k => k = p) h (bn_u h p (.inr (0, (sg_f p S).set 3 (.int x)))) := bn_u_fr a0
    exact ⟨by rw [bn_g_u a0, if_pos rfl]; rfl, a1.fr F (by omega), a2.fr F (by omega), a3.fr F (by omega), a4.fr F (by omega), a5.fr F (by omega), a6.fr F (by omega), a7.fr F (by omega), a8.fr F (by omega)⟩
def sp_u_seed (S : sp_S) (x : Int64) : sp_S := (S.1, (S.2.1.1, x), (S.2.2.1.1, S.2.2.1.2.1, S.2.2.1.2.2), S.2.2.2.1, S.2.2.2.2.1, S.2.2.2.2.2.1, S.2.2.2.2.2.2.1, S.2.2.2.2.2.2.2)
theorem sg_s_seed {h : bn_H} {p : Nat} {S : sp_S} (H : sg_G h p S) (x : Int64) : ∃ h', bn_pf h p 0 4 (.long x) = some h' ∧ sg_F (fun k => k = p) h h' ∧ sg_G h' p (sp_u_seed S x) := by
  obtain ⟨a0, a1, a2, a3, a4, a5, a6, a7, a8⟩ := H
  refine ⟨bn_u h p (.inr (0, (sg_f p S).set 4 (.long x))), ?_, bn_u_fr a0, ?_⟩
  · unfold bn_pf
    rw [a0]
    rfl
  · have F : sg_F (fun k => k = p) h (bn_u h p (.inr (0, (sg_f p S).set 4 (.long x)))) := bn_u_fr a0
    exact ⟨by rw [bn_g_u a0, if_pos rfl]; rfl, a1.fr F (by omega), a2.fr F (by omega), a3.fr F (by omega), a4.fr F (by omega), a5.fr F (by omega), a6.fr F (by omega), a7.fr F (by omega), a8.fr F (by omega)⟩
def sp_u_people (S : sp_S) (x : Nat) : sp_S := ((S.1.1, S.1.2.1, S.1.2.2.1, x, S.1.2.2.2.2), (S.2.1.1, S.2.1.2), (S.2.2.1.1, S.2.2.1.2.1, S.2.2.1.2.2), S.2.2.2.1, S.2.2.2.2.1, S.2.2.2.2.2.1, S.2.2.2.2.2.2.1, S.2.2.2.2.2.2.2)
theorem sg_s_people {h : bn_H} {p : Nat} {S : sp_S} (H : sg_G h p S) (x : Nat) : ∃ h', bn_pf h p 0 5 (.int (nI x)) = some h' ∧ sg_F (fun k => k = p) h h' ∧ sg_G h' p (sp_u_people S x) := by
  obtain ⟨a0, a1, a2, a3, a4, a5, a6, a7, a8⟩ := H
  refine ⟨bn_u h p (.inr (0, (sg_f p S).set 5 (.int (nI x)))), ?_, bn_u_fr a0, ?_⟩
  · unfold bn_pf
    rw [a0]
    rfl
  · have F : sg_F (fun k => k = p) h (bn_u h p (.inr (0, (sg_f p S).set 5 (.int (nI x))))) := bn_u_fr a0
    exact ⟨by rw [bn_g_u a0, if_pos rfl]; rfl, a1.fr F (by omega), a2.fr F (by omega), a3.fr F (by omega), a4.fr F (by omega), a5.fr F (by omega), a6.fr F (by omega), a7.fr F (by omega), a8.fr F (by omega)⟩
def sp_u_loaves (S : sp_S) (x : Nat) : sp_S := ((S.1.1, S.1.2.1, S.1.2.2.1, S.1.2.2.2.1, x), (S.2.1.1, S.2.1.2), (S.2.2.1.1, S.2.2.1.2.1, S.2.2.1.2.2), S.2.2.2.1, S.2.2.2.2.1, S.2.2.2.2.2.1, S.2.2.2.2.2.2.1, S.2.2.2.2.2.2.2)
theorem sg_s_loaves {h : bn_H} {p : Nat} {S : sp_S} (H : sg_G h p S) (x : Nat) : ∃ h', bn_pf h p 0 9 (.int (nI x)) = some h' ∧ sg_F (fun k => k = p) h h' ∧ sg_G h' p (sp_u_loaves S x) := by
  obtain ⟨a0, a1, a2, a3, a4, a5, a6, a7, a8⟩ := H
  refine ⟨bn_u h p (.inr (0, (sg_f p S).set 9 (.int (nI x)))), ?_, bn_u_fr a0, ?_⟩
  · unfold bn_pf
    rw [a0]
    rfl
  · have F : sg_F (fun k => k = p) h (bn_u h p (.inr (0, (sg_f p S).set 9 (.int (nI x))))) := bn_u_fr a0
    exact ⟨by rw [bn_g_u a0, if_pos rfl]; rfl, a1.fr F (by omega), a2.fr F (by omega), a3.fr F (by omega), a4.fr F (by omega), a5.fr F (by omega), a6.fr F (by omega), a7.fr F (by omega), a8.fr F (by omega)⟩
