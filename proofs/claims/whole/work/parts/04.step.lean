/-! ONE INSTRUCTION OF THE WALK IS ONE OF THE MACHINE -/
def bn_lp (G : bn_G) (ls : bn_L) : List (Nat × Value) := (List.range ls.length).filterMap (fun i => (bn_get ls i).map (fun v => (i, bn_cv G v)))
theorem bn_get_lt {ls : bn_L} {i : Nat} {v : Value} (h : bn_get ls i = some v) : i < ls.length := by
  unfold bn_get at h
  rcases Nat.lt_or_ge i ls.length with q | q
  · exact q
  · rw [List.getElem?_eq_none q] at h
    cases h
theorem bn_lp_mem {G : bn_G} {ls : bn_L} {i : Nat} {v : Value} (h : bn_get ls i = some v) : (i, bn_cv G v) ∈ bn_lp G ls := List.mem_filterMap.mpr ⟨i, List.mem_range.mpr (bn_get_lt h), by rw [h]; rfl⟩
theorem bn_LV.has {G : bn_G} {nL : Nat} {A : Array Slot} {ls : bn_L} (h : bn_LV G nL A ls) : lv_has A nL (bn_lp G ls) := by
  refine ⟨h.1, h.2.1, fun q hq => ?_⟩
  obtain ⟨i, -, hi⟩ := List.mem_filterMap.mp hq
  obtain ⟨v, h1, rfl⟩ := Option.map_eq_some_iff.mp hi
  exact h.2.2 i v h1
theorem bn_LV.at {G : bn_G} {nL : Nat} {A : Array Slot} {ls : bn_L} (h : bn_LV G nL A ls) {i : Nat} {v : Value} (hg : bn_get ls i = some v) : A[i]? = some (.val (bn_cv G v)) := h.2.2 i v hg
theorem bn_get_set (ls : bn_L) (i j : Nat) (o : Option Value) : bn_get (ls.set i o) j = if i = j then (if i < ls.length then o else none) else bn_get ls j := by
  unfold bn_get
  rw [List.getElem?_set]
  split
  · split <;> rfl
  · rfl
theorem bn_kil_len (ls : bn_L) (i : Nat) : (bn_kil ls i).length = ls.length := by
  unfold bn_kil
  split
  · rfl
  · split <;> simp
theorem bn_kil_get {ls : bn_L} {i j : Nat} {v : Value} (h : bn_get (bn_kil ls i) j = some v) : bn_get ls j = some v ∧ ¬ (j + 1 = i ∧ v.category = 2) := by
  cases i with
  | zero => exact ⟨h, by omega⟩
  | succ k =>
    have key : ∀ x, bn_get ls k = some x → x.category = 2 → bn_kil ls (k + 1) = ls.set k none := by
      intro x hx hc
      unfold bn_kil
      simp only [hx]
      cases x <;> first | rfl | (simp [Value.category] at hc)
    by_cases hc : ∃ x, bn_get ls k = some x ∧ x.category = 2
    · obtain ⟨x, hx, hc⟩ := hc
      rw [key x hx hc, bn_get_set] at h
      split at h
      · rename_i hkj
        split at h <;> cases h
      · rename_i hkj
        exact ⟨h, by omega⟩
    · have h1 : bn_kil ls (k + 1) = ls := by
        unfold bn_kil
        dsimp only
        split
        · rename_i y hy
          exact absurd ⟨_, hy, rfl⟩ hc
        · rename_i y hy
          exact absurd ⟨_, hy, rfl⟩ hc
        · rfl
      rw [h1] at h
      refine ⟨h, fun q => hc ⟨v, ?_, q.2⟩⟩
      rw [← h]
      congr 1
      omega
theorem bn_LV.set1 {G : bn_G} {nL i : Nat} {A' : Array Slot} {ls : bn_L} {x : Value} (h' : lv_has A' nL ((i, bn_cv G x) :: (bn_lp G ls).filter (fun q => !(q.1 == i) && !(q.1 + 1 == i && q.2.category == 2)))) : bn_LV G nL A' (bn_st1 ls i x) := by
  refine ⟨h'.1, h'.2.1, fun j v hj => ?_⟩
  unfold bn_st1 at hj
  rw [bn_get_set] at hj
  split at hj
  · rename_i hij
    subst hij
    split at hj
    · cases hj
      exact h'.2.2 _ List.mem_cons_self
    · cases hj
  · rename_i hij
    obtain ⟨h1, h2⟩ := bn_kil_get hj
    refine h'.2.2 (j, bn_cv G v) (List.mem_cons_of_mem _ (List.mem_filter.mpr ⟨bn_lp_mem h1, ?_⟩))
    have h3 : ¬ j = i := fun q => hij q.symm
    simp only [bn_cv_cat]
    by_cases h4 : j + 1 = i
    · have h5 : ¬ v.category = 2 := fun q => h2 ⟨h4, q⟩
      simp [h3, h5]
    · simp [h3, h4]
theorem bn_LV.set2 {G : bn_G} {nL i : Nat} {A' : Array Slot} {ls : bn_L} {x : Value} (h' : lv_has A' nL ((i, bn_cv G x) :: (bn_lp G ls).filter (fun q => !(q.1 == i) && (!(q.1 == i + 1) && !(q.1 + 1 == i && q.2.category == 2))))) : bn_LV G nL A' (bn_st2 ls i x) := by
  refine ⟨h'.1, h'.2.1, fun j v hj => ?_⟩
  unfold bn_st2 at hj
  rw [bn_get_set] at hj
  split at hj
  · split at hj <;> cases hj
  rename_i hij1
  rw [bn_get_set] at hj
  split at hj
  · rename_i hij
    subst hij
    split at hj
    · cases hj
      exact h'.2.2 _ List.mem_cons_self
    · cases hj
  · rename_i hij
    obtain ⟨h1, h2⟩ := bn_kil_get hj
    refine h'.2.2 (j, bn_cv G v) (List.mem_cons_of_mem _ (List.mem_filter.mpr ⟨bn_lp_mem h1, ?_⟩))
    have h3 : ¬ j = i := fun q => hij q.symm
    have h6 : ¬ j = i + 1 := fun q => hij1 q.symm
    simp only [bn_cv_cat]
    by_cases h4 : j + 1 = i
    · have h5 : ¬ v.category = 2 := fun q => h2 ⟨h4, q⟩
      simp [h3, h5, h6]
    · simp [h3, h4, h6]
theorem bn_g_lt {h : bn_H} {p : Nat} {e : bn_E} (hg : bn_g h p = some e) : p < h.2.1 := by
  unfold bn_g at hg
  split at hg
  · assumption
  · cases hg
theorem bn_gf_inv {h : bn_H} {p ci k : Nat} {v : Value} (e : bn_gf h p ci k = some v) : ∃ fs, bn_g h p = some (.inr (ci, fs)) ∧ fs[k]? = some v := by
  unfold bn_gf at e
  split at e
  · rename_i o ho
    obtain ⟨c, fs⟩ := o
    dsimp only at e
    split at e
    · rename_i hc
      subst hc
      exact ⟨fs, ho, e⟩
    · cases e
  · cases e
theorem bn_pf_inv {h h' : bn_H} {p ci k : Nat} {v : Value} (e : bn_pf h p ci k v = some h') : ∃ fs, bn_g h p = some (.inr (ci, fs)) ∧ k < fs.length ∧ h' = bn_u h p (.inr (ci, fs.set k v)) := by
  unfold bn_pf at e
  split at e
  · rename_i o ho
    obtain ⟨c, fs⟩ := o
    dsimp only at e
    split at e
    · rename_i hc
      obtain ⟨rfl, hk⟩ := hc
      exact ⟨fs, ho, hk, (Option.some.inj e).symm⟩
    · cases e
  · cases e
theorem bn_ai_inv {h : bn_H} {p t : Nat} {a : Nat × (Nat → Int32)} (e : bn_ai h p t = some a) : bn_g h p = some (.inl (t, a.1, .inl a.2)) := by
  unfold bn_ai at e
  split at e
  · rename_i u n f hg
    split at e
    · rename_i ht
      subst ht
      cases e
      exact hg
    · cases e
  · cases e
theorem bn_al_inv {h : bn_H} {p : Nat} {a : Nat × (Nat → Int64)} (e : bn_al h p = some a) : bn_g h p = some (.inl (2, a.1, .inr (.inl a.2))) := by
  unfold bn_al at e
  split at e
  · rename_i u n f hg
    split at e
    · rename_i ht
      subst ht
      cases e
      exact hg
    · cases e
  · cases e
theorem bn_ar_inv {h : bn_H} {p : Nat} {a : Nat × (Nat → Option Nat)} (e : bn_ar h p = some a) : bn_g h p = some (.inl (3, a.1, .inr (.inr (.inr (.inr a.2))))) := by
  unfold bn_ar at e
  split at e
  · rename_i u n f hg
    split at e
    · rename_i ht
      subst ht
      cases e
      exact hg
    · cases e
  · cases e
theorem bn_isC_inv {h : bn_H} {p c : Nat} (e : bn_isC h p c = true) : ∃ fs, bn_g h p = some (.inr (c, fs)) := by
  unfold bn_isC at e
  split at e
  · rename_i o ho
    obtain ⟨d, fs⟩ := o
    simp only [beq_iff_eq] at e
    subst e
    exact ⟨fs, ho⟩
  · cases e
theorem bn_W.set {s : State} {G : bn_G} {h : bn_H} {H1 : Heap} {locs1 : List Loc} {p : Nat} {e0 e : bn_E} {x : va_E} (hg : bn_g h p = some e0) (hx : x = bn_ce G e) (h1 : va_P G.2.2.1 bn_cl ((bn_wl G h).set p (G.1 + p, x)) H1) (h2 : va_D (bn_A G) ((bn_wl G h).set p (G.1 + p, x))) (h3 : va_S (bn_A G) s.heap H1 locs1) : bn_W s G (bn_u h p e) H1 locs1 := by
  subst hx
  rw [bn_wl_set hg] at h1 h2
  exact ⟨h1, h2, h3⟩
theorem bn_W.app {s : State} {G : bn_G} {h : bn_H} {H1 : Heap} {locs1 : List Loc} {q z : Nat} {e : bn_E} {x : va_E} (hq : q = G.1 + h.2.1) (hx : x = bn_ce G e) (h1 : va_P G.2.2.1 bn_cl (bn_wl G h ++ [(q, x)]) H1) (h2 : va_D (bn_A G) (bn_wl G h ++ [(q, x)])) (h3 : va_S (bn_A G) s.heap H1 locs1) : bn_W s G (bn_n h e z) H1 locs1 := by
  subst hx
  subst hq
  rw [bn_wl_app (z := z)] at h1 h2
  exact ⟨h1, h2, h3⟩
