/-! ONE INSTRUCTION OF THE WALK IS ONE OF THE MACHINE: all that neither call nor return -/
abbrev bn_Q : Type := Nat × bn_L × List Value × bn_H
def bn_XW (mi pc : Nat) (ls : bn_L) (st : List Value) (h : bn_H) (a : bn_Q) : Prop := (h.2.1 ≤ a.2.2.2.2.1 ∧ h.2.2.1 ≤ a.2.2.2.2.2.1 ∧ a.2.2.2.1 = h.1) ∧
  ∀ (p : Program) (l : Launch) (e : Env) (R : Room) (s : State) (m : MethodId) (args : Array Value) (below : List Frame) (meth : Method) (c : Code) (Q : State → Prop) (G : bn_G) (n0 z0 : Nat) (H : Heap) (locs : List Loc) (A : Array Slot),
    bn_Cx p R s m args meth c mi G h.1 → s.heap.size = G.1 + n0 → n0 ≤ h.2.1 → z0 ≤ h.2.2.1 → a.2.2.2.2.1 - n0 ≤ R.cells → a.2.2.2.2.2.1 - z0 ≤ R.slots → bn_W s G h H locs → bn_LV G (bn_m mi) A ls →
    (∀ (H' : Heap) (locs' : List Loc) (A' : Array Slot), bn_W s G a.2.2.2 H' locs' → bn_LV G (bn_m mi) A' a.2.1 → W p l e R s m args below meth c H' locs' (a.2.2.2.2.1 - n0) (a.2.2.2.2.2.1 - z0) Q (F0 m a.1 A' (a.2.2.1.map (bn_cv G)))) →
    W p l e R s m args below meth c H locs (h.2.1 - n0) (h.2.2.1 - z0) Q (F0 m pc A (st.map (bn_cv G)))
theorem bn_pure {mi pc pc' : Nat} {ls ls' : bn_L} {st st' : List Value} {h : bn_H} (k : ∀ {p : Program} {l : Launch} {e : Env} {R : Room} {s : State} {m : MethodId} {args : Array Value} {below : List Frame} {meth : Method} {c : Code} {Q : State → Prop} {G : bn_G} {H : Heap} {locs : List Loc} {cells slots : Nat} {A : Array Slot},
    bn_Cx p R s m args meth c mi G h.1 → bn_LV G (bn_m mi) A ls → cells ≤ R.cells → slots ≤ R.slots → (∀ A' : Array Slot, bn_LV G (bn_m mi) A' ls' → W p l e R s m args below meth c H locs cells slots Q (F0 m pc' A' (st'.map (bn_cv G)))) → W p l e R s m args below meth c H locs cells slots Q (F0 m pc A (st.map (bn_cv G)))) : bn_XW mi pc ls st h (pc', ls', st', h) :=
  ⟨⟨Nat.le_refl _, Nat.le_refl _, rfl⟩, fun p l e R s m args below meth c Q G n0 z0 H locs A C _ _ _ hc hz hW hl kk => k C hl hc hz (fun A' hl' => kk H locs A' hW hl')⟩
theorem bn_heap {mi pc pc' : Nat} {ls ls' : bn_L} {st st' : List Value} {h h' : bn_H} (hn : h'.2.1 = h.2.1) (hz : h'.2.2.1 = h.2.2.1) (hs : h'.1 = h.1) (k : ∀ {p : Program} {l : Launch} {e : Env} {R : Room} {s : State} {m : MethodId} {args : Array Value} {below : List Frame} {meth : Method} {c : Code} {Q : State → Prop} {G : bn_G} {H : Heap} {locs : List Loc} {cells slots : Nat} {A : Array Slot},
    bn_Cx p R s m args meth c mi G h.1 → bn_LV G (bn_m mi) A ls → bn_W s G h H locs → (∀ (H' : Heap) (locs' : List Loc) (A' : Array Slot), bn_W s G h' H' locs' → bn_LV G (bn_m mi) A' ls' → W p l e R s m args below meth c H' locs' cells slots Q (F0 m pc' A' (st'.map (bn_cv G)))) → W p l e R s m args below meth c H locs cells slots Q (F0 m pc A (st.map (bn_cv G)))) : bn_XW mi pc ls st h (pc', ls', st', h') :=
  ⟨⟨Nat.le_of_eq hn.symm, Nat.le_of_eq hz.symm, hs⟩, fun p l e R s m args below meth c Q G n0 z0 H locs A C _ _ _ _ _ hW hl kk => k C hl hW (fun H' locs' A' hW' hl' => by
    have := kk H' locs' A' hW' hl'
    dsimp only at this
    rw [hn, hz] at this
    exact this)⟩
theorem bn_size {p : Program} {l : Launch} {e : Env} {R : Room} {s : State} {m : MethodId} {args : Array Value} {below : List Frame} {meth : Method} {c : Code} {H : Heap} {locs : List Loc} {cells slots : Nat} {Q : State → Prop} {g : JFrame} (k : H.size ≤ s.heap.size + cells → W p l e R s m args below meth c H locs cells slots Q g) : W p l e R s m args below meth c H locs cells slots Q g := fun T hT X => k (by rw [← hT]; exact X.heapSize) T hT X
theorem bn_q_eq {G : bn_G} {h : bn_H} {q : Nat} {x : va_E} {H1 : Heap} (h1 : va_P G.2.2.1 bn_cl (bn_wl G h ++ [(q, x)]) H1) (h2 : va_D (bn_A G) (bn_wl G h ++ [(q, x)])) (hz : H1.size ≤ G.1 + h.2.1 + 1) : q = G.1 + h.2.1 := by
  have hlen : (bn_wl G h).length = h.2.1 := by simp [bn_wl]
  have hq : (bn_wl G h ++ [(q, x)])[h.2.1]? = some (q, x) := by rw [List.getElem?_append_right (by omega), hlen]; simp
  have a1 : q < H1.size := (h1 _ _ hq).lt
  have a2 : G.1 ≤ q := h2.2 _ _ hq
  rcases Nat.lt_or_ge q (G.1 + h.2.1) with a3 | a3
  · have hk : (bn_wl G h ++ [(q, x)])[q - G.1]? = some (G.1 + (q - G.1), bn_ce G (h.2.2.2 (q - G.1))) := by
      rw [List.getElem?_append_left (by omega)]
      exact bn_wl_get (by unfold bn_g; rw [if_pos (by omega)])
    have := h2.1 _ _ _ _ hk hq (by dsimp only; omega)
    omega
  · omega
theorem bn_newW {mi pc pc' z : Nat} {ls ls' : bn_L} {st st' : List Value} {h : bn_H} {e0 : bn_E} (k : ∀ {p : Program} {l : Launch} {e : Env} {R : Room} {s : State} {m : MethodId} {args : Array Value} {below : List Frame} {meth : Method} {c : Code} {Q : State → Prop} {G : bn_G} {H : Heap} {locs : List Loc} {cells slots : Nat} {A : Array Slot},
    bn_Cx p R s m args meth c mi G h.1 → bn_LV G (bn_m mi) A ls → bn_W s G h H locs → (∀ q : Nat, s.heap.size ≤ q → bn_A G q) → cells + 1 ≤ R.cells → slots + z ≤ R.slots → (∀ (q : Nat) (H' : Heap) (locs' : List Loc) (A' : Array Slot), va_P G.2.2.1 bn_cl (bn_wl G h ++ [(q, bn_ce G e0)]) H' → va_D (bn_A G) (bn_wl G h ++ [(q, bn_ce G e0)]) → va_S (bn_A G) s.heap H' locs' → bn_LV G (bn_m mi) A' ls' → W p l e R s m args below meth c H' locs' (cells + 1) (slots + z) Q (F0 m pc' A' (.ref q :: st'.map (bn_cv G)))) → W p l e R s m args below meth c H locs cells slots Q (F0 m pc A (st.map (bn_cv G)))) : bn_XW mi pc ls st h (pc', ls', .ref h.2.1 :: st', bn_n h e0 z) :=
  ⟨⟨Nat.le_succ _, Nat.le_add_right _ _, rfl⟩, fun p l e R s m args below meth c Q G n0 z0 H locs A C hs hn0 hz0 hc hz hW hl kk => by
    have d1 : (bn_n h e0 z).2.1 - n0 = h.2.1 - n0 + 1 := by show h.2.1 + 1 - n0 = _; omega
    have d2 : (bn_n h e0 z).2.2.1 - z0 = h.2.2.1 - z0 + z := by show h.2.2.1 + z - z0 = _; omega
    dsimp only at hc hz kk
    rw [d1] at hc
    rw [d2] at hz
    refine k C hl hW (fun q hq => ?_) hc hz (fun q H' locs' A' f1 f2 f3 f4 => ?_)
    · show G.1 ≤ q
      omega
    · refine bn_size (fun hsz => ?_)
      have hq := bn_q_eq f1 f2 (by omega)
      subst hq
      have := kk H' locs' A' (bn_W.app rfl rfl f1 f2 f3) f4
      rw [d1, d2] at this
      exact this⟩
theorem bn_tg_inv {pc t : Nat} {off : Int} (e : bn_tg pc off = some t) : (pc : Int) + off = (t : Int) := by
  unfold bn_tg at e
  split at e
  · rename_i hh
    cases e
    omega
  · cases e
theorem bn_i1_inv {ls : bn_L} {k i : Nat} {st : List Value} {h : bn_H} {a : bn_Q} (e : bn_i1 ls k i st h = some a) : ∃ x, bn_get ls i = some (.int x) ∧ a = (k, ls, .int x :: st, h) := by
  unfold bn_i1 at e
  split at e
  · rename_i x hx
    exact ⟨x, hx, (Option.some.inj e).symm⟩
  · cases e
theorem bn_l1_inv {ls : bn_L} {k i : Nat} {st : List Value} {h : bn_H} {a : bn_Q} (e : bn_l1 ls k i st h = some a) : ∃ x, bn_get ls i = some (.long x) ∧ a = (k, ls, .long x :: st, h) := by
  unfold bn_l1 at e
  split at e
  · rename_i x hx
    exact ⟨x, hx, (Option.some.inj e).symm⟩
  · cases e
theorem bn_a1_inv {ls : bn_L} {k i : Nat} {st : List Value} {h : bn_H} {a : bn_Q} (e : bn_a1 ls k i st h = some a) : ∃ v, bn_get ls i = some v ∧ (∀ G, ∃ x, bn_cv G v = .ref x) ∧ a = (k, ls, v :: st, h) := by
  unfold bn_a1 at e
  split at e
  · rename_i x hx
    exact ⟨_, hx, fun G => ⟨_, rfl⟩, (Option.some.inj e).symm⟩
  · rename_i x hx
    exact ⟨_, hx, fun G => ⟨_, rfl⟩, (Option.some.inj e).symm⟩
  · cases e
theorem bn_is_inv {ls : bn_L} {k i nL : Nat} {st : List Value} {h : bn_H} {a : bn_Q} (e : bn_iso ls k i nL st h = some a) : ∃ x r, st = .int x :: r ∧ i < nL ∧ a = (k, bn_st1 ls i (.int x), r, h) := by
  unfold bn_iso at e
  split at e
  · split at e
    · rename_i hi
      exact ⟨_, _, rfl, hi, (Option.some.inj e).symm⟩
    · cases e
  · cases e
theorem bn_lst_inv {ls : bn_L} {k i nL : Nat} {st : List Value} {h : bn_H} {a : bn_Q} (e : bn_lst ls k i nL st h = some a) : ∃ x r, st = .long x :: r ∧ i + 1 < nL ∧ a = (k, bn_st2 ls i (.long x), r, h) := by
  unfold bn_lst at e
  split at e
  · split at e
    · rename_i hi
      exact ⟨_, _, rfl, hi, (Option.some.inj e).symm⟩
    · cases e
  · cases e
theorem bn_as_inv {ls : bn_L} {k i nL : Nat} {st : List Value} {h : bn_H} {a : bn_Q} (e : bn_as ls k i nL st h = some a) : ∃ x r, st = .ref x :: r ∧ i < nL ∧ a = (k, bn_st1 ls i (.ref x), r, h) := by
  unfold bn_as at e
  split at e
  · split at e
    · rename_i hi
      exact ⟨_, _, rfl, hi, (Option.some.inj e).symm⟩
    · cases e
  · cases e
theorem bn_ii_inv {f : Int32 → Int32 → Int32} {ls : bn_L} {k : Nat} {st : List Value} {h : bn_H} {a : bn_Q} (e : bn_ii f ls k st h = some a) : ∃ x y r, st = .int y :: .int x :: r ∧ a = (k, ls, .int (f x y) :: r, h) := by
  unfold bn_ii at e
  split at e
  · exact ⟨_, _, _, rfl, (Option.some.inj e).symm⟩
  · cases e
theorem bn_ll_inv {f : Int64 → Int64 → Int64} {ls : bn_L} {k : Nat} {st : List Value} {h : bn_H} {a : bn_Q} (e : bn_ll f ls k st h = some a) : ∃ x y r, st = .long y :: .long x :: r ∧ a = (k, ls, .long (f x y) :: r, h) := by
  unfold bn_ll at e
  split at e
  · exact ⟨_, _, _, rfl, (Option.some.inj e).symm⟩
  · cases e
theorem bn_li_inv {f : Int64 → Int32 → Int64} {ls : bn_L} {k : Nat} {st : List Value} {h : bn_H} {a : bn_Q} (e : bn_li f ls k st h = some a) : ∃ x y r, st = .int y :: .long x :: r ∧ a = (k, ls, .long (f x y) :: r, h) := by
  unfold bn_li at e
  split at e
  · exact ⟨_, _, _, rfl, (Option.some.inj e).symm⟩
  · cases e
theorem bn_idv_inv {f : Int32 → Int32 → Int32} {ls : bn_L} {k : Nat} {st : List Value} {h : bn_H} {a : bn_Q} (e : bn_idv f ls k st h = some a) : ∃ x y r, st = .int y :: .int x :: r ∧ ¬ y = 0 ∧ a = (k, ls, .int (f x y) :: r, h) := by
  unfold bn_idv at e
  split at e
  · split at e
    · cases e
    · rename_i hy
      exact ⟨_, _, _, rfl, hy, (Option.some.inj e).symm⟩
  · cases e
theorem bn_ldv_inv {f : Int64 → Int64 → Int64} {ls : bn_L} {k : Nat} {st : List Value} {h : bn_H} {a : bn_Q} (e : bn_ldv f ls k st h = some a) : ∃ x y r, st = .long y :: .long x :: r ∧ ¬ y = 0 ∧ a = (k, ls, .long (f x y) :: r, h) := by
  unfold bn_ldv at e
  split at e
  · split at e
    · cases e
    · rename_i hy
      exact ⟨_, _, _, rfl, hy, (Option.some.inj e).symm⟩
  · cases e
theorem bn_cpos {a b : Nat} (h : b ≤ a) : b ≤ a := h
section XS
variable {mi pc len : Nat} {ls : bn_L} {st : List Value} {h : bn_H} {a : bn_Q}

theorem bn_s_iconst {n : Int} (hd : decode (bn_b mi) pc = .ok (.iconst n, len)) (hL : len = bn_ln (.iconst n) len) (e : bn_x mi (.iconst n) pc ls st h = some a) : bn_XW mi pc ls st h a := by
  have hL : len = 1 := hL
  subst hL
  cases e
  exact bn_pure fun C hl _ _ kk => lv_iconst C.1 C.2.1 hd rfl (kk _ hl)
theorem bn_s_bipush {n : Int} (hd : decode (bn_b mi) pc = .ok (.bipush n, len)) (hL : len = bn_ln (.bipush n) len) (e : bn_x mi (.bipush n) pc ls st h = some a) : bn_XW mi pc ls st h a := by
  have hL : len = 2 := hL
  subst hL
  cases e
  exact bn_pure fun C hl _ _ kk => lv_bipush C.1 C.2.1 hd rfl (kk _ hl)
theorem bn_s_sipush {n : Int} (hd : decode (bn_b mi) pc = .ok (.sipush n, len)) (hL : len = bn_ln (.sipush n) len) (e : bn_x mi (.sipush n) pc ls st h = some a) : bn_XW mi pc ls st h a := by
  have hL : len = 3 := hL
  subst hL
  cases e
  exact bn_pure fun C hl _ _ kk => lv_sipush C.1 C.2.1 hd rfl (kk _ hl)
theorem bn_s_lconst {n : Fin 2} (hd : decode (bn_b mi) pc = .ok (.lconst n, len)) (hL : len = bn_ln (.lconst n) len) (e : bn_x mi (.lconst n) pc ls st h = some a) : bn_XW mi pc ls st h a := by
  have hL : len = 1 := hL
  subst hL
  cases e
  exact bn_pure fun C hl _ _ kk => lv_lconst C.1 C.2.1 hd rfl (kk _ hl)
theorem bn_s_ldcw {n : Nat} (hd : decode (bn_b mi) pc = .ok (.ldc_w n, len)) (hL : len = bn_ln (.ldc_w n) len) (e : bn_x mi (.ldc_w n) pc ls st h = some a) : bn_XW mi pc ls st h a := by
  have hL : len = 3 := hL
  subst hL
  obtain ⟨v, hv, rfl⟩ := Option.map_eq_some_iff.mp e
  exact bn_pure fun C hl _ _ kk => lv_ldcw C.1 C.2.1 C.2.2.2.1 (C.2.2.2.2.1 _ (bn_ki_ok hv)) hd (kk _ hl)
theorem bn_s_ldc2w {n : Nat} (hd : decode (bn_b mi) pc = .ok (.ldc2_w n, len)) (hL : len = bn_ln (.ldc2_w n) len) (e : bn_x mi (.ldc2_w n) pc ls st h = some a) : bn_XW mi pc ls st h a := by
  have hL : len = 3 := hL
  subst hL
  obtain ⟨v, hv, rfl⟩ := Option.map_eq_some_iff.mp e
  exact bn_pure fun C hl _ _ kk => lv_ldc2 C.1 C.2.1 C.2.2.2.1 (C.2.2.2.2.1 _ (bn_kl_ok hv)) hd (kk _ hl)
theorem bn_s_iload_n {k : Fin 4} (hd : decode (bn_b mi) pc = .ok (.iload_n k, len)) (hL : len = bn_ln (.iload_n k) len) (e : bn_x mi (.iload_n k) pc ls st h = some a) : bn_XW mi pc ls st h a := by
  have hL : len = 1 := hL
  subst hL
  obtain ⟨x, hx, rfl⟩ := bn_i1_inv e
  exact bn_pure fun C hl _ _ kk => lv_iload_n C.1 C.2.1 hd rfl (hl.at hx) (kk _ hl)
theorem bn_s_iload {k : Nat} (hd : decode (bn_b mi) pc = .ok (.iload k, len)) (hL : len = bn_ln (.iload k) len) (e : bn_x mi (.iload k) pc ls st h = some a) : bn_XW mi pc ls st h a := by
  have hL : len = 2 := hL
  subst hL
  obtain ⟨x, hx, rfl⟩ := bn_i1_inv e
  exact bn_pure fun C hl _ _ kk => lv_iload C.1 C.2.1 hd (hl.at hx) (kk _ hl)
theorem bn_s_lload_n {k : Fin 4} (hd : decode (bn_b mi) pc = .ok (.lload_n k, len)) (hL : len = bn_ln (.lload_n k) len) (e : bn_x mi (.lload_n k) pc ls st h = some a) : bn_XW mi pc ls st h a := by
  have hL : len = 1 := hL
  subst hL
  obtain ⟨x, hx, rfl⟩ := bn_l1_inv e
  exact bn_pure fun C hl _ _ kk => lv_lload_n C.1 C.2.1 hd rfl (hl.at hx) (kk _ hl)
theorem bn_s_lload {k : Nat} (hd : decode (bn_b mi) pc = .ok (.lload k, len)) (hL : len = bn_ln (.lload k) len) (e : bn_x mi (.lload k) pc ls st h = some a) : bn_XW mi pc ls st h a := by
  have hL : len = 2 := hL
  subst hL
  obtain ⟨x, hx, rfl⟩ := bn_l1_inv e
  exact bn_pure fun C hl _ _ kk => lv_lload C.1 C.2.1 hd (hl.at hx) (kk _ hl)
theorem bn_s_aload_n {k : Fin 4} (hd : decode (bn_b mi) pc = .ok (.aload_n k, len)) (hL : len = bn_ln (.aload_n k) len) (e : bn_x mi (.aload_n k) pc ls st h = some a) : bn_XW mi pc ls st h a := by
  have hL : len = 1 := hL
  subst hL
  obtain ⟨v, hv, hG, rfl⟩ := bn_a1_inv e
  refine bn_pure fun {p l e R s m args below meth c Q G H locs cells slots A} C hl _ _ kk => ?_
  obtain ⟨x, hx⟩ := hG G
  have h1 := hl.at hv
  rw [hx] at h1
  have h2 := kk _ hl
  rw [List.map_cons, hx] at h2
  exact lv_aload_n C.1 C.2.1 hd rfl h1 h2
theorem bn_s_aload {k : Nat} (hd : decode (bn_b mi) pc = .ok (.aload k, len)) (hL : len = bn_ln (.aload k) len) (e : bn_x mi (.aload k) pc ls st h = some a) : bn_XW mi pc ls st h a := by
  have hL : len = 2 := hL
  subst hL
  obtain ⟨v, hv, hG, rfl⟩ := bn_a1_inv e
  refine bn_pure fun {p l e R s m args below meth c Q G H locs cells slots A} C hl _ _ kk => ?_
  obtain ⟨x, hx⟩ := hG G
  have h1 := hl.at hv
  rw [hx] at h1
  have h2 := kk _ hl
  rw [List.map_cons, hx] at h2
  exact lv_aload C.1 C.2.1 hd h1 h2
theorem bn_s_istore_n {k : Fin 4} (hd : decode (bn_b mi) pc = .ok (.istore_n k, len)) (hL : len = bn_ln (.istore_n k) len) (e : bn_x mi (.istore_n k) pc ls st h = some a) : bn_XW mi pc ls st h a := by
  have hL : len = 1 := hL
  subst hL
  obtain ⟨x, r, rfl, hi, rfl⟩ := bn_is_inv e
  exact bn_pure fun C hl _ _ kk => lv_istore_n C.1 C.2.1 hd rfl hl.has hi rfl (fun A2 hA2 => kk _ (bn_LV.set1 hA2))
theorem bn_s_istore {k : Nat} (hd : decode (bn_b mi) pc = .ok (.istore k, len)) (hL : len = bn_ln (.istore k) len) (e : bn_x mi (.istore k) pc ls st h = some a) : bn_XW mi pc ls st h a := by
  have hL : len = 2 := hL
  subst hL
  obtain ⟨x, r, rfl, hi, rfl⟩ := bn_is_inv e
  exact bn_pure fun C hl _ _ kk => lv_istore C.1 C.2.1 hd hl.has hi rfl (fun A2 hA2 => kk _ (bn_LV.set1 hA2))
theorem bn_s_lstore_n {k : Fin 4} (hd : decode (bn_b mi) pc = .ok (.lstore_n k, len)) (hL : len = bn_ln (.lstore_n k) len) (e : bn_x mi (.lstore_n k) pc ls st h = some a) : bn_XW mi pc ls st h a := by
  have hL : len = 1 := hL
  subst hL
  obtain ⟨x, r, rfl, hi, rfl⟩ := bn_lst_inv e
  exact bn_pure fun C hl _ _ kk => lv_lstore_n C.1 C.2.1 hd rfl hl.has hi rfl (fun A2 hA2 => kk _ (bn_LV.set2 hA2))
theorem bn_s_lstore {k : Nat} (hd : decode (bn_b mi) pc = .ok (.lstore k, len)) (hL : len = bn_ln (.lstore k) len) (e : bn_x mi (.lstore k) pc ls st h = some a) : bn_XW mi pc ls st h a := by
  have hL : len = 2 := hL
  subst hL
  obtain ⟨x, r, rfl, hi, rfl⟩ := bn_lst_inv e
  exact bn_pure fun C hl _ _ kk => lv_lstore C.1 C.2.1 hd hl.has hi rfl (fun A2 hA2 => kk _ (bn_LV.set2 hA2))
theorem bn_s_astore_n {k : Fin 4} (hd : decode (bn_b mi) pc = .ok (.astore_n k, len)) (hL : len = bn_ln (.astore_n k) len) (e : bn_x mi (.astore_n k) pc ls st h = some a) : bn_XW mi pc ls st h a := by
  have hL : len = 1 := hL
  subst hL
  obtain ⟨x, r, rfl, hi, rfl⟩ := bn_as_inv e
  exact bn_pure fun C hl _ _ kk => lv_astore_n C.1 C.2.1 hd rfl hl.has hi rfl (fun A2 hA2 => kk _ (bn_LV.set1 hA2))
theorem bn_s_astore {k : Nat} (hd : decode (bn_b mi) pc = .ok (.astore k, len)) (hL : len = bn_ln (.astore k) len) (e : bn_x mi (.astore k) pc ls st h = some a) : bn_XW mi pc ls st h a := by
  have hL : len = 2 := hL
  subst hL
  obtain ⟨x, r, rfl, hi, rfl⟩ := bn_as_inv e
  exact bn_pure fun C hl _ _ kk => lv_astore C.1 C.2.1 hd hl.has hi rfl (fun A2 hA2 => kk _ (bn_LV.set1 hA2))
theorem bn_s_iinc {k : Nat} {n : Int} (hd : decode (bn_b mi) pc = .ok (.iinc k n, len)) (hL : len = bn_ln (.iinc k n) len) (e : bn_x mi (.iinc k n) pc ls st h = some a) : bn_XW mi pc ls st h a := by
  have hL : len = 3 := hL
  subst hL
  simp only [bn_x] at e
  split at e
  · rename_i x hx
    split at e
    · rename_i hk
      cases e
      refine bn_pure fun {p l e R s m args below meth c Q G H locs cells slots A} C hl _ _ kk => ?_
      obtain ⟨j, hj⟩ := List.getElem?_of_mem (bn_lp_mem (G := G) hx)
      exact lv_iinc C.1 C.2.1 hd hl.has hj rfl hk rfl (fun A2 hA2 => kk _ (bn_LV.set1 (x := .int _) hA2))
    · cases e
  · cases e
theorem bn_s_iadd  (hd : decode (bn_b mi) pc = .ok (.iadd, len)) (hL : len = bn_ln (.iadd) len) (e : bn_x mi (.iadd) pc ls st h = some a) : bn_XW mi pc ls st h a := by
  have hL : len = 1 := hL
  subst hL
  obtain ⟨x, y, r, rfl, rfl⟩ := bn_ii_inv e
  exact bn_pure fun C hl _ _ kk => lv_iadd C.1 C.2.1 hd (kk _ hl)
theorem bn_s_isub  (hd : decode (bn_b mi) pc = .ok (.isub, len)) (hL : len = bn_ln (.isub) len) (e : bn_x mi (.isub) pc ls st h = some a) : bn_XW mi pc ls st h a := by
  have hL : len = 1 := hL
  subst hL
  obtain ⟨x, y, r, rfl, rfl⟩ := bn_ii_inv e
  exact bn_pure fun C hl _ _ kk => lv_isub C.1 C.2.1 hd (kk _ hl)
theorem bn_s_imul  (hd : decode (bn_b mi) pc = .ok (.imul, len)) (hL : len = bn_ln (.imul) len) (e : bn_x mi (.imul) pc ls st h = some a) : bn_XW mi pc ls st h a := by
  have hL : len = 1 := hL
  subst hL
  obtain ⟨x, y, r, rfl, rfl⟩ := bn_ii_inv e
  exact bn_pure fun C hl _ _ kk => lv_imul C.1 C.2.1 hd (kk _ hl)
theorem bn_s_iand  (hd : decode (bn_b mi) pc = .ok (.iand, len)) (hL : len = bn_ln (.iand) len) (e : bn_x mi (.iand) pc ls st h = some a) : bn_XW mi pc ls st h a := by
  have hL : len = 1 := hL
  subst hL
  obtain ⟨x, y, r, rfl, rfl⟩ := bn_ii_inv e
  exact bn_pure fun C hl _ _ kk => lv_iand C.1 C.2.1 hd (kk _ hl)
theorem bn_s_ior  (hd : decode (bn_b mi) pc = .ok (.ior, len)) (hL : len = bn_ln (.ior) len) (e : bn_x mi (.ior) pc ls st h = some a) : bn_XW mi pc ls st h a := by
  have hL : len = 1 := hL
  subst hL
  obtain ⟨x, y, r, rfl, rfl⟩ := bn_ii_inv e
  exact bn_pure fun C hl _ _ kk => lv_ior C.1 C.2.1 hd (kk _ hl)
theorem bn_s_ixor  (hd : decode (bn_b mi) pc = .ok (.ixor, len)) (hL : len = bn_ln (.ixor) len) (e : bn_x mi (.ixor) pc ls st h = some a) : bn_XW mi pc ls st h a := by
  have hL : len = 1 := hL
  subst hL
  obtain ⟨x, y, r, rfl, rfl⟩ := bn_ii_inv e
  exact bn_pure fun C hl _ _ kk => lv_ixor C.1 C.2.1 hd (kk _ hl)
theorem bn_s_ishl  (hd : decode (bn_b mi) pc = .ok (.ishl, len)) (hL : len = bn_ln (.ishl) len) (e : bn_x mi (.ishl) pc ls st h = some a) : bn_XW mi pc ls st h a := by
  have hL : len = 1 := hL
  subst hL
  obtain ⟨x, y, r, rfl, rfl⟩ := bn_ii_inv e
  exact bn_pure fun C hl _ _ kk => lv_ishl C.1 C.2.1 hd (kk _ hl)
theorem bn_s_ishr  (hd : decode (bn_b mi) pc = .ok (.ishr, len)) (hL : len = bn_ln (.ishr) len) (e : bn_x mi (.ishr) pc ls st h = some a) : bn_XW mi pc ls st h a := by
  have hL : len = 1 := hL
  subst hL
  obtain ⟨x, y, r, rfl, rfl⟩ := bn_ii_inv e
  exact bn_pure fun C hl _ _ kk => lv_ishr C.1 C.2.1 hd (kk _ hl)
theorem bn_s_iushr  (hd : decode (bn_b mi) pc = .ok (.iushr, len)) (hL : len = bn_ln (.iushr) len) (e : bn_x mi (.iushr) pc ls st h = some a) : bn_XW mi pc ls st h a := by
  have hL : len = 1 := hL
  subst hL
  obtain ⟨x, y, r, rfl, rfl⟩ := bn_ii_inv e
  exact bn_pure fun C hl _ _ kk => lv_iushr C.1 C.2.1 hd rfl (kk _ hl)
theorem bn_s_ladd  (hd : decode (bn_b mi) pc = .ok (.ladd, len)) (hL : len = bn_ln (.ladd) len) (e : bn_x mi (.ladd) pc ls st h = some a) : bn_XW mi pc ls st h a := by
  have hL : len = 1 := hL
  subst hL
  obtain ⟨x, y, r, rfl, rfl⟩ := bn_ll_inv e
  exact bn_pure fun C hl _ _ kk => lv_ladd C.1 C.2.1 hd (kk _ hl)
theorem bn_s_lsub  (hd : decode (bn_b mi) pc = .ok (.lsub, len)) (hL : len = bn_ln (.lsub) len) (e : bn_x mi (.lsub) pc ls st h = some a) : bn_XW mi pc ls st h a := by
  have hL : len = 1 := hL
  subst hL
  obtain ⟨x, y, r, rfl, rfl⟩ := bn_ll_inv e
  exact bn_pure fun C hl _ _ kk => lv_lsub C.1 C.2.1 hd (kk _ hl)
theorem bn_s_lmul  (hd : decode (bn_b mi) pc = .ok (.lmul, len)) (hL : len = bn_ln (.lmul) len) (e : bn_x mi (.lmul) pc ls st h = some a) : bn_XW mi pc ls st h a := by
  have hL : len = 1 := hL
  subst hL
  obtain ⟨x, y, r, rfl, rfl⟩ := bn_ll_inv e
  exact bn_pure fun C hl _ _ kk => lv_lmul C.1 C.2.1 hd (kk _ hl)
theorem bn_s_land  (hd : decode (bn_b mi) pc = .ok (.land, len)) (hL : len = bn_ln (.land) len) (e : bn_x mi (.land) pc ls st h = some a) : bn_XW mi pc ls st h a := by
  have hL : len = 1 := hL
  subst hL
  obtain ⟨x, y, r, rfl, rfl⟩ := bn_ll_inv e
  exact bn_pure fun C hl _ _ kk => lv_land C.1 C.2.1 hd (kk _ hl)
theorem bn_s_lor  (hd : decode (bn_b mi) pc = .ok (.lor, len)) (hL : len = bn_ln (.lor) len) (e : bn_x mi (.lor) pc ls st h = some a) : bn_XW mi pc ls st h a := by
  have hL : len = 1 := hL
  subst hL
  obtain ⟨x, y, r, rfl, rfl⟩ := bn_ll_inv e
  exact bn_pure fun C hl _ _ kk => lv_lor C.1 C.2.1 hd (kk _ hl)
theorem bn_s_lushr  (hd : decode (bn_b mi) pc = .ok (.lushr, len)) (hL : len = bn_ln (.lushr) len) (e : bn_x mi (.lushr) pc ls st h = some a) : bn_XW mi pc ls st h a := by
  have hL : len = 1 := hL
  subst hL
  obtain ⟨x, y, r, rfl, rfl⟩ := bn_li_inv e
  exact bn_pure fun C hl _ _ kk => lv_lushr C.1 C.2.1 hd rfl (kk _ hl)
theorem bn_s_lshl  (hd : decode (bn_b mi) pc = .ok (.lshl, len)) (hL : len = bn_ln (.lshl) len) (e : bn_x mi (.lshl) pc ls st h = some a) : bn_XW mi pc ls st h a := by
  have hL : len = 1 := hL
  subst hL
  obtain ⟨x, y, r, rfl, rfl⟩ := bn_li_inv e
  exact bn_pure fun C hl _ _ kk => lv_lshl C.1 C.2.1 hd rfl (kk _ hl)
theorem bn_s_lshr  (hd : decode (bn_b mi) pc = .ok (.lshr, len)) (hL : len = bn_ln (.lshr) len) (e : bn_x mi (.lshr) pc ls st h = some a) : bn_XW mi pc ls st h a := by
  have hL : len = 1 := hL
  subst hL
  obtain ⟨x, y, r, rfl, rfl⟩ := bn_li_inv e
  exact bn_pure fun C hl _ _ kk => lv_lshr C.1 C.2.1 hd rfl (kk _ hl)
theorem bn_s_idiv  (hd : decode (bn_b mi) pc = .ok (.idiv, len)) (hL : len = bn_ln (.idiv) len) (e : bn_x mi (.idiv) pc ls st h = some a) : bn_XW mi pc ls st h a := by
  have hL : len = 1 := hL
  subst hL
  obtain ⟨x, y, r, rfl, hy, rfl⟩ := bn_idv_inv e
  exact bn_pure fun C hl _ _ kk => lv_idiv C.1 C.2.1 hd hy (kk _ hl)
theorem bn_s_irem  (hd : decode (bn_b mi) pc = .ok (.irem, len)) (hL : len = bn_ln (.irem) len) (e : bn_x mi (.irem) pc ls st h = some a) : bn_XW mi pc ls st h a := by
  have hL : len = 1 := hL
  subst hL
  obtain ⟨x, y, r, rfl, hy, rfl⟩ := bn_idv_inv e
  exact bn_pure fun C hl _ _ kk => lv_irem C.1 C.2.1 hd hy (kk _ hl)
theorem bn_s_ldiv  (hd : decode (bn_b mi) pc = .ok (.ldiv, len)) (hL : len = bn_ln (.ldiv) len) (e : bn_x mi (.ldiv) pc ls st h = some a) : bn_XW mi pc ls st h a := by
  have hL : len = 1 := hL
  subst hL
  obtain ⟨x, y, r, rfl, hy, rfl⟩ := bn_ldv_inv e
  exact bn_pure fun C hl _ _ kk => lv_ldiv C.1 C.2.1 hd hy (kk _ hl)
theorem bn_s_lrem  (hd : decode (bn_b mi) pc = .ok (.lrem, len)) (hL : len = bn_ln (.lrem) len) (e : bn_x mi (.lrem) pc ls st h = some a) : bn_XW mi pc ls st h a := by
  have hL : len = 1 := hL
  subst hL
  obtain ⟨x, y, r, rfl, hy, rfl⟩ := bn_ldv_inv e
  exact bn_pure fun C hl _ _ kk => lv_lrem C.1 C.2.1 hd hy (kk _ hl)
theorem bn_s_i2l  (hd : decode (bn_b mi) pc = .ok (.i2l, len)) (hL : len = bn_ln (.i2l) len) (e : bn_x mi (.i2l) pc ls st h = some a) : bn_XW mi pc ls st h a := by
  have hL : len = 1 := hL
  subst hL
  simp only [bn_x] at e
  split at e
  · cases e
    exact bn_pure fun C hl _ _ kk => lv_i2l C.1 C.2.1 hd rfl (kk _ hl)
  · cases e
theorem bn_s_l2i  (hd : decode (bn_b mi) pc = .ok (.l2i, len)) (hL : len = bn_ln (.l2i) len) (e : bn_x mi (.l2i) pc ls st h = some a) : bn_XW mi pc ls st h a := by
  have hL : len = 1 := hL
  subst hL
  simp only [bn_x] at e
  split at e
  · cases e
    exact bn_pure fun C hl _ _ kk => lv_l2i C.1 C.2.1 hd rfl (kk _ hl)
  · cases e
theorem bn_s_lcmp  (hd : decode (bn_b mi) pc = .ok (.lcmp, len)) (hL : len = bn_ln (.lcmp) len) (e : bn_x mi (.lcmp) pc ls st h = some a) : bn_XW mi pc ls st h a := by
  have hL : len = 1 := hL
  subst hL
  simp only [bn_x] at e
  split at e
  · cases e
    exact bn_pure fun C hl _ _ kk => W.lcmp C.1 C.2.1 hd (kk _ hl)
  · cases e
theorem bn_s_dup  (hd : decode (bn_b mi) pc = .ok (.dup, len)) (hL : len = bn_ln (.dup) len) (e : bn_x mi (.dup) pc ls st h = some a) : bn_XW mi pc ls st h a := by
  have hL : len = 1 := hL
  subst hL
  simp only [bn_x] at e
  split at e
  · split at e
    · rename_i hc
      cases e
      exact bn_pure fun C hl _ _ kk => lv_dup C.1 C.2.1 hd (by rw [bn_cv_cat]; exact hc) (kk _ hl)
    · cases e
  · cases e
theorem bn_s_pop  (hd : decode (bn_b mi) pc = .ok (.pop, len)) (hL : len = bn_ln (.pop) len) (e : bn_x mi (.pop) pc ls st h = some a) : bn_XW mi pc ls st h a := by
  have hL : len = 1 := hL
  subst hL
  simp only [bn_x] at e
  split at e
  · split at e
    · rename_i hc
      cases e
      exact bn_pure fun C hl _ _ kk => lv_pop C.1 C.2.1 hd (by rw [bn_cv_cat]; exact hc) (kk _ hl)
    · cases e
  · cases e
theorem bn_s_dup2  (hd : decode (bn_b mi) pc = .ok (.dup2, len)) (hL : len = bn_ln (.dup2) len) (e : bn_x mi (.dup2) pc ls st h = some a) : bn_XW mi pc ls st h a := by
  have hL : len = 1 := hL
  subst hL
  simp only [bn_x] at e
  split at e
  · split at e
    · rename_i hc
      cases e
      exact bn_pure fun C hl _ _ kk => lv_dup2_11 C.1 C.2.1 hd (by rw [bn_cv_cat]; exact hc.1) (by rw [bn_cv_cat]; exact hc.2) (kk _ hl)
    · cases e
  · cases e
theorem bn_s_goto {off : Int} (hd : decode (bn_b mi) pc = .ok (.goto off, len)) (hL : len = bn_ln (.goto off) len) (e : bn_x mi (.goto off) pc ls st h = some a) : bn_XW mi pc ls st h a := by
  have hL : len = 3 := hL
  subst hL
  obtain ⟨t, ht, rfl⟩ := Option.map_eq_some_iff.mp e
  exact bn_pure fun C hl _ _ kk => lv_goto C.1 C.2.1 hd (bn_tg_inv ht) (kk _ hl)
theorem bn_s_icmp_eq {off : Int} (hd : decode (bn_b mi) pc = .ok (.if_icmp .eq off, len)) (hL : len = bn_ln (.if_icmp .eq off) len) (e : bn_x mi (.if_icmp .eq off) pc ls st h = some a) : bn_XW mi pc ls st h a := by
  have hL : len = 3 := hL
  subst hL
  simp only [bn_x] at e
  split at e
  · rename_i y x r
    obtain ⟨t, ht, rfl⟩ := Option.map_eq_some_iff.mp e
    refine bn_pure fun C hl _ _ kk => ?_
    simp only [bn_cm, decide_eq_true_eq, Bool.not_eq_true', decide_eq_false_iff_not] at kk
    refine lv_icmp_eq C.1 C.2.1 hd (bn_tg_inv ht) (fun q => ?_) (fun q => ?_)
    · have := kk _ hl
      rw [if_pos q] at this
      exact this
    · have := kk _ hl
      rw [if_neg (by simpa using q)] at this
      exact this
  · cases e
theorem bn_s_if_eq {off : Int} (hd : decode (bn_b mi) pc = .ok (.ifCond .eq off, len)) (hL : len = bn_ln (.ifCond .eq off) len) (e : bn_x mi (.ifCond .eq off) pc ls st h = some a) : bn_XW mi pc ls st h a := by
  have hL : len = 3 := hL
  subst hL
  simp only [bn_x] at e
  split at e
  · rename_i x r
    obtain ⟨t, ht, rfl⟩ := Option.map_eq_some_iff.mp e
    refine bn_pure fun C hl _ _ kk => ?_
    simp only [bn_cm, decide_eq_true_eq, Bool.not_eq_true', decide_eq_false_iff_not] at kk
    refine lv_if_eq C.1 C.2.1 hd (bn_tg_inv ht) (fun q => ?_) (fun q => ?_)
    · have := kk _ hl
      rw [if_pos q] at this
      exact this
    · have := kk _ hl
      rw [if_neg (by simpa using q)] at this
      exact this
  · cases e
theorem bn_s_icmp_ne {off : Int} (hd : decode (bn_b mi) pc = .ok (.if_icmp .ne off, len)) (hL : len = bn_ln (.if_icmp .ne off) len) (e : bn_x mi (.if_icmp .ne off) pc ls st h = some a) : bn_XW mi pc ls st h a := by
  have hL : len = 3 := hL
  subst hL
  simp only [bn_x] at e
  split at e
  · rename_i y x r
    obtain ⟨t, ht, rfl⟩ := Option.map_eq_some_iff.mp e
    refine bn_pure fun C hl _ _ kk => ?_
    simp only [bn_cm, decide_eq_true_eq, Bool.not_eq_true', decide_eq_false_iff_not] at kk
    refine lv_icmp_ne C.1 C.2.1 hd (bn_tg_inv ht) (fun q => ?_) (fun q => ?_)
    · have := kk _ hl
      rw [if_pos q] at this
      exact this
    · have := kk _ hl
      rw [if_neg (by simpa using q)] at this
      exact this
  · cases e
theorem bn_s_if_ne {off : Int} (hd : decode (bn_b mi) pc = .ok (.ifCond .ne off, len)) (hL : len = bn_ln (.ifCond .ne off) len) (e : bn_x mi (.ifCond .ne off) pc ls st h = some a) : bn_XW mi pc ls st h a := by
  have hL : len = 3 := hL
  subst hL
  simp only [bn_x] at e
  split at e
  · rename_i x r
    obtain ⟨t, ht, rfl⟩ := Option.map_eq_some_iff.mp e
    refine bn_pure fun C hl _ _ kk => ?_
    simp only [bn_cm, decide_eq_true_eq, Bool.not_eq_true', decide_eq_false_iff_not] at kk
    refine lv_if_ne C.1 C.2.1 hd (bn_tg_inv ht) (fun q => ?_) (fun q => ?_)
    · have := kk _ hl
      rw [if_pos q] at this
      exact this
    · have := kk _ hl
      rw [if_neg (by simpa using q)] at this
      exact this
  · cases e
theorem bn_s_icmp_lt {off : Int} (hd : decode (bn_b mi) pc = .ok (.if_icmp .lt off, len)) (hL : len = bn_ln (.if_icmp .lt off) len) (e : bn_x mi (.if_icmp .lt off) pc ls st h = some a) : bn_XW mi pc ls st h a := by
  have hL : len = 3 := hL
  subst hL
  simp only [bn_x] at e
  split at e
  · rename_i y x r
    obtain ⟨t, ht, rfl⟩ := Option.map_eq_some_iff.mp e
    refine bn_pure fun C hl _ _ kk => ?_
    simp only [bn_cm, decide_eq_true_eq, Bool.not_eq_true', decide_eq_false_iff_not] at kk
    refine lv_icmp_lt C.1 C.2.1 hd (bn_tg_inv ht) (fun q => ?_) (fun q => ?_)
    · have := kk _ hl
      rw [if_pos q] at this
      exact this
    · have := kk _ hl
      rw [if_neg (by simpa using q)] at this
      exact this
  · cases e
theorem bn_s_if_lt {off : Int} (hd : decode (bn_b mi) pc = .ok (.ifCond .lt off, len)) (hL : len = bn_ln (.ifCond .lt off) len) (e : bn_x mi (.ifCond .lt off) pc ls st h = some a) : bn_XW mi pc ls st h a := by
  have hL : len = 3 := hL
  subst hL
  simp only [bn_x] at e
  split at e
  · rename_i x r
    obtain ⟨t, ht, rfl⟩ := Option.map_eq_some_iff.mp e
    refine bn_pure fun C hl _ _ kk => ?_
    simp only [bn_cm, decide_eq_true_eq, Bool.not_eq_true', decide_eq_false_iff_not] at kk
    refine lv_if_lt C.1 C.2.1 hd (bn_tg_inv ht) (fun q => ?_) (fun q => ?_)
    · have := kk _ hl
      rw [if_pos q] at this
      exact this
    · have := kk _ hl
      rw [if_neg (by simpa using q)] at this
      exact this
  · cases e
theorem bn_s_icmp_ge {off : Int} (hd : decode (bn_b mi) pc = .ok (.if_icmp .ge off, len)) (hL : len = bn_ln (.if_icmp .ge off) len) (e : bn_x mi (.if_icmp .ge off) pc ls st h = some a) : bn_XW mi pc ls st h a := by
  have hL : len = 3 := hL
  subst hL
  simp only [bn_x] at e
  split at e
  · rename_i y x r
    obtain ⟨t, ht, rfl⟩ := Option.map_eq_some_iff.mp e
    refine bn_pure fun C hl _ _ kk => ?_
    simp only [bn_cm, decide_eq_true_eq, Bool.not_eq_true', decide_eq_false_iff_not] at kk
    refine lv_icmp_ge C.1 C.2.1 hd (bn_tg_inv ht) (fun q => ?_) (fun q => ?_)
    · have := kk _ hl
      rw [if_pos q] at this
      exact this
    · have := kk _ hl
      rw [if_neg (by simpa using q)] at this
      exact this
  · cases e
theorem bn_s_if_ge {off : Int} (hd : decode (bn_b mi) pc = .ok (.ifCond .ge off, len)) (hL : len = bn_ln (.ifCond .ge off) len) (e : bn_x mi (.ifCond .ge off) pc ls st h = some a) : bn_XW mi pc ls st h a := by
  have hL : len = 3 := hL
  subst hL
  simp only [bn_x] at e
  split at e
  · rename_i x r
    obtain ⟨t, ht, rfl⟩ := Option.map_eq_some_iff.mp e
    refine bn_pure fun C hl _ _ kk => ?_
    simp only [bn_cm, decide_eq_true_eq, Bool.not_eq_true', decide_eq_false_iff_not] at kk
    refine lv_if_ge C.1 C.2.1 hd (bn_tg_inv ht) (fun q => ?_) (fun q => ?_)
    · have := kk _ hl
      rw [if_pos q] at this
      exact this
    · have := kk _ hl
      rw [if_neg (by simpa using q)] at this
      exact this
  · cases e
theorem bn_s_icmp_gt {off : Int} (hd : decode (bn_b mi) pc = .ok (.if_icmp .gt off, len)) (hL : len = bn_ln (.if_icmp .gt off) len) (e : bn_x mi (.if_icmp .gt off) pc ls st h = some a) : bn_XW mi pc ls st h a := by
  have hL : len = 3 := hL
  subst hL
  simp only [bn_x] at e
  split at e
  · rename_i y x r
    obtain ⟨t, ht, rfl⟩ := Option.map_eq_some_iff.mp e
    refine bn_pure fun C hl _ _ kk => ?_
    simp only [bn_cm, decide_eq_true_eq, Bool.not_eq_true', decide_eq_false_iff_not] at kk
    refine lv_icmp_gt C.1 C.2.1 hd (bn_tg_inv ht) (fun q => ?_) (fun q => ?_)
    · have := kk _ hl
      rw [if_pos q] at this
      exact this
    · have := kk _ hl
      rw [if_neg (by simpa using q)] at this
      exact this
  · cases e
theorem bn_s_if_gt {off : Int} (hd : decode (bn_b mi) pc = .ok (.ifCond .gt off, len)) (hL : len = bn_ln (.ifCond .gt off) len) (e : bn_x mi (.ifCond .gt off) pc ls st h = some a) : bn_XW mi pc ls st h a := by
  have hL : len = 3 := hL
  subst hL
  simp only [bn_x] at e
  split at e
  · rename_i x r
    obtain ⟨t, ht, rfl⟩ := Option.map_eq_some_iff.mp e
    refine bn_pure fun C hl _ _ kk => ?_
    simp only [bn_cm, decide_eq_true_eq, Bool.not_eq_true', decide_eq_false_iff_not] at kk
    refine lv_if_gt C.1 C.2.1 hd (bn_tg_inv ht) (fun q => ?_) (fun q => ?_)
    · have := kk _ hl
      rw [if_pos q] at this
      exact this
    · have := kk _ hl
      rw [if_neg (by simpa using q)] at this
      exact this
  · cases e
theorem bn_s_icmp_le {off : Int} (hd : decode (bn_b mi) pc = .ok (.if_icmp .le off, len)) (hL : len = bn_ln (.if_icmp .le off) len) (e : bn_x mi (.if_icmp .le off) pc ls st h = some a) : bn_XW mi pc ls st h a := by
  have hL : len = 3 := hL
  subst hL
  simp only [bn_x] at e
  split at e
  · rename_i y x r
    obtain ⟨t, ht, rfl⟩ := Option.map_eq_some_iff.mp e
    refine bn_pure fun C hl _ _ kk => ?_
    simp only [bn_cm, decide_eq_true_eq, Bool.not_eq_true', decide_eq_false_iff_not] at kk
    refine lv_icmp_le C.1 C.2.1 hd (bn_tg_inv ht) (fun q => ?_) (fun q => ?_)
    · have := kk _ hl
      rw [if_pos q] at this
      exact this
    · have := kk _ hl
      rw [if_neg (by simpa using q)] at this
      exact this
  · cases e
theorem bn_s_if_le {off : Int} (hd : decode (bn_b mi) pc = .ok (.ifCond .le off, len)) (hL : len = bn_ln (.ifCond .le off) len) (e : bn_x mi (.ifCond .le off) pc ls st h = some a) : bn_XW mi pc ls st h a := by
  have hL : len = 3 := hL
  subst hL
  simp only [bn_x] at e
  split at e
  · rename_i x r
    obtain ⟨t, ht, rfl⟩ := Option.map_eq_some_iff.mp e
    refine bn_pure fun C hl _ _ kk => ?_
    simp only [bn_cm, decide_eq_true_eq, Bool.not_eq_true', decide_eq_false_iff_not] at kk
    refine lv_if_le C.1 C.2.1 hd (bn_tg_inv ht) (fun q => ?_) (fun q => ?_)
    · have := kk _ hl
      rw [if_pos q] at this
      exact this
    · have := kk _ hl
      rw [if_neg (by simpa using q)] at this
      exact this
  · cases e
end XS
