/-! CALLS; and all together: a walk that ends is a run of the machine -/
theorem bn_rt_inv {mi pc len : Nat} {i : Instr} {st : List Value} {r : Option Value} (hd : decode (bn_b mi) pc = .ok (i, len)) (hL : len = bn_ln i len) (e : bn_rt mi i st = some r) : st = r.toList ∧ bn_Rt mi pc r := by
  cases i with
  | return_ =>
    have hL : len = 1 := hL
    subst hL
    simp only [bn_rt] at e
    split at e
    · split at e
      · rename_i hr
        cases e
        exact ⟨rfl, hd, hr⟩
      · cases e
    · cases e
  | ireturn =>
    have hL : len = 1 := hL
    subst hL
    simp only [bn_rt] at e
    split at e
    · split at e
      · rename_i hr
        cases e
        exact ⟨rfl, hd, hr⟩
      · cases e
    · cases e
  | lreturn =>
    have hL : len = 1 := hL
    subst hL
    simp only [bn_rt] at e
    split at e
    · split at e
      · rename_i hr
        cases e
        exact ⟨rfl, hd, hr⟩
      · cases e
    · cases e
  | _ => cases e
theorem bn_callW {n : Nat} (hS : bn_S n) {mi pc len mj : Nat} {i : Instr} {ls : bn_L} {st as rr : List Value} {h h1 : bn_H} {v : Option Value} (hd : decode (bn_b mi) pc = .ok (i, len)) (hL : len = bn_ln i len) (hk : bn_k mi i st h = some (mj, as, rr)) (he : bn_go n mj 0 (bn_en mj as) [] h = some (v, h1))
    {p : Program} {l : Launch} {e : Env} {R : Room} {s : State} {m : MethodId} {args : Array Value} {below : List Frame} {meth : Method} {c : Code} {Q : State → Prop} {G : bn_G} {n0 z0 : Nat} {H : Heap} {locs : List Loc} {A : Array Slot}
    (C : bn_Cx p R s m args meth c mi G h.1) (hs : s.heap.size = G.1 + n0) (hn0 : n0 ≤ h.2.1) (hz0 : z0 ≤ h.2.2.1) (hc : h1.2.1 - n0 ≤ R.cells) (hz : h1.2.2.1 - z0 ≤ R.slots) (hW : bn_W s G h H locs) (hl : bn_LV G (bn_m mi) A ls)
    (kk : ∀ (H' : Heap) (locs' : List Loc), bn_W s G h1 H' locs' → W p l e R s m args below meth c H' locs' (h1.2.1 - n0) (h1.2.2.1 - z0) Q (F0 m (pc + 3) A ((v.map (bn_cv G)).toList ++ rr.map (bn_cv G)))) :
    W p l e R s m args below meth c H locs (h.2.1 - n0) (h.2.2.1 - z0) Q (F0 m pc A (st.map (bn_cv G))) := by
  obtain ⟨⟨m1, m2, m3⟩, -⟩ := hS _ _ _ _ _ _ _ he
  refine bn_size (fun hsz => ?_)
  have hHs : H.size = G.1 + h.2.1 := Nat.le_antisymm (by omega) (bn_low hW hs hn0)
  have d1 : h.2.1 - n0 + (h1.2.1 - h.2.1) = h1.2.1 - n0 := by omega
  have d2 : h.2.2.1 - z0 + (h1.2.2.1 - h.2.2.1) = h1.2.2.1 - z0 := by omega
  have hts := C.2.2.2.2.1
  have hF : CallFix p m c (bn_b mi) (bn_m mi) s args bn_TT (bn_cn (bn_c mi)) := ⟨C.1, C.2.1, C.2.2.1, C.2.2.2.1, hts⟩
  have hB : ∀ U : State, U.heap = H → s.WarmedH U.vm → bn_B G h U := fun U hU hWm => ⟨by rw [hU, hHs], by rw [hU]; exact hW.1, hW.2.1, va_K.moved hWm.alike C.2.2.2.2.2.2.2.2.1, bn_X.moved hWm C.2.2.2.2.2.2.2.2.2.1, by
    rw [hU]
    have hbl : G.2.1 < s.heap.size := Nat.lt_of_lt_of_le C.2.2.2.2.2.2.2.2.2.2.2.1 C.2.2.2.2.2.2.2.2.2.2.2.2
    exact va_X.moved hWm.alike (va_X.kept C.2.2.2.2.2.2.2.2.2.2.1 (hW.2.2.2.1 _ hbl (Nat.not_le.mpr C.2.2.2.2.2.2.2.2.2.2.2.1))), C.2.2.2.2.2.2.2.2.2.2.2.1⟩
  have fin : ∀ (a0 : Array Value) (v' : Option Value) (st₀ t : State) (H1 : Heap) (locs1 : List Loc), st₀.heap = H → t.heap = H1 → bn_Qc G v h1 a0 st₀ (.returned v') t → (∀ q ∈ locs1, bn_A G q.base) → W p l e R s m args below meth c H1 locs1 (h.2.1 - n0 + (h1.2.1 - h.2.1)) (h.2.2.1 - z0 + (h1.2.2.1 - h.2.2.1)) Q (F0 m (pc + 3) A (v'.toList ++ rr.map (bn_cv G))) := by
    intro a0 v' st₀ t H1 locs1 g1 g2 g3 g4
    obtain ⟨q1, q2, q3, q4⟩ := g3
    have q1 : v' = v.map (bn_cv G) := by injection q1
    subst q1
    rw [d1, d2]
    rw [g2] at q2
    refine kk H1 locs1 ⟨q2, q3, ?_, fun q h1 h2 => ?_, g4⟩
    · have h3 := q4.1
      rw [g1, g2] at h3
      exact Nat.le_trans hW.2.2.1 h3
    · have h3 := q4.2 q (by rw [g1]; exact Nat.lt_of_lt_of_le h1 hW.2.2.1) h2
      rw [g1, g2] at h3
      exact h3.trans (hW.2.2.2.1 q h1 h2)
  cases i with
  | invokevirtual k =>
    have hL : len = 3 := hL
    subst hL
    simp only [bn_k] at hk
    obtain ⟨q, hq, hk⟩ := Option.bind_eq_some_iff.mp hk
    split at hk
    · rename_i b0 r0 hdrop
      split at hk
      · rename_i hg
        obtain ⟨g1, g2, g3, g4, g5, g6, g7⟩ := hg
        obtain ⟨qk, qm⟩ := q
        dsimp only at g1 g2 g3 g4 g5 g6 g7 hk hdrop
        subst g1
        simp only [Option.some.injEq, Prod.mk.injEq] at hk
        obtain ⟨e1, e2, e3⟩ := hk
        subst e1
        subst e2
        subst e3
        obtain ⟨i, hM⟩ := bn_ml_ok hq
        obtain ⟨w0, w1, w2, w3, w4⟩ := hM
        have hY := w0
        obtain ⟨y1, y2, y3, y4, y5⟩ := w0
        have hne := bn_cnX y5
        rw [← y3] at hne
        obtain ⟨fs, hfs⟩ := bn_isC_inv g3
        have hct := bn_ct_cv G r0
        have hrun := va_runV (l := l) (e := e) (below := below) (meth := meth) (H := H) (locs := locs) (g := F0 m pc A (st.map (bn_cv G))) (As := ((st.take (bn_p qm)).reverse).map (bn_cv G)) (b := G.1 + b0) (rest := r0.map (bn_cv G)) (cells := h.2.1 - n0) (slots := h.2.2.1 - z0) hF (bn_met hS l he g5 hY G)
          (⟨callB_of (bn_p qm) hts (bn_good qm hY) rfl rfl rfl (hts _ (bn_TT_in y2 rfl)) (hts _ (bn_TT_in w1 rfl)) ⟨hne.1, hne.2.1, y4⟩ ⟨Nat.le_trans g6 C.2.2.2.2.2.2.1, Nat.le_trans g7 C.2.2.2.2.2.2.2.1⟩, hts _ (bn_TT_in w2 rfl), hts _ (bn_TT_in w3 rfl)⟩)
          (⟨bn_blind _ _ _, by rw [y3]; exact va_recv C.2.2.2.2.2.2.2.2.1 hW.1 (bn_clX w4) (bn_wl_get hfs), fun U hU hWm => ⟨rfl, hB U hU hWm⟩⟩)
          rfl (by rw [List.length_map, List.length_reverse]; exact g2) hl.1 (by
            show st.map (bn_cv G) = _
            rw [← List.map_reverse, List.reverse_reverse]
            conv => lhs; rw [← List.take_append_drop (bn_p qm) st, hdrop, List.map_append]
            rfl) (lv_room (by rw [hct]; exact g4)) hd ⟨by omega, by omega⟩
        exact bn_after hrun hW.2.2.2.2 (fin _)
      · cases hk
    · cases hk
  | invokespecial k =>
    have hL : len = 3 := hL
    subst hL
    simp only [bn_k] at hk
    obtain ⟨q, hq, hk⟩ := Option.bind_eq_some_iff.mp hk
    split at hk
    · rename_i b0 r0 hdrop
      split at hk
      · rename_i hg
        obtain ⟨g1, g2, g4, g5, g6, g7⟩ := hg
        obtain ⟨qk, qm⟩ := q
        dsimp only at g1 g2 g4 g5 g6 g7 hk hdrop
        simp only [Option.some.injEq, Prod.mk.injEq] at hk
        obtain ⟨e1, e2, e3⟩ := hk
        subst e1
        subst e2
        subst e3
        obtain ⟨i, hM⟩ := bn_ml_ok hq
        have hct := bn_ct_cv G r0
        have hst : st.map (bn_cv G) = (((st.take (bn_p qm)).reverse).map (bn_cv G)).reverse ++ .ref (G.1 + b0) :: r0.map (bn_cv G) := by
          rw [← List.map_reverse, List.reverse_reverse]
          conv => lhs; rw [← List.take_append_drop (bn_p qm) st, hdrop, List.map_append]
          rfl
        rcases g1 with g1 | g1
        · subst g1
          obtain ⟨w0, w1, w2, w3, w4⟩ := hM
          have hY := w0
          obtain ⟨y1, y2, y3, y4, y5⟩ := w0
          have hne := bn_cnX y5
          rw [← y3] at hne
          have hrun := va_runI (l := l) (e := e) (below := below) (meth := meth) (H := H) (locs := locs) (g := F0 m pc A (st.map (bn_cv G))) (As := ((st.take (bn_p qm)).reverse).map (bn_cv G)) (b := G.1 + b0) (rest := r0.map (bn_cv G)) (cells := h.2.1 - n0) (slots := h.2.2.1 - z0) hF (bn_met hS l he g5 hY G)
            (⟨callB_of (bn_p qm) hts (bn_good qm hY) (by unfold bn_ws; rw [w4]) rfl rfl (hts _ (bn_TT_in y2 rfl)) (hts _ (bn_TT_in w1 rfl)) ⟨hne.1, hne.2.1, y4⟩ ⟨Nat.le_trans g6 C.2.2.2.2.2.2.1, Nat.le_trans g7 C.2.2.2.2.2.2.2.1⟩, w3, hts _ (bn_TT_in w2 rfl)⟩)
            (⟨bn_blind _ _ _, fun U hU hWm => ⟨rfl, hB U hU hWm⟩⟩)
            rfl (by rw [List.length_map, List.length_reverse]; exact g2) hl.1 hst (lv_room (by rw [hct]; exact g4)) hd ⟨by omega, by omega⟩
          exact bn_after hrun hW.2.2.2.2 (fin _)
        · subst g1
          obtain ⟨w0, w1, w2, w3, w4⟩ := hM
          have hY := w0
          obtain ⟨y1, y2, y3, y4, y5⟩ := w0
          have hne := bn_cnX y5
          rw [← y3] at hne
          have hrun := va_runIN (l := l) (e := e) (below := below) (meth := meth) (H := H) (locs := locs) (g := F0 m pc A (st.map (bn_cv G))) (As := ((st.take (bn_p qm)).reverse).map (bn_cv G)) (b := G.1 + b0) (rest := r0.map (bn_cv G)) (cells := h.2.1 - n0) (slots := h.2.2.1 - z0) hF (bn_met hS l he g5 hY G)
            (⟨va_cnB (bn_p qm) hts (bn_good qm hY) (by unfold bn_ws; rw [w4]) rfl rfl (C.2.2.2.2.2.2.2.2.2.1.2 _ w1) (hts _ (bn_TT_in y2 rfl)) ⟨hne.1, hne.2.1, y4⟩ ⟨Nat.le_trans g6 C.2.2.2.2.2.2.1, Nat.le_trans g7 C.2.2.2.2.2.2.2.1⟩, w3, hts _ (bn_TT_in w2 rfl)⟩)
            (⟨bn_blind _ _ _, fun U hU hWm => ⟨rfl, hB U hU hWm⟩⟩)
            rfl (by rw [List.length_map, List.length_reverse]; exact g2) hl.1 hst (lv_room (by rw [hct]; exact g4)) hd ⟨by omega, by omega⟩
          exact bn_after hrun hW.2.2.2.2 (fin _)
      · cases hk
    · cases hk
  | invokestatic k =>
    have hL : len = 3 := hL
    subst hL
    simp only [bn_k] at hk
    obtain ⟨q, hq, hk⟩ := Option.bind_eq_some_iff.mp hk
    split at hk
    · rename_i hg
      obtain ⟨g1, g2, g4, g5, g6, g7⟩ := hg
      obtain ⟨qk, qm⟩ := q
      dsimp only at g1 g2 g4 g5 g6 g7 hk
      subst g1
      simp only [Option.some.injEq, Prod.mk.injEq] at hk
      obtain ⟨e1, e2, e3⟩ := hk
      subst e1
      subst e2
      subst e3
      obtain ⟨i, hM⟩ := bn_ml_ok hq
      obtain ⟨w0, w1, w2⟩ := hM
      have hY := w0
      obtain ⟨y1, y2, y3, y4, y5⟩ := w0
      have hne := bn_cnX y5
      rw [← y3] at hne
      have hct := bn_ct_cv G (st.drop (bn_p qm))
      have hrun := va_runS (l := l) (e := e) (below := below) (meth := meth) (H := H) (locs := locs) (g := F0 m pc A (st.map (bn_cv G))) (As := ((st.take (bn_p qm)).reverse).map (bn_cv G)) (rest := (st.drop (bn_p qm)).map (bn_cv G)) (cells := h.2.1 - n0) (slots := h.2.2.1 - z0) hF (bn_met hS l he g5 hY G)
        (⟨callB_of (bn_p qm) hts (bn_good qm hY) rfl rfl rfl (hts _ (bn_TT_in y2 rfl)) (hts _ (bn_TT_in w1 rfl)) ⟨hne.1, hne.2.1, y4⟩ ⟨Nat.le_trans g6 C.2.2.2.2.2.2.1, Nat.le_trans g7 C.2.2.2.2.2.2.2.1⟩, hts _ (bn_TT_in w2 rfl)⟩)
        (⟨bn_blind _ _ _, fun U hU hWm => ⟨rfl, hB U hU hWm⟩⟩)
        rfl (by rw [List.length_map, List.length_reverse]; exact g2) hl.1 (by
          show st.map (bn_cv G) = _
          rw [← List.map_reverse, List.reverse_reverse, ← List.map_append, List.take_append_drop]) (lv_room (by rw [hct]; exact g4)) hd ⟨by omega, by omega⟩
      exact bn_after hrun hW.2.2.2.2 (fin _)
    · cases hk
  | _ => cases hk
theorem bn_sound : ∀ n, bn_S n := by
  intro n
  induction n with
  | zero => intro mi pc ls st h r h' e; cases e
  | succ n ih =>
    intro mi pc ls st h r h' e
    have e : bn_F (bn_go n) mi pc ls st h = some (r, h') := e
    unfold bn_F at e
    split at e
    · cases e
    · rename_i i len hd
      split at e
      · rename_i hL
        split at e
        · rename_i r0 hr0
          cases e
          obtain ⟨rfl, hR⟩ := bn_rt_inv hd hL hr0
          refine ⟨⟨Nat.le_refl _, Nat.le_refl _, rfl⟩, fun p l e R s m args below meth c Q G n0 z0 H locs A C hs hn hz hc hzz hW hl kk => ?_⟩
          have := kk H locs pc A hW hR
          cases r <;> exact this
        · split at e
          · rename_i mj as rr hk
            obtain ⟨a, h1, h2⟩ := Option.bind_eq_some_iff.mp e
            obtain ⟨v, hv⟩ := a
            split at h2
            rotate_left
            · cases h2
            obtain ⟨⟨x1, x2, x3⟩, -⟩ := ih _ _ _ _ _ _ _ h1
            obtain ⟨⟨y1, y2, y3⟩, hg⟩ := ih _ _ _ _ _ _ _ h2
            dsimp only at y1 y2 y3 hg
            refine ⟨⟨by omega, by omega, y3.trans x3⟩, fun p l e R s m args below meth c Q G n0 z0 H locs A C hs hn hz hc hzz hW hl kk => ?_⟩
            refine bn_callW ih hd hL hk h1 C hs hn hz (by omega) (by omega) hW hl (fun H' locs' hW' => ?_)
            have := hg p l e R s m args below meth c Q G n0 z0 H' locs' A (by rw [x3]; exact C) hs (by omega) (by omega) hc hzz hW' hl kk
            rw [List.map_append] at this
            cases v <;> exact this
          · obtain ⟨a, h1, h2⟩ := Option.bind_eq_some_iff.mp e
            obtain ⟨⟨x1, x2, x3⟩, hx⟩ := bn_xW hd hL h1
            obtain ⟨⟨y1, y2, y3⟩, hg⟩ := ih _ _ _ _ _ _ _ h2
            refine ⟨⟨by omega, by omega, y3.trans x3⟩, fun p l e R s m args below meth c Q G n0 z0 H locs A C hs hn hz hc hzz hW hl kk => ?_⟩
            refine hx p l e R s m args below meth c Q G n0 z0 H locs A C hs hn hz (by omega) (by omega) hW hl (fun H' locs' A' hW' hl' => ?_)
            exact hg p l e R s m args below meth c Q G n0 z0 H' locs' A' (by rw [x3]; exact C) hs (by omega) (by omega) hc hzz hW' hl' kk
      · cases e
