/-! A WALK THAT ENDS IS A RUN OF THE MACHINE -/
def bn_Rt (mi pc : Nat) (r : Option Value) : Prop := match r with
  | none => decode (bn_b mi) pc = .ok (.return_, 1) ∧ bn_r mi = none
  | some (.int v) => decode (bn_b mi) pc = .ok (.ireturn, 1) ∧ (bn_r mi = some .int ∨ (bn_r mi = some .boolean ∧ (v = 0 ∨ v = 1)))
  | some (.long _) => decode (bn_b mi) pc = .ok (.lreturn, 1) ∧ bn_r mi = some .long
  | _ => False
def bn_S (n : Nat) : Prop := ∀ (mi pc : Nat) (ls : bn_L) (st : List Value) (h : bn_H) (r : Option Value) (h' : bn_H), bn_go n mi pc ls st h = some (r, h') →
  (h.2.1 ≤ h'.2.1 ∧ h.2.2.1 ≤ h'.2.2.1 ∧ h'.1 = h.1) ∧
  ∀ (p : Program) (l : Launch) (e : Env) (R : Room) (s : State) (m : MethodId) (args : Array Value) (below : List Frame) (meth : Method) (c : Code) (Q : State → Prop) (G : bn_G) (n0 z0 : Nat) (H : Heap) (locs : List Loc) (A : Array Slot),
    bn_Cx p R s m args meth c mi G h.1 → s.heap.size = G.1 + n0 → n0 ≤ h.2.1 → z0 ≤ h.2.2.1 → h'.2.1 - n0 ≤ R.cells → h'.2.2.1 - z0 ≤ R.slots → bn_W s G h H locs → bn_LV G (bn_m mi) A ls →
    (∀ (H' : Heap) (locs' : List Loc) (pc' : Nat) (A' : Array Slot), bn_W s G h' H' locs' → bn_Rt mi pc' r → W p l e R s m args below meth c H' locs' (h'.2.1 - n0) (h'.2.2.1 - z0) Q (F0 m pc' A' (r.map (bn_cv G)).toList)) →
    W p l e R s m args below meth c H locs (h.2.1 - n0) (h.2.2.1 - z0) Q (F0 m pc A (st.map (bn_cv G)))
/-- the words of a method -/
def bn_ws (mi : Nat) : List Cond := .code (bn_y mi) (bn_b mi) (bn_m mi) (bn_r mi) :: bn_TT
def bn_rm (mi mc ms : Nat) : Room := { frames := bn_f mi, cells := mc, slots := ms, locals := bn_l mi }
/-- the world at a call -/
def bn_B (G : bn_G) (h : bn_H) (U : State) : Prop := U.heap.size = G.1 + h.2.1 ∧ va_P G.2.2.1 bn_cl (bn_wl G h) U.heap ∧ va_D (bn_A G) (bn_wl G h) ∧ va_K G.2.2.1 bn_cl (bn_tys G) U ∧ bn_X U ∧ va_X G.2.1 h.1.1 h.1.2 U U.heap ∧ G.2.1 < G.1
def bn_Pc (G : bn_G) (h : bn_H) (vs : List Value) : Array Value → State → Prop := fun a U => a = (vs.map (bn_cv G)).toArray ∧ bn_B G h U
def bn_Qc (G : bn_G) (r : Option Value) (h' : bn_H) : Array Value → State → Outcome → State → Prop := fun _ st o t => o = .returned (r.map (bn_cv G)) ∧ va_P G.2.2.1 bn_cl (bn_wl G h') t.heap ∧ va_D (bn_A G) (bn_wl G h') ∧ va_F (bn_A G) st t
theorem bn_X.moved {s U : State} (hW : s.WarmedH U.vm) (h : bn_X s) : bn_X U := ⟨va_AO.moved hW.alike h.1, fun q hq => va_Nw.warmM hW (h.2 q hq)⟩
theorem bn_X.calling {U : State} (g : JFrame) (mk : MethodId) (a : Array Value) (h : bn_X U) : bn_X (U.calling g mk a) := ⟨va_AO.moved (u := U) (Vm.Alike.refl U.vm) h.1, fun q hq => va_Nw.same rfl (u := U) rfl (h.2 q hq)⟩
theorem bn_blind (G : bn_G) (h : bn_H) (vs : List Value) : FrameBlind (bn_Pc G h vs) := fun a U g mk q => ⟨q.1, q.2.1, q.2.2.1, q.2.2.2.1, va_K.moved (u := U) (U := U.calling g mk a) (Vm.Alike.refl U.vm) q.2.2.2.2.1, bn_X.calling g mk a q.2.2.2.2.2.1, va_X.moved (u := U) (U := U.calling g mk a) (Vm.Alike.refl U.vm) q.2.2.2.2.2.2.1, q.2.2.2.2.2.2.2⟩
theorem bn_sl_get (G : bn_G) : ∀ (vs : List Value) (i : Nat) (v : Value), bn_get (bn_sl vs) i = some v → (lg_sl (vs.map (bn_cv G)))[i]? = some (.val (bn_cv G v)) := by
  intro vs
  induction vs with
  | nil => intro i v h; simp [bn_sl, bn_get] at h
  | cons w vs ih =>
    intro i v h
    have e1 : bn_sl (w :: vs) = (if w.category = 2 then [some w, none] else [some w]) ++ bn_sl vs := rfl
    have e2 : lg_sl ((w :: vs).map (bn_cv G)) = (if w.category = 2 then [.val (bn_cv G w), .second] else [.val (bn_cv G w)]) ++ lg_sl (vs.map (bn_cv G)) := by
      show (if (bn_cv G w).category = 2 then [Slot.val (bn_cv G w), .second] else [.val (bn_cv G w)]) ++ lg_sl (vs.map (bn_cv G)) = _
      rw [bn_cv_cat]
    rw [e1] at h
    rw [e2]
    by_cases hc : w.category = 2
    · rw [if_pos hc] at h ⊢
      match i, h with
      | 0, h => cases h; rfl
      | 1, h => cases h
      | i + 2, h => exact ih i v h
    · rw [if_neg hc] at h ⊢
      match i, h with
      | 0, h => cases h; rfl
      | i + 1, h => exact ih i v h
theorem bn_sl_len (G : bn_G) (vs : List Value) : (lg_sl (vs.map (bn_cv G))).length = (bn_sl vs).length := by
  induction vs with
  | nil => rfl
  | cons w vs ih =>
    have e1 : bn_sl (w :: vs) = (if w.category = 2 then [some w, none] else [some w]) ++ bn_sl vs := rfl
    have e2 : lg_sl ((w :: vs).map (bn_cv G)) = (if w.category = 2 then [.val (bn_cv G w), .second] else [.val (bn_cv G w)]) ++ lg_sl (vs.map (bn_cv G)) := by
      show (if (bn_cv G w).category = 2 then [Slot.val (bn_cv G w), .second] else [.val (bn_cv G w)]) ++ lg_sl (vs.map (bn_cv G)) = _
      rw [bn_cv_cat]
    rw [e1, e2, List.length_append, List.length_append, ih]
    split <;> rfl
theorem bn_entry (G : bn_G) (mj : Nat) (vs : List Value) (hl : (bn_sl vs).length ≤ bn_m mj) : bn_LV G (bn_m mj) ((lg_sl (vs.map (bn_cv G)) ++ List.replicate (bn_m mj - (lg_sl (vs.map (bn_cv G))).length) Slot.unset).toArray) (bn_en mj vs) := by
  have h0 := lv_entry (vs.map (bn_cv G)) (n := bn_m mj) (by rw [bn_sl_len]; exact hl)
  refine ⟨h0.1, h0.2.1, fun i v h => ?_⟩
  unfold bn_en at h
  rw [List.getElem?_toArray]
  have hi : i < (bn_sl vs).length := by
    rcases Nat.lt_or_ge i (bn_sl vs).length with q | q
    · exact q
    · unfold bn_get at h
      rw [List.getElem?_append_right q, List.getElem?_replicate] at h
      split at h <;> cases h
  rw [List.getElem?_append_left (by rw [bn_sl_len]; exact hi)]
  refine bn_sl_get G vs i v ?_
  unfold bn_get at h ⊢
  rwa [List.getElem?_append_left hi] at h
/-- the contract of a walk that ends -/
theorem bn_met {n : Nat} (hS : bn_S n) (l : Launch) {mj : Nat} {vs : List Value} {h h' : bn_H} {r : Option Value} (e : bn_go n mj 0 (bn_en mj vs) [] h = some (r, h')) (hl : (bn_sl vs).length ≤ bn_m mj) (hY : bn_PY mj) (G : bn_G) :
    Met l (bn_y mj) (bn_ws mj) (bn_rm mj (h'.2.1 - h.2.1) (h'.2.2.1 - h.2.2.1)) (bn_Pc G h vs) (bn_Qc G r h') (h'.2.1 - h.2.1) (h'.2.2.1 - h.2.2.1) (bn_A G) := by
  obtain ⟨⟨m1, m2, m3⟩, hgo⟩ := hS _ _ _ _ _ _ _ e
  obtain ⟨y1, y2, y3, y4, y5⟩ := hY
  have hp : plainName (bn_y mj).cls = true := by rw [y3]; exact (bn_cnX y5).2.2
  refine Met.ofW (cc := bn_b mj) (maxL := bn_m mj) (ret := bn_r mj) hp rfl ?_
  intro p e s m args below meth c s₁ B hml hv
  obtain ⟨rfl, hsz, hP, hD, hK, hX, hsc, hb⟩ := hv
  have hts := atoms_spec (ws := bn_ws mj) B.pre
  have hown : s.vm.findClass (bn_cn (bn_c mj)) = some m.cls := by rw [← y3]; exact findClass_of_methodNamed B.named
  have hlocks := B.notSynchronized
  have hr := B.returns
  have hname := (name_of_methodNamed B.named B.method).1
  have hS0 : va_S (bn_A G) s.heap s.heap [] := va_S.rf
  rw [lg_entry_eq]
  have hC : bn_Cx p (bn_rm mj (h'.2.1 - h.2.1) (h'.2.2.1 - h.2.2.1)) s m (vs.map (bn_cv G)).toArray meth c mj G h.1 := ⟨B.exec, B.bytes, hml, hown, fun w hw => hts w (List.mem_cons_of_mem _ hw), fun hi => hname.trans (bn_init hi), Nat.le_refl _, Nat.le_refl _, hK, hX, hsc, hb, by omega⟩
  have := hgo p l e (bn_rm mj (h'.2.1 - h.2.1) (h'.2.2.1 - h.2.2.1)) s m _ below meth c (MQ below (bn_Qc G r h') (vs.map (bn_cv G)).toArray s (h'.2.1 - h.2.1) (h'.2.2.1 - h.2.2.1) (bn_A G)) G h.2.1 h.2.2.1 s.heap [] _ hC hsz (Nat.le_refl _) (Nat.le_refl _) (Nat.le_refl _) (Nat.le_refl _) ⟨hP, hD, hS0⟩ (bn_entry G mj vs hl) (fun H' locs' pc' A' hW hR => ?_)
  · rw [Nat.sub_self, Nat.sub_self] at this
    exact this
  · have hq : ∀ t : State, t.heap = H' → s.WarmedH t.vm → bn_Qc G r h' (vs.map (bn_cv G)).toArray s (.returned (r.map (bn_cv G))) t := fun t ht _ => ⟨rfl, by rw [ht]; exact hW.1, hW.2.1, hW.2.2.F ht⟩
    match r, hR, hq with
    | none, hR, hq => exact W.vret B.exec B.bytes (hr.trans hR.2) hq hW.2.2.2.2 hR.1
    | some (.int v), hR, hq =>
      rcases hR.2 with h1 | ⟨h1, h2⟩
      · exact W.iret B.exec B.bytes (hr.trans h1) hq hW.2.2.2.2 hR.1
      · exact W.zret B.exec B.bytes (hr.trans h1) (by rcases h2 with rfl | rfl <;> rfl) hq hW.2.2.2.2 hR.1
    | some (.long v), hR, hq => exact W.lret B.exec B.bytes (hr.trans hR.2) hq hW.2.2.2.2 hR.1
    | some (.float v), hR, hq => exact hR.elim
    | some (.double v), hR, hq => exact hR.elim
    | some .null, hR, hq => exact hR.elim
    | some (.ref v), hR, hq => exact hR.elim
    | some (.retAddr v), hR, hq => exact hR.elim
theorem bn_after {p : Program} {l : Launch} {e : Env} {R : Room} {s : State} {m : MethodId} {args : Array Value} {below : List Frame} {meth : Method} {c : Code} {H : Heap} {locs : List Loc} {cells slots mc ms pc : Nat} {ls : Array Slot} {st0 rest : List Value} {Q : State → Prop} {G : bn_G} {Qa : State → Outcome → State → Prop}
    (hr : va_Run p l e R s m args below meth c H locs cells slots mc ms (F0 m pc ls st0) rest Qa (bn_A G)) (hL : ∀ q ∈ locs, bn_A G q.base)
    (kk : ∀ (v : Option Value) (st₀ t : State) (H1 : Heap) (locs1 : List Loc), st₀.heap = H → t.heap = H1 → Qa st₀ (.returned v) t → (∀ q ∈ locs1, bn_A G q.base) → W p l e R s m args below meth c H1 locs1 (cells + mc) (slots + ms) Q (F0 m (pc + 3) ls (v.toList ++ rest))) : W p l e R s m args below meth c H locs cells slots Q (F0 m pc ls st0) := by
  intro T hT X
  obtain ⟨v, st₀, t, T', L, h0, X', hq, e1, e2, hQ, st⟩ := hr T hT X
  obtain ⟨t2, a1, b1⟩ := kk v st₀ t T'.heap (locs ++ L) h0 e1.symm hQ (fun q hq2 => (List.mem_append.mp hq2).elim (hL q) (hq q)) T' rfl X'
  exact ⟨t2, st t2 a1, b1⟩
theorem bn_good (mj : Nat) (hY : bn_PY mj) : GoodIn bn_TT (bn_ws mj) := by
  intro w hw
  have hm : w ∈ bn_TT := (List.mem_cons.mp hw).elim (fun q => by rw [q]; exact bn_TT_in hY.1 rfl) id
  exact ⟨hm, good_of_word (bn_TT_good w hm)⟩
