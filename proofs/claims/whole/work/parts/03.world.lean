/-! THE WALK'S WORLD: cell k lies at the address G.1 + k -/
abbrev bn_G : Type := Nat × Nat × va_G × (Nat → ClassId)
def bn_cv (G : bn_G) (v : Value) : Value := match v with
  | .ref k => .ref (G.1 + k)
  | .retAddr _ => .ref G.2.1
  | v => v
def bn_ca (G : bn_G) (a : vp_A) : vp_A := match a with
  | (n, .inr (.inr (.inr (.inr f)))) => (n, .inr (.inr (.inr (.inr (fun j => (f j).map (fun k => G.1 + k))))))
  | a => a
def bn_ce (G : bn_G) (e : bn_E) : va_E := match e with
  | .inl a => .inl (G.2.2.2 a.1, bn_ca G a.2)
  | .inr o => .inr (o.1, o.2.map (bn_cv G))
def bn_wl (G : bn_G) (h : bn_H) : va_W := (List.range h.2.1).map (fun k => (G.1 + k, bn_ce G (h.2.2.2 k)))
def bn_A (G : bn_G) : Nat → Prop := fun q => G.1 ≤ q
def bn_W (s : State) (G : bn_G) (h : bn_H) (H : Heap) (locs : List Loc) : Prop := va_P G.2.2.1 bn_cl (bn_wl G h) H ∧ va_D (bn_A G) (bn_wl G h) ∧ va_S (bn_A G) s.heap H locs
def bn_tys (G : bn_G) : List (ClassId × FieldType) := [(G.2.2.2 0, .int), (G.2.2.2 1, .boolean), (G.2.2.2 2, .long), (G.2.2.2 3, .object RX0)]
/-- what the tables say that isn't a word of every list: nest mates' constructors, the array class of Siege -/
def bn_NL : List (String × Nat × MethodName) := [(RX2, 11, yX1_init), (RX2, 18, yX0_init)]
def bn_X (U : State) : Prop := va_AO RX0 U ∧ ∀ q ∈ bn_NL, va_Nw (.methodLinkNest q.1 q.2.1 q.2.2 "BreadNumbered") U
def bn_TT : List Cond := lw_tbl.filter goodWord
def bn_Cx (p : Program) (R : Room) (s : State) (m : MethodId) (args : Array Value) (meth : Method) (c : Code) (mi : Nat) (G : bn_G) (sc : Nat × (Nat → Int32)) : Prop :=
  p.tables.exec = Jvm.exec ∧ c.code = bn_b mi ∧ c.maxLocals = bn_m mi ∧ s.vm.findClass (bn_cn (bn_c mi)) = some m.cls ∧ (∀ w ∈ bn_TT, w.before args s = true) ∧ (bn_i mi = true → meth.name = "<init>") ∧ bn_f mi ≤ R.frames ∧ bn_l mi ≤ R.locals ∧ va_K G.2.2.1 bn_cl (bn_tys G) s ∧ bn_X s ∧ va_X G.2.1 sc.1 sc.2 s s.heap ∧ G.2.1 < G.1 ∧ G.1 ≤ s.heap.size
def bn_LV (G : bn_G) (nL : Nat) (A : Array Slot) (ls : bn_L) : Prop := A.size = nL ∧ lv_wf A ∧ ∀ (i : Nat) (v : Value), bn_get ls i = some v → A[i]? = some (.val (bn_cv G v))
theorem bn_cv_cat (G : bn_G) (v : Value) : (bn_cv G v).category = v.category := by cases v <;> rfl
theorem bn_ct_cv (G : bn_G) (st : List Value) : ((st.map (bn_cv G)).map fun v => v.category).sum = bn_ct st := by
  unfold bn_ct
  rw [List.map_map]
  congr 1
  exact List.map_congr_left (fun v _ => bn_cv_cat G v)
theorem bn_wl_get {G : bn_G} {h : bn_H} {p : Nat} {e : bn_E} (hg : bn_g h p = some e) : (bn_wl G h)[p]? = some (G.1 + p, bn_ce G e) := by
  unfold bn_g at hg
  split at hg
  · rename_i hp
    cases hg
    unfold bn_wl
    rw [List.getElem?_map, List.getElem?_range hp]
    rfl
  · cases hg
theorem bn_wl_set {G : bn_G} {h : bn_H} {p : Nat} {e0 e : bn_E} (hg : bn_g h p = some e0) : (bn_wl G h).set p (G.1 + p, bn_ce G e) = bn_wl G (bn_u h p e) := by
  have hp : p < h.2.1 := by
    unfold bn_g at hg
    split at hg
    · assumption
    · cases hg
  apply List.ext_getElem?
  intro i
  unfold bn_wl bn_u
  rw [List.getElem?_set]
  by_cases hi : i < h.2.1
  · by_cases hpi : p = i
    · subst hpi
      simp [hi, va_up]
    · have hip : ¬ i = p := fun q => hpi q.symm
      simp [hi, va_up, hpi, hip]
  · have h1 : p ≠ i := fun q => hi (q ▸ hp)
    simp [hi, h1]
theorem bn_wl_app {G : bn_G} {h : bn_H} {e : bn_E} {z : Nat} : bn_wl G h ++ [(G.1 + h.2.1, bn_ce G e)] = bn_wl G (bn_n h e z) := by
  unfold bn_wl bn_n
  rw [List.range_succ, List.map_append]
  congr 1
  · exact List.map_congr_left (fun k hk => by
      have := List.mem_range.mp hk
      simp [va_up, Nat.ne_of_lt this])
  · simp [va_up]
theorem bn_low {s : State} {G : bn_G} {h : bn_H} {H : Heap} {locs : List Loc} {n0 : Nat} (hW : bn_W s G h H locs) (hs : s.heap.size = G.1 + n0) (hn : n0 ≤ h.2.1) : G.1 + h.2.1 ≤ H.size := by
  rcases Nat.lt_or_ge n0 h.2.1 with h1 | h1
  · have hg : bn_g h (h.2.1 - 1) = some (h.2.2.2 (h.2.1 - 1)) := by
      unfold bn_g
      rw [if_pos (by omega)]
    have := (hW.1 _ _ (bn_wl_get (G := G) hg)).lt
    dsimp only at this
    omega
  · have := hW.2.2.1
    omega
theorem bn_TT_mem {i : Nat} {w : Cond} (h : lw_tbl[i]? = some w) (hg : goodWord w = true) : w ∈ bn_TT := List.mem_filter.mpr ⟨List.mem_of_getElem? h, hg⟩
theorem bn_TT_good : ∀ w ∈ bn_TT, goodWord w = true := fun w h => (List.mem_filter.mp h).2
/-! the tables -/
def bn_okF (r : Nat × Nat × Nat × Nat × Nat) : Bool := decide (lw_tbl[r.2.2.2.2]? = some (.fieldLink (bn_cn r.1) r.2.1 (bn_cn r.2.2.1) (bn_T r.2.2.1 r.2.2.2.1).2.1 (bn_T r.2.2.1 r.2.2.2.1).2.2.1)) && (goodWord (.fieldLink (bn_cn r.1) r.2.1 (bn_cn r.2.2.1) (bn_T r.2.2.1 r.2.2.2.1).2.1 (bn_T r.2.2.1 r.2.2.2.1).2.2.1) && (decide (r.2.2.2.1 < bn_N r.2.2.1) && (decide ((bn_T r.2.2.1 r.2.2.2.1).1 = bn_cn r.2.2.1) && decide (r.2.2.1 < 4))))
set_option maxRecDepth 100000 in
theorem bn_FL_ok : bn_FL.all bn_okF = true := by decide +kernel
theorem bn_fl_ok {c idx : Nat} {q : Nat × Nat} (h : bn_fl c idx = some q) : .fieldLink (bn_cn c) idx (bn_cn q.1) (bn_T q.1 q.2).2.1 (bn_T q.1 q.2).2.2.1 ∈ bn_TT ∧ q.2 < bn_N q.1 ∧ (bn_T q.1 q.2).1 = bn_cn q.1 ∧ q.1 < 4 := by
  unfold bn_fl at h
  obtain ⟨r, h1, rfl⟩ := Option.map_eq_some_iff.mp h
  have h2 := List.find?_some h1
  have h3 := List.all_eq_true.mp bn_FL_ok r (List.mem_of_find?_eq_some h1)
  simp only [Bool.and_eq_true, beq_iff_eq] at h2
  obtain ⟨rfl, rfl⟩ := h2
  simp only [bn_okF, Bool.and_eq_true, decide_eq_true_eq] at h3
  exact ⟨bn_TT_mem h3.1 h3.2.1, h3.2.2.1, h3.2.2.2.1, h3.2.2.2.2⟩
/-- of a called method: its code, its class, its parameters -/
def bn_PY (j : Nat) : Prop := Cond.code (bn_y j) (bn_b j) (bn_m j) (bn_r j) ∈ lw_tbl ∧ Cond.initialized (bn_y j).cls ∈ lw_tbl ∧ (bn_y j).cls = bn_cn (bn_c j) ∧ (parseMethodDescriptor (bn_y j).desc).map (fun d => d.parameters.length) = some (bn_p j) ∧ bn_c j < 6
set_option maxRecDepth 100000 in
theorem bn_Y_0 : bn_PY 0 := ⟨List.mem_of_getElem? (i := 76) rfl, List.mem_of_getElem? (i := 41) rfl, rfl, by decide +kernel, by decide⟩
set_option maxRecDepth 100000 in
theorem bn_Y_1 : bn_PY 1 := ⟨List.mem_of_getElem? (i := 210) rfl, List.mem_of_getElem? (i := 41) rfl, rfl, by decide +kernel, by decide⟩
set_option maxRecDepth 100000 in
theorem bn_Y_2 : bn_PY 2 := ⟨List.mem_of_getElem? (i := 218) rfl, List.mem_of_getElem? (i := 41) rfl, rfl, by decide +kernel, by decide⟩
set_option maxRecDepth 100000 in
theorem bn_Y_3 : bn_PY 3 := ⟨List.mem_of_getElem? (i := 240) rfl, List.mem_of_getElem? (i := 41) rfl, rfl, by decide +kernel, by decide⟩
set_option maxRecDepth 100000 in
theorem bn_Y_4 : bn_PY 4 := ⟨List.mem_of_getElem? (i := 248) rfl, List.mem_of_getElem? (i := 41) rfl, rfl, by decide +kernel, by decide⟩
set_option maxRecDepth 100000 in
theorem bn_Y_5 : bn_PY 5 := ⟨List.mem_of_getElem? (i := 263) rfl, List.mem_of_getElem? (i := 41) rfl, rfl, by decide +kernel, by decide⟩
set_option maxRecDepth 100000 in
theorem bn_Y_6 : bn_PY 6 := ⟨List.mem_of_getElem? (i := 279) rfl, List.mem_of_getElem? (i := 41) rfl, rfl, by decide +kernel, by decide⟩
set_option maxRecDepth 100000 in
theorem bn_Y_7 : bn_PY 7 := ⟨List.mem_of_getElem? (i := 267) rfl, List.mem_of_getElem? (i := 41) rfl, rfl, by decide +kernel, by decide⟩
set_option maxRecDepth 100000 in
theorem bn_Y_8 : bn_PY 8 := ⟨List.mem_of_getElem? (i := 283) rfl, List.mem_of_getElem? (i := 41) rfl, rfl, by decide +kernel, by decide⟩
set_option maxRecDepth 100000 in
theorem bn_Y_9 : bn_PY 9 := ⟨List.mem_of_getElem? (i := 301) rfl, List.mem_of_getElem? (i := 41) rfl, rfl, by decide +kernel, by decide⟩
set_option maxRecDepth 100000 in
theorem bn_Y_10 : bn_PY 10 := ⟨List.mem_of_getElem? (i := 354) rfl, List.mem_of_getElem? (i := 41) rfl, rfl, by decide +kernel, by decide⟩
set_option maxRecDepth 100000 in
theorem bn_Y_11 : bn_PY 11 := ⟨List.mem_of_getElem? (i := 350) rfl, List.mem_of_getElem? (i := 41) rfl, rfl, by decide +kernel, by decide⟩
set_option maxRecDepth 100000 in
theorem bn_Y_12 : bn_PY 12 := ⟨List.mem_of_getElem? (i := 366) rfl, List.mem_of_getElem? (i := 41) rfl, rfl, by decide +kernel, by decide⟩
set_option maxRecDepth 100000 in
theorem bn_Y_13 : bn_PY 13 := ⟨List.mem_of_getElem? (i := 271) rfl, List.mem_of_getElem? (i := 41) rfl, rfl, by decide +kernel, by decide⟩
set_option maxRecDepth 100000 in
theorem bn_Y_14 : bn_PY 14 := ⟨List.mem_of_getElem? (i := 374) rfl, List.mem_of_getElem? (i := 41) rfl, rfl, by decide +kernel, by decide⟩
set_option maxRecDepth 100000 in
theorem bn_Y_15 : bn_PY 15 := ⟨List.mem_of_getElem? (i := 370) rfl, List.mem_of_getElem? (i := 41) rfl, rfl, by decide +kernel, by decide⟩
set_option maxRecDepth 100000 in
theorem bn_Y_16 : bn_PY 16 := ⟨List.mem_of_getElem? (i := 378) rfl, List.mem_of_getElem? (i := 41) rfl, rfl, by decide +kernel, by decide⟩
set_option maxRecDepth 100000 in
theorem bn_Y_17 : bn_PY 17 := ⟨List.mem_of_getElem? (i := 471) rfl, List.mem_of_getElem? (i := 41) rfl, rfl, by decide +kernel, by decide⟩
set_option maxRecDepth 100000 in
theorem bn_Y_18 : bn_PY 18 := ⟨List.mem_of_getElem? (i := 475) rfl, List.mem_of_getElem? (i := 41) rfl, rfl, by decide +kernel, by decide⟩
set_option maxRecDepth 100000 in
theorem bn_Y_19 : bn_PY 19 := ⟨List.mem_of_getElem? (i := 236) rfl, List.mem_of_getElem? (i := 41) rfl, rfl, by decide +kernel, by decide⟩
set_option maxRecDepth 100000 in
theorem bn_Y_20 : bn_PY 20 := ⟨List.mem_of_getElem? (i := 435) rfl, List.mem_of_getElem? (i := 41) rfl, rfl, by decide +kernel, by decide⟩
set_option maxRecDepth 100000 in
theorem bn_Y_21 : bn_PY 21 := ⟨List.mem_of_getElem? (i := 479) rfl, List.mem_of_getElem? (i := 41) rfl, rfl, by decide +kernel, by decide⟩
set_option maxRecDepth 100000 in
theorem bn_Y_22 : bn_PY 22 := ⟨List.mem_of_getElem? (i := 291) rfl, List.mem_of_getElem? (i := 41) rfl, rfl, by decide +kernel, by decide⟩
set_option maxRecDepth 100000 in
theorem bn_Y_23 : bn_PY 23 := ⟨List.mem_of_getElem? (i := 297) rfl, List.mem_of_getElem? (i := 41) rfl, rfl, by decide +kernel, by decide⟩
set_option maxRecDepth 100000 in
theorem bn_Y_24 : bn_PY 24 := ⟨List.mem_of_getElem? (i := 313) rfl, List.mem_of_getElem? (i := 41) rfl, rfl, by decide +kernel, by decide⟩
set_option maxRecDepth 100000 in
theorem bn_Y_25 : bn_PY 25 := ⟨List.mem_of_getElem? (i := 335) rfl, List.mem_of_getElem? (i := 41) rfl, rfl, by decide +kernel, by decide⟩
set_option maxRecDepth 100000 in
theorem bn_Y_26 : bn_PY 26 := ⟨List.mem_of_getElem? (i := 339) rfl, List.mem_of_getElem? (i := 41) rfl, rfl, by decide +kernel, by decide⟩
set_option maxRecDepth 100000 in
theorem bn_Y_27 : bn_PY 27 := ⟨List.mem_of_getElem? (i := 398) rfl, List.mem_of_getElem? (i := 41) rfl, rfl, by decide +kernel, by decide⟩
set_option maxRecDepth 100000 in
theorem bn_Y_28 : bn_PY 28 := ⟨List.mem_of_getElem? (i := 402) rfl, List.mem_of_getElem? (i := 41) rfl, rfl, by decide +kernel, by decide⟩
set_option maxRecDepth 100000 in
theorem bn_Y_29 : bn_PY 29 := ⟨List.mem_of_getElem? (i := 416) rfl, List.mem_of_getElem? (i := 41) rfl, rfl, by decide +kernel, by decide⟩
set_option maxRecDepth 100000 in
theorem bn_Y_30 : bn_PY 30 := ⟨List.mem_of_getElem? (i := 423) rfl, List.mem_of_getElem? (i := 41) rfl, rfl, by decide +kernel, by decide⟩
set_option maxRecDepth 100000 in
theorem bn_Y_31 : bn_PY 31 := ⟨List.mem_of_getElem? (i := 427) rfl, List.mem_of_getElem? (i := 41) rfl, rfl, by decide +kernel, by decide⟩
set_option maxRecDepth 100000 in
theorem bn_Y_32 : bn_PY 32 := ⟨List.mem_of_getElem? (i := 58) rfl, List.mem_of_getElem? (i := 40) rfl, rfl, by decide +kernel, by decide⟩
set_option maxRecDepth 100000 in
theorem bn_Y_33 : bn_PY 33 := ⟨List.mem_of_getElem? (i := 174) rfl, List.mem_of_getElem? (i := 40) rfl, rfl, by decide +kernel, by decide⟩
set_option maxRecDepth 100000 in
theorem bn_Y_34 : bn_PY 34 := ⟨List.mem_of_getElem? (i := 186) rfl, List.mem_of_getElem? (i := 40) rfl, rfl, by decide +kernel, by decide⟩
set_option maxRecDepth 100000 in
theorem bn_Y_35 : bn_PY 35 := ⟨List.mem_of_getElem? (i := 190) rfl, List.mem_of_getElem? (i := 40) rfl, rfl, by decide +kernel, by decide⟩
set_option maxRecDepth 100000 in
theorem bn_Y_36 : bn_PY 36 := ⟨List.mem_of_getElem? (i := 214) rfl, List.mem_of_getElem? (i := 40) rfl, rfl, by decide +kernel, by decide⟩
set_option maxRecDepth 100000 in
theorem bn_Y_37 : bn_PY 37 := ⟨List.mem_of_getElem? (i := 222) rfl, List.mem_of_getElem? (i := 40) rfl, rfl, by decide +kernel, by decide⟩
set_option maxRecDepth 100000 in
theorem bn_Y_38 : bn_PY 38 := ⟨List.mem_of_getElem? (i := 226) rfl, List.mem_of_getElem? (i := 40) rfl, rfl, by decide +kernel, by decide⟩
set_option maxRecDepth 100000 in
theorem bn_Y_39 : bn_PY 39 := ⟨List.mem_of_getElem? (i := 229) rfl, List.mem_of_getElem? (i := 40) rfl, rfl, by decide +kernel, by decide⟩
set_option maxRecDepth 100000 in
theorem bn_Y_40 : bn_PY 40 := ⟨List.mem_of_getElem? (i := 232) rfl, List.mem_of_getElem? (i := 40) rfl, rfl, by decide +kernel, by decide⟩
set_option maxRecDepth 100000 in
theorem bn_Y_41 : bn_PY 41 := ⟨List.mem_of_getElem? (i := 194) rfl, List.mem_of_getElem? (i := 40) rfl, rfl, by decide +kernel, by decide⟩
set_option maxRecDepth 100000 in
theorem bn_Y_42 : bn_PY 42 := ⟨List.mem_of_getElem? (i := 198) rfl, List.mem_of_getElem? (i := 40) rfl, rfl, by decide +kernel, by decide⟩
set_option maxRecDepth 100000 in
theorem bn_Y_43 : bn_PY 43 := ⟨List.mem_of_getElem? (i := 202) rfl, List.mem_of_getElem? (i := 40) rfl, rfl, by decide +kernel, by decide⟩
set_option maxRecDepth 100000 in
theorem bn_Y_44 : bn_PY 44 := ⟨List.mem_of_getElem? (i := 206) rfl, List.mem_of_getElem? (i := 40) rfl, rfl, by decide +kernel, by decide⟩
set_option maxRecDepth 100000 in
theorem bn_Y_45 : bn_PY 45 := ⟨List.mem_of_getElem? (i := 50) rfl, List.mem_of_getElem? (i := 39) rfl, rfl, by decide +kernel, by decide⟩
set_option maxRecDepth 100000 in
theorem bn_Y_46 : bn_PY 46 := ⟨List.mem_of_getElem? (i := 170) rfl, List.mem_of_getElem? (i := 39) rfl, rfl, by decide +kernel, by decide⟩
set_option maxRecDepth 100000 in
theorem bn_Y_47 : bn_PY 47 := ⟨List.mem_of_getElem? (i := 178) rfl, List.mem_of_getElem? (i := 39) rfl, rfl, by decide +kernel, by decide⟩
set_option maxRecDepth 100000 in
theorem bn_Y_48 : bn_PY 48 := ⟨List.mem_of_getElem? (i := 182) rfl, List.mem_of_getElem? (i := 39) rfl, rfl, by decide +kernel, by decide⟩
set_option maxRecDepth 100000 in
theorem bn_Y_49 : bn_PY 49 := ⟨List.mem_of_getElem? (i := 244) rfl, List.mem_of_getElem? (i := 39) rfl, rfl, by decide +kernel, by decide⟩
set_option maxRecDepth 100000 in
theorem bn_Y_50 : bn_PY 50 := ⟨List.mem_of_getElem? (i := 259) rfl, List.mem_of_getElem? (i := 39) rfl, rfl, by decide +kernel, by decide⟩
set_option maxRecDepth 100000 in
theorem bn_Y_51 : bn_PY 51 := ⟨List.mem_of_getElem? (i := 275) rfl, List.mem_of_getElem? (i := 39) rfl, rfl, by decide +kernel, by decide⟩
set_option maxRecDepth 100000 in
theorem bn_Y_52 : bn_PY 52 := ⟨List.mem_of_getElem? (i := 287) rfl, List.mem_of_getElem? (i := 39) rfl, rfl, by decide +kernel, by decide⟩
set_option maxRecDepth 100000 in
theorem bn_Y_53 : bn_PY 53 := ⟨List.mem_of_getElem? (i := 305) rfl, List.mem_of_getElem? (i := 39) rfl, rfl, by decide +kernel, by decide⟩
set_option maxRecDepth 100000 in
theorem bn_Y_54 : bn_PY 54 := ⟨List.mem_of_getElem? (i := 317) rfl, List.mem_of_getElem? (i := 39) rfl, rfl, by decide +kernel, by decide⟩
set_option maxRecDepth 100000 in
theorem bn_Y_55 : bn_PY 55 := ⟨List.mem_of_getElem? (i := 321) rfl, List.mem_of_getElem? (i := 39) rfl, rfl, by decide +kernel, by decide⟩
set_option maxRecDepth 100000 in
theorem bn_Y_56 : bn_PY 56 := ⟨List.mem_of_getElem? (i := 331) rfl, List.mem_of_getElem? (i := 39) rfl, rfl, by decide +kernel, by decide⟩
set_option maxRecDepth 100000 in
theorem bn_Y_57 : bn_PY 57 := ⟨List.mem_of_getElem? (i := 346) rfl, List.mem_of_getElem? (i := 39) rfl, rfl, by decide +kernel, by decide⟩
set_option maxRecDepth 100000 in
theorem bn_Y_58 : bn_PY 58 := ⟨List.mem_of_getElem? (i := 382) rfl, List.mem_of_getElem? (i := 39) rfl, rfl, by decide +kernel, by decide⟩
set_option maxRecDepth 100000 in
theorem bn_Y_59 : bn_PY 59 := ⟨List.mem_of_getElem? (i := 386) rfl, List.mem_of_getElem? (i := 39) rfl, rfl, by decide +kernel, by decide⟩
set_option maxRecDepth 100000 in
theorem bn_Y_60 : bn_PY 60 := ⟨List.mem_of_getElem? (i := 390) rfl, List.mem_of_getElem? (i := 39) rfl, rfl, by decide +kernel, by decide⟩
set_option maxRecDepth 100000 in
theorem bn_Y_61 : bn_PY 61 := ⟨List.mem_of_getElem? (i := 408) rfl, List.mem_of_getElem? (i := 39) rfl, rfl, by decide +kernel, by decide⟩
set_option maxRecDepth 100000 in
theorem bn_Y_62 : bn_PY 62 := ⟨List.mem_of_getElem? (i := 412) rfl, List.mem_of_getElem? (i := 39) rfl, rfl, by decide +kernel, by decide⟩
set_option maxRecDepth 100000 in
theorem bn_Y_63 : bn_PY 63 := ⟨List.mem_of_getElem? (i := 431) rfl, List.mem_of_getElem? (i := 39) rfl, rfl, by decide +kernel, by decide⟩
set_option maxRecDepth 100000 in
theorem bn_Y_64 : bn_PY 64 := ⟨List.mem_of_getElem? (i := 440) rfl, List.mem_of_getElem? (i := 39) rfl, rfl, by decide +kernel, by decide⟩
set_option maxRecDepth 100000 in
theorem bn_Y_65 : bn_PY 65 := ⟨List.mem_of_getElem? (i := 451) rfl, List.mem_of_getElem? (i := 39) rfl, rfl, by decide +kernel, by decide⟩
set_option maxRecDepth 100000 in
theorem bn_Y_66 : bn_PY 66 := ⟨List.mem_of_getElem? (i := 458) rfl, List.mem_of_getElem? (i := 39) rfl, rfl, by decide +kernel, by decide⟩
set_option maxRecDepth 100000 in
theorem bn_Y_67 : bn_PY 67 := ⟨List.mem_of_getElem? (i := 462) rfl, List.mem_of_getElem? (i := 39) rfl, rfl, by decide +kernel, by decide⟩
set_option maxRecDepth 100000 in
theorem bn_Y_68 : bn_PY 68 := ⟨List.mem_of_getElem? (i := 466) rfl, List.mem_of_getElem? (i := 39) rfl, rfl, by decide +kernel, by decide⟩
set_option maxRecDepth 100000 in
theorem bn_Y_69 : bn_PY 69 := ⟨List.mem_of_getElem? (i := 309) rfl, List.mem_of_getElem? (i := 39) rfl, rfl, by decide +kernel, by decide⟩
set_option maxRecDepth 100000 in
theorem bn_Y_70 : bn_PY 70 := ⟨List.mem_of_getElem? (i := 255) rfl, List.mem_of_getElem? (i := 39) rfl, rfl, by decide +kernel, by decide⟩
set_option maxRecDepth 100000 in
theorem bn_Y_71 : bn_PY 71 := ⟨List.mem_of_getElem? (i := 394) rfl, List.mem_of_getElem? (i := 39) rfl, rfl, by decide +kernel, by decide⟩
set_option maxRecDepth 100000 in
theorem bn_Y_72 : bn_PY 72 := ⟨List.mem_of_getElem? (i := 324) rfl, List.mem_of_getElem? (i := 39) rfl, rfl, by decide +kernel, by decide⟩
set_option maxRecDepth 100000 in
theorem bn_Y_73 : bn_PY 73 := ⟨List.mem_of_getElem? (i := 327) rfl, List.mem_of_getElem? (i := 39) rfl, rfl, by decide +kernel, by decide⟩
set_option maxRecDepth 100000 in
theorem bn_Y_74 : bn_PY 74 := ⟨List.mem_of_getElem? (i := 443) rfl, List.mem_of_getElem? (i := 39) rfl, rfl, by decide +kernel, by decide⟩
set_option maxRecDepth 100000 in
theorem bn_Y_75 : bn_PY 75 := ⟨List.mem_of_getElem? (i := 446) rfl, List.mem_of_getElem? (i := 39) rfl, rfl, by decide +kernel, by decide⟩
set_option maxRecDepth 100000 in
theorem bn_Y_76 : bn_PY 76 := ⟨List.mem_of_getElem? (i := 486) rfl, List.mem_of_getElem? (i := 42) rfl, rfl, by decide +kernel, by decide⟩
set_option maxRecDepth 100000 in
theorem bn_Y_77 : bn_PY 77 := ⟨List.mem_of_getElem? (i := 584) rfl, List.mem_of_getElem? (i := 42) rfl, rfl, by decide +kernel, by decide⟩
set_option maxRecDepth 100000 in
theorem bn_Y_78 : bn_PY 78 := ⟨List.mem_of_getElem? (i := 580) rfl, List.mem_of_getElem? (i := 42) rfl, rfl, by decide +kernel, by decide⟩
set_option maxRecDepth 100000 in
theorem bn_Y_79 : bn_PY 79 := ⟨List.mem_of_getElem? (i := 589) rfl, List.mem_of_getElem? (i := 42) rfl, rfl, by decide +kernel, by decide⟩
set_option maxRecDepth 100000 in
theorem bn_Y_80 : bn_PY 80 := ⟨List.mem_of_getElem? (i := 601) rfl, List.mem_of_getElem? (i := 42) rfl, rfl, by decide +kernel, by decide⟩
set_option maxRecDepth 100000 in
theorem bn_Y_81 : bn_PY 81 := ⟨List.mem_of_getElem? (i := 610) rfl, List.mem_of_getElem? (i := 42) rfl, rfl, by decide +kernel, by decide⟩
set_option maxRecDepth 100000 in
theorem bn_Y_82 : bn_PY 82 := ⟨List.mem_of_getElem? (i := 597) rfl, List.mem_of_getElem? (i := 42) rfl, rfl, by decide +kernel, by decide⟩
set_option maxRecDepth 100000 in
theorem bn_Y_83 : bn_PY 83 := ⟨List.mem_of_getElem? (i := 606) rfl, List.mem_of_getElem? (i := 42) rfl, rfl, by decide +kernel, by decide⟩
set_option maxRecDepth 100000 in
theorem bn_Y_84 : bn_PY 84 := ⟨List.mem_of_getElem? (i := 593) rfl, List.mem_of_getElem? (i := 42) rfl, rfl, by decide +kernel, by decide⟩
set_option maxRecDepth 100000 in
theorem bn_Y_85 : bn_PY 85 := ⟨List.mem_of_getElem? (i := 614) rfl, List.mem_of_getElem? (i := 42) rfl, rfl, by decide +kernel, by decide⟩
set_option maxRecDepth 100000 in
theorem bn_Y_86 : bn_PY 86 := ⟨List.mem_of_getElem? (i := 622) rfl, List.mem_of_getElem? (i := 42) rfl, rfl, by decide +kernel, by decide⟩
set_option maxRecDepth 100000 in
theorem bn_Y_87 : bn_PY 87 := ⟨List.mem_of_getElem? (i := 638) rfl, List.mem_of_getElem? (i := 42) rfl, rfl, by decide +kernel, by decide⟩
set_option maxRecDepth 100000 in
theorem bn_Y_88 : bn_PY 88 := ⟨List.mem_of_getElem? (i := 654) rfl, List.mem_of_getElem? (i := 42) rfl, rfl, by decide +kernel, by decide⟩
set_option maxRecDepth 100000 in
theorem bn_Y_89 : bn_PY 89 := ⟨List.mem_of_getElem? (i := 630) rfl, List.mem_of_getElem? (i := 42) rfl, rfl, by decide +kernel, by decide⟩
set_option maxRecDepth 100000 in
theorem bn_Y_90 : bn_PY 90 := ⟨List.mem_of_getElem? (i := 642) rfl, List.mem_of_getElem? (i := 42) rfl, rfl, by decide +kernel, by decide⟩
set_option maxRecDepth 100000 in
theorem bn_Y_91 : bn_PY 91 := ⟨List.mem_of_getElem? (i := 626) rfl, List.mem_of_getElem? (i := 42) rfl, rfl, by decide +kernel, by decide⟩
set_option maxRecDepth 100000 in
theorem bn_Y_92 : bn_PY 92 := ⟨List.mem_of_getElem? (i := 618) rfl, List.mem_of_getElem? (i := 42) rfl, rfl, by decide +kernel, by decide⟩
set_option maxRecDepth 100000 in
theorem bn_Y_93 : bn_PY 93 := ⟨List.mem_of_getElem? (i := 634) rfl, List.mem_of_getElem? (i := 42) rfl, rfl, by decide +kernel, by decide⟩
set_option maxRecDepth 100000 in
theorem bn_Y_94 : bn_PY 94 := ⟨List.mem_of_getElem? (i := 662) rfl, List.mem_of_getElem? (i := 42) rfl, rfl, by decide +kernel, by decide⟩
set_option maxRecDepth 100000 in
theorem bn_Y_95 : bn_PY 95 := ⟨List.mem_of_getElem? (i := 650) rfl, List.mem_of_getElem? (i := 42) rfl, rfl, by decide +kernel, by decide⟩
set_option maxRecDepth 100000 in
theorem bn_Y_96 : bn_PY 96 := ⟨List.mem_of_getElem? (i := 646) rfl, List.mem_of_getElem? (i := 42) rfl, rfl, by decide +kernel, by decide⟩
set_option maxRecDepth 100000 in
theorem bn_Y_97 : bn_PY 97 := ⟨List.mem_of_getElem? (i := 666) rfl, List.mem_of_getElem? (i := 42) rfl, rfl, by decide +kernel, by decide⟩
set_option maxRecDepth 100000 in
theorem bn_Y_98 : bn_PY 98 := ⟨List.mem_of_getElem? (i := 658) rfl, List.mem_of_getElem? (i := 42) rfl, rfl, by decide +kernel, by decide⟩
set_option maxRecDepth 100000 in
theorem bn_Y_99 : bn_PY 99 := ⟨List.mem_of_getElem? (i := 670) rfl, List.mem_of_getElem? (i := 42) rfl, rfl, by decide +kernel, by decide⟩
set_option maxRecDepth 100000 in
theorem bn_Y_100 : bn_PY 100 := ⟨List.mem_of_getElem? (i := 677) rfl, List.mem_of_getElem? (i := 42) rfl, rfl, by decide +kernel, by decide⟩
set_option maxRecDepth 100000 in
theorem bn_Y_101 : bn_PY 101 := ⟨List.mem_of_getElem? (i := 674) rfl, List.mem_of_getElem? (i := 42) rfl, rfl, by decide +kernel, by decide⟩
set_option maxRecDepth 100000 in
theorem bn_Y_102 : bn_PY 102 := ⟨List.mem_of_getElem? (i := 685) rfl, List.mem_of_getElem? (i := 42) rfl, rfl, by decide +kernel, by decide⟩
set_option maxRecDepth 100000 in
theorem bn_Y_103 : bn_PY 103 := ⟨List.mem_of_getElem? (i := 681) rfl, List.mem_of_getElem? (i := 42) rfl, rfl, by decide +kernel, by decide⟩
set_option maxRecDepth 100000 in
theorem bn_Y_104 : bn_PY 104 := ⟨List.mem_of_getElem? (i := 693) rfl, List.mem_of_getElem? (i := 42) rfl, rfl, by decide +kernel, by decide⟩
set_option maxRecDepth 100000 in
theorem bn_Y_105 : bn_PY 105 := ⟨List.mem_of_getElem? (i := 698) rfl, List.mem_of_getElem? (i := 42) rfl, rfl, by decide +kernel, by decide⟩
set_option maxRecDepth 100000 in
theorem bn_Y_106 : bn_PY 106 := ⟨List.mem_of_getElem? (i := 701) rfl, List.mem_of_getElem? (i := 42) rfl, rfl, by decide +kernel, by decide⟩
set_option maxRecDepth 100000 in
theorem bn_Y_107 : bn_PY 107 := ⟨List.mem_of_getElem? (i := 689) rfl, List.mem_of_getElem? (i := 42) rfl, rfl, by decide +kernel, by decide⟩
set_option maxRecDepth 100000 in
theorem bn_Y_108 : bn_PY 108 := ⟨List.mem_of_getElem? (i := 705) rfl, List.mem_of_getElem? (i := 42) rfl, rfl, by decide +kernel, by decide⟩
set_option maxRecDepth 100000 in
theorem bn_Y_109 : bn_PY 109 := ⟨List.mem_of_getElem? (i := 709) rfl, List.mem_of_getElem? (i := 42) rfl, rfl, by decide +kernel, by decide⟩
set_option maxRecDepth 100000 in
theorem bn_Y_110 : bn_PY 110 := ⟨List.mem_of_getElem? (i := 721) rfl, List.mem_of_getElem? (i := 42) rfl, rfl, by decide +kernel, by decide⟩
set_option maxRecDepth 100000 in
theorem bn_Y_111 : bn_PY 111 := ⟨List.mem_of_getElem? (i := 717) rfl, List.mem_of_getElem? (i := 42) rfl, rfl, by decide +kernel, by decide⟩
set_option maxRecDepth 100000 in
theorem bn_Y_112 : bn_PY 112 := ⟨List.mem_of_getElem? (i := 713) rfl, List.mem_of_getElem? (i := 42) rfl, rfl, by decide +kernel, by decide⟩
set_option maxRecDepth 100000 in
theorem bn_Y_113 : bn_PY 113 := ⟨List.mem_of_getElem? (i := 725) rfl, List.mem_of_getElem? (i := 42) rfl, rfl, by decide +kernel, by decide⟩
set_option maxRecDepth 100000 in
theorem bn_Y_114 : bn_PY 114 := ⟨List.mem_of_getElem? (i := 733) rfl, List.mem_of_getElem? (i := 42) rfl, rfl, by decide +kernel, by decide⟩
set_option maxRecDepth 100000 in
theorem bn_Y_115 : bn_PY 115 := ⟨List.mem_of_getElem? (i := 736) rfl, List.mem_of_getElem? (i := 42) rfl, rfl, by decide +kernel, by decide⟩
set_option maxRecDepth 100000 in
theorem bn_Y_116 : bn_PY 116 := ⟨List.mem_of_getElem? (i := 744) rfl, List.mem_of_getElem? (i := 42) rfl, rfl, by decide +kernel, by decide⟩
set_option maxRecDepth 100000 in
theorem bn_Y_117 : bn_PY 117 := ⟨List.mem_of_getElem? (i := 729) rfl, List.mem_of_getElem? (i := 42) rfl, rfl, by decide +kernel, by decide⟩
set_option maxRecDepth 100000 in
theorem bn_Y_118 : bn_PY 118 := ⟨List.mem_of_getElem? (i := 740) rfl, List.mem_of_getElem? (i := 42) rfl, rfl, by decide +kernel, by decide⟩
set_option maxRecDepth 100000 in
theorem bn_Y_119 : bn_PY 119 := ⟨List.mem_of_getElem? (i := 752) rfl, List.mem_of_getElem? (i := 42) rfl, rfl, by decide +kernel, by decide⟩
set_option maxRecDepth 100000 in
theorem bn_Y_120 : bn_PY 120 := ⟨List.mem_of_getElem? (i := 756) rfl, List.mem_of_getElem? (i := 42) rfl, rfl, by decide +kernel, by decide⟩
set_option maxRecDepth 100000 in
theorem bn_Y_121 : bn_PY 121 := ⟨List.mem_of_getElem? (i := 748) rfl, List.mem_of_getElem? (i := 42) rfl, rfl, by decide +kernel, by decide⟩
set_option maxRecDepth 100000 in
theorem bn_Y_122 : bn_PY 122 := ⟨List.mem_of_getElem? (i := 765) rfl, List.mem_of_getElem? (i := 42) rfl, rfl, by decide +kernel, by decide⟩
set_option maxRecDepth 100000 in
theorem bn_Y_123 : bn_PY 123 := ⟨List.mem_of_getElem? (i := 760) rfl, List.mem_of_getElem? (i := 42) rfl, rfl, by decide +kernel, by decide⟩
set_option maxRecDepth 100000 in
theorem bn_Y_124 : bn_PY 124 := ⟨List.mem_of_getElem? (i := 774) rfl, List.mem_of_getElem? (i := 42) rfl, rfl, by decide +kernel, by decide⟩
set_option maxRecDepth 100000 in
theorem bn_Y_125 : bn_PY 125 := ⟨List.mem_of_getElem? (i := 769) rfl, List.mem_of_getElem? (i := 42) rfl, rfl, by decide +kernel, by decide⟩
set_option maxRecDepth 100000 in
theorem bn_Y_126 : bn_PY 126 := ⟨List.mem_of_getElem? (i := 778) rfl, List.mem_of_getElem? (i := 42) rfl, rfl, by decide +kernel, by decide⟩
set_option maxRecDepth 100000 in
theorem bn_Y_127 : bn_PY 127 := ⟨List.mem_of_getElem? (i := 782) rfl, List.mem_of_getElem? (i := 42) rfl, rfl, by decide +kernel, by decide⟩
set_option maxRecDepth 100000 in
theorem bn_Y_128 : bn_PY 128 := ⟨List.mem_of_getElem? (i := 786) rfl, List.mem_of_getElem? (i := 42) rfl, rfl, by decide +kernel, by decide⟩
set_option maxRecDepth 100000 in
theorem bn_Y_129 : bn_PY 129 := ⟨List.mem_of_getElem? (i := 357) rfl, List.mem_of_getElem? (i := 45) rfl, rfl, by decide +kernel, by decide⟩
def bn_PM (r : Nat × Nat × Nat × Nat × Nat) : Prop := match r with
  | (c, idx, 0, j, _) => bn_PY j ∧ Cond.methodLink (bn_cn c) idx (bn_y j) ∈ lw_tbl ∧ Cond.instanceMethod (bn_y j) ∈ lw_tbl ∧ Cond.selects (bn_y j).cls (bn_y j) (bn_y j) ∈ lw_tbl ∧ bn_c j < 4
  | (c, idx, 1, j, _) => bn_PY j ∧ Cond.methodLink (bn_cn c) idx (bn_y j) ∈ lw_tbl ∧ Cond.static (bn_y j) ∈ lw_tbl
  | (c, idx, 2, j, _) => bn_PY j ∧ Cond.methodLink (bn_cn c) idx (bn_y j) ∈ lw_tbl ∧ Cond.instanceMethod (bn_y j) ∈ lw_tbl ∧ (bn_y j).name = "<init>" ∧ bn_r j = none
  | (c, idx, 3, j, _) => bn_PY j ∧ (bn_cn c, idx, bn_y j) ∈ bn_NL ∧ Cond.instanceMethod (bn_y j) ∈ lw_tbl ∧ (bn_y j).name = "<init>" ∧ bn_r j = none
  | (c, idx, 4, _, _) => Cond.methodLink (bn_cn c) idx Lib.objectInit ∈ lw_tbl
  | (c, idx, 5, _, _) => Cond.methodLink (bn_cn c) idx arraycopyName ∈ lw_tbl
  | (c, idx, 6, _, _) => Cond.methodLink (bn_cn c) idx Lib.Math.max.name ∈ lw_tbl
  | (c, idx, 7, _, _) => Cond.methodLink (bn_cn c) idx Lib.Math.min.name ∈ lw_tbl
  | _ => False
set_option maxRecDepth 100000 in
theorem bn_M_0 : bn_PM (4, 9, 2, 45, 48) := ⟨bn_Y_45, List.mem_of_getElem? (i := 48) rfl, List.mem_of_getElem? (i := 49) rfl, rfl, rfl⟩
set_option maxRecDepth 100000 in
theorem bn_M_1 : bn_PM (2, 3, 4, 0, 51) := List.mem_of_getElem? (i := 51) rfl
set_option maxRecDepth 100000 in
theorem bn_M_2 : bn_PM (2, 11, 3, 32, 56) := ⟨bn_Y_32, List.mem_of_getElem? (i := 0) rfl, List.mem_of_getElem? (i := 57) rfl, rfl, rfl⟩
set_option maxRecDepth 100000 in
theorem bn_M_3 : bn_PM (1, 3, 4, 0, 59) := List.mem_of_getElem? (i := 59) rfl
set_option maxRecDepth 100000 in
theorem bn_M_4 : bn_PM (2, 18, 3, 0, 74) := ⟨bn_Y_0, List.mem_of_getElem? (i := 1) rfl, List.mem_of_getElem? (i := 75) rfl, rfl, rfl⟩
set_option maxRecDepth 100000 in
theorem bn_M_5 : bn_PM (0, 3, 4, 0, 77) := List.mem_of_getElem? (i := 77) rfl
set_option maxRecDepth 100000 in
theorem bn_M_6 : bn_PM (4, 15, 0, 46, 167) := ⟨bn_Y_46, List.mem_of_getElem? (i := 167) rfl, List.mem_of_getElem? (i := 168) rfl, List.mem_of_getElem? (i := 169) rfl, by decide⟩
set_option maxRecDepth 100000 in
theorem bn_M_7 : bn_PM (2, 47, 0, 33, 171) := ⟨bn_Y_33, List.mem_of_getElem? (i := 171) rfl, List.mem_of_getElem? (i := 172) rfl, List.mem_of_getElem? (i := 173) rfl, by decide⟩
set_option maxRecDepth 100000 in
theorem bn_M_8 : bn_PM (4, 20, 0, 47, 175) := ⟨bn_Y_47, List.mem_of_getElem? (i := 175) rfl, List.mem_of_getElem? (i := 176) rfl, List.mem_of_getElem? (i := 177) rfl, by decide⟩
set_option maxRecDepth 100000 in
theorem bn_M_9 : bn_PM (4, 25, 0, 48, 179) := ⟨bn_Y_48, List.mem_of_getElem? (i := 179) rfl, List.mem_of_getElem? (i := 180) rfl, List.mem_of_getElem? (i := 181) rfl, by decide⟩
set_option maxRecDepth 100000 in
theorem bn_M_10 : bn_PM (2, 51, 0, 34, 183) := ⟨bn_Y_34, List.mem_of_getElem? (i := 183) rfl, List.mem_of_getElem? (i := 184) rfl, List.mem_of_getElem? (i := 185) rfl, by decide⟩
set_option maxRecDepth 100000 in
theorem bn_M_11 : bn_PM (1, 22, 0, 35, 187) := ⟨bn_Y_35, List.mem_of_getElem? (i := 187) rfl, List.mem_of_getElem? (i := 189) rfl, List.mem_of_getElem? (i := 0) rfl, by decide⟩
set_option maxRecDepth 100000 in
theorem bn_M_12 : bn_PM (1, 36, 0, 41, 191) := ⟨bn_Y_41, List.mem_of_getElem? (i := 191) rfl, List.mem_of_getElem? (i := 193) rfl, List.mem_of_getElem? (i := 1) rfl, by decide⟩
set_option maxRecDepth 100000 in
theorem bn_M_13 : bn_PM (1, 26, 0, 42, 195) := ⟨bn_Y_42, List.mem_of_getElem? (i := 195) rfl, List.mem_of_getElem? (i := 197) rfl, List.mem_of_getElem? (i := 2) rfl, by decide⟩
set_option maxRecDepth 100000 in
theorem bn_M_14 : bn_PM (1, 39, 0, 43, 199) := ⟨bn_Y_43, List.mem_of_getElem? (i := 199) rfl, List.mem_of_getElem? (i := 201) rfl, List.mem_of_getElem? (i := 3) rfl, by decide⟩
set_option maxRecDepth 100000 in
theorem bn_M_15 : bn_PM (1, 69, 0, 44, 203) := ⟨bn_Y_44, List.mem_of_getElem? (i := 203) rfl, List.mem_of_getElem? (i := 205) rfl, List.mem_of_getElem? (i := 4) rfl, by decide⟩
set_option maxRecDepth 100000 in
theorem bn_M_16 : bn_PM (1, 43, 0, 1, 207) := ⟨bn_Y_1, List.mem_of_getElem? (i := 207) rfl, List.mem_of_getElem? (i := 208) rfl, List.mem_of_getElem? (i := 209) rfl, by decide⟩
set_option maxRecDepth 100000 in
theorem bn_M_17 : bn_PM (1, 30, 0, 36, 211) := ⟨bn_Y_36, List.mem_of_getElem? (i := 211) rfl, List.mem_of_getElem? (i := 213) rfl, List.mem_of_getElem? (i := 5) rfl, by decide⟩
set_option maxRecDepth 100000 in
theorem bn_M_18 : bn_PM (1, 55, 0, 2, 215) := ⟨bn_Y_2, List.mem_of_getElem? (i := 215) rfl, List.mem_of_getElem? (i := 216) rfl, List.mem_of_getElem? (i := 217) rfl, by decide⟩
set_option maxRecDepth 100000 in
theorem bn_M_19 : bn_PM (1, 33, 0, 37, 219) := ⟨bn_Y_37, List.mem_of_getElem? (i := 219) rfl, List.mem_of_getElem? (i := 221) rfl, List.mem_of_getElem? (i := 6) rfl, by decide⟩
set_option maxRecDepth 100000 in
theorem bn_M_20 : bn_PM (1, 62, 0, 38, 223) := ⟨bn_Y_38, List.mem_of_getElem? (i := 223) rfl, List.mem_of_getElem? (i := 225) rfl, List.mem_of_getElem? (i := 7) rfl, by decide⟩
set_option maxRecDepth 100000 in
theorem bn_M_21 : bn_PM (1, 73, 1, 39, 227) := ⟨bn_Y_39, List.mem_of_getElem? (i := 227) rfl, List.mem_of_getElem? (i := 228) rfl⟩
set_option maxRecDepth 100000 in
theorem bn_M_22 : bn_PM (1, 77, 1, 40, 230) := ⟨bn_Y_40, List.mem_of_getElem? (i := 230) rfl, List.mem_of_getElem? (i := 231) rfl⟩
set_option maxRecDepth 100000 in
theorem bn_M_23 : bn_PM (1, 80, 0, 19, 233) := ⟨bn_Y_19, List.mem_of_getElem? (i := 233) rfl, List.mem_of_getElem? (i := 234) rfl, List.mem_of_getElem? (i := 235) rfl, by decide⟩
set_option maxRecDepth 100000 in
theorem bn_M_24 : bn_PM (1, 66, 0, 3, 237) := ⟨bn_Y_3, List.mem_of_getElem? (i := 237) rfl, List.mem_of_getElem? (i := 238) rfl, List.mem_of_getElem? (i := 239) rfl, by decide⟩
set_option maxRecDepth 100000 in
theorem bn_M_25 : bn_PM (4, 29, 0, 49, 241) := ⟨bn_Y_49, List.mem_of_getElem? (i := 241) rfl, List.mem_of_getElem? (i := 242) rfl, List.mem_of_getElem? (i := 243) rfl, by decide⟩
set_option maxRecDepth 100000 in
theorem bn_M_26 : bn_PM (2, 59, 0, 4, 245) := ⟨bn_Y_4, List.mem_of_getElem? (i := 245) rfl, List.mem_of_getElem? (i := 246) rfl, List.mem_of_getElem? (i := 247) rfl, by decide⟩
set_option maxRecDepth 100000 in
theorem bn_M_27 : bn_PM (0, 60, 5, 0, 249) := List.mem_of_getElem? (i := 249) rfl
set_option maxRecDepth 100000 in
theorem bn_M_28 : bn_PM (2, 63, 0, 70, 252) := ⟨bn_Y_70, List.mem_of_getElem? (i := 252) rfl, List.mem_of_getElem? (i := 254) rfl, List.mem_of_getElem? (i := 8) rfl, by decide⟩
set_option maxRecDepth 100000 in
theorem bn_M_29 : bn_PM (4, 33, 0, 50, 256) := ⟨bn_Y_50, List.mem_of_getElem? (i := 256) rfl, List.mem_of_getElem? (i := 257) rfl, List.mem_of_getElem? (i := 258) rfl, by decide⟩
set_option maxRecDepth 100000 in
theorem bn_M_30 : bn_PM (2, 72, 0, 5, 260) := ⟨bn_Y_5, List.mem_of_getElem? (i := 260) rfl, List.mem_of_getElem? (i := 261) rfl, List.mem_of_getElem? (i := 262) rfl, by decide⟩
set_option maxRecDepth 100000 in
theorem bn_M_31 : bn_PM (2, 80, 0, 7, 264) := ⟨bn_Y_7, List.mem_of_getElem? (i := 264) rfl, List.mem_of_getElem? (i := 265) rfl, List.mem_of_getElem? (i := 266) rfl, by decide⟩
set_option maxRecDepth 100000 in
theorem bn_M_32 : bn_PM (2, 86, 0, 13, 268) := ⟨bn_Y_13, List.mem_of_getElem? (i := 268) rfl, List.mem_of_getElem? (i := 269) rfl, List.mem_of_getElem? (i := 270) rfl, by decide⟩
set_option maxRecDepth 100000 in
theorem bn_M_33 : bn_PM (4, 38, 0, 51, 272) := ⟨bn_Y_51, List.mem_of_getElem? (i := 272) rfl, List.mem_of_getElem? (i := 273) rfl, List.mem_of_getElem? (i := 274) rfl, by decide⟩
set_option maxRecDepth 100000 in
theorem bn_M_34 : bn_PM (2, 93, 0, 6, 276) := ⟨bn_Y_6, List.mem_of_getElem? (i := 276) rfl, List.mem_of_getElem? (i := 277) rfl, List.mem_of_getElem? (i := 278) rfl, by decide⟩
set_option maxRecDepth 100000 in
theorem bn_M_35 : bn_PM (2, 105, 0, 8, 280) := ⟨bn_Y_8, List.mem_of_getElem? (i := 280) rfl, List.mem_of_getElem? (i := 281) rfl, List.mem_of_getElem? (i := 282) rfl, by decide⟩
set_option maxRecDepth 100000 in
theorem bn_M_36 : bn_PM (4, 42, 0, 52, 284) := ⟨bn_Y_52, List.mem_of_getElem? (i := 284) rfl, List.mem_of_getElem? (i := 285) rfl, List.mem_of_getElem? (i := 286) rfl, by decide⟩
set_option maxRecDepth 100000 in
theorem bn_M_37 : bn_PM (2, 114, 0, 22, 288) := ⟨bn_Y_22, List.mem_of_getElem? (i := 288) rfl, List.mem_of_getElem? (i := 289) rfl, List.mem_of_getElem? (i := 290) rfl, by decide⟩
set_option maxRecDepth 100000 in
theorem bn_M_38 : bn_PM (0, 66, 0, 7, 292) := ⟨bn_Y_7, List.mem_of_getElem? (i := 292) rfl, List.mem_of_getElem? (i := 265) rfl, List.mem_of_getElem? (i := 266) rfl, by decide⟩
set_option maxRecDepth 100000 in
theorem bn_M_39 : bn_PM (0, 87, 0, 8, 293) := ⟨bn_Y_8, List.mem_of_getElem? (i := 293) rfl, List.mem_of_getElem? (i := 281) rfl, List.mem_of_getElem? (i := 282) rfl, by decide⟩
set_option maxRecDepth 100000 in
theorem bn_M_40 : bn_PM (0, 102, 0, 23, 294) := ⟨bn_Y_23, List.mem_of_getElem? (i := 294) rfl, List.mem_of_getElem? (i := 296) rfl, List.mem_of_getElem? (i := 9) rfl, by decide⟩
set_option maxRecDepth 100000 in
theorem bn_M_41 : bn_PM (0, 80, 0, 9, 298) := ⟨bn_Y_9, List.mem_of_getElem? (i := 298) rfl, List.mem_of_getElem? (i := 299) rfl, List.mem_of_getElem? (i := 300) rfl, by decide⟩
set_option maxRecDepth 100000 in
theorem bn_M_42 : bn_PM (4, 46, 0, 53, 302) := ⟨bn_Y_53, List.mem_of_getElem? (i := 302) rfl, List.mem_of_getElem? (i := 303) rfl, List.mem_of_getElem? (i := 304) rfl, by decide⟩
set_option maxRecDepth 100000 in
theorem bn_M_43 : bn_PM (2, 118, 0, 69, 306) := ⟨bn_Y_69, List.mem_of_getElem? (i := 306) rfl, List.mem_of_getElem? (i := 308) rfl, List.mem_of_getElem? (i := 10) rfl, by decide⟩
set_option maxRecDepth 100000 in
theorem bn_M_44 : bn_PM (2, 121, 0, 24, 310) := ⟨bn_Y_24, List.mem_of_getElem? (i := 310) rfl, List.mem_of_getElem? (i := 311) rfl, List.mem_of_getElem? (i := 312) rfl, by decide⟩
set_option maxRecDepth 100000 in
theorem bn_M_45 : bn_PM (4, 50, 0, 54, 314) := ⟨bn_Y_54, List.mem_of_getElem? (i := 314) rfl, List.mem_of_getElem? (i := 315) rfl, List.mem_of_getElem? (i := 316) rfl, by decide⟩
set_option maxRecDepth 100000 in
theorem bn_M_46 : bn_PM (4, 54, 0, 55, 318) := ⟨bn_Y_55, List.mem_of_getElem? (i := 318) rfl, List.mem_of_getElem? (i := 319) rfl, List.mem_of_getElem? (i := 320) rfl, by decide⟩
set_option maxRecDepth 100000 in
theorem bn_M_47 : bn_PM (2, 125, 1, 72, 322) := ⟨bn_Y_72, List.mem_of_getElem? (i := 322) rfl, List.mem_of_getElem? (i := 323) rfl⟩
set_option maxRecDepth 100000 in
theorem bn_M_48 : bn_PM (2, 128, 1, 73, 325) := ⟨bn_Y_73, List.mem_of_getElem? (i := 325) rfl, List.mem_of_getElem? (i := 326) rfl⟩
set_option maxRecDepth 100000 in
theorem bn_M_49 : bn_PM (4, 59, 0, 56, 328) := ⟨bn_Y_56, List.mem_of_getElem? (i := 328) rfl, List.mem_of_getElem? (i := 329) rfl, List.mem_of_getElem? (i := 330) rfl, by decide⟩
set_option maxRecDepth 100000 in
theorem bn_M_50 : bn_PM (2, 131, 0, 25, 332) := ⟨bn_Y_25, List.mem_of_getElem? (i := 332) rfl, List.mem_of_getElem? (i := 333) rfl, List.mem_of_getElem? (i := 334) rfl, by decide⟩
set_option maxRecDepth 100000 in
theorem bn_M_51 : bn_PM (0, 105, 0, 26, 336) := ⟨bn_Y_26, List.mem_of_getElem? (i := 336) rfl, List.mem_of_getElem? (i := 338) rfl, List.mem_of_getElem? (i := 11) rfl, by decide⟩
set_option maxRecDepth 100000 in
theorem bn_M_52 : bn_PM (0, 109, 7, 0, 340) := List.mem_of_getElem? (i := 340) rfl
set_option maxRecDepth 100000 in
theorem bn_M_53 : bn_PM (4, 63, 0, 57, 343) := ⟨bn_Y_57, List.mem_of_getElem? (i := 343) rfl, List.mem_of_getElem? (i := 344) rfl, List.mem_of_getElem? (i := 345) rfl, by decide⟩
set_option maxRecDepth 100000 in
theorem bn_M_54 : bn_PM (2, 135, 0, 11, 347) := ⟨bn_Y_11, List.mem_of_getElem? (i := 347) rfl, List.mem_of_getElem? (i := 348) rfl, List.mem_of_getElem? (i := 349) rfl, by decide⟩
set_option maxRecDepth 100000 in
theorem bn_M_55 : bn_PM (0, 70, 0, 10, 351) := ⟨bn_Y_10, List.mem_of_getElem? (i := 351) rfl, List.mem_of_getElem? (i := 352) rfl, List.mem_of_getElem? (i := 353) rfl, by decide⟩
set_option maxRecDepth 100000 in
theorem bn_M_56 : bn_PM (0, 74, 1, 129, 355) := ⟨bn_Y_129, List.mem_of_getElem? (i := 355) rfl, List.mem_of_getElem? (i := 356) rfl⟩
set_option maxRecDepth 100000 in
theorem bn_M_57 : bn_PM (2, 142, 0, 12, 363) := ⟨bn_Y_12, List.mem_of_getElem? (i := 363) rfl, List.mem_of_getElem? (i := 364) rfl, List.mem_of_getElem? (i := 365) rfl, by decide⟩
set_option maxRecDepth 100000 in
theorem bn_M_58 : bn_PM (2, 145, 0, 15, 367) := ⟨bn_Y_15, List.mem_of_getElem? (i := 367) rfl, List.mem_of_getElem? (i := 368) rfl, List.mem_of_getElem? (i := 369) rfl, by decide⟩
set_option maxRecDepth 100000 in
theorem bn_M_59 : bn_PM (0, 83, 0, 14, 371) := ⟨bn_Y_14, List.mem_of_getElem? (i := 371) rfl, List.mem_of_getElem? (i := 372) rfl, List.mem_of_getElem? (i := 373) rfl, by decide⟩
set_option maxRecDepth 100000 in
theorem bn_M_60 : bn_PM (2, 148, 0, 16, 375) := ⟨bn_Y_16, List.mem_of_getElem? (i := 375) rfl, List.mem_of_getElem? (i := 376) rfl, List.mem_of_getElem? (i := 377) rfl, by decide⟩
set_option maxRecDepth 100000 in
theorem bn_M_61 : bn_PM (4, 67, 0, 58, 379) := ⟨bn_Y_58, List.mem_of_getElem? (i := 379) rfl, List.mem_of_getElem? (i := 380) rfl, List.mem_of_getElem? (i := 381) rfl, by decide⟩
set_option maxRecDepth 100000 in
theorem bn_M_62 : bn_PM (4, 71, 0, 59, 383) := ⟨bn_Y_59, List.mem_of_getElem? (i := 383) rfl, List.mem_of_getElem? (i := 384) rfl, List.mem_of_getElem? (i := 385) rfl, by decide⟩
set_option maxRecDepth 100000 in
theorem bn_M_63 : bn_PM (4, 76, 0, 60, 387) := ⟨bn_Y_60, List.mem_of_getElem? (i := 387) rfl, List.mem_of_getElem? (i := 388) rfl, List.mem_of_getElem? (i := 389) rfl, by decide⟩
set_option maxRecDepth 100000 in
theorem bn_M_64 : bn_PM (2, 152, 0, 71, 391) := ⟨bn_Y_71, List.mem_of_getElem? (i := 391) rfl, List.mem_of_getElem? (i := 393) rfl, List.mem_of_getElem? (i := 12) rfl, by decide⟩
set_option maxRecDepth 100000 in
theorem bn_M_65 : bn_PM (2, 192, 0, 27, 395) := ⟨bn_Y_27, List.mem_of_getElem? (i := 395) rfl, List.mem_of_getElem? (i := 396) rfl, List.mem_of_getElem? (i := 397) rfl, by decide⟩
set_option maxRecDepth 100000 in
theorem bn_M_66 : bn_PM (0, 112, 0, 28, 399) := ⟨bn_Y_28, List.mem_of_getElem? (i := 399) rfl, List.mem_of_getElem? (i := 401) rfl, List.mem_of_getElem? (i := 13) rfl, by decide⟩
set_option maxRecDepth 100000 in
theorem bn_M_67 : bn_PM (0, 119, 0, 22, 403) := ⟨bn_Y_22, List.mem_of_getElem? (i := 403) rfl, List.mem_of_getElem? (i := 289) rfl, List.mem_of_getElem? (i := 290) rfl, by decide⟩
set_option maxRecDepth 100000 in
theorem bn_M_68 : bn_PM (0, 115, 0, 24, 404) := ⟨bn_Y_24, List.mem_of_getElem? (i := 404) rfl, List.mem_of_getElem? (i := 311) rfl, List.mem_of_getElem? (i := 312) rfl, by decide⟩
set_option maxRecDepth 100000 in
theorem bn_M_69 : bn_PM (4, 80, 0, 61, 405) := ⟨bn_Y_61, List.mem_of_getElem? (i := 405) rfl, List.mem_of_getElem? (i := 406) rfl, List.mem_of_getElem? (i := 407) rfl, by decide⟩
set_option maxRecDepth 100000 in
theorem bn_M_70 : bn_PM (4, 84, 0, 62, 409) := ⟨bn_Y_62, List.mem_of_getElem? (i := 409) rfl, List.mem_of_getElem? (i := 410) rfl, List.mem_of_getElem? (i := 411) rfl, by decide⟩
set_option maxRecDepth 100000 in
theorem bn_M_71 : bn_PM (2, 155, 0, 29, 413) := ⟨bn_Y_29, List.mem_of_getElem? (i := 413) rfl, List.mem_of_getElem? (i := 414) rfl, List.mem_of_getElem? (i := 415) rfl, by decide⟩
set_option maxRecDepth 100000 in
theorem bn_M_72 : bn_PM (0, 90, 6, 0, 417) := List.mem_of_getElem? (i := 417) rfl
set_option maxRecDepth 100000 in
theorem bn_M_73 : bn_PM (0, 122, 0, 30, 420) := ⟨bn_Y_30, List.mem_of_getElem? (i := 420) rfl, List.mem_of_getElem? (i := 422) rfl, List.mem_of_getElem? (i := 14) rfl, by decide⟩
set_option maxRecDepth 100000 in
theorem bn_M_74 : bn_PM (0, 125, 0, 31, 424) := ⟨bn_Y_31, List.mem_of_getElem? (i := 424) rfl, List.mem_of_getElem? (i := 426) rfl, List.mem_of_getElem? (i := 15) rfl, by decide⟩
set_option maxRecDepth 100000 in
theorem bn_M_75 : bn_PM (4, 88, 0, 63, 428) := ⟨bn_Y_63, List.mem_of_getElem? (i := 428) rfl, List.mem_of_getElem? (i := 429) rfl, List.mem_of_getElem? (i := 430) rfl, by decide⟩
set_option maxRecDepth 100000 in
theorem bn_M_76 : bn_PM (2, 158, 0, 20, 432) := ⟨bn_Y_20, List.mem_of_getElem? (i := 432) rfl, List.mem_of_getElem? (i := 433) rfl, List.mem_of_getElem? (i := 434) rfl, by decide⟩
set_option maxRecDepth 100000 in
theorem bn_M_77 : bn_PM (2, 161, 0, 19, 436) := ⟨bn_Y_19, List.mem_of_getElem? (i := 436) rfl, List.mem_of_getElem? (i := 234) rfl, List.mem_of_getElem? (i := 235) rfl, by decide⟩
set_option maxRecDepth 100000 in
theorem bn_M_78 : bn_PM (4, 92, 0, 64, 437) := ⟨bn_Y_64, List.mem_of_getElem? (i := 437) rfl, List.mem_of_getElem? (i := 438) rfl, List.mem_of_getElem? (i := 439) rfl, by decide⟩
set_option maxRecDepth 100000 in
theorem bn_M_79 : bn_PM (2, 164, 1, 74, 441) := ⟨bn_Y_74, List.mem_of_getElem? (i := 441) rfl, List.mem_of_getElem? (i := 442) rfl⟩
set_option maxRecDepth 100000 in
theorem bn_M_80 : bn_PM (2, 195, 1, 75, 444) := ⟨bn_Y_75, List.mem_of_getElem? (i := 444) rfl, List.mem_of_getElem? (i := 445) rfl⟩
set_option maxRecDepth 100000 in
theorem bn_M_81 : bn_PM (4, 97, 0, 65, 448) := ⟨bn_Y_65, List.mem_of_getElem? (i := 448) rfl, List.mem_of_getElem? (i := 449) rfl, List.mem_of_getElem? (i := 450) rfl, by decide⟩
set_option maxRecDepth 100000 in
theorem bn_M_82 : bn_PM (4, 102, 0, 66, 455) := ⟨bn_Y_66, List.mem_of_getElem? (i := 455) rfl, List.mem_of_getElem? (i := 456) rfl, List.mem_of_getElem? (i := 457) rfl, by decide⟩
set_option maxRecDepth 100000 in
theorem bn_M_83 : bn_PM (4, 106, 0, 67, 459) := ⟨bn_Y_67, List.mem_of_getElem? (i := 459) rfl, List.mem_of_getElem? (i := 460) rfl, List.mem_of_getElem? (i := 461) rfl, by decide⟩
set_option maxRecDepth 100000 in
theorem bn_M_84 : bn_PM (4, 110, 0, 68, 463) := ⟨bn_Y_68, List.mem_of_getElem? (i := 463) rfl, List.mem_of_getElem? (i := 464) rfl, List.mem_of_getElem? (i := 465) rfl, by decide⟩
set_option maxRecDepth 100000 in
theorem bn_M_85 : bn_PM (2, 177, 0, 10, 467) := ⟨bn_Y_10, List.mem_of_getElem? (i := 467) rfl, List.mem_of_getElem? (i := 352) rfl, List.mem_of_getElem? (i := 353) rfl, by decide⟩
set_option maxRecDepth 100000 in
theorem bn_M_86 : bn_PM (2, 180, 0, 17, 468) := ⟨bn_Y_17, List.mem_of_getElem? (i := 468) rfl, List.mem_of_getElem? (i := 469) rfl, List.mem_of_getElem? (i := 470) rfl, by decide⟩
set_option maxRecDepth 100000 in
theorem bn_M_87 : bn_PM (2, 183, 0, 18, 472) := ⟨bn_Y_18, List.mem_of_getElem? (i := 472) rfl, List.mem_of_getElem? (i := 473) rfl, List.mem_of_getElem? (i := 474) rfl, by decide⟩
set_option maxRecDepth 100000 in
theorem bn_M_88 : bn_PM (2, 186, 0, 21, 476) := ⟨bn_Y_21, List.mem_of_getElem? (i := 476) rfl, List.mem_of_getElem? (i := 477) rfl, List.mem_of_getElem? (i := 478) rfl, by decide⟩
set_option maxRecDepth 100000 in
theorem bn_M_89 : bn_PM (0, 96, 0, 20, 480) := ⟨bn_Y_20, List.mem_of_getElem? (i := 480) rfl, List.mem_of_getElem? (i := 433) rfl, List.mem_of_getElem? (i := 434) rfl, by decide⟩
set_option maxRecDepth 100000 in
theorem bn_M_90 : bn_PM (0, 99, 0, 19, 481) := ⟨bn_Y_19, List.mem_of_getElem? (i := 481) rfl, List.mem_of_getElem? (i := 234) rfl, List.mem_of_getElem? (i := 235) rfl, by decide⟩
set_option maxRecDepth 100000 in
theorem bn_M_91 : bn_PM (4, 12, 2, 76, 484) := ⟨bn_Y_76, List.mem_of_getElem? (i := 484) rfl, List.mem_of_getElem? (i := 485) rfl, rfl, rfl⟩
set_option maxRecDepth 100000 in
theorem bn_M_92 : bn_PM (3, 1, 4, 0, 487) := List.mem_of_getElem? (i := 487) rfl
set_option maxRecDepth 100000 in
theorem bn_M_93 : bn_PM (4, 19, 0, 78, 577) := ⟨bn_Y_78, List.mem_of_getElem? (i := 577) rfl, List.mem_of_getElem? (i := 578) rfl, List.mem_of_getElem? (i := 579) rfl, by decide⟩
set_option maxRecDepth 100000 in
theorem bn_M_94 : bn_PM (3, 57, 1, 77, 582) := ⟨bn_Y_77, List.mem_of_getElem? (i := 582) rfl, List.mem_of_getElem? (i := 583) rfl⟩
set_option maxRecDepth 100000 in
theorem bn_M_95 : bn_PM (4, 24, 0, 79, 586) := ⟨bn_Y_79, List.mem_of_getElem? (i := 586) rfl, List.mem_of_getElem? (i := 587) rfl, List.mem_of_getElem? (i := 588) rfl, by decide⟩
set_option maxRecDepth 100000 in
theorem bn_M_96 : bn_PM (4, 28, 0, 84, 590) := ⟨bn_Y_84, List.mem_of_getElem? (i := 590) rfl, List.mem_of_getElem? (i := 591) rfl, List.mem_of_getElem? (i := 592) rfl, by decide⟩
set_option maxRecDepth 100000 in
theorem bn_M_97 : bn_PM (3, 99, 0, 82, 594) := ⟨bn_Y_82, List.mem_of_getElem? (i := 594) rfl, List.mem_of_getElem? (i := 596) rfl, List.mem_of_getElem? (i := 16) rfl, by decide⟩
set_option maxRecDepth 100000 in
theorem bn_M_98 : bn_PM (3, 80, 0, 80, 598) := ⟨bn_Y_80, List.mem_of_getElem? (i := 598) rfl, List.mem_of_getElem? (i := 600) rfl, List.mem_of_getElem? (i := 17) rfl, by decide⟩
set_option maxRecDepth 100000 in
theorem bn_M_99 : bn_PM (3, 93, 0, 83, 603) := ⟨bn_Y_83, List.mem_of_getElem? (i := 603) rfl, List.mem_of_getElem? (i := 605) rfl, List.mem_of_getElem? (i := 18) rfl, by decide⟩
set_option maxRecDepth 100000 in
theorem bn_M_100 : bn_PM (3, 96, 0, 81, 607) := ⟨bn_Y_81, List.mem_of_getElem? (i := 607) rfl, List.mem_of_getElem? (i := 609) rfl, List.mem_of_getElem? (i := 19) rfl, by decide⟩
set_option maxRecDepth 100000 in
theorem bn_M_101 : bn_PM (4, 32, 0, 85, 611) := ⟨bn_Y_85, List.mem_of_getElem? (i := 611) rfl, List.mem_of_getElem? (i := 612) rfl, List.mem_of_getElem? (i := 613) rfl, by decide⟩
set_option maxRecDepth 100000 in
theorem bn_M_102 : bn_PM (4, 37, 0, 92, 615) := ⟨bn_Y_92, List.mem_of_getElem? (i := 615) rfl, List.mem_of_getElem? (i := 616) rfl, List.mem_of_getElem? (i := 617) rfl, by decide⟩
set_option maxRecDepth 100000 in
theorem bn_M_103 : bn_PM (3, 118, 0, 86, 619) := ⟨bn_Y_86, List.mem_of_getElem? (i := 619) rfl, List.mem_of_getElem? (i := 621) rfl, List.mem_of_getElem? (i := 20) rfl, by decide⟩
set_option maxRecDepth 100000 in
theorem bn_M_104 : bn_PM (3, 122, 0, 91, 623) := ⟨bn_Y_91, List.mem_of_getElem? (i := 623) rfl, List.mem_of_getElem? (i := 625) rfl, List.mem_of_getElem? (i := 21) rfl, by decide⟩
set_option maxRecDepth 100000 in
theorem bn_M_105 : bn_PM (3, 115, 0, 89, 627) := ⟨bn_Y_89, List.mem_of_getElem? (i := 627) rfl, List.mem_of_getElem? (i := 629) rfl, List.mem_of_getElem? (i := 22) rfl, by decide⟩
set_option maxRecDepth 100000 in
theorem bn_M_106 : bn_PM (4, 41, 0, 93, 631) := ⟨bn_Y_93, List.mem_of_getElem? (i := 631) rfl, List.mem_of_getElem? (i := 632) rfl, List.mem_of_getElem? (i := 633) rfl, by decide⟩
set_option maxRecDepth 100000 in
theorem bn_M_107 : bn_PM (3, 125, 0, 87, 635) := ⟨bn_Y_87, List.mem_of_getElem? (i := 635) rfl, List.mem_of_getElem? (i := 637) rfl, List.mem_of_getElem? (i := 23) rfl, by decide⟩
set_option maxRecDepth 100000 in
theorem bn_M_108 : bn_PM (3, 128, 0, 90, 639) := ⟨bn_Y_90, List.mem_of_getElem? (i := 639) rfl, List.mem_of_getElem? (i := 641) rfl, List.mem_of_getElem? (i := 24) rfl, by decide⟩
set_option maxRecDepth 100000 in
theorem bn_M_109 : bn_PM (4, 45, 0, 96, 643) := ⟨bn_Y_96, List.mem_of_getElem? (i := 643) rfl, List.mem_of_getElem? (i := 644) rfl, List.mem_of_getElem? (i := 645) rfl, by decide⟩
set_option maxRecDepth 100000 in
theorem bn_M_110 : bn_PM (3, 141, 0, 95, 647) := ⟨bn_Y_95, List.mem_of_getElem? (i := 647) rfl, List.mem_of_getElem? (i := 649) rfl, List.mem_of_getElem? (i := 25) rfl, by decide⟩
set_option maxRecDepth 100000 in
theorem bn_M_111 : bn_PM (3, 138, 0, 88, 651) := ⟨bn_Y_88, List.mem_of_getElem? (i := 651) rfl, List.mem_of_getElem? (i := 653) rfl, List.mem_of_getElem? (i := 26) rfl, by decide⟩
set_option maxRecDepth 100000 in
theorem bn_M_112 : bn_PM (4, 49, 0, 98, 655) := ⟨bn_Y_98, List.mem_of_getElem? (i := 655) rfl, List.mem_of_getElem? (i := 656) rfl, List.mem_of_getElem? (i := 657) rfl, by decide⟩
set_option maxRecDepth 100000 in
theorem bn_M_113 : bn_PM (3, 145, 0, 94, 659) := ⟨bn_Y_94, List.mem_of_getElem? (i := 659) rfl, List.mem_of_getElem? (i := 661) rfl, List.mem_of_getElem? (i := 27) rfl, by decide⟩
set_option maxRecDepth 100000 in
theorem bn_M_114 : bn_PM (3, 148, 0, 97, 663) := ⟨bn_Y_97, List.mem_of_getElem? (i := 663) rfl, List.mem_of_getElem? (i := 665) rfl, List.mem_of_getElem? (i := 28) rfl, by decide⟩
set_option maxRecDepth 100000 in
theorem bn_M_115 : bn_PM (4, 53, 0, 99, 667) := ⟨bn_Y_99, List.mem_of_getElem? (i := 667) rfl, List.mem_of_getElem? (i := 668) rfl, List.mem_of_getElem? (i := 669) rfl, by decide⟩
set_option maxRecDepth 100000 in
theorem bn_M_116 : bn_PM (4, 58, 0, 101, 671) := ⟨bn_Y_101, List.mem_of_getElem? (i := 671) rfl, List.mem_of_getElem? (i := 672) rfl, List.mem_of_getElem? (i := 673) rfl, by decide⟩
set_option maxRecDepth 100000 in
theorem bn_M_117 : bn_PM (3, 152, 1, 100, 675) := ⟨bn_Y_100, List.mem_of_getElem? (i := 675) rfl, List.mem_of_getElem? (i := 676) rfl⟩
set_option maxRecDepth 100000 in
theorem bn_M_118 : bn_PM (4, 62, 0, 103, 678) := ⟨bn_Y_103, List.mem_of_getElem? (i := 678) rfl, List.mem_of_getElem? (i := 679) rfl, List.mem_of_getElem? (i := 680) rfl, by decide⟩
set_option maxRecDepth 100000 in
theorem bn_M_119 : bn_PM (3, 155, 0, 102, 682) := ⟨bn_Y_102, List.mem_of_getElem? (i := 682) rfl, List.mem_of_getElem? (i := 684) rfl, List.mem_of_getElem? (i := 29) rfl, by decide⟩
set_option maxRecDepth 100000 in
theorem bn_M_120 : bn_PM (4, 66, 0, 107, 686) := ⟨bn_Y_107, List.mem_of_getElem? (i := 686) rfl, List.mem_of_getElem? (i := 687) rfl, List.mem_of_getElem? (i := 688) rfl, by decide⟩
set_option maxRecDepth 100000 in
theorem bn_M_121 : bn_PM (3, 158, 0, 104, 690) := ⟨bn_Y_104, List.mem_of_getElem? (i := 690) rfl, List.mem_of_getElem? (i := 692) rfl, List.mem_of_getElem? (i := 30) rfl, by decide⟩
set_option maxRecDepth 100000 in
theorem bn_M_122 : bn_PM (3, 165, 1, 105, 696) := ⟨bn_Y_105, List.mem_of_getElem? (i := 696) rfl, List.mem_of_getElem? (i := 697) rfl⟩
set_option maxRecDepth 100000 in
theorem bn_M_123 : bn_PM (3, 168, 1, 106, 699) := ⟨bn_Y_106, List.mem_of_getElem? (i := 699) rfl, List.mem_of_getElem? (i := 700) rfl⟩
set_option maxRecDepth 100000 in
theorem bn_M_124 : bn_PM (4, 70, 0, 108, 702) := ⟨bn_Y_108, List.mem_of_getElem? (i := 702) rfl, List.mem_of_getElem? (i := 703) rfl, List.mem_of_getElem? (i := 704) rfl, by decide⟩
set_option maxRecDepth 100000 in
theorem bn_M_125 : bn_PM (4, 75, 0, 109, 706) := ⟨bn_Y_109, List.mem_of_getElem? (i := 706) rfl, List.mem_of_getElem? (i := 707) rfl, List.mem_of_getElem? (i := 708) rfl, by decide⟩
set_option maxRecDepth 100000 in
theorem bn_M_126 : bn_PM (4, 79, 0, 112, 710) := ⟨bn_Y_112, List.mem_of_getElem? (i := 710) rfl, List.mem_of_getElem? (i := 711) rfl, List.mem_of_getElem? (i := 712) rfl, by decide⟩
set_option maxRecDepth 100000 in
theorem bn_M_127 : bn_PM (3, 178, 0, 111, 714) := ⟨bn_Y_111, List.mem_of_getElem? (i := 714) rfl, List.mem_of_getElem? (i := 716) rfl, List.mem_of_getElem? (i := 31) rfl, by decide⟩
set_option maxRecDepth 100000 in
theorem bn_M_128 : bn_PM (3, 175, 0, 110, 718) := ⟨bn_Y_110, List.mem_of_getElem? (i := 718) rfl, List.mem_of_getElem? (i := 720) rfl, List.mem_of_getElem? (i := 32) rfl, by decide⟩
set_option maxRecDepth 100000 in
theorem bn_M_129 : bn_PM (4, 83, 0, 113, 722) := ⟨bn_Y_113, List.mem_of_getElem? (i := 722) rfl, List.mem_of_getElem? (i := 723) rfl, List.mem_of_getElem? (i := 724) rfl, by decide⟩
set_option maxRecDepth 100000 in
theorem bn_M_130 : bn_PM (4, 87, 0, 117, 726) := ⟨bn_Y_117, List.mem_of_getElem? (i := 726) rfl, List.mem_of_getElem? (i := 727) rfl, List.mem_of_getElem? (i := 728) rfl, by decide⟩
set_option maxRecDepth 100000 in
theorem bn_M_131 : bn_PM (3, 184, 0, 114, 730) := ⟨bn_Y_114, List.mem_of_getElem? (i := 730) rfl, List.mem_of_getElem? (i := 732) rfl, List.mem_of_getElem? (i := 33) rfl, by decide⟩
set_option maxRecDepth 100000 in
theorem bn_M_132 : bn_PM (3, 181, 1, 115, 734) := ⟨bn_Y_115, List.mem_of_getElem? (i := 734) rfl, List.mem_of_getElem? (i := 735) rfl⟩
set_option maxRecDepth 100000 in
theorem bn_M_133 : bn_PM (3, 187, 0, 118, 737) := ⟨bn_Y_118, List.mem_of_getElem? (i := 737) rfl, List.mem_of_getElem? (i := 739) rfl, List.mem_of_getElem? (i := 34) rfl, by decide⟩
set_option maxRecDepth 100000 in
theorem bn_M_134 : bn_PM (3, 191, 0, 116, 741) := ⟨bn_Y_116, List.mem_of_getElem? (i := 741) rfl, List.mem_of_getElem? (i := 743) rfl, List.mem_of_getElem? (i := 35) rfl, by decide⟩
set_option maxRecDepth 100000 in
theorem bn_M_135 : bn_PM (4, 91, 0, 121, 745) := ⟨bn_Y_121, List.mem_of_getElem? (i := 745) rfl, List.mem_of_getElem? (i := 746) rfl, List.mem_of_getElem? (i := 747) rfl, by decide⟩
set_option maxRecDepth 100000 in
theorem bn_M_136 : bn_PM (3, 195, 0, 119, 749) := ⟨bn_Y_119, List.mem_of_getElem? (i := 749) rfl, List.mem_of_getElem? (i := 751) rfl, List.mem_of_getElem? (i := 36) rfl, by decide⟩
set_option maxRecDepth 100000 in
theorem bn_M_137 : bn_PM (3, 198, 0, 120, 753) := ⟨bn_Y_120, List.mem_of_getElem? (i := 753) rfl, List.mem_of_getElem? (i := 755) rfl, List.mem_of_getElem? (i := 37) rfl, by decide⟩
set_option maxRecDepth 100000 in
theorem bn_M_138 : bn_PM (4, 96, 0, 123, 757) := ⟨bn_Y_123, List.mem_of_getElem? (i := 757) rfl, List.mem_of_getElem? (i := 758) rfl, List.mem_of_getElem? (i := 759) rfl, by decide⟩
set_option maxRecDepth 100000 in
theorem bn_M_139 : bn_PM (3, 205, 1, 122, 763) := ⟨bn_Y_122, List.mem_of_getElem? (i := 763) rfl, List.mem_of_getElem? (i := 764) rfl⟩
set_option maxRecDepth 100000 in
theorem bn_M_140 : bn_PM (4, 101, 0, 125, 766) := ⟨bn_Y_125, List.mem_of_getElem? (i := 766) rfl, List.mem_of_getElem? (i := 767) rfl, List.mem_of_getElem? (i := 768) rfl, by decide⟩
set_option maxRecDepth 100000 in
theorem bn_M_141 : bn_PM (3, 212, 1, 124, 772) := ⟨bn_Y_124, List.mem_of_getElem? (i := 772) rfl, List.mem_of_getElem? (i := 773) rfl⟩
set_option maxRecDepth 100000 in
theorem bn_M_142 : bn_PM (4, 105, 0, 126, 775) := ⟨bn_Y_126, List.mem_of_getElem? (i := 775) rfl, List.mem_of_getElem? (i := 776) rfl, List.mem_of_getElem? (i := 777) rfl, by decide⟩
set_option maxRecDepth 100000 in
theorem bn_M_143 : bn_PM (4, 109, 0, 127, 779) := ⟨bn_Y_127, List.mem_of_getElem? (i := 779) rfl, List.mem_of_getElem? (i := 780) rfl, List.mem_of_getElem? (i := 781) rfl, by decide⟩
set_option maxRecDepth 100000 in
theorem bn_M_144 : bn_PM (4, 113, 0, 128, 783) := ⟨bn_Y_128, List.mem_of_getElem? (i := 783) rfl, List.mem_of_getElem? (i := 784) rfl, List.mem_of_getElem? (i := 785) rfl, by decide⟩
def bn_ML_0 : List (Nat × Nat × Nat × Nat × Nat) := [(4, 9, 2, 45, 48), (2, 3, 4, 0, 51), (2, 11, 3, 32, 56), (1, 3, 4, 0, 59), (2, 18, 3, 0, 74), (0, 3, 4, 0, 77), (4, 15, 0, 46, 167), (2, 47, 0, 33, 171), (4, 20, 0, 47, 175), (4, 25, 0, 48, 179), (2, 51, 0, 34, 183), (1, 22, 0, 35, 187), (1, 36, 0, 41, 191), (1, 26, 0, 42, 195), (1, 39, 0, 43, 199)]
theorem bn_MC_0 : ∀ r ∈ bn_ML_0, bn_PM r := List.forall_mem_cons.mpr ⟨bn_M_0, List.forall_mem_cons.mpr ⟨bn_M_1, List.forall_mem_cons.mpr ⟨bn_M_2, List.forall_mem_cons.mpr ⟨bn_M_3, List.forall_mem_cons.mpr ⟨bn_M_4, List.forall_mem_cons.mpr ⟨bn_M_5, List.forall_mem_cons.mpr ⟨bn_M_6, List.forall_mem_cons.mpr ⟨bn_M_7, List.forall_mem_cons.mpr ⟨bn_M_8, List.forall_mem_cons.mpr ⟨bn_M_9, List.forall_mem_cons.mpr ⟨bn_M_10, List.forall_mem_cons.mpr ⟨bn_M_11, List.forall_mem_cons.mpr ⟨bn_M_12, List.forall_mem_cons.mpr ⟨bn_M_13, List.forall_mem_cons.mpr ⟨bn_M_14, fun _ h => absurd h List.not_mem_nil⟩⟩⟩⟩⟩⟩⟩⟩⟩⟩⟩⟩⟩⟩⟩
def bn_ML_1 : List (Nat × Nat × Nat × Nat × Nat) := [(1, 69, 0, 44, 203), (1, 43, 0, 1, 207), (1, 30, 0, 36, 211), (1, 55, 0, 2, 215), (1, 33, 0, 37, 219), (1, 62, 0, 38, 223), (1, 73, 1, 39, 227), (1, 77, 1, 40, 230), (1, 80, 0, 19, 233), (1, 66, 0, 3, 237), (4, 29, 0, 49, 241), (2, 59, 0, 4, 245), (0, 60, 5, 0, 249), (2, 63, 0, 70, 252), (4, 33, 0, 50, 256)]
theorem bn_MC_1 : ∀ r ∈ bn_ML_1, bn_PM r := List.forall_mem_cons.mpr ⟨bn_M_15, List.forall_mem_cons.mpr ⟨bn_M_16, List.forall_mem_cons.mpr ⟨bn_M_17, List.forall_mem_cons.mpr ⟨bn_M_18, List.forall_mem_cons.mpr ⟨bn_M_19, List.forall_mem_cons.mpr ⟨bn_M_20, List.forall_mem_cons.mpr ⟨bn_M_21, List.forall_mem_cons.mpr ⟨bn_M_22, List.forall_mem_cons.mpr ⟨bn_M_23, List.forall_mem_cons.mpr ⟨bn_M_24, List.forall_mem_cons.mpr ⟨bn_M_25, List.forall_mem_cons.mpr ⟨bn_M_26, List.forall_mem_cons.mpr ⟨bn_M_27, List.forall_mem_cons.mpr ⟨bn_M_28, List.forall_mem_cons.mpr ⟨bn_M_29, fun _ h => absurd h List.not_mem_nil⟩⟩⟩⟩⟩⟩⟩⟩⟩⟩⟩⟩⟩⟩⟩
def bn_ML_2 : List (Nat × Nat × Nat × Nat × Nat) := [(2, 72, 0, 5, 260), (2, 80, 0, 7, 264), (2, 86, 0, 13, 268), (4, 38, 0, 51, 272), (2, 93, 0, 6, 276), (2, 105, 0, 8, 280), (4, 42, 0, 52, 284), (2, 114, 0, 22, 288), (0, 66, 0, 7, 292), (0, 87, 0, 8, 293), (0, 102, 0, 23, 294), (0, 80, 0, 9, 298), (4, 46, 0, 53, 302), (2, 118, 0, 69, 306), (2, 121, 0, 24, 310)]
theorem bn_MC_2 : ∀ r ∈ bn_ML_2, bn_PM r := List.forall_mem_cons.mpr ⟨bn_M_30, List.forall_mem_cons.mpr ⟨bn_M_31, List.forall_mem_cons.mpr ⟨bn_M_32, List.forall_mem_cons.mpr ⟨bn_M_33, List.forall_mem_cons.mpr ⟨bn_M_34, List.forall_mem_cons.mpr ⟨bn_M_35, List.forall_mem_cons.mpr ⟨bn_M_36, List.forall_mem_cons.mpr ⟨bn_M_37, List.forall_mem_cons.mpr ⟨bn_M_38, List.forall_mem_cons.mpr ⟨bn_M_39, List.forall_mem_cons.mpr ⟨bn_M_40, List.forall_mem_cons.mpr ⟨bn_M_41, List.forall_mem_cons.mpr ⟨bn_M_42, List.forall_mem_cons.mpr ⟨bn_M_43, List.forall_mem_cons.mpr ⟨bn_M_44, fun _ h => absurd h List.not_mem_nil⟩⟩⟩⟩⟩⟩⟩⟩⟩⟩⟩⟩⟩⟩⟩
def bn_ML_3 : List (Nat × Nat × Nat × Nat × Nat) := [(4, 50, 0, 54, 314), (4, 54, 0, 55, 318), (2, 125, 1, 72, 322), (2, 128, 1, 73, 325), (4, 59, 0, 56, 328), (2, 131, 0, 25, 332), (0, 105, 0, 26, 336), (0, 109, 7, 0, 340), (4, 63, 0, 57, 343), (2, 135, 0, 11, 347), (0, 70, 0, 10, 351), (0, 74, 1, 129, 355), (2, 142, 0, 12, 363), (2, 145, 0, 15, 367), (0, 83, 0, 14, 371)]
theorem bn_MC_3 : ∀ r ∈ bn_ML_3, bn_PM r := List.forall_mem_cons.mpr ⟨bn_M_45, List.forall_mem_cons.mpr ⟨bn_M_46, List.forall_mem_cons.mpr ⟨bn_M_47, List.forall_mem_cons.mpr ⟨bn_M_48, List.forall_mem_cons.mpr ⟨bn_M_49, List.forall_mem_cons.mpr ⟨bn_M_50, List.forall_mem_cons.mpr ⟨bn_M_51, List.forall_mem_cons.mpr ⟨bn_M_52, List.forall_mem_cons.mpr ⟨bn_M_53, List.forall_mem_cons.mpr ⟨bn_M_54, List.forall_mem_cons.mpr ⟨bn_M_55, List.forall_mem_cons.mpr ⟨bn_M_56, List.forall_mem_cons.mpr ⟨bn_M_57, List.forall_mem_cons.mpr ⟨bn_M_58, List.forall_mem_cons.mpr ⟨bn_M_59, fun _ h => absurd h List.not_mem_nil⟩⟩⟩⟩⟩⟩⟩⟩⟩⟩⟩⟩⟩⟩⟩
def bn_ML_4 : List (Nat × Nat × Nat × Nat × Nat) := [(2, 148, 0, 16, 375), (4, 67, 0, 58, 379), (4, 71, 0, 59, 383), (4, 76, 0, 60, 387), (2, 152, 0, 71, 391), (2, 192, 0, 27, 395), (0, 112, 0, 28, 399), (0, 119, 0, 22, 403), (0, 115, 0, 24, 404), (4, 80, 0, 61, 405), (4, 84, 0, 62, 409), (2, 155, 0, 29, 413), (0, 90, 6, 0, 417), (0, 122, 0, 30, 420), (0, 125, 0, 31, 424)]
theorem bn_MC_4 : ∀ r ∈ bn_ML_4, bn_PM r := List.forall_mem_cons.mpr ⟨bn_M_60, List.forall_mem_cons.mpr ⟨bn_M_61, List.forall_mem_cons.mpr ⟨bn_M_62, List.forall_mem_cons.mpr ⟨bn_M_63, List.forall_mem_cons.mpr ⟨bn_M_64, List.forall_mem_cons.mpr ⟨bn_M_65, List.forall_mem_cons.mpr ⟨bn_M_66, List.forall_mem_cons.mpr ⟨bn_M_67, List.forall_mem_cons.mpr ⟨bn_M_68, List.forall_mem_cons.mpr ⟨bn_M_69, List.forall_mem_cons.mpr ⟨bn_M_70, List.forall_mem_cons.mpr ⟨bn_M_71, List.forall_mem_cons.mpr ⟨bn_M_72, List.forall_mem_cons.mpr ⟨bn_M_73, List.forall_mem_cons.mpr ⟨bn_M_74, fun _ h => absurd h List.not_mem_nil⟩⟩⟩⟩⟩⟩⟩⟩⟩⟩⟩⟩⟩⟩⟩
def bn_ML_5 : List (Nat × Nat × Nat × Nat × Nat) := [(4, 88, 0, 63, 428), (2, 158, 0, 20, 432), (2, 161, 0, 19, 436), (4, 92, 0, 64, 437), (2, 164, 1, 74, 441), (2, 195, 1, 75, 444), (4, 97, 0, 65, 448), (4, 102, 0, 66, 455), (4, 106, 0, 67, 459), (4, 110, 0, 68, 463), (2, 177, 0, 10, 467), (2, 180, 0, 17, 468), (2, 183, 0, 18, 472), (2, 186, 0, 21, 476), (0, 96, 0, 20, 480)]
theorem bn_MC_5 : ∀ r ∈ bn_ML_5, bn_PM r := List.forall_mem_cons.mpr ⟨bn_M_75, List.forall_mem_cons.mpr ⟨bn_M_76, List.forall_mem_cons.mpr ⟨bn_M_77, List.forall_mem_cons.mpr ⟨bn_M_78, List.forall_mem_cons.mpr ⟨bn_M_79, List.forall_mem_cons.mpr ⟨bn_M_80, List.forall_mem_cons.mpr ⟨bn_M_81, List.forall_mem_cons.mpr ⟨bn_M_82, List.forall_mem_cons.mpr ⟨bn_M_83, List.forall_mem_cons.mpr ⟨bn_M_84, List.forall_mem_cons.mpr ⟨bn_M_85, List.forall_mem_cons.mpr ⟨bn_M_86, List.forall_mem_cons.mpr ⟨bn_M_87, List.forall_mem_cons.mpr ⟨bn_M_88, List.forall_mem_cons.mpr ⟨bn_M_89, fun _ h => absurd h List.not_mem_nil⟩⟩⟩⟩⟩⟩⟩⟩⟩⟩⟩⟩⟩⟩⟩
def bn_ML_6 : List (Nat × Nat × Nat × Nat × Nat) := [(0, 99, 0, 19, 481), (4, 12, 2, 76, 484), (3, 1, 4, 0, 487), (4, 19, 0, 78, 577), (3, 57, 1, 77, 582), (4, 24, 0, 79, 586), (4, 28, 0, 84, 590), (3, 99, 0, 82, 594), (3, 80, 0, 80, 598), (3, 93, 0, 83, 603), (3, 96, 0, 81, 607), (4, 32, 0, 85, 611), (4, 37, 0, 92, 615), (3, 118, 0, 86, 619), (3, 122, 0, 91, 623)]
theorem bn_MC_6 : ∀ r ∈ bn_ML_6, bn_PM r := List.forall_mem_cons.mpr ⟨bn_M_90, List.forall_mem_cons.mpr ⟨bn_M_91, List.forall_mem_cons.mpr ⟨bn_M_92, List.forall_mem_cons.mpr ⟨bn_M_93, List.forall_mem_cons.mpr ⟨bn_M_94, List.forall_mem_cons.mpr ⟨bn_M_95, List.forall_mem_cons.mpr ⟨bn_M_96, List.forall_mem_cons.mpr ⟨bn_M_97, List.forall_mem_cons.mpr ⟨bn_M_98, List.forall_mem_cons.mpr ⟨bn_M_99, List.forall_mem_cons.mpr ⟨bn_M_100, List.forall_mem_cons.mpr ⟨bn_M_101, List.forall_mem_cons.mpr ⟨bn_M_102, List.forall_mem_cons.mpr ⟨bn_M_103, List.forall_mem_cons.mpr ⟨bn_M_104, fun _ h => absurd h List.not_mem_nil⟩⟩⟩⟩⟩⟩⟩⟩⟩⟩⟩⟩⟩⟩⟩
def bn_ML_7 : List (Nat × Nat × Nat × Nat × Nat) := [(3, 115, 0, 89, 627), (4, 41, 0, 93, 631), (3, 125, 0, 87, 635), (3, 128, 0, 90, 639), (4, 45, 0, 96, 643), (3, 141, 0, 95, 647), (3, 138, 0, 88, 651), (4, 49, 0, 98, 655), (3, 145, 0, 94, 659), (3, 148, 0, 97, 663), (4, 53, 0, 99, 667), (4, 58, 0, 101, 671), (3, 152, 1, 100, 675), (4, 62, 0, 103, 678), (3, 155, 0, 102, 682)]
theorem bn_MC_7 : ∀ r ∈ bn_ML_7, bn_PM r := List.forall_mem_cons.mpr ⟨bn_M_105, List.forall_mem_cons.mpr ⟨bn_M_106, List.forall_mem_cons.mpr ⟨bn_M_107, List.forall_mem_cons.mpr ⟨bn_M_108, List.forall_mem_cons.mpr ⟨bn_M_109, List.forall_mem_cons.mpr ⟨bn_M_110, List.forall_mem_cons.mpr ⟨bn_M_111, List.forall_mem_cons.mpr ⟨bn_M_112, List.forall_mem_cons.mpr ⟨bn_M_113, List.forall_mem_cons.mpr ⟨bn_M_114, List.forall_mem_cons.mpr ⟨bn_M_115, List.forall_mem_cons.mpr ⟨bn_M_116, List.forall_mem_cons.mpr ⟨bn_M_117, List.forall_mem_cons.mpr ⟨bn_M_118, List.forall_mem_cons.mpr ⟨bn_M_119, fun _ h => absurd h List.not_mem_nil⟩⟩⟩⟩⟩⟩⟩⟩⟩⟩⟩⟩⟩⟩⟩
def bn_ML_8 : List (Nat × Nat × Nat × Nat × Nat) := [(4, 66, 0, 107, 686), (3, 158, 0, 104, 690), (3, 165, 1, 105, 696), (3, 168, 1, 106, 699), (4, 70, 0, 108, 702), (4, 75, 0, 109, 706), (4, 79, 0, 112, 710), (3, 178, 0, 111, 714), (3, 175, 0, 110, 718), (4, 83, 0, 113, 722), (4, 87, 0, 117, 726), (3, 184, 0, 114, 730), (3, 181, 1, 115, 734), (3, 187, 0, 118, 737), (3, 191, 0, 116, 741)]
theorem bn_MC_8 : ∀ r ∈ bn_ML_8, bn_PM r := List.forall_mem_cons.mpr ⟨bn_M_120, List.forall_mem_cons.mpr ⟨bn_M_121, List.forall_mem_cons.mpr ⟨bn_M_122, List.forall_mem_cons.mpr ⟨bn_M_123, List.forall_mem_cons.mpr ⟨bn_M_124, List.forall_mem_cons.mpr ⟨bn_M_125, List.forall_mem_cons.mpr ⟨bn_M_126, List.forall_mem_cons.mpr ⟨bn_M_127, List.forall_mem_cons.mpr ⟨bn_M_128, List.forall_mem_cons.mpr ⟨bn_M_129, List.forall_mem_cons.mpr ⟨bn_M_130, List.forall_mem_cons.mpr ⟨bn_M_131, List.forall_mem_cons.mpr ⟨bn_M_132, List.forall_mem_cons.mpr ⟨bn_M_133, List.forall_mem_cons.mpr ⟨bn_M_134, fun _ h => absurd h List.not_mem_nil⟩⟩⟩⟩⟩⟩⟩⟩⟩⟩⟩⟩⟩⟩⟩
def bn_ML_9 : List (Nat × Nat × Nat × Nat × Nat) := [(4, 91, 0, 121, 745), (3, 195, 0, 119, 749), (3, 198, 0, 120, 753), (4, 96, 0, 123, 757), (3, 205, 1, 122, 763), (4, 101, 0, 125, 766), (3, 212, 1, 124, 772), (4, 105, 0, 126, 775), (4, 109, 0, 127, 779), (4, 113, 0, 128, 783)]
theorem bn_MC_9 : ∀ r ∈ bn_ML_9, bn_PM r := List.forall_mem_cons.mpr ⟨bn_M_135, List.forall_mem_cons.mpr ⟨bn_M_136, List.forall_mem_cons.mpr ⟨bn_M_137, List.forall_mem_cons.mpr ⟨bn_M_138, List.forall_mem_cons.mpr ⟨bn_M_139, List.forall_mem_cons.mpr ⟨bn_M_140, List.forall_mem_cons.mpr ⟨bn_M_141, List.forall_mem_cons.mpr ⟨bn_M_142, List.forall_mem_cons.mpr ⟨bn_M_143, List.forall_mem_cons.mpr ⟨bn_M_144, fun _ h => absurd h List.not_mem_nil⟩⟩⟩⟩⟩⟩⟩⟩⟩⟩
theorem bn_ML_ok : ∀ r ∈ bn_ML, bn_PM r := by
  show ∀ r ∈ bn_ML_0 ++ (bn_ML_1 ++ (bn_ML_2 ++ (bn_ML_3 ++ (bn_ML_4 ++ (bn_ML_5 ++ (bn_ML_6 ++ (bn_ML_7 ++ (bn_ML_8 ++ (bn_ML_9))))))))), bn_PM r
  exact List.forall_mem_append.mpr ⟨bn_MC_0, List.forall_mem_append.mpr ⟨bn_MC_1, List.forall_mem_append.mpr ⟨bn_MC_2, List.forall_mem_append.mpr ⟨bn_MC_3, List.forall_mem_append.mpr ⟨bn_MC_4, List.forall_mem_append.mpr ⟨bn_MC_5, List.forall_mem_append.mpr ⟨bn_MC_6, List.forall_mem_append.mpr ⟨bn_MC_7, List.forall_mem_append.mpr ⟨bn_MC_8, bn_MC_9⟩⟩⟩⟩⟩⟩⟩⟩⟩
theorem bn_ml_ok {c idx : Nat} {q : Nat × Nat} (h : bn_ml c idx = some q) : ∃ i, bn_PM (c, idx, q.1, q.2, i) := by
  unfold bn_ml at h
  obtain ⟨r, h1, rfl⟩ := Option.map_eq_some_iff.mp h
  have h2 := List.find?_some h1
  have h3 := bn_ML_ok r (List.mem_of_find?_eq_some h1)
  simp only [Bool.and_eq_true, beq_iff_eq] at h2
  obtain ⟨rfl, rfl⟩ := h2
  exact ⟨r.2.2.2.2, h3⟩
theorem bn_TT_in {w : Cond} (h : w ∈ lw_tbl) (hg : goodWord w = true) : w ∈ bn_TT := List.mem_filter.mpr ⟨h, hg⟩
theorem bn_cnX {c : Nat} (h : c < 6) : bn_cn c ≠ "java/lang/invoke/MethodHandle" ∧ bn_cn c ≠ "java/lang/invoke/VarHandle" ∧ plainName (bn_cn c) = true := by
  have h6 : c = 0 ∨ c = 1 ∨ c = 2 ∨ c = 3 ∨ c = 4 ∨ c = 5 := by omega
  rcases h6 with rfl | rfl | rfl | rfl | rfl | rfl <;> decide +kernel
theorem bn_inX {ci : Nat} (h : ci < 4) : ∀ w ∈ u_ws (bn_cn ci) (bn_T ci) (bn_N ci), w ∈ bn_TT := by
  have h4 : ci = 0 ∨ ci = 1 ∨ ci = 2 ∨ ci = 3 := by omega
  rcases h4 with rfl | rfl | rfl | rfl <;> decide +kernel
theorem bn_tyX {ci : Nat} (h : ci < 4) : ∀ k, k < bn_N ci → parseFieldDescriptor (bn_T ci k).2.2.1 = some (bn_ty ci k) := by
  have h4 : ci = 0 ∨ ci = 1 ∨ ci = 2 ∨ ci = 3 := by omega
  rcases h4 with rfl | rfl | rfl | rfl
  · exact tyX0_ok
  · exact tyX1_ok
  · exact tyX2_ok
  · exact tyX3_ok
theorem bn_nmX {ci : Nat} (h : ci < 4) : ∀ a, a < bn_N ci → ∀ b, b < bn_N ci → a ≠ b → (bn_T ci a).2.1 ≠ (bn_T ci b).2.1 := by
  have h4 : ci = 0 ∨ ci = 1 ∨ ci = 2 ∨ ci = 3 := by omega
  rcases h4 with rfl | rfl | rfl | rfl
  · exact nmX0
  · exact nmX1
  · exact nmX2
  · exact nmX3
theorem bn_clX {ci : Nat} (h : ci < 4) : bn_cl[ci]? = some (bn_cn ci, bn_T ci, bn_N ci) := by
  have h4 : ci = 0 ∨ ci = 1 ∨ ci = 2 ∨ ci = 3 := by omega
  rcases h4 with rfl | rfl | rfl | rfl <;> rfl
def bn_is (i : Nat) (w : Cond) : Bool := decide (lw_tbl[i]? = some w) && goodWord w
theorem bn_is_mem {i : Nat} {w : Cond} (h : bn_is i w = true) : w ∈ bn_TT := by
  simp only [bn_is, Bool.and_eq_true, decide_eq_true_eq] at h
  exact bn_TT_mem h.1 h.2
def bn_okK (r : Nat × Nat × Nat × Nat) : Bool := bn_is r.2.2.2 (.classLink (bn_cn r.1) r.2.1 (bn_cn r.2.2.1)) && (decide (.instantiable (bn_cn r.2.2.1) (bn_N r.2.2.1) ∈ bn_TT) && (decide (.initialized (bn_cn r.2.2.1) ∈ bn_TT) && decide (r.2.2.1 < 4)))
set_option maxRecDepth 100000 in
theorem bn_CK_ok : bn_CK.all bn_okK = true := by decide +kernel
theorem bn_ck_ok {c idx ci : Nat} (h : bn_ck c idx = some ci) : .classLink (bn_cn c) idx (bn_cn ci) ∈ bn_TT ∧ .instantiable (bn_cn ci) (bn_N ci) ∈ bn_TT ∧ .initialized (bn_cn ci) ∈ bn_TT ∧ ci < 4 := by
  unfold bn_ck at h
  obtain ⟨r, h1, rfl⟩ := Option.map_eq_some_iff.mp h
  have h2 := List.find?_some h1
  have h3 := List.all_eq_true.mp bn_CK_ok r (List.mem_of_find?_eq_some h1)
  simp only [Bool.and_eq_true, beq_iff_eq] at h2
  obtain ⟨rfl, rfl⟩ := h2
  simp only [bn_okK, Bool.and_eq_true, decide_eq_true_eq] at h3
  exact ⟨bn_is_mem h3.1, h3.2.1, h3.2.2.1, h3.2.2.2⟩
set_option maxRecDepth 100000 in
theorem bn_KI_ok : bn_KI.all (fun r => bn_is r.2.2.2 (.constant (bn_cn r.1) r.2.1 r.2.2.1)) = true := by decide +kernel
set_option maxRecDepth 100000 in
theorem bn_KL_ok : bn_KL.all (fun r => bn_is r.2.2.2 (.constantLong (bn_cn r.1) r.2.1 r.2.2.1)) = true := by decide +kernel
theorem bn_ki_ok {c idx : Nat} {v : Int32} (h : bn_ki c idx = some v) : .constant (bn_cn c) idx v ∈ bn_TT := by
  unfold bn_ki at h
  obtain ⟨r, h1, rfl⟩ := Option.map_eq_some_iff.mp h
  have h2 := List.find?_some h1
  have h3 := List.all_eq_true.mp bn_KI_ok r (List.mem_of_find?_eq_some h1)
  simp only [Bool.and_eq_true, beq_iff_eq] at h2
  obtain ⟨rfl, rfl⟩ := h2
  exact bn_is_mem h3
theorem bn_kl_ok {c idx : Nat} {v : Int64} (h : bn_kl c idx = some v) : .constantLong (bn_cn c) idx v ∈ bn_TT := by
  unfold bn_kl at h
  obtain ⟨r, h1, rfl⟩ := Option.map_eq_some_iff.mp h
  have h2 := List.find?_some h1
  have h3 := List.all_eq_true.mp bn_KL_ok r (List.mem_of_find?_eq_some h1)
  simp only [Bool.and_eq_true, beq_iff_eq] at h2
  obtain ⟨rfl, rfl⟩ := h2
  exact bn_is_mem h3
theorem bn_w_nat : Cond.native arraycopyName ∈ bn_TT := by decide +kernel
theorem bn_w_sta : Cond.static arraycopyName ∈ bn_TT := by decide +kernel
theorem bn_w_sys : Cond.initialized "java/lang/System" ∈ bn_TT := by decide +kernel
theorem bn_w_oin : Cond.instanceMethod Lib.objectInit ∈ bn_TT := by decide +kernel
theorem bn_w_oco : Cond.code Lib.objectInit ⟨#[0xb1]⟩ 1 none ∈ bn_TT := by decide +kernel
theorem bn_w_ai : Cond.arrayClass .int ∈ bn_TT := by decide +kernel
theorem bn_w_az : Cond.arrayClass .boolean ∈ bn_TT := by decide +kernel
theorem bn_w_al : Cond.arrayClass .long ∈ bn_TT := by decide +kernel
theorem bn_w_mxs : Cond.static Lib.Math.max.name ∈ bn_TT := by decide +kernel
theorem bn_w_mns : Cond.static Lib.Math.min.name ∈ bn_TT := by decide +kernel
theorem bn_w_mth : Cond.initialized "java/lang/Math" ∈ bn_TT := by decide +kernel
theorem bn_w_mxc : Cond.code Lib.Math.max.name Lib.Math.max.code 2 (some .int) ∈ bn_TT := by decide +kernel
theorem bn_w_mnc : Cond.code Lib.Math.min.name Lib.Math.min.code 2 (some .int) ∈ bn_TT := by decide +kernel
def bn_okI (j : Nat) : Bool := bn_i j == decide ((bn_y j).name = "<init>")
theorem bn_init {j : Nat} (h : bn_i j = true) : (bn_y j).name = "<init>" := by
  simp only [bn_i, Bool.or_eq_true, beq_iff_eq] at h
  rcases h with ((rfl | rfl) | rfl) | rfl <;> decide +kernel
