/-! THE CLAIM OUT OF ONE WALK OF THE LAW (the words that begin with lw_ and i_vc are the kit's skeleton, given for pasting) -/
def R_law : String := "BreadNumberedLaw"
def lw_P (b : Addr) (xs : List Int32) (args : Array Value) (s : State) : Prop := args = #[.ref b] ∧ s.IntsAt b xs ∧ xs.length ≤ 320 ∧ (Jvm.Cond.and given_1 narrow_1).before args s = true
def lw_Q (_ : Array Value) (s : State) (o : Outcome) (t : State) : Prop := o = .returned (some (.int 1)) ∧ Framed s o t [] 600000 7302250
def lw_Z (below : List Frame) (a : Array Value) (s : State) : State → Prop := fun t => ∃ o, t.status = .running ∧ Ended t below o ∧ lw_Q a s o t
/-- the law's own end, with 1 on the stack, nothing written that was there before, its room as the claim has it -/
theorem lw_ret {p : Program} {l : Launch} {e : Env} {s : State} {m : MethodId} {below : List Frame} {meth : Method} {c : Code} {b : Nat} (hx : p.tables.exec = Jvm.exec) (hb : c.code = code) (hr : meth.sig.returnType = ret) (hlocks : meth.locks = false) {pc : Nat} {H : Heap} {ls : Array Slot} (hdg : decode code pc = .ok (.ireturn, 1)) : W p l e room_1 s m #[Value.ref b] below meth c H [] 600000 7302250 (lw_Z below #[Value.ref b] s) (F0 m pc ls [.int 1]) := by
  intro T hT X
  obtain ⟨fs, hret, hrun, hended, hW, hframe⟩ := X.leave (v := some (.int 1)) (hlocks := hlocks) (fun h => by rw [hr] at h; cases h)
  have hmeth' : T.vm.method? m = some meth := X.method'
  refine ⟨T.setFrames fs, ?_, .returned (some (.int 1)), hrun, hended, rfl, ⟨_, rfl⟩, hW, hframe⟩
  jvm_step X.here [X.here.top, hx, hb, hdg, hmeth', hr, ret, narrow_b1]
  (try refine ⟨rfl, ?_⟩); (try refine ⟨rfl, ?_⟩)
  first | (intro acts; rw [hret _ acts rfl rfl rfl]) | rw [hret _ _ rfl rfl rfl]
  exact Steps.refl _
/-- what holds at the law's entry: the machine, the code, the tables' words (any of lw_tbl by 'hts w (by decide +kernel)'), the script of L ints xs at the cell b, what the Statement gives of the start (any of its parts by flat_of_before) -/
def lw_At (p : Program) (s : State) (m : MethodId) (meth : Method) (c : Code) (b L : Nat) (xs : Nat → Int32) : Prop :=
  p.tables.exec = Jvm.exec ∧ c.code = code ∧ meth.sig.returnType = ret ∧ c.maxLocals = 4 ∧ s.vm.findClass R_law = some m.cls ∧ (∀ w ∈ lw_tbl, w.before #[Value.ref b] s = true) ∧ va_X b L xs s s.heap ∧ b < s.heap.size ∧ meth.locks = false ∧ (Jvm.Cond.and given_1 narrow_1).before #[Value.ref b] s = true
/-- what the tables say of the world at the start -/
theorem bn_w_ao : Cond.arrayOver (.object RX0) ∈ lw_tbl := by decide +kernel
theorem bn_w_n1 : Cond.methodLinkNest RX2 11 yX1_init "BreadNumbered" ∈ lw_tbl := by decide +kernel
theorem bn_w_n2 : Cond.methodLinkNest RX2 18 yX0_init "BreadNumbered" ∈ lw_tbl := by decide +kernel
theorem bn_X_of {s : State} {args : Array Value} (hts : ∀ w ∈ lw_tbl, w.before args s = true) : bn_X s := by
  refine ⟨va_AO.of (hts _ bn_w_ao), fun q hq => ?_⟩
  rcases List.mem_cons.mp hq with z | z
  · subst z
    exact va_Nw.of rfl (hts _ bn_w_n1)
  · rcases List.mem_cons.mp z with z | z
    · subst z
      exact va_Nw.of rfl (hts _ bn_w_n2)
    · cases z
theorem bn_arr {s : State} {args : Array Value} {ty : FieldType} (h : (Cond.arrayClass ty).before args s = true) : ∃ cA : ClassId, s.vm.findClass ("[" ++ ty.toString) = some cA ∧ ArrOfT s cA ty := by
  obtain ⟨cA, kA, comp, h1, h2, h3⟩ := Cond.arrayClass_spec h
  exact ⟨cA, h1, fun n z => ⟨(fun k h => by cases h), kA, h2, comp, h3⟩⟩
theorem bn_K_of {s : State} {args : Array Value} (b : Nat) (hts : ∀ w ∈ lw_tbl, w.before args s = true) : ∃ G : bn_G, G.1 = s.heap.size ∧ G.2.1 = b ∧ va_K G.2.2.1 bn_cl (bn_tys G) s := by
  have ht : ∀ w ∈ bn_TT, w.before args s = true := fun w hw => hts w (List.mem_filter.mp hw).1
  have k0 : bn_ck 2 16 = some 0 := by decide
  have k1 : bn_ck 2 9 = some 1 := by decide
  have k2 : bn_ck 4 7 = some 2 := by decide
  have k3 : bn_ck 4 10 = some 3 := by decide
  obtain ⟨c0, i0, u0⟩ := u_known ht (bn_inX (ci := 0) (by omega)) (ht _ (bn_ck_ok k0).2.1)
  obtain ⟨c1, i1, u1⟩ := u_known ht (bn_inX (ci := 1) (by omega)) (ht _ (bn_ck_ok k1).2.1)
  obtain ⟨c2, i2, u2⟩ := u_known ht (bn_inX (ci := 2) (by omega)) (ht _ (bn_ck_ok k2).2.1)
  obtain ⟨c3, i3, u3⟩ := u_known ht (bn_inX (ci := 3) (by omega)) (ht _ (bn_ck_ok k3).2.1)
  have u0 : u_Kn s RX0 TX0 15 c0 i0 := u0
  have u1 : u_Kn s RX1 TX1 3 c1 i1 := u1
  have u2 : u_Kn s RX2 TX2 8 c2 i2 := u2
  have u3 : u_Kn s RX3 TX3 29 c3 i3 := u3
  obtain ⟨ti, a1, a2⟩ := bn_arr (ht _ bn_w_ai)
  obtain ⟨tz, b1, b2⟩ := bn_arr (ht _ bn_w_az)
  obtain ⟨tl, d1, d2⟩ := bn_arr (ht _ bn_w_al)
  obtain ⟨comp, co, kA, f1, f2, f3, f4, f5⟩ := Cond.arrayOver_spec (hts _ bn_w_ao)
  refine ⟨(s.heap.size, b, (fun k => match k with | 0 => c0 | 1 => c1 | 2 => c2 | _ => c3, fun k => match k with | 0 => i0 | 1 => i1 | 2 => i2 | _ => i3), fun t => match t with | 0 => ti | 1 => tz | 2 => tl | _ => co), rfl, rfl, fun k q hq => ?_, fun k q hq => ?_⟩
  · match k, hq with
    | 0, hq => cases hq; exact u0
    | 1, hq => cases hq; exact u1
    | 2, hq => cases hq; exact u2
    | 3, hq => cases hq; exact u3
    | k + 4, hq => simp [bn_cl] at hq
  · match k, hq with
    | 0, hq => cases hq; exact ⟨a2, a1⟩
    | 1, hq => cases hq; exact ⟨b2, b1⟩
    | 2, hq => cases hq; exact ⟨d2, d1⟩
    | 3, hq => cases hq; exact ⟨fun n z => ⟨(fun k h => by cases h), kA, f3, comp, f4⟩, kA, comp, f3, f4, f1, f5⟩
    | k + 4, hq => simp [bn_tys] at hq
theorem whole_start {p : Program} {e : Env} {s : State} {m : MethodId} {below : List Frame} {meth : Method} {c : Code} (l : Launch) (hflags : l.flags = flags0) {b L : Nat} {xs : Nat → Int32} (hL : L ≤ 320) (C0 : lw_At p s m meth c b L xs) : W p l e room_1 s m #[Value.ref b] below meth c s.heap [] 0 0 (lw_Z below #[Value.ref b] s) (entryFrame m ([Value.ref b] : List Value).toArray 4) := by
  obtain ⟨hx, hb, hr, hml, hown, hts, hX, hbl, hlocks, hgv⟩ := C0
  obtain ⟨G, g1, g2, hK⟩ := bn_K_of b hts
  obtain ⟨h', ev, s1, s2⟩ := lw_ev (L := L) (xs := xs) hL
  obtain ⟨n, hn⟩ := bn_ev_go ev
  obtain ⟨-, hg⟩ := bn_sound n _ _ _ _ _ _ _ hn
  have hl := bn_entry G 132 [.retAddr 0] (Nat.le_of_ble_eq_true rfl)
  have e1 : ([Value.retAddr 0] : List Value).map (bn_cv G) = [.ref b] := by
    show [Value.ref G.2.1] = _
    rw [g2]
  rw [e1] at hl
  rw [lg_entry_eq]
  have hm4 : bn_m 132 = 4 := rfl
  rw [hm4] at hl
  have hw0 : bn_wl G (lw_h0 L xs) = [] := rfl
  refine hg p l e room_1 s m #[Value.ref b] below meth c (lw_Z below #[Value.ref b] s) G 0 0 s.heap [] _ ⟨hx, hb, hml, hown, fun w hw => hts w (List.mem_filter.mp hw).1, fun z => absurd z (by decide), Nat.le_of_ble_eq_true rfl, Nat.le_of_ble_eq_true rfl, hK, bn_X_of hts, by rw [g2]; exact hX, by rw [g1, g2]; exact hbl, by rw [g1]; exact Nat.le_refl _⟩ (by rw [g1]; rfl) (Nat.zero_le _) (Nat.zero_le _) (by rw [s1]; exact Nat.le_of_ble_eq_true rfl) (by rw [s2]; exact Nat.le_of_ble_eq_true rfl) ⟨by rw [hw0]; exact fun k q h => by simp at h, by rw [hw0]; exact ⟨fun i j p q h => by simp at h, fun k q h => by simp at h⟩, va_S.rf⟩ hl (fun H' locs' pc' A' hW' hR => ?_)
  refine va_forget (fun q hq => by have := hW'.2.2.2.2 q hq; unfold bn_A at this; rw [g1] at this; exact this) ?_
  refine W.widen (k := 600000) (n := 7302250) (by rw [s1]; exact Nat.le_of_ble_eq_true rfl) (by rw [s2]; exact Nat.le_of_ble_eq_true rfl) ?_
  exact lw_ret hx hb hr hlocks hR.1
set_option maxHeartbeats 4000000 in
theorem lw_walk (l : Launch) (hflags : l.flags = flags0) (b : Addr) (xs : List Int32) : MetFree l x (headSpec (Jvm.Cond.code x code maxLocals ret :: tables_1) room_1) (lw_P b xs) (fun _ _ _ _ _ => True) lw_Q := by
  refine MetFree.of_bodyS (code := code) (maxLocals := maxLocals) (ret := ret) (by decide) ?_ ?_
  · intro args s m h hn
    obtain ⟨meth, c, h1, h2, h3, h4, h5, h6, -, -⟩ := Cond.code_spec hn (atoms_spec (ws := Jvm.Cond.code x code maxLocals ret :: tables_1) h _ List.mem_cons_self)
    exact ⟨meth, c, h1, h2, h3, h4, h5, h6⟩
  · intro p e s m args below meth c s₁ B hml0 hP _
    obtain ⟨rfl, hx, hbd, hgv⟩ := hP
    obtain ⟨scr, harrAt, hlist, hof, hsmall⟩ := hx
    obtain ⟨hcb, hkn, -, -⟩ := State.arrayAt?_spec harrAt
    have hown : s.vm.findClass R_law = some m.cls := findClass_of_methodNamed B.named
    have hts0 : ∀ c ∈ (Jvm.Cond.code x code maxLocals ret :: tables_1), c.before #[Value.ref b] s = true := atoms_spec (ws := Jvm.Cond.code x code maxLocals ret :: tables_1) B.pre
    have hts : ∀ w ∈ lw_tbl, w.before #[Value.ref b] s = true := k2_hts_sels lw_privs (fun w hw => hts0 w (List.mem_cons_of_mem _ hw)) lw_privs_ok
    have hml : c.maxLocals = 4 := B.maxLocals_eq (hts0 _ List.mem_cons_self)
    have X₀ : Stand p l e room_1 s m #[Value.ref b] below meth c s₁ [] 0 0 := Stand.of_body B
    have hh0 : s₁.heap = s.heap := by rw [B.state]; rfl
    have hsz : scr.slots.size = xs.length := by rw [← Array.length_toList, hlist, List.length_map]
    have hval : ∀ j : Nat, j < xs.length → scr.slots[j]? = some (.int (xs.getD j 0)) := fun j hj => by
      rw [← Array.getElem?_toList, hlist]
      simp [hj]
    have hbl : b < s.heap.size := (Array.getElem?_eq_some_iff.mp hcb).1
    have hX : va_X b xs.length (fun j => xs.getD j 0) s s.heap := ⟨scr, hcb, hof, hkn, hsz, hval⟩
    have K : W p l e room_1 s m #[Value.ref b] below meth c s₁.heap [] 0 0 (lw_Z below #[Value.ref b] s) (entryFrame m ([Value.ref b] : List Value).toArray 4) := by
      rw [hh0]
      exact whole_start l hflags hbd ⟨B.exec, B.bytes, B.returns, hml, hown, hts, hX, hbl, B.notSynchronized, hgv⟩
    obtain ⟨t, a1, o, b1, b2, b3⟩ := K s₁ rfl X₀
    exact ⟨t, o, a1, b1, b2, b3⟩
theorem lw_pre_spec {args : Array Value} {s : State} (h : (Jvm.Cond.and given_1 narrow_1).before args s = true) (hr : rest_1_c.before args s = true) : ∃ (b : Addr) (xs : List Int32), lw_P b xs args s := by
  have hs := flat_of_before _ h
  have hq := flat_of_before _ hr
  have hc : (Cond.count 1).before args s = true := hs _ (by decide +kernel)
  have harr : (Cond.arrayOf (.arg 0) .int).before args s = true := hs _ (by decide +kernel)
  have hle : (Cond.le (.length (.arg 0)) (.int 320)).before args s = true := hs _ (by decide +kernel)
  have hlen : (Cond.isInt (.length (.arg 0))).before args s = true := hq _ (by decide +kernel)
  have hall : (Cond.all (.arg 0) (.isInt (.elem (.arg 0) (.index 0)))).before args s = true := hq _ (by decide +kernel)
  obtain ⟨b, xs, hb, hx⟩ := State.ints_of_pre rfl harr hlen hall
  have hsm : xs.length < 2 ^ 31 := hx.choose_spec.2.2.2
  have hev : (Term.length (.arg 0)).eval args s none [] s = some (.int xs.length.toInt32) := hx.length_eval hb
  have hv := Cond.le_ints hev (show (Term.int 320).eval args s none [] s = some (.int 320) from rfl)
  have hd : xs.length.toInt32 ≤ 320 := by
    simpa [Cond.before, Cond.holds, hv] using hle
  have hN : xs.length ≤ 320 := (Int32.ofNat_le_ofNat hsm (by decide)).mp (show Int32.ofNat xs.length ≤ Int32.ofNat 320 from hd)
  exact ⟨b, xs, Cond.one_arg hc (show args[0]? = some (.ref b) from hb), hx, hN, h⟩
theorem lw_comes (l : Launch) (hflags : l.flags = flags0) : Comes l x (Jvm.Cond.code x code maxLocals ret :: tables_1) room_1 (fun tb e args s => Calls_1 tb e args s ∧ rest_1 tb e args s ∧ Pre_1 tb e args s)
    (fun _ _ args s o t => lw_Q args s o t) := by
  intro p e ha hc hk s m args below hf hfit hheap happ hpre
  obtain ⟨b, xs, hP⟩ := lw_pre_spec hpre.2.2 hpre.2.1
  obtain ⟨k, o, h1, h2, h3, hQ⟩ := lw_walk l hflags b xs p e ha hc hk s m args below hf ((Spec.applies_iff_loose hf).mp happ).1 hP trivial
  exact ⟨k, o, h1, h2, h3, hQ⟩
theorem lw_frame {s t : State} {o : Outcome} {args : Array Value} (h : Framed s o t [] 600000 7302250) :
    Framed s o t (fieldLocs frame_1_writes args s ++ arrayLocs frame_1_arrays args s ++ staticLocs frame_1_statics s) 600000 7302250 := h
theorem lw_limb (L : Cond) (hL : ∀ (args : Array Value) (s t : State), L.after args s (.returned (some (.int 1))) t = true) :
    ArmFor flags0 classFile x code maxLocals ret World_1 tables_1 room_1 Calls_1 rest_1 Pre_1
      (fun tb e a s o t => postC L tb e a s o t ∧ Framed s o t (fieldLocs frame_1_writes a s ++ arrayLocs frame_1_arrays a s ++ staticLocs frame_1_statics s) 600000 7302250) := by
  intro l hflags _ _ p e ha hc hk s m args below hf hfit hheap happ hpre
  obtain ⟨k, o, h1, h2, h3, rfl, hF⟩ := lw_comes l hflags p e ha hc hk s m args below hf hfit hheap happ hpre
  exact ⟨k, _, h1, h2, h3, hL args s _, lw_frame hF⟩
theorem i_vc : Claimed_1_1 ∧ Claimed_1_2 := ⟨lw_limb limb_1_1 (fun args s t => by simp [limb_1_1, Cond.after, Cond.holds, Cond.value]), lw_limb limb_1_2 (fun args s t => Cond.after_iff.mpr (by
  first | (rw [show limb_1_2 = Cond.eq .result (.int 1) from rfl, Cond.eq_ints (x := 1) (y := 1) rfl rfl]; simp; done) | (simp [limb_1_2, Cond.value, Term.eval]; done)))⟩
