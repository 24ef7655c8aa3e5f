/-! THE WALK, AN INSTRUCTION A ROW -/
def bn_gI (h : bn_H) (p ci k : Nat) (K : Int32 → bn_R) : bn_R := match bn_gf h p ci k with
  | some (.int x) => K x
  | _ => none
def bn_gJ (h : bn_H) (p ci k : Nat) (K : Int64 → bn_R) : bn_R := match bn_gf h p ci k with
  | some (.long x) => K x
  | _ => none
def bn_gR (h : bn_H) (p ci k : Nat) (K : Nat → bn_R) : bn_R := match bn_gf h p ci k with
  | some (.ref x) => K x
  | _ => none
def bn_cI (x : bn_R) (K : Int32 → bn_H → bn_R) : bn_R := match x with
  | some (some (.int v), h) => K v h
  | _ => none
def bn_cJ (x : bn_R) (K : Int64 → bn_H → bn_R) : bn_R := match x with
  | some (some (.long v), h) => K v h
  | _ => none
def bn_cV (x : bn_R) (K : bn_H → bn_R) : bn_R := match x with
  | some (none, h) => K h
  | _ => none
def bn_gd (c : Bool) (X : bn_R) : bn_R := if c = true then X else none
theorem bn_ev_x {mi pc len : Nat} {i : Instr} {ls : bn_L} {st : List Value} {h : bn_H} (hd : decode (bn_b mi) pc = .ok (i, len)) (hL : len = bn_ln i len) (hr : bn_rt mi i st = none) (hk : bn_k mi i st h = none) : bn_ev mi pc ls st h = (bn_x mi i pc ls st h).bind fun a => bn_ev mi a.1 a.2.1 a.2.2.1 a.2.2.2 := by
  rw [bn_ev_eq]
  unfold bn_F
  rw [hd]
  dsimp only
  rw [if_pos hL, hr, hk]
theorem bn_ev_r {mi pc len : Nat} {i : Instr} {ls : bn_L} {st : List Value} {h : bn_H} {r : Option Value} (hd : decode (bn_b mi) pc = .ok (i, len)) (hL : len = bn_ln i len) (hr : bn_rt mi i st = some r) : bn_ev mi pc ls st h = some (r, h) := by
  rw [bn_ev_eq]
  unfold bn_F
  rw [hd]
  dsimp only
  rw [if_pos hL, hr]
theorem bn_ev_k {mi pc len mj : Nat} {i : Instr} {ls : bn_L} {st as rr : List Value} {h : bn_H} (hd : decode (bn_b mi) pc = .ok (i, len)) (hL : len = bn_ln i len) (hr : bn_rt mi i st = none) (hk : bn_k mi i st h = some (mj, as, rr)) : bn_ev mi pc ls st h = (bn_ev mj 0 (bn_en mj as) [] h).bind fun a => if bn_okr (bn_r mj) a.1 = true then bn_ev mi (pc + 3) ls (a.1.toList ++ rr) a.2 else none := by
  rw [bn_ev_eq]
  unfold bn_F
  rw [hd]
  dsimp only
  rw [if_pos hL, hr, hk]
theorem bn_cI_k {x : bn_R} {t : Option FieldType} (ht : t = some .int ∨ t = some .boolean) {F : Option Value × bn_H → bn_R} {K : Int32 → bn_H → bn_R} (hF : ∀ v h, F (some (.int v), h) = K v h) : (x.bind fun a => if bn_okr t a.1 = true then F a else none) = bn_cI x K := by
  cases x with
  | none => rfl
  | some a =>
    obtain ⟨r, h⟩ := a
    show (if bn_okr t r = true then F (r, h) else none) = _
    rcases ht with rfl | rfl
    · cases r with
      | none => rfl
      | some v => cases v <;> first | exact hF _ _ | rfl
    · cases r with
      | none => rfl
      | some v => cases v <;> first | exact hF _ _ | rfl
theorem bn_cJ_k {x : bn_R} {F : Option Value × bn_H → bn_R} {K : Int64 → bn_H → bn_R} (hF : ∀ v h, F (some (.long v), h) = K v h) : (x.bind fun a => if bn_okr (some .long) a.1 = true then F a else none) = bn_cJ x K := by
  cases x with
  | none => rfl
  | some a =>
    obtain ⟨r, h⟩ := a
    show (if bn_okr (some .long) r = true then F (r, h) else none) = _
    cases r with
    | none => rfl
    | some v => cases v <;> first | exact hF _ _ | rfl
theorem bn_cV_k {x : bn_R} {F : Option Value × bn_H → bn_R} {K : bn_H → bn_R} (hF : ∀ h, F (none, h) = K h) : (x.bind fun a => if bn_okr none a.1 = true then F a else none) = bn_cV x K := by
  cases x with
  | none => rfl
  | some a =>
    obtain ⟨r, h⟩ := a
    show (if bn_okr none r = true then F (r, h) else none) = _
    cases r with
    | none => exact hF _
    | some v => cases v <;> rfl
section ES
variable {mi pc : Nat} {ls : bn_L} {st : List Value} {h : bn_H}
theorem be_iconst {n : Int} {v : Int32} (hd : decode (bn_b mi) pc = .ok (.iconst n, 1)) (hv : Int32.ofInt n = v) : bn_ev mi pc ls (st) h = bn_ev mi (pc + 1) ls (.int v :: st) h := by
  rw [bn_ev_x hd rfl rfl rfl]
  subst hv; rfl
theorem be_bipush {n : Int} {v : Int32} (hd : decode (bn_b mi) pc = .ok (.bipush n, 2)) (hv : (Int8.ofInt n).toInt32 = v) : bn_ev mi pc ls (st) h = bn_ev mi (pc + 2) ls (.int v :: st) h := by
  rw [bn_ev_x hd rfl rfl rfl]
  subst hv; rfl
theorem be_sipush {n : Int} {v : Int32} (hd : decode (bn_b mi) pc = .ok (.sipush n, 3)) (hv : (Int16.ofInt n).toInt32 = v) : bn_ev mi pc ls (st) h = bn_ev mi (pc + 3) ls (.int v :: st) h := by
  rw [bn_ev_x hd rfl rfl rfl]
  subst hv; rfl
theorem be_lconst {n : Fin 2} {v : Int64} (hd : decode (bn_b mi) pc = .ok (.lconst n, 1)) (hv : Int64.ofNat (n : Nat) = v) : bn_ev mi pc ls (st) h = bn_ev mi (pc + 1) ls (.long v :: st) h := by
  rw [bn_ev_x hd rfl rfl rfl]
  subst hv; rfl
theorem be_ldcw {k : Nat} {v : Int32} (hd : decode (bn_b mi) pc = .ok (.ldc_w k, 3)) (hv : bn_ki (bn_c mi) k = some v) : bn_ev mi pc ls (st) h = bn_ev mi (pc + 3) ls (.int v :: st) h := by
  rw [bn_ev_x hd rfl rfl rfl]
  simp only [bn_x]; rw [hv]; rfl
theorem be_ldc2w {k : Nat} {v : Int64} (hd : decode (bn_b mi) pc = .ok (.ldc2_w k, 3)) (hv : bn_kl (bn_c mi) k = some v) : bn_ev mi pc ls (st) h = bn_ev mi (pc + 3) ls (.long v :: st) h := by
  rw [bn_ev_x hd rfl rfl rfl]
  simp only [bn_x]; rw [hv]; rfl
theorem be_iload_n {k : Fin 4} {x : Int32} (hd : decode (bn_b mi) pc = .ok (.iload_n k, 1)) (hx : bn_get ls k = some (.int x)) : bn_ev mi pc ls (st) h = bn_ev mi (pc + 1) ls (.int x :: st) h := by
  rw [bn_ev_x hd rfl rfl rfl]
  simp only [bn_x, bn_i1]; rw [hx]; rfl
theorem be_iload {k : Nat} {x : Int32} (hd : decode (bn_b mi) pc = .ok (.iload k, 2)) (hx : bn_get ls k = some (.int x)) : bn_ev mi pc ls (st) h = bn_ev mi (pc + 2) ls (.int x :: st) h := by
  rw [bn_ev_x hd rfl rfl rfl]
  simp only [bn_x, bn_i1]; rw [hx]; rfl
theorem be_lload_n {k : Fin 4} {x : Int64} (hd : decode (bn_b mi) pc = .ok (.lload_n k, 1)) (hx : bn_get ls k = some (.long x)) : bn_ev mi pc ls (st) h = bn_ev mi (pc + 1) ls (.long x :: st) h := by
  rw [bn_ev_x hd rfl rfl rfl]
  simp only [bn_x, bn_l1]; rw [hx]; rfl
theorem be_lload {k : Nat} {x : Int64} (hd : decode (bn_b mi) pc = .ok (.lload k, 2)) (hx : bn_get ls k = some (.long x)) : bn_ev mi pc ls (st) h = bn_ev mi (pc + 2) ls (.long x :: st) h := by
  rw [bn_ev_x hd rfl rfl rfl]
  simp only [bn_x, bn_l1]; rw [hx]; rfl
theorem be_aload_n {k : Fin 4} {x : Nat} (hd : decode (bn_b mi) pc = .ok (.aload_n k, 1)) (hx : bn_get ls k = some (.ref x)) : bn_ev mi pc ls (st) h = bn_ev mi (pc + 1) ls (.ref x :: st) h := by
  rw [bn_ev_x hd rfl rfl rfl]
  simp only [bn_x, bn_a1]; rw [hx]; rfl
theorem be_aload {k : Nat} {x : Nat} (hd : decode (bn_b mi) pc = .ok (.aload k, 2)) (hx : bn_get ls k = some (.ref x)) : bn_ev mi pc ls (st) h = bn_ev mi (pc + 2) ls (.ref x :: st) h := by
  rw [bn_ev_x hd rfl rfl rfl]
  simp only [bn_x, bn_a1]; rw [hx]; rfl
theorem be_sload_n {k : Fin 4} {x : Nat} (hd : decode (bn_b mi) pc = .ok (.aload_n k, 1)) (hx : bn_get ls k = some (.retAddr x)) : bn_ev mi pc ls (st) h = bn_ev mi (pc + 1) ls (.retAddr x :: st) h := by
  rw [bn_ev_x hd rfl rfl rfl]
  simp only [bn_x, bn_a1]; rw [hx]; rfl
theorem be_istore_n {k : Fin 4} {x : Int32} {ls' : bn_L} (hd : decode (bn_b mi) pc = .ok (.istore_n k, 1)) (hk : (k : Nat) < bn_m mi) (hl : bn_st1 ls k (.int x) = ls') : bn_ev mi pc ls (.int x :: st) h = bn_ev mi (pc + 1) ls' st h := by
  rw [bn_ev_x hd rfl rfl rfl]
  subst hl; simp only [bn_x, bn_iso]; rw [if_pos hk]; rfl
theorem be_istore {k : Nat} {x : Int32} {ls' : bn_L} (hd : decode (bn_b mi) pc = .ok (.istore k, 2)) (hk : k < bn_m mi) (hl : bn_st1 ls k (.int x) = ls') : bn_ev mi pc ls (.int x :: st) h = bn_ev mi (pc + 2) ls' st h := by
  rw [bn_ev_x hd rfl rfl rfl]
  subst hl; simp only [bn_x, bn_iso]; rw [if_pos hk]; rfl
theorem be_lstore_n {k : Fin 4} {x : Int64} {ls' : bn_L} (hd : decode (bn_b mi) pc = .ok (.lstore_n k, 1)) (hk : (k : Nat) + 1 < bn_m mi) (hl : bn_st2 ls k (.long x) = ls') : bn_ev mi pc ls (.long x :: st) h = bn_ev mi (pc + 1) ls' st h := by
  rw [bn_ev_x hd rfl rfl rfl]
  subst hl; simp only [bn_x, bn_lst]; rw [if_pos hk]; rfl
theorem be_lstore {k : Nat} {x : Int64} {ls' : bn_L} (hd : decode (bn_b mi) pc = .ok (.lstore k, 2)) (hk : k + 1 < bn_m mi) (hl : bn_st2 ls k (.long x) = ls') : bn_ev mi pc ls (.long x :: st) h = bn_ev mi (pc + 2) ls' st h := by
  rw [bn_ev_x hd rfl rfl rfl]
  subst hl; simp only [bn_x, bn_lst]; rw [if_pos hk]; rfl
theorem be_astore_n {k : Fin 4} {x : Nat} {ls' : bn_L} (hd : decode (bn_b mi) pc = .ok (.astore_n k, 1)) (hk : (k : Nat) < bn_m mi) (hl : bn_st1 ls k (.ref x) = ls') : bn_ev mi pc ls (.ref x :: st) h = bn_ev mi (pc + 1) ls' st h := by
  rw [bn_ev_x hd rfl rfl rfl]
  subst hl; simp only [bn_x, bn_as]; rw [if_pos hk]; rfl
theorem be_astore {k : Nat} {x : Nat} {ls' : bn_L} (hd : decode (bn_b mi) pc = .ok (.astore k, 2)) (hk : k < bn_m mi) (hl : bn_st1 ls k (.ref x) = ls') : bn_ev mi pc ls (.ref x :: st) h = bn_ev mi (pc + 2) ls' st h := by
  rw [bn_ev_x hd rfl rfl rfl]
  subst hl; simp only [bn_x, bn_as]; rw [if_pos hk]; rfl
theorem be_iinc {k : Nat} {n : Int} {x v : Int32} {ls' : bn_L} (hd : decode (bn_b mi) pc = .ok (.iinc k n, 3)) (hx : bn_get ls k = some (.int x)) (hv : Int32.ofInt n = v) (hk : k < bn_m mi) (hl : bn_st1 ls k (.int (x + v)) = ls') : bn_ev mi pc ls (st) h = bn_ev mi (pc + 3) ls' st h := by
  rw [bn_ev_x hd rfl rfl rfl]
  subst hl; subst hv; simp only [bn_x]; rw [hx]; dsimp only; rw [if_pos hk]; rfl
theorem be_iadd {x y : Int32} (hd : decode (bn_b mi) pc = .ok (.iadd, 1))  : bn_ev mi pc ls (.int y :: .int x :: st) h = bn_ev mi (pc + 1) ls (.int (x + y) :: st) h := by
  rw [bn_ev_x hd rfl rfl rfl]
  rfl
theorem be_isub {x y : Int32} (hd : decode (bn_b mi) pc = .ok (.isub, 1))  : bn_ev mi pc ls (.int y :: .int x :: st) h = bn_ev mi (pc + 1) ls (.int (x - y) :: st) h := by
  rw [bn_ev_x hd rfl rfl rfl]
  rfl
theorem be_imul {x y : Int32} (hd : decode (bn_b mi) pc = .ok (.imul, 1))  : bn_ev mi pc ls (.int y :: .int x :: st) h = bn_ev mi (pc + 1) ls (.int (x * y) :: st) h := by
  rw [bn_ev_x hd rfl rfl rfl]
  rfl
theorem be_iand {x y : Int32} (hd : decode (bn_b mi) pc = .ok (.iand, 1))  : bn_ev mi pc ls (.int y :: .int x :: st) h = bn_ev mi (pc + 1) ls (.int (x &&& y) :: st) h := by
  rw [bn_ev_x hd rfl rfl rfl]
  rfl
theorem be_ior {x y : Int32} (hd : decode (bn_b mi) pc = .ok (.ior, 1))  : bn_ev mi pc ls (.int y :: .int x :: st) h = bn_ev mi (pc + 1) ls (.int (x ||| y) :: st) h := by
  rw [bn_ev_x hd rfl rfl rfl]
  rfl
theorem be_ixor {x y : Int32} (hd : decode (bn_b mi) pc = .ok (.ixor, 1))  : bn_ev mi pc ls (.int y :: .int x :: st) h = bn_ev mi (pc + 1) ls (.int (x ^^^ y) :: st) h := by
  rw [bn_ev_x hd rfl rfl rfl]
  rfl
theorem be_ishl {x y : Int32} (hd : decode (bn_b mi) pc = .ok (.ishl, 1))  : bn_ev mi pc ls (.int y :: .int x :: st) h = bn_ev mi (pc + 1) ls (.int (bn_shl x y) :: st) h := by
  rw [bn_ev_x hd rfl rfl rfl]
  rfl
theorem be_ishr {x y : Int32} (hd : decode (bn_b mi) pc = .ok (.ishr, 1))  : bn_ev mi pc ls (.int y :: .int x :: st) h = bn_ev mi (pc + 1) ls (.int (bn_shr x y) :: st) h := by
  rw [bn_ev_x hd rfl rfl rfl]
  rfl
theorem be_iushr {x y : Int32} (hd : decode (bn_b mi) pc = .ok (.iushr, 1))  : bn_ev mi pc ls (.int y :: .int x :: st) h = bn_ev mi (pc + 1) ls (.int (bn_ushr x y) :: st) h := by
  rw [bn_ev_x hd rfl rfl rfl]
  rfl
theorem be_ladd {x y : Int64} (hd : decode (bn_b mi) pc = .ok (.ladd, 1))  : bn_ev mi pc ls (.long y :: .long x :: st) h = bn_ev mi (pc + 1) ls (.long (x + y) :: st) h := by
  rw [bn_ev_x hd rfl rfl rfl]
  rfl
theorem be_lsub {x y : Int64} (hd : decode (bn_b mi) pc = .ok (.lsub, 1))  : bn_ev mi pc ls (.long y :: .long x :: st) h = bn_ev mi (pc + 1) ls (.long (x - y) :: st) h := by
  rw [bn_ev_x hd rfl rfl rfl]
  rfl
theorem be_lmul {x y : Int64} (hd : decode (bn_b mi) pc = .ok (.lmul, 1))  : bn_ev mi pc ls (.long y :: .long x :: st) h = bn_ev mi (pc + 1) ls (.long (x * y) :: st) h := by
  rw [bn_ev_x hd rfl rfl rfl]
  rfl
theorem be_land {x y : Int64} (hd : decode (bn_b mi) pc = .ok (.land, 1))  : bn_ev mi pc ls (.long y :: .long x :: st) h = bn_ev mi (pc + 1) ls (.long (x &&& y) :: st) h := by
  rw [bn_ev_x hd rfl rfl rfl]
  rfl
theorem be_lor {x y : Int64} (hd : decode (bn_b mi) pc = .ok (.lor, 1))  : bn_ev mi pc ls (.long y :: .long x :: st) h = bn_ev mi (pc + 1) ls (.long (x ||| y) :: st) h := by
  rw [bn_ev_x hd rfl rfl rfl]
  rfl
theorem be_lushr {x : Int64} {y : Int32} (hd : decode (bn_b mi) pc = .ok (.lushr, 1))  : bn_ev mi pc ls (.int y :: .long x :: st) h = bn_ev mi (pc + 1) ls (.long (bn_lushr x y) :: st) h := by
  rw [bn_ev_x hd rfl rfl rfl]
  rfl
theorem be_lshl {x : Int64} {y : Int32} (hd : decode (bn_b mi) pc = .ok (.lshl, 1))  : bn_ev mi pc ls (.int y :: .long x :: st) h = bn_ev mi (pc + 1) ls (.long (bn_lshl x y) :: st) h := by
  rw [bn_ev_x hd rfl rfl rfl]
  rfl
theorem be_lshr {x : Int64} {y : Int32} (hd : decode (bn_b mi) pc = .ok (.lshr, 1))  : bn_ev mi pc ls (.int y :: .long x :: st) h = bn_ev mi (pc + 1) ls (.long (bn_lshr x y) :: st) h := by
  rw [bn_ev_x hd rfl rfl rfl]
  rfl
theorem be_idiv {x y : Int32} (hd : decode (bn_b mi) pc = .ok (.idiv, 1))  : bn_ev mi pc ls (.int y :: .int x :: st) h = if y = 0 then none else bn_ev mi (pc + 1) ls (.int (x / y) :: st) h := by
  rw [bn_ev_x hd rfl rfl rfl]
  simp only [bn_x, bn_idv]; split <;> rfl
theorem be_irem {x y : Int32} (hd : decode (bn_b mi) pc = .ok (.irem, 1))  : bn_ev mi pc ls (.int y :: .int x :: st) h = if y = 0 then none else bn_ev mi (pc + 1) ls (.int (bn_rem x y) :: st) h := by
  rw [bn_ev_x hd rfl rfl rfl]
  simp only [bn_x, bn_idv]; split <;> rfl
theorem be_ldiv {x y : Int64} (hd : decode (bn_b mi) pc = .ok (.ldiv, 1))  : bn_ev mi pc ls (.long y :: .long x :: st) h = if y = 0 then none else bn_ev mi (pc + 1) ls (.long (x / y) :: st) h := by
  rw [bn_ev_x hd rfl rfl rfl]
  simp only [bn_x, bn_ldv]; split <;> rfl
theorem be_lrem {x y : Int64} (hd : decode (bn_b mi) pc = .ok (.lrem, 1))  : bn_ev mi pc ls (.long y :: .long x :: st) h = if y = 0 then none else bn_ev mi (pc + 1) ls (.long (bn_lrem x y) :: st) h := by
  rw [bn_ev_x hd rfl rfl rfl]
  simp only [bn_x, bn_ldv]; split <;> rfl
theorem be_idiv_c {x y : Int32} (hd : decode (bn_b mi) pc = .ok (.idiv, 1)) (hy : ¬ y = 0) : bn_ev mi pc ls (.int y :: .int x :: st) h = bn_ev mi (pc + 1) ls (.int (x / y) :: st) h := by
  rw [bn_ev_x hd rfl rfl rfl]
  simp only [bn_x, bn_idv]; rw [if_neg hy]; rfl
theorem be_irem_c {x y : Int32} (hd : decode (bn_b mi) pc = .ok (.irem, 1)) (hy : ¬ y = 0) : bn_ev mi pc ls (.int y :: .int x :: st) h = bn_ev mi (pc + 1) ls (.int (bn_rem x y) :: st) h := by
  rw [bn_ev_x hd rfl rfl rfl]
  simp only [bn_x, bn_idv]; rw [if_neg hy]; rfl
theorem be_i2l {x : Int32} (hd : decode (bn_b mi) pc = .ok (.i2l, 1))  : bn_ev mi pc ls (.int x :: st) h = bn_ev mi (pc + 1) ls (.long x.toInt64 :: st) h := by
  rw [bn_ev_x hd rfl rfl rfl]
  rfl
theorem be_l2i {x : Int64} (hd : decode (bn_b mi) pc = .ok (.l2i, 1))  : bn_ev mi pc ls (.long x :: st) h = bn_ev mi (pc + 1) ls (.int x.toInt32 :: st) h := by
  rw [bn_ev_x hd rfl rfl rfl]
  rfl
theorem be_lcmp {x y : Int64} (hd : decode (bn_b mi) pc = .ok (.lcmp, 1))  : bn_ev mi pc ls (.long y :: .long x :: st) h = bn_ev mi (pc + 1) ls (.int (lg_cmp x y) :: st) h := by
  rw [bn_ev_x hd rfl rfl rfl]
  rfl
theorem be_dup {v : Value} (hd : decode (bn_b mi) pc = .ok (.dup, 1)) (hv : v.category = 1) : bn_ev mi pc ls (v :: st) h = bn_ev mi (pc + 1) ls (v :: v :: st) h := by
  rw [bn_ev_x hd rfl rfl rfl]
  simp only [bn_x]; rw [if_pos hv]; rfl
theorem be_dup2 {v w : Value} (hd : decode (bn_b mi) pc = .ok (.dup2, 1)) (hv : v.category = 1 ∧ w.category = 1) : bn_ev mi pc ls (v :: w :: st) h = bn_ev mi (pc + 1) ls (v :: w :: v :: w :: st) h := by
  rw [bn_ev_x hd rfl rfl rfl]
  simp only [bn_x]; rw [if_pos hv]; rfl
theorem be_pop {v : Value} (hd : decode (bn_b mi) pc = .ok (.pop, 1)) (hv : v.category = 1) : bn_ev mi pc ls (v :: st) h = bn_ev mi (pc + 1) ls st h := by
  rw [bn_ev_x hd rfl rfl rfl]
  simp only [bn_x]; rw [if_pos hv]; rfl
theorem be_goto {off : Int} {t : Nat} (hd : decode (bn_b mi) pc = .ok (.goto off, 3)) (ht : bn_tg pc off = some t) : bn_ev mi pc ls (st) h = bn_ev mi t ls st h := by
  rw [bn_ev_x hd rfl rfl rfl]
  simp only [bn_x]; rw [ht]; rfl
theorem be_icmp_eq {off : Int} {t : Nat} {x y : Int32} (hd : decode (bn_b mi) pc = .ok (.if_icmp .eq off, 3)) (ht : bn_tg pc off = some t) : bn_ev mi pc ls (.int y :: .int x :: st) h = if x = y then bn_ev mi t ls st h else bn_ev mi (pc + 3) ls st h := by
  rw [bn_ev_x hd rfl rfl rfl]
  simp only [bn_x, bn_cm]; rw [ht]; simp only [Option.map_some, Option.bind_some, decide_eq_true_eq, Bool.not_eq_true', decide_eq_false_iff_not]; split <;> simp_all
theorem be_if_eq {off : Int} {t : Nat} {x : Int32} (hd : decode (bn_b mi) pc = .ok (.ifCond .eq off, 3)) (ht : bn_tg pc off = some t) : bn_ev mi pc ls (.int x :: st) h = if x = 0 then bn_ev mi t ls st h else bn_ev mi (pc + 3) ls st h := by
  rw [bn_ev_x hd rfl rfl rfl]
  simp only [bn_x, bn_cm]; rw [ht]; simp only [Option.map_some, Option.bind_some, decide_eq_true_eq, Bool.not_eq_true', decide_eq_false_iff_not]; split <;> simp_all
theorem be_icmp_ne {off : Int} {t : Nat} {x y : Int32} (hd : decode (bn_b mi) pc = .ok (.if_icmp .ne off, 3)) (ht : bn_tg pc off = some t) : bn_ev mi pc ls (.int y :: .int x :: st) h = if x = y then bn_ev mi (pc + 3) ls st h else bn_ev mi t ls st h := by
  rw [bn_ev_x hd rfl rfl rfl]
  simp only [bn_x, bn_cm]; rw [ht]; simp only [Option.map_some, Option.bind_some, decide_eq_true_eq, Bool.not_eq_true', decide_eq_false_iff_not]; split <;> simp_all
theorem be_if_ne {off : Int} {t : Nat} {x : Int32} (hd : decode (bn_b mi) pc = .ok (.ifCond .ne off, 3)) (ht : bn_tg pc off = some t) : bn_ev mi pc ls (.int x :: st) h = if x = 0 then bn_ev mi (pc + 3) ls st h else bn_ev mi t ls st h := by
  rw [bn_ev_x hd rfl rfl rfl]
  simp only [bn_x, bn_cm]; rw [ht]; simp only [Option.map_some, Option.bind_some, decide_eq_true_eq, Bool.not_eq_true', decide_eq_false_iff_not]; split <;> simp_all
theorem be_icmp_lt {off : Int} {t : Nat} {x y : Int32} (hd : decode (bn_b mi) pc = .ok (.if_icmp .lt off, 3)) (ht : bn_tg pc off = some t) : bn_ev mi pc ls (.int y :: .int x :: st) h = if x < y then bn_ev mi t ls st h else bn_ev mi (pc + 3) ls st h := by
  rw [bn_ev_x hd rfl rfl rfl]
  simp only [bn_x, bn_cm]; rw [ht]; simp only [Option.map_some, Option.bind_some, decide_eq_true_eq, Bool.not_eq_true', decide_eq_false_iff_not]; split <;> simp_all
theorem be_if_lt {off : Int} {t : Nat} {x : Int32} (hd : decode (bn_b mi) pc = .ok (.ifCond .lt off, 3)) (ht : bn_tg pc off = some t) : bn_ev mi pc ls (.int x :: st) h = if x < 0 then bn_ev mi t ls st h else bn_ev mi (pc + 3) ls st h := by
  rw [bn_ev_x hd rfl rfl rfl]
  simp only [bn_x, bn_cm]; rw [ht]; simp only [Option.map_some, Option.bind_some, decide_eq_true_eq, Bool.not_eq_true', decide_eq_false_iff_not]; split <;> simp_all
theorem be_icmp_ge {off : Int} {t : Nat} {x y : Int32} (hd : decode (bn_b mi) pc = .ok (.if_icmp .ge off, 3)) (ht : bn_tg pc off = some t) : bn_ev mi pc ls (.int y :: .int x :: st) h = if y ≤ x then bn_ev mi t ls st h else bn_ev mi (pc + 3) ls st h := by
  rw [bn_ev_x hd rfl rfl rfl]
  simp only [bn_x, bn_cm]; rw [ht]; simp only [Option.map_some, Option.bind_some, decide_eq_true_eq, Bool.not_eq_true', decide_eq_false_iff_not]; split <;> simp_all
theorem be_if_ge {off : Int} {t : Nat} {x : Int32} (hd : decode (bn_b mi) pc = .ok (.ifCond .ge off, 3)) (ht : bn_tg pc off = some t) : bn_ev mi pc ls (.int x :: st) h = if 0 ≤ x then bn_ev mi t ls st h else bn_ev mi (pc + 3) ls st h := by
  rw [bn_ev_x hd rfl rfl rfl]
  simp only [bn_x, bn_cm]; rw [ht]; simp only [Option.map_some, Option.bind_some, decide_eq_true_eq, Bool.not_eq_true', decide_eq_false_iff_not]; split <;> simp_all
theorem be_icmp_gt {off : Int} {t : Nat} {x y : Int32} (hd : decode (bn_b mi) pc = .ok (.if_icmp .gt off, 3)) (ht : bn_tg pc off = some t) : bn_ev mi pc ls (.int y :: .int x :: st) h = if y < x then bn_ev mi t ls st h else bn_ev mi (pc + 3) ls st h := by
  rw [bn_ev_x hd rfl rfl rfl]
  simp only [bn_x, bn_cm]; rw [ht]; simp only [Option.map_some, Option.bind_some, decide_eq_true_eq, Bool.not_eq_true', decide_eq_false_iff_not]; split <;> simp_all
theorem be_if_gt {off : Int} {t : Nat} {x : Int32} (hd : decode (bn_b mi) pc = .ok (.ifCond .gt off, 3)) (ht : bn_tg pc off = some t) : bn_ev mi pc ls (.int x :: st) h = if 0 < x then bn_ev mi t ls st h else bn_ev mi (pc + 3) ls st h := by
  rw [bn_ev_x hd rfl rfl rfl]
  simp only [bn_x, bn_cm]; rw [ht]; simp only [Option.map_some, Option.bind_some, decide_eq_true_eq, Bool.not_eq_true', decide_eq_false_iff_not]; split <;> simp_all
theorem be_icmp_le {off : Int} {t : Nat} {x y : Int32} (hd : decode (bn_b mi) pc = .ok (.if_icmp .le off, 3)) (ht : bn_tg pc off = some t) : bn_ev mi pc ls (.int y :: .int x :: st) h = if x ≤ y then bn_ev mi t ls st h else bn_ev mi (pc + 3) ls st h := by
  rw [bn_ev_x hd rfl rfl rfl]
  simp only [bn_x, bn_cm]; rw [ht]; simp only [Option.map_some, Option.bind_some, decide_eq_true_eq, Bool.not_eq_true', decide_eq_false_iff_not]; split <;> simp_all
theorem be_if_le {off : Int} {t : Nat} {x : Int32} (hd : decode (bn_b mi) pc = .ok (.ifCond .le off, 3)) (ht : bn_tg pc off = some t) : bn_ev mi pc ls (.int x :: st) h = if x ≤ 0 then bn_ev mi t ls st h else bn_ev mi (pc + 3) ls st h := by
  rw [bn_ev_x hd rfl rfl rfl]
  simp only [bn_x, bn_cm]; rw [ht]; simp only [Option.map_some, Option.bind_some, decide_eq_true_eq, Bool.not_eq_true', decide_eq_false_iff_not]; split <;> simp_all
theorem be_getI {k p ci j : Nat} (hd : decode (bn_b mi) pc = .ok (.getfield k, 3)) (hf : bn_fl (bn_c mi) k = some (ci, j)) (hty : bn_ty ci j = .int) : bn_ev mi pc ls (.ref p :: st) h = bn_gI h p ci j (fun x => bn_ev mi (pc + 3) ls (.int x :: st) h) := by
  rw [bn_ev_x hd rfl rfl rfl]
  simp only [bn_x]; rw [hf]; simp only [Option.bind_some, hty, bn_gI]
  cases hg : bn_gf h p ci j with
  | none => rfl
  | some v => cases v <;> rfl
theorem be_getJ {k p ci j : Nat} (hd : decode (bn_b mi) pc = .ok (.getfield k, 3)) (hf : bn_fl (bn_c mi) k = some (ci, j)) (hty : bn_ty ci j = .long) : bn_ev mi pc ls (.ref p :: st) h = bn_gJ h p ci j (fun x => bn_ev mi (pc + 3) ls (.long x :: st) h) := by
  rw [bn_ev_x hd rfl rfl rfl]
  simp only [bn_x]; rw [hf]; simp only [Option.bind_some, hty, bn_gJ]
  cases hg : bn_gf h p ci j with
  | none => rfl
  | some v => cases v <;> rfl
theorem be_getR {k p ci j : Nat} {ty : FieldType} (hd : decode (bn_b mi) pc = .ok (.getfield k, 3)) (hf : bn_fl (bn_c mi) k = some (ci, j)) (hty : bn_ty ci j = ty) (hr : (∃ t, ty = .array t) ∨ ∃ t, ty = .object t) : bn_ev mi pc ls (.ref p :: st) h = bn_gR h p ci j (fun x => bn_ev mi (pc + 3) ls (.ref x :: st) h) := by
  rw [bn_ev_x hd rfl rfl rfl]
  simp only [bn_x]; rw [hf]; simp only [Option.bind_some, hty, bn_gR]
  cases hg : bn_gf h p ci j with
  | none => rfl
  | some v => rcases hr with ⟨t, rfl⟩ | ⟨t, rfl⟩ <;> cases v <;> rfl
theorem be_putI {k p ci j : Nat} {x : Int32} (hd : decode (bn_b mi) pc = .ok (.putfield k, 3)) (hf : bn_fl (bn_c mi) k = some (ci, j)) (hty : bn_ty ci j = .int) (hfi : (bn_T ci j).2.2.2 = false) : bn_ev mi pc ls (.int x :: .ref p :: st) h = (bn_pf h p ci j (.int x)).bind fun h' => bn_ev mi (pc + 3) ls st h' := by
  rw [bn_ev_x hd rfl rfl rfl]
  simp only [bn_x]; rw [hf]; simp only [Option.bind_some, hty]
  rw [if_pos ⟨rfl, rfl, Or.inl hfi⟩]
  cases bn_pf h p ci j _ <;> rfl
theorem be_putJ {k p ci j : Nat} {x : Int64} (hd : decode (bn_b mi) pc = .ok (.putfield k, 3)) (hf : bn_fl (bn_c mi) k = some (ci, j)) (hty : bn_ty ci j = .long) (hfi : (bn_T ci j).2.2.2 = false) : bn_ev mi pc ls (.long x :: .ref p :: st) h = (bn_pf h p ci j (.long x)).bind fun h' => bn_ev mi (pc + 3) ls st h' := by
  rw [bn_ev_x hd rfl rfl rfl]
  simp only [bn_x]; rw [hf]; simp only [Option.bind_some, hty]
  rw [if_pos ⟨rfl, rfl, Or.inl hfi⟩]
  cases bn_pf h p ci j _ <;> rfl
theorem be_putR {k p ci j x : Nat} {ty : FieldType} (hd : decode (bn_b mi) pc = .ok (.putfield k, 3)) (hf : bn_fl (bn_c mi) k = some (ci, j)) (hty : bn_ty ci j = ty) (hr : (∃ t, ty = .array t) ∨ ∃ t, ty = .object t) (hfi : (bn_T ci j).2.2.2 = false ∨ (bn_i mi = true ∧ (bn_T ci j).1 = bn_cn (bn_c mi))) : bn_ev mi pc ls (.ref x :: .ref p :: st) h = (bn_pf h p ci j (.ref x)).bind fun h' => bn_ev mi (pc + 3) ls st h' := by
  rw [bn_ev_x hd rfl rfl rfl]
  simp only [bn_x]; rw [hf]; simp only [Option.bind_some, hty]
  rw [if_pos ⟨by rcases hr with ⟨t, rfl⟩ | ⟨t, rfl⟩ <;> rfl, by rcases hr with ⟨t, rfl⟩ | ⟨t, rfl⟩ <;> rfl, hfi⟩]
  cases bn_pf h p ci j _ <;> rfl
theorem be_iaload {p : Nat} {i : Int32} (hd : decode (bn_b mi) pc = .ok (.iaload, 1))  : bn_ev mi pc ls (.int i :: .ref p :: st) h = (bn_ld h p 0 i).bind fun x => bn_ev mi (pc + 1) ls (.int x :: st) h := by
  rw [bn_ev_x hd rfl rfl rfl]
  simp only [bn_x]; cases bn_ld h p 0 i <;> rfl
theorem be_saload {p : Nat} {i : Int32} (hd : decode (bn_b mi) pc = .ok (.iaload, 1))  : bn_ev mi pc ls (.int i :: .retAddr p :: st) h = if i < 0 ∨ h.1.1 ≤ i.toNatClampNeg then none else bn_ev mi (pc + 1) ls (.int (h.1.2 i.toNatClampNeg) :: st) h := by
  rw [bn_ev_x hd rfl rfl rfl]
  simp only [bn_x]; split <;> rfl
theorem be_baload {p : Nat} {i : Int32} (hd : decode (bn_b mi) pc = .ok (.baload, 1))  : bn_ev mi pc ls (.int i :: .ref p :: st) h = (bn_ld h p 1 i).bind fun x => bn_ev mi (pc + 1) ls (.int x :: st) h := by
  rw [bn_ev_x hd rfl rfl rfl]
  simp only [bn_x]; cases bn_ld h p 1 i <;> rfl
theorem be_laload {p : Nat} {i : Int32} (hd : decode (bn_b mi) pc = .ok (.laload, 1))  : bn_ev mi pc ls (.int i :: .ref p :: st) h = (bn_lld h p i).bind fun x => bn_ev mi (pc + 1) ls (.long x :: st) h := by
  rw [bn_ev_x hd rfl rfl rfl]
  simp only [bn_x]; cases bn_lld h p i <;> rfl
theorem be_aaload {p : Nat} {i : Int32} (hd : decode (bn_b mi) pc = .ok (.aaload, 1))  : bn_ev mi pc ls (.int i :: .ref p :: st) h = (bn_rld h p i).bind fun x => bn_ev mi (pc + 1) ls (.ref x :: st) h := by
  rw [bn_ev_x hd rfl rfl rfl]
  simp only [bn_x]; cases bn_rld h p i <;> rfl
theorem be_iastore {p : Nat} {i x : Int32} (hd : decode (bn_b mi) pc = .ok (.iastore, 1))  : bn_ev mi pc ls (.int x :: .int i :: .ref p :: st) h = (bn_sd h p 0 i x).bind fun h' => bn_ev mi (pc + 1) ls st h' := by
  rw [bn_ev_x hd rfl rfl rfl]
  simp only [bn_x]; cases bn_sd h p 0 i x <;> rfl
theorem be_bastore {p : Nat} {i x : Int32} (hd : decode (bn_b mi) pc = .ok (.bastore, 1))  : bn_ev mi pc ls (.int x :: .int i :: .ref p :: st) h = (bn_sd h p 1 i (vp_nar .boolean x)).bind fun h' => bn_ev mi (pc + 1) ls st h' := by
  rw [bn_ev_x hd rfl rfl rfl]
  simp only [bn_x]; cases bn_sd h p 1 i (vp_nar .boolean x) <;> rfl
theorem be_lastore {p : Nat} {i : Int32} {x : Int64} (hd : decode (bn_b mi) pc = .ok (.lastore, 1))  : bn_ev mi pc ls (.long x :: .int i :: .ref p :: st) h = (bn_lsd h p i x).bind fun h' => bn_ev mi (pc + 1) ls st h' := by
  rw [bn_ev_x hd rfl rfl rfl]
  simp only [bn_x]; cases bn_lsd h p i x <;> rfl
theorem be_aastore {p x : Nat} {i : Int32} (hd : decode (bn_b mi) pc = .ok (.aastore, 1))  : bn_ev mi pc ls (.ref x :: .int i :: .ref p :: st) h = (bn_rsd h p i x).bind fun h' => bn_ev mi (pc + 1) ls st h' := by
  rw [bn_ev_x hd rfl rfl rfl]
  simp only [bn_x]; cases bn_rsd h p i x <;> rfl
theorem be_arraylength {p : Nat} (hd : decode (bn_b mi) pc = .ok (.arraylength, 1))  : bn_ev mi pc ls (.retAddr p :: st) h = bn_ev mi (pc + 1) ls (.int (Int32.ofNat h.1.1) :: st) h := by
  rw [bn_ev_x hd rfl rfl rfl]
  rfl
theorem be_tabout {dflt lo hi : Int} {offs : Array Int} {len t : Nat} {x : Int32} (hd : decode (bn_b mi) pc = .ok (.tableswitch dflt lo hi offs, len)) (hx : x.toInt < lo ∨ hi < x.toInt) (ht : bn_tg pc dflt = some t) : bn_ev mi pc ls (.int x :: st) h = bn_ev mi t ls st h := by
  rw [bn_ev_x hd rfl rfl rfl]
  simp only [bn_x, bn_ts]
  rw [if_pos hx, Option.bind_some, ht]
  rfl
theorem be_tabin {dflt lo hi off : Int} {offs : Array Int} {len t : Nat} {x : Int32} (hd : decode (bn_b mi) pc = .ok (.tableswitch dflt lo hi offs, len)) (hx : ¬ (x.toInt < lo ∨ hi < x.toInt)) (ho : offs[(x.toInt - lo).toNat]? = some off) (ht : bn_tg pc off = some t) : bn_ev mi pc ls (.int x :: st) h = bn_ev mi t ls st h := by
  rw [bn_ev_x hd rfl rfl rfl]
  simp only [bn_x, bn_ts]
  rw [if_neg hx, ho, Option.bind_some, ht]
  rfl
theorem be_objinit {k p : Nat} (hd : decode (bn_b mi) pc = .ok (.invokespecial k, 3)) (hm : bn_ml (bn_c mi) k = some (4, 0)) (hc : bn_ct st ≤ 8 ∧ 1 ≤ bn_f mi ∧ 26 ≤ bn_l mi) : bn_ev mi pc ls (.ref p :: st) h = bn_ev mi (pc + 3) ls st h := by
  have hk : bn_k mi (.invokespecial k) (.ref p :: st) h = none := by
    simp only [bn_k]
    rw [hm]
    simp only [Option.bind_some]
    split
    · rw [if_neg (by intro q; rcases q.1 with q | q <;> exact absurd q (by decide))]
    · rfl
  rw [bn_ev_x hd rfl rfl hk]
  simp only [bn_x]
  rw [if_pos ⟨hm, hc⟩]
  rfl
theorem bn_k_stat {k m : Nat} (hm : ∃ j, bn_ml (bn_c mi) k = some (m, j) ∧ m ≠ 1) (st : List Value) : bn_k mi (.invokestatic k) st h = none := by
  obtain ⟨j, h1, h2⟩ := hm
  simp only [bn_k]
  rw [h1]
  simp only [Option.bind_some]
  rw [if_neg (fun q => h2 q.1)]
theorem be_copy {k j p q : Nat} {n dp sp : Int32} (hd : decode (bn_b mi) pc = .ok (.invokestatic k, 3)) (hm : bn_ml (bn_c mi) k = some (5, j)) (hc : bn_ct st ≤ 8 ∧ 1 ≤ bn_f mi ∧ 26 ≤ bn_l mi) : bn_ev mi pc ls (.int n :: .int dp :: .ref q :: .int sp :: .ref p :: st) h = (bn_cp h p sp q dp n).bind fun h' => bn_ev mi (pc + 3) ls st h' := by
  rw [bn_ev_x hd rfl rfl (bn_k_stat ⟨j, hm, by decide⟩ _)]
  simp only [bn_x]
  rw [hm]
  rw [if_pos hc]
  cases bn_cp h p sp q dp n <;> rfl
theorem be_max {k j : Nat} {x y : Int32} (hd : decode (bn_b mi) pc = .ok (.invokestatic k, 3)) (hm : bn_ml (bn_c mi) k = some (6, j)) (hc : bn_ct st ≤ 8 ∧ 1 ≤ bn_f mi ∧ 26 ≤ bn_l mi) : bn_ev mi pc ls (.int y :: .int x :: st) h = bn_ev mi (pc + 3) ls (.int (if x < y then y else x) :: st) h := by
  rw [bn_ev_x hd rfl rfl (bn_k_stat ⟨j, hm, by decide⟩ _)]
  simp only [bn_x]
  rw [hm]
  rw [if_pos hc]
  rfl
theorem be_min {k j : Nat} {x y : Int32} (hd : decode (bn_b mi) pc = .ok (.invokestatic k, 3)) (hm : bn_ml (bn_c mi) k = some (7, j)) (hc : bn_ct st ≤ 8 ∧ 1 ≤ bn_f mi ∧ 26 ≤ bn_l mi) : bn_ev mi pc ls (.int y :: .int x :: st) h = bn_ev mi (pc + 3) ls (.int (if y < x then y else x) :: st) h := by
  rw [bn_ev_x hd rfl rfl (bn_k_stat ⟨j, hm, by decide⟩ _)]
  simp only [bn_x, hm]
  rw [if_pos hc]
  rfl
theorem be_virtI {k mj b n : Nat} {as rr : List Value} {en : bn_L} (hd : decode (bn_b mi) pc = .ok (.invokevirtual k, 3)) (hm : bn_ml (bn_c mi) k = some (0, mj)) (hn : bn_p mj = n) (hl : as.length = n) (hen : bn_en mj (.ref b :: as.reverse) = en) (hc : bn_ct rr ≤ 8 ∧ (bn_sl (.ref b :: as.reverse)).length ≤ bn_m mj ∧ bn_f mj + 1 ≤ bn_f mi ∧ 8 + (bn_m mj + 11) + bn_l mj ≤ bn_l mi) (hr : bn_r mj = some .int ∨ bn_r mj = some .boolean) : bn_ev mi pc ls (as ++ .ref b :: rr) h = bn_gd (bn_isC h b (bn_c mj)) (bn_cI (bn_ev mj 0 en [] h) (fun v h' => bn_ev mi (pc + 3) ls (.int v :: rr) h')) := by
  subst hn
  subst hen
  have hdr : (as ++ .ref b :: rr).drop (bn_p mj) = .ref b :: rr := by rw [← hl]; simp
  have htk : (as ++ .ref b :: rr).take (bn_p mj) = as := by rw [← hl]; simp
  by_cases hC : bn_isC h b (bn_c mj) = true
  · have hk : bn_k mi (.invokevirtual k) (as ++ .ref b :: rr) h = some (mj, .ref b :: as.reverse, rr) := by
      simp only [bn_k]
      rw [hm]
      simp only [Option.bind_some]
      rw [hdr, htk]
      dsimp only
      rw [if_pos ⟨trivial, hl, hC, hc⟩]
    rw [bn_ev_k hd rfl rfl hk]
    unfold bn_gd
    rw [if_pos hC]
    exact bn_cI_k hr (fun v h => rfl)
  · have hk : bn_k mi (.invokevirtual k) (as ++ .ref b :: rr) h = none := by
      simp only [bn_k]
      rw [hm]
      simp only [Option.bind_some]
      rw [hdr]
      dsimp only
      rw [if_neg (fun q => hC q.2.2.1)]
    rw [bn_ev_x hd rfl rfl hk]
    unfold bn_gd
    rw [if_neg hC]
    rfl
theorem be_statI {k mj n : Nat} {as rr : List Value} {en : bn_L} (hd : decode (bn_b mi) pc = .ok (.invokestatic k, 3)) (hm : bn_ml (bn_c mi) k = some (1, mj)) (hn : bn_p mj = n) (hl : as.length = n) (hen : bn_en mj as.reverse = en) (hc : bn_ct rr ≤ 8 ∧ (bn_sl as.reverse).length ≤ bn_m mj ∧ bn_f mj + 1 ≤ bn_f mi ∧ 8 + (bn_m mj + 11) + bn_l mj ≤ bn_l mi) (hr : bn_r mj = some .int ∨ bn_r mj = some .boolean) : bn_ev mi pc ls (as ++ rr) h = bn_cI (bn_ev mj 0 en [] h) (fun v h' => bn_ev mi (pc + 3) ls (.int v :: rr) h') := by
  subst hn
  subst hen
  have hdr : (as ++ rr).drop (bn_p mj) = rr := by rw [← hl]; simp
  have htk : (as ++ rr).take (bn_p mj) = as := by rw [← hl]; simp
  have hk : bn_k mi (.invokestatic k) (as ++ rr) h = some (mj, as.reverse, rr) := by
    simp only [bn_k]
    rw [hm]
    simp only [Option.bind_some]
    rw [hdr, htk]
    rw [if_pos ⟨trivial, hl, hc⟩]
  rw [bn_ev_k hd rfl rfl hk]
  exact bn_cI_k hr (fun v h => rfl)
theorem be_virtJ {k mj b n : Nat} {as rr : List Value} {en : bn_L} (hd : decode (bn_b mi) pc = .ok (.invokevirtual k, 3)) (hm : bn_ml (bn_c mi) k = some (0, mj)) (hn : bn_p mj = n) (hl : as.length = n) (hen : bn_en mj (.ref b :: as.reverse) = en) (hc : bn_ct rr ≤ 8 ∧ (bn_sl (.ref b :: as.reverse)).length ≤ bn_m mj ∧ bn_f mj + 1 ≤ bn_f mi ∧ 8 + (bn_m mj + 11) + bn_l mj ≤ bn_l mi) (hr : bn_r mj = some .long) : bn_ev mi pc ls (as ++ .ref b :: rr) h = bn_gd (bn_isC h b (bn_c mj)) (bn_cJ (bn_ev mj 0 en [] h) (fun v h' => bn_ev mi (pc + 3) ls (.long v :: rr) h')) := by
  subst hn
  subst hen
  have hdr : (as ++ .ref b :: rr).drop (bn_p mj) = .ref b :: rr := by rw [← hl]; simp
  have htk : (as ++ .ref b :: rr).take (bn_p mj) = as := by rw [← hl]; simp
  by_cases hC : bn_isC h b (bn_c mj) = true
  · have hk : bn_k mi (.invokevirtual k) (as ++ .ref b :: rr) h = some (mj, .ref b :: as.reverse, rr) := by
      simp only [bn_k]
      rw [hm]
      simp only [Option.bind_some]
      rw [hdr, htk]
      dsimp only
      rw [if_pos ⟨trivial, hl, hC, hc⟩]
    rw [bn_ev_k hd rfl rfl hk]
    unfold bn_gd
    rw [if_pos hC]
    rw [hr]; exact bn_cJ_k (fun v h => rfl)
  · have hk : bn_k mi (.invokevirtual k) (as ++ .ref b :: rr) h = none := by
      simp only [bn_k]
      rw [hm]
      simp only [Option.bind_some]
      rw [hdr]
      dsimp only
      rw [if_neg (fun q => hC q.2.2.1)]
    rw [bn_ev_x hd rfl rfl hk]
    unfold bn_gd
    rw [if_neg hC]
    rfl
theorem be_statJ {k mj n : Nat} {as rr : List Value} {en : bn_L} (hd : decode (bn_b mi) pc = .ok (.invokestatic k, 3)) (hm : bn_ml (bn_c mi) k = some (1, mj)) (hn : bn_p mj = n) (hl : as.length = n) (hen : bn_en mj as.reverse = en) (hc : bn_ct rr ≤ 8 ∧ (bn_sl as.reverse).length ≤ bn_m mj ∧ bn_f mj + 1 ≤ bn_f mi ∧ 8 + (bn_m mj + 11) + bn_l mj ≤ bn_l mi) (hr : bn_r mj = some .long) : bn_ev mi pc ls (as ++ rr) h = bn_cJ (bn_ev mj 0 en [] h) (fun v h' => bn_ev mi (pc + 3) ls (.long v :: rr) h') := by
  subst hn
  subst hen
  have hdr : (as ++ rr).drop (bn_p mj) = rr := by rw [← hl]; simp
  have htk : (as ++ rr).take (bn_p mj) = as := by rw [← hl]; simp
  have hk : bn_k mi (.invokestatic k) (as ++ rr) h = some (mj, as.reverse, rr) := by
    simp only [bn_k]
    rw [hm]
    simp only [Option.bind_some]
    rw [hdr, htk]
    rw [if_pos ⟨trivial, hl, hc⟩]
  rw [bn_ev_k hd rfl rfl hk]
  rw [hr]; exact bn_cJ_k (fun v h => rfl)
theorem be_virtV {k mj b n : Nat} {as rr : List Value} {en : bn_L} (hd : decode (bn_b mi) pc = .ok (.invokevirtual k, 3)) (hm : bn_ml (bn_c mi) k = some (0, mj)) (hn : bn_p mj = n) (hl : as.length = n) (hen : bn_en mj (.ref b :: as.reverse) = en) (hc : bn_ct rr ≤ 8 ∧ (bn_sl (.ref b :: as.reverse)).length ≤ bn_m mj ∧ bn_f mj + 1 ≤ bn_f mi ∧ 8 + (bn_m mj + 11) + bn_l mj ≤ bn_l mi) (hr : bn_r mj = none) : bn_ev mi pc ls (as ++ .ref b :: rr) h = bn_gd (bn_isC h b (bn_c mj)) (bn_cV (bn_ev mj 0 en [] h) (fun h' => bn_ev mi (pc + 3) ls rr h')) := by
  subst hn
  subst hen
  have hdr : (as ++ .ref b :: rr).drop (bn_p mj) = .ref b :: rr := by rw [← hl]; simp
  have htk : (as ++ .ref b :: rr).take (bn_p mj) = as := by rw [← hl]; simp
  by_cases hC : bn_isC h b (bn_c mj) = true
  · have hk : bn_k mi (.invokevirtual k) (as ++ .ref b :: rr) h = some (mj, .ref b :: as.reverse, rr) := by
      simp only [bn_k]
      rw [hm]
      simp only [Option.bind_some]
      rw [hdr, htk]
      dsimp only
      rw [if_pos ⟨trivial, hl, hC, hc⟩]
    rw [bn_ev_k hd rfl rfl hk]
    unfold bn_gd
    rw [if_pos hC]
    rw [hr]; exact bn_cV_k (fun h => rfl)
  · have hk : bn_k mi (.invokevirtual k) (as ++ .ref b :: rr) h = none := by
      simp only [bn_k]
      rw [hm]
      simp only [Option.bind_some]
      rw [hdr]
      dsimp only
      rw [if_neg (fun q => hC q.2.2.1)]
    rw [bn_ev_x hd rfl rfl hk]
    unfold bn_gd
    rw [if_neg hC]
    rfl
theorem be_statV {k mj n : Nat} {as rr : List Value} {en : bn_L} (hd : decode (bn_b mi) pc = .ok (.invokestatic k, 3)) (hm : bn_ml (bn_c mi) k = some (1, mj)) (hn : bn_p mj = n) (hl : as.length = n) (hen : bn_en mj as.reverse = en) (hc : bn_ct rr ≤ 8 ∧ (bn_sl as.reverse).length ≤ bn_m mj ∧ bn_f mj + 1 ≤ bn_f mi ∧ 8 + (bn_m mj + 11) + bn_l mj ≤ bn_l mi) (hr : bn_r mj = none) : bn_ev mi pc ls (as ++ rr) h = bn_cV (bn_ev mj 0 en [] h) (fun h' => bn_ev mi (pc + 3) ls rr h') := by
  subst hn
  subst hen
  have hdr : (as ++ rr).drop (bn_p mj) = rr := by rw [← hl]; simp
  have htk : (as ++ rr).take (bn_p mj) = as := by rw [← hl]; simp
  have hk : bn_k mi (.invokestatic k) (as ++ rr) h = some (mj, as.reverse, rr) := by
    simp only [bn_k]
    rw [hm]
    simp only [Option.bind_some]
    rw [hdr, htk]
    rw [if_pos ⟨trivial, hl, hc⟩]
  rw [bn_ev_k hd rfl rfl hk]
  rw [hr]; exact bn_cV_k (fun h => rfl)
theorem be_specV {k mj b n kd : Nat} {as rr : List Value} {en : bn_L} (hd : decode (bn_b mi) pc = .ok (.invokespecial k, 3)) (hm : bn_ml (bn_c mi) k = some (kd, mj)) (hkd : kd = 2 ∨ kd = 3) (hn : bn_p mj = n) (hl : as.length = n) (hen : bn_en mj (.ref b :: as.reverse) = en) (hc : bn_ct rr ≤ 8 ∧ (bn_sl (.ref b :: as.reverse)).length ≤ bn_m mj ∧ bn_f mj + 1 ≤ bn_f mi ∧ 8 + (bn_m mj + 11) + bn_l mj ≤ bn_l mi) (hr : bn_r mj = none) : bn_ev mi pc ls (as ++ .ref b :: rr) h = bn_cV (bn_ev mj 0 en [] h) (fun h' => bn_ev mi (pc + 3) ls rr h') := by
  subst hn
  subst hen
  have hdr : (as ++ .ref b :: rr).drop (bn_p mj) = .ref b :: rr := by rw [← hl]; simp
  have htk : (as ++ .ref b :: rr).take (bn_p mj) = as := by rw [← hl]; simp
  have hk : bn_k mi (.invokespecial k) (as ++ .ref b :: rr) h = some (mj, .ref b :: as.reverse, rr) := by
    simp only [bn_k]
    rw [hm]
    simp only [Option.bind_some]
    rw [hdr, htk]
    dsimp only
    rw [if_pos ⟨hkd, hl, hc⟩]
  rw [bn_ev_k hd rfl rfl hk]
  rw [hr]; exact bn_cV_k (fun h => rfl)
theorem be_new {k ci : Nat} (hd : decode (bn_b mi) pc = .ok (.new k, 3)) (hm : bn_ck (bn_c mi) k = some ci) : bn_ev mi pc ls st h = bn_ev mi (pc + 3) ls (.ref h.2.1 :: st) (bn_n h (.inr (ci, (List.range (bn_N ci)).map (fun j => bn_dv (bn_ty ci j)))) (bn_N ci)) := by
  rw [bn_ev_x hd rfl rfl rfl]
  simp only [bn_x]
  rw [hm]
  rfl
theorem be_ireturn {x : Int32} (hd : decode (bn_b mi) pc = .ok (.ireturn, 1)) (hr : bn_r mi = some .int) : bn_ev mi pc ls [.int x] h = some (some (.int x), h) := bn_ev_r hd rfl (by simp only [bn_rt]; rw [if_pos (Or.inl hr)])
theorem be_zreturn {x : Int32} (hd : decode (bn_b mi) pc = .ok (.ireturn, 1)) (hr : bn_r mi = some .boolean) : bn_ev mi pc ls [.int x] h = if x = 0 ∨ x = 1 then some (some (.int x), h) else none := by
  by_cases hx : x = 0 ∨ x = 1
  · rw [if_pos hx]
    exact bn_ev_r hd rfl (by simp only [bn_rt]; rw [if_pos (Or.inr ⟨hr, hx⟩)])
  · rw [if_neg hx, bn_ev_x hd rfl (by simp only [bn_rt]; rw [if_neg (fun q => q.elim (fun q => by rw [hr] at q; cases q) (fun q => hx q.2))]) rfl]
    rfl
theorem be_z0 (hd : decode (bn_b mi) pc = .ok (.ireturn, 1)) (hr : bn_r mi = some .boolean) {x : Int32} (hx : x = 0 ∨ x = 1) : bn_ev mi pc ls [.int x] h = some (some (.int x), h) := (be_zreturn hd hr).trans (if_pos hx)
theorem be_lreturn {x : Int64} (hd : decode (bn_b mi) pc = .ok (.lreturn, 1)) (hr : bn_r mi = some .long) : bn_ev mi pc ls [.long x] h = some (some (.long x), h) := bn_ev_r hd rfl (by simp only [bn_rt]; rw [if_pos hr])
theorem be_return (hd : decode (bn_b mi) pc = .ok (.return_, 1)) (hr : bn_r mi = none) : bn_ev mi pc ls [] h = some (none, h) := bn_ev_r hd rfl (by simp only [bn_rt]; rw [if_pos hr])
end ES
theorem bn_if_c {c : Prop} [Decidable c] {A A' B B' : bn_R} (h1 : A = A') (h2 : B = B') : (if c then A else B) = if c then A' else B' := by rw [h1, h2]
theorem bn_dia {c : Prop} [Decidable c] {A B : bn_R} {mi J : Nat} {ls : bn_L} {st : List Value} {h : bn_H} {a b : Int32} (hA : A = bn_ev mi J ls (.int a :: st) h) (hB : B = bn_ev mi J ls (.int b :: st) h) : (if c then A else B) = bn_ev mi J ls (.int (if c then a else b) :: st) h := by
  split
  · exact hA
  · exact hB
