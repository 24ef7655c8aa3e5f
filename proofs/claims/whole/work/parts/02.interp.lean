/-! THE WALK AS A FUNCTION: the bytecode over numbered cells. A cell is an array (its kind: 0 int, 1 boolean, 2 long, 3 Siege) or an object (its class's number, its fields); a reference is the cell's number; the script is .retAddr 0. -/
abbrev bn_E : Type := (Nat × vp_A) ⊕ (Nat × List Value)
/-- script (length, ints), number of cells, slots used, the cells -/
abbrev bn_H : Type := (Nat × (Nat → Int32)) × Nat × Nat × (Nat → bn_E)
abbrev bn_L : Type := List (Option Value)
abbrev bn_R : Type := Option (Option Value × bn_H)
def bn_g (h : bn_H) (p : Nat) : Option bn_E := if p < h.2.1 then some (h.2.2.2 p) else none
def bn_u (h : bn_H) (p : Nat) (e : bn_E) : bn_H := (h.1, h.2.1, h.2.2.1, va_up h.2.2.2 p e)
def bn_n (h : bn_H) (e : bn_E) (z : Nat) : bn_H := (h.1, h.2.1 + 1, h.2.2.1 + z, va_up h.2.2.2 h.2.1 e)
def bn_T (c : Nat) : u_T := match c with
  | 0 => TX0
  | 1 => TX1
  | 2 => TX2
  | _ => TX3
def bn_N (c : Nat) : Nat := match c with
  | 0 => 15
  | 1 => 3
  | 2 => 8
  | _ => 29
def bn_ty (c : Nat) : Nat → FieldType := match c with
  | 0 => tyX0
  | 1 => tyX1
  | 2 => tyX2
  | _ => tyX3
/-- a field: class, place -/
def bn_fl (c idx : Nat) : Option (Nat × Nat) := (bn_FL.find? (fun r => r.1 == c && r.2.1 == idx)).map (fun r => (r.2.2.1, r.2.2.2.1))
/-- a method: kind, number -/
def bn_ml (c idx : Nat) : Option (Nat × Nat) := (bn_ML.find? (fun r => r.1 == c && r.2.1 == idx)).map (fun r => (r.2.2.1, r.2.2.2.1))
def bn_ki (c idx : Nat) : Option Int32 := (bn_KI.find? (fun r => r.1 == c && r.2.1 == idx)).map (fun r => r.2.2.1)
def bn_kl (c idx : Nat) : Option Int64 := (bn_KL.find? (fun r => r.1 == c && r.2.1 == idx)).map (fun r => r.2.2.1)
def bn_ck (c idx : Nat) : Option Nat := (bn_CK.find? (fun r => r.1 == c && r.2.1 == idx)).map (fun r => r.2.2.1)
def bn_get (ls : bn_L) (i : Nat) : Option Value := (ls[i]?).getD none
/-- storing at i ends a long that begins at i - 1 -/
def bn_kil (ls : bn_L) (i : Nat) : bn_L := match i with
  | 0 => ls
  | j + 1 => match bn_get ls j with
    | some (.long _) => ls.set j none
    | some (.double _) => ls.set j none
    | _ => ls
def bn_st1 (ls : bn_L) (i : Nat) (v : Value) : bn_L := (bn_kil ls i).set i (some v)
def bn_st2 (ls : bn_L) (i : Nat) (v : Value) : bn_L := ((bn_kil ls i).set i (some v)).set (i + 1) none
def bn_tg (pc : Nat) (off : Int) : Option Nat := if 0 ≤ (pc : Int) + off then some ((pc : Int) + off).toNat else none
def bn_cm (c : ClassFile.Cond) (x y : Int32) : Bool := match c with
  | .eq => decide (x = y)
  | .ne => !decide (x = y)
  | .lt => decide (x < y)
  | .ge => decide (y ≤ x)
  | .gt => decide (y < x)
  | .le => decide (x ≤ y)
def bn_ct (st : List Value) : Nat := (st.map fun v => v.category).sum
/-- the length that the rows of the kit say -/
def bn_ln (i : Instr) (len : Nat) : Nat := match i with
  | .aload _ | .iload _ | .lload _ | .istore _ | .lstore _ | .astore _ | .bipush _ | .newarray _ | .ldc _ => 2
  | .getfield _ | .putfield _ | .goto _ | .if_icmp _ _ | .ifCond _ _ | .iinc _ _ | .sipush _ | .ldc_w _ | .ldc2_w _ | .invokespecial _ | .invokestatic _ | .invokevirtual _ | .new _ | .anewarray _ => 3
  | .tableswitch _ _ _ _ => len
  | _ => 1
def bn_i1 (ls : bn_L) (k i : Nat) (st : List Value) (h : bn_H) : Option (Nat × bn_L × List Value × bn_H) := match bn_get ls i with
  | some (.int x) => some (k, ls, .int x :: st, h)
  | _ => none
def bn_l1 (ls : bn_L) (k i : Nat) (st : List Value) (h : bn_H) : Option (Nat × bn_L × List Value × bn_H) := match bn_get ls i with
  | some (.long x) => some (k, ls, .long x :: st, h)
  | _ => none
def bn_a1 (ls : bn_L) (k i : Nat) (st : List Value) (h : bn_H) : Option (Nat × bn_L × List Value × bn_H) := match bn_get ls i with
  | some (.ref x) => some (k, ls, .ref x :: st, h)
  | some (.retAddr x) => some (k, ls, .retAddr x :: st, h)
  | _ => none
def bn_iso (ls : bn_L) (k i nL : Nat) (st : List Value) (h : bn_H) : Option (Nat × bn_L × List Value × bn_H) := match st with
  | .int x :: r => if i < nL then some (k, bn_st1 ls i (.int x), r, h) else none
  | _ => none
def bn_lst (ls : bn_L) (k i nL : Nat) (st : List Value) (h : bn_H) : Option (Nat × bn_L × List Value × bn_H) := match st with
  | .long x :: r => if i + 1 < nL then some (k, bn_st2 ls i (.long x), r, h) else none
  | _ => none
def bn_as (ls : bn_L) (k i nL : Nat) (st : List Value) (h : bn_H) : Option (Nat × bn_L × List Value × bn_H) := match st with
  | .ref x :: r => if i < nL then some (k, bn_st1 ls i (.ref x), r, h) else none
  | _ => none
def bn_ii (f : Int32 → Int32 → Int32) (ls : bn_L) (k : Nat) (st : List Value) (h : bn_H) : Option (Nat × bn_L × List Value × bn_H) := match st with
  | .int y :: .int x :: r => some (k, ls, .int (f x y) :: r, h)
  | _ => none
def bn_ll (f : Int64 → Int64 → Int64) (ls : bn_L) (k : Nat) (st : List Value) (h : bn_H) : Option (Nat × bn_L × List Value × bn_H) := match st with
  | .long y :: .long x :: r => some (k, ls, .long (f x y) :: r, h)
  | _ => none
def bn_li (f : Int64 → Int32 → Int64) (ls : bn_L) (k : Nat) (st : List Value) (h : bn_H) : Option (Nat × bn_L × List Value × bn_H) := match st with
  | .int y :: .long x :: r => some (k, ls, .long (f x y) :: r, h)
  | _ => none
def bn_idv (f : Int32 → Int32 → Int32) (ls : bn_L) (k : Nat) (st : List Value) (h : bn_H) : Option (Nat × bn_L × List Value × bn_H) := match st with
  | .int y :: .int x :: r => if y = 0 then none else some (k, ls, .int (f x y) :: r, h)
  | _ => none
def bn_ldv (f : Int64 → Int64 → Int64) (ls : bn_L) (k : Nat) (st : List Value) (h : bn_H) : Option (Nat × bn_L × List Value × bn_H) := match st with
  | .long y :: .long x :: r => if y = 0 then none else some (k, ls, .long (f x y) :: r, h)
  | _ => none
def bn_shl (x y : Int32) : Int32 := x <<< (y &&& 31)
def bn_shr (x y : Int32) : Int32 := x >>> (y &&& 31)
def bn_ushr (x y : Int32) : Int32 := (x.toUInt32 >>> (y.toUInt32 &&& Int32.toUInt32 31)).toInt32
def bn_rem (x y : Int32) : Int32 := x - x / y * y
def bn_lrem (x y : Int64) : Int64 := x - x / y * y
def bn_lushr (x : Int64) (y : Int32) : Int64 := (x.toUInt64 >>> (y.toInt64.toUInt64 &&& Int64.toUInt64 63)).toInt64
def bn_lshl (x : Int64) (y : Int32) : Int64 := x <<< (y.toInt64 &&& 63)
def bn_lshr (x : Int64) (y : Int32) : Int64 := x >>> (y.toInt64 &&& 63)
/-- getfield -/
def bn_gf (h : bn_H) (p ci k : Nat) : Option Value := match bn_g h p with
  | some (.inr o) => if o.1 = ci then o.2[k]? else none
  | _ => none
/-- putfield -/
def bn_pf (h : bn_H) (p ci k : Nat) (v : Value) : Option bn_H := match bn_g h p with
  | some (.inr o) => if o.1 = ci ∧ k < o.2.length then some (bn_u h p (.inr (ci, o.2.set k v))) else none
  | _ => none
/-- an array of ints (of the kind t) -/
def bn_ai (h : bn_H) (p t : Nat) : Option (Nat × (Nat → Int32)) := match bn_g h p with
  | some (.inl (u, n, .inl f)) => if u = t then some (n, f) else none
  | _ => none
def bn_al (h : bn_H) (p : Nat) : Option (Nat × (Nat → Int64)) := match bn_g h p with
  | some (.inl (u, n, .inr (.inl f))) => if u = 2 then some (n, f) else none
  | _ => none
def bn_ar (h : bn_H) (p : Nat) : Option (Nat × (Nat → Option Nat)) := match bn_g h p with
  | some (.inl (u, n, .inr (.inr (.inr (.inr f))))) => if u = 3 then some (n, f) else none
  | _ => none
/-- a load out of an array of ints, booleans -/
def bn_ld (h : bn_H) (p t : Nat) (i : Int32) : Option Int32 := (bn_ai h p t).bind fun a => if i < 0 ∨ a.1 ≤ i.toNatClampNeg then none else some (a.2 i.toNatClampNeg)
def bn_sd (h : bn_H) (p t : Nat) (i x : Int32) : Option bn_H := (bn_ai h p t).bind fun a => if i < 0 ∨ a.1 ≤ i.toNatClampNeg then none else some (bn_u h p (.inl (t, a.1, .inl (upd a.2 i.toNatClampNeg x))))
def bn_lld (h : bn_H) (p : Nat) (i : Int32) : Option Int64 := (bn_al h p).bind fun a => if i < 0 ∨ a.1 ≤ i.toNatClampNeg then none else some (a.2 i.toNatClampNeg)
def bn_lsd (h : bn_H) (p : Nat) (i : Int32) (x : Int64) : Option bn_H := (bn_al h p).bind fun a => if i < 0 ∨ a.1 ≤ i.toNatClampNeg then none else some (bn_u h p (.inl (2, a.1, .inr (.inl (vp_updL a.2 i.toNatClampNeg x)))))
def bn_rld (h : bn_H) (p : Nat) (i : Int32) : Option Nat := (bn_ar h p).bind fun a => if i < 0 ∨ a.1 ≤ i.toNatClampNeg then none else a.2 i.toNatClampNeg
def bn_isC (h : bn_H) (p c : Nat) : Bool := match bn_g h p with
  | some (.inr o) => o.1 == c
  | _ => false
def bn_rsd (h : bn_H) (p : Nat) (i : Int32) (q : Nat) : Option bn_H := (bn_ar h p).bind fun a => if (i < 0 ∨ a.1 ≤ i.toNatClampNeg) ∨ bn_isC h q 0 = false then none else some (bn_u h p (.inl (3, a.1, .inr (.inr (.inr (.inr (va_up a.2 i.toNatClampNeg (some q))))))))
/-- arraycopy of ints -/
def bn_cp (h : bn_H) (p : Nat) (sp : Int32) (q : Nat) (dp n : Int32) : Option bn_H := (bn_ai h p 0).bind fun a => (bn_ai h q 0).bind fun b =>
  if (sp < 0 ∨ dp < 0 ∨ n < 0) ∨ (a.1 < sp.toNatClampNeg + n.toNatClampNeg ∨ b.1 < dp.toNatClampNeg + n.toNatClampNeg) then none else some (bn_u h q (.inl (0, b.1, .inl (va_cpy a.2 b.2 sp.toNatClampNeg dp.toNatClampNeg n.toNatClampNeg))))
def bn_dv (ty : FieldType) : Value := defaultValue ty
def bn_ts (dflt lo hi : Int) (offs : Array Int) (x : Int32) : Option Int := if x.toInt < lo ∨ hi < x.toInt then some dflt else offs[(x.toInt - lo).toNat]?
def bn_okr (t : Option FieldType) (r : Option Value) : Bool := match t, r with
  | none, none => true
  | some .int, some (.int _) => true
  | some .boolean, some (.int _) => true
  | some .long, some (.long _) => true
  | _, _ => false
/-- a field's kind -/
def bn_okg (t : FieldType) (v : Value) : Bool := match t, v with
  | .int, .int _ => true
  | .long, .long _ => true
  | .array _, .ref _ => true
  | .object _, .ref _ => true
  | _, _ => false
/-- an instruction that neither calls nor returns -/
def bn_x (mi : Nat) (i : Instr) (pc : Nat) (ls : bn_L) (st : List Value) (h : bn_H) : Option (Nat × bn_L × List Value × bn_H) := match i with
  | .iconst n => some (pc + 1, ls, .int (Int32.ofInt n) :: st, h)
  | .bipush n => some (pc + 2, ls, .int (Int8.ofInt n).toInt32 :: st, h)
  | .sipush n => some (pc + 3, ls, .int (Int16.ofInt n).toInt32 :: st, h)
  | .lconst n => some (pc + 1, ls, .long (Int64.ofNat (n : Nat)) :: st, h)
  | .ldc_w k => (bn_ki (bn_c mi) k).map fun v => (pc + 3, ls, .int v :: st, h)
  | .ldc2_w k => (bn_kl (bn_c mi) k).map fun v => (pc + 3, ls, .long v :: st, h)
  | .iload_n k => bn_i1 ls (pc + 1) k st h
  | .iload k => bn_i1 ls (pc + 2) k st h
  | .lload_n k => bn_l1 ls (pc + 1) k st h
  | .lload k => bn_l1 ls (pc + 2) k st h
  | .aload_n k => bn_a1 ls (pc + 1) k st h
  | .aload k => bn_a1 ls (pc + 2) k st h
  | .istore_n k => bn_iso ls (pc + 1) k (bn_m mi) st h
  | .istore k => bn_iso ls (pc + 2) k (bn_m mi) st h
  | .lstore_n k => bn_lst ls (pc + 1) k (bn_m mi) st h
  | .lstore k => bn_lst ls (pc + 2) k (bn_m mi) st h
  | .astore_n k => bn_as ls (pc + 1) k (bn_m mi) st h
  | .astore k => bn_as ls (pc + 2) k (bn_m mi) st h
  | .iinc k n => match bn_get ls k with
    | some (.int x) => if k < bn_m mi then some (pc + 3, bn_st1 ls k (.int (x + Int32.ofInt n)), st, h) else none
    | _ => none
  | .iadd => bn_ii (· + ·) ls (pc + 1) st h
  | .isub => bn_ii (· - ·) ls (pc + 1) st h
  | .imul => bn_ii (· * ·) ls (pc + 1) st h
  | .iand => bn_ii (· &&& ·) ls (pc + 1) st h
  | .ior => bn_ii (· ||| ·) ls (pc + 1) st h
  | .ixor => bn_ii (· ^^^ ·) ls (pc + 1) st h
  | .ishl => bn_ii bn_shl ls (pc + 1) st h
  | .ishr => bn_ii bn_shr ls (pc + 1) st h
  | .iushr => bn_ii bn_ushr ls (pc + 1) st h
  | .idiv => bn_idv (· / ·) ls (pc + 1) st h
  | .irem => bn_idv bn_rem ls (pc + 1) st h
  | .ladd => bn_ll (· + ·) ls (pc + 1) st h
  | .lsub => bn_ll (· - ·) ls (pc + 1) st h
  | .lmul => bn_ll (· * ·) ls (pc + 1) st h
  | .land => bn_ll (· &&& ·) ls (pc + 1) st h
  | .lor => bn_ll (· ||| ·) ls (pc + 1) st h
  | .ldiv => bn_ldv (· / ·) ls (pc + 1) st h
  | .lrem => bn_ldv bn_lrem ls (pc + 1) st h
  | .lshl => bn_li bn_lshl ls (pc + 1) st h
  | .lshr => bn_li bn_lshr ls (pc + 1) st h
  | .lushr => bn_li bn_lushr ls (pc + 1) st h
  | .i2l => match st with
    | .int x :: r => some (pc + 1, ls, .long x.toInt64 :: r, h)
    | _ => none
  | .l2i => match st with
    | .long x :: r => some (pc + 1, ls, .int x.toInt32 :: r, h)
    | _ => none
  | .lcmp => match st with
    | .long y :: .long x :: r => some (pc + 1, ls, .int (lg_cmp x y) :: r, h)
    | _ => none
  | .dup => match st with
    | v :: r => if v.category = 1 then some (pc + 1, ls, v :: v :: r, h) else none
    | _ => none
  | .dup2 => match st with
    | v :: w :: r => if v.category = 1 ∧ w.category = 1 then some (pc + 1, ls, v :: w :: v :: w :: r, h) else none
    | _ => none
  | .pop => match st with
    | v :: r => if v.category = 1 then some (pc + 1, ls, r, h) else none
    | _ => none
  | .goto off => (bn_tg pc off).map fun t => (t, ls, st, h)
  | .if_icmp c off => match st with
    | .int y :: .int x :: r => (bn_tg pc off).map fun t => (if bn_cm c x y = true then t else pc + 3, ls, r, h)
    | _ => none
  | .ifCond c off => match st with
    | .int x :: r => (bn_tg pc off).map fun t => (if bn_cm c x 0 = true then t else pc + 3, ls, r, h)
    | _ => none
  | .tableswitch dflt lo hi offs => match st with
    | .int x :: r => (bn_ts dflt lo hi offs x).bind fun off => (bn_tg pc off).map fun t => (t, ls, r, h)
    | _ => none
  | .getfield k => match st with
    | .ref p :: r => (bn_fl (bn_c mi) k).bind fun q => (bn_gf h p q.1 q.2).bind fun v => if bn_okg (bn_ty q.1 q.2) v = true then some (pc + 3, ls, v :: r, h) else none
    | _ => none
  | .putfield k => match st with
    | v :: .ref p :: r => (bn_fl (bn_c mi) k).bind fun q =>
      if narrow (bn_ty q.1 q.2) v = v ∧ fits (bn_ty q.1 q.2) v = true ∧ ((bn_T q.1 q.2).2.2.2 = false ∨ (bn_i mi = true ∧ (bn_T q.1 q.2).1 = bn_cn (bn_c mi))) then (bn_pf h p q.1 q.2 v).map fun h' => (pc + 3, ls, r, h') else none
    | _ => none
  | .iaload => match st with
    | .int i :: .ref p :: r => (bn_ld h p 0 i).map fun v => (pc + 1, ls, .int v :: r, h)
    | .int i :: .retAddr _ :: r => if i < 0 ∨ h.1.1 ≤ i.toNatClampNeg then none else some (pc + 1, ls, .int (h.1.2 i.toNatClampNeg) :: r, h)
    | _ => none
  | .baload => match st with
    | .int i :: .ref p :: r => (bn_ld h p 1 i).map fun v => (pc + 1, ls, .int v :: r, h)
    | _ => none
  | .laload => match st with
    | .int i :: .ref p :: r => (bn_lld h p i).map fun v => (pc + 1, ls, .long v :: r, h)
    | _ => none
  | .aaload => match st with
    | .int i :: .ref p :: r => (bn_rld h p i).map fun v => (pc + 1, ls, .ref v :: r, h)
    | _ => none
  | .iastore => match st with
    | .int x :: .int i :: .ref p :: r => (bn_sd h p 0 i x).map fun h' => (pc + 1, ls, r, h')
    | _ => none
  | .bastore => match st with
    | .int x :: .int i :: .ref p :: r => (bn_sd h p 1 i (vp_nar .boolean x)).map fun h' => (pc + 1, ls, r, h')
    | _ => none
  | .lastore => match st with
    | .long x :: .int i :: .ref p :: r => (bn_lsd h p i x).map fun h' => (pc + 1, ls, r, h')
    | _ => none
  | .aastore => match st with
    | .ref x :: .int i :: .ref p :: r => (bn_rsd h p i x).map fun h' => (pc + 1, ls, r, h')
    | _ => none
  | .arraylength => match st with
    | .retAddr _ :: r => some (pc + 1, ls, .int (Int32.ofNat h.1.1) :: r, h)
    | _ => none
  | .new k => (bn_ck (bn_c mi) k).map fun c => (pc + 3, ls, .ref h.2.1 :: st, bn_n h (.inr (c, (List.range (bn_N c)).map (fun j => bn_dv (bn_ty c j)))) (bn_N c))
  | .newarray .int => match st with
    | .int n :: r => if n < 0 ∨ 100000 < n.toNatClampNeg then none else some (pc + 2, ls, .ref h.2.1 :: r, bn_n h (.inl (0, n.toNatClampNeg, .inl (fun _ => 0))) n.toNatClampNeg)
    | _ => none
  | .newarray .boolean => match st with
    | .int n :: r => if n < 0 ∨ 100000 < n.toNatClampNeg then none else some (pc + 2, ls, .ref h.2.1 :: r, bn_n h (.inl (1, n.toNatClampNeg, .inl (fun _ => 0))) n.toNatClampNeg)
    | _ => none
  | .newarray .long => match st with
    | .int n :: r => if n < 0 ∨ 100000 < n.toNatClampNeg then none else some (pc + 2, ls, .ref h.2.1 :: r, bn_n h (.inl (2, n.toNatClampNeg, .inr (.inl (fun _ => 0)))) n.toNatClampNeg)
    | _ => none
  | .anewarray k => match st with
    | .int n :: r => if (n < 0 ∨ 100000 < n.toNatClampNeg) ∨ ¬ bn_ck (bn_c mi) k = some 0 then none else some (pc + 3, ls, .ref h.2.1 :: r, bn_n h (.inl (3, n.toNatClampNeg, .inr (.inr (.inr (.inr (fun _ => none)))))) n.toNatClampNeg)
    | _ => none
  | .invokespecial k => match st with
    | .ref _ :: r => if bn_ml (bn_c mi) k = some (4, 0) ∧ bn_ct r ≤ 8 ∧ 1 ≤ bn_f mi ∧ 26 ≤ bn_l mi then some (pc + 3, ls, r, h) else none
    | _ => none
  | .invokestatic k => match bn_ml (bn_c mi) k with
    | some (5, _) => match st with
      | .int n :: .int dp :: .ref q :: .int sp :: .ref p :: r => if bn_ct r ≤ 8 ∧ 1 ≤ bn_f mi ∧ 26 ≤ bn_l mi then (bn_cp h p sp q dp n).map fun h' => (pc + 3, ls, r, h') else none
      | _ => none
    | some (6, _) => match st with
      | .int y :: .int x :: r => if bn_ct r ≤ 8 ∧ 1 ≤ bn_f mi ∧ 26 ≤ bn_l mi then some (pc + 3, ls, .int (if x < y then y else x) :: r, h) else none
      | _ => none
    | some (7, _) => match st with
      | .int y :: .int x :: r => if bn_ct r ≤ 8 ∧ 1 ≤ bn_f mi ∧ 26 ≤ bn_l mi then some (pc + 3, ls, .int (if y < x then y else x) :: r, h) else none
      | _ => none
    | _ => none
  | _ => none
def bn_sl (vs : List Value) : bn_L := vs.flatMap fun v => if v.category = 2 then [some v, none] else [some v]
def bn_en (mj : Nat) (vs : List Value) : bn_L := bn_sl vs ++ List.replicate (bn_m mj - (bn_sl vs).length) none
/-- a return -/
def bn_rt (mi : Nat) (i : Instr) (st : List Value) : Option (Option Value) := match i with
  | .return_ => match st with
    | [] => if bn_r mi = none then some none else none
    | _ => none
  | .ireturn => match st with
    | [.int v] => if bn_r mi = some .int ∨ (bn_r mi = some .boolean ∧ (v = 0 ∨ v = 1)) then some (some (.int v)) else none
    | _ => none
  | .lreturn => match st with
    | [.long v] => if bn_r mi = some .long then some (some (.long v)) else none
    | _ => none
  | _ => none
/-- a call: the method, its arguments, the rest of the stack -/
def bn_k (mi : Nat) (i : Instr) (st : List Value) (h : bn_H) : Option (Nat × List Value × List Value) := match i with
  | .invokevirtual k => (bn_ml (bn_c mi) k).bind fun q => match st.drop (bn_p q.2) with
    | .ref b :: r => if q.1 = 0 ∧ (st.take (bn_p q.2)).length = bn_p q.2 ∧ bn_isC h b (bn_c q.2) = true ∧ bn_ct r ≤ 8 ∧ (bn_sl (.ref b :: (st.take (bn_p q.2)).reverse)).length ≤ bn_m q.2 ∧ bn_f q.2 + 1 ≤ bn_f mi ∧ 8 + (bn_m q.2 + 11) + bn_l q.2 ≤ bn_l mi then some (q.2, .ref b :: (st.take (bn_p q.2)).reverse, r) else none
    | _ => none
  | .invokespecial k => (bn_ml (bn_c mi) k).bind fun q => match st.drop (bn_p q.2) with
    | .ref b :: r => if (q.1 = 2 ∨ q.1 = 3) ∧ (st.take (bn_p q.2)).length = bn_p q.2 ∧ bn_ct r ≤ 8 ∧ (bn_sl (.ref b :: (st.take (bn_p q.2)).reverse)).length ≤ bn_m q.2 ∧ bn_f q.2 + 1 ≤ bn_f mi ∧ 8 + (bn_m q.2 + 11) + bn_l q.2 ≤ bn_l mi then some (q.2, .ref b :: (st.take (bn_p q.2)).reverse, r) else none
    | _ => none
  | .invokestatic k => (bn_ml (bn_c mi) k).bind fun q =>
      if q.1 = 1 ∧ (st.take (bn_p q.2)).length = bn_p q.2 ∧ bn_ct (st.drop (bn_p q.2)) ≤ 8 ∧ (bn_sl (st.take (bn_p q.2)).reverse).length ≤ bn_m q.2 ∧ bn_f q.2 + 1 ≤ bn_f mi ∧ 8 + (bn_m q.2 + 11) + bn_l q.2 ≤ bn_l mi then some (q.2, (st.take (bn_p q.2)).reverse, st.drop (bn_p q.2)) else none
  | _ => none
/-- one instruction, what follows by k -/
def bn_F (k : Nat → Nat → bn_L → List Value → bn_H → bn_R) (mi pc : Nat) (ls : bn_L) (st : List Value) (h : bn_H) : bn_R := match decode (bn_b mi) pc with
  | .error _ => none
  | .ok (i, len) => if len = bn_ln i len then
      match bn_rt mi i st with
      | some r => some (r, h)
      | none => match bn_k mi i st h with
        | some (mj, as, r) => (k mj 0 (bn_en mj as) [] h).bind fun a => if bn_okr (bn_r mj) a.1 = true then k mi (pc + 3) ls (a.1.toList ++ r) a.2 else none
        | none => (bn_x mi i pc ls st h).bind fun a => k mi a.1 a.2.1 a.2.2.1 a.2.2.2
    else none
def bn_go : Nat → Nat → Nat → bn_L → List Value → bn_H → bn_R
  | 0, _, _, _, _, _ => none
  | n + 1, mi, pc, ls, st, h => bn_F (bn_go n) mi pc ls st h
theorem bn_F_mono {k k' : Nat → Nat → bn_L → List Value → bn_H → bn_R} (hk : ∀ mi pc ls st h x, k mi pc ls st h = some x → k' mi pc ls st h = some x) {mi pc : Nat} {ls : bn_L} {st : List Value} {h : bn_H} {x : Option Value × bn_H} (e : bn_F k mi pc ls st h = some x) : bn_F k' mi pc ls st h = some x := by
  unfold bn_F at e ⊢
  split at e
  · cases e
  · split at e
    · rename_i hl
      rw [if_pos hl]
      split at e
      · exact e
      · split at e
        · obtain ⟨a, h1, h2⟩ := Option.bind_eq_some_iff.mp e
          rw [hk _ _ _ _ _ _ h1]
          split at h2
          · rename_i ho
            show (if bn_okr _ a.1 = true then _ else _) = _
            rw [if_pos ho]
            exact hk _ _ _ _ _ _ h2
          · cases h2
        · obtain ⟨a, h1, h2⟩ := Option.bind_eq_some_iff.mp e
          rw [h1]
          exact hk _ _ _ _ _ _ h2
    · cases e
theorem bn_go_1 (n : Nat) : ∀ mi pc ls st h x, bn_go n mi pc ls st h = some x → bn_go (n + 1) mi pc ls st h = some x := by
  induction n with
  | zero => intro mi pc ls st h x e; cases e
  | succ n ih => intro mi pc ls st h x e; exact bn_F_mono ih e
theorem bn_go_le {n k : Nat} (hn : n ≤ k) {mi pc : Nat} {ls : bn_L} {st : List Value} {h : bn_H} {x : Option Value × bn_H} (e : bn_go n mi pc ls st h = some x) : bn_go k mi pc ls st h = some x := by
  obtain ⟨d, rfl⟩ := Nat.exists_eq_add_of_le hn
  induction d with
  | zero => exact e
  | succ d ih => exact bn_go_1 _ _ _ _ _ _ _ (ih (by omega))
/-- the value of the walk, where it ends -/
noncomputable def bn_ev (mi pc : Nat) (ls : bn_L) (st : List Value) (h : bn_H) : bn_R := @dite _ (∃ x, ∃ n, bn_go n mi pc ls st h = some x) (Classical.propDecidable _) (fun e => some (Classical.choose e)) (fun _ => none)
theorem bn_ev_of {n mi pc : Nat} {ls : bn_L} {st : List Value} {h : bn_H} {x : Option Value × bn_H} (e : bn_go n mi pc ls st h = some x) : bn_ev mi pc ls st h = some x := by
  have hx : ∃ x, ∃ n, bn_go n mi pc ls st h = some x := ⟨x, n, e⟩
  unfold bn_ev
  rw [dif_pos hx]
  obtain ⟨k, hk⟩ := Classical.choose_spec hx
  have h1 := bn_go_le (Nat.le_add_right n k) e
  have h2 := bn_go_le (Nat.le_add_left k n) hk
  rw [h1] at h2
  exact h2.symm
theorem bn_ev_go {mi pc : Nat} {ls : bn_L} {st : List Value} {h : bn_H} {x : Option Value × bn_H} (e : bn_ev mi pc ls st h = some x) : ∃ n, bn_go n mi pc ls st h = some x := by
  unfold bn_ev at e
  split at e
  · rename_i hx
    rw [← Option.some.inj e]
    exact Classical.choose_spec hx
  · cases e
theorem bn_ev_eq (mi pc : Nat) (ls : bn_L) (st : List Value) (h : bn_H) : bn_ev mi pc ls st h = bn_F bn_ev mi pc ls st h := by
  apply Option.ext
  intro x
  constructor
  · intro e
    obtain ⟨n, hn⟩ := bn_ev_go e
    cases n with
    | zero => cases hn
    | succ n => exact bn_F_mono (fun _ _ _ _ _ _ h => bn_ev_of h) hn
  · intro e
    have key : ∃ n, bn_F (bn_go n) mi pc ls st h = some x := by
      unfold bn_F at e ⊢
      split at e
      · cases e
      · split at e
        · rename_i hl
          simp only [if_pos hl]
          split at e
          · exact ⟨0, e⟩
          · split at e
            · obtain ⟨a, h1, h2⟩ := Option.bind_eq_some_iff.mp e
              obtain ⟨n1, h1⟩ := bn_ev_go h1
              split at h2
              · rename_i ho
                obtain ⟨n2, h2⟩ := bn_ev_go h2
                refine ⟨n1 + n2, ?_⟩
                rw [bn_go_le (Nat.le_add_right n1 n2) h1]
                show (if bn_okr _ a.1 = true then _ else _) = _
                rw [if_pos ho]
                exact bn_go_le (Nat.le_add_left n2 n1) h2
              · cases h2
            · obtain ⟨a, h1, h2⟩ := Option.bind_eq_some_iff.mp e
              obtain ⟨n2, h2⟩ := bn_ev_go h2
              refine ⟨n2, ?_⟩
              rw [h1]
              exact h2
        · cases e
    obtain ⟨n, hn⟩ := key
    exact bn_ev_of (n := n + 1) hn
