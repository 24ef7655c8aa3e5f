section
/-- a private method of a class that the tables say can be made, by its rows of tables_1 -/
def lw_okq (q : MethodName × Nat) : Prop := (q.1.cls ≠ "java/lang/invoke/MethodHandle" ∧ q.1.cls ≠ "java/lang/invoke/VarHandle") ∧ Cond.instantiable q.1.cls q.2 ∈ tables_1 ∧ Cond.privateMethod q.1 ∈ tables_1 ∧ Cond.instanceMethod q.1 ∈ tables_1
theorem lw_p0 : lw_okq (⟨"BreadNumbered$Text", "readRules", "(LBreadNumbered$Siege;)Z"⟩, 3) := ⟨⟨by decide +kernel, by decide +kernel⟩, List.mem_of_getElem? (i := 17) (by decide +kernel), List.mem_of_getElem? (i := 150) (by decide +kernel), List.mem_of_getElem? (i := 151) (by decide +kernel)⟩
theorem lw_p1 : lw_okq (⟨"BreadNumbered$Text", "readSign", "(C)Z"⟩, 3) := ⟨⟨by decide +kernel, by decide +kernel⟩, List.mem_of_getElem? (i := 17) (by decide +kernel), List.mem_of_getElem? (i := 154) (by decide +kernel), List.mem_of_getElem? (i := 155) (by decide +kernel)⟩
theorem lw_p2 : lw_okq (⟨"BreadNumbered$Text", "isSignHere", "(C)Z"⟩, 3) := ⟨⟨by decide +kernel, by decide +kernel⟩, List.mem_of_getElem? (i := 17) (by decide +kernel), List.mem_of_getElem? (i := 158) (by decide +kernel), List.mem_of_getElem? (i := 159) (by decide +kernel)⟩
theorem lw_p3 : lw_okq (⟨"BreadNumbered$Text", "readFigure", "(II)I"⟩, 3) := ⟨⟨by decide +kernel, by decide +kernel⟩, List.mem_of_getElem? (i := 17) (by decide +kernel), List.mem_of_getElem? (i := 162) (by decide +kernel), List.mem_of_getElem? (i := 163) (by decide +kernel)⟩
theorem lw_p4 : lw_okq (⟨"BreadNumbered$Text", "figureHere", "()I"⟩, 3) := ⟨⟨by decide +kernel, by decide +kernel⟩, List.mem_of_getElem? (i := 17) (by decide +kernel), List.mem_of_getElem? (i := 166) (by decide +kernel), List.mem_of_getElem? (i := 167) (by decide +kernel)⟩
theorem lw_p5 : lw_okq (⟨"BreadNumbered$Text", "readPerson", "(LBreadNumbered$Siege;)Z"⟩, 3) := ⟨⟨by decide +kernel, by decide +kernel⟩, List.mem_of_getElem? (i := 17) (by decide +kernel), List.mem_of_getElem? (i := 174) (by decide +kernel), List.mem_of_getElem? (i := 175) (by decide +kernel)⟩
theorem lw_p6 : lw_okq (⟨"BreadNumbered$Text", "readLoaf", "(LBreadNumbered$Siege;)Z"⟩, 3) := ⟨⟨by decide +kernel, by decide +kernel⟩, List.mem_of_getElem? (i := 17) (by decide +kernel), List.mem_of_getElem? (i := 182) (by decide +kernel), List.mem_of_getElem? (i := 183) (by decide +kernel)⟩
theorem lw_p7 : lw_okq (⟨"BreadNumbered$Text", "readNumber", "(LBreadNumbered$Siege;)I"⟩, 3) := ⟨⟨by decide +kernel, by decide +kernel⟩, List.mem_of_getElem? (i := 17) (by decide +kernel), List.mem_of_getElem? (i := 186) (by decide +kernel), List.mem_of_getElem? (i := 187) (by decide +kernel)⟩
theorem lw_p8 : lw_okq (⟨"BreadNumbered", "forgetActs", "()V"⟩, 8) := ⟨⟨by decide +kernel, by decide +kernel⟩, List.mem_of_getElem? (i := 9) (by decide +kernel), List.mem_of_getElem? (i := 215) (by decide +kernel), List.mem_of_getElem? (i := 216) (by decide +kernel)⟩
theorem lw_p9 : lw_okq (⟨"BreadNumbered$Siege", "lawForbids", "(II)Z"⟩, 15) := ⟨⟨by decide +kernel, by decide +kernel⟩, List.mem_of_getElem? (i := 35) (by decide +kernel), List.mem_of_getElem? (i := 257) (by decide +kernel), List.mem_of_getElem? (i := 258) (by decide +kernel)⟩
theorem lw_p10 : lw_okq (⟨"BreadNumbered", "rememberAct", "()V"⟩, 8) := ⟨⟨by decide +kernel, by decide +kernel⟩, List.mem_of_getElem? (i := 9) (by decide +kernel), List.mem_of_getElem? (i := 269) (by decide +kernel), List.mem_of_getElem? (i := 270) (by decide +kernel)⟩
theorem lw_p11 : lw_okq (⟨"BreadNumbered$Siege", "leaveToPriest", "(I)V"⟩, 15) := ⟨⟨by decide +kernel, by decide +kernel⟩, List.mem_of_getElem? (i := 35) (by decide +kernel), List.mem_of_getElem? (i := 299) (by decide +kernel), List.mem_of_getElem? (i := 300) (by decide +kernel)⟩
theorem lw_p12 : lw_okq (⟨"BreadNumbered", "daysUntilDeath", "()I"⟩, 8) := ⟨⟨by decide +kernel, by decide +kernel⟩, List.mem_of_getElem? (i := 9) (by decide +kernel), List.mem_of_getElem? (i := 354) (by decide +kernel), List.mem_of_getElem? (i := 355) (by decide +kernel)⟩
theorem lw_p13 : lw_okq (⟨"BreadNumbered$Siege", "leastAllowed", "(I)I"⟩, 15) := ⟨⟨by decide +kernel, by decide +kernel⟩, List.mem_of_getElem? (i := 35) (by decide +kernel), List.mem_of_getElem? (i := 362) (by decide +kernel), List.mem_of_getElem? (i := 363) (by decide +kernel)⟩
theorem lw_p14 : lw_okq (⟨"BreadNumbered$Siege", "mealsDue", "(II)I"⟩, 15) := ⟨⟨by decide +kernel, by decide +kernel⟩, List.mem_of_getElem? (i := 35) (by decide +kernel), List.mem_of_getElem? (i := 383) (by decide +kernel), List.mem_of_getElem? (i := 384) (by decide +kernel)⟩
theorem lw_p15 : lw_okq (⟨"BreadNumbered$Siege", "loavesGoodOn", "(I)I"⟩, 15) := ⟨⟨by decide +kernel, by decide +kernel⟩, List.mem_of_getElem? (i := 35) (by decide +kernel), List.mem_of_getElem? (i := 387) (by decide +kernel), List.mem_of_getElem? (i := 388) (by decide +kernel)⟩
def lw_privs_1 : List (MethodName × Nat) := [(⟨"BreadNumbered$Text", "readRules", "(LBreadNumbered$Siege;)Z"⟩, 3), (⟨"BreadNumbered$Text", "readSign", "(C)Z"⟩, 3), (⟨"BreadNumbered$Text", "isSignHere", "(C)Z"⟩, 3), (⟨"BreadNumbered$Text", "readFigure", "(II)I"⟩, 3), (⟨"BreadNumbered$Text", "figureHere", "()I"⟩, 3), (⟨"BreadNumbered$Text", "readPerson", "(LBreadNumbered$Siege;)Z"⟩, 3), (⟨"BreadNumbered$Text", "readLoaf", "(LBreadNumbered$Siege;)Z"⟩, 3), (⟨"BreadNumbered$Text", "readNumber", "(LBreadNumbered$Siege;)I"⟩, 3), (⟨"BreadNumbered", "forgetActs", "()V"⟩, 8), (⟨"BreadNumbered$Siege", "lawForbids", "(II)Z"⟩, 15), (⟨"BreadNumbered", "rememberAct", "()V"⟩, 8), (⟨"BreadNumbered$Siege", "leaveToPriest", "(I)V"⟩, 15), (⟨"BreadNumbered", "daysUntilDeath", "()I"⟩, 8), (⟨"BreadNumbered$Siege", "leastAllowed", "(I)I"⟩, 15), (⟨"BreadNumbered$Siege", "mealsDue", "(II)I"⟩, 15), (⟨"BreadNumbered$Siege", "loavesGoodOn", "(I)I"⟩, 15)]
theorem lw_r1 : ∀ q ∈ lw_privs_1, lw_okq q := List.forall_mem_cons.mpr ⟨lw_p0, List.forall_mem_cons.mpr ⟨lw_p1, List.forall_mem_cons.mpr ⟨lw_p2, List.forall_mem_cons.mpr ⟨lw_p3, List.forall_mem_cons.mpr ⟨lw_p4, List.forall_mem_cons.mpr ⟨lw_p5, List.forall_mem_cons.mpr ⟨lw_p6, List.forall_mem_cons.mpr ⟨lw_p7, List.forall_mem_cons.mpr ⟨lw_p8, List.forall_mem_cons.mpr ⟨lw_p9, List.forall_mem_cons.mpr ⟨lw_p10, List.forall_mem_cons.mpr ⟨lw_p11, List.forall_mem_cons.mpr ⟨lw_p12, List.forall_mem_cons.mpr ⟨lw_p13, List.forall_mem_cons.mpr ⟨lw_p14, List.forall_mem_cons.mpr ⟨lw_p15, fun _ h => absurd h List.not_mem_nil⟩⟩⟩⟩⟩⟩⟩⟩⟩⟩⟩⟩⟩⟩⟩⟩
theorem lw_p16 : lw_okq (⟨"BreadNumberedModel", "readText", "()I"⟩, 29) := ⟨⟨by decide +kernel, by decide +kernel⟩, List.mem_of_getElem? (i := 445) (by decide +kernel), List.mem_of_getElem? (i := 557) (by decide +kernel), List.mem_of_getElem? (i := 558) (by decide +kernel)⟩
theorem lw_p17 : lw_okq (⟨"BreadNumberedModel", "figure", "(I)I"⟩, 29) := ⟨⟨by decide +kernel, by decide +kernel⟩, List.mem_of_getElem? (i := 445) (by decide +kernel), List.mem_of_getElem? (i := 561) (by decide +kernel), List.mem_of_getElem? (i := 562) (by decide +kernel)⟩
theorem lw_p18 : lw_okq (⟨"BreadNumberedModel", "readLoaf", "()V"⟩, 29) := ⟨⟨by decide +kernel, by decide +kernel⟩, List.mem_of_getElem? (i := 445) (by decide +kernel), List.mem_of_getElem? (i := 566) (by decide +kernel), List.mem_of_getElem? (i := 567) (by decide +kernel)⟩
theorem lw_p19 : lw_okq (⟨"BreadNumberedModel", "free", "(I)I"⟩, 29) := ⟨⟨by decide +kernel, by decide +kernel⟩, List.mem_of_getElem? (i := 445) (by decide +kernel), List.mem_of_getElem? (i := 570) (by decide +kernel), List.mem_of_getElem? (i := 571) (by decide +kernel)⟩
theorem lw_p20 : lw_okq (⟨"BreadNumberedModel", "isPerson", "(I)Z"⟩, 29) := ⟨⟨by decide +kernel, by decide +kernel⟩, List.mem_of_getElem? (i := 445) (by decide +kernel), List.mem_of_getElem? (i := 582) (by decide +kernel), List.mem_of_getElem? (i := 583) (by decide +kernel)⟩
theorem lw_p21 : lw_okq (⟨"BreadNumberedModel", "held", "(I)I"⟩, 29) := ⟨⟨by decide +kernel, by decide +kernel⟩, List.mem_of_getElem? (i := 445) (by decide +kernel), List.mem_of_getElem? (i := 586) (by decide +kernel), List.mem_of_getElem? (i := 587) (by decide +kernel)⟩
theorem lw_p22 : lw_okq (⟨"BreadNumberedModel", "holder", "(I)I"⟩, 29) := ⟨⟨by decide +kernel, by decide +kernel⟩, List.mem_of_getElem? (i := 445) (by decide +kernel), List.mem_of_getElem? (i := 590) (by decide +kernel), List.mem_of_getElem? (i := 591) (by decide +kernel)⟩
theorem lw_p23 : lw_okq (⟨"BreadNumberedModel", "isLoaf", "(I)Z"⟩, 29) := ⟨⟨by decide +kernel, by decide +kernel⟩, List.mem_of_getElem? (i := 445) (by decide +kernel), List.mem_of_getElem? (i := 598) (by decide +kernel), List.mem_of_getElem? (i := 599) (by decide +kernel)⟩
theorem lw_p24 : lw_okq (⟨"BreadNumberedModel", "isBad", "(I)Z"⟩, 29) := ⟨⟨by decide +kernel, by decide +kernel⟩, List.mem_of_getElem? (i := 445) (by decide +kernel), List.mem_of_getElem? (i := 602) (by decide +kernel), List.mem_of_getElem? (i := 603) (by decide +kernel)⟩
theorem lw_p25 : lw_okq (⟨"BreadNumberedModel", "mayEat", "(II)Z"⟩, 29) := ⟨⟨by decide +kernel, by decide +kernel⟩, List.mem_of_getElem? (i := 445) (by decide +kernel), List.mem_of_getElem? (i := 610) (by decide +kernel), List.mem_of_getElem? (i := 611) (by decide +kernel)⟩
theorem lw_p26 : lw_okq (⟨"BreadNumberedModel", "number", "(I)I"⟩, 29) := ⟨⟨by decide +kernel, by decide +kernel⟩, List.mem_of_getElem? (i := 445) (by decide +kernel), List.mem_of_getElem? (i := 614) (by decide +kernel), List.mem_of_getElem? (i := 615) (by decide +kernel)⟩
theorem lw_p27 : lw_okq (⟨"BreadNumberedModel", "keepAct", "()V"⟩, 29) := ⟨⟨by decide +kernel, by decide +kernel⟩, List.mem_of_getElem? (i := 445) (by decide +kernel), List.mem_of_getElem? (i := 622) (by decide +kernel), List.mem_of_getElem? (i := 623) (by decide +kernel)⟩
theorem lw_p28 : lw_okq (⟨"BreadNumberedModel", "eaten", "(II)V"⟩, 29) := ⟨⟨by decide +kernel, by decide +kernel⟩, List.mem_of_getElem? (i := 445) (by decide +kernel), List.mem_of_getElem? (i := 626) (by decide +kernel), List.mem_of_getElem? (i := 627) (by decide +kernel)⟩
theorem lw_p29 : lw_okq (⟨"BreadNumberedModel", "goBy", "()I"⟩, 29) := ⟨⟨by decide +kernel, by decide +kernel⟩, List.mem_of_getElem? (i := 445) (by decide +kernel), List.mem_of_getElem? (i := 645) (by decide +kernel), List.mem_of_getElem? (i := 646) (by decide +kernel)⟩
theorem lw_p30 : lw_okq (⟨"BreadNumberedModel", "alive", "()I"⟩, 29) := ⟨⟨by decide +kernel, by decide +kernel⟩, List.mem_of_getElem? (i := 445) (by decide +kernel), List.mem_of_getElem? (i := 653) (by decide +kernel), List.mem_of_getElem? (i := 654) (by decide +kernel)⟩
theorem lw_p31 : lw_okq (⟨"BreadNumberedModel", "layLasts", "()I"⟩, 29) := ⟨⟨by decide +kernel, by decide +kernel⟩, List.mem_of_getElem? (i := 445) (by decide +kernel), List.mem_of_getElem? (i := 677) (by decide +kernel), List.mem_of_getElem? (i := 678) (by decide +kernel)⟩
def lw_privs_2 : List (MethodName × Nat) := [(⟨"BreadNumberedModel", "readText", "()I"⟩, 29), (⟨"BreadNumberedModel", "figure", "(I)I"⟩, 29), (⟨"BreadNumberedModel", "readLoaf", "()V"⟩, 29), (⟨"BreadNumberedModel", "free", "(I)I"⟩, 29), (⟨"BreadNumberedModel", "isPerson", "(I)Z"⟩, 29), (⟨"BreadNumberedModel", "held", "(I)I"⟩, 29), (⟨"BreadNumberedModel", "holder", "(I)I"⟩, 29), (⟨"BreadNumberedModel", "isLoaf", "(I)Z"⟩, 29), (⟨"BreadNumberedModel", "isBad", "(I)Z"⟩, 29), (⟨"BreadNumberedModel", "mayEat", "(II)Z"⟩, 29), (⟨"BreadNumberedModel", "number", "(I)I"⟩, 29), (⟨"BreadNumberedModel", "keepAct", "()V"⟩, 29), (⟨"BreadNumberedModel", "eaten", "(II)V"⟩, 29), (⟨"BreadNumberedModel", "goBy", "()I"⟩, 29), (⟨"BreadNumberedModel", "alive", "()I"⟩, 29), (⟨"BreadNumberedModel", "layLasts", "()I"⟩, 29)]
theorem lw_r2 : ∀ q ∈ lw_privs_2, lw_okq q := List.forall_mem_cons.mpr ⟨lw_p16, List.forall_mem_cons.mpr ⟨lw_p17, List.forall_mem_cons.mpr ⟨lw_p18, List.forall_mem_cons.mpr ⟨lw_p19, List.forall_mem_cons.mpr ⟨lw_p20, List.forall_mem_cons.mpr ⟨lw_p21, List.forall_mem_cons.mpr ⟨lw_p22, List.forall_mem_cons.mpr ⟨lw_p23, List.forall_mem_cons.mpr ⟨lw_p24, List.forall_mem_cons.mpr ⟨lw_p25, List.forall_mem_cons.mpr ⟨lw_p26, List.forall_mem_cons.mpr ⟨lw_p27, List.forall_mem_cons.mpr ⟨lw_p28, List.forall_mem_cons.mpr ⟨lw_p29, List.forall_mem_cons.mpr ⟨lw_p30, List.forall_mem_cons.mpr ⟨lw_p31, fun _ h => absurd h List.not_mem_nil⟩⟩⟩⟩⟩⟩⟩⟩⟩⟩⟩⟩⟩⟩⟩⟩
theorem lw_p32 : lw_okq (⟨"BreadNumberedModel", "leastOf", "(I)I"⟩, 29) := ⟨⟨by decide +kernel, by decide +kernel⟩, List.mem_of_getElem? (i := 445) (by decide +kernel), List.mem_of_getElem? (i := 681) (by decide +kernel), List.mem_of_getElem? (i := 682) (by decide +kernel)⟩
theorem lw_p33 : lw_okq (⟨"BreadNumberedModel", "layGood", "()I"⟩, 29) := ⟨⟨by decide +kernel, by decide +kernel⟩, List.mem_of_getElem? (i := 445) (by decide +kernel), List.mem_of_getElem? (i := 693) (by decide +kernel), List.mem_of_getElem? (i := 694) (by decide +kernel)⟩
theorem lw_p34 : lw_okq (⟨"BreadNumberedModel", "goOn", "(IIII)Z"⟩, 29) := ⟨⟨by decide +kernel, by decide +kernel⟩, List.mem_of_getElem? (i := 445) (by decide +kernel), List.mem_of_getElem? (i := 700) (by decide +kernel), List.mem_of_getElem? (i := 701) (by decide +kernel)⟩
theorem lw_p35 : lw_okq (⟨"BreadNumberedModel", "fasted", "(IIII)I"⟩, 29) := ⟨⟨by decide +kernel, by decide +kernel⟩, List.mem_of_getElem? (i := 445) (by decide +kernel), List.mem_of_getElem? (i := 704) (by decide +kernel), List.mem_of_getElem? (i := 705) (by decide +kernel)⟩
theorem lw_p36 : lw_okq (⟨"BreadNumberedModel", "greatest", "()I"⟩, 29) := ⟨⟨by decide +kernel, by decide +kernel⟩, List.mem_of_getElem? (i := 445) (by decide +kernel), List.mem_of_getElem? (i := 712) (by decide +kernel), List.mem_of_getElem? (i := 713) (by decide +kernel)⟩
theorem lw_p37 : lw_okq (⟨"BreadNumberedModel", "isTold", "(I)Z"⟩, 29) := ⟨⟨by decide +kernel, by decide +kernel⟩, List.mem_of_getElem? (i := 445) (by decide +kernel), List.mem_of_getElem? (i := 716) (by decide +kernel), List.mem_of_getElem? (i := 717) (by decide +kernel)⟩
def lw_privs_3 : List (MethodName × Nat) := [(⟨"BreadNumberedModel", "leastOf", "(I)I"⟩, 29), (⟨"BreadNumberedModel", "layGood", "()I"⟩, 29), (⟨"BreadNumberedModel", "goOn", "(IIII)Z"⟩, 29), (⟨"BreadNumberedModel", "fasted", "(IIII)I"⟩, 29), (⟨"BreadNumberedModel", "greatest", "()I"⟩, 29), (⟨"BreadNumberedModel", "isTold", "(I)Z"⟩, 29)]
theorem lw_r3 : ∀ q ∈ lw_privs_3, lw_okq q := List.forall_mem_cons.mpr ⟨lw_p32, List.forall_mem_cons.mpr ⟨lw_p33, List.forall_mem_cons.mpr ⟨lw_p34, List.forall_mem_cons.mpr ⟨lw_p35, List.forall_mem_cons.mpr ⟨lw_p36, List.forall_mem_cons.mpr ⟨lw_p37, fun _ h => absurd h List.not_mem_nil⟩⟩⟩⟩⟩⟩
def lw_privs : List (MethodName × Nat) := lw_privs_1 ++ (lw_privs_2 ++ (lw_privs_3))
def lw_tbl : List Cond := k2_sels lw_privs ++ tables_1
theorem lw_privs_ok : ∀ q ∈ lw_privs, lw_okq q := by
  show ∀ q ∈ lw_privs_1 ++ (lw_privs_2 ++ (lw_privs_3)), lw_okq q
  exact List.forall_mem_append.mpr ⟨lw_r1, List.forall_mem_append.mpr ⟨lw_r2, lw_r3⟩⟩
def RX0 : String := "BreadNumbered$Siege"
def TX0 : u_T := fun k => match k with
  | 0 => ("BreadNumbered$Siege", "law", "I", false)
  | 1 => ("BreadNumbered$Siege", "lives", "I", false)
  | 2 => ("BreadNumbered$Siege", "badAt", "I", false)
  | 3 => ("BreadNumbered$Siege", "day", "I", false)
  | 4 => ("BreadNumbered$Siege", "seed", "J", false)
  | 5 => ("BreadNumbered$Siege", "people", "I", false)
  | 6 => ("BreadNumbered$Siege", "fasted", "[I", true)
  | 7 => ("BreadNumbered$Siege", "ateToday", "[Z", true)
  | 8 => ("BreadNumbered$Siege", "eatenCount", "[I", true)
  | 9 => ("BreadNumbered$Siege", "loaves", "I", false)
  | 10 => ("BreadNumbered$Siege", "number", "[I", true)
  | 11 => ("BreadNumbered$Siege", "holder", "[I", true)
  | 12 => ("BreadNumbered$Siege", "age", "[I", true)
  | 13 => ("BreadNumbered$Siege", "eater", "[I", true)
  | _ => ("BreadNumbered$Siege", "eatenOn", "[I", true)
def tyX0 : Nat → FieldType := fun k => match k with
  | 0 => .int
  | 1 => .int
  | 2 => .int
  | 3 => .int
  | 4 => .long
  | 5 => .int
  | 6 => .array .int
  | 7 => .array .boolean
  | 8 => .array .int
  | 9 => .int
  | 10 => .array .int
  | 11 => .array .int
  | 12 => .array .int
  | 13 => .array .int
  | _ => .array .int
abbrev wsX00 : List Cond := u_ws RX0 TX0 15
theorem nmX0 : ∀ a, a < 15 → ∀ b, b < 15 → a ≠ b → (TX0 a).2.1 ≠ (TX0 b).2.1 := by decide +kernel
theorem tyX0_ok : ∀ k, k < 15 → parseFieldDescriptor (TX0 k).2.2.1 = some (tyX0 k) := by decide +kernel
abbrev cX0_init : ByteArray := prog_2_method_1_code
def yX0_init : MethodName := ⟨RX0, "<init>", "()V"⟩
abbrev cX0_begin : ByteArray := prog_2_method_2_code
def yX0_begin : MethodName := ⟨RX0, "begin", "(III)V"⟩
abbrev cX0_addPerson : ByteArray := prog_2_method_3_code
def yX0_addPerson : MethodName := ⟨RX0, "addPerson", "(I)V"⟩
abbrev cX0_addLoaf : ByteArray := prog_2_method_4_code
def yX0_addLoaf : MethodName := ⟨RX0, "addLoaf", "(III)V"⟩
abbrev cX0_becomes : ByteArray := prog_2_method_5_code
def yX0_becomes : MethodName := ⟨RX0, "becomes", "(LBreadNumbered$Siege;)V"⟩
abbrev cX0_hasPerson : ByteArray := prog_2_method_6_code
def yX0_hasPerson : MethodName := ⟨RX0, "hasPerson", "(I)Z"⟩
abbrev cX0_hasLoaf : ByteArray := prog_2_method_7_code
def yX0_hasLoaf : MethodName := ⟨RX0, "hasLoaf", "(I)Z"⟩
abbrev cX0_isAlive : ByteArray := prog_2_method_8_code
def yX0_isAlive : MethodName := ⟨RX0, "isAlive", "(I)Z"⟩
abbrev cX0_isBad : ByteArray := prog_2_method_9_code
def yX0_isBad : MethodName := ⟨RX0, "isBad", "(I)Z"⟩
abbrev cX0_isHeldByAnyone : ByteArray := prog_2_method_10_code
def yX0_isHeldByAnyone : MethodName := ⟨RX0, "isHeldByAnyone", "(I)Z"⟩
abbrev cX0_aliveBits : ByteArray := prog_2_method_11_code
def yX0_aliveBits : MethodName := ⟨RX0, "aliveBits", "()I"⟩
abbrev cX0_aliveCount : ByteArray := prog_2_method_12_code
def yX0_aliveCount : MethodName := ⟨RX0, "aliveCount", "()I"⟩
abbrev cX0_aliveAt : ByteArray := prog_2_method_13_code
def yX0_aliveAt : MethodName := ⟨RX0, "aliveAt", "(I)I"⟩
abbrev cX0_heldBits : ByteArray := prog_2_method_14_code
def yX0_heldBits : MethodName := ⟨RX0, "heldBits", "(I)I"⟩
abbrev cX0_isHeldByOthers : ByteArray := prog_2_method_15_code
def yX0_isHeldByOthers : MethodName := ⟨RX0, "isHeldByOthers", "(II)Z"⟩
abbrev cX0_heldByOthersCount : ByteArray := prog_2_method_16_code
def yX0_heldByOthersCount : MethodName := ⟨RX0, "heldByOthersCount", "(I)I"⟩
abbrev cX0_heldByOthersAt : ByteArray := prog_2_method_17_code
def yX0_heldByOthersAt : MethodName := ⟨RX0, "heldByOthersAt", "(II)I"⟩
abbrev cX0_eatenLoaves : ByteArray := prog_2_method_18_code
def yX0_eatenLoaves : MethodName := ⟨RX0, "eatenLoaves", "()I"⟩
abbrev cX0_badLoaves : ByteArray := prog_2_method_19_code
def yX0_badLoaves : MethodName := ⟨RX0, "badLoaves", "()I"⟩
abbrev cX0_hasNumber : ByteArray := prog_2_method_20_code
def yX0_hasNumber : MethodName := ⟨RX0, "hasNumber", "(I)Z"⟩
abbrev cX0_greatestNumber : ByteArray := prog_2_method_21_code
def yX0_greatestNumber : MethodName := ⟨RX0, "greatestNumber", "()I"⟩
abbrev cX0_missingCount : ByteArray := prog_2_method_22_code
def yX0_missingCount : MethodName := ⟨RX0, "missingCount", "()I"⟩
abbrev cX0_isAllowed : ByteArray := prog_2_method_23_code
def yX0_isAllowed : MethodName := ⟨RX0, "isAllowed", "(II)Z"⟩
abbrev cX0_lawForbids : ByteArray := prog_2_method_24_code
def yX0_lawForbids : MethodName := ⟨RX0, "lawForbids", "(II)Z"⟩
abbrev cX0_feed : ByteArray := prog_2_method_25_code
def yX0_feed : MethodName := ⟨RX0, "feed", "(II)V"⟩
abbrev cX0_passDay : ByteArray := prog_2_method_26_code
def yX0_passDay : MethodName := ⟨RX0, "passDay", "()I"⟩
abbrev cX0_leaveToPriest : ByteArray := prog_2_method_27_code
def yX0_leaveToPriest : MethodName := ⟨RX0, "leaveToPriest", "(I)V"⟩
abbrev cX0_eatAsItIs : ByteArray := prog_2_method_28_code
def yX0_eatAsItIs : MethodName := ⟨RX0, "eatAsItIs", "()V"⟩
abbrev cX0_leastAllowed : ByteArray := prog_2_method_29_code
def yX0_leastAllowed : MethodName := ⟨RX0, "leastAllowed", "(I)I"⟩
abbrev cX0_canAllLive : ByteArray := prog_2_method_30_code
def yX0_canAllLive : MethodName := ⟨RX0, "canAllLive", "(I)Z"⟩
abbrev cX0_mealsDue : ByteArray := prog_2_method_31_code
def yX0_mealsDue : MethodName := ⟨RX0, "mealsDue", "(II)I"⟩
abbrev cX0_loavesGoodOn : ByteArray := prog_2_method_32_code
def yX0_loavesGoodOn : MethodName := ⟨RX0, "loavesGoodOn", "(I)I"⟩
def RX1 : String := "BreadNumbered$Text"
def TX1 : u_T := fun k => match k with
  | 0 => ("BreadNumbered$Text", "bytes", "[I", true)
  | 1 => ("BreadNumbered$Text", "length", "I", false)
  | _ => ("BreadNumbered$Text", "place", "I", false)
def tyX1 : Nat → FieldType := fun k => match k with
  | 0 => .array .int
  | 1 => .int
  | _ => .int
abbrev wsX10 : List Cond := u_ws RX1 TX1 3
theorem nmX1 : ∀ a, a < 3 → ∀ b, b < 3 → a ≠ b → (TX1 a).2.1 ≠ (TX1 b).2.1 := by decide +kernel
theorem tyX1_ok : ∀ k, k < 3 → parseFieldDescriptor (TX1 k).2.2.1 = some (tyX1 k) := by decide +kernel
abbrev cX1_init : ByteArray := prog_3_method_1_code
def yX1_init : MethodName := ⟨RX1, "<init>", "()V"⟩
abbrev cX1_append : ByteArray := prog_3_method_2_code
def yX1_append : MethodName := ⟨RX1, "append", "(I)V"⟩
abbrev cX1_readInto : ByteArray := prog_3_method_3_code
def yX1_readInto : MethodName := ⟨RX1, "readInto", "(LBreadNumbered$Siege;)I"⟩
abbrev cX1_readRules : ByteArray := prog_3_method_4_code
def yX1_readRules : MethodName := ⟨RX1, "readRules", "(LBreadNumbered$Siege;)Z"⟩
abbrev cX1_readPerson : ByteArray := prog_3_method_5_code
def yX1_readPerson : MethodName := ⟨RX1, "readPerson", "(LBreadNumbered$Siege;)Z"⟩
abbrev cX1_readLoaf : ByteArray := prog_3_method_6_code
def yX1_readLoaf : MethodName := ⟨RX1, "readLoaf", "(LBreadNumbered$Siege;)Z"⟩
abbrev cX1_readNumber : ByteArray := prog_3_method_7_code
def yX1_readNumber : MethodName := ⟨RX1, "readNumber", "(LBreadNumbered$Siege;)I"⟩
abbrev cX1_hasFreeNumber : ByteArray := prog_3_method_8_code
def yX1_hasFreeNumber : MethodName := ⟨RX1, "hasFreeNumber", "(LBreadNumbered$Siege;I)Z"⟩
abbrev cX1_isFree : ByteArray := prog_3_method_9_code
def yX1_isFree : MethodName := ⟨RX1, "isFree", "(LBreadNumbered$Siege;I)Z"⟩
abbrev cX1_readSign : ByteArray := prog_3_method_10_code
def yX1_readSign : MethodName := ⟨RX1, "readSign", "(C)Z"⟩
abbrev cX1_isSignHere : ByteArray := prog_3_method_11_code
def yX1_isSignHere : MethodName := ⟨RX1, "isSignHere", "(C)Z"⟩
abbrev cX1_readFigure : ByteArray := prog_3_method_12_code
def yX1_readFigure : MethodName := ⟨RX1, "readFigure", "(II)I"⟩
abbrev cX1_figureHere : ByteArray := prog_3_method_13_code
def yX1_figureHere : MethodName := ⟨RX1, "figureHere", "()I"⟩
def RX2 : String := "BreadNumbered"
def TX2 : u_T := fun k => match k with
  | 0 => ("BreadNumbered", "text", "LBreadNumbered$Text;", true)
  | 1 => ("BreadNumbered", "now", "LBreadNumbered$Siege;", true)
  | 2 => ("BreadNumbered", "spare", "LBreadNumbered$Siege;", true)
  | 3 => ("BreadNumbered", "acts", "[LBreadNumbered$Siege;", true)
  | 4 => ("BreadNumbered", "firstAct", "I", false)
  | 5 => ("BreadNumbered", "actCount", "I", false)
  | 6 => ("BreadNumbered", "slots", "[LBreadNumbered$Siege;", true)
  | _ => ("BreadNumbered", "isKept", "[Z", true)
def tyX2 : Nat → FieldType := fun k => match k with
  | 0 => .object "BreadNumbered$Text"
  | 1 => .object "BreadNumbered$Siege"
  | 2 => .object "BreadNumbered$Siege"
  | 3 => .array (.object "BreadNumbered$Siege")
  | 4 => .int
  | 5 => .int
  | 6 => .array (.object "BreadNumbered$Siege")
  | _ => .array .boolean
abbrev wsX20 : List Cond := u_ws RX2 TX2 8
theorem nmX2 : ∀ a, a < 8 → ∀ b, b < 8 → a ≠ b → (TX2 a).2.1 ≠ (TX2 b).2.1 := by decide +kernel
theorem tyX2_ok : ∀ k, k < 8 → parseFieldDescriptor (TX2 k).2.2.1 = some (tyX2 k) := by decide +kernel
abbrev cX2_init : ByteArray := prog_1_method_1_code
def yX2_init : MethodName := ⟨RX2, "<init>", "()V"⟩
abbrev cX2_write : ByteArray := prog_1_method_2_code
def yX2_write : MethodName := ⟨RX2, "write", "(IJ)I"⟩
abbrev cX2_wipe : ByteArray := prog_1_method_3_code
def yX2_wipe : MethodName := ⟨RX2, "wipe", "()I"⟩
abbrev cX2_fault : ByteArray := prog_1_method_4_code
def yX2_fault : MethodName := ⟨RX2, "fault", "()I"⟩
abbrev cX2_siege : ByteArray := prog_1_method_5_code
def yX2_siege : MethodName := ⟨RX2, "siege", "()I"⟩
abbrev cX2_person : ByteArray := prog_1_method_6_code
def yX2_person : MethodName := ⟨RX2, "person", "(II)I"⟩
abbrev cX2_loaf : ByteArray := prog_1_method_7_code
def yX2_loaf : MethodName := ⟨RX2, "loaf", "(II)I"⟩
abbrev cX2_may : ByteArray := prog_1_method_8_code
def yX2_may : MethodName := ⟨RX2, "may", "(II)I"⟩
abbrev cX2_eat : ByteArray := prog_1_method_9_code
def yX2_eat : MethodName := ⟨RX2, "eat", "(II)I"⟩
abbrev cX2_give : ByteArray := prog_1_method_10_code
def yX2_give : MethodName := ⟨RX2, "give", "(II)I"⟩
abbrev cX2_cut : ByteArray := prog_1_method_11_code
def yX2_cut : MethodName := ⟨RX2, "cut", "(I)I"⟩
abbrev cX2_day : ByteArray := prog_1_method_12_code
def yX2_day : MethodName := ⟨RX2, "day", "()I"⟩
abbrev cX2_night : ByteArray := prog_1_method_13_code
def yX2_night : MethodName := ⟨RX2, "night", "()I"⟩
abbrev cX2_undo : ByteArray := prog_1_method_14_code
def yX2_undo : MethodName := ⟨RX2, "undo", "()I"⟩
abbrev cX2_seed : ByteArray := prog_1_method_15_code
def yX2_seed : MethodName := ⟨RX2, "seed", "(J)J"⟩
abbrev cX2_lasts : ByteArray := prog_1_method_16_code
def yX2_lasts : MethodName := ⟨RX2, "lasts", "()I"⟩
abbrev cX2_first : ByteArray := prog_1_method_17_code
def yX2_first : MethodName := ⟨RX2, "first", "()I"⟩
abbrev cX2_best : ByteArray := prog_1_method_18_code
def yX2_best : MethodName := ⟨RX2, "best", "()I"⟩
abbrev cX2_missing : ByteArray := prog_1_method_19_code
def yX2_missing : MethodName := ⟨RX2, "missing", "(I)I"⟩
abbrev cX2_forged : ByteArray := prog_1_method_20_code
def yX2_forged : MethodName := ⟨RX2, "forged", "(IIIZ)I"⟩
abbrev cX2_help : ByteArray := prog_1_method_21_code
def yX2_help : MethodName := ⟨RX2, "help", "(IZ)J"⟩
abbrev cX2_keep : ByteArray := prog_1_method_22_code
def yX2_keep : MethodName := ⟨RX2, "keep", "(I)I"⟩
abbrev cX2_again : ByteArray := prog_1_method_23_code
def yX2_again : MethodName := ⟨RX2, "again", "(I)I"⟩
abbrev cX2_count : ByteArray := prog_1_method_24_code
def yX2_count : MethodName := ⟨RX2, "count", "(I)I"⟩
abbrev cX2_rememberAct : ByteArray := prog_1_method_25_code
def yX2_rememberAct : MethodName := ⟨RX2, "rememberAct", "()V"⟩
abbrev cX2_forgetActs : ByteArray := prog_1_method_26_code
def yX2_forgetActs : MethodName := ⟨RX2, "forgetActs", "()V"⟩
abbrev cX2_daysUntilDeath : ByteArray := prog_1_method_27_code
def yX2_daysUntilDeath : MethodName := ⟨RX2, "daysUntilDeath", "()I"⟩
abbrev cX2_hasNine : ByteArray := prog_1_method_28_code
def yX2_hasNine : MethodName := ⟨RX2, "hasNine", "(I)Z"⟩
abbrev cX2_whenCut : ByteArray := prog_1_method_29_code
def yX2_whenCut : MethodName := ⟨RX2, "whenCut", "(I)I"⟩
abbrev cX2_partInLeastTerms : ByteArray := prog_1_method_30_code
def yX2_partInLeastTerms : MethodName := ⟨RX2, "partInLeastTerms", "(JJZ)J"⟩
abbrev cX2_greatestDivisor : ByteArray := prog_1_method_31_code
def yX2_greatestDivisor : MethodName := ⟨RX2, "greatestDivisor", "(JJ)J"⟩
def RX3 : String := "BreadNumberedModel"
def TX3 : u_T := fun k => match k with
  | 0 => ("BreadNumberedModel", "read", "[I", true)
  | 1 => ("BreadNumberedModel", "readLaw", "I", false)
  | 2 => ("BreadNumberedModel", "readLives", "I", false)
  | 3 => ("BreadNumberedModel", "readSpoils", "I", false)
  | 4 => ("BreadNumberedModel", "readPeople", "I", false)
  | 5 => ("BreadNumberedModel", "readLoaves", "I", false)
  | 6 => ("BreadNumberedModel", "now", "[I", true)
  | 7 => ("BreadNumberedModel", "rule", "I", false)
  | 8 => ("BreadNumberedModel", "lives", "I", false)
  | 9 => ("BreadNumberedModel", "spoils", "I", false)
  | 10 => ("BreadNumberedModel", "people", "I", false)
  | 11 => ("BreadNumberedModel", "loaves", "I", false)
  | 12 => ("BreadNumberedModel", "seed", "J", false)
  | 13 => ("BreadNumberedModel", "text", "[I", true)
  | 14 => ("BreadNumberedModel", "length", "I", false)
  | 15 => ("BreadNumberedModel", "at", "I", false)
  | 16 => ("BreadNumberedModel", "faultAt", "I", false)
  | 17 => ("BreadNumberedModel", "acts", "I", false)
  | 18 => ("BreadNumberedModel", "next", "I", false)
  | 19 => ("BreadNumberedModel", "row", "[I", true)
  | 20 => ("BreadNumberedModel", "rowSeed", "[J", true)
  | 21 => ("BreadNumberedModel", "spare", "[I", true)
  | 22 => ("BreadNumberedModel", "firstDead", "I", false)
  | 23 => ("BreadNumberedModel", "can", "[Z", true)
  | 24 => ("BreadNumberedModel", "then", "[Z", true)
  | 25 => ("BreadNumberedModel", "good", "[I", true)
  | 26 => ("BreadNumberedModel", "isKept", "[Z", true)
  | 27 => ("BreadNumberedModel", "kept", "[I", true)
  | _ => ("BreadNumberedModel", "keptSeed", "[J", true)
def tyX3 : Nat → FieldType := fun k => match k with
  | 0 => .array .int
  | 1 => .int
  | 2 => .int
  | 3 => .int
  | 4 => .int
  | 5 => .int
  | 6 => .array .int
  | 7 => .int
  | 8 => .int
  | 9 => .int
  | 10 => .int
  | 11 => .int
  | 12 => .long
  | 13 => .array .int
  | 14 => .int
  | 15 => .int
  | 16 => .int
  | 17 => .int
  | 18 => .int
  | 19 => .array .int
  | 20 => .array .long
  | 21 => .array .int
  | 22 => .int
  | 23 => .array .boolean
  | 24 => .array .boolean
  | 25 => .array .int
  | 26 => .array .boolean
  | 27 => .array .int
  | _ => .array .long
abbrev wsX30 : List Cond := u_ws RX3 TX3 29
theorem nmX3 : ∀ a, a < 29 → ∀ b, b < 29 → a ≠ b → (TX3 a).2.1 ≠ (TX3 b).2.1 := by decide +kernel
theorem tyX3_ok : ∀ k, k < 29 → parseFieldDescriptor (TX3 k).2.2.1 = some (tyX3 k) := by decide +kernel
abbrev cX3_init : ByteArray := prog_5_method_1_code
def yX3_init : MethodName := ⟨RX3, "<init>", "()V"⟩
abbrev cX3_in : ByteArray := prog_5_method_3_code
def yX3_in : MethodName := ⟨RX3, "in", "(JJJ)Z"⟩
abbrev cX3_write : ByteArray := prog_5_method_4_code
def yX3_write : MethodName := ⟨RX3, "write", "(IJ)I"⟩
abbrev cX3_wipe : ByteArray := prog_5_method_5_code
def yX3_wipe : MethodName := ⟨RX3, "wipe", "()I"⟩
abbrev cX3_figure : ByteArray := prog_5_method_6_code
def yX3_figure : MethodName := ⟨RX3, "figure", "(I)I"⟩
abbrev cX3_free : ByteArray := prog_5_method_7_code
def yX3_free : MethodName := ⟨RX3, "free", "(I)I"⟩
abbrev cX3_readText : ByteArray := prog_5_method_8_code
def yX3_readText : MethodName := ⟨RX3, "readText", "()I"⟩
abbrev cX3_readLoaf : ByteArray := prog_5_method_9_code
def yX3_readLoaf : MethodName := ⟨RX3, "readLoaf", "()V"⟩
abbrev cX3_fault : ByteArray := prog_5_method_10_code
def yX3_fault : MethodName := ⟨RX3, "fault", "()I"⟩
abbrev cX3_siege : ByteArray := prog_5_method_11_code
def yX3_siege : MethodName := ⟨RX3, "siege", "()I"⟩
abbrev cX3_isPerson : ByteArray := prog_5_method_12_code
def yX3_isPerson : MethodName := ⟨RX3, "isPerson", "(I)Z"⟩
abbrev cX3_isLoaf : ByteArray := prog_5_method_13_code
def yX3_isLoaf : MethodName := ⟨RX3, "isLoaf", "(I)Z"⟩
abbrev cX3_number : ByteArray := prog_5_method_14_code
def yX3_number : MethodName := ⟨RX3, "number", "(I)I"⟩
abbrev cX3_holder : ByteArray := prog_5_method_15_code
def yX3_holder : MethodName := ⟨RX3, "holder", "(I)I"⟩
abbrev cX3_isBad : ByteArray := prog_5_method_16_code
def yX3_isBad : MethodName := ⟨RX3, "isBad", "(I)Z"⟩
abbrev cX3_held : ByteArray := prog_5_method_17_code
def yX3_held : MethodName := ⟨RX3, "held", "(I)I"⟩
abbrev cX3_person : ByteArray := prog_5_method_18_code
def yX3_person : MethodName := ⟨RX3, "person", "(II)I"⟩
abbrev cX3_loaf : ByteArray := prog_5_method_19_code
def yX3_loaf : MethodName := ⟨RX3, "loaf", "(II)I"⟩
abbrev cX3_keepAct : ByteArray := prog_5_method_20_code
def yX3_keepAct : MethodName := ⟨RX3, "keepAct", "()V"⟩
abbrev cX3_mayEat : ByteArray := prog_5_method_21_code
def yX3_mayEat : MethodName := ⟨RX3, "mayEat", "(II)Z"⟩
abbrev cX3_may : ByteArray := prog_5_method_22_code
def yX3_may : MethodName := ⟨RX3, "may", "(II)I"⟩
abbrev cX3_eaten : ByteArray := prog_5_method_23_code
def yX3_eaten : MethodName := ⟨RX3, "eaten", "(II)V"⟩
abbrev cX3_eat : ByteArray := prog_5_method_24_code
def yX3_eat : MethodName := ⟨RX3, "eat", "(II)I"⟩
abbrev cX3_give : ByteArray := prog_5_method_25_code
def yX3_give : MethodName := ⟨RX3, "give", "(II)I"⟩
abbrev cX3_cutOf : ByteArray := prog_5_method_26_code
def yX3_cutOf : MethodName := ⟨RX3, "cutOf", "(I)I"⟩
abbrev cX3_cut : ByteArray := prog_5_method_27_code
def yX3_cut : MethodName := ⟨RX3, "cut", "(I)I"⟩
abbrev cX3_goBy : ByteArray := prog_5_method_28_code
def yX3_goBy : MethodName := ⟨RX3, "goBy", "()I"⟩
abbrev cX3_day : ByteArray := prog_5_method_29_code
def yX3_day : MethodName := ⟨RX3, "day", "()I"⟩
abbrev cX3_alive : ByteArray := prog_5_method_30_code
def yX3_alive : MethodName := ⟨RX3, "alive", "()I"⟩
abbrev cX3_ones : ByteArray := prog_5_method_31_code
def yX3_ones : MethodName := ⟨RX3, "ones", "(I)I"⟩
abbrev cX3_nth : ByteArray := prog_5_method_32_code
def yX3_nth : MethodName := ⟨RX3, "nth", "(II)I"⟩
abbrev cX3_night : ByteArray := prog_5_method_33_code
def yX3_night : MethodName := ⟨RX3, "night", "()I"⟩
abbrev cX3_undo : ByteArray := prog_5_method_34_code
def yX3_undo : MethodName := ⟨RX3, "undo", "()I"⟩
abbrev cX3_seed : ByteArray := prog_5_method_35_code
def yX3_seed : MethodName := ⟨RX3, "seed", "(J)J"⟩
abbrev cX3_leastOf : ByteArray := prog_5_method_36_code
def yX3_leastOf : MethodName := ⟨RX3, "leastOf", "(I)I"⟩
abbrev cX3_layLasts : ByteArray := prog_5_method_37_code
def yX3_layLasts : MethodName := ⟨RX3, "layLasts", "()I"⟩
abbrev cX3_lasts : ByteArray := prog_5_method_38_code
def yX3_lasts : MethodName := ⟨RX3, "lasts", "()I"⟩
abbrev cX3_first : ByteArray := prog_5_method_39_code
def yX3_first : MethodName := ⟨RX3, "first", "()I"⟩
abbrev cX3_layGood : ByteArray := prog_5_method_40_code
def yX3_layGood : MethodName := ⟨RX3, "layGood", "()I"⟩
abbrev cX3_tenTo : ByteArray := prog_5_method_41_code
def yX3_tenTo : MethodName := ⟨RX3, "tenTo", "(I)I"⟩
abbrev cX3_fasted : ByteArray := prog_5_method_42_code
def yX3_fasted : MethodName := ⟨RX3, "fasted", "(IIII)I"⟩
abbrev cX3_best : ByteArray := prog_5_method_43_code
def yX3_best : MethodName := ⟨RX3, "best", "()I"⟩
abbrev cX3_goOn : ByteArray := prog_5_method_44_code
def yX3_goOn : MethodName := ⟨RX3, "goOn", "(IIII)Z"⟩
abbrev cX3_greatest : ByteArray := prog_5_method_45_code
def yX3_greatest : MethodName := ⟨RX3, "greatest", "()I"⟩
abbrev cX3_isTold : ByteArray := prog_5_method_46_code
def yX3_isTold : MethodName := ⟨RX3, "isTold", "(I)Z"⟩
abbrev cX3_missing : ByteArray := prog_5_method_47_code
def yX3_missing : MethodName := ⟨RX3, "missing", "(I)I"⟩
abbrev cX3_common : ByteArray := prog_5_method_48_code
def yX3_common : MethodName := ⟨RX3, "common", "(II)I"⟩
abbrev cX3_forged : ByteArray := prog_5_method_49_code
def yX3_forged : MethodName := ⟨RX3, "forged", "(IIIZ)I"⟩
abbrev cX3_power : ByteArray := prog_5_method_50_code
def yX3_power : MethodName := ⟨RX3, "power", "(II)J"⟩
abbrev cX3_help : ByteArray := prog_5_method_51_code
def yX3_help : MethodName := ⟨RX3, "help", "(IZ)J"⟩
abbrev cX3_keep : ByteArray := prog_5_method_52_code
def yX3_keep : MethodName := ⟨RX3, "keep", "(I)I"⟩
abbrev cX3_again : ByteArray := prog_5_method_53_code
def yX3_again : MethodName := ⟨RX3, "again", "(I)I"⟩
abbrev cX3_count : ByteArray := prog_5_method_54_code
def yX3_count : MethodName := ⟨RX3, "count", "(I)I"⟩
def RJ6 : String := "java/lang/Integer"
def TJ6 : u_T := fun k => match k with
  | _ => ("", "", "", false)
def tyJ6 : Nat → FieldType := fun k => match k with
  | _ => .int
abbrev wsJ60 : List Cond := u_ws RJ6 TJ6 0
theorem nmJ6 : ∀ a, a < 0 → ∀ b, b < 0 → a ≠ b → (TJ6 a).2.1 ≠ (TJ6 b).2.1 := by decide +kernel
theorem tyJ6_ok : ∀ k, k < 0 → parseFieldDescriptor (TJ6 k).2.2.1 = some (tyJ6 k) := by decide +kernel
abbrev cJ6_bitCount_0f7a4 : ByteArray := prog_6_method_49_code
def yJ6_bitCount_0f7a4 : MethodName := ⟨RJ6, "bitCount", "(I)I"⟩
def RJ9 : String := "java/lang/Math"
def TJ9 : u_T := fun k => match k with
  | _ => ("", "", "", false)
def tyJ9 : Nat → FieldType := fun k => match k with
  | _ => .int
abbrev wsJ90 : List Cond := u_ws RJ9 TJ9 0
theorem nmJ9 : ∀ a, a < 0 → ∀ b, b < 0 → a ≠ b → (TJ9 a).2.1 ≠ (TJ9 b).2.1 := by decide +kernel
theorem tyJ9_ok : ∀ k, k < 0 → parseFieldDescriptor (TJ9 k).2.2.1 = some (tyJ9 k) := by decide +kernel
abbrev cJ9_max_7cf53 : ByteArray := prog_7_method_65_code
def yJ9_max_7cf53 : MethodName := ⟨RJ9, "max", "(II)I"⟩
abbrev cJ9_min_7cf53 : ByteArray := prog_7_method_69_code
def yJ9_min_7cf53 : MethodName := ⟨RJ9, "min", "(II)I"⟩
def RJ10 : String := "java/lang/System"
def TJ10 : u_T := fun k => match k with
  | _ => ("", "", "", false)
def tyJ10 : Nat → FieldType := fun k => match k with
  | _ => .int
abbrev wsJ100 : List Cond := u_ws RJ10 TJ10 0
theorem nmJ10 : ∀ a, a < 0 → ∀ b, b < 0 → a ≠ b → (TJ10 a).2.1 ≠ (TJ10 b).2.1 := by decide +kernel
theorem tyJ10_ok : ∀ k, k < 0 → parseFieldDescriptor (TJ10 k).2.2.1 = some (tyJ10 k) := by decide +kernel
def RL : String := "BreadNumberedLaw"
abbrev cL_law : ByteArray := code
def yL_law : MethodName := ⟨RL, "law", "([I)Z"⟩
/-! the own tables of the walk: methods by number, what they link -/
abbrev bn_cl : List vw_C := [(RX0, TX0, 15), (RX1, TX1, 3), (RX2, TX2, 8), (RX3, TX3, 29)]
def bn_cnL : List String := [RX0, RX1, RX2, RX3, RL, RJ6, RJ9]
def bn_cn (c : Nat) : String := bn_cnL.getD c ""
def bn_yL : List MethodName := [yX0_init, yX0_begin, yX0_addPerson, yX0_addLoaf, yX0_becomes, yX0_hasPerson, yX0_hasLoaf, yX0_isAlive, yX0_isBad, yX0_isHeldByAnyone, yX0_aliveBits, yX0_aliveCount, yX0_aliveAt, yX0_heldBits, yX0_isHeldByOthers, yX0_heldByOthersCount, yX0_heldByOthersAt, yX0_eatenLoaves, yX0_badLoaves, yX0_hasNumber, yX0_greatestNumber, yX0_missingCount, yX0_isAllowed, yX0_lawForbids, yX0_feed, yX0_passDay, yX0_leaveToPriest, yX0_eatAsItIs, yX0_leastAllowed, yX0_canAllLive, yX0_mealsDue, yX0_loavesGoodOn, yX1_init, yX1_append, yX1_readInto, yX1_readRules, yX1_readPerson, yX1_readLoaf, yX1_readNumber, yX1_hasFreeNumber, yX1_isFree, yX1_readSign, yX1_isSignHere, yX1_readFigure, yX1_figureHere, yX2_init, yX2_write, yX2_wipe, yX2_fault, yX2_siege, yX2_person, yX2_loaf, yX2_may, yX2_eat, yX2_give, yX2_cut, yX2_day, yX2_night, yX2_undo, yX2_seed, yX2_lasts, yX2_first, yX2_best, yX2_missing, yX2_forged, yX2_help, yX2_keep, yX2_again, yX2_count, yX2_rememberAct, yX2_forgetActs, yX2_daysUntilDeath, yX2_hasNine, yX2_whenCut, yX2_partInLeastTerms, yX2_greatestDivisor, yX3_init, yX3_in, yX3_write, yX3_wipe, yX3_figure, yX3_free, yX3_readText, yX3_readLoaf, yX3_fault, yX3_siege, yX3_isPerson, yX3_isLoaf, yX3_number, yX3_holder, yX3_isBad, yX3_held, yX3_person, yX3_loaf, yX3_keepAct, yX3_mayEat, yX3_may, yX3_eaten, yX3_eat, yX3_give, yX3_cutOf, yX3_cut, yX3_goBy, yX3_day, yX3_alive, yX3_ones, yX3_nth, yX3_night, yX3_undo, yX3_seed, yX3_leastOf, yX3_layLasts, yX3_lasts, yX3_first, yX3_layGood, yX3_tenTo, yX3_fasted, yX3_best, yX3_goOn, yX3_greatest, yX3_isTold, yX3_missing, yX3_common, yX3_forged, yX3_power, yX3_help, yX3_keep, yX3_again, yX3_count, yJ6_bitCount_0f7a4, yJ9_max_7cf53, yJ9_min_7cf53, yL_law]
def bn_bL : List ByteArray := [cX0_init, cX0_begin, cX0_addPerson, cX0_addLoaf, cX0_becomes, cX0_hasPerson, cX0_hasLoaf, cX0_isAlive, cX0_isBad, cX0_isHeldByAnyone, cX0_aliveBits, cX0_aliveCount, cX0_aliveAt, cX0_heldBits, cX0_isHeldByOthers, cX0_heldByOthersCount, cX0_heldByOthersAt, cX0_eatenLoaves, cX0_badLoaves, cX0_hasNumber, cX0_greatestNumber, cX0_missingCount, cX0_isAllowed, cX0_lawForbids, cX0_feed, cX0_passDay, cX0_leaveToPriest, cX0_eatAsItIs, cX0_leastAllowed, cX0_canAllLive, cX0_mealsDue, cX0_loavesGoodOn, cX1_init, cX1_append, cX1_readInto, cX1_readRules, cX1_readPerson, cX1_readLoaf, cX1_readNumber, cX1_hasFreeNumber, cX1_isFree, cX1_readSign, cX1_isSignHere, cX1_readFigure, cX1_figureHere, cX2_init, cX2_write, cX2_wipe, cX2_fault, cX2_siege, cX2_person, cX2_loaf, cX2_may, cX2_eat, cX2_give, cX2_cut, cX2_day, cX2_night, cX2_undo, cX2_seed, cX2_lasts, cX2_first, cX2_best, cX2_missing, cX2_forged, cX2_help, cX2_keep, cX2_again, cX2_count, cX2_rememberAct, cX2_forgetActs, cX2_daysUntilDeath, cX2_hasNine, cX2_whenCut, cX2_partInLeastTerms, cX2_greatestDivisor, cX3_init, cX3_in, cX3_write, cX3_wipe, cX3_figure, cX3_free, cX3_readText, cX3_readLoaf, cX3_fault, cX3_siege, cX3_isPerson, cX3_isLoaf, cX3_number, cX3_holder, cX3_isBad, cX3_held, cX3_person, cX3_loaf, cX3_keepAct, cX3_mayEat, cX3_may, cX3_eaten, cX3_eat, cX3_give, cX3_cutOf, cX3_cut, cX3_goBy, cX3_day, cX3_alive, cX3_ones, cX3_nth, cX3_night, cX3_undo, cX3_seed, cX3_leastOf, cX3_layLasts, cX3_lasts, cX3_first, cX3_layGood, cX3_tenTo, cX3_fasted, cX3_best, cX3_goOn, cX3_greatest, cX3_isTold, cX3_missing, cX3_common, cX3_forged, cX3_power, cX3_help, cX3_keep, cX3_again, cX3_count, cJ6_bitCount_0f7a4, cJ9_max_7cf53, cJ9_min_7cf53, code]
def bn_mL : List Nat := [1, 4, 2, 4, 3, 2, 2, 2, 2, 2, 3, 1, 4, 4, 3, 4, 5, 3, 3, 3, 3, 4, 3, 5, 3, 3, 3, 3, 4, 4, 7, 4, 1, 2, 4, 5, 3, 5, 4, 3, 2, 2, 2, 4, 1, 2, 5, 2, 1, 2, 3, 3, 3, 3, 4, 2, 1, 6, 1, 5, 1, 2, 3, 5, 7, 10, 2, 2, 2, 1, 1, 2, 1, 1, 7, 7, 1, 6, 5, 2, 3, 5, 2, 6, 1, 2, 2, 2, 2, 2, 2, 4, 3, 3, 2, 6, 3, 4, 3, 4, 1, 2, 4, 1, 3, 3, 4, 6, 2, 5, 4, 5, 1, 1, 4, 1, 8, 8, 10, 3, 4, 4, 5, 7, 5, 15, 3, 3, 6, 1, 2, 2, 4]
def bn_rL : List (Option FieldType) := [none, none, none, none, none, (some .boolean), (some .boolean), (some .boolean), (some .boolean), (some .boolean), (some .int), (some .int), (some .int), (some .int), (some .boolean), (some .int), (some .int), (some .int), (some .int), (some .boolean), (some .int), (some .int), (some .boolean), (some .boolean), none, (some .int), none, none, (some .int), (some .boolean), (some .int), (some .int), none, none, (some .int), (some .boolean), (some .boolean), (some .boolean), (some .int), (some .boolean), (some .boolean), (some .boolean), (some .boolean), (some .int), (some .int), none, (some .int), (some .int), (some .int), (some .int), (some .int), (some .int), (some .int), (some .int), (some .int), (some .int), (some .int), (some .int), (some .int), (some .long), (some .int), (some .int), (some .int), (some .int), (some .int), (some .long), (some .int), (some .int), (some .int), none, none, (some .int), (some .boolean), (some .int), (some .long), (some .long), none, (some .boolean), (some .int), (some .int), (some .int), (some .int), (some .int), none, (some .int), (some .int), (some .boolean), (some .boolean), (some .int), (some .int), (some .boolean), (some .int), (some .int), (some .int), none, (some .boolean), (some .int), none, (some .int), (some .int), (some .int), (some .int), (some .int), (some .int), (some .int), (some .int), (some .int), (some .int), (some .int), (some .long), (some .int), (some .int), (some .int), (some .int), (some .int), (some .int), (some .int), (some .int), (some .boolean), (some .int), (some .boolean), (some .int), (some .int), (some .int), (some .long), (some .long), (some .int), (some .int), (some .int), (some .int), (some .int), (some .int), (some .boolean)]
def bn_cL : List Nat := [0, 0, 0, 0, 0, 0, 0, 0, 0, 0, 0, 0, 0, 0, 0, 0, 0, 0, 0, 0, 0, 0, 0, 0, 0, 0, 0, 0, 0, 0, 0, 0, 1, 1, 1, 1, 1, 1, 1, 1, 1, 1, 1, 1, 1, 2, 2, 2, 2, 2, 2, 2, 2, 2, 2, 2, 2, 2, 2, 2, 2, 2, 2, 2, 2, 2, 2, 2, 2, 2, 2, 2, 2, 2, 2, 2, 3, 3, 3, 3, 3, 3, 3, 3, 3, 3, 3, 3, 3, 3, 3, 3, 3, 3, 3, 3, 3, 3, 3, 3, 3, 3, 3, 3, 3, 3, 3, 3, 3, 3, 3, 3, 3, 3, 3, 3, 3, 3, 3, 3, 3, 3, 3, 3, 3, 3, 3, 3, 3, 5, 6, 6, 4]
def bn_fL : List Nat := [1, 0, 0, 0, 1, 0, 0, 0, 0, 0, 1, 2, 1, 0, 1, 2, 2, 0, 1, 0, 1, 2, 2, 1, 0, 1, 0, 4, 3, 2, 1, 1, 1, 0, 5, 2, 2, 4, 3, 2, 1, 1, 0, 1, 0, 2, 1, 0, 6, 6, 1, 1, 3, 3, 3, 3, 3, 3, 2, 0, 6, 6, 3, 2, 2, 6, 2, 2, 3, 2, 0, 5, 0, 0, 1, 0, 1, 0, 1, 0, 1, 0, 3, 2, 4, 4, 1, 1, 0, 0, 0, 1, 2, 2, 0, 1, 2, 0, 2, 2, 0, 2, 0, 1, 0, 0, 0, 1, 0, 0, 2, 3, 4, 4, 1, 0, 1, 3, 2, 1, 1, 2, 0, 1, 0, 4, 1, 1, 2, 0, 0, 0, 7]
def bn_lL : List Nat := [26, 0, 0, 0, 26, 0, 0, 0, 0, 0, 21, 43, 21, 0, 21, 43, 43, 0, 21, 0, 26, 48, 45, 21, 0, 26, 0, 90, 67, 52, 26, 21, 26, 0, 112, 43, 43, 88, 65, 43, 22, 21, 0, 20, 0, 46, 21, 0, 135, 135, 23, 21, 67, 68, 68, 68, 68, 68, 48, 0, 133, 133, 75, 48, 52, 133, 48, 48, 71, 48, 0, 112, 0, 0, 26, 0, 26, 0, 25, 0, 25, 0, 72, 47, 93, 93, 25, 25, 0, 0, 0, 21, 46, 46, 0, 21, 46, 0, 46, 46, 0, 46, 0, 23, 0, 0, 0, 23, 0, 0, 46, 69, 93, 93, 21, 0, 20, 76, 47, 21, 21, 44, 0, 25, 0, 93, 25, 25, 44, 0, 0, 0, 162]
def bn_pL : List Nat := [0, 3, 1, 3, 1, 1, 1, 1, 1, 1, 0, 0, 1, 1, 2, 1, 2, 0, 0, 1, 0, 0, 2, 2, 2, 0, 1, 0, 1, 1, 2, 1, 0, 1, 1, 1, 1, 1, 1, 2, 2, 1, 1, 2, 0, 0, 2, 0, 0, 0, 2, 2, 2, 2, 2, 1, 0, 0, 0, 1, 0, 0, 0, 1, 4, 2, 1, 1, 1, 0, 0, 0, 1, 1, 3, 2, 0, 3, 2, 0, 1, 1, 0, 0, 0, 0, 1, 1, 1, 1, 1, 1, 2, 2, 0, 2, 2, 2, 2, 2, 1, 1, 0, 0, 0, 1, 2, 0, 0, 1, 1, 0, 0, 0, 0, 1, 4, 0, 4, 0, 1, 1, 2, 4, 2, 2, 1, 1, 1, 1, 2, 2, 1]
def bn_y (i : Nat) : MethodName := bn_yL.getD i yX0_init
def bn_b (i : Nat) : ByteArray := bn_bL.getD i ⟨#[]⟩
def bn_m (i : Nat) : Nat := bn_mL.getD i 0
def bn_r (i : Nat) : Option FieldType := bn_rL.getD i none
def bn_c (i : Nat) : Nat := bn_cL.getD i 0
def bn_f (i : Nat) : Nat := bn_fL.getD i 0
def bn_l (i : Nat) : Nat := bn_lL.getD i 0
def bn_p (i : Nat) : Nat := bn_pL.getD i 0
/-- a constructor -/
def bn_i (i : Nat) : Bool := i == 0 || i == 32 || i == 45 || i == 76
/-- field links: class, index, class of the object, place, its row -/
def bn_FL : List (Nat × Nat × Nat × Nat × Nat) := [(1, 9, 1, 0, 60), (1, 15, 1, 1, 61), (2, 44, 1, 1, 62), (1, 19, 1, 2, 63), (0, 9, 0, 0, 78), (2, 189, 0, 0, 79), (0, 15, 0, 1, 80), (1, 52, 0, 1, 81), (0, 18, 0, 2, 82), (0, 21, 0, 3, 83), (2, 174, 0, 3, 84), (0, 24, 0, 4, 85), (2, 55, 0, 4, 86), (0, 28, 0, 5, 87), (1, 49, 0, 5, 88), (2, 66, 0, 5, 89), (0, 31, 0, 6, 90), (2, 76, 0, 6, 91), (0, 35, 0, 7, 92), (2, 83, 0, 7, 93), (0, 39, 0, 8, 94), (2, 90, 0, 8, 95), (0, 42, 0, 9, 96), (2, 69, 0, 9, 97), (1, 59, 0, 9, 98), (0, 45, 0, 10, 99), (2, 96, 0, 10, 100), (0, 48, 0, 11, 101), (2, 99, 0, 11, 102), (0, 51, 0, 12, 103), (2, 102, 0, 12, 104), (0, 54, 0, 13, 105), (2, 108, 0, 13, 106), (0, 57, 0, 14, 107), (2, 111, 0, 14, 108), (2, 12, 2, 0, 142), (2, 19, 2, 1, 143), (2, 23, 2, 2, 144), (2, 26, 2, 3, 145), (2, 30, 2, 4, 146), (2, 34, 2, 5, 147), (2, 37, 2, 6, 148), (2, 40, 2, 7, 149), (3, 7, 3, 0, 488), (3, 84, 3, 1, 489), (3, 87, 3, 2, 490), (3, 90, 3, 3, 491), (3, 77, 3, 4, 492), (3, 74, 3, 5, 493), (3, 13, 3, 6, 494), (3, 103, 3, 7, 495), (3, 48, 3, 8, 496), (3, 52, 3, 9, 497), (3, 106, 3, 10, 498), (3, 109, 3, 11, 499), (3, 134, 3, 12, 500), (3, 16, 3, 13, 501), (3, 61, 3, 14, 502), (3, 69, 3, 15, 503), (3, 66, 3, 16, 504), (3, 112, 3, 17, 505), (3, 131, 3, 18, 506), (3, 19, 3, 19, 507), (3, 22, 3, 20, 508), (3, 26, 3, 21, 509), (3, 172, 3, 22, 510), (3, 29, 3, 23, 511), (3, 33, 3, 24, 512), (3, 36, 3, 25, 513), (3, 39, 3, 26, 514), (3, 42, 3, 27, 515), (3, 45, 3, 28, 516)]
/-- method links: class, index, kind (0 virtual, 1 static, 2 constructor, 3 a nest mate's, 4 of Object, 5 arraycopy, 6 Math.max, 7 Math.min), the method, its row -/
def bn_ML : List (Nat × Nat × Nat × Nat × Nat) := [(4, 9, 2, 45, 48), (2, 3, 4, 0, 51), (2, 11, 3, 32, 56), (1, 3, 4, 0, 59), (2, 18, 3, 0, 74), (0, 3, 4, 0, 77), (4, 15, 0, 46, 167), (2, 47, 0, 33, 171), (4, 20, 0, 47, 175), (4, 25, 0, 48, 179), (2, 51, 0, 34, 183), (1, 22, 0, 35, 187), (1, 36, 0, 41, 191), (1, 26, 0, 42, 195), (1, 39, 0, 43, 199), (1, 69, 0, 44, 203), (1, 43, 0, 1, 207), (1, 30, 0, 36, 211), (1, 55, 0, 2, 215), (1, 33, 0, 37, 219), (1, 62, 0, 38, 223), (1, 73, 1, 39, 227), (1, 77, 1, 40, 230), (1, 80, 0, 19, 233), (1, 66, 0, 3, 237), (4, 29, 0, 49, 241), (2, 59, 0, 4, 245), (0, 60, 5, 0, 249), (2, 63, 0, 70, 252), (4, 33, 0, 50, 256), (2, 72, 0, 5, 260), (2, 80, 0, 7, 264), (2, 86, 0, 13, 268), (4, 38, 0, 51, 272), (2, 93, 0, 6, 276), (2, 105, 0, 8, 280), (4, 42, 0, 52, 284), (2, 114, 0, 22, 288), (0, 66, 0, 7, 292), (0, 87, 0, 8, 293), (0, 102, 0, 23, 294), (0, 80, 0, 9, 298), (4, 46, 0, 53, 302), (2, 118, 0, 69, 306), (2, 121, 0, 24, 310), (4, 50, 0, 54, 314), (4, 54, 0, 55, 318), (2, 125, 1, 72, 322), (2, 128, 1, 73, 325), (4, 59, 0, 56, 328), (2, 131, 0, 25, 332), (0, 105, 0, 26, 336), (0, 109, 7, 0, 340), (4, 63, 0, 57, 343), (2, 135, 0, 11, 347), (0, 70, 0, 10, 351), (0, 74, 1, 129, 355), (2, 142, 0, 12, 363), (2, 145, 0, 15, 367), (0, 83, 0, 14, 371), (2, 148, 0, 16, 375), (4, 67, 0, 58, 379), (4, 71, 0, 59, 383), (4, 76, 0, 60, 387), (2, 152, 0, 71, 391), (2, 192, 0, 27, 395), (0, 112, 0, 28, 399), (0, 119, 0, 22, 403), (0, 115, 0, 24, 404), (4, 80, 0, 61, 405), (4, 84, 0, 62, 409), (2, 155, 0, 29, 413), (0, 90, 6, 0, 417), (0, 122, 0, 30, 420), (0, 125, 0, 31, 424), (4, 88, 0, 63, 428), (2, 158, 0, 20, 432), (2, 161, 0, 19, 436), (4, 92, 0, 64, 437), (2, 164, 1, 74, 441), (2, 195, 1, 75, 444), (4, 97, 0, 65, 448), (4, 102, 0, 66, 455), (4, 106, 0, 67, 459), (4, 110, 0, 68, 463), (2, 177, 0, 10, 467), (2, 180, 0, 17, 468), (2, 183, 0, 18, 472), (2, 186, 0, 21, 476), (0, 96, 0, 20, 480), (0, 99, 0, 19, 481), (4, 12, 2, 76, 484), (3, 1, 4, 0, 487), (4, 19, 0, 78, 577), (3, 57, 1, 77, 582), (4, 24, 0, 79, 586), (4, 28, 0, 84, 590), (3, 99, 0, 82, 594), (3, 80, 0, 80, 598), (3, 93, 0, 83, 603), (3, 96, 0, 81, 607), (4, 32, 0, 85, 611), (4, 37, 0, 92, 615), (3, 118, 0, 86, 619), (3, 122, 0, 91, 623), (3, 115, 0, 89, 627), (4, 41, 0, 93, 631), (3, 125, 0, 87, 635), (3, 128, 0, 90, 639), (4, 45, 0, 96, 643), (3, 141, 0, 95, 647), (3, 138, 0, 88, 651), (4, 49, 0, 98, 655), (3, 145, 0, 94, 659), (3, 148, 0, 97, 663), (4, 53, 0, 99, 667), (4, 58, 0, 101, 671), (3, 152, 1, 100, 675), (4, 62, 0, 103, 678), (3, 155, 0, 102, 682), (4, 66, 0, 107, 686), (3, 158, 0, 104, 690), (3, 165, 1, 105, 696), (3, 168, 1, 106, 699), (4, 70, 0, 108, 702), (4, 75, 0, 109, 706), (4, 79, 0, 112, 710), (3, 178, 0, 111, 714), (3, 175, 0, 110, 718), (4, 83, 0, 113, 722), (4, 87, 0, 117, 726), (3, 184, 0, 114, 730), (3, 181, 1, 115, 734), (3, 187, 0, 118, 737), (3, 191, 0, 116, 741), (4, 91, 0, 121, 745), (3, 195, 0, 119, 749), (3, 198, 0, 120, 753), (4, 96, 0, 123, 757), (3, 205, 1, 122, 763), (4, 101, 0, 125, 766), (3, 212, 1, 124, 772), (4, 105, 0, 126, 775), (4, 109, 0, 127, 779), (4, 113, 0, 128, 783)]
/-- of a method the rows of its code, of instance or static, of selects, of its class -/
def bn_MR : List (Nat × Nat × Nat × Nat) := [(76, 75, 0, 41), (210, 208, 209, 41), (218, 216, 217, 41), (240, 238, 239, 41), (248, 246, 247, 41), (263, 261, 262, 41), (279, 277, 278, 41), (267, 265, 266, 41), (283, 281, 282, 41), (301, 299, 300, 41), (354, 352, 353, 41), (350, 348, 349, 41), (366, 364, 365, 41), (271, 269, 270, 41), (374, 372, 373, 41), (370, 368, 369, 41), (378, 376, 377, 41), (471, 469, 470, 41), (475, 473, 474, 41), (236, 234, 235, 41), (435, 433, 434, 41), (479, 477, 478, 41), (291, 289, 290, 41), (297, 296, 9, 41), (313, 311, 312, 41), (335, 333, 334, 41), (339, 338, 11, 41), (398, 396, 397, 41), (402, 401, 13, 41), (416, 414, 415, 41), (423, 422, 14, 41), (427, 426, 15, 41), (58, 57, 0, 40), (174, 172, 173, 40), (186, 184, 185, 40), (190, 189, 0, 40), (214, 213, 5, 40), (222, 221, 6, 40), (226, 225, 7, 40), (229, 228, 0, 40), (232, 231, 0, 40), (194, 193, 1, 40), (198, 197, 2, 40), (202, 201, 3, 40), (206, 205, 4, 40), (50, 49, 0, 39), (170, 168, 169, 39), (178, 176, 177, 39), (182, 180, 181, 39), (244, 242, 243, 39), (259, 257, 258, 39), (275, 273, 274, 39), (287, 285, 286, 39), (305, 303, 304, 39), (317, 315, 316, 39), (321, 319, 320, 39), (331, 329, 330, 39), (346, 344, 345, 39), (382, 380, 381, 39), (386, 384, 385, 39), (390, 388, 389, 39), (408, 406, 407, 39), (412, 410, 411, 39), (431, 429, 430, 39), (440, 438, 439, 39), (451, 449, 450, 39), (458, 456, 457, 39), (462, 460, 461, 39), (466, 464, 465, 39), (309, 308, 10, 39), (255, 254, 8, 39), (394, 393, 12, 39), (324, 323, 0, 39), (327, 326, 0, 39), (443, 442, 0, 39), (446, 445, 0, 39), (486, 485, 0, 42), (584, 583, 0, 42), (580, 578, 579, 42), (589, 587, 588, 42), (601, 600, 17, 42), (610, 609, 19, 42), (597, 596, 16, 42), (606, 605, 18, 42), (593, 591, 592, 42), (614, 612, 613, 42), (622, 621, 20, 42), (638, 637, 23, 42), (654, 653, 26, 42), (630, 629, 22, 42), (642, 641, 24, 42), (626, 625, 21, 42), (618, 616, 617, 42), (634, 632, 633, 42), (662, 661, 27, 42), (650, 649, 25, 42), (646, 644, 645, 42), (666, 665, 28, 42), (658, 656, 657, 42), (670, 668, 669, 42), (677, 676, 0, 42), (674, 672, 673, 42), (685, 684, 29, 42), (681, 679, 680, 42), (693, 692, 30, 42), (698, 697, 0, 42), (701, 700, 0, 42), (689, 687, 688, 42), (705, 703, 704, 42), (709, 707, 708, 42), (721, 720, 32, 42), (717, 716, 31, 42), (713, 711, 712, 42), (725, 723, 724, 42), (733, 732, 33, 42), (736, 735, 0, 42), (744, 743, 35, 42), (729, 727, 728, 42), (740, 739, 34, 42), (752, 751, 36, 42), (756, 755, 37, 42), (748, 746, 747, 42), (765, 764, 0, 42), (760, 758, 759, 42), (774, 773, 0, 42), (769, 767, 768, 42), (778, 776, 777, 42), (782, 780, 781, 42), (786, 784, 785, 42), (357, 356, 0, 45), (419, 418, 0, 44), (342, 341, 0, 44), (0, 0, 0, 0)]
def bn_KI : List (Nat × Nat × Int32 × Nat) := [(5, 265, (1431655765), 358), (5, 266, (858993459), 359), (5, 267, (252645135), 360)]
def bn_KL : List (Nat × Nat × Int64 × Nat) := [(2, 138, (6364136223846793005), 361), (2, 140, (1442695040888963407), 362), (2, 199, (-9), 447), (2, 168, (-2), 452), (2, 170, (-3), 453), (2, 172, (10), 454), (3, 55, (8), 581), (3, 64, (255), 585), (3, 72, (9), 602), (3, 161, (6364136223846793005), 694), (3, 163, (1442695040888963407), 695), (3, 201, (99), 761), (3, 203, (10), 762), (3, 208, (-2), 770), (3, 210, (-3), 771), (4, 13, (4294967295), 787)]
/-- class links: class, index, the class, its row -/
def bn_CK : List (Nat × Nat × Nat × Nat) := [(4, 7, 2, 46), (2, 9, 1, 54), (2, 16, 0, 72), (4, 10, 3, 482)]
end
section
/-! THE WALK AS A FUNCTION: the bytecode over numbered cells. A cell is an array (its kind: 0 int, 1 boolean, 2 long, 3 Siege) or an object (its class's number, its fields); a reference is the cell's number; the script is .retAddr 0. -/
abbrev bn_E : Type := (Nat × vp_A) ⊕ (Nat × List Value)
/-- script (length, ints), number of cells, slots used, the cells -/
abbrev bn_H : Type := (Nat × (Nat → Int32)) × Nat × Nat × (Nat → bn_E)
abbrev bn_L : Type := List (Option Value)
abbrev bn_R : Type := Option (Option Value × bn_H)
def bn_g (h : bn_H) (p : Nat) : Option bn_E := if p < h.2.1 then some (h.2.2.2 p) else none
def bn_u (h : bn_H) (p : Nat) (e : bn_E) : bn_H := (h.1, h.2.1, h.2.2.1, va_up h.2.2.2 p e)
def bn_n (h : bn_H) (e : bn_E) (z : Nat) : bn_H := (h.1, h.2.1 + 1, h.2.2.1 + z, va_up h.2.2.2 h.2.1 e)
def bn_T (c : Nat) : u_T := match c with
  | 0 => TX0
  | 1 => TX1
  | 2 => TX2
  | _ => TX3
def bn_N (c : Nat) : Nat := match c with
  | 0 => 15
  | 1 => 3
  | 2 => 8
  | _ => 29
def bn_ty (c : Nat) : Nat → FieldType := match c with
  | 0 => tyX0
  | 1 => tyX1
  | 2 => tyX2
  | _ => tyX3
/-- a field: class, place -/
def bn_fl (c idx : Nat) : Option (Nat × Nat) := (bn_FL.find? (fun r => r.1 == c && r.2.1 == idx)).map (fun r => (r.2.2.1, r.2.2.2.1))
/-- a method: kind, number -/
def bn_ml (c idx : Nat) : Option (Nat × Nat) := (bn_ML.find? (fun r => r.1 == c && r.2.1 == idx)).map (fun r => (r.2.2.1, r.2.2.2.1))
def bn_ki (c idx : Nat) : Option Int32 := (bn_KI.find? (fun r => r.1 == c && r.2.1 == idx)).map (fun r => r.2.2.1)
def bn_kl (c idx : Nat) : Option Int64 := (bn_KL.find? (fun r => r.1 == c && r.2.1 == idx)).map (fun r => r.2.2.1)
def bn_ck (c idx : Nat) : Option Nat := (bn_CK.find? (fun r => r.1 == c && r.2.1 == idx)).map (fun r => r.2.2.1)
def bn_get (ls : bn_L) (i : Nat) : Option Value := (ls[i]?).getD none
/-- storing at i ends a long that begins at i - 1 -/
def bn_kil (ls : bn_L) (i : Nat) : bn_L := match i with
  | 0 => ls
  | j + 1 => match bn_get ls j with
    | some (.long _) => ls.set j none
    | some (.double _) => ls.set j none
    | _ => ls
def bn_st1 (ls : bn_L) (i : Nat) (v : Value) : bn_L := (bn_kil ls i).set i (some v)
def bn_st2 (ls : bn_L) (i : Nat) (v : Value) : bn_L := ((bn_kil ls i).set i (some v)).set (i + 1) none
def bn_tg (pc : Nat) (off : Int) : Option Nat := if 0 ≤ (pc : Int) + off then some ((pc : Int) + off).toNat else none
def bn_cm (c : ClassFile.Cond) (x y : Int32) : Bool := match c with
  | .eq => decide (x = y)
  | .ne => !decide (x = y)
  | .lt => decide (x < y)
  | .ge => decide (y ≤ x)
  | .gt => decide (y < x)
  | .le => decide (x ≤ y)
def bn_ct (st : List Value) : Nat := (st.map fun v => v.category).sum
/-- the length that the rows of the kit say -/
def bn_ln (i : Instr) (len : Nat) : Nat := match i with
  | .aload _ | .iload _ | .lload _ | .istore _ | .lstore _ | .astore _ | .bipush _ | .newarray _ | .ldc _ => 2
  | .getfield _ | .putfield _ | .goto _ | .if_icmp _ _ | .ifCond _ _ | .iinc _ _ | .sipush _ | .ldc_w _ | .ldc2_w _ | .invokespecial _ | .invokestatic _ | .invokevirtual _ | .new _ | .anewarray _ => 3
  | .tableswitch _ _ _ _ => len
  | _ => 1
def bn_i1 (ls : bn_L) (k i : Nat) (st : List Value) (h : bn_H) : Option (Nat × bn_L × List Value × bn_H) := match bn_get ls i with
  | some (.int x) => some (k, ls, .int x :: st, h)
  | _ => none
def bn_l1 (ls : bn_L) (k i : Nat) (st : List Value) (h : bn_H) : Option (Nat × bn_L × List Value × bn_H) := match bn_get ls i with
  | some (.long x) => some (k, ls, .long x :: st, h)
  | _ => none
def bn_a1 (ls : bn_L) (k i : Nat) (st : List Value) (h : bn_H) : Option (Nat × bn_L × List Value × bn_H) := match bn_get ls i with
  | some (.ref x) => some (k, ls, .ref x :: st, h)
  | some (.retAddr x) => some (k, ls, .retAddr x :: st, h)
  | _ => none
def bn_iso (ls : bn_L) (k i nL : Nat) (st : List Value) (h : bn_H) : Option (Nat × bn_L × List Value × bn_H) := match st with
  | .int x :: r => if i < nL then some (k, bn_st1 ls i (.int x), r, h) else none
  | _ => none
def bn_lst (ls : bn_L) (k i nL : Nat) (st : List Value) (h : bn_H) : Option (Nat × bn_L × List Value × bn_H) := match st with
  | .long x :: r => if i + 1 < nL then some (k, bn_st2 ls i (.long x), r, h) else none
  | _ => none
def bn_as (ls : bn_L) (k i nL : Nat) (st : List Value) (h : bn_H) : Option (Nat × bn_L × List Value × bn_H) := match st with
  | .ref x :: r => if i < nL then some (k, bn_st1 ls i (.ref x), r, h) else none
  | _ => none
def bn_ii (f : Int32 → Int32 → Int32) (ls : bn_L) (k : Nat) (st : List Value) (h : bn_H) : Option (Nat × bn_L × List Value × bn_H) := match st with
  | .int y :: .int x :: r => some (k, ls, .int (f x y) :: r, h)
  | _ => none
def bn_ll (f : Int64 → Int64 → Int64) (ls : bn_L) (k : Nat) (st : List Value) (h : bn_H) : Option (Nat × bn_L × List Value × bn_H) := match st with
  | .long y :: .long x :: r => some (k, ls, .long (f x y) :: r, h)
  | _ => none
def bn_li (f : Int64 → Int32 → Int64) (ls : bn_L) (k : Nat) (st : List Value) (h : bn_H) : Option (Nat × bn_L × List Value × bn_H) := match st with
  | .int y :: .long x :: r => some (k, ls, .long (f x y) :: r, h)
  | _ => none
def bn_idv (f : Int32 → Int32 → Int32) (ls : bn_L) (k : Nat) (st : List Value) (h : bn_H) : Option (Nat × bn_L × List Value × bn_H) := match st with
  | .int y :: .int x :: r => if y = 0 then none else some (k, ls, .int (f x y) :: r, h)
  | _ => none
def bn_ldv (f : Int64 → Int64 → Int64) (ls : bn_L) (k : Nat) (st : List Value) (h : bn_H) : Option (Nat × bn_L × List Value × bn_H) := match st with
  | .long y :: .long x :: r => if y = 0 then none else some (k, ls, .long (f x y) :: r, h)
  | _ => none
def bn_shl (x y : Int32) : Int32 := x <<< (y &&& 31)
def bn_shr (x y : Int32) : Int32 := x >>> (y &&& 31)
def bn_ushr (x y : Int32) : Int32 := (x.toUInt32 >>> (y.toUInt32 &&& Int32.toUInt32 31)).toInt32
def bn_rem (x y : Int32) : Int32 := x - x / y * y
def bn_lrem (x y : Int64) : Int64 := x - x / y * y
def bn_lushr (x : Int64) (y : Int32) : Int64 := (x.toUInt64 >>> (y.toInt64.toUInt64 &&& Int64.toUInt64 63)).toInt64
def bn_lshl (x : Int64) (y : Int32) : Int64 := x <<< (y.toInt64 &&& 63)
def bn_lshr (x : Int64) (y : Int32) : Int64 := x >>> (y.toInt64 &&& 63)
/-- getfield -/
def bn_gf (h : bn_H) (p ci k : Nat) : Option Value := match bn_g h p with
  | some (.inr o) => if o.1 = ci then o.2[k]? else none
  | _ => none
/-- putfield -/
def bn_pf (h : bn_H) (p ci k : Nat) (v : Value) : Option bn_H := match bn_g h p with
  | some (.inr o) => if o.1 = ci ∧ k < o.2.length then some (bn_u h p (.inr (ci, o.2.set k v))) else none
  | _ => none
/-- an array of ints (of the kind t) -/
def bn_ai (h : bn_H) (p t : Nat) : Option (Nat × (Nat → Int32)) := match bn_g h p with
  | some (.inl (u, n, .inl f)) => if u = t then some (n, f) else none
  | _ => none
def bn_al (h : bn_H) (p : Nat) : Option (Nat × (Nat → Int64)) := match bn_g h p with
  | some (.inl (u, n, .inr (.inl f))) => if u = 2 then some (n, f) else none
  | _ => none
def bn_ar (h : bn_H) (p : Nat) : Option (Nat × (Nat → Option Nat)) := match bn_g h p with
  | some (.inl (u, n, .inr (.inr (.inr (.inr f))))) => if u = 3 then some (n, f) else none
  | _ => none
/-- a load out of an array of ints, booleans -/
def bn_ld (h : bn_H) (p t : Nat) (i : Int32) : Option Int32 := (bn_ai h p t).bind fun a => if i < 0 ∨ a.1 ≤ i.toNatClampNeg then none else some (a.2 i.toNatClampNeg)
def bn_sd (h : bn_H) (p t : Nat) (i x : Int32) : Option bn_H := (bn_ai h p t).bind fun a => if i < 0 ∨ a.1 ≤ i.toNatClampNeg then none else some (bn_u h p (.inl (t, a.1, .inl (upd a.2 i.toNatClampNeg x))))
def bn_lld (h : bn_H) (p : Nat) (i : Int32) : Option Int64 := (bn_al h p).bind fun a => if i < 0 ∨ a.1 ≤ i.toNatClampNeg then none else some (a.2 i.toNatClampNeg)
def bn_lsd (h : bn_H) (p : Nat) (i : Int32) (x : Int64) : Option bn_H := (bn_al h p).bind fun a => if i < 0 ∨ a.1 ≤ i.toNatClampNeg then none else some (bn_u h p (.inl (2, a.1, .inr (.inl (vp_updL a.2 i.toNatClampNeg x)))))
def bn_rld (h : bn_H) (p : Nat) (i : Int32) : Option Nat := (bn_ar h p).bind fun a => if i < 0 ∨ a.1 ≤ i.toNatClampNeg then none else a.2 i.toNatClampNeg
def bn_isC (h : bn_H) (p c : Nat) : Bool := match bn_g h p with
  | some (.inr o) => o.1 == c
  | _ => false
def bn_rsd (h : bn_H) (p : Nat) (i : Int32) (q : Nat) : Option bn_H := (bn_ar h p).bind fun a => if (i < 0 ∨ a.1 ≤ i.toNatClampNeg) ∨ bn_isC h q 0 = false then none else some (bn_u h p (.inl (3, a.1, .inr (.inr (.inr (.inr (va_up a.2 i.toNatClampNeg (some q))))))))
/-- arraycopy of ints -/
def bn_cp (h : bn_H) (p : Nat) (sp : Int32) (q : Nat) (dp n : Int32) : Option bn_H := (bn_ai h p 0).bind fun a => (bn_ai h q 0).bind fun b =>
  if (sp < 0 ∨ dp < 0 ∨ n < 0) ∨ (a.1 < sp.toNatClampNeg + n.toNatClampNeg ∨ b.1 < dp.toNatClampNeg + n.toNatClampNeg) then none else some (bn_u h q (.inl (0, b.1, .inl (va_cpy a.2 b.2 sp.toNatClampNeg dp.toNatClampNeg n.toNatClampNeg))))
def bn_dv (ty : FieldType) : Value := defaultValue ty
def bn_ts (dflt lo hi : Int) (offs : Array Int) (x : Int32) : Option Int := if x.toInt < lo ∨ hi < x.toInt then some dflt else offs[(x.toInt - lo).toNat]?
def bn_okr (t : Option FieldType) (r : Option Value) : Bool := match t, r with
  | none, none => true
  | some .int, some (.int _) => true
  | some .boolean, some (.int _) => true
  | some .long, some (.long _) => true
  | _, _ => false
/-- a field's kind -/
def bn_okg (t : FieldType) (v : Value) : Bool := match t, v with
  | .int, .int _ => true
  | .long, .long _ => true
  | .array _, .ref _ => true
  | .object _, .ref _ => true
  | _, _ => false
/-- an instruction that neither calls nor returns -/
def bn_x (mi : Nat) (i : Instr) (pc : Nat) (ls : bn_L) (st : List Value) (h : bn_H) : Option (Nat × bn_L × List Value × bn_H) := match i with
  | .iconst n => some (pc + 1, ls, .int (Int32.ofInt n) :: st, h)
  | .bipush n => some (pc + 2, ls, .int (Int8.ofInt n).toInt32 :: st, h)
  | .sipush n => some (pc + 3, ls, .int (Int16.ofInt n).toInt32 :: st, h)
  | .lconst n => some (pc + 1, ls, .long (Int64.ofNat (n : Nat)) :: st, h)
  | .ldc_w k => (bn_ki (bn_c mi) k).map fun v => (pc + 3, ls, .int v :: st, h)
  | .ldc2_w k => (bn_kl (bn_c mi) k).map fun v => (pc + 3, ls, .long v :: st, h)
  | .iload_n k => bn_i1 ls (pc + 1) k st h
  | .iload k => bn_i1 ls (pc + 2) k st h
  | .lload_n k => bn_l1 ls (pc + 1) k st h
  | .lload k => bn_l1 ls (pc + 2) k st h
  | .aload_n k => bn_a1 ls (pc + 1) k st h
  | .aload k => bn_a1 ls (pc + 2) k st h
  | .istore_n k => bn_iso ls (pc + 1) k (bn_m mi) st h
  | .istore k => bn_iso ls (pc + 2) k (bn_m mi) st h
  | .lstore_n k => bn_lst ls (pc + 1) k (bn_m mi) st h
  | .lstore k => bn_lst ls (pc + 2) k (bn_m mi) st h
  | .astore_n k => bn_as ls (pc + 1) k (bn_m mi) st h
  | .astore k => bn_as ls (pc + 2) k (bn_m mi) st h
  | .iinc k n => match bn_get ls k with
    | some (.int x) => if k < bn_m mi then some (pc + 3, bn_st1 ls k (.int (x + Int32.ofInt n)), st, h) else none
    | _ => none
  | .iadd => bn_ii (· + ·) ls (pc + 1) st h
  | .isub => bn_ii (· - ·) ls (pc + 1) st h
  | .imul => bn_ii (· * ·) ls (pc + 1) st h
  | .iand => bn_ii (· &&& ·) ls (pc + 1) st h
  | .ior => bn_ii (· ||| ·) ls (pc + 1) st h
  | .ixor => bn_ii (· ^^^ ·) ls (pc + 1) st h
  | .ishl => bn_ii bn_shl ls (pc + 1) st h
  | .ishr => bn_ii bn_shr ls (pc + 1) st h
  | .iushr => bn_ii bn_ushr ls (pc + 1) st h
  | .idiv => bn_idv (· / ·) ls (pc + 1) st h
  | .irem => bn_idv bn_rem ls (pc + 1) st h
  | .ladd => bn_ll (· + ·) ls (pc + 1) st h
  | .lsub => bn_ll (· - ·) ls (pc + 1) st h
  | .lmul => bn_ll (· * ·) ls (pc + 1) st h
  | .land => bn_ll (· &&& ·) ls (pc + 1) st h
  | .lor => bn_ll (· ||| ·) ls (pc + 1) st h
  | .ldiv => bn_ldv (· / ·) ls (pc + 1) st h
  | .lrem => bn_ldv bn_lrem ls (pc + 1) st h
  | .lshl => bn_li bn_lshl ls (pc + 1) st h
  | .lshr => bn_li bn_lshr ls (pc + 1) st h
  | .lushr => bn_li bn_lushr ls (pc + 1) st h
  | .i2l => match st with
    | .int x :: r => some (pc + 1, ls, .long x.toInt64 :: r, h)
    | _ => none
  | .l2i => match st with
    | .long x :: r => some (pc + 1, ls, .int x.toInt32 :: r, h)
    | _ => none
  | .lcmp => match st with
    | .long y :: .long x :: r => some (pc + 1, ls, .int (lg_cmp x y) :: r, h)
    | _ => none
  | .dup => match st with
    | v :: r => if v.category = 1 then some (pc + 1, ls, v :: v :: r, h) else none
    | _ => none
  | .dup2 => match st with
    | v :: w :: r => if v.category = 1 ∧ w.category = 1 then some (pc + 1, ls, v :: w :: v :: w :: r, h) else none
    | _ => none
  | .pop => match st with
    | v :: r => if v.category = 1 then some (pc + 1, ls, r, h) else none
    | _ => none
  | .goto off => (bn_tg pc off).map fun t => (t, ls, st, h)
  | .if_icmp c off => match st with
    | .int y :: .int x :: r => (bn_tg pc off).map fun t => (if bn_cm c x y = true then t else pc + 3, ls, r, h)
    | _ => none
  | .ifCond c off => match st with
    | .int x :: r => (bn_tg pc off).map fun t => (if bn_cm c x 0 = true then t else pc + 3, ls, r, h)
    | _ => none
  | .tableswitch dflt lo hi offs => match st with
    | .int x :: r => (bn_ts dflt lo hi offs x).bind fun off => (bn_tg pc off).map fun t => (t, ls, r, h)
    | _ => none
  | .getfield k => match st with
    | .ref p :: r => (bn_fl (bn_c mi) k).bind fun q => (bn_gf h p q.1 q.2).bind fun v => if bn_okg (bn_ty q.1 q.2) v = true then some (pc + 3, ls, v :: r, h) else none
    | _ => none
  | .putfield k => match st with
    | v :: .ref p :: r => (bn_fl (bn_c mi) k).bind fun q =>
      if narrow (bn_ty q.1 q.2) v = v ∧ fits (bn_ty q.1 q.2) v = true ∧ ((bn_T q.1 q.2).2.2.2 = false ∨ (bn_i mi = true ∧ (bn_T q.1 q.2).1 = bn_cn (bn_c mi))) then (bn_pf h p q.1 q.2 v).map fun h' => (pc + 3, ls, r, h') else none
    | _ => none
  | .iaload => match st with
    | .int i :: .ref p :: r => (bn_ld h p 0 i).map fun v => (pc + 1, ls, .int v :: r, h)
    | .int i :: .retAddr _ :: r => if i < 0 ∨ h.1.1 ≤ i.toNatClampNeg then none else some (pc + 1, ls, .int (h.1.2 i.toNatClampNeg) :: r, h)
    | _ => none
  | .baload => match st with
    | .int i :: .ref p :: r => (bn_ld h p 1 i).map fun v => (pc + 1, ls, .int v :: r, h)
    | _ => none
  | .laload => match st with
    | .int i :: .ref p :: r => (bn_lld h p i).map fun v => (pc + 1, ls, .long v :: r, h)
    | _ => none
  | .aaload => match st with
    | .int i :: .ref p :: r => (bn_rld h p i).map fun v => (pc + 1, ls, .ref v :: r, h)
    | _ => none
  | .iastore => match st with
    | .int x :: .int i :: .ref p :: r => (bn_sd h p 0 i x).map fun h' => (pc + 1, ls, r, h')
    | _ => none
  | .bastore => match st with
    | .int x :: .int i :: .ref p :: r => (bn_sd h p 1 i (vp_nar .boolean x)).map fun h' => (pc + 1, ls, r, h')
    | _ => none
  | .lastore => match st with
    | .long x :: .int i :: .ref p :: r => (bn_lsd h p i x).map fun h' => (pc + 1, ls, r, h')
    | _ => none
  | .aastore => match st with
    | .ref x :: .int i :: .ref p :: r => (bn_rsd h p i x).map fun h' => (pc + 1, ls, r, h')
    | _ => none
  | .arraylength => match st with
    | .retAddr _ :: r => some (pc + 1, ls, .int (Int32.ofNat h.1.1) :: r, h)
    | _ => none
  | .new k => (bn_ck (bn_c mi) k).map fun c => (pc + 3, ls, .ref h.2.1 :: st, bn_n h (.inr (c, (List.range (bn_N c)).map (fun j => bn_dv (bn_ty c j)))) (bn_N c))
  | .newarray .int => match st with
    | .int n :: r => if n < 0 ∨ 100000 < n.toNatClampNeg then none else some (pc + 2, ls, .ref h.2.1 :: r, bn_n h (.inl (0, n.toNatClampNeg, .inl (fun _ => 0))) n.toNatClampNeg)
    | _ => none
  | .newarray .boolean => match st with
    | .int n :: r => if n < 0 ∨ 100000 < n.toNatClampNeg then none else some (pc + 2, ls, .ref h.2.1 :: r, bn_n h (.inl (1, n.toNatClampNeg, .inl (fun _ => 0))) n.toNatClampNeg)
    | _ => none
  | .newarray .long => match st with
    | .int n :: r => if n < 0 ∨ 100000 < n.toNatClampNeg then none else some (pc + 2, ls, .ref h.2.1 :: r, bn_n h (.inl (2, n.toNatClampNeg, .inr (.inl (fun _ => 0)))) n.toNatClampNeg)
    | _ => none
  | .anewarray k => match st with
    | .int n :: r => if (n < 0 ∨ 100000 < n.toNatClampNeg) ∨ ¬ bn_ck (bn_c mi) k = some 0 then none else some (pc + 3, ls, .ref h.2.1 :: r, bn_n h (.inl (3, n.toNatClampNeg, .inr (.inr (.inr (.inr (fun _ => none)))))) n.toNatClampNeg)
    | _ => none
  | .invokespecial k => match st with
    | .ref _ :: r => if bn_ml (bn_c mi) k = some (4, 0) ∧ bn_ct r ≤ 8 ∧ 1 ≤ bn_f mi ∧ 26 ≤ bn_l mi then some (pc + 3, ls, r, h) else none
    | _ => none
  | .invokestatic k => match bn_ml (bn_c mi) k with
    | some (5, _) => match st with
      | .int n :: .int dp :: .ref q :: .int sp :: .ref p :: r => if bn_ct r ≤ 8 ∧ 1 ≤ bn_f mi ∧ 26 ≤ bn_l mi then (bn_cp h p sp q dp n).map fun h' => (pc + 3, ls, r, h') else none
      | _ => none
    | some (6, _) => match st with
      | .int y :: .int x :: r => if bn_ct r ≤ 8 ∧ 1 ≤ bn_f mi ∧ 26 ≤ bn_l mi then some (pc + 3, ls, .int (if x < y then y else x) :: r, h) else none
      | _ => none
    | some (7, _) => match st with
      | .int y :: .int x :: r => if bn_ct r ≤ 8 ∧ 1 ≤ bn_f mi ∧ 26 ≤ bn_l mi then some (pc + 3, ls, .int (if y < x then y else x) :: r, h) else none
      | _ => none
    | _ => none
  | _ => none
def bn_sl (vs : List Value) : bn_L := vs.flatMap fun v => if v.category = 2 then [some v, none] else [some v]
def bn_en (mj : Nat) (vs : List Value) : bn_L := bn_sl vs ++ List.replicate (bn_m mj - (bn_sl vs).length) none
/-- a return -/
def bn_rt (mi : Nat) (i : Instr) (st : List Value) : Option (Option Value) := match i with
  | .return_ => match st with
    | [] => if bn_r mi = none then some none else none
    | _ => none
  | .ireturn => match st with
    | [.int v] => if bn_r mi = some .int ∨ (bn_r mi = some .boolean ∧ (v = 0 ∨ v = 1)) then some (some (.int v)) else none
    | _ => none
  | .lreturn => match st with
    | [.long v] => if bn_r mi = some .long then some (some (.long v)) else none
    | _ => none
  | _ => none
/-- a call: the method, its arguments, the rest of the stack -/
def bn_k (mi : Nat) (i : Instr) (st : List Value) (h : bn_H) : Option (Nat × List Value × List Value) := match i with
  | .invokevirtual k => (bn_ml (bn_c mi) k).bind fun q => match st.drop (bn_p q.2) with
    | .ref b :: r => if q.1 = 0 ∧ (st.take (bn_p q.2)).length = bn_p q.2 ∧ bn_isC h b (bn_c q.2) = true ∧ bn_ct r ≤ 8 ∧ (bn_sl (.ref b :: (st.take (bn_p q.2)).reverse)).length ≤ bn_m q.2 ∧ bn_f q.2 + 1 ≤ bn_f mi ∧ 8 + (bn_m q.2 + 11) + bn_l q.2 ≤ bn_l mi then some (q.2, .ref b :: (st.take (bn_p q.2)).reverse, r) else none
    | _ => none
  | .invokespecial k => (bn_ml (bn_c mi) k).bind fun q => match st.drop (bn_p q.2) with
    | .ref b :: r => if (q.1 = 2 ∨ q.1 = 3) ∧ (st.take (bn_p q.2)).length = bn_p q.2 ∧ bn_ct r ≤ 8 ∧ (bn_sl (.ref b :: (st.take (bn_p q.2)).reverse)).length ≤ bn_m q.2 ∧ bn_f q.2 + 1 ≤ bn_f mi ∧ 8 + (bn_m q.2 + 11) + bn_l q.2 ≤ bn_l mi then some (q.2, .ref b :: (st.take (bn_p q.2)).reverse, r) else none
    | _ => none
  | .invokestatic k => (bn_ml (bn_c mi) k).bind fun q =>
      if q.1 = 1 ∧ (st.take (bn_p q.2)).length = bn_p q.2 ∧ bn_ct (st.drop (bn_p q.2)) ≤ 8 ∧ (bn_sl (st.take (bn_p q.2)).reverse).length ≤ bn_m q.2 ∧ bn_f q.2 + 1 ≤ bn_f mi ∧ 8 + (bn_m q.2 + 11) + bn_l q.2 ≤ bn_l mi then some (q.2, (st.take (bn_p q.2)).reverse, st.drop (bn_p q.2)) else none
  | _ => none
/-- one instruction, what follows by k -/
def bn_F (k : Nat → Nat → bn_L → List Value → bn_H → bn_R) (mi pc : Nat) (ls : bn_L) (st : List Value) (h : bn_H) : bn_R := match decode (bn_b mi) pc with
  | .error _ => none
  | .ok (i, len) => if len = bn_ln i len then
      match bn_rt mi i st with
      | some r => some (r, h)
      | none => match bn_k mi i st h with
        | some (mj, as, r) => (k mj 0 (bn_en mj as) [] h).bind fun a => if bn_okr (bn_r mj) a.1 = true then k mi (pc + 3) ls (a.1.toList ++ r) a.2 else none
        | none => (bn_x mi i pc ls st h).bind fun a => k mi a.1 a.2.1 a.2.2.1 a.2.2.2
    else none
def bn_go : Nat → Nat → Nat → bn_L → List Value → bn_H → bn_R
  | 0, _, _, _, _, _ => none
  | n + 1, mi, pc, ls, st, h => bn_F (bn_go n) mi pc ls st h
theorem bn_F_mono {k k' : Nat → Nat → bn_L → List Value → bn_H → bn_R} (hk : ∀ mi pc ls st h x, k mi pc ls st h = some x → k' mi pc ls st h = some x) {mi pc : Nat} {ls : bn_L} {st : List Value} {h : bn_H} {x : Option Value × bn_H} (e : bn_F k mi pc ls st h = some x) : bn_F k' mi pc ls st h = some x := by
  unfold bn_F at e ⊢
  split at e
  · cases e
  · split at e
    · rename_i hl
      rw [if_pos hl]
      split at e
      · exact e
      · split at e
        · obtain ⟨a, h1, h2⟩ := Option.bind_eq_some_iff.mp e
          rw [hk _ _ _ _ _ _ h1]
          split at h2
          · rename_i ho
            show (if bn_okr _ a.1 = true then _ else _) = _
            rw [if_pos ho]
            exact hk _ _ _ _ _ _ h2
          · cases h2
        · obtain ⟨a, h1, h2⟩ := Option.bind_eq_some_iff.mp e
          rw [h1]
          exact hk _ _ _ _ _ _ h2
    · cases e
theorem bn_go_1 (n : Nat) : ∀ mi pc ls st h x, bn_go n mi pc ls st h = some x → bn_go (n + 1) mi pc ls st h = some x := by
  induction n with
  | zero => intro mi pc ls st h x e; cases e
  | succ n ih => intro mi pc ls st h x e; exact bn_F_mono ih e
theorem bn_go_le {n k : Nat} (hn : n ≤ k) {mi pc : Nat} {ls : bn_L} {st : List Value} {h : bn_H} {x : Option Value × bn_H} (e : bn_go n mi pc ls st h = some x) : bn_go k mi pc ls st h = some x := by
  obtain ⟨d, rfl⟩ := Nat.exists_eq_add_of_le hn
  induction d with
  | zero => exact e
  | succ d ih => exact bn_go_1 _ _ _ _ _ _ _ (ih (by omega))
/-- the value of the walk, where it ends -/
noncomputable def bn_ev (mi pc : Nat) (ls : bn_L) (st : List Value) (h : bn_H) : bn_R := @dite _ (∃ x, ∃ n, bn_go n mi pc ls st h = some x) (Classical.propDecidable _) (fun e => some (Classical.choose e)) (fun _ => none)
theorem bn_ev_of {n mi pc : Nat} {ls : bn_L} {st : List Value} {h : bn_H} {x : Option Value × bn_H} (e : bn_go n mi pc ls st h = some x) : bn_ev mi pc ls st h = some x := by
  have hx : ∃ x, ∃ n, bn_go n mi pc ls st h = some x := ⟨x, n, e⟩
  unfold bn_ev
  rw [dif_pos hx]
  obtain ⟨k, hk⟩ := Classical.choose_spec hx
  have h1 := bn_go_le (Nat.le_add_right n k) e
  have h2 := bn_go_le (Nat.le_add_left k n) hk
  rw [h1] at h2
  exact h2.symm
theorem bn_ev_go {mi pc : Nat} {ls : bn_L} {st : List Value} {h : bn_H} {x : Option Value × bn_H} (e : bn_ev mi pc ls st h = some x) : ∃ n, bn_go n mi pc ls st h = some x := by
  unfold bn_ev at e
  split at e
  · rename_i hx
    rw [← Option.some.inj e]
    exact Classical.choose_spec hx
  · cases e
theorem bn_ev_eq (mi pc : Nat) (ls : bn_L) (st : List Value) (h : bn_H) : bn_ev mi pc ls st h = bn_F bn_ev mi pc ls st h := by
  apply Option.ext
  intro x
  constructor
  · intro e
    obtain ⟨n, hn⟩ := bn_ev_go e
    cases n with
    | zero => cases hn
    | succ n => exact bn_F_mono (fun _ _ _ _ _ _ h => bn_ev_of h) hn
  · intro e
    have key : ∃ n, bn_F (bn_go n) mi pc ls st h = some x := by
      unfold bn_F at e ⊢
      split at e
      · cases e
      · split at e
        · rename_i hl
          simp only [if_pos hl]
          split at e
          · exact ⟨0, e⟩
          · split at e
            · obtain ⟨a, h1, h2⟩ := Option.bind_eq_some_iff.mp e
              obtain ⟨n1, h1⟩ := bn_ev_go h1
              split at h2
              · rename_i ho
                obtain ⟨n2, h2⟩ := bn_ev_go h2
                refine ⟨n1 + n2, ?_⟩
                rw [bn_go_le (Nat.le_add_right n1 n2) h1]
                show (if bn_okr _ a.1 = true then _ else _) = _
                rw [if_pos ho]
                exact bn_go_le (Nat.le_add_left n2 n1) h2
              · cases h2
            · obtain ⟨a, h1, h2⟩ := Option.bind_eq_some_iff.mp e
              obtain ⟨n2, h2⟩ := bn_ev_go h2
              refine ⟨n2, ?_⟩
              rw [h1]
              exact h2
        · cases e
    obtain ⟨n, hn⟩ := key
    exact bn_ev_of (n := n + 1) hn
end
section
/-! THE WALK'S WORLD: cell k lies at the address G.1 + k -/
abbrev bn_G : Type := Nat × Nat × va_G × (Nat → ClassId)
def bn_cv (G : bn_G) (v : Value) : Value := match v with
  | .ref k => .ref (G.1 + k)
  | .retAddr _ => .ref G.2.1
  | v => v
def bn_ca (G : bn_G) (a : vp_A) : vp_A := match a with
  | (n, .inr (.inr (.inr (.inr f)))) => (n, .inr (.inr (.inr (.inr (fun j => (f j).map (fun k => G.1 + k))))))
  | a => a
def bn_ce (G : bn_G) (e : bn_E) : va_E := match e with
  | .inl a => .inl (G.2.2.2 a.1, bn_ca G a.2)
  | .inr o => .inr (o.1, o.2.map (bn_cv G))
def bn_wl (G : bn_G) (h : bn_H) : va_W := (List.range h.2.1).map (fun k => (G.1 + k, bn_ce G (h.2.2.2 k)))
def bn_A (G : bn_G) : Nat → Prop := fun q => G.1 ≤ q
def bn_W (s : State) (G : bn_G) (h : bn_H) (H : Heap) (locs : List Loc) : Prop := va_P G.2.2.1 bn_cl (bn_wl G h) H ∧ va_D (bn_A G) (bn_wl G h) ∧ va_S (bn_A G) s.heap H locs
def bn_tys (G : bn_G) : List (ClassId × FieldType) := [(G.2.2.2 0, .int), (G.2.2.2 1, .boolean), (G.2.2.2 2, .long), (G.2.2.2 3, .object RX0)]
/-- what the tables say that isn't a word of every list: nest mates' constructors, the array class of Siege -/
def bn_NL : List (String × Nat × MethodName) := [(RX2, 11, yX1_init), (RX2, 18, yX0_init)]
def bn_X (U : State) : Prop := va_AO RX0 U ∧ ∀ q ∈ bn_NL, va_Nw (.methodLinkNest q.1 q.2.1 q.2.2 "BreadNumbered") U
def bn_TT : List Cond := lw_tbl.filter goodWord
def bn_Cx (p : Program) (R : Room) (s : State) (m : MethodId) (args : Array Value) (meth : Method) (c : Code) (mi : Nat) (G : bn_G) (sc : Nat × (Nat → Int32)) : Prop :=
  p.tables.exec = Jvm.exec ∧ c.code = bn_b mi ∧ c.maxLocals = bn_m mi ∧ s.vm.findClass (bn_cn (bn_c mi)) = some m.cls ∧ (∀ w ∈ bn_TT, w.before args s = true) ∧ (bn_i mi = true → meth.name = "<init>") ∧ bn_f mi ≤ R.frames ∧ bn_l mi ≤ R.locals ∧ va_K G.2.2.1 bn_cl (bn_tys G) s ∧ bn_X s ∧ va_X G.2.1 sc.1 sc.2 s s.heap ∧ G.2.1 < G.1 ∧ G.1 ≤ s.heap.size
def bn_LV (G : bn_G) (nL : Nat) (A : Array Slot) (ls : bn_L) : Prop := A.size = nL ∧ lv_wf A ∧ ∀ (i : Nat) (v : Value), bn_get ls i = some v → A[i]? = some (.val (bn_cv G v))
theorem bn_cv_cat (G : bn_G) (v : Value) : (bn_cv G v).category = v.category := by cases v <;> rfl
theorem bn_ct_cv (G : bn_G) (st : List Value) : ((st.map (bn_cv G)).map fun v => v.category).sum = bn_ct st := by
  unfold bn_ct
  rw [List.map_map]
  congr 1
  exact List.map_congr_left (fun v _ => bn_cv_cat G v)
theorem bn_wl_get {G : bn_G} {h : bn_H} {p : Nat} {e : bn_E} (hg : bn_g h p = some e) : (bn_wl G h)[p]? = some (G.1 + p, bn_ce G e) := by
  unfold bn_g at hg
  split at hg
  · rename_i hp
    cases hg
    unfold bn_wl
    rw [List.getElem?_map, List.getElem?_range hp]
    rfl
  · cases hg
theorem bn_wl_set {G : bn_G} {h : bn_H} {p : Nat} {e0 e : bn_E} (hg : bn_g h p = some e0) : (bn_wl G h).set p (G.1 + p, bn_ce G e) = bn_wl G (bn_u h p e) := by
  have hp : p < h.2.1 := by
    unfold bn_g at hg
    split at hg
    · assumption
    · cases hg
  apply List.ext_getElem?
  intro i
  unfold bn_wl bn_u
  rw [List.getElem?_set]
  by_cases hi : i < h.2.1
  · by_cases hpi : p = i
    · subst hpi
      simp [hi, va_up]
    · have hip : ¬ i = p := fun q => hpi q.symm
      simp [hi, va_up, hpi, hip]
  · have h1 : p ≠ i := fun q => hi (q ▸ hp)
    simp [hi, h1]
theorem bn_wl_app {G : bn_G} {h : bn_H} {e : bn_E} {z : Nat} : bn_wl G h ++ [(G.1 + h.2.1, bn_ce G e)] = bn_wl G (bn_n h e z) := by
  unfold bn_wl bn_n
  rw [List.range_succ, List.map_append]
  congr 1
  · exact List.map_congr_left (fun k hk => by
      have := List.mem_range.mp hk
      simp [va_up, Nat.ne_of_lt this])
  · simp [va_up]
theorem bn_low {s : State} {G : bn_G} {h : bn_H} {H : Heap} {locs : List Loc} {n0 : Nat} (hW : bn_W s G h H locs) (hs : s.heap.size = G.1 + n0) (hn : n0 ≤ h.2.1) : G.1 + h.2.1 ≤ H.size := by
  rcases Nat.lt_or_ge n0 h.2.1 with h1 | h1
  · have hg : bn_g h (h.2.1 - 1) = some (h.2.2.2 (h.2.1 - 1)) := by
      unfold bn_g
      rw [if_pos (by omega)]
    have := (hW.1 _ _ (bn_wl_get (G := G) hg)).lt
    dsimp only at this
    omega
  · have := hW.2.2.1
    omega
theorem bn_TT_mem {i : Nat} {w : Cond} (h : lw_tbl[i]? = some w) (hg : goodWord w = true) : w ∈ bn_TT := List.mem_filter.mpr ⟨List.mem_of_getElem? h, hg⟩
theorem bn_TT_good : ∀ w ∈ bn_TT, goodWord w = true := fun w h => (List.mem_filter.mp h).2
/-! the tables -/
def bn_okF (r : Nat × Nat × Nat × Nat × Nat) : Bool := decide (lw_tbl[r.2.2.2.2]? = some (.fieldLink (bn_cn r.1) r.2.1 (bn_cn r.2.2.1) (bn_T r.2.2.1 r.2.2.2.1).2.1 (bn_T r.2.2.1 r.2.2.2.1).2.2.1)) && (goodWord (.fieldLink (bn_cn r.1) r.2.1 (bn_cn r.2.2.1) (bn_T r.2.2.1 r.2.2.2.1).2.1 (bn_T r.2.2.1 r.2.2.2.1).2.2.1) && (decide (r.2.2.2.1 < bn_N r.2.2.1) && (decide ((bn_T r.2.2.1 r.2.2.2.1).1 = bn_cn r.2.2.1) && decide (r.2.2.1 < 4))))
set_option maxRecDepth 100000 in
theorem bn_FL_ok : bn_FL.all bn_okF = true := by decide +kernel
theorem bn_fl_ok {c idx : Nat} {q : Nat × Nat} (h : bn_fl c idx = some q) : .fieldLink (bn_cn c) idx (bn_cn q.1) (bn_T q.1 q.2).2.1 (bn_T q.1 q.2).2.2.1 ∈ bn_TT ∧ q.2 < bn_N q.1 ∧ (bn_T q.1 q.2).1 = bn_cn q.1 ∧ q.1 < 4 := by
  unfold bn_fl at h
  obtain ⟨r, h1, rfl⟩ := Option.map_eq_some_iff.mp h
  have h2 := List.find?_some h1
  have h3 := List.all_eq_true.mp bn_FL_ok r (List.mem_of_find?_eq_some h1)
  simp only [Bool.and_eq_true, beq_iff_eq] at h2
  obtain ⟨rfl, rfl⟩ := h2
  simp only [bn_okF, Bool.and_eq_true, decide_eq_true_eq] at h3
  exact ⟨bn_TT_mem h3.1 h3.2.1, h3.2.2.1, h3.2.2.2.1, h3.2.2.2.2⟩
/-- of a called method: its code, its class, its parameters -/
def bn_PY (j : Nat) : Prop := Cond.code (bn_y j) (bn_b j) (bn_m j) (bn_r j) ∈ lw_tbl ∧ Cond.initialized (bn_y j).cls ∈ lw_tbl ∧ (bn_y j).cls = bn_cn (bn_c j) ∧ (parseMethodDescriptor (bn_y j).desc).map (fun d => d.parameters.length) = some (bn_p j) ∧ bn_c j < 6
set_option maxRecDepth 100000 in
theorem bn_Y_0 : bn_PY 0 := ⟨List.mem_of_getElem? (i := 76) rfl, List.mem_of_getElem? (i := 41) rfl, rfl, by decide +kernel, by decide⟩
set_option maxRecDepth 100000 in
theorem bn_Y_1 : bn_PY 1 := ⟨List.mem_of_getElem? (i := 210) rfl, List.mem_of_getElem? (i := 41) rfl, rfl, by decide +kernel, by decide⟩
set_option maxRecDepth 100000 in
theorem bn_Y_2 : bn_PY 2 := ⟨List.mem_of_getElem? (i := 218) rfl, List.mem_of_getElem? (i := 41) rfl, rfl, by decide +kernel, by decide⟩
set_option maxRecDepth 100000 in
theorem bn_Y_3 : bn_PY 3 := ⟨List.mem_of_getElem? (i := 240) rfl, List.mem_of_getElem? (i := 41) rfl, rfl, by decide +kernel, by decide⟩
set_option maxRecDepth 100000 in
theorem bn_Y_4 : bn_PY 4 := ⟨List.mem_of_getElem? (i := 248) rfl, List.mem_of_getElem? (i := 41) rfl, rfl, by decide +kernel, by decide⟩
set_option maxRecDepth 100000 in
theorem bn_Y_5 : bn_PY 5 := ⟨List.mem_of_getElem? (i := 263) rfl, List.mem_of_getElem? (i := 41) rfl, rfl, by decide +kernel, by decide⟩
set_option maxRecDepth 100000 in
theorem bn_Y_6 : bn_PY 6 := ⟨List.mem_of_getElem? (i := 279) rfl, List.mem_of_getElem? (i := 41) rfl, rfl, by decide +kernel, by decide⟩
set_option maxRecDepth 100000 in
theorem bn_Y_7 : bn_PY 7 := ⟨List.mem_of_getElem? (i := 267) rfl, List.mem_of_getElem? (i := 41) rfl, rfl, by decide +kernel, by decide⟩
set_option maxRecDepth 100000 in
theorem bn_Y_8 : bn_PY 8 := ⟨List.mem_of_getElem? (i := 283) rfl, List.mem_of_getElem? (i := 41) rfl, rfl, by decide +kernel, by decide⟩
set_option maxRecDepth 100000 in
theorem bn_Y_9 : bn_PY 9 := ⟨List.mem_of_getElem? (i := 301) rfl, List.mem_of_getElem? (i := 41) rfl, rfl, by decide +kernel, by decide⟩
set_option maxRecDepth 100000 in
theorem bn_Y_10 : bn_PY 10 := ⟨List.mem_of_getElem? (i := 354) rfl, List.mem_of_getElem? (i := 41) rfl, rfl, by decide +kernel, by decide⟩
set_option maxRecDepth 100000 in
theorem bn_Y_11 : bn_PY 11 := ⟨List.mem_of_getElem? (i := 350) rfl, List.mem_of_getElem? (i := 41) rfl, rfl, by decide +kernel, by decide⟩
set_option maxRecDepth 100000 in
theorem bn_Y_12 : bn_PY 12 := ⟨List.mem_of_getElem? (i := 366) rfl, List.mem_of_getElem? (i := 41) rfl, rfl, by decide +kernel, by decide⟩
set_option maxRecDepth 100000 in
theorem bn_Y_13 : bn_PY 13 := ⟨List.mem_of_getElem? (i := 271) rfl, List.mem_of_getElem? (i := 41) rfl, rfl, by decide +kernel, by decide⟩
set_option maxRecDepth 100000 in
theorem bn_Y_14 : bn_PY 14 := ⟨List.mem_of_getElem? (i := 374) rfl, List.mem_of_getElem? (i := 41) rfl, rfl, by decide +kernel, by decide⟩
set_option maxRecDepth 100000 in
theorem bn_Y_15 : bn_PY 15 := ⟨List.mem_of_getElem? (i := 370) rfl, List.mem_of_getElem? (i := 41) rfl, rfl, by decide +kernel, by decide⟩
set_option maxRecDepth 100000 in
theorem bn_Y_16 : bn_PY 16 := ⟨List.mem_of_getElem? (i := 378) rfl, List.mem_of_getElem? (i := 41) rfl, rfl, by decide +kernel, by decide⟩
set_option maxRecDepth 100000 in
theorem bn_Y_17 : bn_PY 17 := ⟨List.mem_of_getElem? (i := 471) rfl, List.mem_of_getElem? (i := 41) rfl, rfl, by decide +kernel, by decide⟩
set_option maxRecDepth 100000 in
theorem bn_Y_18 : bn_PY 18 := ⟨List.mem_of_getElem? (i := 475) rfl, List.mem_of_getElem? (i := 41) rfl, rfl, by decide +kernel, by decide⟩
set_option maxRecDepth 100000 in
theorem bn_Y_19 : bn_PY 19 := ⟨List.mem_of_getElem? (i := 236) rfl, List.mem_of_getElem? (i := 41) rfl, rfl, by decide +kernel, by decide⟩
set_option maxRecDepth 100000 in
theorem bn_Y_20 : bn_PY 20 := ⟨List.mem_of_getElem? (i := 435) rfl, List.mem_of_getElem? (i := 41) rfl, rfl, by decide +kernel, by decide⟩
set_option maxRecDepth 100000 in
theorem bn_Y_21 : bn_PY 21 := ⟨List.mem_of_getElem? (i := 479) rfl, List.mem_of_getElem? (i := 41) rfl, rfl, by decide +kernel, by decide⟩
set_option maxRecDepth 100000 in
theorem bn_Y_22 : bn_PY 22 := ⟨List.mem_of_getElem? (i := 291) rfl, List.mem_of_getElem? (i := 41) rfl, rfl, by decide +kernel, by decide⟩
set_option maxRecDepth 100000 in
theorem bn_Y_23 : bn_PY 23 := ⟨List.mem_of_getElem? (i := 297) rfl, List.mem_of_getElem? (i := 41) rfl, rfl, by decide +kernel, by decide⟩
set_option maxRecDepth 100000 in
theorem bn_Y_24 : bn_PY 24 := ⟨List.mem_of_getElem? (i := 313) rfl, List.mem_of_getElem? (i := 41) rfl, rfl, by decide +kernel, by decide⟩
set_option maxRecDepth 100000 in
theorem bn_Y_25 : bn_PY 25 := ⟨List.mem_of_getElem? (i := 335) rfl, List.mem_of_getElem? (i := 41) rfl, rfl, by decide +kernel, by decide⟩
set_option maxRecDepth 100000 in
theorem bn_Y_26 : bn_PY 26 := ⟨List.mem_of_getElem? (i := 339) rfl, List.mem_of_getElem? (i := 41) rfl, rfl, by decide +kernel, by decide⟩
set_option maxRecDepth 100000 in
theorem bn_Y_27 : bn_PY 27 := ⟨List.mem_of_getElem? (i := 398) rfl, List.mem_of_getElem? (i := 41) rfl, rfl, by decide +kernel, by decide⟩
set_option maxRecDepth 100000 in
theorem bn_Y_28 : bn_PY 28 := ⟨List.mem_of_getElem? (i := 402) rfl, List.mem_of_getElem? (i := 41) rfl, rfl, by decide +kernel, by decide⟩
set_option maxRecDepth 100000 in
theorem bn_Y_29 : bn_PY 29 := ⟨List.mem_of_getElem? (i := 416) rfl, List.mem_of_getElem? (i := 41) rfl, rfl, by decide +kernel, by decide⟩
set_option maxRecDepth 100000 in
theorem bn_Y_30 : bn_PY 30 := ⟨List.mem_of_getElem? (i := 423) rfl, List.mem_of_getElem? (i := 41) rfl, rfl, by decide +kernel, by decide⟩
set_option maxRecDepth 100000 in
theorem bn_Y_31 : bn_PY 31 := ⟨List.mem_of_getElem? (i := 427) rfl, List.mem_of_getElem? (i := 41) rfl, rfl, by decide +kernel, by decide⟩
set_option maxRecDepth 100000 in
theorem bn_Y_32 : bn_PY 32 := ⟨List.mem_of_getElem? (i := 58) rfl, List.mem_of_getElem? (i := 40) rfl, rfl, by decide +kernel, by decide⟩
set_option maxRecDepth 100000 in
theorem bn_Y_33 : bn_PY 33 := ⟨List.mem_of_getElem? (i := 174) rfl, List.mem_of_getElem? (i := 40) rfl, rfl, by decide +kernel, by decide⟩
set_option maxRecDepth 100000 in
theorem bn_Y_34 : bn_PY 34 := ⟨List.mem_of_getElem? (i := 186) rfl, List.mem_of_getElem? (i := 40) rfl, rfl, by decide +kernel, by decide⟩
set_option maxRecDepth 100000 in
theorem bn_Y_35 : bn_PY 35 := ⟨List.mem_of_getElem? (i := 190) rfl, List.mem_of_getElem? (i := 40) rfl, rfl, by decide +kernel, by decide⟩
set_option maxRecDepth 100000 in
theorem bn_Y_36 : bn_PY 36 := ⟨List.mem_of_getElem? (i := 214) rfl, List.mem_of_getElem? (i := 40) rfl, rfl, by decide +kernel, by decide⟩
set_option maxRecDepth 100000 in
theorem bn_Y_37 : bn_PY 37 := ⟨List.mem_of_getElem? (i := 222) rfl, List.mem_of_getElem? (i := 40) rfl, rfl, by decide +kernel, by decide⟩
set_option maxRecDepth 100000 in
theorem bn_Y_38 : bn_PY 38 := ⟨List.mem_of_getElem? (i := 226) rfl, List.mem_of_getElem? (i := 40) rfl, rfl, by decide +kernel, by decide⟩
set_option maxRecDepth 100000 in
theorem bn_Y_39 : bn_PY 39 := ⟨List.mem_of_getElem? (i := 229) rfl, List.mem_of_getElem? (i := 40) rfl, rfl, by decide +kernel, by decide⟩
set_option maxRecDepth 100000 in
theorem bn_Y_40 : bn_PY 40 := ⟨List.mem_of_getElem? (i := 232) rfl, List.mem_of_getElem? (i := 40) rfl, rfl, by decide +kernel, by decide⟩
set_option maxRecDepth 100000 in
theorem bn_Y_41 : bn_PY 41 := ⟨List.mem_of_getElem? (i := 194) rfl, List.mem_of_getElem? (i := 40) rfl, rfl, by decide +kernel, by decide⟩
set_option maxRecDepth 100000 in
theorem bn_Y_42 : bn_PY 42 := ⟨List.mem_of_getElem? (i := 198) rfl, List.mem_of_getElem? (i := 40) rfl, rfl, by decide +kernel, by decide⟩
set_option maxRecDepth 100000 in
theorem bn_Y_43 : bn_PY 43 := ⟨List.mem_of_getElem? (i := 202) rfl, List.mem_of_getElem? (i := 40) rfl, rfl, by decide +kernel, by decide⟩
set_option maxRecDepth 100000 in
theorem bn_Y_44 : bn_PY 44 := ⟨List.mem_of_getElem? (i := 206) rfl, List.mem_of_getElem? (i := 40) rfl, rfl, by decide +kernel, by decide⟩
set_option maxRecDepth 100000 in
theorem bn_Y_45 : bn_PY 45 := ⟨List.mem_of_getElem? (i := 50) rfl, List.mem_of_getElem? (i := 39) rfl, rfl, by decide +kernel, by decide⟩
set_option maxRecDepth 100000 in
theorem bn_Y_46 : bn_PY 46 := ⟨List.mem_of_getElem? (i := 170) rfl, List.mem_of_getElem? (i := 39) rfl, rfl, by decide +kernel, by decide⟩
set_option maxRecDepth 100000 in
theorem bn_Y_47 : bn_PY 47 := ⟨List.mem_of_getElem? (i := 178) rfl, List.mem_of_getElem? (i := 39) rfl, rfl, by decide +kernel, by decide⟩
set_option maxRecDepth 100000 in
theorem bn_Y_48 : bn_PY 48 := ⟨List.mem_of_getElem? (i := 182) rfl, List.mem_of_getElem? (i := 39) rfl, rfl, by decide +kernel, by decide⟩
set_option maxRecDepth 100000 in
theorem bn_Y_49 : bn_PY 49 := ⟨List.mem_of_getElem? (i := 244) rfl, List.mem_of_getElem? (i := 39) rfl, rfl, by decide +kernel, by decide⟩
set_option maxRecDepth 100000 in
theorem bn_Y_50 : bn_PY 50 := ⟨List.mem_of_getElem? (i := 259) rfl, List.mem_of_getElem? (i := 39) rfl, rfl, by decide +kernel, by decide⟩
set_option maxRecDepth 100000 in
theorem bn_Y_51 : bn_PY 51 := ⟨List.mem_of_getElem? (i := 275) rfl, List.mem_of_getElem? (i := 39) rfl, rfl, by decide +kernel, by decide⟩
set_option maxRecDepth 100000 in
theorem bn_Y_52 : bn_PY 52 := ⟨List.mem_of_getElem? (i := 287) rfl, List.mem_of_getElem? (i := 39) rfl, rfl, by decide +kernel, by decide⟩
set_option maxRecDepth 100000 in
theorem bn_Y_53 : bn_PY 53 := ⟨List.mem_of_getElem? (i := 305) rfl, List.mem_of_getElem? (i := 39) rfl, rfl, by decide +kernel, by decide⟩
set_option maxRecDepth 100000 in
theorem bn_Y_54 : bn_PY 54 := ⟨List.mem_of_getElem? (i := 317) rfl, List.mem_of_getElem? (i := 39) rfl, rfl, by decide +kernel, by decide⟩
set_option maxRecDepth 100000 in
theorem bn_Y_55 : bn_PY 55 := ⟨List.mem_of_getElem? (i := 321) rfl, List.mem_of_getElem? (i := 39) rfl, rfl, by decide +kernel, by decide⟩
set_option maxRecDepth 100000 in
theorem bn_Y_56 : bn_PY 56 := ⟨List.mem_of_getElem? (i := 331) rfl, List.mem_of_getElem? (i := 39) rfl, rfl, by decide +kernel, by decide⟩
set_option maxRecDepth 100000 in
theorem bn_Y_57 : bn_PY 57 := ⟨List.mem_of_getElem? (i := 346) rfl, List.mem_of_getElem? (i := 39) rfl, rfl, by decide +kernel, by decide⟩
set_option maxRecDepth 100000 in
theorem bn_Y_58 : bn_PY 58 := ⟨List.mem_of_getElem? (i := 382) rfl, List.mem_of_getElem? (i := 39) rfl, rfl, by decide +kernel, by decide⟩
set_option maxRecDepth 100000 in
theorem bn_Y_59 : bn_PY 59 := ⟨List.mem_of_getElem? (i := 386) rfl, List.mem_of_getElem? (i := 39) rfl, rfl, by decide +kernel, by decide⟩
set_option maxRecDepth 100000 in
theorem bn_Y_60 : bn_PY 60 := ⟨List.mem_of_getElem? (i := 390) rfl, List.mem_of_getElem? (i := 39) rfl, rfl, by decide +kernel, by decide⟩
set_option maxRecDepth 100000 in
theorem bn_Y_61 : bn_PY 61 := ⟨List.mem_of_getElem? (i := 408) rfl, List.mem_of_getElem? (i := 39) rfl, rfl, by decide +kernel, by decide⟩
set_option maxRecDepth 100000 in
theorem bn_Y_62 : bn_PY 62 := ⟨List.mem_of_getElem? (i := 412) rfl, List.mem_of_getElem? (i := 39) rfl, rfl, by decide +kernel, by decide⟩
set_option maxRecDepth 100000 in
theorem bn_Y_63 : bn_PY 63 := ⟨List.mem_of_getElem? (i := 431) rfl, List.mem_of_getElem? (i := 39) rfl, rfl, by decide +kernel, by decide⟩
set_option maxRecDepth 100000 in
theorem bn_Y_64 : bn_PY 64 := ⟨List.mem_of_getElem? (i := 440) rfl, List.mem_of_getElem? (i := 39) rfl, rfl, by decide +kernel, by decide⟩
set_option maxRecDepth 100000 in
theorem bn_Y_65 : bn_PY 65 := ⟨List.mem_of_getElem? (i := 451) rfl, List.mem_of_getElem? (i := 39) rfl, rfl, by decide +kernel, by decide⟩
set_option maxRecDepth 100000 in
theorem bn_Y_66 : bn_PY 66 := ⟨List.mem_of_getElem? (i := 458) rfl, List.mem_of_getElem? (i := 39) rfl, rfl, by decide +kernel, by decide⟩
set_option maxRecDepth 100000 in
theorem bn_Y_67 : bn_PY 67 := ⟨List.mem_of_getElem? (i := 462) rfl, List.mem_of_getElem? (i := 39) rfl, rfl, by decide +kernel, by decide⟩
set_option maxRecDepth 100000 in
theorem bn_Y_68 : bn_PY 68 := ⟨List.mem_of_getElem? (i := 466) rfl, List.mem_of_getElem? (i := 39) rfl, rfl, by decide +kernel, by decide⟩
set_option maxRecDepth 100000 in
theorem bn_Y_69 : bn_PY 69 := ⟨List.mem_of_getElem? (i := 309) rfl, List.mem_of_getElem? (i := 39) rfl, rfl, by decide +kernel, by decide⟩
set_option maxRecDepth 100000 in
theorem bn_Y_70 : bn_PY 70 := ⟨List.mem_of_getElem? (i := 255) rfl, List.mem_of_getElem? (i := 39) rfl, rfl, by decide +kernel, by decide⟩
set_option maxRecDepth 100000 in
theorem bn_Y_71 : bn_PY 71 := ⟨List.mem_of_getElem? (i := 394) rfl, List.mem_of_getElem? (i := 39) rfl, rfl, by decide +kernel, by decide⟩
set_option maxRecDepth 100000 in
theorem bn_Y_72 : bn_PY 72 := ⟨List.mem_of_getElem? (i := 324) rfl, List.mem_of_getElem? (i := 39) rfl, rfl, by decide +kernel, by decide⟩
set_option maxRecDepth 100000 in
theorem bn_Y_73 : bn_PY 73 := ⟨List.mem_of_getElem? (i := 327) rfl, List.mem_of_getElem? (i := 39) rfl, rfl, by decide +kernel, by decide⟩
set_option maxRecDepth 100000 in
theorem bn_Y_74 : bn_PY 74 := ⟨List.mem_of_getElem? (i := 443) rfl, List.mem_of_getElem? (i := 39) rfl, rfl, by decide +kernel, by decide⟩
set_option maxRecDepth 100000 in
theorem bn_Y_75 : bn_PY 75 := ⟨List.mem_of_getElem? (i := 446) rfl, List.mem_of_getElem? (i := 39) rfl, rfl, by decide +kernel, by decide⟩
set_option maxRecDepth 100000 in
theorem bn_Y_76 : bn_PY 76 := ⟨List.mem_of_getElem? (i := 486) rfl, List.mem_of_getElem? (i := 42) rfl, rfl, by decide +kernel, by decide⟩
set_option maxRecDepth 100000 in
theorem bn_Y_77 : bn_PY 77 := ⟨List.mem_of_getElem? (i := 584) rfl, List.mem_of_getElem? (i := 42) rfl, rfl, by decide +kernel, by decide⟩
set_option maxRecDepth 100000 in
theorem bn_Y_78 : bn_PY 78 := ⟨List.mem_of_getElem? (i := 580) rfl, List.mem_of_getElem? (i := 42) rfl, rfl, by decide +kernel, by decide⟩
set_option maxRecDepth 100000 in
theorem bn_Y_79 : bn_PY 79 := ⟨List.mem_of_getElem? (i := 589) rfl, List.mem_of_getElem? (i := 42) rfl, rfl, by decide +kernel, by decide⟩
set_option maxRecDepth 100000 in
theorem bn_Y_80 : bn_PY 80 := ⟨List.mem_of_getElem? (i := 601) rfl, List.mem_of_getElem? (i := 42) rfl, rfl, by decide +kernel, by decide⟩
set_option maxRecDepth 100000 in
theorem bn_Y_81 : bn_PY 81 := ⟨List.mem_of_getElem? (i := 610) rfl, List.mem_of_getElem? (i := 42) rfl, rfl, by decide +kernel, by decide⟩
set_option maxRecDepth 100000 in
theorem bn_Y_82 : bn_PY 82 := ⟨List.mem_of_getElem? (i := 597) rfl, List.mem_of_getElem? (i := 42) rfl, rfl, by decide +kernel, by decide⟩
set_option maxRecDepth 100000 in
theorem bn_Y_83 : bn_PY 83 := ⟨List.mem_of_getElem? (i := 606) rfl, List.mem_of_getElem? (i := 42) rfl, rfl, by decide +kernel, by decide⟩
set_option maxRecDepth 100000 in
theorem bn_Y_84 : bn_PY 84 := ⟨List.mem_of_getElem? (i := 593) rfl, List.mem_of_getElem? (i := 42) rfl, rfl, by decide +kernel, by decide⟩
set_option maxRecDepth 100000 in
theorem bn_Y_85 : bn_PY 85 := ⟨List.mem_of_getElem? (i := 614) rfl, List.mem_of_getElem? (i := 42) rfl, rfl, by decide +kernel, by decide⟩
set_option maxRecDepth 100000 in
theorem bn_Y_86 : bn_PY 86 := ⟨List.mem_of_getElem? (i := 622) rfl, List.mem_of_getElem? (i := 42) rfl, rfl, by decide +kernel, by decide⟩
set_option maxRecDepth 100000 in
theorem bn_Y_87 : bn_PY 87 := ⟨List.mem_of_getElem? (i := 638) rfl, List.mem_of_getElem? (i := 42) rfl, rfl, by decide +kernel, by decide⟩
set_option maxRecDepth 100000 in
theorem bn_Y_88 : bn_PY 88 := ⟨List.mem_of_getElem? (i := 654) rfl, List.mem_of_getElem? (i := 42) rfl, rfl, by decide +kernel, by decide⟩
set_option maxRecDepth 100000 in
theorem bn_Y_89 : bn_PY 89 := ⟨List.mem_of_getElem? (i := 630) rfl, List.mem_of_getElem? (i := 42) rfl, rfl, by decide +kernel, by decide⟩
set_option maxRecDepth 100000 in
theorem bn_Y_90 : bn_PY 90 := ⟨List.mem_of_getElem? (i := 642) rfl, List.mem_of_getElem? (i := 42) rfl, rfl, by decide +kernel, by decide⟩
set_option maxRecDepth 100000 in
theorem bn_Y_91 : bn_PY 91 := ⟨List.mem_of_getElem? (i := 626) rfl, List.mem_of_getElem? (i := 42) rfl, rfl, by decide +kernel, by decide⟩
set_option maxRecDepth 100000 in
theorem bn_Y_92 : bn_PY 92 := ⟨List.mem_of_getElem? (i := 618) rfl, List.mem_of_getElem? (i := 42) rfl, rfl, by decide +kernel, by decide⟩
set_option maxRecDepth 100000 in
theorem bn_Y_93 : bn_PY 93 := ⟨List.mem_of_getElem? (i := 634) rfl, List.mem_of_getElem? (i := 42) rfl, rfl, by decide +kernel, by decide⟩
set_option maxRecDepth 100000 in
theorem bn_Y_94 : bn_PY 94 := ⟨List.mem_of_getElem? (i := 662) rfl, List.mem_of_getElem? (i := 42) rfl, rfl, by decide +kernel, by decide⟩
set_option maxRecDepth 100000 in
theorem bn_Y_95 : bn_PY 95 := ⟨List.mem_of_getElem? (i := 650) rfl, List.mem_of_getElem? (i := 42) rfl, rfl, by decide +kernel, by decide⟩
set_option maxRecDepth 100000 in
theorem bn_Y_96 : bn_PY 96 := ⟨List.mem_of_getElem? (i := 646) rfl, List.mem_of_getElem? (i := 42) rfl, rfl, by decide +kernel, by decide⟩
set_option maxRecDepth 100000 in
theorem bn_Y_97 : bn_PY 97 := ⟨List.mem_of_getElem? (i := 666) rfl, List.mem_of_getElem? (i := 42) rfl, rfl, by decide +kernel, by decide⟩
set_option maxRecDepth 100000 in
theorem bn_Y_98 : bn_PY 98 := ⟨List.mem_of_getElem? (i := 658) rfl, List.mem_of_getElem? (i := 42) rfl, rfl, by decide +kernel, by decide⟩
set_option maxRecDepth 100000 in
theorem bn_Y_99 : bn_PY 99 := ⟨List.mem_of_getElem? (i := 670) rfl, List.mem_of_getElem? (i := 42) rfl, rfl, by decide +kernel, by decide⟩
set_option maxRecDepth 100000 in
theorem bn_Y_100 : bn_PY 100 := ⟨List.mem_of_getElem? (i := 677) rfl, List.mem_of_getElem? (i := 42) rfl, rfl, by decide +kernel, by decide⟩
set_option maxRecDepth 100000 in
theorem bn_Y_101 : bn_PY 101 := ⟨List.mem_of_getElem? (i := 674) rfl, List.mem_of_getElem? (i := 42) rfl, rfl, by decide +kernel, by decide⟩
set_option maxRecDepth 100000 in
theorem bn_Y_102 : bn_PY 102 := ⟨List.mem_of_getElem? (i := 685) rfl, List.mem_of_getElem? (i := 42) rfl, rfl, by decide +kernel, by decide⟩
set_option maxRecDepth 100000 in
theorem bn_Y_103 : bn_PY 103 := ⟨List.mem_of_getElem? (i := 681) rfl, List.mem_of_getElem? (i := 42) rfl, rfl, by decide +kernel, by decide⟩
set_option maxRecDepth 100000 in
theorem bn_Y_104 : bn_PY 104 := ⟨List.mem_of_getElem? (i := 693) rfl, List.mem_of_getElem? (i := 42) rfl, rfl, by decide +kernel, by decide⟩
set_option maxRecDepth 100000 in
theorem bn_Y_105 : bn_PY 105 := ⟨List.mem_of_getElem? (i := 698) rfl, List.mem_of_getElem? (i := 42) rfl, rfl, by decide +kernel, by decide⟩
set_option maxRecDepth 100000 in
theorem bn_Y_106 : bn_PY 106 := ⟨List.mem_of_getElem? (i := 701) rfl, List.mem_of_getElem? (i := 42) rfl, rfl, by decide +kernel, by decide⟩
set_option maxRecDepth 100000 in
theorem bn_Y_107 : bn_PY 107 := ⟨List.mem_of_getElem? (i := 689) rfl, List.mem_of_getElem? (i := 42) rfl, rfl, by decide +kernel, by decide⟩
set_option maxRecDepth 100000 in
theorem bn_Y_108 : bn_PY 108 := ⟨List.mem_of_getElem? (i := 705) rfl, List.mem_of_getElem? (i := 42) rfl, rfl, by decide +kernel, by decide⟩
set_option maxRecDepth 100000 in
theorem bn_Y_109 : bn_PY 109 := ⟨List.mem_of_getElem? (i := 709) rfl, List.mem_of_getElem? (i := 42) rfl, rfl, by decide +kernel, by decide⟩
set_option maxRecDepth 100000 in
theorem bn_Y_110 : bn_PY 110 := ⟨List.mem_of_getElem? (i := 721) rfl, List.mem_of_getElem? (i := 42) rfl, rfl, by decide +kernel, by decide⟩
set_option maxRecDepth 100000 in
theorem bn_Y_111 : bn_PY 111 := ⟨List.mem_of_getElem? (i := 717) rfl, List.mem_of_getElem? (i := 42) rfl, rfl, by decide +kernel, by decide⟩
set_option maxRecDepth 100000 in
theorem bn_Y_112 : bn_PY 112 := ⟨List.mem_of_getElem? (i := 713) rfl, List.mem_of_getElem? (i := 42) rfl, rfl, by decide +kernel, by decide⟩
set_option maxRecDepth 100000 in
theorem bn_Y_113 : bn_PY 113 := ⟨List.mem_of_getElem? (i := 725) rfl, List.mem_of_getElem? (i := 42) rfl, rfl, by decide +kernel, by decide⟩
set_option maxRecDepth 100000 in
theorem bn_Y_114 : bn_PY 114 := ⟨List.mem_of_getElem? (i := 733) rfl, List.mem_of_getElem? (i := 42) rfl, rfl, by decide +kernel, by decide⟩
set_option maxRecDepth 100000 in
theorem bn_Y_115 : bn_PY 115 := ⟨List.mem_of_getElem? (i := 736) rfl, List.mem_of_getElem? (i := 42) rfl, rfl, by decide +kernel, by decide⟩
set_option maxRecDepth 100000 in
theorem bn_Y_116 : bn_PY 116 := ⟨List.mem_of_getElem? (i := 744) rfl, List.mem_of_getElem? (i := 42) rfl, rfl, by decide +kernel, by decide⟩
set_option maxRecDepth 100000 in
theorem bn_Y_117 : bn_PY 117 := ⟨List.mem_of_getElem? (i := 729) rfl, List.mem_of_getElem? (i := 42) rfl, rfl, by decide +kernel, by decide⟩
set_option maxRecDepth 100000 in
theorem bn_Y_118 : bn_PY 118 := ⟨List.mem_of_getElem? (i := 740) rfl, List.mem_of_getElem? (i := 42) rfl, rfl, by decide +kernel, by decide⟩
set_option maxRecDepth 100000 in
theorem bn_Y_119 : bn_PY 119 := ⟨List.mem_of_getElem? (i := 752) rfl, List.mem_of_getElem? (i := 42) rfl, rfl, by decide +kernel, by decide⟩
set_option maxRecDepth 100000 in
theorem bn_Y_120 : bn_PY 120 := ⟨List.mem_of_getElem? (i := 756) rfl, List.mem_of_getElem? (i := 42) rfl, rfl, by decide +kernel, by decide⟩
set_option maxRecDepth 100000 in
theorem bn_Y_121 : bn_PY 121 := ⟨List.mem_of_getElem? (i := 748) rfl, List.mem_of_getElem? (i := 42) rfl, rfl, by decide +kernel, by decide⟩
set_option maxRecDepth 100000 in
theorem bn_Y_122 : bn_PY 122 := ⟨List.mem_of_getElem? (i := 765) rfl, List.mem_of_getElem? (i := 42) rfl, rfl, by decide +kernel, by decide⟩
set_option maxRecDepth 100000 in
theorem bn_Y_123 : bn_PY 123 := ⟨List.mem_of_getElem? (i := 760) rfl, List.mem_of_getElem? (i := 42) rfl, rfl, by decide +kernel, by decide⟩
set_option maxRecDepth 100000 in
theorem bn_Y_124 : bn_PY 124 := ⟨List.mem_of_getElem? (i := 774) rfl, List.mem_of_getElem? (i := 42) rfl, rfl, by decide +kernel, by decide⟩
set_option maxRecDepth 100000 in
theorem bn_Y_125 : bn_PY 125 := ⟨List.mem_of_getElem? (i := 769) rfl, List.mem_of_getElem? (i := 42) rfl, rfl, by decide +kernel, by decide⟩
set_option maxRecDepth 100000 in
theorem bn_Y_126 : bn_PY 126 := ⟨List.mem_of_getElem? (i := 778) rfl, List.mem_of_getElem? (i := 42) rfl, rfl, by decide +kernel, by decide⟩
set_option maxRecDepth 100000 in
theorem bn_Y_127 : bn_PY 127 := ⟨List.mem_of_getElem? (i := 782) rfl, List.mem_of_getElem? (i := 42) rfl, rfl, by decide +kernel, by decide⟩
set_option maxRecDepth 100000 in
theorem bn_Y_128 : bn_PY 128 := ⟨List.mem_of_getElem? (i := 786) rfl, List.mem_of_getElem? (i := 42) rfl, rfl, by decide +kernel, by decide⟩
set_option maxRecDepth 100000 in
theorem bn_Y_129 : bn_PY 129 := ⟨List.mem_of_getElem? (i := 357) rfl, List.mem_of_getElem? (i := 45) rfl, rfl, by decide +kernel, by decide⟩
def bn_PM (r : Nat × Nat × Nat × Nat × Nat) : Prop := match r with
  | (c, idx, 0, j, _) => bn_PY j ∧ Cond.methodLink (bn_cn c) idx (bn_y j) ∈ lw_tbl ∧ Cond.instanceMethod (bn_y j) ∈ lw_tbl ∧ Cond.selects (bn_y j).cls (bn_y j) (bn_y j) ∈ lw_tbl ∧ bn_c j < 4
  | (c, idx, 1, j, _) => bn_PY j ∧ Cond.methodLink (bn_cn c) idx (bn_y j) ∈ lw_tbl ∧ Cond.static (bn_y j) ∈ lw_tbl
  | (c, idx, 2, j, _) => bn_PY j ∧ Cond.methodLink (bn_cn c) idx (bn_y j) ∈ lw_tbl ∧ Cond.instanceMethod (bn_y j) ∈ lw_tbl ∧ (bn_y j).name = "<init>" ∧ bn_r j = none
  | (c, idx, 3, j, _) => bn_PY j ∧ (bn_cn c, idx, bn_y j) ∈ bn_NL ∧ Cond.instanceMethod (bn_y j) ∈ lw_tbl ∧ (bn_y j).name = "<init>" ∧ bn_r j = none
  | (c, idx, 4, _, _) => Cond.methodLink (bn_cn c) idx Lib.objectInit ∈ lw_tbl
  | (c, idx, 5, _, _) => Cond.methodLink (bn_cn c) idx arraycopyName ∈ lw_tbl
  | (c, idx, 6, _, _) => Cond.methodLink (bn_cn c) idx Lib.Math.max.name ∈ lw_tbl
  | (c, idx, 7, _, _) => Cond.methodLink (bn_cn c) idx Lib.Math.min.name ∈ lw_tbl
  | _ => False
set_option maxRecDepth 100000 in
theorem bn_M_0 : bn_PM (4, 9, 2, 45, 48) := ⟨bn_Y_45, List.mem_of_getElem? (i := 48) rfl, List.mem_of_getElem? (i := 49) rfl, rfl, rfl⟩
set_option maxRecDepth 100000 in
theorem bn_M_1 : bn_PM (2, 3, 4, 0, 51) := List.mem_of_getElem? (i := 51) rfl
set_option maxRecDepth 100000 in
theorem bn_M_2 : bn_PM (2, 11, 3, 32, 56) := ⟨bn_Y_32, List.mem_of_getElem? (i := 0) rfl, List.mem_of_getElem? (i := 57) rfl, rfl, rfl⟩
set_option maxRecDepth 100000 in
theorem bn_M_3 : bn_PM (1, 3, 4, 0, 59) := List.mem_of_getElem? (i := 59) rfl
set_option maxRecDepth 100000 in
theorem bn_M_4 : bn_PM (2, 18, 3, 0, 74) := ⟨bn_Y_0, List.mem_of_getElem? (i := 1) rfl, List.mem_of_getElem? (i := 75) rfl, rfl, rfl⟩
set_option maxRecDepth 100000 in
theorem bn_M_5 : bn_PM (0, 3, 4, 0, 77) := List.mem_of_getElem? (i := 77) rfl
set_option maxRecDepth 100000 in
theorem bn_M_6 : bn_PM (4, 15, 0, 46, 167) := ⟨bn_Y_46, List.mem_of_getElem? (i := 167) rfl, List.mem_of_getElem? (i := 168) rfl, List.mem_of_getElem? (i := 169) rfl, by decide⟩
set_option maxRecDepth 100000 in
theorem bn_M_7 : bn_PM (2, 47, 0, 33, 171) := ⟨bn_Y_33, List.mem_of_getElem? (i := 171) rfl, List.mem_of_getElem? (i := 172) rfl, List.mem_of_getElem? (i := 173) rfl, by decide⟩
set_option maxRecDepth 100000 in
theorem bn_M_8 : bn_PM (4, 20, 0, 47, 175) := ⟨bn_Y_47, List.mem_of_getElem? (i := 175) rfl, List.mem_of_getElem? (i := 176) rfl, List.mem_of_getElem? (i := 177) rfl, by decide⟩
set_option maxRecDepth 100000 in
theorem bn_M_9 : bn_PM (4, 25, 0, 48, 179) := ⟨bn_Y_48, List.mem_of_getElem? (i := 179) rfl, List.mem_of_getElem? (i := 180) rfl, List.mem_of_getElem? (i := 181) rfl, by decide⟩
set_option maxRecDepth 100000 in
theorem bn_M_10 : bn_PM (2, 51, 0, 34, 183) := ⟨bn_Y_34, List.mem_of_getElem? (i := 183) rfl, List.mem_of_getElem? (i := 184) rfl, List.mem_of_getElem? (i := 185) rfl, by decide⟩
set_option maxRecDepth 100000 in
theorem bn_M_11 : bn_PM (1, 22, 0, 35, 187) := ⟨bn_Y_35, List.mem_of_getElem? (i := 187) rfl, List.mem_of_getElem? (i := 189) rfl, List.mem_of_getElem? (i := 0) rfl, by decide⟩
set_option maxRecDepth 100000 in
theorem bn_M_12 : bn_PM (1, 36, 0, 41, 191) := ⟨bn_Y_41, List.mem_of_getElem? (i := 191) rfl, List.mem_of_getElem? (i := 193) rfl, List.mem_of_getElem? (i := 1) rfl, by decide⟩
set_option maxRecDepth 100000 in
theorem bn_M_13 : bn_PM (1, 26, 0, 42, 195) := ⟨bn_Y_42, List.mem_of_getElem? (i := 195) rfl, List.mem_of_getElem? (i := 197) rfl, List.mem_of_getElem? (i := 2) rfl, by decide⟩
set_option maxRecDepth 100000 in
theorem bn_M_14 : bn_PM (1, 39, 0, 43, 199) := ⟨bn_Y_43, List.mem_of_getElem? (i := 199) rfl, List.mem_of_getElem? (i := 201) rfl, List.mem_of_getElem? (i := 3) rfl, by decide⟩
set_option maxRecDepth 100000 in
theorem bn_M_15 : bn_PM (1, 69, 0, 44, 203) := ⟨bn_Y_44, List.mem_of_getElem? (i := 203) rfl, List.mem_of_getElem? (i := 205) rfl, List.mem_of_getElem? (i := 4) rfl, by decide⟩
set_option maxRecDepth 100000 in
theorem bn_M_16 : bn_PM (1, 43, 0, 1, 207) := ⟨bn_Y_1, List.mem_of_getElem? (i := 207) rfl, List.mem_of_getElem? (i := 208) rfl, List.mem_of_getElem? (i := 209) rfl, by decide⟩
set_option maxRecDepth 100000 in
theorem bn_M_17 : bn_PM (1, 30, 0, 36, 211) := ⟨bn_Y_36, List.mem_of_getElem? (i := 211) rfl, List.mem_of_getElem? (i := 213) rfl, List.mem_of_getElem? (i := 5) rfl, by decide⟩
set_option maxRecDepth 100000 in
theorem bn_M_18 : bn_PM (1, 55, 0, 2, 215) := ⟨bn_Y_2, List.mem_of_getElem? (i := 215) rfl, List.mem_of_getElem? (i := 216) rfl, List.mem_of_getElem? (i := 217) rfl, by decide⟩
set_option maxRecDepth 100000 in
theorem bn_M_19 : bn_PM (1, 33, 0, 37, 219) := ⟨bn_Y_37, List.mem_of_getElem? (i := 219) rfl, List.mem_of_getElem? (i := 221) rfl, List.mem_of_getElem? (i := 6) rfl, by decide⟩
set_option maxRecDepth 100000 in
theorem bn_M_20 : bn_PM (1, 62, 0, 38, 223) := ⟨bn_Y_38, List.mem_of_getElem? (i := 223) rfl, List.mem_of_getElem? (i := 225) rfl, List.mem_of_getElem? (i := 7) rfl, by decide⟩
set_option maxRecDepth 100000 in
theorem bn_M_21 : bn_PM (1, 73, 1, 39, 227) := ⟨bn_Y_39, List.mem_of_getElem? (i := 227) rfl, List.mem_of_getElem? (i := 228) rfl⟩
set_option maxRecDepth 100000 in
theorem bn_M_22 : bn_PM (1, 77, 1, 40, 230) := ⟨bn_Y_40, List.mem_of_getElem? (i := 230) rfl, List.mem_of_getElem? (i := 231) rfl⟩
set_option maxRecDepth 100000 in
theorem bn_M_23 : bn_PM (1, 80, 0, 19, 233) := ⟨bn_Y_19, List.mem_of_getElem? (i := 233) rfl, List.mem_of_getElem? (i := 234) rfl, List.mem_of_getElem? (i := 235) rfl, by decide⟩
set_option maxRecDepth 100000 in
theorem bn_M_24 : bn_PM (1, 66, 0, 3, 237) := ⟨bn_Y_3, List.mem_of_getElem? (i := 237) rfl, List.mem_of_getElem? (i := 238) rfl, List.mem_of_getElem? (i := 239) rfl, by decide⟩
set_option maxRecDepth 100000 in
theorem bn_M_25 : bn_PM (4, 29, 0, 49, 241) := ⟨bn_Y_49, List.mem_of_getElem? (i := 241) rfl, List.mem_of_getElem? (i := 242) rfl, List.mem_of_getElem? (i := 243) rfl, by decide⟩
set_option maxRecDepth 100000 in
theorem bn_M_26 : bn_PM (2, 59, 0, 4, 245) := ⟨bn_Y_4, List.mem_of_getElem? (i := 245) rfl, List.mem_of_getElem? (i := 246) rfl, List.mem_of_getElem? (i := 247) rfl, by decide⟩
set_option maxRecDepth 100000 in
theorem bn_M_27 : bn_PM (0, 60, 5, 0, 249) := List.mem_of_getElem? (i := 249) rfl
set_option maxRecDepth 100000 in
theorem bn_M_28 : bn_PM (2, 63, 0, 70, 252) := ⟨bn_Y_70, List.mem_of_getElem? (i := 252) rfl, List.mem_of_getElem? (i := 254) rfl, List.mem_of_getElem? (i := 8) rfl, by decide⟩
set_option maxRecDepth 100000 in
theorem bn_M_29 : bn_PM (4, 33, 0, 50, 256) := ⟨bn_Y_50, List.mem_of_getElem? (i := 256) rfl, List.mem_of_getElem? (i := 257) rfl, List.mem_of_getElem? (i := 258) rfl, by decide⟩
set_option maxRecDepth 100000 in
theorem bn_M_30 : bn_PM (2, 72, 0, 5, 260) := ⟨bn_Y_5, List.mem_of_getElem? (i := 260) rfl, List.mem_of_getElem? (i := 261) rfl, List.mem_of_getElem? (i := 262) rfl, by decide⟩
set_option maxRecDepth 100000 in
theorem bn_M_31 : bn_PM (2, 80, 0, 7, 264) := ⟨bn_Y_7, List.mem_of_getElem? (i := 264) rfl, List.mem_of_getElem? (i := 265) rfl, List.mem_of_getElem? (i := 266) rfl, by decide⟩
set_option maxRecDepth 100000 in
theorem bn_M_32 : bn_PM (2, 86, 0, 13, 268) := ⟨bn_Y_13, List.mem_of_getElem? (i := 268) rfl, List.mem_of_getElem? (i := 269) rfl, List.mem_of_getElem? (i := 270) rfl, by decide⟩
set_option maxRecDepth 100000 in
theorem bn_M_33 : bn_PM (4, 38, 0, 51, 272) := ⟨bn_Y_51, List.mem_of_getElem? (i := 272) rfl, List.mem_of_getElem? (i := 273) rfl, List.mem_of_getElem? (i := 274) rfl, by decide⟩
set_option maxRecDepth 100000 in
theorem bn_M_34 : bn_PM (2, 93, 0, 6, 276) := ⟨bn_Y_6, List.mem_of_getElem? (i := 276) rfl, List.mem_of_getElem? (i := 277) rfl, List.mem_of_getElem? (i := 278) rfl, by decide⟩
set_option maxRecDepth 100000 in
theorem bn_M_35 : bn_PM (2, 105, 0, 8, 280) := ⟨bn_Y_8, List.mem_of_getElem? (i := 280) rfl, List.mem_of_getElem? (i := 281) rfl, List.mem_of_getElem? (i := 282) rfl, by decide⟩
set_option maxRecDepth 100000 in
theorem bn_M_36 : bn_PM (4, 42, 0, 52, 284) := ⟨bn_Y_52, List.mem_of_getElem? (i := 284) rfl, List.mem_of_getElem? (i := 285) rfl, List.mem_of_getElem? (i := 286) rfl, by decide⟩
set_option maxRecDepth 100000 in
theorem bn_M_37 : bn_PM (2, 114, 0, 22, 288) := ⟨bn_Y_22, List.mem_of_getElem? (i := 288) rfl, List.mem_of_getElem? (i := 289) rfl, List.mem_of_getElem? (i := 290) rfl, by decide⟩
set_option maxRecDepth 100000 in
theorem bn_M_38 : bn_PM (0, 66, 0, 7, 292) := ⟨bn_Y_7, List.mem_of_getElem? (i := 292) rfl, List.mem_of_getElem? (i := 265) rfl, List.mem_of_getElem? (i := 266) rfl, by decide⟩
set_option maxRecDepth 100000 in
theorem bn_M_39 : bn_PM (0, 87, 0, 8, 293) := ⟨bn_Y_8, List.mem_of_getElem? (i := 293) rfl, List.mem_of_getElem? (i := 281) rfl, List.mem_of_getElem? (i := 282) rfl, by decide⟩
set_option maxRecDepth 100000 in
theorem bn_M_40 : bn_PM (0, 102, 0, 23, 294) := ⟨bn_Y_23, List.mem_of_getElem? (i := 294) rfl, List.mem_of_getElem? (i := 296) rfl, List.mem_of_getElem? (i := 9) rfl, by decide⟩
set_option maxRecDepth 100000 in
theorem bn_M_41 : bn_PM (0, 80, 0, 9, 298) := ⟨bn_Y_9, List.mem_of_getElem? (i := 298) rfl, List.mem_of_getElem? (i := 299) rfl, List.mem_of_getElem? (i := 300) rfl, by decide⟩
set_option maxRecDepth 100000 in
theorem bn_M_42 : bn_PM (4, 46, 0, 53, 302) := ⟨bn_Y_53, List.mem_of_getElem? (i := 302) rfl, List.mem_of_getElem? (i := 303) rfl, List.mem_of_getElem? (i := 304) rfl, by decide⟩
set_option maxRecDepth 100000 in
theorem bn_M_43 : bn_PM (2, 118, 0, 69, 306) := ⟨bn_Y_69, List.mem_of_getElem? (i := 306) rfl, List.mem_of_getElem? (i := 308) rfl, List.mem_of_getElem? (i := 10) rfl, by decide⟩
set_option maxRecDepth 100000 in
theorem bn_M_44 : bn_PM (2, 121, 0, 24, 310) := ⟨bn_Y_24, List.mem_of_getElem? (i := 310) rfl, List.mem_of_getElem? (i := 311) rfl, List.mem_of_getElem? (i := 312) rfl, by decide⟩
set_option maxRecDepth 100000 in
theorem bn_M_45 : bn_PM (4, 50, 0, 54, 314) := ⟨bn_Y_54, List.mem_of_getElem? (i := 314) rfl, List.mem_of_getElem? (i := 315) rfl, List.mem_of_getElem? (i := 316) rfl, by decide⟩
set_option maxRecDepth 100000 in
theorem bn_M_46 : bn_PM (4, 54, 0, 55, 318) := ⟨bn_Y_55, List.mem_of_getElem? (i := 318) rfl, List.mem_of_getElem? (i := 319) rfl, List.mem_of_getElem? (i := 320) rfl, by decide⟩
set_option maxRecDepth 100000 in
theorem bn_M_47 : bn_PM (2, 125, 1, 72, 322) := ⟨bn_Y_72, List.mem_of_getElem? (i := 322) rfl, List.mem_of_getElem? (i := 323) rfl⟩
set_option maxRecDepth 100000 in
theorem bn_M_48 : bn_PM (2, 128, 1, 73, 325) := ⟨bn_Y_73, List.mem_of_getElem? (i := 325) rfl, List.mem_of_getElem? (i := 326) rfl⟩
set_option maxRecDepth 100000 in
theorem bn_M_49 : bn_PM (4, 59, 0, 56, 328) := ⟨bn_Y_56, List.mem_of_getElem? (i := 328) rfl, List.mem_of_getElem? (i := 329) rfl, List.mem_of_getElem? (i := 330) rfl, by decide⟩
set_option maxRecDepth 100000 in
theorem bn_M_50 : bn_PM (2, 131, 0, 25, 332) := ⟨bn_Y_25, List.mem_of_getElem? (i := 332) rfl, List.mem_of_getElem? (i := 333) rfl, List.mem_of_getElem? (i := 334) rfl, by decide⟩
set_option maxRecDepth 100000 in
theorem bn_M_51 : bn_PM (0, 105, 0, 26, 336) := ⟨bn_Y_26, List.mem_of_getElem? (i := 336) rfl, List.mem_of_getElem? (i := 338) rfl, List.mem_of_getElem? (i := 11) rfl, by decide⟩
set_option maxRecDepth 100000 in
theorem bn_M_52 : bn_PM (0, 109, 7, 0, 340) := List.mem_of_getElem? (i := 340) rfl
set_option maxRecDepth 100000 in
theorem bn_M_53 : bn_PM (4, 63, 0, 57, 343) := ⟨bn_Y_57, List.mem_of_getElem? (i := 343) rfl, List.mem_of_getElem? (i := 344) rfl, List.mem_of_getElem? (i := 345) rfl, by decide⟩
set_option maxRecDepth 100000 in
theorem bn_M_54 : bn_PM (2, 135, 0, 11, 347) := ⟨bn_Y_11, List.mem_of_getElem? (i := 347) rfl, List.mem_of_getElem? (i := 348) rfl, List.mem_of_getElem? (i := 349) rfl, by decide⟩
set_option maxRecDepth 100000 in
theorem bn_M_55 : bn_PM (0, 70, 0, 10, 351) := ⟨bn_Y_10, List.mem_of_getElem? (i := 351) rfl, List.mem_of_getElem? (i := 352) rfl, List.mem_of_getElem? (i := 353) rfl, by decide⟩
set_option maxRecDepth 100000 in
theorem bn_M_56 : bn_PM (0, 74, 1, 129, 355) := ⟨bn_Y_129, List.mem_of_getElem? (i := 355) rfl, List.mem_of_getElem? (i := 356) rfl⟩
set_option maxRecDepth 100000 in
theorem bn_M_57 : bn_PM (2, 142, 0, 12, 363) := ⟨bn_Y_12, List.mem_of_getElem? (i := 363) rfl, List.mem_of_getElem? (i := 364) rfl, List.mem_of_getElem? (i := 365) rfl, by decide⟩
set_option maxRecDepth 100000 in
theorem bn_M_58 : bn_PM (2, 145, 0, 15, 367) := ⟨bn_Y_15, List.mem_of_getElem? (i := 367) rfl, List.mem_of_getElem? (i := 368) rfl, List.mem_of_getElem? (i := 369) rfl, by decide⟩
set_option maxRecDepth 100000 in
theorem bn_M_59 : bn_PM (0, 83, 0, 14, 371) := ⟨bn_Y_14, List.mem_of_getElem? (i := 371) rfl, List.mem_of_getElem? (i := 372) rfl, List.mem_of_getElem? (i := 373) rfl, by decide⟩
set_option maxRecDepth 100000 in
theorem bn_M_60 : bn_PM (2, 148, 0, 16, 375) := ⟨bn_Y_16, List.mem_of_getElem? (i := 375) rfl, List.mem_of_getElem? (i := 376) rfl, List.mem_of_getElem? (i := 377) rfl, by decide⟩
set_option maxRecDepth 100000 in
theorem bn_M_61 : bn_PM (4, 67, 0, 58, 379) := ⟨bn_Y_58, List.mem_of_getElem? (i := 379) rfl, List.mem_of_getElem? (i := 380) rfl, List.mem_of_getElem? (i := 381) rfl, by decide⟩
set_option maxRecDepth 100000 in
theorem bn_M_62 : bn_PM (4, 71, 0, 59, 383) := ⟨bn_Y_59, List.mem_of_getElem? (i := 383) rfl, List.mem_of_getElem? (i := 384) rfl, List.mem_of_getElem? (i := 385) rfl, by decide⟩
set_option maxRecDepth 100000 in
theorem bn_M_63 : bn_PM (4, 76, 0, 60, 387) := ⟨bn_Y_60, List.mem_of_getElem? (i := 387) rfl, List.mem_of_getElem? (i := 388) rfl, List.mem_of_getElem? (i := 389) rfl, by decide⟩
set_option maxRecDepth 100000 in
theorem bn_M_64 : bn_PM (2, 152, 0, 71, 391) := ⟨bn_Y_71, List.mem_of_getElem? (i := 391) rfl, List.mem_of_getElem? (i := 393) rfl, List.mem_of_getElem? (i := 12) rfl, by decide⟩
set_option maxRecDepth 100000 in
theorem bn_M_65 : bn_PM (2, 192, 0, 27, 395) := ⟨bn_Y_27, List.mem_of_getElem? (i := 395) rfl, List.mem_of_getElem? (i := 396) rfl, List.mem_of_getElem? (i := 397) rfl, by decide⟩
set_option maxRecDepth 100000 in
theorem bn_M_66 : bn_PM (0, 112, 0, 28, 399) := ⟨bn_Y_28, List.mem_of_getElem? (i := 399) rfl, List.mem_of_getElem? (i := 401) rfl, List.mem_of_getElem? (i := 13) rfl, by decide⟩
set_option maxRecDepth 100000 in
theorem bn_M_67 : bn_PM (0, 119, 0, 22, 403) := ⟨bn_Y_22, List.mem_of_getElem? (i := 403) rfl, List.mem_of_getElem? (i := 289) rfl, List.mem_of_getElem? (i := 290) rfl, by decide⟩
set_option maxRecDepth 100000 in
theorem bn_M_68 : bn_PM (0, 115, 0, 24, 404) := ⟨bn_Y_24, List.mem_of_getElem? (i := 404) rfl, List.mem_of_getElem? (i := 311) rfl, List.mem_of_getElem? (i := 312) rfl, by decide⟩
set_option maxRecDepth 100000 in
theorem bn_M_69 : bn_PM (4, 80, 0, 61, 405) := ⟨bn_Y_61, List.mem_of_getElem? (i := 405) rfl, List.mem_of_getElem? (i := 406) rfl, List.mem_of_getElem? (i := 407) rfl, by decide⟩
set_option maxRecDepth 100000 in
theorem bn_M_70 : bn_PM (4, 84, 0, 62, 409) := ⟨bn_Y_62, List.mem_of_getElem? (i := 409) rfl, List.mem_of_getElem? (i := 410) rfl, List.mem_of_getElem? (i := 411) rfl, by decide⟩
set_option maxRecDepth 100000 in
theorem bn_M_71 : bn_PM (2, 155, 0, 29, 413) := ⟨bn_Y_29, List.mem_of_getElem? (i := 413) rfl, List.mem_of_getElem? (i := 414) rfl, List.mem_of_getElem? (i := 415) rfl, by decide⟩
set_option maxRecDepth 100000 in
theorem bn_M_72 : bn_PM (0, 90, 6, 0, 417) := List.mem_of_getElem? (i := 417) rfl
set_option maxRecDepth 100000 in
theorem bn_M_73 : bn_PM (0, 122, 0, 30, 420) := ⟨bn_Y_30, List.mem_of_getElem? (i := 420) rfl, List.mem_of_getElem? (i := 422) rfl, List.mem_of_getElem? (i := 14) rfl, by decide⟩
set_option maxRecDepth 100000 in
theorem bn_M_74 : bn_PM (0, 125, 0, 31, 424) := ⟨bn_Y_31, List.mem_of_getElem? (i := 424) rfl, List.mem_of_getElem? (i := 426) rfl, List.mem_of_getElem? (i := 15) rfl, by decide⟩
set_option maxRecDepth 100000 in
theorem bn_M_75 : bn_PM (4, 88, 0, 63, 428) := ⟨bn_Y_63, List.mem_of_getElem? (i := 428) rfl, List.mem_of_getElem? (i := 429) rfl, List.mem_of_getElem? (i := 430) rfl, by decide⟩
set_option maxRecDepth 100000 in
theorem bn_M_76 : bn_PM (2, 158, 0, 20, 432) := ⟨bn_Y_20, List.mem_of_getElem? (i := 432) rfl, List.mem_of_getElem? (i := 433) rfl, List.mem_of_getElem? (i := 434) rfl, by decide⟩
set_option maxRecDepth 100000 in
theorem bn_M_77 : bn_PM (2, 161, 0, 19, 436) := ⟨bn_Y_19, List.mem_of_getElem? (i := 436) rfl, List.mem_of_getElem? (i := 234) rfl, List.mem_of_getElem? (i := 235) rfl, by decide⟩
set_option maxRecDepth 100000 in
theorem bn_M_78 : bn_PM (4, 92, 0, 64, 437) := ⟨bn_Y_64, List.mem_of_getElem? (i := 437) rfl, List.mem_of_getElem? (i := 438) rfl, List.mem_of_getElem? (i := 439) rfl, by decide⟩
set_option maxRecDepth 100000 in
theorem bn_M_79 : bn_PM (2, 164, 1, 74, 441) := ⟨bn_Y_74, List.mem_of_getElem? (i := 441) rfl, List.mem_of_getElem? (i := 442) rfl⟩
set_option maxRecDepth 100000 in
theorem bn_M_80 : bn_PM (2, 195, 1, 75, 444) := ⟨bn_Y_75, List.mem_of_getElem? (i := 444) rfl, List.mem_of_getElem? (i := 445) rfl⟩
set_option maxRecDepth 100000 in
theorem bn_M_81 : bn_PM (4, 97, 0, 65, 448) := ⟨bn_Y_65, List.mem_of_getElem? (i := 448) rfl, List.mem_of_getElem? (i := 449) rfl, List.mem_of_getElem? (i := 450) rfl, by decide⟩
set_option maxRecDepth 100000 in
theorem bn_M_82 : bn_PM (4, 102, 0, 66, 455) := ⟨bn_Y_66, List.mem_of_getElem? (i := 455) rfl, List.mem_of_getElem? (i := 456) rfl, List.mem_of_getElem? (i := 457) rfl, by decide⟩
set_option maxRecDepth 100000 in
theorem bn_M_83 : bn_PM (4, 106, 0, 67, 459) := ⟨bn_Y_67, List.mem_of_getElem? (i := 459) rfl, List.mem_of_getElem? (i := 460) rfl, List.mem_of_getElem? (i := 461) rfl, by decide⟩
set_option maxRecDepth 100000 in
theorem bn_M_84 : bn_PM (4, 110, 0, 68, 463) := ⟨bn_Y_68, List.mem_of_getElem? (i := 463) rfl, List.mem_of_getElem? (i := 464) rfl, List.mem_of_getElem? (i := 465) rfl, by decide⟩
set_option maxRecDepth 100000 in
theorem bn_M_85 : bn_PM (2, 177, 0, 10, 467) := ⟨bn_Y_10, List.mem_of_getElem? (i := 467) rfl, List.mem_of_getElem? (i := 352) rfl, List.mem_of_getElem? (i := 353) rfl, by decide⟩
set_option maxRecDepth 100000 in
theorem bn_M_86 : bn_PM (2, 180, 0, 17, 468) := ⟨bn_Y_17, List.mem_of_getElem? (i := 468) rfl, List.mem_of_getElem? (i := 469) rfl, List.mem_of_getElem? (i := 470) rfl, by decide⟩
set_option maxRecDepth 100000 in
theorem bn_M_87 : bn_PM (2, 183, 0, 18, 472) := ⟨bn_Y_18, List.mem_of_getElem? (i := 472) rfl, List.mem_of_getElem? (i := 473) rfl, List.mem_of_getElem? (i := 474) rfl, by decide⟩
set_option maxRecDepth 100000 in
theorem bn_M_88 : bn_PM (2, 186, 0, 21, 476) := ⟨bn_Y_21, List.mem_of_getElem? (i := 476) rfl, List.mem_of_getElem? (i := 477) rfl, List.mem_of_getElem? (i := 478) rfl, by decide⟩
set_option maxRecDepth 100000 in
theorem bn_M_89 : bn_PM (0, 96, 0, 20, 480) := ⟨bn_Y_20, List.mem_of_getElem? (i := 480) rfl, List.mem_of_getElem? (i := 433) rfl, List.mem_of_getElem? (i := 434) rfl, by decide⟩
set_option maxRecDepth 100000 in
theorem bn_M_90 : bn_PM (0, 99, 0, 19, 481) := ⟨bn_Y_19, List.mem_of_getElem? (i := 481) rfl, List.mem_of_getElem? (i := 234) rfl, List.mem_of_getElem? (i := 235) rfl, by decide⟩
set_option maxRecDepth 100000 in
theorem bn_M_91 : bn_PM (4, 12, 2, 76, 484) := ⟨bn_Y_76, List.mem_of_getElem? (i := 484) rfl, List.mem_of_getElem? (i := 485) rfl, rfl, rfl⟩
set_option maxRecDepth 100000 in
theorem bn_M_92 : bn_PM (3, 1, 4, 0, 487) := List.mem_of_getElem? (i := 487) rfl
set_option maxRecDepth 100000 in
theorem bn_M_93 : bn_PM (4, 19, 0, 78, 577) := ⟨bn_Y_78, List.mem_of_getElem? (i := 577) rfl, List.mem_of_getElem? (i := 578) rfl, List.mem_of_getElem? (i := 579) rfl, by decide⟩
set_option maxRecDepth 100000 in
theorem bn_M_94 : bn_PM (3, 57, 1, 77, 582) := ⟨bn_Y_77, List.mem_of_getElem? (i := 582) rfl, List.mem_of_getElem? (i := 583) rfl⟩
set_option maxRecDepth 100000 in
theorem bn_M_95 : bn_PM (4, 24, 0, 79, 586) := ⟨bn_Y_79, List.mem_of_getElem? (i := 586) rfl, List.mem_of_getElem? (i := 587) rfl, List.mem_of_getElem? (i := 588) rfl, by decide⟩
set_option maxRecDepth 100000 in
theorem bn_M_96 : bn_PM (4, 28, 0, 84, 590) := ⟨bn_Y_84, List.mem_of_getElem? (i := 590) rfl, List.mem_of_getElem? (i := 591) rfl, List.mem_of_getElem? (i := 592) rfl, by decide⟩
set_option maxRecDepth 100000 in
theorem bn_M_97 : bn_PM (3, 99, 0, 82, 594) := ⟨bn_Y_82, List.mem_of_getElem? (i := 594) rfl, List.mem_of_getElem? (i := 596) rfl, List.mem_of_getElem? (i := 16) rfl, by decide⟩
set_option maxRecDepth 100000 in
theorem bn_M_98 : bn_PM (3, 80, 0, 80, 598) := ⟨bn_Y_80, List.mem_of_getElem? (i := 598) rfl, List.mem_of_getElem? (i := 600) rfl, List.mem_of_getElem? (i := 17) rfl, by decide⟩
set_option maxRecDepth 100000 in
theorem bn_M_99 : bn_PM (3, 93, 0, 83, 603) := ⟨bn_Y_83, List.mem_of_getElem? (i := 603) rfl, List.mem_of_getElem? (i := 605) rfl, List.mem_of_getElem? (i := 18) rfl, by decide⟩
set_option maxRecDepth 100000 in
theorem bn_M_100 : bn_PM (3, 96, 0, 81, 607) := ⟨bn_Y_81, List.mem_of_getElem? (i := 607) rfl, List.mem_of_getElem? (i := 609) rfl, List.mem_of_getElem? (i := 19) rfl, by decide⟩
set_option maxRecDepth 100000 in
theorem bn_M_101 : bn_PM (4, 32, 0, 85, 611) := ⟨bn_Y_85, List.mem_of_getElem? (i := 611) rfl, List.mem_of_getElem? (i := 612) rfl, List.mem_of_getElem? (i := 613) rfl, by decide⟩
set_option maxRecDepth 100000 in
theorem bn_M_102 : bn_PM (4, 37, 0, 92, 615) := ⟨bn_Y_92, List.mem_of_getElem? (i := 615) rfl, List.mem_of_getElem? (i := 616) rfl, List.mem_of_getElem? (i := 617) rfl, by decide⟩
set_option maxRecDepth 100000 in
theorem bn_M_103 : bn_PM (3, 118, 0, 86, 619) := ⟨bn_Y_86, List.mem_of_getElem? (i := 619) rfl, List.mem_of_getElem? (i := 621) rfl, List.mem_of_getElem? (i := 20) rfl, by decide⟩
set_option maxRecDepth 100000 in
theorem bn_M_104 : bn_PM (3, 122, 0, 91, 623) := ⟨bn_Y_91, List.mem_of_getElem? (i := 623) rfl, List.mem_of_getElem? (i := 625) rfl, List.mem_of_getElem? (i := 21) rfl, by decide⟩
set_option maxRecDepth 100000 in
theorem bn_M_105 : bn_PM (3, 115, 0, 89, 627) := ⟨bn_Y_89, List.mem_of_getElem? (i := 627) rfl, List.mem_of_getElem? (i := 629) rfl, List.mem_of_getElem? (i := 22) rfl, by decide⟩
set_option maxRecDepth 100000 in
theorem bn_M_106 : bn_PM (4, 41, 0, 93, 631) := ⟨bn_Y_93, List.mem_of_getElem? (i := 631) rfl, List.mem_of_getElem? (i := 632) rfl, List.mem_of_getElem? (i := 633) rfl, by decide⟩
set_option maxRecDepth 100000 in
theorem bn_M_107 : bn_PM (3, 125, 0, 87, 635) := ⟨bn_Y_87, List.mem_of_getElem? (i := 635) rfl, List.mem_of_getElem? (i := 637) rfl, List.mem_of_getElem? (i := 23) rfl, by decide⟩
set_option maxRecDepth 100000 in
theorem bn_M_108 : bn_PM (3, 128, 0, 90, 639) := ⟨bn_Y_90, List.mem_of_getElem? (i := 639) rfl, List.mem_of_getElem? (i := 641) rfl, List.mem_of_getElem? (i := 24) rfl, by decide⟩
set_option maxRecDepth 100000 in
theorem bn_M_109 : bn_PM (4, 45, 0, 96, 643) := ⟨bn_Y_96, List.mem_of_getElem? (i := 643) rfl, List.mem_of_getElem? (i := 644) rfl, List.mem_of_getElem? (i := 645) rfl, by decide⟩
set_option maxRecDepth 100000 in
theorem bn_M_110 : bn_PM (3, 141, 0, 95, 647) := ⟨bn_Y_95, List.mem_of_getElem? (i := 647) rfl, List.mem_of_getElem? (i := 649) rfl, List.mem_of_getElem? (i := 25) rfl, by decide⟩
set_option maxRecDepth 100000 in
theorem bn_M_111 : bn_PM (3, 138, 0, 88, 651) := ⟨bn_Y_88, List.mem_of_getElem? (i := 651) rfl, List.mem_of_getElem? (i := 653) rfl, List.mem_of_getElem? (i := 26) rfl, by decide⟩
set_option maxRecDepth 100000 in
theorem bn_M_112 : bn_PM (4, 49, 0, 98, 655) := ⟨bn_Y_98, List.mem_of_getElem? (i := 655) rfl, List.mem_of_getElem? (i := 656) rfl, List.mem_of_getElem? (i := 657) rfl, by decide⟩
set_option maxRecDepth 100000 in
theorem bn_M_113 : bn_PM (3, 145, 0, 94, 659) := ⟨bn_Y_94, List.mem_of_getElem? (i := 659) rfl, List.mem_of_getElem? (i := 661) rfl, List.mem_of_getElem? (i := 27) rfl, by decide⟩
set_option maxRecDepth 100000 in
theorem bn_M_114 : bn_PM (3, 148, 0, 97, 663) := ⟨bn_Y_97, List.mem_of_getElem? (i := 663) rfl, List.mem_of_getElem? (i := 665) rfl, List.mem_of_getElem? (i := 28) rfl, by decide⟩
set_option maxRecDepth 100000 in
theorem bn_M_115 : bn_PM (4, 53, 0, 99, 667) := ⟨bn_Y_99, List.mem_of_getElem? (i := 667) rfl, List.mem_of_getElem? (i := 668) rfl, List.mem_of_getElem? (i := 669) rfl, by decide⟩
set_option maxRecDepth 100000 in
theorem bn_M_116 : bn_PM (4, 58, 0, 101, 671) := ⟨bn_Y_101, List.mem_of_getElem? (i := 671) rfl, List.mem_of_getElem? (i := 672) rfl, List.mem_of_getElem? (i := 673) rfl, by decide⟩
set_option maxRecDepth 100000 in
theorem bn_M_117 : bn_PM (3, 152, 1, 100, 675) := ⟨bn_Y_100, List.mem_of_getElem? (i := 675) rfl, List.mem_of_getElem? (i := 676) rfl⟩
set_option maxRecDepth 100000 in
theorem bn_M_118 : bn_PM (4, 62, 0, 103, 678) := ⟨bn_Y_103, List.mem_of_getElem? (i := 678) rfl, List.mem_of_getElem? (i := 679) rfl, List.mem_of_getElem? (i := 680) rfl, by decide⟩
set_option maxRecDepth 100000 in
theorem bn_M_119 : bn_PM (3, 155, 0, 102, 682) := ⟨bn_Y_102, List.mem_of_getElem? (i := 682) rfl, List.mem_of_getElem? (i := 684) rfl, List.mem_of_getElem? (i := 29) rfl, by decide⟩
set_option maxRecDepth 100000 in
theorem bn_M_120 : bn_PM (4, 66, 0, 107, 686) := ⟨bn_Y_107, List.mem_of_getElem? (i := 686) rfl, List.mem_of_getElem? (i := 687) rfl, List.mem_of_getElem? (i := 688) rfl, by decide⟩
set_option maxRecDepth 100000 in
theorem bn_M_121 : bn_PM (3, 158, 0, 104, 690) := ⟨bn_Y_104, List.mem_of_getElem? (i := 690) rfl, List.mem_of_getElem? (i := 692) rfl, List.mem_of_getElem? (i := 30) rfl, by decide⟩
set_option maxRecDepth 100000 in
theorem bn_M_122 : bn_PM (3, 165, 1, 105, 696) := ⟨bn_Y_105, List.mem_of_getElem? (i := 696) rfl, List.mem_of_getElem? (i := 697) rfl⟩
set_option maxRecDepth 100000 in
theorem bn_M_123 : bn_PM (3, 168, 1, 106, 699) := ⟨bn_Y_106, List.mem_of_getElem? (i := 699) rfl, List.mem_of_getElem? (i := 700) rfl⟩
set_option maxRecDepth 100000 in
theorem bn_M_124 : bn_PM (4, 70, 0, 108, 702) := ⟨bn_Y_108, List.mem_of_getElem? (i := 702) rfl, List.mem_of_getElem? (i := 703) rfl, List.mem_of_getElem? (i := 704) rfl, by decide⟩
set_option maxRecDepth 100000 in
theorem bn_M_125 : bn_PM (4, 75, 0, 109, 706) := ⟨bn_Y_109, List.mem_of_getElem? (i := 706) rfl, List.mem_of_getElem? (i := 707) rfl, List.mem_of_getElem? (i := 708) rfl, by decide⟩
set_option maxRecDepth 100000 in
theorem bn_M_126 : bn_PM (4, 79, 0, 112, 710) := ⟨bn_Y_112, List.mem_of_getElem? (i := 710) rfl, List.mem_of_getElem? (i := 711) rfl, List.mem_of_getElem? (i := 712) rfl, by decide⟩
set_option maxRecDepth 100000 in
theorem bn_M_127 : bn_PM (3, 178, 0, 111, 714) := ⟨bn_Y_111, List.mem_of_getElem? (i := 714) rfl, List.mem_of_getElem? (i := 716) rfl, List.mem_of_getElem? (i := 31) rfl, by decide⟩
set_option maxRecDepth 100000 in
theorem bn_M_128 : bn_PM (3, 175, 0, 110, 718) := ⟨bn_Y_110, List.mem_of_getElem? (i := 718) rfl, List.mem_of_getElem? (i := 720) rfl, List.mem_of_getElem? (i := 32) rfl, by decide⟩
set_option maxRecDepth 100000 in
theorem bn_M_129 : bn_PM (4, 83, 0, 113, 722) := ⟨bn_Y_113, List.mem_of_getElem? (i := 722) rfl, List.mem_of_getElem? (i := 723) rfl, List.mem_of_getElem? (i := 724) rfl, by decide⟩
set_option maxRecDepth 100000 in
theorem bn_M_130 : bn_PM (4, 87, 0, 117, 726) := ⟨bn_Y_117, List.mem_of_getElem? (i := 726) rfl, List.mem_of_getElem? (i := 727) rfl, List.mem_of_getElem? (i := 728) rfl, by decide⟩
set_option maxRecDepth 100000 in
theorem bn_M_131 : bn_PM (3, 184, 0, 114, 730) := ⟨bn_Y_114, List.mem_of_getElem? (i := 730) rfl, List.mem_of_getElem? (i := 732) rfl, List.mem_of_getElem? (i := 33) rfl, by decide⟩
set_option maxRecDepth 100000 in
theorem bn_M_132 : bn_PM (3, 181, 1, 115, 734) := ⟨bn_Y_115, List.mem_of_getElem? (i := 734) rfl, List.mem_of_getElem? (i := 735) rfl⟩
set_option maxRecDepth 100000 in
theorem bn_M_133 : bn_PM (3, 187, 0, 118, 737) := ⟨bn_Y_118, List.mem_of_getElem? (i := 737) rfl, List.mem_of_getElem? (i := 739) rfl, List.mem_of_getElem? (i := 34) rfl, by decide⟩
set_option maxRecDepth 100000 in
theorem bn_M_134 : bn_PM (3, 191, 0, 116, 741) := ⟨bn_Y_116, List.mem_of_getElem? (i := 741) rfl, List.mem_of_getElem? (i := 743) rfl, List.mem_of_getElem? (i := 35) rfl, by decide⟩
set_option maxRecDepth 100000 in
theorem bn_M_135 : bn_PM (4, 91, 0, 121, 745) := ⟨bn_Y_121, List.mem_of_getElem? (i := 745) rfl, List.mem_of_getElem? (i := 746) rfl, List.mem_of_getElem? (i := 747) rfl, by decide⟩
set_option maxRecDepth 100000 in
theorem bn_M_136 : bn_PM (3, 195, 0, 119, 749) := ⟨bn_Y_119, List.mem_of_getElem? (i := 749) rfl, List.mem_of_getElem? (i := 751) rfl, List.mem_of_getElem? (i := 36) rfl, by decide⟩
set_option maxRecDepth 100000 in
theorem bn_M_137 : bn_PM (3, 198, 0, 120, 753) := ⟨bn_Y_120, List.mem_of_getElem? (i := 753) rfl, List.mem_of_getElem? (i := 755) rfl, List.mem_of_getElem? (i := 37) rfl, by decide⟩
set_option maxRecDepth 100000 in
theorem bn_M_138 : bn_PM (4, 96, 0, 123, 757) := ⟨bn_Y_123, List.mem_of_getElem? (i := 757) rfl, List.mem_of_getElem? (i := 758) rfl, List.mem_of_getElem? (i := 759) rfl, by decide⟩
set_option maxRecDepth 100000 in
theorem bn_M_139 : bn_PM (3, 205, 1, 122, 763) := ⟨bn_Y_122, List.mem_of_getElem? (i := 763) rfl, List.mem_of_getElem? (i := 764) rfl⟩
set_option maxRecDepth 100000 in
theorem bn_M_140 : bn_PM (4, 101, 0, 125, 766) := ⟨bn_Y_125, List.mem_of_getElem? (i := 766) rfl, List.mem_of_getElem? (i := 767) rfl, List.mem_of_getElem? (i := 768) rfl, by decide⟩
set_option maxRecDepth 100000 in
theorem bn_M_141 : bn_PM (3, 212, 1, 124, 772) := ⟨bn_Y_124, List.mem_of_getElem? (i := 772) rfl, List.mem_of_getElem? (i := 773) rfl⟩
set_option maxRecDepth 100000 in
theorem bn_M_142 : bn_PM (4, 105, 0, 126, 775) := ⟨bn_Y_126, List.mem_of_getElem? (i := 775) rfl, List.mem_of_getElem? (i := 776) rfl, List.mem_of_getElem? (i := 777) rfl, by decide⟩
set_option maxRecDepth 100000 in
theorem bn_M_143 : bn_PM (4, 109, 0, 127, 779) := ⟨bn_Y_127, List.mem_of_getElem? (i := 779) rfl, List.mem_of_getElem? (i := 780) rfl, List.mem_of_getElem? (i := 781) rfl, by decide⟩
set_option maxRecDepth 100000 in
theorem bn_M_144 : bn_PM (4, 113, 0, 128, 783) := ⟨bn_Y_128, List.mem_of_getElem? (i := 783) rfl, List.mem_of_getElem? (i := 784) rfl, List.mem_of_getElem? (i := 785) rfl, by decide⟩
def bn_ML_0 : List (Nat × Nat × Nat × Nat × Nat) := [(4, 9, 2, 45, 48), (2, 3, 4, 0, 51), (2, 11, 3, 32, 56), (1, 3, 4, 0, 59), (2, 18, 3, 0, 74), (0, 3, 4, 0, 77), (4, 15, 0, 46, 167), (2, 47, 0, 33, 171), (4, 20, 0, 47, 175), (4, 25, 0, 48, 179), (2, 51, 0, 34, 183), (1, 22, 0, 35, 187), (1, 36, 0, 41, 191), (1, 26, 0, 42, 195), (1, 39, 0, 43, 199)]
theorem bn_MC_0 : ∀ r ∈ bn_ML_0, bn_PM r := List.forall_mem_cons.mpr ⟨bn_M_0, List.forall_mem_cons.mpr ⟨bn_M_1, List.forall_mem_cons.mpr ⟨bn_M_2, List.forall_mem_cons.mpr ⟨bn_M_3, List.forall_mem_cons.mpr ⟨bn_M_4, List.forall_mem_cons.mpr ⟨bn_M_5, List.forall_mem_cons.mpr ⟨bn_M_6, List.forall_mem_cons.mpr ⟨bn_M_7, List.forall_mem_cons.mpr ⟨bn_M_8, List.forall_mem_cons.mpr ⟨bn_M_9, List.forall_mem_cons.mpr ⟨bn_M_10, List.forall_mem_cons.mpr ⟨bn_M_11, List.forall_mem_cons.mpr ⟨bn_M_12, List.forall_mem_cons.mpr ⟨bn_M_13, List.forall_mem_cons.mpr ⟨bn_M_14, fun _ h => absurd h List.not_mem_nil⟩⟩⟩⟩⟩⟩⟩⟩⟩⟩⟩⟩⟩⟩⟩
def bn_ML_1 : List (Nat × Nat × Nat × Nat × Nat) := [(1, 69, 0, 44, 203), (1, 43, 0, 1, 207), (1, 30, 0, 36, 211), (1, 55, 0, 2, 215), (1, 33, 0, 37, 219), (1, 62, 0, 38, 223), (1, 73, 1, 39, 227), (1, 77, 1, 40, 230), (1, 80, 0, 19, 233), (1, 66, 0, 3, 237), (4, 29, 0, 49, 241), (2, 59, 0, 4, 245), (0, 60, 5, 0, 249), (2, 63, 0, 70, 252), (4, 33, 0, 50, 256)]
theorem bn_MC_1 : ∀ r ∈ bn_ML_1, bn_PM r := List.forall_mem_cons.mpr ⟨bn_M_15, List.forall_mem_cons.mpr ⟨bn_M_16, List.forall_mem_cons.mpr ⟨bn_M_17, List.forall_mem_cons.mpr ⟨bn_M_18, List.forall_mem_cons.mpr ⟨bn_M_19, List.forall_mem_cons.mpr ⟨bn_M_20, List.forall_mem_cons.mpr ⟨bn_M_21, List.forall_mem_cons.mpr ⟨bn_M_22, List.forall_mem_cons.mpr ⟨bn_M_23, List.forall_mem_cons.mpr ⟨bn_M_24, List.forall_mem_cons.mpr ⟨bn_M_25, List.forall_mem_cons.mpr ⟨bn_M_26, List.forall_mem_cons.mpr ⟨bn_M_27, List.forall_mem_cons.mpr ⟨bn_M_28, List.forall_mem_cons.mpr ⟨bn_M_29, fun _ h => absurd h List.not_mem_nil⟩⟩⟩⟩⟩⟩⟩⟩⟩⟩⟩⟩⟩⟩⟩
def bn_ML_2 : List (Nat × Nat × Nat × Nat × Nat) := [(2, 72, 0, 5, 260), (2, 80, 0, 7, 264), (2, 86, 0, 13, 268), (4, 38, 0, 51, 272), (2, 93, 0, 6, 276), (2, 105, 0, 8, 280), (4, 42, 0, 52, 284), (2, 114, 0, 22, 288), (0, 66, 0, 7, 292), (0, 87, 0, 8, 293), (0, 102, 0, 23, 294), (0, 80, 0, 9, 298), (4, 46, 0, 53, 302), (2, 118, 0, 69, 306), (2, 121, 0, 24, 310)]
theorem bn_MC_2 : ∀ r ∈ bn_ML_2, bn_PM r := List.forall_mem_cons.mpr ⟨bn_M_30, List.forall_mem_cons.mpr ⟨bn_M_31, List.forall_mem_cons.mpr ⟨bn_M_32, List.forall_mem_cons.mpr ⟨bn_M_33, List.forall_mem_cons.mpr ⟨bn_M_34, List.forall_mem_cons.mpr ⟨bn_M_35, List.forall_mem_cons.mpr ⟨bn_M_36, List.forall_mem_cons.mpr ⟨bn_M_37, List.forall_mem_cons.mpr ⟨bn_M_38, List.forall_mem_cons.mpr ⟨bn_M_39, List.forall_mem_cons.mpr ⟨bn_M_40, List.forall_mem_cons.mpr ⟨bn_M_41, List.forall_mem_cons.mpr ⟨bn_M_42, List.forall_mem_cons.mpr ⟨bn_M_43, List.forall_mem_cons.mpr ⟨bn_M_44, fun _ h => absurd h List.not_mem_nil⟩⟩⟩⟩⟩⟩⟩⟩⟩⟩⟩⟩⟩⟩⟩
def bn_ML_3 : List (Nat × Nat × Nat × Nat × Nat) := [(4, 50, 0, 54, 314), (4, 54, 0, 55, 318), (2, 125, 1, 72, 322), (2, 128, 1, 73, 325), (4, 59, 0, 56, 328), (2, 131, 0, 25, 332), (0, 105, 0, 26, 336), (0, 109, 7, 0, 340), (4, 63, 0, 57, 343), (2, 135, 0, 11, 347), (0, 70, 0, 10, 351), (0, 74, 1, 129, 355), (2, 142, 0, 12, 363), (2, 145, 0, 15, 367), (0, 83, 0, 14, 371)]
theorem bn_MC_3 : ∀ r ∈ bn_ML_3, bn_PM r := List.forall_mem_cons.mpr ⟨bn_M_45, List.forall_mem_cons.mpr ⟨bn_M_46, List.forall_mem_cons.mpr ⟨bn_M_47, List.forall_mem_cons.mpr ⟨bn_M_48, List.forall_mem_cons.mpr ⟨bn_M_49, List.forall_mem_cons.mpr ⟨bn_M_50, List.forall_mem_cons.mpr ⟨bn_M_51, List.forall_mem_cons.mpr ⟨bn_M_52, List.forall_mem_cons.mpr ⟨bn_M_53, List.forall_mem_cons.mpr ⟨bn_M_54, List.forall_mem_cons.mpr ⟨bn_M_55, List.forall_mem_cons.mpr ⟨bn_M_56, List.forall_mem_cons.mpr ⟨bn_M_57, List.forall_mem_cons.mpr ⟨bn_M_58, List.forall_mem_cons.mpr ⟨bn_M_59, fun _ h => absurd h List.not_mem_nil⟩⟩⟩⟩⟩⟩⟩⟩⟩⟩⟩⟩⟩⟩⟩
def bn_ML_4 : List (Nat × Nat × Nat × Nat × Nat) := [(2, 148, 0, 16, 375), (4, 67, 0, 58, 379), (4, 71, 0, 59, 383), (4, 76, 0, 60, 387), (2, 152, 0, 71, 391), (2, 192, 0, 27, 395), (0, 112, 0, 28, 399), (0, 119, 0, 22, 403), (0, 115, 0, 24, 404), (4, 80, 0, 61, 405), (4, 84, 0, 62, 409), (2, 155, 0, 29, 413), (0, 90, 6, 0, 417), (0, 122, 0, 30, 420), (0, 125, 0, 31, 424)]
theorem bn_MC_4 : ∀ r ∈ bn_ML_4, bn_PM r := List.forall_mem_cons.mpr ⟨bn_M_60, List.forall_mem_cons.mpr ⟨bn_M_61, List.forall_mem_cons.mpr ⟨bn_M_62, List.forall_mem_cons.mpr ⟨bn_M_63, List.forall_mem_cons.mpr ⟨bn_M_64, List.forall_mem_cons.mpr ⟨bn_M_65, List.forall_mem_cons.mpr ⟨bn_M_66, List.forall_mem_cons.mpr ⟨bn_M_67, List.forall_mem_cons.mpr ⟨bn_M_68, List.forall_mem_cons.mpr ⟨bn_M_69, List.forall_mem_cons.mpr ⟨bn_M_70, List.forall_mem_cons.mpr ⟨bn_M_71, List.forall_mem_cons.mpr ⟨bn_M_72, List.forall_mem_cons.mpr ⟨bn_M_73, List.forall_mem_cons.mpr ⟨bn_M_74, fun _ h => absurd h List.not_mem_nil⟩⟩⟩⟩⟩⟩⟩⟩⟩⟩⟩⟩⟩⟩⟩
def bn_ML_5 : List (Nat × Nat × Nat × Nat × Nat) := [(4, 88, 0, 63, 428), (2, 158, 0, 20, 432), (2, 161, 0, 19, 436), (4, 92, 0, 64, 437), (2, 164, 1, 74, 441), (2, 195, 1, 75, 444), (4, 97, 0, 65, 448), (4, 102, 0, 66, 455), (4, 106, 0, 67, 459), (4, 110, 0, 68, 463), (2, 177, 0, 10, 467), (2, 180, 0, 17, 468), (2, 183, 0, 18, 472), (2, 186, 0, 21, 476), (0, 96, 0, 20, 480)]
theorem bn_MC_5 : ∀ r ∈ bn_ML_5, bn_PM r := List.forall_mem_cons.mpr ⟨bn_M_75, List.forall_mem_cons.mpr ⟨bn_M_76, List.forall_mem_cons.mpr ⟨bn_M_77, List.forall_mem_cons.mpr ⟨bn_M_78, List.forall_mem_cons.mpr ⟨bn_M_79, List.forall_mem_cons.mpr ⟨bn_M_80, List.forall_mem_cons.mpr ⟨bn_M_81, List.forall_mem_cons.mpr ⟨bn_M_82, List.forall_mem_cons.mpr ⟨bn_M_83, List.forall_mem_cons.mpr ⟨bn_M_84, List.forall_mem_cons.mpr ⟨bn_M_85, List.forall_mem_cons.mpr ⟨bn_M_86, List.forall_mem_cons.mpr ⟨bn_M_87, List.forall_mem_cons.mpr ⟨bn_M_88, List.forall_mem_cons.mpr ⟨bn_M_89, fun _ h => absurd h List.not_mem_nil⟩⟩⟩⟩⟩⟩⟩⟩⟩⟩⟩⟩⟩⟩⟩
def bn_ML_6 : List (Nat × Nat × Nat × Nat × Nat) := [(0, 99, 0, 19, 481), (4, 12, 2, 76, 484), (3, 1, 4, 0, 487), (4, 19, 0, 78, 577), (3, 57, 1, 77, 582), (4, 24, 0, 79, 586), (4, 28, 0, 84, 590), (3, 99, 0, 82, 594), (3, 80, 0, 80, 598), (3, 93, 0, 83, 603), (3, 96, 0, 81, 607), (4, 32, 0, 85, 611), (4, 37, 0, 92, 615), (3, 118, 0, 86, 619), (3, 122, 0, 91, 623)]
theorem bn_MC_6 : ∀ r ∈ bn_ML_6, bn_PM r := List.forall_mem_cons.mpr ⟨bn_M_90, List.forall_mem_cons.mpr ⟨bn_M_91, List.forall_mem_cons.mpr ⟨bn_M_92, List.forall_mem_cons.mpr ⟨bn_M_93, List.forall_mem_cons.mpr ⟨bn_M_94, List.forall_mem_cons.mpr ⟨bn_M_95, List.forall_mem_cons.mpr ⟨bn_M_96, List.forall_mem_cons.mpr ⟨bn_M_97, List.forall_mem_cons.mpr ⟨bn_M_98, List.forall_mem_cons.mpr ⟨bn_M_99, List.forall_mem_cons.mpr ⟨bn_M_100, List.forall_mem_cons.mpr ⟨bn_M_101, List.forall_mem_cons.mpr ⟨bn_M_102, List.forall_mem_cons.mpr ⟨bn_M_103, List.forall_mem_cons.mpr ⟨bn_M_104, fun _ h => absurd h List.not_mem_nil⟩⟩⟩⟩⟩⟩⟩⟩⟩⟩⟩⟩⟩⟩⟩
def bn_ML_7 : List (Nat × Nat × Nat × Nat × Nat) := [(3, 115, 0, 89, 627), (4, 41, 0, 93, 631), (3, 125, 0, 87, 635), (3, 128, 0, 90, 639), (4, 45, 0, 96, 643), (3, 141, 0, 95, 647), (3, 138, 0, 88, 651), (4, 49, 0, 98, 655), (3, 145, 0, 94, 659), (3, 148, 0, 97, 663), (4, 53, 0, 99, 667), (4, 58, 0, 101, 671), (3, 152, 1, 100, 675), (4, 62, 0, 103, 678), (3, 155, 0, 102, 682)]
theorem bn_MC_7 : ∀ r ∈ bn_ML_7, bn_PM r := List.forall_mem_cons.mpr ⟨bn_M_105, List.forall_mem_cons.mpr ⟨bn_M_106, List.forall_mem_cons.mpr ⟨bn_M_107, List.forall_mem_cons.mpr ⟨bn_M_108, List.forall_mem_cons.mpr ⟨bn_M_109, List.forall_mem_cons.mpr ⟨bn_M_110, List.forall_mem_cons.mpr ⟨bn_M_111, List.forall_mem_cons.mpr ⟨bn_M_112, List.forall_mem_cons.mpr ⟨bn_M_113, List.forall_mem_cons.mpr ⟨bn_M_114, List.forall_mem_cons.mpr ⟨bn_M_115, List.forall_mem_cons.mpr ⟨bn_M_116, List.forall_mem_cons.mpr ⟨bn_M_117, List.forall_mem_cons.mpr ⟨bn_M_118, List.forall_mem_cons.mpr ⟨bn_M_119, fun _ h => absurd h List.not_mem_nil⟩⟩⟩⟩⟩⟩⟩⟩⟩⟩⟩⟩⟩⟩⟩
def bn_ML_8 : List (Nat × Nat × Nat × Nat × Nat) := [(4, 66, 0, 107, 686), (3, 158, 0, 104, 690), (3, 165, 1, 105, 696), (3, 168, 1, 106, 699), (4, 70, 0, 108, 702), (4, 75, 0, 109, 706), (4, 79, 0, 112, 710), (3, 178, 0, 111, 714), (3, 175, 0, 110, 718), (4, 83, 0, 113, 722), (4, 87, 0, 117, 726), (3, 184, 0, 114, 730), (3, 181, 1, 115, 734), (3, 187, 0, 118, 737), (3, 191, 0, 116, 741)]
theorem bn_MC_8 : ∀ r ∈ bn_ML_8, bn_PM r := List.forall_mem_cons.mpr ⟨bn_M_120, List.forall_mem_cons.mpr ⟨bn_M_121, List.forall_mem_cons.mpr ⟨bn_M_122, List.forall_mem_cons.mpr ⟨bn_M_123, List.forall_mem_cons.mpr ⟨bn_M_124, List.forall_mem_cons.mpr ⟨bn_M_125, List.forall_mem_cons.mpr ⟨bn_M_126, List.forall_mem_cons.mpr ⟨bn_M_127, List.forall_mem_cons.mpr ⟨bn_M_128, List.forall_mem_cons.mpr ⟨bn_M_129, List.forall_mem_cons.mpr ⟨bn_M_130, List.forall_mem_cons.mpr ⟨bn_M_131, List.forall_mem_cons.mpr ⟨bn_M_132, List.forall_mem_cons.mpr ⟨bn_M_133, List.forall_mem_cons.mpr ⟨bn_M_134, fun _ h => absurd h List.not_mem_nil⟩⟩⟩⟩⟩⟩⟩⟩⟩⟩⟩⟩⟩⟩⟩
def bn_ML_9 : List (Nat × Nat × Nat × Nat × Nat) := [(4, 91, 0, 121, 745), (3, 195, 0, 119, 749), (3, 198, 0, 120, 753), (4, 96, 0, 123, 757), (3, 205, 1, 122, 763), (4, 101, 0, 125, 766), (3, 212, 1, 124, 772), (4, 105, 0, 126, 775), (4, 109, 0, 127, 779), (4, 113, 0, 128, 783)]
theorem bn_MC_9 : ∀ r ∈ bn_ML_9, bn_PM r := List.forall_mem_cons.mpr ⟨bn_M_135, List.forall_mem_cons.mpr ⟨bn_M_136, List.forall_mem_cons.mpr ⟨bn_M_137, List.forall_mem_cons.mpr ⟨bn_M_138, List.forall_mem_cons.mpr ⟨bn_M_139, List.forall_mem_cons.mpr ⟨bn_M_140, List.forall_mem_cons.mpr ⟨bn_M_141, List.forall_mem_cons.mpr ⟨bn_M_142, List.forall_mem_cons.mpr ⟨bn_M_143, List.forall_mem_cons.mpr ⟨bn_M_144, fun _ h => absurd h List.not_mem_nil⟩⟩⟩⟩⟩⟩⟩⟩⟩⟩
theorem bn_ML_ok : ∀ r ∈ bn_ML, bn_PM r := by
  show ∀ r ∈ bn_ML_0 ++ (bn_ML_1 ++ (bn_ML_2 ++ (bn_ML_3 ++ (bn_ML_4 ++ (bn_ML_5 ++ (bn_ML_6 ++ (bn_ML_7 ++ (bn_ML_8 ++ (bn_ML_9))))))))), bn_PM r
  exact List.forall_mem_append.mpr ⟨bn_MC_0, List.forall_mem_append.mpr ⟨bn_MC_1, List.forall_mem_append.mpr ⟨bn_MC_2, List.forall_mem_append.mpr ⟨bn_MC_3, List.forall_mem_append.mpr ⟨bn_MC_4, List.forall_mem_append.mpr ⟨bn_MC_5, List.forall_mem_append.mpr ⟨bn_MC_6, List.forall_mem_append.mpr ⟨bn_MC_7, List.forall_mem_append.mpr ⟨bn_MC_8, bn_MC_9⟩⟩⟩⟩⟩⟩⟩⟩⟩
theorem bn_ml_ok {c idx : Nat} {q : Nat × Nat} (h : bn_ml c idx = some q) : ∃ i, bn_PM (c, idx, q.1, q.2, i) := by
  unfold bn_ml at h
  obtain ⟨r, h1, rfl⟩ := Option.map_eq_some_iff.mp h
  have h2 := List.find?_some h1
  have h3 := bn_ML_ok r (List.mem_of_find?_eq_some h1)
  simp only [Bool.and_eq_true, beq_iff_eq] at h2
  obtain ⟨rfl, rfl⟩ := h2
  exact ⟨r.2.2.2.2, h3⟩
theorem bn_TT_in {w : Cond} (h : w ∈ lw_tbl) (hg : goodWord w = true) : w ∈ bn_TT := List.mem_filter.mpr ⟨h, hg⟩
theorem bn_cnX {c : Nat} (h : c < 6) : bn_cn c ≠ "java/lang/invoke/MethodHandle" ∧ bn_cn c ≠ "java/lang/invoke/VarHandle" ∧ plainName (bn_cn c) = true := by
  have h6 : c = 0 ∨ c = 1 ∨ c = 2 ∨ c = 3 ∨ c = 4 ∨ c = 5 := by omega
  rcases h6 with rfl | rfl | rfl | rfl | rfl | rfl <;> decide +kernel
theorem bn_inX {ci : Nat} (h : ci < 4) : ∀ w ∈ u_ws (bn_cn ci) (bn_T ci) (bn_N ci), w ∈ bn_TT := by
  have h4 : ci = 0 ∨ ci = 1 ∨ ci = 2 ∨ ci = 3 := by omega
  rcases h4 with rfl | rfl | rfl | rfl <;> decide +kernel
theorem bn_tyX {ci : Nat} (h : ci < 4) : ∀ k, k < bn_N ci → parseFieldDescriptor (bn_T ci k).2.2.1 = some (bn_ty ci k) := by
  have h4 : ci = 0 ∨ ci = 1 ∨ ci = 2 ∨ ci = 3 := by omega
  rcases h4 with rfl | rfl | rfl | rfl
  · exact tyX0_ok
  · exact tyX1_ok
  · exact tyX2_ok
  · exact tyX3_ok
theorem bn_nmX {ci : Nat} (h : ci < 4) : ∀ a, a < bn_N ci → ∀ b, b < bn_N ci → a ≠ b → (bn_T ci a).2.1 ≠ (bn_T ci b).2.1 := by
  have h4 : ci = 0 ∨ ci = 1 ∨ ci = 2 ∨ ci = 3 := by omega
  rcases h4 with rfl | rfl | rfl | rfl
  · exact nmX0
  · exact nmX1
  · exact nmX2
  · exact nmX3
theorem bn_clX {ci : Nat} (h : ci < 4) : bn_cl[ci]? = some (bn_cn ci, bn_T ci, bn_N ci) := by
  have h4 : ci = 0 ∨ ci = 1 ∨ ci = 2 ∨ ci = 3 := by omega
  rcases h4 with rfl | rfl | rfl | rfl <;> rfl
def bn_is (i : Nat) (w : Cond) : Bool := decide (lw_tbl[i]? = some w) && goodWord w
theorem bn_is_mem {i : Nat} {w : Cond} (h : bn_is i w = true) : w ∈ bn_TT := by
  simp only [bn_is, Bool.and_eq_true, decide_eq_true_eq] at h
  exact bn_TT_mem h.1 h.2
def bn_okK (r : Nat × Nat × Nat × Nat) : Bool := bn_is r.2.2.2 (.classLink (bn_cn r.1) r.2.1 (bn_cn r.2.2.1)) && (decide (.instantiable (bn_cn r.2.2.1) (bn_N r.2.2.1) ∈ bn_TT) && (decide (.initialized (bn_cn r.2.2.1) ∈ bn_TT) && decide (r.2.2.1 < 4)))
set_option maxRecDepth 100000 in
theorem bn_CK_ok : bn_CK.all bn_okK = true := by decide +kernel
theorem bn_ck_ok {c idx ci : Nat} (h : bn_ck c idx = some ci) : .classLink (bn_cn c) idx (bn_cn ci) ∈ bn_TT ∧ .instantiable (bn_cn ci) (bn_N ci) ∈ bn_TT ∧ .initialized (bn_cn ci) ∈ bn_TT ∧ ci < 4 := by
  unfold bn_ck at h
  obtain ⟨r, h1, rfl⟩ := Option.map_eq_some_iff.mp h
  have h2 := List.find?_some h1
  have h3 := List.all_eq_true.mp bn_CK_ok r (List.mem_of_find?_eq_some h1)
  simp only [Bool.and_eq_true, beq_iff_eq] at h2
  obtain ⟨rfl, rfl⟩ := h2
  simp only [bn_okK, Bool.and_eq_true, decide_eq_true_eq] at h3
  exact ⟨bn_is_mem h3.1, h3.2.1, h3.2.2.1, h3.2.2.2⟩
set_option maxRecDepth 100000 in
theorem bn_KI_ok : bn_KI.all (fun r => bn_is r.2.2.2 (.constant (bn_cn r.1) r.2.1 r.2.2.1)) = true := by decide +kernel
set_option maxRecDepth 100000 in
theorem bn_KL_ok : bn_KL.all (fun r => bn_is r.2.2.2 (.constantLong (bn_cn r.1) r.2.1 r.2.2.1)) = true := by decide +kernel
theorem bn_ki_ok {c idx : Nat} {v : Int32} (h : bn_ki c idx = some v) : .constant (bn_cn c) idx v ∈ bn_TT := by
  unfold bn_ki at h
  obtain ⟨r, h1, rfl⟩ := Option.map_eq_some_iff.mp h
  have h2 := List.find?_some h1
  have h3 := List.all_eq_true.mp bn_KI_ok r (List.mem_of_find?_eq_some h1)
  simp only [Bool.and_eq_true, beq_iff_eq] at h2
  obtain ⟨rfl, rfl⟩ := h2
  exact bn_is_mem h3
theorem bn_kl_ok {c idx : Nat} {v : Int64} (h : bn_kl c idx = some v) : .constantLong (bn_cn c) idx v ∈ bn_TT := by
  unfold bn_kl at h
  obtain ⟨r, h1, rfl⟩ := Option.map_eq_some_iff.mp h
  have h2 := List.find?_some h1
  have h3 := List.all_eq_true.mp bn_KL_ok r (List.mem_of_find?_eq_some h1)
  simp only [Bool.and_eq_true, beq_iff_eq] at h2
  obtain ⟨rfl, rfl⟩ := h2
  exact bn_is_mem h3
theorem bn_w_nat : Cond.native arraycopyName ∈ bn_TT := by decide +kernel
theorem bn_w_sta : Cond.static arraycopyName ∈ bn_TT := by decide +kernel
theorem bn_w_sys : Cond.initialized "java/lang/System" ∈ bn_TT := by decide +kernel
theorem bn_w_oin : Cond.instanceMethod Lib.objectInit ∈ bn_TT := by decide +kernel
theorem bn_w_oco : Cond.code Lib.objectInit ⟨#[0xb1]⟩ 1 none ∈ bn_TT := by decide +kernel
theorem bn_w_ai : Cond.arrayClass .int ∈ bn_TT := by decide +kernel
theorem bn_w_az : Cond.arrayClass .boolean ∈ bn_TT := by decide +kernel
theorem bn_w_al : Cond.arrayClass .long ∈ bn_TT := by decide +kernel
theorem bn_w_mxs : Cond.static Lib.Math.max.name ∈ bn_TT := by decide +kernel
theorem bn_w_mns : Cond.static Lib.Math.min.name ∈ bn_TT := by decide +kernel
theorem bn_w_mth : Cond.initialized "java/lang/Math" ∈ bn_TT := by decide +kernel
theorem bn_w_mxc : Cond.code Lib.Math.max.name Lib.Math.max.code 2 (some .int) ∈ bn_TT := by decide +kernel
theorem bn_w_mnc : Cond.code Lib.Math.min.name Lib.Math.min.code 2 (some .int) ∈ bn_TT := by decide +kernel
def bn_okI (j : Nat) : Bool := bn_i j == decide ((bn_y j).name = "<init>")
theorem bn_init {j : Nat} (h : bn_i j = true) : (bn_y j).name = "<init>" := by
  simp only [bn_i, Bool.or_eq_true, beq_iff_eq] at h
  rcases h with ((rfl | rfl) | rfl) | rfl <;> decide +kernel
end
section
/-! ONE INSTRUCTION OF THE WALK IS ONE OF THE MACHINE -/
def bn_lp (G : bn_G) (ls : bn_L) : List (Nat × Value) := (List.range ls.length).filterMap (fun i => (bn_get ls i).map (fun v => (i, bn_cv G v)))
theorem bn_get_lt {ls : bn_L} {i : Nat} {v : Value} (h : bn_get ls i = some v) : i < ls.length := by
  unfold bn_get at h
  rcases Nat.lt_or_ge i ls.length with q | q
  · exact q
  · rw [List.getElem?_eq_none q] at h
    cases h
theorem bn_lp_mem {G : bn_G} {ls : bn_L} {i : Nat} {v : Value} (h : bn_get ls i = some v) : (i, bn_cv G v) ∈ bn_lp G ls := List.mem_filterMap.mpr ⟨i, List.mem_range.mpr (bn_get_lt h), by rw [h]; rfl⟩
theorem bn_LV.has {G : bn_G} {nL : Nat} {A : Array Slot} {ls : bn_L} (h : bn_LV G nL A ls) : lv_has A nL (bn_lp G ls) := by
  refine ⟨h.1, h.2.1, fun q hq => ?_⟩
  obtain ⟨i, -, hi⟩ := List.mem_filterMap.mp hq
  obtain ⟨v, h1, rfl⟩ := Option.map_eq_some_iff.mp hi
  exact h.2.2 i v h1
theorem bn_LV.at {G : bn_G} {nL : Nat} {A : Array Slot} {ls : bn_L} (h : bn_LV G nL A ls) {i : Nat} {v : Value} (hg : bn_get ls i = some v) : A[i]? = some (.val (bn_cv G v)) := h.2.2 i v hg
theorem bn_get_set (ls : bn_L) (i j : Nat) (o : Option Value) : bn_get (ls.set i o) j = if i = j then (if i < ls.length then o else none) else bn_get ls j := by
  unfold bn_get
  rw [List.getElem?_set]
  split
  · split <;> rfl
  · rfl
theorem bn_kil_len (ls : bn_L) (i : Nat) : (bn_kil ls i).length = ls.length := by
  unfold bn_kil
  split
  · rfl
  · split <;> simp
theorem bn_kil_get {ls : bn_L} {i j : Nat} {v : Value} (h : bn_get (bn_kil ls i) j = some v) : bn_get ls j = some v ∧ ¬ (j + 1 = i ∧ v.category = 2) := by
  cases i with
  | zero => exact ⟨h, by omega⟩
  | succ k =>
    have key : ∀ x, bn_get ls k = some x → x.category = 2 → bn_kil ls (k + 1) = ls.set k none := by
      intro x hx hc
      unfold bn_kil
      simp only [hx]
      cases x <;> first | rfl | (simp [Value.category] at hc)
    by_cases hc : ∃ x, bn_get ls k = some x ∧ x.category = 2
    · obtain ⟨x, hx, hc⟩ := hc
      rw [key x hx hc, bn_get_set] at h
      split at h
      · rename_i hkj
        split at h <;> cases h
      · rename_i hkj
        exact ⟨h, by omega⟩
    · have h1 : bn_kil ls (k + 1) = ls := by
        unfold bn_kil
        dsimp only
        split
        · rename_i y hy
          exact absurd ⟨_, hy, rfl⟩ hc
        · rename_i y hy
          exact absurd ⟨_, hy, rfl⟩ hc
        · rfl
      rw [h1] at h
      refine ⟨h, fun q => hc ⟨v, ?_, q.2⟩⟩
      rw [← h]
      congr 1
      omega
theorem bn_LV.set1 {G : bn_G} {nL i : Nat} {A' : Array Slot} {ls : bn_L} {x : Value} (h' : lv_has A' nL ((i, bn_cv G x) :: (bn_lp G ls).filter (fun q => !(q.1 == i) && !(q.1 + 1 == i && q.2.category == 2)))) : bn_LV G nL A' (bn_st1 ls i x) := by
  refine ⟨h'.1, h'.2.1, fun j v hj => ?_⟩
  unfold bn_st1 at hj
  rw [bn_get_set] at hj
  split at hj
  · rename_i hij
    subst hij
    split at hj
    · cases hj
      exact h'.2.2 _ List.mem_cons_self
    · cases hj
  · rename_i hij
    obtain ⟨h1, h2⟩ := bn_kil_get hj
    refine h'.2.2 (j, bn_cv G v) (List.mem_cons_of_mem _ (List.mem_filter.mpr ⟨bn_lp_mem h1, ?_⟩))
    have h3 : ¬ j = i := fun q => hij q.symm
    simp only [bn_cv_cat]
    by_cases h4 : j + 1 = i
    · have h5 : ¬ v.category = 2 := fun q => h2 ⟨h4, q⟩
      simp [h3, h5]
    · simp [h3, h4]
theorem bn_LV.set2 {G : bn_G} {nL i : Nat} {A' : Array Slot} {ls : bn_L} {x : Value} (h' : lv_has A' nL ((i, bn_cv G x) :: (bn_lp G ls).filter (fun q => !(q.1 == i) && (!(q.1 == i + 1) && !(q.1 + 1 == i && q.2.category == 2))))) : bn_LV G nL A' (bn_st2 ls i x) := by
  refine ⟨h'.1, h'.2.1, fun j v hj => ?_⟩
  unfold bn_st2 at hj
  rw [bn_get_set] at hj
  split at hj
  · split at hj <;> cases hj
  rename_i hij1
  rw [bn_get_set] at hj
  split at hj
  · rename_i hij
    subst hij
    split at hj
    · cases hj
      exact h'.2.2 _ List.mem_cons_self
    · cases hj
  · rename_i hij
    obtain ⟨h1, h2⟩ := bn_kil_get hj
    refine h'.2.2 (j, bn_cv G v) (List.mem_cons_of_mem _ (List.mem_filter.mpr ⟨bn_lp_mem h1, ?_⟩))
    have h3 : ¬ j = i := fun q => hij q.symm
    have h6 : ¬ j = i + 1 := fun q => hij1 q.symm
    simp only [bn_cv_cat]
    by_cases h4 : j + 1 = i
    · have h5 : ¬ v.category = 2 := fun q => h2 ⟨h4, q⟩
      simp [h3, h5, h6]
    · simp [h3, h4, h6]
theorem bn_g_lt {h : bn_H} {p : Nat} {e : bn_E} (hg : bn_g h p = some e) : p < h.2.1 := by
  unfold bn_g at hg
  split at hg
  · assumption
  · cases hg
theorem bn_gf_inv {h : bn_H} {p ci k : Nat} {v : Value} (e : bn_gf h p ci k = some v) : ∃ fs, bn_g h p = some (.inr (ci, fs)) ∧ fs[k]? = some v := by
  unfold bn_gf at e
  split at e
  · rename_i o ho
    obtain ⟨c, fs⟩ := o
    dsimp only at e
    split at e
    · rename_i hc
      subst hc
      exact ⟨fs, ho, e⟩
    · cases e
  · cases e
theorem bn_pf_inv {h h' : bn_H} {p ci k : Nat} {v : Value} (e : bn_pf h p ci k v = some h') : ∃ fs, bn_g h p = some (.inr (ci, fs)) ∧ k < fs.length ∧ h' = bn_u h p (.inr (ci, fs.set k v)) := by
  unfold bn_pf at e
  split at e
  · rename_i o ho
    obtain ⟨c, fs⟩ := o
    dsimp only at e
    split at e
    · rename_i hc
      obtain ⟨rfl, hk⟩ := hc
      exact ⟨fs, ho, hk, (Option.some.inj e).symm⟩
    · cases e
  · cases e
theorem bn_ai_inv {h : bn_H} {p t : Nat} {a : Nat × (Nat → Int32)} (e : bn_ai h p t = some a) : bn_g h p = some (.inl (t, a.1, .inl a.2)) := by
  unfold bn_ai at e
  split at e
  · rename_i u n f hg
    split at e
    · rename_i ht
      subst ht
      cases e
      exact hg
    · cases e
  · cases e
theorem bn_al_inv {h : bn_H} {p : Nat} {a : Nat × (Nat → Int64)} (e : bn_al h p = some a) : bn_g h p = some (.inl (2, a.1, .inr (.inl a.2))) := by
  unfold bn_al at e
  split at e
  · rename_i u n f hg
    split at e
    · rename_i ht
      subst ht
      cases e
      exact hg
    · cases e
  · cases e
theorem bn_ar_inv {h : bn_H} {p : Nat} {a : Nat × (Nat → Option Nat)} (e : bn_ar h p = some a) : bn_g h p = some (.inl (3, a.1, .inr (.inr (.inr (.inr a.2))))) := by
  unfold bn_ar at e
  split at e
  · rename_i u n f hg
    split at e
    · rename_i ht
      subst ht
      cases e
      exact hg
    · cases e
  · cases e
theorem bn_isC_inv {h : bn_H} {p c : Nat} (e : bn_isC h p c = true) : ∃ fs, bn_g h p = some (.inr (c, fs)) := by
  unfold bn_isC at e
  split at e
  · rename_i o ho
    obtain ⟨d, fs⟩ := o
    simp only [beq_iff_eq] at e
    subst e
    exact ⟨fs, ho⟩
  · cases e
theorem bn_W.set {s : State} {G : bn_G} {h : bn_H} {H1 : Heap} {locs1 : List Loc} {p : Nat} {e0 e : bn_E} {x : va_E} (hg : bn_g h p = some e0) (hx : x = bn_ce G e) (h1 : va_P G.2.2.1 bn_cl ((bn_wl G h).set p (G.1 + p, x)) H1) (h2 : va_D (bn_A G) ((bn_wl G h).set p (G.1 + p, x))) (h3 : va_S (bn_A G) s.heap H1 locs1) : bn_W s G (bn_u h p e) H1 locs1 := by
  subst hx
  rw [bn_wl_set hg] at h1 h2
  exact ⟨h1, h2, h3⟩
theorem bn_W.app {s : State} {G : bn_G} {h : bn_H} {H1 : Heap} {locs1 : List Loc} {q z : Nat} {e : bn_E} {x : va_E} (hq : q = G.1 + h.2.1) (hx : x = bn_ce G e) (h1 : va_P G.2.2.1 bn_cl (bn_wl G h ++ [(q, x)]) H1) (h2 : va_D (bn_A G) (bn_wl G h ++ [(q, x)])) (h3 : va_S (bn_A G) s.heap H1 locs1) : bn_W s G (bn_n h e z) H1 locs1 := by
  subst hx
  subst hq
  rw [bn_wl_app (z := z)] at h1 h2
  exact ⟨h1, h2, h3⟩
end
section
/-! ONE INSTRUCTION OF THE WALK IS ONE OF THE MACHINE: all that neither call nor return -/
abbrev bn_Q : Type := Nat × bn_L × List Value × bn_H
def bn_XW (mi pc : Nat) (ls : bn_L) (st : List Value) (h : bn_H) (a : bn_Q) : Prop := (h.2.1 ≤ a.2.2.2.2.1 ∧ h.2.2.1 ≤ a.2.2.2.2.2.1 ∧ a.2.2.2.1 = h.1) ∧
  ∀ (p : Program) (l : Launch) (e : Env) (R : Room) (s : State) (m : MethodId) (args : Array Value) (below : List Frame) (meth : Method) (c : Code) (Q : State → Prop) (G : bn_G) (n0 z0 : Nat) (H : Heap) (locs : List Loc) (A : Array Slot),
    bn_Cx p R s m args meth c mi G h.1 → s.heap.size = G.1 + n0 → n0 ≤ h.2.1 → z0 ≤ h.2.2.1 → a.2.2.2.2.1 - n0 ≤ R.cells → a.2.2.2.2.2.1 - z0 ≤ R.slots → bn_W s G h H locs → bn_LV G (bn_m mi) A ls →
    (∀ (H' : Heap) (locs' : List Loc) (A' : Array Slot), bn_W s G a.2.2.2 H' locs' → bn_LV G (bn_m mi) A' a.2.1 → W p l e R s m args below meth c H' locs' (a.2.2.2.2.1 - n0) (a.2.2.2.2.2.1 - z0) Q (F0 m a.1 A' (a.2.2.1.map (bn_cv G)))) →
    W p l e R s m args below meth c H locs (h.2.1 - n0) (h.2.2.1 - z0) Q (F0 m pc A (st.map (bn_cv G)))
theorem bn_pure {mi pc pc' : Nat} {ls ls' : bn_L} {st st' : List Value} {h : bn_H} (k : ∀ {p : Program} {l : Launch} {e : Env} {R : Room} {s : State} {m : MethodId} {args : Array Value} {below : List Frame} {meth : Method} {c : Code} {Q : State → Prop} {G : bn_G} {H : Heap} {locs : List Loc} {cells slots : Nat} {A : Array Slot},
    bn_Cx p R s m args meth c mi G h.1 → bn_LV G (bn_m mi) A ls → cells ≤ R.cells → slots ≤ R.slots → (∀ A' : Array Slot, bn_LV G (bn_m mi) A' ls' → W p l e R s m args below meth c H locs cells slots Q (F0 m pc' A' (st'.map (bn_cv G)))) → W p l e R s m args below meth c H locs cells slots Q (F0 m pc A (st.map (bn_cv G)))) : bn_XW mi pc ls st h (pc', ls', st', h) :=
  ⟨⟨Nat.le_refl _, Nat.le_refl _, rfl⟩, fun p l e R s m args below meth c Q G n0 z0 H locs A C _ _ _ hc hz hW hl kk => k C hl hc hz (fun A' hl' => kk H locs A' hW hl')⟩
theorem bn_heap {mi pc pc' : Nat} {ls ls' : bn_L} {st st' : List Value} {h h' : bn_H} (hn : h'.2.1 = h.2.1) (hz : h'.2.2.1 = h.2.2.1) (hs : h'.1 = h.1) (k : ∀ {p : Program} {l : Launch} {e : Env} {R : Room} {s : State} {m : MethodId} {args : Array Value} {below : List Frame} {meth : Method} {c : Code} {Q : State → Prop} {G : bn_G} {H : Heap} {locs : List Loc} {cells slots : Nat} {A : Array Slot},
    bn_Cx p R s m args meth c mi G h.1 → bn_LV G (bn_m mi) A ls → bn_W s G h H locs → (∀ (H' : Heap) (locs' : List Loc) (A' : Array Slot), bn_W s G h' H' locs' → bn_LV G (bn_m mi) A' ls' → W p l e R s m args below meth c H' locs' cells slots Q (F0 m pc' A' (st'.map (bn_cv G)))) → W p l e R s m args below meth c H locs cells slots Q (F0 m pc A (st.map (bn_cv G)))) : bn_XW mi pc ls st h (pc', ls', st', h') :=
  ⟨⟨Nat.le_of_eq hn.symm, Nat.le_of_eq hz.symm, hs⟩, fun p l e R s m args below meth c Q G n0 z0 H locs A C _ _ _ _ _ hW hl kk => k C hl hW (fun H' locs' A' hW' hl' => by
    have := kk H' locs' A' hW' hl'
    dsimp only at this
    rw [hn, hz] at this
    exact this)⟩
theorem bn_size {p : Program} {l : Launch} {e : Env} {R : Room} {s : State} {m : MethodId} {args : Array Value} {below : List Frame} {meth : Method} {c : Code} {H : Heap} {locs : List Loc} {cells slots : Nat} {Q : State → Prop} {g : JFrame} (k : H.size ≤ s.heap.size + cells → W p l e R s m args below meth c H locs cells slots Q g) : W p l e R s m args below meth c H locs cells slots Q g := fun T hT X => k (by rw [← hT]; exact X.heapSize) T hT X
theorem bn_q_eq {G : bn_G} {h : bn_H} {q : Nat} {x : va_E} {H1 : Heap} (h1 : va_P G.2.2.1 bn_cl (bn_wl G h ++ [(q, x)]) H1) (h2 : va_D (bn_A G) (bn_wl G h ++ [(q, x)])) (hz : H1.size ≤ G.1 + h.2.1 + 1) : q = G.1 + h.2.1 := by
  have hlen : (bn_wl G h).length = h.2.1 := by simp [bn_wl]
  have hq : (bn_wl G h ++ [(q, x)])[h.2.1]? = some (q, x) := by rw [List.getElem?_append_right (by omega), hlen]; simp
  have a1 : q < H1.size := (h1 _ _ hq).lt
  have a2 : G.1 ≤ q := h2.2 _ _ hq
  rcases Nat.lt_or_ge q (G.1 + h.2.1) with a3 | a3
  · have hk : (bn_wl G h ++ [(q, x)])[q - G.1]? = some (G.1 + (q - G.1), bn_ce G (h.2.2.2 (q - G.1))) := by
      rw [List.getElem?_append_left (by omega)]
      exact bn_wl_get (by unfold bn_g; rw [if_pos (by omega)])
    have := h2.1 _ _ _ _ hk hq (by dsimp only; omega)
    omega
  · omega
theorem bn_newW {mi pc pc' z : Nat} {ls ls' : bn_L} {st st' : List Value} {h : bn_H} {e0 : bn_E} (k : ∀ {p : Program} {l : Launch} {e : Env} {R : Room} {s : State} {m : MethodId} {args : Array Value} {below : List Frame} {meth : Method} {c : Code} {Q : State → Prop} {G : bn_G} {H : Heap} {locs : List Loc} {cells slots : Nat} {A : Array Slot},
    bn_Cx p R s m args meth c mi G h.1 → bn_LV G (bn_m mi) A ls → bn_W s G h H locs → (∀ q : Nat, s.heap.size ≤ q → bn_A G q) → cells + 1 ≤ R.cells → slots + z ≤ R.slots → (∀ (q : Nat) (H' : Heap) (locs' : List Loc) (A' : Array Slot), va_P G.2.2.1 bn_cl (bn_wl G h ++ [(q, bn_ce G e0)]) H' → va_D (bn_A G) (bn_wl G h ++ [(q, bn_ce G e0)]) → va_S (bn_A G) s.heap H' locs' → bn_LV G (bn_m mi) A' ls' → W p l e R s m args below meth c H' locs' (cells + 1) (slots + z) Q (F0 m pc' A' (.ref q :: st'.map (bn_cv G)))) → W p l e R s m args below meth c H locs cells slots Q (F0 m pc A (st.map (bn_cv G)))) : bn_XW mi pc ls st h (pc', ls', .ref h.2.1 :: st', bn_n h e0 z) :=
  ⟨⟨Nat.le_succ _, Nat.le_add_right _ _, rfl⟩, fun p l e R s m args below meth c Q G n0 z0 H locs A C hs hn0 hz0 hc hz hW hl kk => by
    have d1 : (bn_n h e0 z).2.1 - n0 = h.2.1 - n0 + 1 := by show h.2.1 + 1 - n0 = _; omega
    have d2 : (bn_n h e0 z).2.2.1 - z0 = h.2.2.1 - z0 + z := by show h.2.2.1 + z - z0 = _; omega
    dsimp only at hc hz kk
    rw [d1] at hc
    rw [d2] at hz
    refine k C hl hW (fun q hq => ?_) hc hz (fun q H' locs' A' f1 f2 f3 f4 => ?_)
    · show G.1 ≤ q
      omega
    · refine bn_size (fun hsz => ?_)
      have hq := bn_q_eq f1 f2 (by omega)
      subst hq
      have := kk H' locs' A' (bn_W.app rfl rfl f1 f2 f3) f4
      rw [d1, d2] at this
      exact this⟩
theorem bn_tg_inv {pc t : Nat} {off : Int} (e : bn_tg pc off = some t) : (pc : Int) + off = (t : Int) := by
  unfold bn_tg at e
  split at e
  · rename_i hh
    cases e
    omega
  · cases e
theorem bn_i1_inv {ls : bn_L} {k i : Nat} {st : List Value} {h : bn_H} {a : bn_Q} (e : bn_i1 ls k i st h = some a) : ∃ x, bn_get ls i = some (.int x) ∧ a = (k, ls, .int x :: st, h) := by
  unfold bn_i1 at e
  split at e
  · rename_i x hx
    exact ⟨x, hx, (Option.some.inj e).symm⟩
  · cases e
theorem bn_l1_inv {ls : bn_L} {k i : Nat} {st : List Value} {h : bn_H} {a : bn_Q} (e : bn_l1 ls k i st h = some a) : ∃ x, bn_get ls i = some (.long x) ∧ a = (k, ls, .long x :: st, h) := by
  unfold bn_l1 at e
  split at e
  · rename_i x hx
    exact ⟨x, hx, (Option.some.inj e).symm⟩
  · cases e
theorem bn_a1_inv {ls : bn_L} {k i : Nat} {st : List Value} {h : bn_H} {a : bn_Q} (e : bn_a1 ls k i st h = some a) : ∃ v, bn_get ls i = some v ∧ (∀ G, ∃ x, bn_cv G v = .ref x) ∧ a = (k, ls, v :: st, h) := by
  unfold bn_a1 at e
  split at e
  · rename_i x hx
    exact ⟨_, hx, fun G => ⟨_, rfl⟩, (Option.some.inj e).symm⟩
  · rename_i x hx
    exact ⟨_, hx, fun G => ⟨_, rfl⟩, (Option.some.inj e).symm⟩
  · cases e
theorem bn_is_inv {ls : bn_L} {k i nL : Nat} {st : List Value} {h : bn_H} {a : bn_Q} (e : bn_iso ls k i nL st h = some a) : ∃ x r, st = .int x :: r ∧ i < nL ∧ a = (k, bn_st1 ls i (.int x), r, h) := by
  unfold bn_iso at e
  split at e
  · split at e
    · rename_i hi
      exact ⟨_, _, rfl, hi, (Option.some.inj e).symm⟩
    · cases e
  · cases e
theorem bn_lst_inv {ls : bn_L} {k i nL : Nat} {st : List Value} {h : bn_H} {a : bn_Q} (e : bn_lst ls k i nL st h = some a) : ∃ x r, st = .long x :: r ∧ i + 1 < nL ∧ a = (k, bn_st2 ls i (.long x), r, h) := by
  unfold bn_lst at e
  split at e
  · split at e
    · rename_i hi
      exact ⟨_, _, rfl, hi, (Option.some.inj e).symm⟩
    · cases e
  · cases e
theorem bn_as_inv {ls : bn_L} {k i nL : Nat} {st : List Value} {h : bn_H} {a : bn_Q} (e : bn_as ls k i nL st h = some a) : ∃ x r, st = .ref x :: r ∧ i < nL ∧ a = (k, bn_st1 ls i (.ref x), r, h) := by
  unfold bn_as at e
  split at e
  · split at e
    · rename_i hi
      exact ⟨_, _, rfl, hi, (Option.some.inj e).symm⟩
    · cases e
  · cases e
theorem bn_ii_inv {f : Int32 → Int32 → Int32} {ls : bn_L} {k : Nat} {st : List Value} {h : bn_H} {a : bn_Q} (e : bn_ii f ls k st h = some a) : ∃ x y r, st = .int y :: .int x :: r ∧ a = (k, ls, .int (f x y) :: r, h) := by
  unfold bn_ii at e
  split at e
  · exact ⟨_, _, _, rfl, (Option.some.inj e).symm⟩
  · cases e
theorem bn_ll_inv {f : Int64 → Int64 → Int64} {ls : bn_L} {k : Nat} {st : List Value} {h : bn_H} {a : bn_Q} (e : bn_ll f ls k st h = some a) : ∃ x y r, st = .long y :: .long x :: r ∧ a = (k, ls, .long (f x y) :: r, h) := by
  unfold bn_ll at e
  split at e
  · exact ⟨_, _, _, rfl, (Option.some.inj e).symm⟩
  · cases e
theorem bn_li_inv {f : Int64 → Int32 → Int64} {ls : bn_L} {k : Nat} {st : List Value} {h : bn_H} {a : bn_Q} (e : bn_li f ls k st h = some a) : ∃ x y r, st = .int y :: .long x :: r ∧ a = (k, ls, .long (f x y) :: r, h) := by
  unfold bn_li at e
  split at e
  · exact ⟨_, _, _, rfl, (Option.some.inj e).symm⟩
  · cases e
theorem bn_idv_inv {f : Int32 → Int32 → Int32} {ls : bn_L} {k : Nat} {st : List Value} {h : bn_H} {a : bn_Q} (e : bn_idv f ls k st h = some a) : ∃ x y r, st = .int y :: .int x :: r ∧ ¬ y = 0 ∧ a = (k, ls, .int (f x y) :: r, h) := by
  unfold bn_idv at e
  split at e
  · split at e
    · cases e
    · rename_i hy
      exact ⟨_, _, _, rfl, hy, (Option.some.inj e).symm⟩
  · cases e
theorem bn_ldv_inv {f : Int64 → Int64 → Int64} {ls : bn_L} {k : Nat} {st : List Value} {h : bn_H} {a : bn_Q} (e : bn_ldv f ls k st h = some a) : ∃ x y r, st = .long y :: .long x :: r ∧ ¬ y = 0 ∧ a = (k, ls, .long (f x y) :: r, h) := by
  unfold bn_ldv at e
  split at e
  · split at e
    · cases e
    · rename_i hy
      exact ⟨_, _, _, rfl, hy, (Option.some.inj e).symm⟩
  · cases e
theorem bn_cpos {a b : Nat} (h : b ≤ a) : b ≤ a := h
section XS
variable {mi pc len : Nat} {ls : bn_L} {st : List Value} {h : bn_H} {a : bn_Q}

theorem bn_s_iconst {n : Int} (hd : decode (bn_b mi) pc = .ok (.iconst n, len)) (hL : len = bn_ln (.iconst n) len) (e : bn_x mi (.iconst n) pc ls st h = some a) : bn_XW mi pc ls st h a := by
  have hL : len = 1 := hL
  subst hL
  cases e
  exact bn_pure fun C hl _ _ kk => lv_iconst C.1 C.2.1 hd rfl (kk _ hl)
theorem bn_s_bipush {n : Int} (hd : decode (bn_b mi) pc = .ok (.bipush n, len)) (hL : len = bn_ln (.bipush n) len) (e : bn_x mi (.bipush n) pc ls st h = some a) : bn_XW mi pc ls st h a := by
  have hL : len = 2 := hL
  subst hL
  cases e
  exact bn_pure fun C hl _ _ kk => lv_bipush C.1 C.2.1 hd rfl (kk _ hl)
theorem bn_s_sipush {n : Int} (hd : decode (bn_b mi) pc = .ok (.sipush n, len)) (hL : len = bn_ln (.sipush n) len) (e : bn_x mi (.sipush n) pc ls st h = some a) : bn_XW mi pc ls st h a := by
  have hL : len = 3 := hL
  subst hL
  cases e
  exact bn_pure fun C hl _ _ kk => lv_sipush C.1 C.2.1 hd rfl (kk _ hl)
theorem bn_s_lconst {n : Fin 2} (hd : decode (bn_b mi) pc = .ok (.lconst n, len)) (hL : len = bn_ln (.lconst n) len) (e : bn_x mi (.lconst n) pc ls st h = some a) : bn_XW mi pc ls st h a := by
  have hL : len = 1 := hL
  subst hL
  cases e
  exact bn_pure fun C hl _ _ kk => lv_lconst C.1 C.2.1 hd rfl (kk _ hl)
theorem bn_s_ldcw {n : Nat} (hd : decode (bn_b mi) pc = .ok (.ldc_w n, len)) (hL : len = bn_ln (.ldc_w n) len) (e : bn_x mi (.ldc_w n) pc ls st h = some a) : bn_XW mi pc ls st h a := by
  have hL : len = 3 := hL
  subst hL
  obtain ⟨v, hv, rfl⟩ := Option.map_eq_some_iff.mp e
  exact bn_pure fun C hl _ _ kk => lv_ldcw C.1 C.2.1 C.2.2.2.1 (C.2.2.2.2.1 _ (bn_ki_ok hv)) hd (kk _ hl)
theorem bn_s_ldc2w {n : Nat} (hd : decode (bn_b mi) pc = .ok (.ldc2_w n, len)) (hL : len = bn_ln (.ldc2_w n) len) (e : bn_x mi (.ldc2_w n) pc ls st h = some a) : bn_XW mi pc ls st h a := by
  have hL : len = 3 := hL
  subst hL
  obtain ⟨v, hv, rfl⟩ := Option.map_eq_some_iff.mp e
  exact bn_pure fun C hl _ _ kk => lv_ldc2 C.1 C.2.1 C.2.2.2.1 (C.2.2.2.2.1 _ (bn_kl_ok hv)) hd (kk _ hl)
theorem bn_s_iload_n {k : Fin 4} (hd : decode (bn_b mi) pc = .ok (.iload_n k, len)) (hL : len = bn_ln (.iload_n k) len) (e : bn_x mi (.iload_n k) pc ls st h = some a) : bn_XW mi pc ls st h a := by
  have hL : len = 1 := hL
  subst hL
  obtain ⟨x, hx, rfl⟩ := bn_i1_inv e
  exact bn_pure fun C hl _ _ kk => lv_iload_n C.1 C.2.1 hd rfl (hl.at hx) (kk _ hl)
theorem bn_s_iload {k : Nat} (hd : decode (bn_b mi) pc = .ok (.iload k, len)) (hL : len = bn_ln (.iload k) len) (e : bn_x mi (.iload k) pc ls st h = some a) : bn_XW mi pc ls st h a := by
  have hL : len = 2 := hL
  subst hL
  obtain ⟨x, hx, rfl⟩ := bn_i1_inv e
  exact bn_pure fun C hl _ _ kk => lv_iload C.1 C.2.1 hd (hl.at hx) (kk _ hl)
theorem bn_s_lload_n {k : Fin 4} (hd : decode (bn_b mi) pc = .ok (.lload_n k, len)) (hL : len = bn_ln (.lload_n k) len) (e : bn_x mi (.lload_n k) pc ls st h = some a) : bn_XW mi pc ls st h a := by
  have hL : len = 1 := hL
  subst hL
  obtain ⟨x, hx, rfl⟩ := bn_l1_inv e
  exact bn_pure fun C hl _ _ kk => lv_lload_n C.1 C.2.1 hd rfl (hl.at hx) (kk _ hl)
theorem bn_s_lload {k : Nat} (hd : decode (bn_b mi) pc = .ok (.lload k, len)) (hL : len = bn_ln (.lload k) len) (e : bn_x mi (.lload k) pc ls st h = some a) : bn_XW mi pc ls st h a := by
  have hL : len = 2 := hL
  subst hL
  obtain ⟨x, hx, rfl⟩ := bn_l1_inv e
  exact bn_pure fun C hl _ _ kk => lv_lload C.1 C.2.1 hd (hl.at hx) (kk _ hl)
theorem bn_s_aload_n {k : Fin 4} (hd : decode (bn_b mi) pc = .ok (.aload_n k, len)) (hL : len = bn_ln (.aload_n k) len) (e : bn_x mi (.aload_n k) pc ls st h = some a) : bn_XW mi pc ls st h a := by
  have hL : len = 1 := hL
  subst hL
  obtain ⟨v, hv, hG, rfl⟩ := bn_a1_inv e
  refine bn_pure fun {p l e R s m args below meth c Q G H locs cells slots A} C hl _ _ kk => ?_
  obtain ⟨x, hx⟩ := hG G
  have h1 := hl.at hv
  rw [hx] at h1
  have h2 := kk _ hl
  rw [List.map_cons, hx] at h2
  exact lv_aload_n C.1 C.2.1 hd rfl h1 h2
theorem bn_s_aload {k : Nat} (hd : decode (bn_b mi) pc = .ok (.aload k, len)) (hL : len = bn_ln (.aload k) len) (e : bn_x mi (.aload k) pc ls st h = some a) : bn_XW mi pc ls st h a := by
  have hL : len = 2 := hL
  subst hL
  obtain ⟨v, hv, hG, rfl⟩ := bn_a1_inv e
  refine bn_pure fun {p l e R s m args below meth c Q G H locs cells slots A} C hl _ _ kk => ?_
  obtain ⟨x, hx⟩ := hG G
  have h1 := hl.at hv
  rw [hx] at h1
  have h2 := kk _ hl
  rw [List.map_cons, hx] at h2
  exact lv_aload C.1 C.2.1 hd h1 h2
theorem bn_s_istore_n {k : Fin 4} (hd : decode (bn_b mi) pc = .ok (.istore_n k, len)) (hL : len = bn_ln (.istore_n k) len) (e : bn_x mi (.istore_n k) pc ls st h = some a) : bn_XW mi pc ls st h a := by
  have hL : len = 1 := hL
  subst hL
  obtain ⟨x, r, rfl, hi, rfl⟩ := bn_is_inv e
  exact bn_pure fun C hl _ _ kk => lv_istore_n C.1 C.2.1 hd rfl hl.has hi rfl (fun A2 hA2 => kk _ (bn_LV.set1 hA2))
theorem bn_s_istore {k : Nat} (hd : decode (bn_b mi) pc = .ok (.istore k, len)) (hL : len = bn_ln (.istore k) len) (e : bn_x mi (.istore k) pc ls st h = some a) : bn_XW mi pc ls st h a := by
  have hL : len = 2 := hL
  subst hL
  obtain ⟨x, r, rfl, hi, rfl⟩ := bn_is_inv e
  exact bn_pure fun C hl _ _ kk => lv_istore C.1 C.2.1 hd hl.has hi rfl (fun A2 hA2 => kk _ (bn_LV.set1 hA2))
theorem bn_s_lstore_n {k : Fin 4} (hd : decode (bn_b mi) pc = .ok (.lstore_n k, len)) (hL : len = bn_ln (.lstore_n k) len) (e : bn_x mi (.lstore_n k) pc ls st h = some a) : bn_XW mi pc ls st h a := by
  have hL : len = 1 := hL
  subst hL
  obtain ⟨x, r, rfl, hi, rfl⟩ := bn_lst_inv e
  exact bn_pure fun C hl _ _ kk => lv_lstore_n C.1 C.2.1 hd rfl hl.has hi rfl (fun A2 hA2 => kk _ (bn_LV.set2 hA2))
theorem bn_s_lstore {k : Nat} (hd : decode (bn_b mi) pc = .ok (.lstore k, len)) (hL : len = bn_ln (.lstore k) len) (e : bn_x mi (.lstore k) pc ls st h = some a) : bn_XW mi pc ls st h a := by
  have hL : len = 2 := hL
  subst hL
  obtain ⟨x, r, rfl, hi, rfl⟩ := bn_lst_inv e
  exact bn_pure fun C hl _ _ kk => lv_lstore C.1 C.2.1 hd hl.has hi rfl (fun A2 hA2 => kk _ (bn_LV.set2 hA2))
theorem bn_s_astore_n {k : Fin 4} (hd : decode (bn_b mi) pc = .ok (.astore_n k, len)) (hL : len = bn_ln (.astore_n k) len) (e : bn_x mi (.astore_n k) pc ls st h = some a) : bn_XW mi pc ls st h a := by
  have hL : len = 1 := hL
  subst hL
  obtain ⟨x, r, rfl, hi, rfl⟩ := bn_as_inv e
  exact bn_pure fun C hl _ _ kk => lv_astore_n C.1 C.2.1 hd rfl hl.has hi rfl (fun A2 hA2 => kk _ (bn_LV.set1 hA2))
theorem bn_s_astore {k : Nat} (hd : decode (bn_b mi) pc = .ok (.astore k, len)) (hL : len = bn_ln (.astore k) len) (e : bn_x mi (.astore k) pc ls st h = some a) : bn_XW mi pc ls st h a := by
  have hL : len = 2 := hL
  subst hL
  obtain ⟨x, r, rfl, hi, rfl⟩ := bn_as_inv e
  exact bn_pure fun C hl _ _ kk => lv_astore C.1 C.2.1 hd hl.has hi rfl (fun A2 hA2 => kk _ (bn_LV.set1 hA2))
theorem bn_s_iinc {k : Nat} {n : Int} (hd : decode (bn_b mi) pc = .ok (.iinc k n, len)) (hL : len = bn_ln (.iinc k n) len) (e : bn_x mi (.iinc k n) pc ls st h = some a) : bn_XW mi pc ls st h a := by
  have hL : len = 3 := hL
  subst hL
  simp only [bn_x] at e
  split at e
  · rename_i x hx
    split at e
    · rename_i hk
      cases e
      refine bn_pure fun {p l e R s m args below meth c Q G H locs cells slots A} C hl _ _ kk => ?_
      obtain ⟨j, hj⟩ := List.getElem?_of_mem (bn_lp_mem (G := G) hx)
      exact lv_iinc C.1 C.2.1 hd hl.has hj rfl hk rfl (fun A2 hA2 => kk _ (bn_LV.set1 (x := .int _) hA2))
    · cases e
  · cases e
theorem bn_s_iadd  (hd : decode (bn_b mi) pc = .ok (.iadd, len)) (hL : len = bn_ln (.iadd) len) (e : bn_x mi (.iadd) pc ls st h = some a) : bn_XW mi pc ls st h a := by
  have hL : len = 1 := hL
  subst hL
  obtain ⟨x, y, r, rfl, rfl⟩ := bn_ii_inv e
  exact bn_pure fun C hl _ _ kk => lv_iadd C.1 C.2.1 hd (kk _ hl)
theorem bn_s_isub  (hd : decode (bn_b mi) pc = .ok (.isub, len)) (hL : len = bn_ln (.isub) len) (e : bn_x mi (.isub) pc ls st h = some a) : bn_XW mi pc ls st h a := by
  have hL : len = 1 := hL
  subst hL
  obtain ⟨x, y, r, rfl, rfl⟩ := bn_ii_inv e
  exact bn_pure fun C hl _ _ kk => lv_isub C.1 C.2.1 hd (kk _ hl)
theorem bn_s_imul  (hd : decode (bn_b mi) pc = .ok (.imul, len)) (hL : len = bn_ln (.imul) len) (e : bn_x mi (.imul) pc ls st h = some a) : bn_XW mi pc ls st h a := by
  have hL : len = 1 := hL
  subst hL
  obtain ⟨x, y, r, rfl, rfl⟩ := bn_ii_inv e
  exact bn_pure fun C hl _ _ kk => lv_imul C.1 C.2.1 hd (kk _ hl)
theorem bn_s_iand  (hd : decode (bn_b mi) pc = .ok (.iand, len)) (hL : len = bn_ln (.iand) len) (e : bn_x mi (.iand) pc ls st h = some a) : bn_XW mi pc ls st h a := by
  have hL : len = 1 := hL
  subst hL
  obtain ⟨x, y, r, rfl, rfl⟩ := bn_ii_inv e
  exact bn_pure fun C hl _ _ kk => lv_iand C.1 C.2.1 hd (kk _ hl)
theorem bn_s_ior  (hd : decode (bn_b mi) pc = .ok (.ior, len)) (hL : len = bn_ln (.ior) len) (e : bn_x mi (.ior) pc ls st h = some a) : bn_XW mi pc ls st h a := by
  have hL : len = 1 := hL
  subst hL
  obtain ⟨x, y, r, rfl, rfl⟩ := bn_ii_inv e
  exact bn_pure fun C hl _ _ kk => lv_ior C.1 C.2.1 hd (kk _ hl)
theorem bn_s_ixor  (hd : decode (bn_b mi) pc = .ok (.ixor, len)) (hL : len = bn_ln (.ixor) len) (e : bn_x mi (.ixor) pc ls st h = some a) : bn_XW mi pc ls st h a := by
  have hL : len = 1 := hL
  subst hL
  obtain ⟨x, y, r, rfl, rfl⟩ := bn_ii_inv e
  exact bn_pure fun C hl _ _ kk => lv_ixor C.1 C.2.1 hd (kk _ hl)
theorem bn_s_ishl  (hd : decode (bn_b mi) pc = .ok (.ishl, len)) (hL : len = bn_ln (.ishl) len) (e : bn_x mi (.ishl) pc ls st h = some a) : bn_XW mi pc ls st h a := by
  have hL : len = 1 := hL
  subst hL
  obtain ⟨x, y, r, rfl, rfl⟩ := bn_ii_inv e
  exact bn_pure fun C hl _ _ kk => lv_ishl C.1 C.2.1 hd (kk _ hl)
theorem bn_s_ishr  (hd : decode (bn_b mi) pc = .ok (.ishr, len)) (hL : len = bn_ln (.ishr) len) (e : bn_x mi (.ishr) pc ls st h = some a) : bn_XW mi pc ls st h a := by
  have hL : len = 1 := hL
  subst hL
  obtain ⟨x, y, r, rfl, rfl⟩ := bn_ii_inv e
  exact bn_pure fun C hl _ _ kk => lv_ishr C.1 C.2.1 hd (kk _ hl)
theorem bn_s_iushr  (hd : decode (bn_b mi) pc = .ok (.iushr, len)) (hL : len = bn_ln (.iushr) len) (e : bn_x mi (.iushr) pc ls st h = some a) : bn_XW mi pc ls st h a := by
  have hL : len = 1 := hL
  subst hL
  obtain ⟨x, y, r, rfl, rfl⟩ := bn_ii_inv e
  exact bn_pure fun C hl _ _ kk => lv_iushr C.1 C.2.1 hd rfl (kk _ hl)
theorem bn_s_ladd  (hd : decode (bn_b mi) pc = .ok (.ladd, len)) (hL : len = bn_ln (.ladd) len) (e : bn_x mi (.ladd) pc ls st h = some a) : bn_XW mi pc ls st h a := by
  have hL : len = 1 := hL
  subst hL
  obtain ⟨x, y, r, rfl, rfl⟩ := bn_ll_inv e
  exact bn_pure fun C hl _ _ kk => lv_ladd C.1 C.2.1 hd (kk _ hl)
theorem bn_s_lsub  (hd : decode (bn_b mi) pc = .ok (.lsub, len)) (hL : len = bn_ln (.lsub) len) (e : bn_x mi (.lsub) pc ls st h = some a) : bn_XW mi pc ls st h a := by
  have hL : len = 1 := hL
  subst hL
  obtain ⟨x, y, r, rfl, rfl⟩ := bn_ll_inv e
  exact bn_pure fun C hl _ _ kk => lv_lsub C.1 C.2.1 hd (kk _ hl)
theorem bn_s_lmul  (hd : decode (bn_b mi) pc = .ok (.lmul, len)) (hL : len = bn_ln (.lmul) len) (e : bn_x mi (.lmul) pc ls st h = some a) : bn_XW mi pc ls st h a := by
  have hL : len = 1 := hL
  subst hL
  obtain ⟨x, y, r, rfl, rfl⟩ := bn_ll_inv e
  exact bn_pure fun C hl _ _ kk => lv_lmul C.1 C.2.1 hd (kk _ hl)
theorem bn_s_land  (hd : decode (bn_b mi) pc = .ok (.land, len)) (hL : len = bn_ln (.land) len) (e : bn_x mi (.land) pc ls st h = some a) : bn_XW mi pc ls st h a := by
  have hL : len = 1 := hL
  subst hL
  obtain ⟨x, y, r, rfl, rfl⟩ := bn_ll_inv e
  exact bn_pure fun C hl _ _ kk => lv_land C.1 C.2.1 hd (kk _ hl)
theorem bn_s_lor  (hd : decode (bn_b mi) pc = .ok (.lor, len)) (hL : len = bn_ln (.lor) len) (e : bn_x mi (.lor) pc ls st h = some a) : bn_XW mi pc ls st h a := by
  have hL : len = 1 := hL
  subst hL
  obtain ⟨x, y, r, rfl, rfl⟩ := bn_ll_inv e
  exact bn_pure fun C hl _ _ kk => lv_lor C.1 C.2.1 hd (kk _ hl)
theorem bn_s_lushr  (hd : decode (bn_b mi) pc = .ok (.lushr, len)) (hL : len = bn_ln (.lushr) len) (e : bn_x mi (.lushr) pc ls st h = some a) : bn_XW mi pc ls st h a := by
  have hL : len = 1 := hL
  subst hL
  obtain ⟨x, y, r, rfl, rfl⟩ := bn_li_inv e
  exact bn_pure fun C hl _ _ kk => lv_lushr C.1 C.2.1 hd rfl (kk _ hl)
theorem bn_s_lshl  (hd : decode (bn_b mi) pc = .ok (.lshl, len)) (hL : len = bn_ln (.lshl) len) (e : bn_x mi (.lshl) pc ls st h = some a) : bn_XW mi pc ls st h a := by
  have hL : len = 1 := hL
  subst hL
  obtain ⟨x, y, r, rfl, rfl⟩ := bn_li_inv e
  exact bn_pure fun C hl _ _ kk => lv_lshl C.1 C.2.1 hd rfl (kk _ hl)
theorem bn_s_lshr  (hd : decode (bn_b mi) pc = .ok (.lshr, len)) (hL : len = bn_ln (.lshr) len) (e : bn_x mi (.lshr) pc ls st h = some a) : bn_XW mi pc ls st h a := by
  have hL : len = 1 := hL
  subst hL
  obtain ⟨x, y, r, rfl, rfl⟩ := bn_li_inv e
  exact bn_pure fun C hl _ _ kk => lv_lshr C.1 C.2.1 hd rfl (kk _ hl)
theorem bn_s_idiv  (hd : decode (bn_b mi) pc = .ok (.idiv, len)) (hL : len = bn_ln (.idiv) len) (e : bn_x mi (.idiv) pc ls st h = some a) : bn_XW mi pc ls st h a := by
  have hL : len = 1 := hL
  subst hL
  obtain ⟨x, y, r, rfl, hy, rfl⟩ := bn_idv_inv e
  exact bn_pure fun C hl _ _ kk => lv_idiv C.1 C.2.1 hd hy (kk _ hl)
theorem bn_s_irem  (hd : decode (bn_b mi) pc = .ok (.irem, len)) (hL : len = bn_ln (.irem) len) (e : bn_x mi (.irem) pc ls st h = some a) : bn_XW mi pc ls st h a := by
  have hL : len = 1 := hL
  subst hL
  obtain ⟨x, y, r, rfl, hy, rfl⟩ := bn_idv_inv e
  exact bn_pure fun C hl _ _ kk => lv_irem C.1 C.2.1 hd hy (kk _ hl)
theorem bn_s_ldiv  (hd : decode (bn_b mi) pc = .ok (.ldiv, len)) (hL : len = bn_ln (.ldiv) len) (e : bn_x mi (.ldiv) pc ls st h = some a) : bn_XW mi pc ls st h a := by
  have hL : len = 1 := hL
  subst hL
  obtain ⟨x, y, r, rfl, hy, rfl⟩ := bn_ldv_inv e
  exact bn_pure fun C hl _ _ kk => lv_ldiv C.1 C.2.1 hd hy (kk _ hl)
theorem bn_s_lrem  (hd : decode (bn_b mi) pc = .ok (.lrem, len)) (hL : len = bn_ln (.lrem) len) (e : bn_x mi (.lrem) pc ls st h = some a) : bn_XW mi pc ls st h a := by
  have hL : len = 1 := hL
  subst hL
  obtain ⟨x, y, r, rfl, hy, rfl⟩ := bn_ldv_inv e
  exact bn_pure fun C hl _ _ kk => lv_lrem C.1 C.2.1 hd hy (kk _ hl)
theorem bn_s_i2l  (hd : decode (bn_b mi) pc = .ok (.i2l, len)) (hL : len = bn_ln (.i2l) len) (e : bn_x mi (.i2l) pc ls st h = some a) : bn_XW mi pc ls st h a := by
  have hL : len = 1 := hL
  subst hL
  simp only [bn_x] at e
  split at e
  · cases e
    exact bn_pure fun C hl _ _ kk => lv_i2l C.1 C.2.1 hd rfl (kk _ hl)
  · cases e
theorem bn_s_l2i  (hd : decode (bn_b mi) pc = .ok (.l2i, len)) (hL : len = bn_ln (.l2i) len) (e : bn_x mi (.l2i) pc ls st h = some a) : bn_XW mi pc ls st h a := by
  have hL : len = 1 := hL
  subst hL
  simp only [bn_x] at e
  split at e
  · cases e
    exact bn_pure fun C hl _ _ kk => lv_l2i C.1 C.2.1 hd rfl (kk _ hl)
  · cases e
theorem bn_s_lcmp  (hd : decode (bn_b mi) pc = .ok (.lcmp, len)) (hL : len = bn_ln (.lcmp) len) (e : bn_x mi (.lcmp) pc ls st h = some a) : bn_XW mi pc ls st h a := by
  have hL : len = 1 := hL
  subst hL
  simp only [bn_x] at e
  split at e
  · cases e
    exact bn_pure fun C hl _ _ kk => W.lcmp C.1 C.2.1 hd (kk _ hl)
  · cases e
theorem bn_s_dup  (hd : decode (bn_b mi) pc = .ok (.dup, len)) (hL : len = bn_ln (.dup) len) (e : bn_x mi (.dup) pc ls st h = some a) : bn_XW mi pc ls st h a := by
  have hL : len = 1 := hL
  subst hL
  simp only [bn_x] at e
  split at e
  · split at e
    · rename_i hc
      cases e
      exact bn_pure fun C hl _ _ kk => lv_dup C.1 C.2.1 hd (by rw [bn_cv_cat]; exact hc) (kk _ hl)
    · cases e
  · cases e
theorem bn_s_pop  (hd : decode (bn_b mi) pc = .ok (.pop, len)) (hL : len = bn_ln (.pop) len) (e : bn_x mi (.pop) pc ls st h = some a) : bn_XW mi pc ls st h a := by
  have hL : len = 1 := hL
  subst hL
  simp only [bn_x] at e
  split at e
  · split at e
    · rename_i hc
      cases e
      exact bn_pure fun C hl _ _ kk => lv_pop C.1 C.2.1 hd (by rw [bn_cv_cat]; exact hc) (kk _ hl)
    · cases e
  · cases e
theorem bn_s_dup2  (hd : decode (bn_b mi) pc = .ok (.dup2, len)) (hL : len = bn_ln (.dup2) len) (e : bn_x mi (.dup2) pc ls st h = some a) : bn_XW mi pc ls st h a := by
  have hL : len = 1 := hL
  subst hL
  simp only [bn_x] at e
  split at e
  · split at e
    · rename_i hc
      cases e
      exact bn_pure fun C hl _ _ kk => lv_dup2_11 C.1 C.2.1 hd (by rw [bn_cv_cat]; exact hc.1) (by rw [bn_cv_cat]; exact hc.2) (kk _ hl)
    · cases e
  · cases e
theorem bn_s_goto {off : Int} (hd : decode (bn_b mi) pc = .ok (.goto off, len)) (hL : len = bn_ln (.goto off) len) (e : bn_x mi (.goto off) pc ls st h = some a) : bn_XW mi pc ls st h a := by
  have hL : len = 3 := hL
  subst hL
  obtain ⟨t, ht, rfl⟩ := Option.map_eq_some_iff.mp e
  exact bn_pure fun C hl _ _ kk => lv_goto C.1 C.2.1 hd (bn_tg_inv ht) (kk _ hl)
theorem bn_s_icmp_eq {off : Int} (hd : decode (bn_b mi) pc = .ok (.if_icmp .eq off, len)) (hL : len = bn_ln (.if_icmp .eq off) len) (e : bn_x mi (.if_icmp .eq off) pc ls st h = some a) : bn_XW mi pc ls st h a := by
  have hL : len = 3 := hL
  subst hL
  simp only [bn_x] at e
  split at e
  · rename_i y x r
    obtain ⟨t, ht, rfl⟩ := Option.map_eq_some_iff.mp e
    refine bn_pure fun C hl _ _ kk => ?_
    simp only [bn_cm, decide_eq_true_eq, Bool.not_eq_true', decide_eq_false_iff_not] at kk
    refine lv_icmp_eq C.1 C.2.1 hd (bn_tg_inv ht) (fun q => ?_) (fun q => ?_)
    · have := kk _ hl
      rw [if_pos q] at this
      exact this
    · have := kk _ hl
      rw [if_neg (by simpa using q)] at this
      exact this
  · cases e
theorem bn_s_if_eq {off : Int} (hd : decode (bn_b mi) pc = .ok (.ifCond .eq off, len)) (hL : len = bn_ln (.ifCond .eq off) len) (e : bn_x mi (.ifCond .eq off) pc ls st h = some a) : bn_XW mi pc ls st h a := by
  have hL : len = 3 := hL
  subst hL
  simp only [bn_x] at e
  split at e
  · rename_i x r
    obtain ⟨t, ht, rfl⟩ := Option.map_eq_some_iff.mp e
    refine bn_pure fun C hl _ _ kk => ?_
    simp only [bn_cm, decide_eq_true_eq, Bool.not_eq_true', decide_eq_false_iff_not] at kk
    refine lv_if_eq C.1 C.2.1 hd (bn_tg_inv ht) (fun q => ?_) (fun q => ?_)
    · have := kk _ hl
      rw [if_pos q] at this
      exact this
    · have := kk _ hl
      rw [if_neg (by simpa using q)] at this
      exact this
  · cases e
theorem bn_s_icmp_ne {off : Int} (hd : decode (bn_b mi) pc = .ok (.if_icmp .ne off, len)) (hL : len = bn_ln (.if_icmp .ne off) len) (e : bn_x mi (.if_icmp .ne off) pc ls st h = some a) : bn_XW mi pc ls st h a := by
  have hL : len = 3 := hL
  subst hL
  simp only [bn_x] at e
  split at e
  · rename_i y x r
    obtain ⟨t, ht, rfl⟩ := Option.map_eq_some_iff.mp e
    refine bn_pure fun C hl _ _ kk => ?_
    simp only [bn_cm, decide_eq_true_eq, Bool.not_eq_true', decide_eq_false_iff_not] at kk
    refine lv_icmp_ne C.1 C.2.1 hd (bn_tg_inv ht) (fun q => ?_) (fun q => ?_)
    · have := kk _ hl
      rw [if_pos q] at this
      exact this
    · have := kk _ hl
      rw [if_neg (by simpa using q)] at this
      exact this
  · cases e
theorem bn_s_if_ne {off : Int} (hd : decode (bn_b mi) pc = .ok (.ifCond .ne off, len)) (hL : len = bn_ln (.ifCond .ne off) len) (e : bn_x mi (.ifCond .ne off) pc ls st h = some a) : bn_XW mi pc ls st h a := by
  have hL : len = 3 := hL
  subst hL
  simp only [bn_x] at e
  split at e
  · rename_i x r
    obtain ⟨t, ht, rfl⟩ := Option.map_eq_some_iff.mp e
    refine bn_pure fun C hl _ _ kk => ?_
    simp only [bn_cm, decide_eq_true_eq, Bool.not_eq_true', decide_eq_false_iff_not] at kk
    refine lv_if_ne C.1 C.2.1 hd (bn_tg_inv ht) (fun q => ?_) (fun q => ?_)
    · have := kk _ hl
      rw [if_pos q] at this
      exact this
    · have := kk _ hl
      rw [if_neg (by simpa using q)] at this
      exact this
  · cases e
theorem bn_s_icmp_lt {off : Int} (hd : decode (bn_b mi) pc = .ok (.if_icmp .lt off, len)) (hL : len = bn_ln (.if_icmp .lt off) len) (e : bn_x mi (.if_icmp .lt off) pc ls st h = some a) : bn_XW mi pc ls st h a := by
  have hL : len = 3 := hL
  subst hL
  simp only [bn_x] at e
  split at e
  · rename_i y x r
    obtain ⟨t, ht, rfl⟩ := Option.map_eq_some_iff.mp e
    refine bn_pure fun C hl _ _ kk => ?_
    simp only [bn_cm, decide_eq_true_eq, Bool.not_eq_true', decide_eq_false_iff_not] at kk
    refine lv_icmp_lt C.1 C.2.1 hd (bn_tg_inv ht) (fun q => ?_) (fun q => ?_)
    · have := kk _ hl
      rw [if_pos q] at this
      exact this
    · have := kk _ hl
      rw [if_neg (by simpa using q)] at this
      exact this
  · cases e
theorem bn_s_if_lt {off : Int} (hd : decode (bn_b mi) pc = .ok (.ifCond .lt off, len)) (hL : len = bn_ln (.ifCond .lt off) len) (e : bn_x mi (.ifCond .lt off) pc ls st h = some a) : bn_XW mi pc ls st h a := by
  have hL : len = 3 := hL
  subst hL
  simp only [bn_x] at e
  split at e
  · rename_i x r
    obtain ⟨t, ht, rfl⟩ := Option.map_eq_some_iff.mp e
    refine bn_pure fun C hl _ _ kk => ?_
    simp only [bn_cm, decide_eq_true_eq, Bool.not_eq_true', decide_eq_false_iff_not] at kk
    refine lv_if_lt C.1 C.2.1 hd (bn_tg_inv ht) (fun q => ?_) (fun q => ?_)
    · have := kk _ hl
      rw [if_pos q] at this
      exact this
    · have := kk _ hl
      rw [if_neg (by simpa using q)] at this
      exact this
  · cases e
theorem bn_s_icmp_ge {off : Int} (hd : decode (bn_b mi) pc = .ok (.if_icmp .ge off, len)) (hL : len = bn_ln (.if_icmp .ge off) len) (e : bn_x mi (.if_icmp .ge off) pc ls st h = some a) : bn_XW mi pc ls st h a := by
  have hL : len = 3 := hL
  subst hL
  simp only [bn_x] at e
  split at e
  · rename_i y x r
    obtain ⟨t, ht, rfl⟩ := Option.map_eq_some_iff.mp e
    refine bn_pure fun C hl _ _ kk => ?_
    simp only [bn_cm, decide_eq_true_eq, Bool.not_eq_true', decide_eq_false_iff_not] at kk
    refine lv_icmp_ge C.1 C.2.1 hd (bn_tg_inv ht) (fun q => ?_) (fun q => ?_)
    · have := kk _ hl
      rw [if_pos q] at this
      exact this
    · have := kk _ hl
      rw [if_neg (by simpa using q)] at this
      exact this
  · cases e
theorem bn_s_if_ge {off : Int} (hd : decode (bn_b mi) pc = .ok (.ifCond .ge off, len)) (hL : len = bn_ln (.ifCond .ge off) len) (e : bn_x mi (.ifCond .ge off) pc ls st h = some a) : bn_XW mi pc ls st h a := by
  have hL : len = 3 := hL
  subst hL
  simp only [bn_x] at e
  split at e
  · rename_i x r
    obtain ⟨t, ht, rfl⟩ := Option.map_eq_some_iff.mp e
    refine bn_pure fun C hl _ _ kk => ?_
    simp only [bn_cm, decide_eq_true_eq, Bool.not_eq_true', decide_eq_false_iff_not] at kk
    refine lv_if_ge C.1 C.2.1 hd (bn_tg_inv ht) (fun q => ?_) (fun q => ?_)
    · have := kk _ hl
      rw [if_pos q] at this
      exact this
    · have := kk _ hl
      rw [if_neg (by simpa using q)] at this
      exact this
  · cases e
theorem bn_s_icmp_gt {off : Int} (hd : decode (bn_b mi) pc = .ok (.if_icmp .gt off, len)) (hL : len = bn_ln (.if_icmp .gt off) len) (e : bn_x mi (.if_icmp .gt off) pc ls st h = some a) : bn_XW mi pc ls st h a := by
  have hL : len = 3 := hL
  subst hL
  simp only [bn_x] at e
  split at e
  · rename_i y x r
    obtain ⟨t, ht, rfl⟩ := Option.map_eq_some_iff.mp e
    refine bn_pure fun C hl _ _ kk => ?_
    simp only [bn_cm, decide_eq_true_eq, Bool.not_eq_true', decide_eq_false_iff_not] at kk
    refine lv_icmp_gt C.1 C.2.1 hd (bn_tg_inv ht) (fun q => ?_) (fun q => ?_)
    · have := kk _ hl
      rw [if_pos q] at this
      exact this
    · have := kk _ hl
      rw [if_neg (by simpa using q)] at this
      exact this
  · cases e
theorem bn_s_if_gt {off : Int} (hd : decode (bn_b mi) pc = .ok (.ifCond .gt off, len)) (hL : len = bn_ln (.ifCond .gt off) len) (e : bn_x mi (.ifCond .gt off) pc ls st h = some a) : bn_XW mi pc ls st h a := by
  have hL : len = 3 := hL
  subst hL
  simp only [bn_x] at e
  split at e
  · rename_i x r
    obtain ⟨t, ht, rfl⟩ := Option.map_eq_some_iff.mp e
    refine bn_pure fun C hl _ _ kk => ?_
    simp only [bn_cm, decide_eq_true_eq, Bool.not_eq_true', decide_eq_false_iff_not] at kk
    refine lv_if_gt C.1 C.2.1 hd (bn_tg_inv ht) (fun q => ?_) (fun q => ?_)
    · have := kk _ hl
      rw [if_pos q] at this
      exact this
    · have := kk _ hl
      rw [if_neg (by simpa using q)] at this
      exact this
  · cases e
theorem bn_s_icmp_le {off : Int} (hd : decode (bn_b mi) pc = .ok (.if_icmp .le off, len)) (hL : len = bn_ln (.if_icmp .le off) len) (e : bn_x mi (.if_icmp .le off) pc ls st h = some a) : bn_XW mi pc ls st h a := by
  have hL : len = 3 := hL
  subst hL
  simp only [bn_x] at e
  split at e
  · rename_i y x r
    obtain ⟨t, ht, rfl⟩ := Option.map_eq_some_iff.mp e
    refine bn_pure fun C hl _ _ kk => ?_
    simp only [bn_cm, decide_eq_true_eq, Bool.not_eq_true', decide_eq_false_iff_not] at kk
    refine lv_icmp_le C.1 C.2.1 hd (bn_tg_inv ht) (fun q => ?_) (fun q => ?_)
    · have := kk _ hl
      rw [if_pos q] at this
      exact this
    · have := kk _ hl
      rw [if_neg (by simpa using q)] at this
      exact this
  · cases e
theorem bn_s_if_le {off : Int} (hd : decode (bn_b mi) pc = .ok (.ifCond .le off, len)) (hL : len = bn_ln (.ifCond .le off) len) (e : bn_x mi (.ifCond .le off) pc ls st h = some a) : bn_XW mi pc ls st h a := by
  have hL : len = 3 := hL
  subst hL
  simp only [bn_x] at e
  split at e
  · rename_i x r
    obtain ⟨t, ht, rfl⟩ := Option.map_eq_some_iff.mp e
    refine bn_pure fun C hl _ _ kk => ?_
    simp only [bn_cm, decide_eq_true_eq, Bool.not_eq_true', decide_eq_false_iff_not] at kk
    refine lv_if_le C.1 C.2.1 hd (bn_tg_inv ht) (fun q => ?_) (fun q => ?_)
    · have := kk _ hl
      rw [if_pos q] at this
      exact this
    · have := kk _ hl
      rw [if_neg (by simpa using q)] at this
      exact this
  · cases e
end XS
end
section
/-! ONE INSTRUCTION OF THE WALK IS ONE OF THE MACHINE: cells -/
section XH
variable {mi pc len : Nat} {ls : bn_L} {st : List Value} {h : bn_H} {a : bn_Q}
theorem bn_fits (ty : FieldType) (G : bn_G) (v : Value) (h : fits ty v = true) : fits ty (bn_cv G v) = true := by
  cases v with
  | ref k => cases ty <;> first | rfl | (exact h) | (simp [fits] at h)
  | retAddr k => cases ty <;> simp [fits] at h
  | _ => exact h
theorem bn_narr (ty : FieldType) (G : bn_G) (v : Value) (h : narrow ty v = v) : narrow ty (bn_cv G v) = bn_cv G v := by
  cases v with
  | ref k => cases ty <;> rfl
  | retAddr k => cases ty <;> rfl
  | _ => exact h
theorem bn_s_getfield {k : Nat} (hd : decode (bn_b mi) pc = .ok (.getfield k, len)) (hL : len = bn_ln (.getfield k) len) (e : bn_x mi (.getfield k) pc ls st h = some a) : bn_XW mi pc ls st h a := by
  have hL : len = 3 := hL
  subst hL
  simp only [bn_x] at e
  split at e
  · obtain ⟨q, hq, e⟩ := Option.bind_eq_some_iff.mp e
    obtain ⟨v, hv, e⟩ := Option.bind_eq_some_iff.mp e
    split at e
    rotate_left
    · cases e
    cases e
    obtain ⟨fs, hg, hk⟩ := bn_gf_inv hv
    obtain ⟨f1, f2, f3, f4⟩ := bn_fl_ok hq
    refine bn_heap rfl rfl rfl fun C hl hW kk => ?_
    exact va_get C.1 C.2.1 C.2.2.2.2.1 (bn_inX f4) C.2.2.2.1 C.2.2.2.2.2.2.2.2.1 hW.1 _ (bn_wl_get hg) (bn_clX f4) q.2 f2 (C.2.2.2.2.1 _ f1) (fun x hx => by rw [f3] at hx; exact hx) (by rw [List.getElem?_map, hk]; rfl) hd (kk _ _ _ hW hl)
  · cases e
theorem bn_s_putfield {k : Nat} (hd : decode (bn_b mi) pc = .ok (.putfield k, len)) (hL : len = bn_ln (.putfield k) len) (e : bn_x mi (.putfield k) pc ls st h = some a) : bn_XW mi pc ls st h a := by
  have hL : len = 3 := hL
  subst hL
  simp only [bn_x] at e
  split at e
  · obtain ⟨q, hq, e⟩ := Option.bind_eq_some_iff.mp e
    split at e
    · rename_i hc
      obtain ⟨c1, c2, c3⟩ := hc
      obtain ⟨h', hp, rfl⟩ := Option.map_eq_some_iff.mp e
      obtain ⟨fs, hg, hk, rfl⟩ := bn_pf_inv hp
      obtain ⟨f1, f2, f3, f4⟩ := bn_fl_ok hq
      refine bn_heap rfl rfl rfl fun {_ _ _ _ _ _ _ _ _ _ _ G _ _ _ _ _} C hl hW kk => ?_
      have hn := bn_narr _ G _ c1
      have hf := bn_fits _ G _ c2
      by_cases hfin : (bn_T q.1 q.2).2.2.2 = false
      · have c3 := hfin
        exact va_put C.1 C.2.1 C.2.2.2.2.1 (bn_inX f4) (bn_ty q.1) (bn_tyX f4) (bn_nmX f4) C.2.2.2.1 C.2.2.2.2.2.2.2.2.1 hW.1 hW.2.1 hW.2.2 _ (bn_wl_get hg) (bn_clX f4) q.2 f2 (C.2.2.2.2.1 _ f1) (fun x hx => by rw [f3] at hx; exact hx) c3 (bn_tyX f4 _ f2) hn hf (by rw [List.length_map]; exact hk) hd (fun H1 locs1 g1 g2 g3 => kk _ _ _ (bn_W.set hg (by simp only [bn_ce, List.map_set]) g1 g2 g3) hl)
      rcases c3 with c3 | ⟨c4, c4'⟩
      · exact absurd c3 hfin
      · exact va_putF C.1 C.2.1 C.2.2.2.2.1 (bn_inX f4) (bn_ty q.1) (bn_tyX f4) (bn_nmX f4) C.2.2.2.1 C.2.2.2.2.2.2.2.2.1 hW.1 hW.2.1 hW.2.2 _ (bn_wl_get hg) (bn_clX f4) q.2 f2 (C.2.2.2.2.1 _ f1) (fun x hx => by rw [f3] at hx; exact hx) (by cases hfi : (bn_T q.1 q.2).2.2.2 with | true => rfl | false => exact absurd hfi hfin) (C.2.2.2.2.2.1 c4) c4' (bn_tyX f4 _ f2) hn hf (by rw [List.length_map]; exact hk) hd (fun H1 locs1 g1 g2 g3 => kk _ _ _ (bn_W.set hg (by simp only [bn_ce, List.map_set]) g1 g2 g3) hl)
    · cases e
  · cases e
theorem bn_s_iaload  (hd : decode (bn_b mi) pc = .ok (.iaload, len)) (hL : len = bn_ln (.iaload) len) (e : bn_x mi (.iaload) pc ls st h = some a) : bn_XW mi pc ls st h a := by
  have hL : len = 1 := hL
  subst hL
  simp only [bn_x] at e
  split at e
  · obtain ⟨v, hv, rfl⟩ := Option.map_eq_some_iff.mp e
    obtain ⟨b, hb, hv⟩ := Option.bind_eq_some_iff.mp hv
    split at hv
    · cases hv
    · rename_i hin
      cases hv
      exact bn_heap rfl rfl rfl fun C hl hW kk => va_iald C.1 C.2.1 C.2.2.2.2.2.2.2.2.1 hW.1 _ 0 (bn_wl_get (bn_ai_inv hb)) rfl hin hd (kk _ _ _ hW hl)
  · split at e
    · cases e
    · rename_i hin
      cases e
      exact bn_heap rfl rfl rfl fun {p l e R s m args below meth c Q G H locs cells slots A} C hl hW kk => va_sld C.1 C.2.1 C.2.2.2.2.2.2.2.2.2.2.1 (show G.2.1 < s.heap.size from Nat.lt_of_lt_of_le C.2.2.2.2.2.2.2.2.2.2.2.1 C.2.2.2.2.2.2.2.2.2.2.2.2) (Nat.not_le.mpr C.2.2.2.2.2.2.2.2.2.2.2.1) hW.2.2 hin hd (kk _ _ _ hW hl)
  · cases e
theorem bn_s_baload  (hd : decode (bn_b mi) pc = .ok (.baload, len)) (hL : len = bn_ln (.baload) len) (e : bn_x mi (.baload) pc ls st h = some a) : bn_XW mi pc ls st h a := by
  have hL : len = 1 := hL
  subst hL
  simp only [bn_x] at e
  split at e
  · obtain ⟨v, hv, rfl⟩ := Option.map_eq_some_iff.mp e
    obtain ⟨b, hb, hv⟩ := Option.bind_eq_some_iff.mp hv
    split at hv
    · cases hv
    · rename_i hin
      cases hv
      exact bn_heap rfl rfl rfl fun C hl hW kk => va_zald C.1 C.2.1 C.2.2.2.2.2.2.2.2.1 hW.1 _ 1 (bn_wl_get (bn_ai_inv hb)) rfl hin hd (kk _ _ _ hW hl)
  · cases e
theorem bn_s_laload  (hd : decode (bn_b mi) pc = .ok (.laload, len)) (hL : len = bn_ln (.laload) len) (e : bn_x mi (.laload) pc ls st h = some a) : bn_XW mi pc ls st h a := by
  have hL : len = 1 := hL
  subst hL
  simp only [bn_x] at e
  split at e
  · obtain ⟨v, hv, rfl⟩ := Option.map_eq_some_iff.mp e
    obtain ⟨b, hb, hv⟩ := Option.bind_eq_some_iff.mp hv
    split at hv
    · cases hv
    · rename_i hin
      cases hv
      exact bn_heap rfl rfl rfl fun C hl hW kk => va_lald C.1 C.2.1 C.2.2.2.2.2.2.2.2.1 hW.1 _ 2 (bn_wl_get (bn_al_inv hb)) rfl hin hd (kk _ _ _ hW hl)
  · cases e
theorem bn_s_aaload  (hd : decode (bn_b mi) pc = .ok (.aaload, len)) (hL : len = bn_ln (.aaload) len) (e : bn_x mi (.aaload) pc ls st h = some a) : bn_XW mi pc ls st h a := by
  have hL : len = 1 := hL
  subst hL
  simp only [bn_x] at e
  split at e
  · obtain ⟨v, hv, rfl⟩ := Option.map_eq_some_iff.mp e
    obtain ⟨b, hb, hv⟩ := Option.bind_eq_some_iff.mp hv
    split at hv
    · cases hv
    · rename_i hin
      refine bn_heap rfl rfl rfl fun C hl hW kk => va_aldq C.1 C.2.1 C.2.2.2.2.2.2.2.2.1 hW.1 _ 3 (bn_wl_get (bn_ar_inv hb)) rfl hin hd ?_
      have := kk _ _ _ hW hl
      simp only [hv]
      exact this
  · cases e
theorem bn_s_iastore  (hd : decode (bn_b mi) pc = .ok (.iastore, len)) (hL : len = bn_ln (.iastore) len) (e : bn_x mi (.iastore) pc ls st h = some a) : bn_XW mi pc ls st h a := by
  have hL : len = 1 := hL
  subst hL
  simp only [bn_x] at e
  split at e
  · obtain ⟨v, hv, rfl⟩ := Option.map_eq_some_iff.mp e
    obtain ⟨b, hb, hv⟩ := Option.bind_eq_some_iff.mp hv
    split at hv
    · cases hv
    · rename_i hin
      cases hv
      exact bn_heap rfl rfl rfl fun C hl hW kk => va_iast C.1 C.2.1 C.2.2.2.2.2.2.2.2.1 hW.1 hW.2.1 hW.2.2 _ 0 (bn_wl_get (bn_ai_inv hb)) rfl hin hd (fun H1 locs1 g1 g2 g3 => kk _ _ _ (bn_W.set (bn_ai_inv hb) rfl g1 g2 g3) hl)
  · cases e
theorem bn_s_bastore  (hd : decode (bn_b mi) pc = .ok (.bastore, len)) (hL : len = bn_ln (.bastore) len) (e : bn_x mi (.bastore) pc ls st h = some a) : bn_XW mi pc ls st h a := by
  have hL : len = 1 := hL
  subst hL
  simp only [bn_x] at e
  split at e
  · obtain ⟨v, hv, rfl⟩ := Option.map_eq_some_iff.mp e
    obtain ⟨b, hb, hv⟩ := Option.bind_eq_some_iff.mp hv
    split at hv
    · cases hv
    · rename_i hin
      cases hv
      exact bn_heap rfl rfl rfl fun C hl hW kk => va_zast C.1 C.2.1 C.2.2.2.2.2.2.2.2.1 hW.1 hW.2.1 hW.2.2 _ 1 (bn_wl_get (bn_ai_inv hb)) rfl hin hd (fun H1 locs1 g1 g2 g3 => kk _ _ _ (bn_W.set (bn_ai_inv hb) rfl g1 g2 g3) hl)
  · cases e
theorem bn_s_lastore  (hd : decode (bn_b mi) pc = .ok (.lastore, len)) (hL : len = bn_ln (.lastore) len) (e : bn_x mi (.lastore) pc ls st h = some a) : bn_XW mi pc ls st h a := by
  have hL : len = 1 := hL
  subst hL
  simp only [bn_x] at e
  split at e
  · obtain ⟨v, hv, rfl⟩ := Option.map_eq_some_iff.mp e
    obtain ⟨b, hb, hv⟩ := Option.bind_eq_some_iff.mp hv
    split at hv
    · cases hv
    · rename_i hin
      cases hv
      exact bn_heap rfl rfl rfl fun C hl hW kk => va_last C.1 C.2.1 C.2.2.2.2.2.2.2.2.1 hW.1 hW.2.1 hW.2.2 _ 2 (bn_wl_get (bn_al_inv hb)) rfl hin hd (fun H1 locs1 g1 g2 g3 => kk _ _ _ (bn_W.set (bn_al_inv hb) rfl g1 g2 g3) hl)
  · cases e
theorem bn_upR (G : bn_G) (f : Nat → Option Nat) (i x : Nat) : va_up (fun j => (f j).map (fun k => G.1 + k)) i (some (G.1 + x)) = fun j => (va_up f i (some x) j).map (fun k => G.1 + k) := by
  funext j
  simp only [va_up]
  split <;> rfl
theorem bn_s_aastore  (hd : decode (bn_b mi) pc = .ok (.aastore, len)) (hL : len = bn_ln (.aastore) len) (e : bn_x mi (.aastore) pc ls st h = some a) : bn_XW mi pc ls st h a := by
  have hL : len = 1 := hL
  subst hL
  simp only [bn_x] at e
  split at e
  · obtain ⟨v, hv, rfl⟩ := Option.map_eq_some_iff.mp e
    obtain ⟨b, hb, hv⟩ := Option.bind_eq_some_iff.mp hv
    split at hv
    · cases hv
    · rename_i hin
      cases hv
      have hC := (Bool.not_eq_false _).mp (not_or.mp hin).2
      obtain ⟨fs, hx⟩ := bn_isC_inv hC
      exact bn_heap rfl rfl rfl fun C hl hW kk => va_astq (r := (RX0, TX0, 15)) (ci := 0) C.1 C.2.1 C.2.2.2.2.2.2.2.2.1 hW.1 hW.2.1 hW.2.2 _ 3 _ (bn_wl_get (bn_ar_inv hb)) rfl (bn_wl_get hx) rfl (fun q => hin (Or.inl q)) hd (fun H1 locs1 g1 g2 g3 => kk _ _ _ (bn_W.set (bn_ar_inv hb) (by
        simp only [bn_ce, bn_ca]
        rw [bn_upR]) g1 g2 g3) hl)
  · cases e
theorem bn_s_arraylength  (hd : decode (bn_b mi) pc = .ok (.arraylength, len)) (hL : len = bn_ln (.arraylength) len) (e : bn_x mi (.arraylength) pc ls st h = some a) : bn_XW mi pc ls st h a := by
  have hL : len = 1 := hL
  subst hL
  simp only [bn_x] at e
  split at e
  · cases e
    exact bn_heap rfl rfl rfl fun {p l e R s m args below meth c Q G H locs cells slots A} C hl hW kk => va_slen C.1 C.2.1 C.2.2.2.2.2.2.2.2.2.2.1 (show G.2.1 < s.heap.size from Nat.lt_of_lt_of_le C.2.2.2.2.2.2.2.2.2.2.2.1 C.2.2.2.2.2.2.2.2.2.2.2.2) (Nat.not_le.mpr C.2.2.2.2.2.2.2.2.2.2.2.1) hW.2.2 hd (kk _ _ _ hW hl)
  · cases e
theorem bn_s_tableswitch {dflt lo hi : Int} {offs : Array Int} (hd : decode (bn_b mi) pc = .ok (.tableswitch dflt lo hi offs, len)) (hL : len = bn_ln (.tableswitch dflt lo hi offs) len) (e : bn_x mi (.tableswitch dflt lo hi offs) pc ls st h = some a) : bn_XW mi pc ls st h a := by
  have hL : len = len := hL
  clear hL
  simp only [bn_x] at e
  split at e
  · obtain ⟨off, ho, e⟩ := Option.bind_eq_some_iff.mp e
    obtain ⟨t, ht, rfl⟩ := Option.map_eq_some_iff.mp e
    unfold bn_ts at ho
    split at ho
    · rename_i hq
      cases ho
      exact bn_pure fun C hl _ _ kk => lv_tableOut C.1 C.2.1 hd hq (bn_tg_inv ht) (kk _ hl)
    · rename_i hq
      exact bn_pure fun C hl _ _ kk => lv_tableIn C.1 C.2.1 hd (fun q => hq (Or.inl q)) (fun q => hq (Or.inr q)) ho (bn_tg_inv ht) (kk _ hl)
  · cases e
theorem bn_df {ci : Nat} (hc : ci < 4) (G : bn_G) : ∀ j, j < bn_N ci → defaultValue (bn_ty ci j) = vp_V (((List.range (bn_N ci)).map (fun j => bn_dv (bn_ty ci j))).map (bn_cv G)) j := by
  intro j hj
  unfold vp_V
  rw [List.map_map, List.getD_eq_getElem?_getD, List.getElem?_map, List.getElem?_range hj]
  show _ = bn_cv G (defaultValue (bn_ty ci j))
  cases bn_ty ci j <;> rfl
theorem bn_s_new {k : Nat} (hd : decode (bn_b mi) pc = .ok (.new k, len)) (hL : len = bn_ln (.new k) len) (e : bn_x mi (.new k) pc ls st h = some a) : bn_XW mi pc ls st h a := by
  have hL : len = 3 := hL
  subst hL
  simp only [bn_x] at e
  obtain ⟨ci, hci, rfl⟩ := Option.map_eq_some_iff.mp e
  obtain ⟨f1, f2, f3, f4⟩ := bn_ck_ok hci
  exact bn_newW (st' := st) fun {p l e R s m args below meth c Q G H locs cells slots A} C hl hW hA hc hz kk => va_new C.1 C.2.1 C.2.2.2.2.1 (bn_inX f4) (bn_ty ci) (bn_tyX f4) C.2.2.2.1 (C.2.2.2.2.1 _ f1) (C.2.2.2.2.1 _ f2) (C.2.2.2.2.1 _ f3) C.2.2.2.2.2.2.2.2.1 hW.1 hW.2.1 hW.2.2 hA (bn_clX f4) (bn_df f4 G) hc hz hd (fun q H1 g1 g2 g3 => kk q H1 _ A g1 g2 g3 hl)
theorem bn_s_newarray_int  (hd : decode (bn_b mi) pc = .ok (.newarray .int, len)) (hL : len = bn_ln (.newarray .int) len) (e : bn_x mi (.newarray .int) pc ls st h = some a) : bn_XW mi pc ls st h a := by
  have hL : len = 2 := hL
  subst hL
  simp only [bn_x] at e
  split at e
  · split at e
    · cases e
    · rename_i n r hin
      cases e
      have h1 : ¬ n < 0 := fun q => hin (Or.inl q)
      have h2 : n.toNatClampNeg ≤ 100000 := by
        rcases Nat.lt_or_ge 100000 n.toNatClampNeg with q | q
        · exact absurd (Or.inr q) hin
        · exact q
      refine bn_newW (st' := r) fun {p l e R s m args below meth c Q G H locs cells slots A} C hl hW hA hc hz kk => va_newa (atype := .int) C.1 C.2.1 (C.2.2.2.2.1 _ bn_w_ai) rfl C.2.2.2.2.2.2.2.2.1 hW.1 hW.2.1 hW.2.2 hA (fun cA => vp_cell_i _ _ _) h1 rfl (Nat.le_trans (Nat.mul_le_mul_right _ h2) (Nat.le_of_ble_eq_true rfl)) hc hz hd (fun q cA H1 g0 g1 g2 g3 => ?_)
      have e1 := (g0.2 4 _ rfl).2
      have e2 := (C.2.2.2.2.2.2.2.2.1.2 0 _ rfl).2
      have e3 : cA = G.2.2.2 0 := Option.some.inj (e1.symm.trans e2)
      subst e3
      exact kk q H1 _ A g1 g2 g3 hl
  · cases e
theorem bn_s_newarray_boolean  (hd : decode (bn_b mi) pc = .ok (.newarray .boolean, len)) (hL : len = bn_ln (.newarray .boolean) len) (e : bn_x mi (.newarray .boolean) pc ls st h = some a) : bn_XW mi pc ls st h a := by
  have hL : len = 2 := hL
  subst hL
  simp only [bn_x] at e
  split at e
  · split at e
    · cases e
    · rename_i n r hin
      cases e
      have h1 : ¬ n < 0 := fun q => hin (Or.inl q)
      have h2 : n.toNatClampNeg ≤ 100000 := by
        rcases Nat.lt_or_ge 100000 n.toNatClampNeg with q | q
        · exact absurd (Or.inr q) hin
        · exact q
      refine bn_newW (st' := r) fun {p l e R s m args below meth c Q G H locs cells slots A} C hl hW hA hc hz kk => va_newa (atype := .boolean) C.1 C.2.1 (C.2.2.2.2.1 _ bn_w_az) rfl C.2.2.2.2.2.2.2.2.1 hW.1 hW.2.1 hW.2.2 hA (fun cA => vp_cell_i _ _ _) h1 rfl (Nat.le_trans (Nat.mul_le_mul_right _ h2) (Nat.le_of_ble_eq_true rfl)) hc hz hd (fun q cA H1 g0 g1 g2 g3 => ?_)
      have e1 := (g0.2 4 _ rfl).2
      have e2 := (C.2.2.2.2.2.2.2.2.1.2 1 _ rfl).2
      have e3 : cA = G.2.2.2 1 := Option.some.inj (e1.symm.trans e2)
      subst e3
      exact kk q H1 _ A g1 g2 g3 hl
  · cases e
theorem bn_s_newarray_long  (hd : decode (bn_b mi) pc = .ok (.newarray .long, len)) (hL : len = bn_ln (.newarray .long) len) (e : bn_x mi (.newarray .long) pc ls st h = some a) : bn_XW mi pc ls st h a := by
  have hL : len = 2 := hL
  subst hL
  simp only [bn_x] at e
  split at e
  · split at e
    · cases e
    · rename_i n r hin
      cases e
      have h1 : ¬ n < 0 := fun q => hin (Or.inl q)
      have h2 : n.toNatClampNeg ≤ 100000 := by
        rcases Nat.lt_or_ge 100000 n.toNatClampNeg with q | q
        · exact absurd (Or.inr q) hin
        · exact q
      refine bn_newW (st' := r) fun {p l e R s m args below meth c Q G H locs cells slots A} C hl hW hA hc hz kk => va_newa (atype := .long) C.1 C.2.1 (C.2.2.2.2.1 _ bn_w_al) rfl C.2.2.2.2.2.2.2.2.1 hW.1 hW.2.1 hW.2.2 hA (fun cA => vp_cell_l _ _ _) h1 rfl (Nat.le_trans (Nat.mul_le_mul_right _ h2) (Nat.le_of_ble_eq_true rfl)) hc hz hd (fun q cA H1 g0 g1 g2 g3 => ?_)
      have e1 := (g0.2 4 _ rfl).2
      have e2 := (C.2.2.2.2.2.2.2.2.1.2 2 _ rfl).2
      have e3 : cA = G.2.2.2 2 := Option.some.inj (e1.symm.trans e2)
      subst e3
      exact kk q H1 _ A g1 g2 g3 hl
  · cases e
theorem bn_s_anewarray {k : Nat} (hd : decode (bn_b mi) pc = .ok (.anewarray k, len)) (hL : len = bn_ln (.anewarray k) len) (e : bn_x mi (.anewarray k) pc ls st h = some a) : bn_XW mi pc ls st h a := by
  have hL : len = 3 := hL
  subst hL
  simp only [bn_x] at e
  split at e
  · split at e
    · cases e
    · rename_i n r hin
      cases e
      have h1 : ¬ n < 0 := fun q => hin (Or.inl (Or.inl q))
      have h2 : n.toNatClampNeg ≤ 100000 := by
        rcases Nat.lt_or_ge 100000 n.toNatClampNeg with q | q
        · exact absurd (Or.inl (Or.inr q)) hin
        · exact q
      have h3 : bn_ck (bn_c mi) k = some 0 := by
        by_cases q : bn_ck (bn_c mi) k = some 0
        · exact q
        · exact absurd (Or.inr q) hin
      obtain ⟨f1, f2, f3, f4⟩ := bn_ck_ok h3
      refine bn_newW (st' := r) fun {p l e R s m args below meth c Q G H locs cells slots A} C hl hW hA hc hz kk => va_newq (C := RX0) C.1 C.2.1 C.2.2.2.1 (C.2.2.2.2.1 _ f1) C.2.2.2.2.2.2.2.2.2.1.1 C.2.2.2.2.2.2.2.2.1 hW.1 hW.2.1 hW.2.2 hA h1 rfl (Nat.le_trans (Nat.mul_le_mul_right _ h2) (Nat.le_of_ble_eq_true rfl)) hc hz hd (fun q cA H1 g0 g1 g2 g3 => ?_)
      obtain ⟨_, _, _, _, _, e1⟩ := (g0.2 4 _ rfl).2
      obtain ⟨_, _, _, _, _, e2⟩ := (C.2.2.2.2.2.2.2.2.1.2 3 _ rfl).2
      have e3 : cA = G.2.2.2 3 := Option.some.inj (e1.symm.trans e2)
      subst e3
      exact kk q H1 _ A g1 g2 g3 hl
  · cases e
theorem bn_fr {mi : Nat} {idx : Nat} {q : Nat × Nat} (h : bn_ml (bn_c mi) idx = some q) : bn_ml (bn_c mi) idx = some q := h
def bn_okR (mi pc : Nat) : Bool := decide (1 ≤ bn_f mi) && decide (26 ≤ bn_l mi)
end XH
end
section
/-! ONE INSTRUCTION OF THE WALK IS ONE OF THE MACHINE: Object.<init>, arraycopy, Math.max, Math.min; all of them together -/
section XN
variable {mi pc len : Nat} {ls : bn_L} {st : List Value} {h : bn_H} {a : bn_Q}
theorem bn_s_objinit {k : Nat} (hd : decode (bn_b mi) pc = .ok (.invokespecial k, len)) (hL : len = bn_ln (.invokespecial k) len) (e : bn_x mi (.invokespecial k) pc ls st h = some a) : bn_XW mi pc ls st h a := by
  have hL : len = 3 := hL
  subst hL
  simp only [bn_x] at e
  split at e
  · split at e
    · rename_i p0 r hc
      obtain ⟨c1, c2, c3, c4⟩ := hc
      cases e
      obtain ⟨i, hM⟩ := bn_ml_ok c1
      refine bn_pure fun {p l e R s m args below meth c Q G H locs cells slots A} C hl _ _ kk => ?_
      have f1 := C.2.2.2.2.2.2.1
      have f2 := C.2.2.2.2.2.2.2.1
      have hct := bn_ct_cv G r
      exact W.objInit C.1 C.2.1 C.2.2.2.1 (C.2.2.2.2.1 _ (bn_TT_in hM rfl)) (C.2.2.2.2.1 _ bn_w_oin) (C.2.2.2.2.1 _ bn_w_oco) rfl (hl.1.trans C.2.2.1.symm) rfl hd (by omega) (by
        have : 2 * (F0 m pc A (List.map (bn_cv G) (.ref p0 :: r))).monitorRoom + ((r.map (bn_cv G)).map fun v => v.category).sum ≤ 8 := lv_room (by rw [hct]; exact c2)
        omega) (kk _ hl)
    · cases e
  · cases e
theorem bn_s_static {k : Nat} (hd : decode (bn_b mi) pc = .ok (.invokestatic k, len)) (hL : len = bn_ln (.invokestatic k) len) (e : bn_x mi (.invokestatic k) pc ls st h = some a) : bn_XW mi pc ls st h a := by
  have hL : len = 3 := hL
  subst hL
  simp only [bn_x] at e
  split at e
  · rename_i j hj
    obtain ⟨i, hM⟩ := bn_ml_ok hj
    split at e
    · split at e
      · rename_i n dp q sp p r hc
        obtain ⟨c2, c3, c4⟩ := hc
        obtain ⟨v, hv, rfl⟩ := Option.map_eq_some_iff.mp e
        obtain ⟨b0, hb0, hv⟩ := Option.bind_eq_some_iff.mp hv
        obtain ⟨b1, hb1, hv⟩ := Option.bind_eq_some_iff.mp hv
        split at hv
        · cases hv
        · rename_i hin
          cases hv
          obtain ⟨i1, i2⟩ := not_or.mp hin
          obtain ⟨i3, i4⟩ := not_or.mp i1
          obtain ⟨i5, i6⟩ := not_or.mp i4
          obtain ⟨i7, i8⟩ := not_or.mp i2
          refine bn_heap rfl rfl rfl fun {p l e R s m args below meth c Q G H locs cells slots A} C hl hW kk => ?_
          have f1 := C.2.2.2.2.2.2.1
          have f2 := C.2.2.2.2.2.2.2.1
          have hct := bn_ct_cv G r
          exact va_copyi C.1 C.2.1 (C.2.2.1.trans hl.1.symm) C.2.2.2.1 (C.2.2.2.2.1 _ (bn_TT_in hM rfl)) (C.2.2.2.2.1 _ bn_w_nat) (C.2.2.2.2.1 _ bn_w_sta) (C.2.2.2.2.1 _ bn_w_sys) C.2.2.2.2.2.2.2.2.1 hW.1 hW.2.1 hW.2.2 _ _ 0 0 (bn_wl_get (bn_ai_inv hb0)) (bn_wl_get (bn_ai_inv hb1)) rfl rfl rfl i3 i5 i6 (Nat.le_of_not_lt i7) (Nat.le_of_not_lt i8) (fun _ _ => rfl) (by omega) (by
            have : nativeFrameWords "java/lang/System" "arraycopy" 5 = 7 := by decide +kernel
            rw [this, hct]; omega) hd (fun H1 locs1 g1 g2 g3 => kk _ _ _ (bn_W.set (bn_ai_inv hb1) rfl g1 g2 g3) hl)
      · cases e
    · cases e
  · rename_i j hj
    obtain ⟨i, hM⟩ := bn_ml_ok hj
    split at e
    · split at e
      · rename_i y x r hc
        obtain ⟨c2, c3, c4⟩ := hc
        cases e
        refine bn_pure fun {p l e R s m args below meth c Q G H locs cells slots A} C hl h1 h2 kk => ?_
        have f1 := C.2.2.2.2.2.2.1
        have f2 := C.2.2.2.2.2.2.2.1
        have hct := bn_ct_cv G r
        exact va_mmax C.1 C.2.1 (C.2.2.1.trans hl.1.symm) C.2.2.2.1 (C.2.2.2.2.1 _ (bn_TT_in hM rfl)) (C.2.2.2.2.1 _ bn_w_mxs) (C.2.2.2.2.1 _ bn_w_mth) (C.2.2.2.2.1 _ bn_w_mxc) (by omega) (by rw [hct]; omega) h1 h2 hd (kk _ hl)
      · cases e
    · cases e
  · rename_i j hj
    obtain ⟨i, hM⟩ := bn_ml_ok hj
    split at e
    · split at e
      · rename_i y x r hc
        obtain ⟨c2, c3, c4⟩ := hc
        cases e
        refine bn_pure fun {p l e R s m args below meth c Q G H locs cells slots A} C hl h1 h2 kk => ?_
        have f1 := C.2.2.2.2.2.2.1
        have f2 := C.2.2.2.2.2.2.2.1
        have hct := bn_ct_cv G r
        exact va_mmin C.1 C.2.1 (C.2.2.1.trans hl.1.symm) C.2.2.2.1 (C.2.2.2.2.1 _ (bn_TT_in hM rfl)) (C.2.2.2.2.1 _ bn_w_mns) (C.2.2.2.2.1 _ bn_w_mth) (C.2.2.2.2.1 _ bn_w_mnc) (by omega) (by rw [hct]; omega) h1 h2 hd (kk _ hl)
      · cases e
    · cases e
  · cases e
theorem bn_xW {i : Instr} (hd : decode (bn_b mi) pc = .ok (i, len)) (hL : len = bn_ln i len) (e : bn_x mi i pc ls st h = some a) : bn_XW mi pc ls st h a := by
  cases i with
  | iconst n => exact bn_s_iconst hd hL e
  | bipush n => exact bn_s_bipush hd hL e
  | sipush n => exact bn_s_sipush hd hL e
  | lconst n => exact bn_s_lconst hd hL e
  | ldc_w n => exact bn_s_ldcw hd hL e
  | ldc2_w n => exact bn_s_ldc2w hd hL e
  | iload_n n => exact bn_s_iload_n hd hL e
  | iload n => exact bn_s_iload hd hL e
  | lload_n n => exact bn_s_lload_n hd hL e
  | lload n => exact bn_s_lload hd hL e
  | aload_n n => exact bn_s_aload_n hd hL e
  | aload n => exact bn_s_aload hd hL e
  | istore_n n => exact bn_s_istore_n hd hL e
  | istore n => exact bn_s_istore hd hL e
  | lstore_n n => exact bn_s_lstore_n hd hL e
  | lstore n => exact bn_s_lstore hd hL e
  | astore_n n => exact bn_s_astore_n hd hL e
  | astore n => exact bn_s_astore hd hL e
  | iinc n k => exact bn_s_iinc hd hL e
  | iadd => exact bn_s_iadd hd hL e
  | isub => exact bn_s_isub hd hL e
  | imul => exact bn_s_imul hd hL e
  | iand => exact bn_s_iand hd hL e
  | ior => exact bn_s_ior hd hL e
  | ixor => exact bn_s_ixor hd hL e
  | ishl => exact bn_s_ishl hd hL e
  | ishr => exact bn_s_ishr hd hL e
  | iushr => exact bn_s_iushr hd hL e
  | idiv => exact bn_s_idiv hd hL e
  | irem => exact bn_s_irem hd hL e
  | ladd => exact bn_s_ladd hd hL e
  | lsub => exact bn_s_lsub hd hL e
  | lmul => exact bn_s_lmul hd hL e
  | land => exact bn_s_land hd hL e
  | lor => exact bn_s_lor hd hL e
  | ldiv => exact bn_s_ldiv hd hL e
  | lrem => exact bn_s_lrem hd hL e
  | lshl => exact bn_s_lshl hd hL e
  | lshr => exact bn_s_lshr hd hL e
  | lushr => exact bn_s_lushr hd hL e
  | i2l => exact bn_s_i2l hd hL e
  | l2i => exact bn_s_l2i hd hL e
  | lcmp => exact bn_s_lcmp hd hL e
  | dup => exact bn_s_dup hd hL e
  | dup2 => exact bn_s_dup2 hd hL e
  | pop => exact bn_s_pop hd hL e
  | goto off => exact bn_s_goto hd hL e
  | if_icmp c off =>
    cases c with
    | eq => exact bn_s_icmp_eq hd hL e
    | ne => exact bn_s_icmp_ne hd hL e
    | lt => exact bn_s_icmp_lt hd hL e
    | ge => exact bn_s_icmp_ge hd hL e
    | gt => exact bn_s_icmp_gt hd hL e
    | le => exact bn_s_icmp_le hd hL e
  | ifCond c off =>
    cases c with
    | eq => exact bn_s_if_eq hd hL e
    | ne => exact bn_s_if_ne hd hL e
    | lt => exact bn_s_if_lt hd hL e
    | ge => exact bn_s_if_ge hd hL e
    | gt => exact bn_s_if_gt hd hL e
    | le => exact bn_s_if_le hd hL e
  | tableswitch d l u o => exact bn_s_tableswitch hd hL e
  | getfield k => exact bn_s_getfield hd hL e
  | putfield k => exact bn_s_putfield hd hL e
  | iaload => exact bn_s_iaload hd hL e
  | baload => exact bn_s_baload hd hL e
  | laload => exact bn_s_laload hd hL e
  | aaload => exact bn_s_aaload hd hL e
  | iastore => exact bn_s_iastore hd hL e
  | bastore => exact bn_s_bastore hd hL e
  | lastore => exact bn_s_lastore hd hL e
  | aastore => exact bn_s_aastore hd hL e
  | arraylength => exact bn_s_arraylength hd hL e
  | new k => exact bn_s_new hd hL e
  | newarray t =>
    cases t with
    | int => exact bn_s_newarray_int hd hL e
    | boolean => exact bn_s_newarray_boolean hd hL e
    | long => exact bn_s_newarray_long hd hL e
    | _ => cases e
  | anewarray k => exact bn_s_anewarray hd hL e
  | invokespecial k => exact bn_s_objinit hd hL e
  | invokestatic k => exact bn_s_static hd hL e
  | _ => cases e
end XN
end
section
/-! A WALK THAT ENDS IS A RUN OF THE MACHINE -/
def bn_Rt (mi pc : Nat) (r : Option Value) : Prop := match r with
  | none => decode (bn_b mi) pc = .ok (.return_, 1) ∧ bn_r mi = none
  | some (.int v) => decode (bn_b mi) pc = .ok (.ireturn, 1) ∧ (bn_r mi = some .int ∨ (bn_r mi = some .boolean ∧ (v = 0 ∨ v = 1)))
  | some (.long _) => decode (bn_b mi) pc = .ok (.lreturn, 1) ∧ bn_r mi = some .long
  | _ => False
def bn_S (n : Nat) : Prop := ∀ (mi pc : Nat) (ls : bn_L) (st : List Value) (h : bn_H) (r : Option Value) (h' : bn_H), bn_go n mi pc ls st h = some (r, h') →
  (h.2.1 ≤ h'.2.1 ∧ h.2.2.1 ≤ h'.2.2.1 ∧ h'.1 = h.1) ∧
  ∀ (p : Program) (l : Launch) (e : Env) (R : Room) (s : State) (m : MethodId) (args : Array Value) (below : List Frame) (meth : Method) (c : Code) (Q : State → Prop) (G : bn_G) (n0 z0 : Nat) (H : Heap) (locs : List Loc) (A : Array Slot),
    bn_Cx p R s m args meth c mi G h.1 → s.heap.size = G.1 + n0 → n0 ≤ h.2.1 → z0 ≤ h.2.2.1 → h'.2.1 - n0 ≤ R.cells → h'.2.2.1 - z0 ≤ R.slots → bn_W s G h H locs → bn_LV G (bn_m mi) A ls →
    (∀ (H' : Heap) (locs' : List Loc) (pc' : Nat) (A' : Array Slot), bn_W s G h' H' locs' → bn_Rt mi pc' r → W p l e R s m args below meth c H' locs' (h'.2.1 - n0) (h'.2.2.1 - z0) Q (F0 m pc' A' (r.map (bn_cv G)).toList)) →
    W p l e R s m args below meth c H locs (h.2.1 - n0) (h.2.2.1 - z0) Q (F0 m pc A (st.map (bn_cv G)))
/-- the words of a method -/
def bn_ws (mi : Nat) : List Cond := .code (bn_y mi) (bn_b mi) (bn_m mi) (bn_r mi) :: bn_TT
def bn_rm (mi mc ms : Nat) : Room := { frames := bn_f mi, cells := mc, slots := ms, locals := bn_l mi }
/-- the world at a call -/
def bn_B (G : bn_G) (h : bn_H) (U : State) : Prop := U.heap.size = G.1 + h.2.1 ∧ va_P G.2.2.1 bn_cl (bn_wl G h) U.heap ∧ va_D (bn_A G) (bn_wl G h) ∧ va_K G.2.2.1 bn_cl (bn_tys G) U ∧ bn_X U ∧ va_X G.2.1 h.1.1 h.1.2 U U.heap ∧ G.2.1 < G.1
def bn_Pc (G : bn_G) (h : bn_H) (vs : List Value) : Array Value → State → Prop := fun a U => a = (vs.map (bn_cv G)).toArray ∧ bn_B G h U
def bn_Qc (G : bn_G) (r : Option Value) (h' : bn_H) : Array Value → State → Outcome → State → Prop := fun _ st o t => o = .returned (r.map (bn_cv G)) ∧ va_P G.2.2.1 bn_cl (bn_wl G h') t.heap ∧ va_D (bn_A G) (bn_wl G h') ∧ va_F (bn_A G) st t
theorem bn_X.moved {s U : State} (hW : s.WarmedH U.vm) (h : bn_X s) : bn_X U := ⟨va_AO.moved hW.alike h.1, fun q hq => va_Nw.warmM hW (h.2 q hq)⟩
theorem bn_X.calling {U : State} (g : JFrame) (mk : MethodId) (a : Array Value) (h : bn_X U) : bn_X (U.calling g mk a) := ⟨va_AO.moved (u := U) (Vm.Alike.refl U.vm) h.1, fun q hq => va_Nw.same rfl (u := U) rfl (h.2 q hq)⟩
theorem bn_blind (G : bn_G) (h : bn_H) (vs : List Value) : FrameBlind (bn_Pc G h vs) := fun a U g mk q => ⟨q.1, q.2.1, q.2.2.1, q.2.2.2.1, va_K.moved (u := U) (U := U.calling g mk a) (Vm.Alike.refl U.vm) q.2.2.2.2.1, bn_X.calling g mk a q.2.2.2.2.2.1, va_X.moved (u := U) (U := U.calling g mk a) (Vm.Alike.refl U.vm) q.2.2.2.2.2.2.1, q.2.2.2.2.2.2.2⟩
theorem bn_sl_get (G : bn_G) : ∀ (vs : List Value) (i : Nat) (v : Value), bn_get (bn_sl vs) i = some v → (lg_sl (vs.map (bn_cv G)))[i]? = some (.val (bn_cv G v)) := by
  intro vs
  induction vs with
  | nil => intro i v h; simp [bn_sl, bn_get] at h
  | cons w vs ih =>
    intro i v h
    have e1 : bn_sl (w :: vs) = (if w.category = 2 then [some w, none] else [some w]) ++ bn_sl vs := rfl
    have e2 : lg_sl ((w :: vs).map (bn_cv G)) = (if w.category = 2 then [.val (bn_cv G w), .second] else [.val (bn_cv G w)]) ++ lg_sl (vs.map (bn_cv G)) := by
      show (if (bn_cv G w).category = 2 then [Slot.val (bn_cv G w), .second] else [.val (bn_cv G w)]) ++ lg_sl (vs.map (bn_cv G)) = _
      rw [bn_cv_cat]
    rw [e1] at h
    rw [e2]
    by_cases hc : w.category = 2
    · rw [if_pos hc] at h ⊢
      match i, h with
      | 0, h => cases h; rfl
      | 1, h => cases h
      | i + 2, h => exact ih i v h
    · rw [if_neg hc] at h ⊢
      match i, h with
      | 0, h => cases h; rfl
      | i + 1, h => exact ih i v h
theorem bn_sl_len (G : bn_G) (vs : List Value) : (lg_sl (vs.map (bn_cv G))).length = (bn_sl vs).length := by
  induction vs with
  | nil => rfl
  | cons w vs ih =>
    have e1 : bn_sl (w :: vs) = (if w.category = 2 then [some w, none] else [some w]) ++ bn_sl vs := rfl
    have e2 : lg_sl ((w :: vs).map (bn_cv G)) = (if w.category = 2 then [.val (bn_cv G w), .second] else [.val (bn_cv G w)]) ++ lg_sl (vs.map (bn_cv G)) := by
      show (if (bn_cv G w).category = 2 then [Slot.val (bn_cv G w), .second] else [.val (bn_cv G w)]) ++ lg_sl (vs.map (bn_cv G)) = _
      rw [bn_cv_cat]
    rw [e1, e2, List.length_append, List.length_append, ih]
    split <;> rfl
theorem bn_entry (G : bn_G) (mj : Nat) (vs : List Value) (hl : (bn_sl vs).length ≤ bn_m mj) : bn_LV G (bn_m mj) ((lg_sl (vs.map (bn_cv G)) ++ List.replicate (bn_m mj - (lg_sl (vs.map (bn_cv G))).length) Slot.unset).toArray) (bn_en mj vs) := by
  have h0 := lv_entry (vs.map (bn_cv G)) (n := bn_m mj) (by rw [bn_sl_len]; exact hl)
  refine ⟨h0.1, h0.2.1, fun i v h => ?_⟩
  unfold bn_en at h
  rw [List.getElem?_toArray]
  have hi : i < (bn_sl vs).length := by
    rcases Nat.lt_or_ge i (bn_sl vs).length with q | q
    · exact q
    · unfold bn_get at h
      rw [List.getElem?_append_right q, List.getElem?_replicate] at h
      split at h <;> cases h
  rw [List.getElem?_append_left (by rw [bn_sl_len]; exact hi)]
  refine bn_sl_get G vs i v ?_
  unfold bn_get at h ⊢
  rwa [List.getElem?_append_left hi] at h
/-- the contract of a walk that ends -/
theorem bn_met {n : Nat} (hS : bn_S n) (l : Launch) {mj : Nat} {vs : List Value} {h h' : bn_H} {r : Option Value} (e : bn_go n mj 0 (bn_en mj vs) [] h = some (r, h')) (hl : (bn_sl vs).length ≤ bn_m mj) (hY : bn_PY mj) (G : bn_G) :
    Met l (bn_y mj) (bn_ws mj) (bn_rm mj (h'.2.1 - h.2.1) (h'.2.2.1 - h.2.2.1)) (bn_Pc G h vs) (bn_Qc G r h') (h'.2.1 - h.2.1) (h'.2.2.1 - h.2.2.1) (bn_A G) := by
  obtain ⟨⟨m1, m2, m3⟩, hgo⟩ := hS _ _ _ _ _ _ _ e
  obtain ⟨y1, y2, y3, y4, y5⟩ := hY
  have hp : plainName (bn_y mj).cls = true := by rw [y3]; exact (bn_cnX y5).2.2
  refine Met.ofW (cc := bn_b mj) (maxL := bn_m mj) (ret := bn_r mj) hp rfl ?_
  intro p e s m args below meth c s₁ B hml hv
  obtain ⟨rfl, hsz, hP, hD, hK, hX, hsc, hb⟩ := hv
  have hts := atoms_spec (ws := bn_ws mj) B.pre
  have hown : s.vm.findClass (bn_cn (bn_c mj)) = some m.cls := by rw [← y3]; exact findClass_of_methodNamed B.named
  have hlocks := B.notSynchronized
  have hr := B.returns
  have hname := (name_of_methodNamed B.named B.method).1
  have hS0 : va_S (bn_A G) s.heap s.heap [] := va_S.rf
  rw [lg_entry_eq]
  have hC : bn_Cx p (bn_rm mj (h'.2.1 - h.2.1) (h'.2.2.1 - h.2.2.1)) s m (vs.map (bn_cv G)).toArray meth c mj G h.1 := ⟨B.exec, B.bytes, hml, hown, fun w hw => hts w (List.mem_cons_of_mem _ hw), fun hi => hname.trans (bn_init hi), Nat.le_refl _, Nat.le_refl _, hK, hX, hsc, hb, by omega⟩
  have := hgo p l e (bn_rm mj (h'.2.1 - h.2.1) (h'.2.2.1 - h.2.2.1)) s m _ below meth c (MQ below (bn_Qc G r h') (vs.map (bn_cv G)).toArray s (h'.2.1 - h.2.1) (h'.2.2.1 - h.2.2.1) (bn_A G)) G h.2.1 h.2.2.1 s.heap [] _ hC hsz (Nat.le_refl _) (Nat.le_refl _) (Nat.le_refl _) (Nat.le_refl _) ⟨hP, hD, hS0⟩ (bn_entry G mj vs hl) (fun H' locs' pc' A' hW hR => ?_)
  · rw [Nat.sub_self, Nat.sub_self] at this
    exact this
  · have hq : ∀ t : State, t.heap = H' → s.WarmedH t.vm → bn_Qc G r h' (vs.map (bn_cv G)).toArray s (.returned (r.map (bn_cv G))) t := fun t ht _ => ⟨rfl, by rw [ht]; exact hW.1, hW.2.1, hW.2.2.F ht⟩
    match r, hR, hq with
    | none, hR, hq => exact W.vret B.exec B.bytes (hr.trans hR.2) hq hW.2.2.2.2 hR.1
    | some (.int v), hR, hq =>
      rcases hR.2 with h1 | ⟨h1, h2⟩
      · exact W.iret B.exec B.bytes (hr.trans h1) hq hW.2.2.2.2 hR.1
      · exact W.zret B.exec B.bytes (hr.trans h1) (by rcases h2 with rfl | rfl <;> rfl) hq hW.2.2.2.2 hR.1
    | some (.long v), hR, hq => exact W.lret B.exec B.bytes (hr.trans hR.2) hq hW.2.2.2.2 hR.1
    | some (.float v), hR, hq => exact hR.elim
    | some (.double v), hR, hq => exact hR.elim
    | some .null, hR, hq => exact hR.elim
    | some (.ref v), hR, hq => exact hR.elim
    | some (.retAddr v), hR, hq => exact hR.elim
theorem bn_after {p : Program} {l : Launch} {e : Env} {R : Room} {s : State} {m : MethodId} {args : Array Value} {below : List Frame} {meth : Method} {c : Code} {H : Heap} {locs : List Loc} {cells slots mc ms pc : Nat} {ls : Array Slot} {st0 rest : List Value} {Q : State → Prop} {G : bn_G} {Qa : State → Outcome → State → Prop}
    (hr : va_Run p l e R s m args below meth c H locs cells slots mc ms (F0 m pc ls st0) rest Qa (bn_A G)) (hL : ∀ q ∈ locs, bn_A G q.base)
    (kk : ∀ (v : Option Value) (st₀ t : State) (H1 : Heap) (locs1 : List Loc), st₀.heap = H → t.heap = H1 → Qa st₀ (.returned v) t → (∀ q ∈ locs1, bn_A G q.base) → W p l e R s m args below meth c H1 locs1 (cells + mc) (slots + ms) Q (F0 m (pc + 3) ls (v.toList ++ rest))) : W p l e R s m args below meth c H locs cells slots Q (F0 m pc ls st0) := by
  intro T hT X
  obtain ⟨v, st₀, t, T', L, h0, X', hq, e1, e2, hQ, st⟩ := hr T hT X
  obtain ⟨t2, a1, b1⟩ := kk v st₀ t T'.heap (locs ++ L) h0 e1.symm hQ (fun q hq2 => (List.mem_append.mp hq2).elim (hL q) (hq q)) T' rfl X'
  exact ⟨t2, st t2 a1, b1⟩
theorem bn_good (mj : Nat) (hY : bn_PY mj) : GoodIn bn_TT (bn_ws mj) := by
  intro w hw
  have hm : w ∈ bn_TT := (List.mem_cons.mp hw).elim (fun q => by rw [q]; exact bn_TT_in hY.1 rfl) id
  exact ⟨hm, good_of_word (bn_TT_good w hm)⟩
end
section
/-! CALLS; and all together: a walk that ends is a run of the machine -/
theorem bn_rt_inv {mi pc len : Nat} {i : Instr} {st : List Value} {r : Option Value} (hd : decode (bn_b mi) pc = .ok (i, len)) (hL : len = bn_ln i len) (e : bn_rt mi i st = some r) : st = r.toList ∧ bn_Rt mi pc r := by
  cases i with
  | return_ =>
    have hL : len = 1 := hL
    subst hL
    simp only [bn_rt] at e
    split at e
    · split at e
      · rename_i hr
        cases e
        exact ⟨rfl, hd, hr⟩
      · cases e
    · cases e
  | ireturn =>
    have hL : len = 1 := hL
    subst hL
    simp only [bn_rt] at e
    split at e
    · split at e
      · rename_i hr
        cases e
        exact ⟨rfl, hd, hr⟩
      · cases e
    · cases e
  | lreturn =>
    have hL : len = 1 := hL
    subst hL
    simp only [bn_rt] at e
    split at e
    · split at e
      · rename_i hr
        cases e
        exact ⟨rfl, hd, hr⟩
      · cases e
    · cases e
  | _ => cases e
theorem bn_callW {n : Nat} (hS : bn_S n) {mi pc len mj : Nat} {i : Instr} {ls : bn_L} {st as rr : List Value} {h h1 : bn_H} {v : Option Value} (hd : decode (bn_b mi) pc = .ok (i, len)) (hL : len = bn_ln i len) (hk : bn_k mi i st h = some (mj, as, rr)) (he : bn_go n mj 0 (bn_en mj as) [] h = some (v, h1))
    {p : Program} {l : Launch} {e : Env} {R : Room} {s : State} {m : MethodId} {args : Array Value} {below : List Frame} {meth : Method} {c : Code} {Q : State → Prop} {G : bn_G} {n0 z0 : Nat} {H : Heap} {locs : List Loc} {A : Array Slot}
    (C : bn_Cx p R s m args meth c mi G h.1) (hs : s.heap.size = G.1 + n0) (hn0 : n0 ≤ h.2.1) (hz0 : z0 ≤ h.2.2.1) (hc : h1.2.1 - n0 ≤ R.cells) (hz : h1.2.2.1 - z0 ≤ R.slots) (hW : bn_W s G h H locs) (hl : bn_LV G (bn_m mi) A ls)
    (kk : ∀ (H' : Heap) (locs' : List Loc), bn_W s G h1 H' locs' → W p l e R s m args below meth c H' locs' (h1.2.1 - n0) (h1.2.2.1 - z0) Q (F0 m (pc + 3) A ((v.map (bn_cv G)).toList ++ rr.map (bn_cv G)))) :
    W p l e R s m args below meth c H locs (h.2.1 - n0) (h.2.2.1 - z0) Q (F0 m pc A (st.map (bn_cv G))) := by
  obtain ⟨⟨m1, m2, m3⟩, -⟩ := hS _ _ _ _ _ _ _ he
  refine bn_size (fun hsz => ?_)
  have hHs : H.size = G.1 + h.2.1 := Nat.le_antisymm (by omega) (bn_low hW hs hn0)
  have d1 : h.2.1 - n0 + (h1.2.1 - h.2.1) = h1.2.1 - n0 := by omega
  have d2 : h.2.2.1 - z0 + (h1.2.2.1 - h.2.2.1) = h1.2.2.1 - z0 := by omega
  have hts := C.2.2.2.2.1
  have hF : CallFix p m c (bn_b mi) (bn_m mi) s args bn_TT (bn_cn (bn_c mi)) := ⟨C.1, C.2.1, C.2.2.1, C.2.2.2.1, hts⟩
  have hB : ∀ U : State, U.heap = H → s.WarmedH U.vm → bn_B G h U := fun U hU hWm => ⟨by rw [hU, hHs], by rw [hU]; exact hW.1, hW.2.1, va_K.moved hWm.alike C.2.2.2.2.2.2.2.2.1, bn_X.moved hWm C.2.2.2.2.2.2.2.2.2.1, by
    rw [hU]
    have hbl : G.2.1 < s.heap.size := Nat.lt_of_lt_of_le C.2.2.2.2.2.2.2.2.2.2.2.1 C.2.2.2.2.2.2.2.2.2.2.2.2
    exact va_X.moved hWm.alike (va_X.kept C.2.2.2.2.2.2.2.2.2.2.1 (hW.2.2.2.1 _ hbl (Nat.not_le.mpr C.2.2.2.2.2.2.2.2.2.2.2.1))), C.2.2.2.2.2.2.2.2.2.2.2.1⟩
  have fin : ∀ (a0 : Array Value) (v' : Option Value) (st₀ t : State) (H1 : Heap) (locs1 : List Loc), st₀.heap = H → t.heap = H1 → bn_Qc G v h1 a0 st₀ (.returned v') t → (∀ q ∈ locs1, bn_A G q.base) → W p l e R s m args below meth c H1 locs1 (h.2.1 - n0 + (h1.2.1 - h.2.1)) (h.2.2.1 - z0 + (h1.2.2.1 - h.2.2.1)) Q (F0 m (pc + 3) A (v'.toList ++ rr.map (bn_cv G))) := by
    intro a0 v' st₀ t H1 locs1 g1 g2 g3 g4
    obtain ⟨q1, q2, q3, q4⟩ := g3
    have q1 : v' = v.map (bn_cv G) := by injection q1
    subst q1
    rw [d1, d2]
    rw [g2] at q2
    refine kk H1 locs1 ⟨q2, q3, ?_, fun q h1 h2 => ?_, g4⟩
    · have h3 := q4.1
      rw [g1, g2] at h3
      exact Nat.le_trans hW.2.2.1 h3
    · have h3 := q4.2 q (by rw [g1]; exact Nat.lt_of_lt_of_le h1 hW.2.2.1) h2
      rw [g1, g2] at h3
      exact h3.trans (hW.2.2.2.1 q h1 h2)
  cases i with
  | invokevirtual k =>
    have hL : len = 3 := hL
    subst hL
    simp only [bn_k] at hk
    obtain ⟨q, hq, hk⟩ := Option.bind_eq_some_iff.mp hk
    split at hk
    · rename_i b0 r0 hdrop
      split at hk
      · rename_i hg
        obtain ⟨g1, g2, g3, g4, g5, g6, g7⟩ := hg
        obtain ⟨qk, qm⟩ := q
        dsimp only at g1 g2 g3 g4 g5 g6 g7 hk hdrop
        subst g1
        simp only [Option.some.injEq, Prod.mk.injEq] at hk
        obtain ⟨e1, e2, e3⟩ := hk
        subst e1
        subst e2
        subst e3
        obtain ⟨i, hM⟩ := bn_ml_ok hq
        obtain ⟨w0, w1, w2, w3, w4⟩ := hM
        have hY := w0
        obtain ⟨y1, y2, y3, y4, y5⟩ := w0
        have hne := bn_cnX y5
        rw [← y3] at hne
        obtain ⟨fs, hfs⟩ := bn_isC_inv g3
        have hct := bn_ct_cv G r0
        have hrun := va_runV (l := l) (e := e) (below := below) (meth := meth) (H := H) (locs := locs) (g := F0 m pc A (st.map (bn_cv G))) (As := ((st.take (bn_p qm)).reverse).map (bn_cv G)) (b := G.1 + b0) (rest := r0.map (bn_cv G)) (cells := h.2.1 - n0) (slots := h.2.2.1 - z0) hF (bn_met hS l he g5 hY G)
          (⟨callB_of (bn_p qm) hts (bn_good qm hY) rfl rfl rfl (hts _ (bn_TT_in y2 rfl)) (hts _ (bn_TT_in w1 rfl)) ⟨hne.1, hne.2.1, y4⟩ ⟨Nat.le_trans g6 C.2.2.2.2.2.2.1, Nat.le_trans g7 C.2.2.2.2.2.2.2.1⟩, hts _ (bn_TT_in w2 rfl), hts _ (bn_TT_in w3 rfl)⟩)
          (⟨bn_blind _ _ _, by rw [y3]; exact va_recv C.2.2.2.2.2.2.2.2.1 hW.1 (bn_clX w4) (bn_wl_get hfs), fun U hU hWm => ⟨rfl, hB U hU hWm⟩⟩)
          rfl (by rw [List.length_map, List.length_reverse]; exact g2) hl.1 (by
            show st.map (bn_cv G) = _
            rw [← List.map_reverse, List.reverse_reverse]
            conv => lhs; rw [← List.take_append_drop (bn_p qm) st, hdrop, List.map_append]
            rfl) (lv_room (by rw [hct]; exact g4)) hd ⟨by omega, by omega⟩
        exact bn_after hrun hW.2.2.2.2 (fin _)
      · cases hk
    · cases hk
  | invokespecial k =>
    have hL : len = 3 := hL
    subst hL
    simp only [bn_k] at hk
    obtain ⟨q, hq, hk⟩ := Option.bind_eq_some_iff.mp hk
    split at hk
    · rename_i b0 r0 hdrop
      split at hk
      · rename_i hg
        obtain ⟨g1, g2, g4, g5, g6, g7⟩ := hg
        obtain ⟨qk, qm⟩ := q
        dsimp only at g1 g2 g4 g5 g6 g7 hk hdrop
        simp only [Option.some.injEq, Prod.mk.injEq] at hk
        obtain ⟨e1, e2, e3⟩ := hk
        subst e1
        subst e2
        subst e3
        obtain ⟨i, hM⟩ := bn_ml_ok hq
        have hct := bn_ct_cv G r0
        have hst : st.map (bn_cv G) = (((st.take (bn_p qm)).reverse).map (bn_cv G)).reverse ++ .ref (G.1 + b0) :: r0.map (bn_cv G) := by
          rw [← List.map_reverse, List.reverse_reverse]
          conv => lhs; rw [← List.take_append_drop (bn_p qm) st, hdrop, List.map_append]
          rfl
        rcases g1 with g1 | g1
        · subst g1
          obtain ⟨w0, w1, w2, w3, w4⟩ := hM
          have hY := w0
          obtain ⟨y1, y2, y3, y4, y5⟩ := w0
          have hne := bn_cnX y5
          rw [← y3] at hne
          have hrun := va_runI (l := l) (e := e) (below := below) (meth := meth) (H := H) (locs := locs) (g := F0 m pc A (st.map (bn_cv G))) (As := ((st.take (bn_p qm)).reverse).map (bn_cv G)) (b := G.1 + b0) (rest := r0.map (bn_cv G)) (cells := h.2.1 - n0) (slots := h.2.2.1 - z0) hF (bn_met hS l he g5 hY G)
            (⟨callB_of (bn_p qm) hts (bn_good qm hY) (by unfold bn_ws; rw [w4]) rfl rfl (hts _ (bn_TT_in y2 rfl)) (hts _ (bn_TT_in w1 rfl)) ⟨hne.1, hne.2.1, y4⟩ ⟨Nat.le_trans g6 C.2.2.2.2.2.2.1, Nat.le_trans g7 C.2.2.2.2.2.2.2.1⟩, w3, hts _ (bn_TT_in w2 rfl)⟩)
            (⟨bn_blind _ _ _, fun U hU hWm => ⟨rfl, hB U hU hWm⟩⟩)
            rfl (by rw [List.length_map, List.length_reverse]; exact g2) hl.1 hst (lv_room (by rw [hct]; exact g4)) hd ⟨by omega, by omega⟩
          exact bn_after hrun hW.2.2.2.2 (fin _)
        · subst g1
          obtain ⟨w0, w1, w2, w3, w4⟩ := hM
          have hY := w0
          obtain ⟨y1, y2, y3, y4, y5⟩ := w0
          have hne := bn_cnX y5
          rw [← y3] at hne
          have hrun := va_runIN (l := l) (e := e) (below := below) (meth := meth) (H := H) (locs := locs) (g := F0 m pc A (st.map (bn_cv G))) (As := ((st.take (bn_p qm)).reverse).map (bn_cv G)) (b := G.1 + b0) (rest := r0.map (bn_cv G)) (cells := h.2.1 - n0) (slots := h.2.2.1 - z0) hF (bn_met hS l he g5 hY G)
            (⟨va_cnB (bn_p qm) hts (bn_good qm hY) (by unfold bn_ws; rw [w4]) rfl rfl (C.2.2.2.2.2.2.2.2.2.1.2 _ w1) (hts _ (bn_TT_in y2 rfl)) ⟨hne.1, hne.2.1, y4⟩ ⟨Nat.le_trans g6 C.2.2.2.2.2.2.1, Nat.le_trans g7 C.2.2.2.2.2.2.2.1⟩, w3, hts _ (bn_TT_in w2 rfl)⟩)
            (⟨bn_blind _ _ _, fun U hU hWm => ⟨rfl, hB U hU hWm⟩⟩)
            rfl (by rw [List.length_map, List.length_reverse]; exact g2) hl.1 hst (lv_room (by rw [hct]; exact g4)) hd ⟨by omega, by omega⟩
          exact bn_after hrun hW.2.2.2.2 (fin _)
      · cases hk
    · cases hk
  | invokestatic k =>
    have hL : len = 3 := hL
    subst hL
    simp only [bn_k] at hk
    obtain ⟨q, hq, hk⟩ := Option.bind_eq_some_iff.mp hk
    split at hk
    · rename_i hg
      obtain ⟨g1, g2, g4, g5, g6, g7⟩ := hg
      obtain ⟨qk, qm⟩ := q
      dsimp only at g1 g2 g4 g5 g6 g7 hk
      subst g1
      simp only [Option.some.injEq, Prod.mk.injEq] at hk
      obtain ⟨e1, e2, e3⟩ := hk
      subst e1
      subst e2
      subst e3
      obtain ⟨i, hM⟩ := bn_ml_ok hq
      obtain ⟨w0, w1, w2⟩ := hM
      have hY := w0
      obtain ⟨y1, y2, y3, y4, y5⟩ := w0
      have hne := bn_cnX y5
      rw [← y3] at hne
      have hct := bn_ct_cv G (st.drop (bn_p qm))
      have hrun := va_runS (l := l) (e := e) (below := below) (meth := meth) (H := H) (locs := locs) (g := F0 m pc A (st.map (bn_cv G))) (As := ((st.take (bn_p qm)).reverse).map (bn_cv G)) (rest := (st.drop (bn_p qm)).map (bn_cv G)) (cells := h.2.1 - n0) (slots := h.2.2.1 - z0) hF (bn_met hS l he g5 hY G)
        (⟨callB_of (bn_p qm) hts (bn_good qm hY) rfl rfl rfl (hts _ (bn_TT_in y2 rfl)) (hts _ (bn_TT_in w1 rfl)) ⟨hne.1, hne.2.1, y4⟩ ⟨Nat.le_trans g6 C.2.2.2.2.2.2.1, Nat.le_trans g7 C.2.2.2.2.2.2.2.1⟩, hts _ (bn_TT_in w2 rfl)⟩)
        (⟨bn_blind _ _ _, fun U hU hWm => ⟨rfl, hB U hU hWm⟩⟩)
        rfl (by rw [List.length_map, List.length_reverse]; exact g2) hl.1 (by
          show st.map (bn_cv G) = _
          rw [← List.map_reverse, List.reverse_reverse, ← List.map_append, List.take_append_drop]) (lv_room (by rw [hct]; exact g4)) hd ⟨by omega, by omega⟩
      exact bn_after hrun hW.2.2.2.2 (fin _)
    · cases hk
  | _ => cases hk
theorem bn_sound : ∀ n, bn_S n := by
  intro n
  induction n with
  | zero => intro mi pc ls st h r h' e; cases e
  | succ n ih =>
    intro mi pc ls st h r h' e
    have e : bn_F (bn_go n) mi pc ls st h = some (r, h') := e
    unfold bn_F at e
    split at e
    · cases e
    · rename_i i len hd
      split at e
      · rename_i hL
        split at e
        · rename_i r0 hr0
          cases e
          obtain ⟨rfl, hR⟩ := bn_rt_inv hd hL hr0
          refine ⟨⟨Nat.le_refl _, Nat.le_refl _, rfl⟩, fun p l e R s m args below meth c Q G n0 z0 H locs A C hs hn hz hc hzz hW hl kk => ?_⟩
          have := kk H locs pc A hW hR
          cases r <;> exact this
        · split at e
          · rename_i mj as rr hk
            obtain ⟨a, h1, h2⟩ := Option.bind_eq_some_iff.mp e
            obtain ⟨v, hv⟩ := a
            split at h2
            rotate_left
            · cases h2
            obtain ⟨⟨x1, x2, x3⟩, -⟩ := ih _ _ _ _ _ _ _ h1
            obtain ⟨⟨y1, y2, y3⟩, hg⟩ := ih _ _ _ _ _ _ _ h2
            dsimp only at y1 y2 y3 hg
            refine ⟨⟨by omega, by omega, y3.trans x3⟩, fun p l e R s m args below meth c Q G n0 z0 H locs A C hs hn hz hc hzz hW hl kk => ?_⟩
            refine bn_callW ih hd hL hk h1 C hs hn hz (by omega) (by omega) hW hl (fun H' locs' hW' => ?_)
            have := hg p l e R s m args below meth c Q G n0 z0 H' locs' A (by rw [x3]; exact C) hs (by omega) (by omega) hc hzz hW' hl kk
            rw [List.map_append] at this
            cases v <;> exact this
          · obtain ⟨a, h1, h2⟩ := Option.bind_eq_some_iff.mp e
            obtain ⟨⟨x1, x2, x3⟩, hx⟩ := bn_xW hd hL h1
            obtain ⟨⟨y1, y2, y3⟩, hg⟩ := ih _ _ _ _ _ _ _ h2
            refine ⟨⟨by omega, by omega, y3.trans x3⟩, fun p l e R s m args below meth c Q G n0 z0 H locs A C hs hn hz hc hzz hW hl kk => ?_⟩
            refine hx p l e R s m args below meth c Q G n0 z0 H locs A C hs hn hz (by omega) (by omega) hW hl (fun H' locs' A' hW' hl' => ?_)
            exact hg p l e R s m args below meth c Q G n0 z0 H' locs' A' (by rw [x3]; exact C) hs (by omega) (by omega) hc hzz hW' hl' kk
      · cases e
end
section
/-! decode rows -/
theorem bd_0_0 : decode (bn_b 0) 0 = .ok (.aload_n 0, 1) := by decide +kernel
theorem bd_0_1 : decode (bn_b 0) 1 = .ok (.invokespecial 3, 3) := by decide +kernel
theorem bd_0_4 : decode (bn_b 0) 4 = .ok (.aload_n 0, 1) := by decide +kernel
theorem bd_0_5 : decode (bn_b 0) 5 = .ok (.iconst 0, 1) := by decide +kernel
theorem bd_0_6 : decode (bn_b 0) 6 = .ok (.putfield 9, 3) := by decide +kernel
theorem bd_0_9 : decode (bn_b 0) 9 = .ok (.aload_n 0, 1) := by decide +kernel
theorem bd_0_10 : decode (bn_b 0) 10 = .ok (.bipush 9, 2) := by decide +kernel
theorem bd_0_12 : decode (bn_b 0) 12 = .ok (.putfield 15, 3) := by decide +kernel
theorem bd_0_15 : decode (bn_b 0) 15 = .ok (.aload_n 0, 1) := by decide +kernel
theorem bd_0_16 : decode (bn_b 0) 16 = .ok (.bipush 9, 2) := by decide +kernel
theorem bd_0_18 : decode (bn_b 0) 18 = .ok (.putfield 18, 3) := by decide +kernel
theorem bd_0_21 : decode (bn_b 0) 21 = .ok (.aload_n 0, 1) := by decide +kernel
theorem bd_0_22 : decode (bn_b 0) 22 = .ok (.iconst 0, 1) := by decide +kernel
theorem bd_0_23 : decode (bn_b 0) 23 = .ok (.putfield 21, 3) := by decide +kernel
theorem bd_0_26 : decode (bn_b 0) 26 = .ok (.aload_n 0, 1) := by decide +kernel
theorem bd_0_27 : decode (bn_b 0) 27 = .ok (.lconst 0, 1) := by decide +kernel
theorem bd_0_28 : decode (bn_b 0) 28 = .ok (.putfield 24, 3) := by decide +kernel
theorem bd_0_31 : decode (bn_b 0) 31 = .ok (.aload_n 0, 1) := by decide +kernel
theorem bd_0_32 : decode (bn_b 0) 32 = .ok (.iconst 0, 1) := by decide +kernel
theorem bd_0_33 : decode (bn_b 0) 33 = .ok (.putfield 28, 3) := by decide +kernel
theorem bd_0_36 : decode (bn_b 0) 36 = .ok (.aload_n 0, 1) := by decide +kernel
theorem bd_0_37 : decode (bn_b 0) 37 = .ok (.iconst 5, 1) := by decide +kernel
theorem bd_0_38 : decode (bn_b 0) 38 = .ok (.newarray .int, 2) := by decide +kernel
theorem bd_0_40 : decode (bn_b 0) 40 = .ok (.putfield 31, 3) := by decide +kernel
theorem bd_0_43 : decode (bn_b 0) 43 = .ok (.aload_n 0, 1) := by decide +kernel
theorem bd_0_44 : decode (bn_b 0) 44 = .ok (.iconst 5, 1) := by decide +kernel
theorem bd_0_45 : decode (bn_b 0) 45 = .ok (.newarray .boolean, 2) := by decide +kernel
theorem bd_0_47 : decode (bn_b 0) 47 = .ok (.putfield 35, 3) := by decide +kernel
theorem bd_0_50 : decode (bn_b 0) 50 = .ok (.aload_n 0, 1) := by decide +kernel
theorem bd_0_51 : decode (bn_b 0) 51 = .ok (.iconst 5, 1) := by decide +kernel
theorem bd_0_52 : decode (bn_b 0) 52 = .ok (.newarray .int, 2) := by decide +kernel
theorem bd_0_54 : decode (bn_b 0) 54 = .ok (.putfield 39, 3) := by decide +kernel
theorem bd_0_57 : decode (bn_b 0) 57 = .ok (.aload_n 0, 1) := by decide +kernel
theorem bd_0_58 : decode (bn_b 0) 58 = .ok (.iconst 0, 1) := by decide +kernel
theorem bd_0_59 : decode (bn_b 0) 59 = .ok (.putfield 42, 3) := by decide +kernel
theorem bd_0_62 : decode (bn_b 0) 62 = .ok (.aload_n 0, 1) := by decide +kernel
theorem bd_0_63 : decode (bn_b 0) 63 = .ok (.bipush 10, 2) := by decide +kernel
theorem bd_0_65 : decode (bn_b 0) 65 = .ok (.newarray .int, 2) := by decide +kernel
theorem bd_0_67 : decode (bn_b 0) 67 = .ok (.putfield 45, 3) := by decide +kernel
theorem bd_0_70 : decode (bn_b 0) 70 = .ok (.aload_n 0, 1) := by decide +kernel
theorem bd_0_71 : decode (bn_b 0) 71 = .ok (.bipush 10, 2) := by decide +kernel
theorem bd_0_73 : decode (bn_b 0) 73 = .ok (.newarray .int, 2) := by decide +kernel
theorem bd_0_75 : decode (bn_b 0) 75 = .ok (.putfield 48, 3) := by decide +kernel
theorem bd_0_78 : decode (bn_b 0) 78 = .ok (.aload_n 0, 1) := by decide +kernel
theorem bd_0_79 : decode (bn_b 0) 79 = .ok (.bipush 10, 2) := by decide +kernel
theorem bd_0_81 : decode (bn_b 0) 81 = .ok (.newarray .int, 2) := by decide +kernel
theorem bd_0_83 : decode (bn_b 0) 83 = .ok (.putfield 51, 3) := by decide +kernel
theorem bd_0_86 : decode (bn_b 0) 86 = .ok (.aload_n 0, 1) := by decide +kernel
theorem bd_0_87 : decode (bn_b 0) 87 = .ok (.bipush 10, 2) := by decide +kernel
theorem bd_0_89 : decode (bn_b 0) 89 = .ok (.newarray .int, 2) := by decide +kernel
theorem bd_0_91 : decode (bn_b 0) 91 = .ok (.putfield 54, 3) := by decide +kernel
theorem bd_0_94 : decode (bn_b 0) 94 = .ok (.aload_n 0, 1) := by decide +kernel
theorem bd_0_95 : decode (bn_b 0) 95 = .ok (.bipush 10, 2) := by decide +kernel
theorem bd_0_97 : decode (bn_b 0) 97 = .ok (.newarray .int, 2) := by decide +kernel
theorem bd_0_99 : decode (bn_b 0) 99 = .ok (.putfield 57, 3) := by decide +kernel
theorem bd_0_102 : decode (bn_b 0) 102 = .ok (.return_, 1) := by decide +kernel
theorem bd_1_0 : decode (bn_b 1) 0 = .ok (.aload_n 0, 1) := by decide +kernel
theorem bd_1_1 : decode (bn_b 1) 1 = .ok (.iload_n 1, 1) := by decide +kernel
theorem bd_1_2 : decode (bn_b 1) 2 = .ok (.putfield 9, 3) := by decide +kernel
theorem bd_1_5 : decode (bn_b 1) 5 = .ok (.aload_n 0, 1) := by decide +kernel
theorem bd_1_6 : decode (bn_b 1) 6 = .ok (.iload_n 2, 1) := by decide +kernel
theorem bd_1_7 : decode (bn_b 1) 7 = .ok (.putfield 15, 3) := by decide +kernel
theorem bd_1_10 : decode (bn_b 1) 10 = .ok (.aload_n 0, 1) := by decide +kernel
theorem bd_1_11 : decode (bn_b 1) 11 = .ok (.iload_n 3, 1) := by decide +kernel
theorem bd_1_12 : decode (bn_b 1) 12 = .ok (.putfield 18, 3) := by decide +kernel
theorem bd_1_15 : decode (bn_b 1) 15 = .ok (.aload_n 0, 1) := by decide +kernel
theorem bd_1_16 : decode (bn_b 1) 16 = .ok (.iconst 0, 1) := by decide +kernel
theorem bd_1_17 : decode (bn_b 1) 17 = .ok (.putfield 21, 3) := by decide +kernel
theorem bd_1_20 : decode (bn_b 1) 20 = .ok (.aload_n 0, 1) := by decide +kernel
theorem bd_1_21 : decode (bn_b 1) 21 = .ok (.iconst 0, 1) := by decide +kernel
theorem bd_1_22 : decode (bn_b 1) 22 = .ok (.putfield 28, 3) := by decide +kernel
theorem bd_1_25 : decode (bn_b 1) 25 = .ok (.aload_n 0, 1) := by decide +kernel
theorem bd_1_26 : decode (bn_b 1) 26 = .ok (.iconst 0, 1) := by decide +kernel
theorem bd_1_27 : decode (bn_b 1) 27 = .ok (.putfield 42, 3) := by decide +kernel
theorem bd_1_30 : decode (bn_b 1) 30 = .ok (.return_, 1) := by decide +kernel
theorem bd_2_0 : decode (bn_b 2) 0 = .ok (.aload_n 0, 1) := by decide +kernel
theorem bd_2_1 : decode (bn_b 2) 1 = .ok (.getfield 28, 3) := by decide +kernel
theorem bd_2_4 : decode (bn_b 2) 4 = .ok (.iconst 5, 1) := by decide +kernel
theorem bd_2_5 : decode (bn_b 2) 5 = .ok (.if_icmp .ge 43, 3) := by decide +kernel
theorem bd_2_8 : decode (bn_b 2) 8 = .ok (.aload_n 0, 1) := by decide +kernel
theorem bd_2_9 : decode (bn_b 2) 9 = .ok (.getfield 31, 3) := by decide +kernel
theorem bd_2_12 : decode (bn_b 2) 12 = .ok (.aload_n 0, 1) := by decide +kernel
theorem bd_2_13 : decode (bn_b 2) 13 = .ok (.getfield 28, 3) := by decide +kernel
theorem bd_2_16 : decode (bn_b 2) 16 = .ok (.iload_n 1, 1) := by decide +kernel
theorem bd_2_17 : decode (bn_b 2) 17 = .ok (.iastore, 1) := by decide +kernel
theorem bd_2_18 : decode (bn_b 2) 18 = .ok (.aload_n 0, 1) := by decide +kernel
theorem bd_2_19 : decode (bn_b 2) 19 = .ok (.getfield 35, 3) := by decide +kernel
theorem bd_2_22 : decode (bn_b 2) 22 = .ok (.aload_n 0, 1) := by decide +kernel
theorem bd_2_23 : decode (bn_b 2) 23 = .ok (.getfield 28, 3) := by decide +kernel
theorem bd_2_26 : decode (bn_b 2) 26 = .ok (.iconst 0, 1) := by decide +kernel
theorem bd_2_27 : decode (bn_b 2) 27 = .ok (.bastore, 1) := by decide +kernel
theorem bd_2_28 : decode (bn_b 2) 28 = .ok (.aload_n 0, 1) := by decide +kernel
theorem bd_2_29 : decode (bn_b 2) 29 = .ok (.getfield 39, 3) := by decide +kernel
theorem bd_2_32 : decode (bn_b 2) 32 = .ok (.aload_n 0, 1) := by decide +kernel
theorem bd_2_33 : decode (bn_b 2) 33 = .ok (.getfield 28, 3) := by decide +kernel
theorem bd_2_36 : decode (bn_b 2) 36 = .ok (.iconst 0, 1) := by decide +kernel
theorem bd_2_37 : decode (bn_b 2) 37 = .ok (.iastore, 1) := by decide +kernel
theorem bd_2_38 : decode (bn_b 2) 38 = .ok (.aload_n 0, 1) := by decide +kernel
theorem bd_2_39 : decode (bn_b 2) 39 = .ok (.dup, 1) := by decide +kernel
theorem bd_2_40 : decode (bn_b 2) 40 = .ok (.getfield 28, 3) := by decide +kernel
theorem bd_2_43 : decode (bn_b 2) 43 = .ok (.iconst 1, 1) := by decide +kernel
theorem bd_2_44 : decode (bn_b 2) 44 = .ok (.iadd, 1) := by decide +kernel
theorem bd_2_45 : decode (bn_b 2) 45 = .ok (.putfield 28, 3) := by decide +kernel
theorem bd_2_48 : decode (bn_b 2) 48 = .ok (.return_, 1) := by decide +kernel
theorem bd_3_0 : decode (bn_b 3) 0 = .ok (.aload_n 0, 1) := by decide +kernel
theorem bd_3_1 : decode (bn_b 3) 1 = .ok (.getfield 42, 3) := by decide +kernel
theorem bd_3_4 : decode (bn_b 3) 4 = .ok (.bipush 10, 2) := by decide +kernel
theorem bd_3_6 : decode (bn_b 3) 6 = .ok (.if_icmp .ge 65, 3) := by decide +kernel
theorem bd_3_9 : decode (bn_b 3) 9 = .ok (.aload_n 0, 1) := by decide +kernel
theorem bd_3_10 : decode (bn_b 3) 10 = .ok (.getfield 45, 3) := by decide +kernel
theorem bd_3_13 : decode (bn_b 3) 13 = .ok (.aload_n 0, 1) := by decide +kernel
theorem bd_3_14 : decode (bn_b 3) 14 = .ok (.getfield 42, 3) := by decide +kernel
theorem bd_3_17 : decode (bn_b 3) 17 = .ok (.iload_n 1, 1) := by decide +kernel
theorem bd_3_18 : decode (bn_b 3) 18 = .ok (.iastore, 1) := by decide +kernel
theorem bd_3_19 : decode (bn_b 3) 19 = .ok (.aload_n 0, 1) := by decide +kernel
theorem bd_3_20 : decode (bn_b 3) 20 = .ok (.getfield 48, 3) := by decide +kernel
theorem bd_3_23 : decode (bn_b 3) 23 = .ok (.aload_n 0, 1) := by decide +kernel
theorem bd_3_24 : decode (bn_b 3) 24 = .ok (.getfield 42, 3) := by decide +kernel
theorem bd_3_27 : decode (bn_b 3) 27 = .ok (.iload_n 2, 1) := by decide +kernel
theorem bd_3_28 : decode (bn_b 3) 28 = .ok (.iastore, 1) := by decide +kernel
theorem bd_3_29 : decode (bn_b 3) 29 = .ok (.aload_n 0, 1) := by decide +kernel
theorem bd_3_30 : decode (bn_b 3) 30 = .ok (.getfield 51, 3) := by decide +kernel
theorem bd_3_33 : decode (bn_b 3) 33 = .ok (.aload_n 0, 1) := by decide +kernel
theorem bd_3_34 : decode (bn_b 3) 34 = .ok (.getfield 42, 3) := by decide +kernel
theorem bd_3_37 : decode (bn_b 3) 37 = .ok (.iload_n 3, 1) := by decide +kernel
theorem bd_3_38 : decode (bn_b 3) 38 = .ok (.iastore, 1) := by decide +kernel
theorem bd_3_39 : decode (bn_b 3) 39 = .ok (.aload_n 0, 1) := by decide +kernel
theorem bd_3_40 : decode (bn_b 3) 40 = .ok (.getfield 54, 3) := by decide +kernel
theorem bd_3_43 : decode (bn_b 3) 43 = .ok (.aload_n 0, 1) := by decide +kernel
theorem bd_3_44 : decode (bn_b 3) 44 = .ok (.getfield 42, 3) := by decide +kernel
theorem bd_3_47 : decode (bn_b 3) 47 = .ok (.bipush (-9), 2) := by decide +kernel
theorem bd_3_49 : decode (bn_b 3) 49 = .ok (.iastore, 1) := by decide +kernel
theorem bd_3_50 : decode (bn_b 3) 50 = .ok (.aload_n 0, 1) := by decide +kernel
theorem bd_3_51 : decode (bn_b 3) 51 = .ok (.getfield 57, 3) := by decide +kernel
theorem bd_3_54 : decode (bn_b 3) 54 = .ok (.aload_n 0, 1) := by decide +kernel
theorem bd_3_55 : decode (bn_b 3) 55 = .ok (.getfield 42, 3) := by decide +kernel
theorem bd_3_58 : decode (bn_b 3) 58 = .ok (.bipush (-9), 2) := by decide +kernel
theorem bd_3_60 : decode (bn_b 3) 60 = .ok (.iastore, 1) := by decide +kernel
theorem bd_3_61 : decode (bn_b 3) 61 = .ok (.aload_n 0, 1) := by decide +kernel
theorem bd_3_62 : decode (bn_b 3) 62 = .ok (.dup, 1) := by decide +kernel
theorem bd_3_63 : decode (bn_b 3) 63 = .ok (.getfield 42, 3) := by decide +kernel
theorem bd_3_66 : decode (bn_b 3) 66 = .ok (.iconst 1, 1) := by decide +kernel
theorem bd_3_67 : decode (bn_b 3) 67 = .ok (.iadd, 1) := by decide +kernel
theorem bd_3_68 : decode (bn_b 3) 68 = .ok (.putfield 42, 3) := by decide +kernel
theorem bd_3_71 : decode (bn_b 3) 71 = .ok (.return_, 1) := by decide +kernel
theorem bd_4_0 : decode (bn_b 4) 0 = .ok (.aload_n 0, 1) := by decide +kernel
theorem bd_4_1 : decode (bn_b 4) 1 = .ok (.aload_n 1, 1) := by decide +kernel
theorem bd_4_2 : decode (bn_b 4) 2 = .ok (.getfield 9, 3) := by decide +kernel
theorem bd_4_5 : decode (bn_b 4) 5 = .ok (.putfield 9, 3) := by decide +kernel
theorem bd_4_8 : decode (bn_b 4) 8 = .ok (.aload_n 0, 1) := by decide +kernel
theorem bd_4_9 : decode (bn_b 4) 9 = .ok (.aload_n 1, 1) := by decide +kernel
theorem bd_4_10 : decode (bn_b 4) 10 = .ok (.getfield 15, 3) := by decide +kernel
theorem bd_4_13 : decode (bn_b 4) 13 = .ok (.putfield 15, 3) := by decide +kernel
theorem bd_4_16 : decode (bn_b 4) 16 = .ok (.aload_n 0, 1) := by decide +kernel
theorem bd_4_17 : decode (bn_b 4) 17 = .ok (.aload_n 1, 1) := by decide +kernel
theorem bd_4_18 : decode (bn_b 4) 18 = .ok (.getfield 18, 3) := by decide +kernel
theorem bd_4_21 : decode (bn_b 4) 21 = .ok (.putfield 18, 3) := by decide +kernel
theorem bd_4_24 : decode (bn_b 4) 24 = .ok (.aload_n 0, 1) := by decide +kernel
theorem bd_4_25 : decode (bn_b 4) 25 = .ok (.aload_n 1, 1) := by decide +kernel
theorem bd_4_26 : decode (bn_b 4) 26 = .ok (.getfield 21, 3) := by decide +kernel
theorem bd_4_29 : decode (bn_b 4) 29 = .ok (.putfield 21, 3) := by decide +kernel
theorem bd_4_32 : decode (bn_b 4) 32 = .ok (.aload_n 0, 1) := by decide +kernel
theorem bd_4_33 : decode (bn_b 4) 33 = .ok (.aload_n 1, 1) := by decide +kernel
theorem bd_4_34 : decode (bn_b 4) 34 = .ok (.getfield 24, 3) := by decide +kernel
theorem bd_4_37 : decode (bn_b 4) 37 = .ok (.putfield 24, 3) := by decide +kernel
theorem bd_4_40 : decode (bn_b 4) 40 = .ok (.aload_n 0, 1) := by decide +kernel
theorem bd_4_41 : decode (bn_b 4) 41 = .ok (.aload_n 1, 1) := by decide +kernel
theorem bd_4_42 : decode (bn_b 4) 42 = .ok (.getfield 28, 3) := by decide +kernel
theorem bd_4_45 : decode (bn_b 4) 45 = .ok (.putfield 28, 3) := by decide +kernel
theorem bd_4_48 : decode (bn_b 4) 48 = .ok (.aload_n 1, 1) := by decide +kernel
theorem bd_4_49 : decode (bn_b 4) 49 = .ok (.getfield 31, 3) := by decide +kernel
theorem bd_4_52 : decode (bn_b 4) 52 = .ok (.iconst 0, 1) := by decide +kernel
theorem bd_4_53 : decode (bn_b 4) 53 = .ok (.aload_n 0, 1) := by decide +kernel
theorem bd_4_54 : decode (bn_b 4) 54 = .ok (.getfield 31, 3) := by decide +kernel
theorem bd_4_57 : decode (bn_b 4) 57 = .ok (.iconst 0, 1) := by decide +kernel
theorem bd_4_58 : decode (bn_b 4) 58 = .ok (.iconst 5, 1) := by decide +kernel
theorem bd_4_59 : decode (bn_b 4) 59 = .ok (.invokestatic 60, 3) := by decide +kernel
theorem bd_4_62 : decode (bn_b 4) 62 = .ok (.aload_n 1, 1) := by decide +kernel
theorem bd_4_63 : decode (bn_b 4) 63 = .ok (.getfield 39, 3) := by decide +kernel
theorem bd_4_66 : decode (bn_b 4) 66 = .ok (.iconst 0, 1) := by decide +kernel
theorem bd_4_67 : decode (bn_b 4) 67 = .ok (.aload_n 0, 1) := by decide +kernel
theorem bd_4_68 : decode (bn_b 4) 68 = .ok (.getfield 39, 3) := by decide +kernel
theorem bd_4_71 : decode (bn_b 4) 71 = .ok (.iconst 0, 1) := by decide +kernel
theorem bd_4_72 : decode (bn_b 4) 72 = .ok (.iconst 5, 1) := by decide +kernel
theorem bd_4_73 : decode (bn_b 4) 73 = .ok (.invokestatic 60, 3) := by decide +kernel
theorem bd_4_76 : decode (bn_b 4) 76 = .ok (.iconst 0, 1) := by decide +kernel
theorem bd_4_77 : decode (bn_b 4) 77 = .ok (.istore_n 2, 1) := by decide +kernel
theorem bd_4_78 : decode (bn_b 4) 78 = .ok (.iload_n 2, 1) := by decide +kernel
theorem bd_4_79 : decode (bn_b 4) 79 = .ok (.iconst 5, 1) := by decide +kernel
theorem bd_4_80 : decode (bn_b 4) 80 = .ok (.if_icmp .ge 21, 3) := by decide +kernel
theorem bd_4_83 : decode (bn_b 4) 83 = .ok (.aload_n 0, 1) := by decide +kernel
theorem bd_4_84 : decode (bn_b 4) 84 = .ok (.getfield 35, 3) := by decide +kernel
theorem bd_4_87 : decode (bn_b 4) 87 = .ok (.iload_n 2, 1) := by decide +kernel
theorem bd_4_88 : decode (bn_b 4) 88 = .ok (.aload_n 1, 1) := by decide +kernel
theorem bd_4_89 : decode (bn_b 4) 89 = .ok (.getfield 35, 3) := by decide +kernel
theorem bd_4_92 : decode (bn_b 4) 92 = .ok (.iload_n 2, 1) := by decide +kernel
theorem bd_4_93 : decode (bn_b 4) 93 = .ok (.baload, 1) := by decide +kernel
theorem bd_4_94 : decode (bn_b 4) 94 = .ok (.bastore, 1) := by decide +kernel
theorem bd_4_95 : decode (bn_b 4) 95 = .ok (.iinc 2 1, 3) := by decide +kernel
theorem bd_4_98 : decode (bn_b 4) 98 = .ok (.goto (-20), 3) := by decide +kernel
theorem bd_4_101 : decode (bn_b 4) 101 = .ok (.aload_n 0, 1) := by decide +kernel
theorem bd_4_102 : decode (bn_b 4) 102 = .ok (.aload_n 1, 1) := by decide +kernel
theorem bd_4_103 : decode (bn_b 4) 103 = .ok (.getfield 42, 3) := by decide +kernel
theorem bd_4_106 : decode (bn_b 4) 106 = .ok (.putfield 42, 3) := by decide +kernel
theorem bd_4_109 : decode (bn_b 4) 109 = .ok (.aload_n 1, 1) := by decide +kernel
theorem bd_4_110 : decode (bn_b 4) 110 = .ok (.getfield 45, 3) := by decide +kernel
theorem bd_4_113 : decode (bn_b 4) 113 = .ok (.iconst 0, 1) := by decide +kernel
theorem bd_4_114 : decode (bn_b 4) 114 = .ok (.aload_n 0, 1) := by decide +kernel
theorem bd_4_115 : decode (bn_b 4) 115 = .ok (.getfield 45, 3) := by decide +kernel
theorem bd_4_118 : decode (bn_b 4) 118 = .ok (.iconst 0, 1) := by decide +kernel
theorem bd_4_119 : decode (bn_b 4) 119 = .ok (.bipush 10, 2) := by decide +kernel
theorem bd_4_121 : decode (bn_b 4) 121 = .ok (.invokestatic 60, 3) := by decide +kernel
theorem bd_4_124 : decode (bn_b 4) 124 = .ok (.aload_n 1, 1) := by decide +kernel
theorem bd_4_125 : decode (bn_b 4) 125 = .ok (.getfield 48, 3) := by decide +kernel
theorem bd_4_128 : decode (bn_b 4) 128 = .ok (.iconst 0, 1) := by decide +kernel
theorem bd_4_129 : decode (bn_b 4) 129 = .ok (.aload_n 0, 1) := by decide +kernel
theorem bd_4_130 : decode (bn_b 4) 130 = .ok (.getfield 48, 3) := by decide +kernel
theorem bd_4_133 : decode (bn_b 4) 133 = .ok (.iconst 0, 1) := by decide +kernel
theorem bd_4_134 : decode (bn_b 4) 134 = .ok (.bipush 10, 2) := by decide +kernel
theorem bd_4_136 : decode (bn_b 4) 136 = .ok (.invokestatic 60, 3) := by decide +kernel
theorem bd_4_139 : decode (bn_b 4) 139 = .ok (.aload_n 1, 1) := by decide +kernel
theorem bd_4_140 : decode (bn_b 4) 140 = .ok (.getfield 51, 3) := by decide +kernel
theorem bd_4_143 : decode (bn_b 4) 143 = .ok (.iconst 0, 1) := by decide +kernel
theorem bd_4_144 : decode (bn_b 4) 144 = .ok (.aload_n 0, 1) := by decide +kernel
theorem bd_4_145 : decode (bn_b 4) 145 = .ok (.getfield 51, 3) := by decide +kernel
theorem bd_4_148 : decode (bn_b 4) 148 = .ok (.iconst 0, 1) := by decide +kernel
theorem bd_4_149 : decode (bn_b 4) 149 = .ok (.bipush 10, 2) := by decide +kernel
theorem bd_4_151 : decode (bn_b 4) 151 = .ok (.invokestatic 60, 3) := by decide +kernel
theorem bd_4_154 : decode (bn_b 4) 154 = .ok (.aload_n 1, 1) := by decide +kernel
theorem bd_4_155 : decode (bn_b 4) 155 = .ok (.getfield 54, 3) := by decide +kernel
theorem bd_4_158 : decode (bn_b 4) 158 = .ok (.iconst 0, 1) := by decide +kernel
theorem bd_4_159 : decode (bn_b 4) 159 = .ok (.aload_n 0, 1) := by decide +kernel
theorem bd_4_160 : decode (bn_b 4) 160 = .ok (.getfield 54, 3) := by decide +kernel
theorem bd_4_163 : decode (bn_b 4) 163 = .ok (.iconst 0, 1) := by decide +kernel
theorem bd_4_164 : decode (bn_b 4) 164 = .ok (.bipush 10, 2) := by decide +kernel
theorem bd_4_166 : decode (bn_b 4) 166 = .ok (.invokestatic 60, 3) := by decide +kernel
theorem bd_4_169 : decode (bn_b 4) 169 = .ok (.aload_n 1, 1) := by decide +kernel
theorem bd_4_170 : decode (bn_b 4) 170 = .ok (.getfield 57, 3) := by decide +kernel
theorem bd_4_173 : decode (bn_b 4) 173 = .ok (.iconst 0, 1) := by decide +kernel
theorem bd_4_174 : decode (bn_b 4) 174 = .ok (.aload_n 0, 1) := by decide +kernel
theorem bd_4_175 : decode (bn_b 4) 175 = .ok (.getfield 57, 3) := by decide +kernel
theorem bd_4_178 : decode (bn_b 4) 178 = .ok (.iconst 0, 1) := by decide +kernel
theorem bd_4_179 : decode (bn_b 4) 179 = .ok (.bipush 10, 2) := by decide +kernel
theorem bd_4_181 : decode (bn_b 4) 181 = .ok (.invokestatic 60, 3) := by decide +kernel
theorem bd_4_184 : decode (bn_b 4) 184 = .ok (.return_, 1) := by decide +kernel
theorem bd_5_0 : decode (bn_b 5) 0 = .ok (.iload_n 1, 1) := by decide +kernel
theorem bd_5_1 : decode (bn_b 5) 1 = .ok (.ifCond .lt 15, 3) := by decide +kernel
theorem bd_5_4 : decode (bn_b 5) 4 = .ok (.iload_n 1, 1) := by decide +kernel
theorem bd_5_5 : decode (bn_b 5) 5 = .ok (.aload_n 0, 1) := by decide +kernel
theorem bd_5_6 : decode (bn_b 5) 6 = .ok (.getfield 28, 3) := by decide +kernel
theorem bd_5_9 : decode (bn_b 5) 9 = .ok (.if_icmp .ge 7, 3) := by decide +kernel
theorem bd_5_12 : decode (bn_b 5) 12 = .ok (.iconst 1, 1) := by decide +kernel
theorem bd_5_13 : decode (bn_b 5) 13 = .ok (.goto 4, 3) := by decide +kernel
theorem bd_5_16 : decode (bn_b 5) 16 = .ok (.iconst 0, 1) := by decide +kernel
theorem bd_5_17 : decode (bn_b 5) 17 = .ok (.ireturn, 1) := by decide +kernel
theorem bd_6_0 : decode (bn_b 6) 0 = .ok (.iload_n 1, 1) := by decide +kernel
theorem bd_6_1 : decode (bn_b 6) 1 = .ok (.ifCond .lt 15, 3) := by decide +kernel
theorem bd_6_4 : decode (bn_b 6) 4 = .ok (.iload_n 1, 1) := by decide +kernel
theorem bd_6_5 : decode (bn_b 6) 5 = .ok (.aload_n 0, 1) := by decide +kernel
theorem bd_6_6 : decode (bn_b 6) 6 = .ok (.getfield 42, 3) := by decide +kernel
theorem bd_6_9 : decode (bn_b 6) 9 = .ok (.if_icmp .ge 7, 3) := by decide +kernel
theorem bd_6_12 : decode (bn_b 6) 12 = .ok (.iconst 1, 1) := by decide +kernel
theorem bd_6_13 : decode (bn_b 6) 13 = .ok (.goto 4, 3) := by decide +kernel
theorem bd_6_16 : decode (bn_b 6) 16 = .ok (.iconst 0, 1) := by decide +kernel
theorem bd_6_17 : decode (bn_b 6) 17 = .ok (.ireturn, 1) := by decide +kernel
theorem bd_7_0 : decode (bn_b 7) 0 = .ok (.aload_n 0, 1) := by decide +kernel
theorem bd_7_1 : decode (bn_b 7) 1 = .ok (.getfield 31, 3) := by decide +kernel
theorem bd_7_4 : decode (bn_b 7) 4 = .ok (.iload_n 1, 1) := by decide +kernel
theorem bd_7_5 : decode (bn_b 7) 5 = .ok (.iaload, 1) := by decide +kernel
theorem bd_7_6 : decode (bn_b 7) 6 = .ok (.aload_n 0, 1) := by decide +kernel
theorem bd_7_7 : decode (bn_b 7) 7 = .ok (.getfield 15, 3) := by decide +kernel
theorem bd_7_10 : decode (bn_b 7) 10 = .ok (.if_icmp .gt 7, 3) := by decide +kernel
theorem bd_7_13 : decode (bn_b 7) 13 = .ok (.iconst 1, 1) := by decide +kernel
theorem bd_7_14 : decode (bn_b 7) 14 = .ok (.goto 4, 3) := by decide +kernel
theorem bd_7_17 : decode (bn_b 7) 17 = .ok (.iconst 0, 1) := by decide +kernel
theorem bd_7_18 : decode (bn_b 7) 18 = .ok (.ireturn, 1) := by decide +kernel
theorem bd_8_0 : decode (bn_b 8) 0 = .ok (.aload_n 0, 1) := by decide +kernel
theorem bd_8_1 : decode (bn_b 8) 1 = .ok (.getfield 51, 3) := by decide +kernel
theorem bd_8_4 : decode (bn_b 8) 4 = .ok (.iload_n 1, 1) := by decide +kernel
theorem bd_8_5 : decode (bn_b 8) 5 = .ok (.iaload, 1) := by decide +kernel
theorem bd_8_6 : decode (bn_b 8) 6 = .ok (.aload_n 0, 1) := by decide +kernel
theorem bd_8_7 : decode (bn_b 8) 7 = .ok (.getfield 18, 3) := by decide +kernel
theorem bd_8_10 : decode (bn_b 8) 10 = .ok (.if_icmp .lt 7, 3) := by decide +kernel
theorem bd_8_13 : decode (bn_b 8) 13 = .ok (.iconst 1, 1) := by decide +kernel
theorem bd_8_14 : decode (bn_b 8) 14 = .ok (.goto 4, 3) := by decide +kernel
theorem bd_8_17 : decode (bn_b 8) 17 = .ok (.iconst 0, 1) := by decide +kernel
theorem bd_8_18 : decode (bn_b 8) 18 = .ok (.ireturn, 1) := by decide +kernel
theorem bd_9_0 : decode (bn_b 9) 0 = .ok (.aload_n 0, 1) := by decide +kernel
theorem bd_9_1 : decode (bn_b 9) 1 = .ok (.getfield 48, 3) := by decide +kernel
theorem bd_9_4 : decode (bn_b 9) 4 = .ok (.iload_n 1, 1) := by decide +kernel
theorem bd_9_5 : decode (bn_b 9) 5 = .ok (.iaload, 1) := by decide +kernel
theorem bd_9_6 : decode (bn_b 9) 6 = .ok (.bipush 10, 2) := by decide +kernel
theorem bd_9_8 : decode (bn_b 9) 8 = .ok (.if_icmp .ge 7, 3) := by decide +kernel
theorem bd_9_11 : decode (bn_b 9) 11 = .ok (.iconst 1, 1) := by decide +kernel
theorem bd_9_12 : decode (bn_b 9) 12 = .ok (.goto 4, 3) := by decide +kernel
theorem bd_9_15 : decode (bn_b 9) 15 = .ok (.iconst 0, 1) := by decide +kernel
theorem bd_9_16 : decode (bn_b 9) 16 = .ok (.ireturn, 1) := by decide +kernel
theorem bd_10_0 : decode (bn_b 10) 0 = .ok (.iconst 0, 1) := by decide +kernel
theorem bd_10_1 : decode (bn_b 10) 1 = .ok (.istore_n 1, 1) := by decide +kernel
theorem bd_10_2 : decode (bn_b 10) 2 = .ok (.iconst 0, 1) := by decide +kernel
theorem bd_10_3 : decode (bn_b 10) 3 = .ok (.istore_n 2, 1) := by decide +kernel
theorem bd_10_4 : decode (bn_b 10) 4 = .ok (.iload_n 2, 1) := by decide +kernel
theorem bd_10_5 : decode (bn_b 10) 5 = .ok (.aload_n 0, 1) := by decide +kernel
theorem bd_10_6 : decode (bn_b 10) 6 = .ok (.getfield 28, 3) := by decide +kernel
theorem bd_10_9 : decode (bn_b 10) 9 = .ok (.if_icmp .ge 23, 3) := by decide +kernel
theorem bd_10_12 : decode (bn_b 10) 12 = .ok (.aload_n 0, 1) := by decide +kernel
theorem bd_10_13 : decode (bn_b 10) 13 = .ok (.iload_n 2, 1) := by decide +kernel
theorem bd_10_14 : decode (bn_b 10) 14 = .ok (.invokevirtual 66, 3) := by decide +kernel
theorem bd_10_17 : decode (bn_b 10) 17 = .ok (.ifCond .eq 9, 3) := by decide +kernel
theorem bd_10_20 : decode (bn_b 10) 20 = .ok (.iload_n 1, 1) := by decide +kernel
theorem bd_10_21 : decode (bn_b 10) 21 = .ok (.iconst 1, 1) := by decide +kernel
theorem bd_10_22 : decode (bn_b 10) 22 = .ok (.iload_n 2, 1) := by decide +kernel
theorem bd_10_23 : decode (bn_b 10) 23 = .ok (.ishl, 1) := by decide +kernel
theorem bd_10_24 : decode (bn_b 10) 24 = .ok (.ior, 1) := by decide +kernel
theorem bd_10_25 : decode (bn_b 10) 25 = .ok (.istore_n 1, 1) := by decide +kernel
theorem bd_10_26 : decode (bn_b 10) 26 = .ok (.iinc 2 1, 3) := by decide +kernel
theorem bd_10_29 : decode (bn_b 10) 29 = .ok (.goto (-25), 3) := by decide +kernel
theorem bd_10_32 : decode (bn_b 10) 32 = .ok (.iload_n 1, 1) := by decide +kernel
theorem bd_10_33 : decode (bn_b 10) 33 = .ok (.ireturn, 1) := by decide +kernel
theorem bd_11_0 : decode (bn_b 11) 0 = .ok (.aload_n 0, 1) := by decide +kernel
theorem bd_11_1 : decode (bn_b 11) 1 = .ok (.invokevirtual 70, 3) := by decide +kernel
theorem bd_11_4 : decode (bn_b 11) 4 = .ok (.invokestatic 74, 3) := by decide +kernel
theorem bd_11_7 : decode (bn_b 11) 7 = .ok (.ireturn, 1) := by decide +kernel
theorem bd_12_0 : decode (bn_b 12) 0 = .ok (.iload_n 1, 1) := by decide +kernel
theorem bd_12_1 : decode (bn_b 12) 1 = .ok (.istore_n 2, 1) := by decide +kernel
theorem bd_12_2 : decode (bn_b 12) 2 = .ok (.iconst 0, 1) := by decide +kernel
theorem bd_12_3 : decode (bn_b 12) 3 = .ok (.istore_n 3, 1) := by decide +kernel
theorem bd_12_4 : decode (bn_b 12) 4 = .ok (.iload_n 3, 1) := by decide +kernel
theorem bd_12_5 : decode (bn_b 12) 5 = .ok (.aload_n 0, 1) := by decide +kernel
theorem bd_12_6 : decode (bn_b 12) 6 = .ok (.getfield 28, 3) := by decide +kernel
theorem bd_12_9 : decode (bn_b 12) 9 = .ok (.if_icmp .ge 26, 3) := by decide +kernel
theorem bd_12_12 : decode (bn_b 12) 12 = .ok (.aload_n 0, 1) := by decide +kernel
theorem bd_12_13 : decode (bn_b 12) 13 = .ok (.iload_n 3, 1) := by decide +kernel
theorem bd_12_14 : decode (bn_b 12) 14 = .ok (.invokevirtual 66, 3) := by decide +kernel
theorem bd_12_17 : decode (bn_b 12) 17 = .ok (.ifCond .eq 12, 3) := by decide +kernel
theorem bd_12_20 : decode (bn_b 12) 20 = .ok (.iload_n 2, 1) := by decide +kernel
theorem bd_12_21 : decode (bn_b 12) 21 = .ok (.ifCond .ne 5, 3) := by decide +kernel
theorem bd_12_24 : decode (bn_b 12) 24 = .ok (.iload_n 3, 1) := by decide +kernel
theorem bd_12_25 : decode (bn_b 12) 25 = .ok (.ireturn, 1) := by decide +kernel
theorem bd_12_26 : decode (bn_b 12) 26 = .ok (.iinc 2 (-1), 3) := by decide +kernel
theorem bd_12_29 : decode (bn_b 12) 29 = .ok (.iinc 3 1, 3) := by decide +kernel
theorem bd_12_32 : decode (bn_b 12) 32 = .ok (.goto (-28), 3) := by decide +kernel
theorem bd_12_35 : decode (bn_b 12) 35 = .ok (.bipush (-9), 2) := by decide +kernel
theorem bd_12_37 : decode (bn_b 12) 37 = .ok (.ireturn, 1) := by decide +kernel
theorem bd_13_0 : decode (bn_b 13) 0 = .ok (.iconst 0, 1) := by decide +kernel
theorem bd_13_1 : decode (bn_b 13) 1 = .ok (.istore_n 2, 1) := by decide +kernel
theorem bd_13_2 : decode (bn_b 13) 2 = .ok (.iconst 0, 1) := by decide +kernel
theorem bd_13_3 : decode (bn_b 13) 3 = .ok (.istore_n 3, 1) := by decide +kernel
theorem bd_13_4 : decode (bn_b 13) 4 = .ok (.iload_n 3, 1) := by decide +kernel
theorem bd_13_5 : decode (bn_b 13) 5 = .ok (.aload_n 0, 1) := by decide +kernel
theorem bd_13_6 : decode (bn_b 13) 6 = .ok (.getfield 42, 3) := by decide +kernel
theorem bd_13_9 : decode (bn_b 13) 9 = .ok (.if_icmp .ge 25, 3) := by decide +kernel
theorem bd_13_12 : decode (bn_b 13) 12 = .ok (.aload_n 0, 1) := by decide +kernel
theorem bd_13_13 : decode (bn_b 13) 13 = .ok (.getfield 48, 3) := by decide +kernel
theorem bd_13_16 : decode (bn_b 13) 16 = .ok (.iload_n 3, 1) := by decide +kernel
theorem bd_13_17 : decode (bn_b 13) 17 = .ok (.iaload, 1) := by decide +kernel
theorem bd_13_18 : decode (bn_b 13) 18 = .ok (.iload_n 1, 1) := by decide +kernel
theorem bd_13_19 : decode (bn_b 13) 19 = .ok (.if_icmp .ne 9, 3) := by decide +kernel
theorem bd_13_22 : decode (bn_b 13) 22 = .ok (.iload_n 2, 1) := by decide +kernel
theorem bd_13_23 : decode (bn_b 13) 23 = .ok (.iconst 1, 1) := by decide +kernel
theorem bd_13_24 : decode (bn_b 13) 24 = .ok (.iload_n 3, 1) := by decide +kernel
theorem bd_13_25 : decode (bn_b 13) 25 = .ok (.ishl, 1) := by decide +kernel
theorem bd_13_26 : decode (bn_b 13) 26 = .ok (.ior, 1) := by decide +kernel
theorem bd_13_27 : decode (bn_b 13) 27 = .ok (.istore_n 2, 1) := by decide +kernel
theorem bd_13_28 : decode (bn_b 13) 28 = .ok (.iinc 3 1, 3) := by decide +kernel
theorem bd_13_31 : decode (bn_b 13) 31 = .ok (.goto (-27), 3) := by decide +kernel
theorem bd_13_34 : decode (bn_b 13) 34 = .ok (.iload_n 2, 1) := by decide +kernel
theorem bd_13_35 : decode (bn_b 13) 35 = .ok (.ireturn, 1) := by decide +kernel
theorem bd_14_0 : decode (bn_b 14) 0 = .ok (.aload_n 0, 1) := by decide +kernel
theorem bd_14_1 : decode (bn_b 14) 1 = .ok (.iload_n 1, 1) := by decide +kernel
theorem bd_14_2 : decode (bn_b 14) 2 = .ok (.invokevirtual 80, 3) := by decide +kernel
theorem bd_14_5 : decode (bn_b 14) 5 = .ok (.ifCond .eq 17, 3) := by decide +kernel
theorem bd_14_8 : decode (bn_b 14) 8 = .ok (.aload_n 0, 1) := by decide +kernel
theorem bd_14_9 : decode (bn_b 14) 9 = .ok (.getfield 48, 3) := by decide +kernel
theorem bd_14_12 : decode (bn_b 14) 12 = .ok (.iload_n 1, 1) := by decide +kernel
theorem bd_14_13 : decode (bn_b 14) 13 = .ok (.iaload, 1) := by decide +kernel
theorem bd_14_14 : decode (bn_b 14) 14 = .ok (.iload_n 2, 1) := by decide +kernel
theorem bd_14_15 : decode (bn_b 14) 15 = .ok (.if_icmp .eq 7, 3) := by decide +kernel
theorem bd_14_18 : decode (bn_b 14) 18 = .ok (.iconst 1, 1) := by decide +kernel
theorem bd_14_19 : decode (bn_b 14) 19 = .ok (.goto 4, 3) := by decide +kernel
theorem bd_14_22 : decode (bn_b 14) 22 = .ok (.iconst 0, 1) := by decide +kernel
theorem bd_14_23 : decode (bn_b 14) 23 = .ok (.ireturn, 1) := by decide +kernel
theorem bd_15_0 : decode (bn_b 15) 0 = .ok (.iconst 0, 1) := by decide +kernel
theorem bd_15_1 : decode (bn_b 15) 1 = .ok (.istore_n 2, 1) := by decide +kernel
theorem bd_15_2 : decode (bn_b 15) 2 = .ok (.iconst 0, 1) := by decide +kernel
theorem bd_15_3 : decode (bn_b 15) 3 = .ok (.istore_n 3, 1) := by decide +kernel
theorem bd_15_4 : decode (bn_b 15) 4 = .ok (.iload_n 3, 1) := by decide +kernel
theorem bd_15_5 : decode (bn_b 15) 5 = .ok (.aload_n 0, 1) := by decide +kernel
theorem bd_15_6 : decode (bn_b 15) 6 = .ok (.getfield 42, 3) := by decide +kernel
theorem bd_15_9 : decode (bn_b 15) 9 = .ok (.if_icmp .ge 21, 3) := by decide +kernel
theorem bd_15_12 : decode (bn_b 15) 12 = .ok (.aload_n 0, 1) := by decide +kernel
theorem bd_15_13 : decode (bn_b 15) 13 = .ok (.iload_n 3, 1) := by decide +kernel
theorem bd_15_14 : decode (bn_b 15) 14 = .ok (.iload_n 1, 1) := by decide +kernel
theorem bd_15_15 : decode (bn_b 15) 15 = .ok (.invokevirtual 83, 3) := by decide +kernel
theorem bd_15_18 : decode (bn_b 15) 18 = .ok (.ifCond .eq 6, 3) := by decide +kernel
theorem bd_15_21 : decode (bn_b 15) 21 = .ok (.iinc 2 1, 3) := by decide +kernel
theorem bd_15_24 : decode (bn_b 15) 24 = .ok (.iinc 3 1, 3) := by decide +kernel
theorem bd_15_27 : decode (bn_b 15) 27 = .ok (.goto (-23), 3) := by decide +kernel
theorem bd_15_30 : decode (bn_b 15) 30 = .ok (.iload_n 2, 1) := by decide +kernel
theorem bd_15_31 : decode (bn_b 15) 31 = .ok (.ireturn, 1) := by decide +kernel
theorem bd_16_0 : decode (bn_b 16) 0 = .ok (.iload_n 2, 1) := by decide +kernel
theorem bd_16_1 : decode (bn_b 16) 1 = .ok (.istore_n 3, 1) := by decide +kernel
theorem bd_16_2 : decode (bn_b 16) 2 = .ok (.iconst 0, 1) := by decide +kernel
theorem bd_16_3 : decode (bn_b 16) 3 = .ok (.istore 4, 2) := by decide +kernel
theorem bd_16_5 : decode (bn_b 16) 5 = .ok (.iload 4, 2) := by decide +kernel
theorem bd_16_7 : decode (bn_b 16) 7 = .ok (.aload_n 0, 1) := by decide +kernel
theorem bd_16_8 : decode (bn_b 16) 8 = .ok (.getfield 42, 3) := by decide +kernel
theorem bd_16_11 : decode (bn_b 16) 11 = .ok (.if_icmp .ge 29, 3) := by decide +kernel
theorem bd_16_14 : decode (bn_b 16) 14 = .ok (.aload_n 0, 1) := by decide +kernel
theorem bd_16_15 : decode (bn_b 16) 15 = .ok (.iload 4, 2) := by decide +kernel
theorem bd_16_17 : decode (bn_b 16) 17 = .ok (.iload_n 1, 1) := by decide +kernel
theorem bd_16_18 : decode (bn_b 16) 18 = .ok (.invokevirtual 83, 3) := by decide +kernel
theorem bd_16_21 : decode (bn_b 16) 21 = .ok (.ifCond .eq 13, 3) := by decide +kernel
theorem bd_16_24 : decode (bn_b 16) 24 = .ok (.iload_n 3, 1) := by decide +kernel
theorem bd_16_25 : decode (bn_b 16) 25 = .ok (.ifCond .ne 6, 3) := by decide +kernel
theorem bd_16_28 : decode (bn_b 16) 28 = .ok (.iload 4, 2) := by decide +kernel
theorem bd_16_30 : decode (bn_b 16) 30 = .ok (.ireturn, 1) := by decide +kernel
theorem bd_16_31 : decode (bn_b 16) 31 = .ok (.iinc 3 (-1), 3) := by decide +kernel
theorem bd_16_34 : decode (bn_b 16) 34 = .ok (.iinc 4 1, 3) := by decide +kernel
theorem bd_16_37 : decode (bn_b 16) 37 = .ok (.goto (-32), 3) := by decide +kernel
theorem bd_16_40 : decode (bn_b 16) 40 = .ok (.bipush (-9), 2) := by decide +kernel
theorem bd_16_42 : decode (bn_b 16) 42 = .ok (.ireturn, 1) := by decide +kernel
theorem bd_17_0 : decode (bn_b 17) 0 = .ok (.iconst 0, 1) := by decide +kernel
theorem bd_17_1 : decode (bn_b 17) 1 = .ok (.istore_n 1, 1) := by decide +kernel
theorem bd_17_2 : decode (bn_b 17) 2 = .ok (.iconst 0, 1) := by decide +kernel
theorem bd_17_3 : decode (bn_b 17) 3 = .ok (.istore_n 2, 1) := by decide +kernel
theorem bd_17_4 : decode (bn_b 17) 4 = .ok (.iload_n 2, 1) := by decide +kernel
theorem bd_17_5 : decode (bn_b 17) 5 = .ok (.aload_n 0, 1) := by decide +kernel
theorem bd_17_6 : decode (bn_b 17) 6 = .ok (.getfield 42, 3) := by decide +kernel
theorem bd_17_9 : decode (bn_b 17) 9 = .ok (.if_icmp .ge 23, 3) := by decide +kernel
theorem bd_17_12 : decode (bn_b 17) 12 = .ok (.aload_n 0, 1) := by decide +kernel
theorem bd_17_13 : decode (bn_b 17) 13 = .ok (.getfield 48, 3) := by decide +kernel
theorem bd_17_16 : decode (bn_b 17) 16 = .ok (.iload_n 2, 1) := by decide +kernel
theorem bd_17_17 : decode (bn_b 17) 17 = .ok (.iaload, 1) := by decide +kernel
theorem bd_17_18 : decode (bn_b 17) 18 = .ok (.bipush 20, 2) := by decide +kernel
theorem bd_17_20 : decode (bn_b 17) 20 = .ok (.if_icmp .ne 6, 3) := by decide +kernel
theorem bd_17_23 : decode (bn_b 17) 23 = .ok (.iinc 1 1, 3) := by decide +kernel
theorem bd_17_26 : decode (bn_b 17) 26 = .ok (.iinc 2 1, 3) := by decide +kernel
theorem bd_17_29 : decode (bn_b 17) 29 = .ok (.goto (-25), 3) := by decide +kernel
theorem bd_17_32 : decode (bn_b 17) 32 = .ok (.iload_n 1, 1) := by decide +kernel
theorem bd_17_33 : decode (bn_b 17) 33 = .ok (.ireturn, 1) := by decide +kernel
theorem bd_18_0 : decode (bn_b 18) 0 = .ok (.iconst 0, 1) := by decide +kernel
theorem bd_18_1 : decode (bn_b 18) 1 = .ok (.istore_n 1, 1) := by decide +kernel
theorem bd_18_2 : decode (bn_b 18) 2 = .ok (.iconst 0, 1) := by decide +kernel
theorem bd_18_3 : decode (bn_b 18) 3 = .ok (.istore_n 2, 1) := by decide +kernel
theorem bd_18_4 : decode (bn_b 18) 4 = .ok (.iload_n 2, 1) := by decide +kernel
theorem bd_18_5 : decode (bn_b 18) 5 = .ok (.aload_n 0, 1) := by decide +kernel
theorem bd_18_6 : decode (bn_b 18) 6 = .ok (.getfield 42, 3) := by decide +kernel
theorem bd_18_9 : decode (bn_b 18) 9 = .ok (.if_icmp .ge 31, 3) := by decide +kernel
theorem bd_18_12 : decode (bn_b 18) 12 = .ok (.aload_n 0, 1) := by decide +kernel
theorem bd_18_13 : decode (bn_b 18) 13 = .ok (.getfield 48, 3) := by decide +kernel
theorem bd_18_16 : decode (bn_b 18) 16 = .ok (.iload_n 2, 1) := by decide +kernel
theorem bd_18_17 : decode (bn_b 18) 17 = .ok (.iaload, 1) := by decide +kernel
theorem bd_18_18 : decode (bn_b 18) 18 = .ok (.bipush 20, 2) := by decide +kernel
theorem bd_18_20 : decode (bn_b 18) 20 = .ok (.if_icmp .eq 14, 3) := by decide +kernel
theorem bd_18_23 : decode (bn_b 18) 23 = .ok (.aload_n 0, 1) := by decide +kernel
theorem bd_18_24 : decode (bn_b 18) 24 = .ok (.iload_n 2, 1) := by decide +kernel
theorem bd_18_25 : decode (bn_b 18) 25 = .ok (.invokevirtual 87, 3) := by decide +kernel
theorem bd_18_28 : decode (bn_b 18) 28 = .ok (.ifCond .eq 6, 3) := by decide +kernel
theorem bd_18_31 : decode (bn_b 18) 31 = .ok (.iinc 1 1, 3) := by decide +kernel
theorem bd_18_34 : decode (bn_b 18) 34 = .ok (.iinc 2 1, 3) := by decide +kernel
theorem bd_18_37 : decode (bn_b 18) 37 = .ok (.goto (-33), 3) := by decide +kernel
theorem bd_18_40 : decode (bn_b 18) 40 = .ok (.iload_n 1, 1) := by decide +kernel
theorem bd_18_41 : decode (bn_b 18) 41 = .ok (.ireturn, 1) := by decide +kernel
theorem bd_19_0 : decode (bn_b 19) 0 = .ok (.iconst 0, 1) := by decide +kernel
theorem bd_19_1 : decode (bn_b 19) 1 = .ok (.istore_n 2, 1) := by decide +kernel
theorem bd_19_2 : decode (bn_b 19) 2 = .ok (.iload_n 2, 1) := by decide +kernel
theorem bd_19_3 : decode (bn_b 19) 3 = .ok (.aload_n 0, 1) := by decide +kernel
theorem bd_19_4 : decode (bn_b 19) 4 = .ok (.getfield 42, 3) := by decide +kernel
theorem bd_19_7 : decode (bn_b 19) 7 = .ok (.if_icmp .ge 21, 3) := by decide +kernel
theorem bd_19_10 : decode (bn_b 19) 10 = .ok (.aload_n 0, 1) := by decide +kernel
theorem bd_19_11 : decode (bn_b 19) 11 = .ok (.getfield 45, 3) := by decide +kernel
theorem bd_19_14 : decode (bn_b 19) 14 = .ok (.iload_n 2, 1) := by decide +kernel
theorem bd_19_15 : decode (bn_b 19) 15 = .ok (.iaload, 1) := by decide +kernel
theorem bd_19_16 : decode (bn_b 19) 16 = .ok (.iload_n 1, 1) := by decide +kernel
theorem bd_19_17 : decode (bn_b 19) 17 = .ok (.if_icmp .ne 5, 3) := by decide +kernel
theorem bd_19_20 : decode (bn_b 19) 20 = .ok (.iconst 1, 1) := by decide +kernel
theorem bd_19_21 : decode (bn_b 19) 21 = .ok (.ireturn, 1) := by decide +kernel
theorem bd_19_22 : decode (bn_b 19) 22 = .ok (.iinc 2 1, 3) := by decide +kernel
theorem bd_19_25 : decode (bn_b 19) 25 = .ok (.goto (-23), 3) := by decide +kernel
theorem bd_19_28 : decode (bn_b 19) 28 = .ok (.iconst 0, 1) := by decide +kernel
theorem bd_19_29 : decode (bn_b 19) 29 = .ok (.ireturn, 1) := by decide +kernel
theorem bd_20_0 : decode (bn_b 20) 0 = .ok (.iconst 0, 1) := by decide +kernel
theorem bd_20_1 : decode (bn_b 20) 1 = .ok (.istore_n 1, 1) := by decide +kernel
theorem bd_20_2 : decode (bn_b 20) 2 = .ok (.iconst 0, 1) := by decide +kernel
theorem bd_20_3 : decode (bn_b 20) 3 = .ok (.istore_n 2, 1) := by decide +kernel
theorem bd_20_4 : decode (bn_b 20) 4 = .ok (.iload_n 2, 1) := by decide +kernel
theorem bd_20_5 : decode (bn_b 20) 5 = .ok (.aload_n 0, 1) := by decide +kernel
theorem bd_20_6 : decode (bn_b 20) 6 = .ok (.getfield 42, 3) := by decide +kernel
theorem bd_20_9 : decode (bn_b 20) 9 = .ok (.if_icmp .ge 20, 3) := by decide +kernel
theorem bd_20_12 : decode (bn_b 20) 12 = .ok (.iload_n 1, 1) := by decide +kernel
theorem bd_20_13 : decode (bn_b 20) 13 = .ok (.aload_n 0, 1) := by decide +kernel
theorem bd_20_14 : decode (bn_b 20) 14 = .ok (.getfield 45, 3) := by decide +kernel
theorem bd_20_17 : decode (bn_b 20) 17 = .ok (.iload_n 2, 1) := by decide +kernel
theorem bd_20_18 : decode (bn_b 20) 18 = .ok (.iaload, 1) := by decide +kernel
theorem bd_20_19 : decode (bn_b 20) 19 = .ok (.invokestatic 90, 3) := by decide +kernel
theorem bd_20_22 : decode (bn_b 20) 22 = .ok (.istore_n 1, 1) := by decide +kernel
theorem bd_20_23 : decode (bn_b 20) 23 = .ok (.iinc 2 1, 3) := by decide +kernel
theorem bd_20_26 : decode (bn_b 20) 26 = .ok (.goto (-22), 3) := by decide +kernel
theorem bd_20_29 : decode (bn_b 20) 29 = .ok (.iload_n 1, 1) := by decide +kernel
theorem bd_20_30 : decode (bn_b 20) 30 = .ok (.ireturn, 1) := by decide +kernel
theorem bd_21_0 : decode (bn_b 21) 0 = .ok (.aload_n 0, 1) := by decide +kernel
theorem bd_21_1 : decode (bn_b 21) 1 = .ok (.invokevirtual 96, 3) := by decide +kernel
theorem bd_21_4 : decode (bn_b 21) 4 = .ok (.istore_n 1, 1) := by decide +kernel
theorem bd_21_5 : decode (bn_b 21) 5 = .ok (.iconst 0, 1) := by decide +kernel
theorem bd_21_6 : decode (bn_b 21) 6 = .ok (.istore_n 2, 1) := by decide +kernel
theorem bd_21_7 : decode (bn_b 21) 7 = .ok (.iconst 1, 1) := by decide +kernel
theorem bd_21_8 : decode (bn_b 21) 8 = .ok (.istore_n 3, 1) := by decide +kernel
theorem bd_21_9 : decode (bn_b 21) 9 = .ok (.iload_n 3, 1) := by decide +kernel
theorem bd_21_10 : decode (bn_b 21) 10 = .ok (.iload_n 1, 1) := by decide +kernel
theorem bd_21_11 : decode (bn_b 21) 11 = .ok (.if_icmp .ge 20, 3) := by decide +kernel
theorem bd_21_14 : decode (bn_b 21) 14 = .ok (.aload_n 0, 1) := by decide +kernel
theorem bd_21_15 : decode (bn_b 21) 15 = .ok (.iload_n 3, 1) := by decide +kernel
theorem bd_21_16 : decode (bn_b 21) 16 = .ok (.invokevirtual 99, 3) := by decide +kernel
theorem bd_21_19 : decode (bn_b 21) 19 = .ok (.ifCond .ne 6, 3) := by decide +kernel
theorem bd_21_22 : decode (bn_b 21) 22 = .ok (.iinc 2 1, 3) := by decide +kernel
theorem bd_21_25 : decode (bn_b 21) 25 = .ok (.iinc 3 1, 3) := by decide +kernel
theorem bd_21_28 : decode (bn_b 21) 28 = .ok (.goto (-19), 3) := by decide +kernel
theorem bd_21_31 : decode (bn_b 21) 31 = .ok (.iload_n 2, 1) := by decide +kernel
theorem bd_21_32 : decode (bn_b 21) 32 = .ok (.ireturn, 1) := by decide +kernel
theorem bd_22_0 : decode (bn_b 22) 0 = .ok (.aload_n 0, 1) := by decide +kernel
theorem bd_22_1 : decode (bn_b 22) 1 = .ok (.iload_n 1, 1) := by decide +kernel
theorem bd_22_2 : decode (bn_b 22) 2 = .ok (.invokevirtual 66, 3) := by decide +kernel
theorem bd_22_5 : decode (bn_b 22) 5 = .ok (.ifCond .eq 48, 3) := by decide +kernel
theorem bd_22_8 : decode (bn_b 22) 8 = .ok (.aload_n 0, 1) := by decide +kernel
theorem bd_22_9 : decode (bn_b 22) 9 = .ok (.getfield 35, 3) := by decide +kernel
theorem bd_22_12 : decode (bn_b 22) 12 = .ok (.iload_n 1, 1) := by decide +kernel
theorem bd_22_13 : decode (bn_b 22) 13 = .ok (.baload, 1) := by decide +kernel
theorem bd_22_14 : decode (bn_b 22) 14 = .ok (.ifCond .ne 39, 3) := by decide +kernel
theorem bd_22_17 : decode (bn_b 22) 17 = .ok (.aload_n 0, 1) := by decide +kernel
theorem bd_22_18 : decode (bn_b 22) 18 = .ok (.getfield 48, 3) := by decide +kernel
theorem bd_22_21 : decode (bn_b 22) 21 = .ok (.iload_n 2, 1) := by decide +kernel
theorem bd_22_22 : decode (bn_b 22) 22 = .ok (.iaload, 1) := by decide +kernel
theorem bd_22_23 : decode (bn_b 22) 23 = .ok (.iload_n 1, 1) := by decide +kernel
theorem bd_22_24 : decode (bn_b 22) 24 = .ok (.if_icmp .ne 29, 3) := by decide +kernel
theorem bd_22_27 : decode (bn_b 22) 27 = .ok (.aload_n 0, 1) := by decide +kernel
theorem bd_22_28 : decode (bn_b 22) 28 = .ok (.iload_n 2, 1) := by decide +kernel
theorem bd_22_29 : decode (bn_b 22) 29 = .ok (.invokevirtual 87, 3) := by decide +kernel
theorem bd_22_32 : decode (bn_b 22) 32 = .ok (.ifCond .ne 21, 3) := by decide +kernel
theorem bd_22_35 : decode (bn_b 22) 35 = .ok (.aload_n 0, 1) := by decide +kernel
theorem bd_22_36 : decode (bn_b 22) 36 = .ok (.iload_n 1, 1) := by decide +kernel
theorem bd_22_37 : decode (bn_b 22) 37 = .ok (.aload_n 0, 1) := by decide +kernel
theorem bd_22_38 : decode (bn_b 22) 38 = .ok (.getfield 45, 3) := by decide +kernel
theorem bd_22_41 : decode (bn_b 22) 41 = .ok (.iload_n 2, 1) := by decide +kernel
theorem bd_22_42 : decode (bn_b 22) 42 = .ok (.iaload, 1) := by decide +kernel
theorem bd_22_43 : decode (bn_b 22) 43 = .ok (.invokevirtual 102, 3) := by decide +kernel
theorem bd_22_46 : decode (bn_b 22) 46 = .ok (.ifCond .ne 7, 3) := by decide +kernel
theorem bd_22_49 : decode (bn_b 22) 49 = .ok (.iconst 1, 1) := by decide +kernel
theorem bd_22_50 : decode (bn_b 22) 50 = .ok (.goto 4, 3) := by decide +kernel
theorem bd_22_53 : decode (bn_b 22) 53 = .ok (.iconst 0, 1) := by decide +kernel
theorem bd_22_54 : decode (bn_b 22) 54 = .ok (.ireturn, 1) := by decide +kernel
theorem bd_23_0 : decode (bn_b 23) 0 = .ok (.iconst 0, 1) := by decide +kernel
theorem bd_23_1 : decode (bn_b 23) 1 = .ok (.istore_n 3, 1) := by decide +kernel
theorem bd_23_2 : decode (bn_b 23) 2 = .ok (.iload_n 3, 1) := by decide +kernel
theorem bd_23_3 : decode (bn_b 23) 3 = .ok (.aload_n 0, 1) := by decide +kernel
theorem bd_23_4 : decode (bn_b 23) 4 = .ok (.getfield 42, 3) := by decide +kernel
theorem bd_23_7 : decode (bn_b 23) 7 = .ok (.if_icmp .ge 74, 3) := by decide +kernel
theorem bd_23_10 : decode (bn_b 23) 10 = .ok (.aload_n 0, 1) := by decide +kernel
theorem bd_23_11 : decode (bn_b 23) 11 = .ok (.getfield 9, 3) := by decide +kernel
theorem bd_23_14 : decode (bn_b 23) 14 = .ok (.ifCond .ne 13, 3) := by decide +kernel
theorem bd_23_17 : decode (bn_b 23) 17 = .ok (.aload_n 0, 1) := by decide +kernel
theorem bd_23_18 : decode (bn_b 23) 18 = .ok (.getfield 48, 3) := by decide +kernel
theorem bd_23_21 : decode (bn_b 23) 21 = .ok (.iload_n 3, 1) := by decide +kernel
theorem bd_23_22 : decode (bn_b 23) 22 = .ok (.iaload, 1) := by decide +kernel
theorem bd_23_23 : decode (bn_b 23) 23 = .ok (.iload_n 1, 1) := by decide +kernel
theorem bd_23_24 : decode (bn_b 23) 24 = .ok (.if_icmp .eq 19, 3) := by decide +kernel
theorem bd_23_27 : decode (bn_b 23) 27 = .ok (.aload_n 0, 1) := by decide +kernel
theorem bd_23_28 : decode (bn_b 23) 28 = .ok (.getfield 9, 3) := by decide +kernel
theorem bd_23_31 : decode (bn_b 23) 31 = .ok (.iconst 1, 1) := by decide +kernel
theorem bd_23_32 : decode (bn_b 23) 32 = .ok (.if_icmp .ne 15, 3) := by decide +kernel
theorem bd_23_35 : decode (bn_b 23) 35 = .ok (.aload_n 0, 1) := by decide +kernel
theorem bd_23_36 : decode (bn_b 23) 36 = .ok (.iload_n 3, 1) := by decide +kernel
theorem bd_23_37 : decode (bn_b 23) 37 = .ok (.invokevirtual 80, 3) := by decide +kernel
theorem bd_23_40 : decode (bn_b 23) 40 = .ok (.ifCond .eq 7, 3) := by decide +kernel
theorem bd_23_43 : decode (bn_b 23) 43 = .ok (.iconst 1, 1) := by decide +kernel
theorem bd_23_44 : decode (bn_b 23) 44 = .ok (.goto 4, 3) := by decide +kernel
theorem bd_23_47 : decode (bn_b 23) 47 = .ok (.iconst 0, 1) := by decide +kernel
theorem bd_23_48 : decode (bn_b 23) 48 = .ok (.istore 4, 2) := by decide +kernel
theorem bd_23_50 : decode (bn_b 23) 50 = .ok (.iload 4, 2) := by decide +kernel
theorem bd_23_52 : decode (bn_b 23) 52 = .ok (.ifCond .eq 23, 3) := by decide +kernel
theorem bd_23_55 : decode (bn_b 23) 55 = .ok (.aload_n 0, 1) := by decide +kernel
theorem bd_23_56 : decode (bn_b 23) 56 = .ok (.getfield 45, 3) := by decide +kernel
theorem bd_23_59 : decode (bn_b 23) 59 = .ok (.iload_n 3, 1) := by decide +kernel
theorem bd_23_60 : decode (bn_b 23) 60 = .ok (.iaload, 1) := by decide +kernel
theorem bd_23_61 : decode (bn_b 23) 61 = .ok (.iload_n 2, 1) := by decide +kernel
theorem bd_23_62 : decode (bn_b 23) 62 = .ok (.if_icmp .ge 13, 3) := by decide +kernel
theorem bd_23_65 : decode (bn_b 23) 65 = .ok (.aload_n 0, 1) := by decide +kernel
theorem bd_23_66 : decode (bn_b 23) 66 = .ok (.iload_n 3, 1) := by decide +kernel
theorem bd_23_67 : decode (bn_b 23) 67 = .ok (.invokevirtual 87, 3) := by decide +kernel
theorem bd_23_70 : decode (bn_b 23) 70 = .ok (.ifCond .ne 5, 3) := by decide +kernel
theorem bd_23_73 : decode (bn_b 23) 73 = .ok (.iconst 1, 1) := by decide +kernel
theorem bd_23_74 : decode (bn_b 23) 74 = .ok (.ireturn, 1) := by decide +kernel
theorem bd_23_75 : decode (bn_b 23) 75 = .ok (.iinc 3 1, 3) := by decide +kernel
theorem bd_23_78 : decode (bn_b 23) 78 = .ok (.goto (-76), 3) := by decide +kernel
theorem bd_23_81 : decode (bn_b 23) 81 = .ok (.iconst 0, 1) := by decide +kernel
theorem bd_23_82 : decode (bn_b 23) 82 = .ok (.ireturn, 1) := by decide +kernel
theorem bd_24_0 : decode (bn_b 24) 0 = .ok (.aload_n 0, 1) := by decide +kernel
theorem bd_24_1 : decode (bn_b 24) 1 = .ok (.getfield 31, 3) := by decide +kernel
theorem bd_24_4 : decode (bn_b 24) 4 = .ok (.iload_n 1, 1) := by decide +kernel
theorem bd_24_5 : decode (bn_b 24) 5 = .ok (.iconst 0, 1) := by decide +kernel
theorem bd_24_6 : decode (bn_b 24) 6 = .ok (.iastore, 1) := by decide +kernel
theorem bd_24_7 : decode (bn_b 24) 7 = .ok (.aload_n 0, 1) := by decide +kernel
theorem bd_24_8 : decode (bn_b 24) 8 = .ok (.getfield 35, 3) := by decide +kernel
theorem bd_24_11 : decode (bn_b 24) 11 = .ok (.iload_n 1, 1) := by decide +kernel
theorem bd_24_12 : decode (bn_b 24) 12 = .ok (.iconst 1, 1) := by decide +kernel
theorem bd_24_13 : decode (bn_b 24) 13 = .ok (.bastore, 1) := by decide +kernel
theorem bd_24_14 : decode (bn_b 24) 14 = .ok (.aload_n 0, 1) := by decide +kernel
theorem bd_24_15 : decode (bn_b 24) 15 = .ok (.getfield 39, 3) := by decide +kernel
theorem bd_24_18 : decode (bn_b 24) 18 = .ok (.iload_n 1, 1) := by decide +kernel
theorem bd_24_19 : decode (bn_b 24) 19 = .ok (.dup2, 1) := by decide +kernel
theorem bd_24_20 : decode (bn_b 24) 20 = .ok (.iaload, 1) := by decide +kernel
theorem bd_24_21 : decode (bn_b 24) 21 = .ok (.iconst 1, 1) := by decide +kernel
theorem bd_24_22 : decode (bn_b 24) 22 = .ok (.iadd, 1) := by decide +kernel
theorem bd_24_23 : decode (bn_b 24) 23 = .ok (.iastore, 1) := by decide +kernel
theorem bd_24_24 : decode (bn_b 24) 24 = .ok (.aload_n 0, 1) := by decide +kernel
theorem bd_24_25 : decode (bn_b 24) 25 = .ok (.getfield 48, 3) := by decide +kernel
theorem bd_24_28 : decode (bn_b 24) 28 = .ok (.iload_n 2, 1) := by decide +kernel
theorem bd_24_29 : decode (bn_b 24) 29 = .ok (.bipush 20, 2) := by decide +kernel
theorem bd_24_31 : decode (bn_b 24) 31 = .ok (.iastore, 1) := by decide +kernel
theorem bd_24_32 : decode (bn_b 24) 32 = .ok (.aload_n 0, 1) := by decide +kernel
theorem bd_24_33 : decode (bn_b 24) 33 = .ok (.getfield 54, 3) := by decide +kernel
theorem bd_24_36 : decode (bn_b 24) 36 = .ok (.iload_n 2, 1) := by decide +kernel
theorem bd_24_37 : decode (bn_b 24) 37 = .ok (.iload_n 1, 1) := by decide +kernel
theorem bd_24_38 : decode (bn_b 24) 38 = .ok (.iastore, 1) := by decide +kernel
theorem bd_24_39 : decode (bn_b 24) 39 = .ok (.aload_n 0, 1) := by decide +kernel
theorem bd_24_40 : decode (bn_b 24) 40 = .ok (.getfield 57, 3) := by decide +kernel
theorem bd_24_43 : decode (bn_b 24) 43 = .ok (.iload_n 2, 1) := by decide +kernel
theorem bd_24_44 : decode (bn_b 24) 44 = .ok (.aload_n 0, 1) := by decide +kernel
theorem bd_24_45 : decode (bn_b 24) 45 = .ok (.getfield 21, 3) := by decide +kernel
theorem bd_24_48 : decode (bn_b 24) 48 = .ok (.iastore, 1) := by decide +kernel
theorem bd_24_49 : decode (bn_b 24) 49 = .ok (.return_, 1) := by decide +kernel
theorem bd_25_0 : decode (bn_b 25) 0 = .ok (.iconst 0, 1) := by decide +kernel
theorem bd_25_1 : decode (bn_b 25) 1 = .ok (.istore_n 1, 1) := by decide +kernel
theorem bd_25_2 : decode (bn_b 25) 2 = .ok (.iconst 0, 1) := by decide +kernel
theorem bd_25_3 : decode (bn_b 25) 3 = .ok (.istore_n 2, 1) := by decide +kernel
theorem bd_25_4 : decode (bn_b 25) 4 = .ok (.iload_n 2, 1) := by decide +kernel
theorem bd_25_5 : decode (bn_b 25) 5 = .ok (.aload_n 0, 1) := by decide +kernel
theorem bd_25_6 : decode (bn_b 25) 6 = .ok (.getfield 28, 3) := by decide +kernel
theorem bd_25_9 : decode (bn_b 25) 9 = .ok (.if_icmp .ge 62, 3) := by decide +kernel
theorem bd_25_12 : decode (bn_b 25) 12 = .ok (.aload_n 0, 1) := by decide +kernel
theorem bd_25_13 : decode (bn_b 25) 13 = .ok (.iload_n 2, 1) := by decide +kernel
theorem bd_25_14 : decode (bn_b 25) 14 = .ok (.invokevirtual 66, 3) := by decide +kernel
theorem bd_25_17 : decode (bn_b 25) 17 = .ok (.ifCond .eq 41, 3) := by decide +kernel
theorem bd_25_20 : decode (bn_b 25) 20 = .ok (.aload_n 0, 1) := by decide +kernel
theorem bd_25_21 : decode (bn_b 25) 21 = .ok (.getfield 35, 3) := by decide +kernel
theorem bd_25_24 : decode (bn_b 25) 24 = .ok (.iload_n 2, 1) := by decide +kernel
theorem bd_25_25 : decode (bn_b 25) 25 = .ok (.baload, 1) := by decide +kernel
theorem bd_25_26 : decode (bn_b 25) 26 = .ok (.ifCond .ne 32, 3) := by decide +kernel
theorem bd_25_29 : decode (bn_b 25) 29 = .ok (.aload_n 0, 1) := by decide +kernel
theorem bd_25_30 : decode (bn_b 25) 30 = .ok (.getfield 31, 3) := by decide +kernel
theorem bd_25_33 : decode (bn_b 25) 33 = .ok (.iload_n 2, 1) := by decide +kernel
theorem bd_25_34 : decode (bn_b 25) 34 = .ok (.dup2, 1) := by decide +kernel
theorem bd_25_35 : decode (bn_b 25) 35 = .ok (.iaload, 1) := by decide +kernel
theorem bd_25_36 : decode (bn_b 25) 36 = .ok (.iconst 1, 1) := by decide +kernel
theorem bd_25_37 : decode (bn_b 25) 37 = .ok (.iadd, 1) := by decide +kernel
theorem bd_25_38 : decode (bn_b 25) 38 = .ok (.iastore, 1) := by decide +kernel
theorem bd_25_39 : decode (bn_b 25) 39 = .ok (.aload_n 0, 1) := by decide +kernel
theorem bd_25_40 : decode (bn_b 25) 40 = .ok (.iload_n 2, 1) := by decide +kernel
theorem bd_25_41 : decode (bn_b 25) 41 = .ok (.invokevirtual 66, 3) := by decide +kernel
theorem bd_25_44 : decode (bn_b 25) 44 = .ok (.ifCond .ne 14, 3) := by decide +kernel
theorem bd_25_47 : decode (bn_b 25) 47 = .ok (.iload_n 1, 1) := by decide +kernel
theorem bd_25_48 : decode (bn_b 25) 48 = .ok (.iconst 1, 1) := by decide +kernel
theorem bd_25_49 : decode (bn_b 25) 49 = .ok (.iload_n 2, 1) := by decide +kernel
theorem bd_25_50 : decode (bn_b 25) 50 = .ok (.ishl, 1) := by decide +kernel
theorem bd_25_51 : decode (bn_b 25) 51 = .ok (.ior, 1) := by decide +kernel
theorem bd_25_52 : decode (bn_b 25) 52 = .ok (.istore_n 1, 1) := by decide +kernel
theorem bd_25_53 : decode (bn_b 25) 53 = .ok (.aload_n 0, 1) := by decide +kernel
theorem bd_25_54 : decode (bn_b 25) 54 = .ok (.iload_n 2, 1) := by decide +kernel
theorem bd_25_55 : decode (bn_b 25) 55 = .ok (.invokevirtual 105, 3) := by decide +kernel
theorem bd_25_58 : decode (bn_b 25) 58 = .ok (.aload_n 0, 1) := by decide +kernel
theorem bd_25_59 : decode (bn_b 25) 59 = .ok (.getfield 35, 3) := by decide +kernel
theorem bd_25_62 : decode (bn_b 25) 62 = .ok (.iload_n 2, 1) := by decide +kernel
theorem bd_25_63 : decode (bn_b 25) 63 = .ok (.iconst 0, 1) := by decide +kernel
theorem bd_25_64 : decode (bn_b 25) 64 = .ok (.bastore, 1) := by decide +kernel
theorem bd_25_65 : decode (bn_b 25) 65 = .ok (.iinc 2 1, 3) := by decide +kernel
theorem bd_25_68 : decode (bn_b 25) 68 = .ok (.goto (-64), 3) := by decide +kernel
theorem bd_25_71 : decode (bn_b 25) 71 = .ok (.iconst 0, 1) := by decide +kernel
theorem bd_25_72 : decode (bn_b 25) 72 = .ok (.istore_n 2, 1) := by decide +kernel
theorem bd_25_73 : decode (bn_b 25) 73 = .ok (.iload_n 2, 1) := by decide +kernel
theorem bd_25_74 : decode (bn_b 25) 74 = .ok (.aload_n 0, 1) := by decide +kernel
theorem bd_25_75 : decode (bn_b 25) 75 = .ok (.getfield 42, 3) := by decide +kernel
theorem bd_25_78 : decode (bn_b 25) 78 = .ok (.if_icmp .ge 39, 3) := by decide +kernel
theorem bd_25_81 : decode (bn_b 25) 81 = .ok (.aload_n 0, 1) := by decide +kernel
theorem bd_25_82 : decode (bn_b 25) 82 = .ok (.getfield 48, 3) := by decide +kernel
theorem bd_25_85 : decode (bn_b 25) 85 = .ok (.iload_n 2, 1) := by decide +kernel
theorem bd_25_86 : decode (bn_b 25) 86 = .ok (.iaload, 1) := by decide +kernel
theorem bd_25_87 : decode (bn_b 25) 87 = .ok (.bipush 20, 2) := by decide +kernel
theorem bd_25_89 : decode (bn_b 25) 89 = .ok (.if_icmp .eq 22, 3) := by decide +kernel
theorem bd_25_92 : decode (bn_b 25) 92 = .ok (.aload_n 0, 1) := by decide +kernel
theorem bd_25_93 : decode (bn_b 25) 93 = .ok (.getfield 51, 3) := by decide +kernel
theorem bd_25_96 : decode (bn_b 25) 96 = .ok (.iload_n 2, 1) := by decide +kernel
theorem bd_25_97 : decode (bn_b 25) 97 = .ok (.aload_n 0, 1) := by decide +kernel
theorem bd_25_98 : decode (bn_b 25) 98 = .ok (.getfield 51, 3) := by decide +kernel
theorem bd_25_101 : decode (bn_b 25) 101 = .ok (.iload_n 2, 1) := by decide +kernel
theorem bd_25_102 : decode (bn_b 25) 102 = .ok (.iaload, 1) := by decide +kernel
theorem bd_25_103 : decode (bn_b 25) 103 = .ok (.iconst 1, 1) := by decide +kernel
theorem bd_25_104 : decode (bn_b 25) 104 = .ok (.iadd, 1) := by decide +kernel
theorem bd_25_105 : decode (bn_b 25) 105 = .ok (.bipush 99, 2) := by decide +kernel
theorem bd_25_107 : decode (bn_b 25) 107 = .ok (.invokestatic 109, 3) := by decide +kernel
theorem bd_25_110 : decode (bn_b 25) 110 = .ok (.iastore, 1) := by decide +kernel
theorem bd_25_111 : decode (bn_b 25) 111 = .ok (.iinc 2 1, 3) := by decide +kernel
theorem bd_25_114 : decode (bn_b 25) 114 = .ok (.goto (-41), 3) := by decide +kernel
theorem bd_25_117 : decode (bn_b 25) 117 = .ok (.aload_n 0, 1) := by decide +kernel
theorem bd_25_118 : decode (bn_b 25) 118 = .ok (.dup, 1) := by decide +kernel
theorem bd_25_119 : decode (bn_b 25) 119 = .ok (.getfield 21, 3) := by decide +kernel
theorem bd_25_122 : decode (bn_b 25) 122 = .ok (.iconst 1, 1) := by decide +kernel
theorem bd_25_123 : decode (bn_b 25) 123 = .ok (.iadd, 1) := by decide +kernel
theorem bd_25_124 : decode (bn_b 25) 124 = .ok (.putfield 21, 3) := by decide +kernel
theorem bd_25_127 : decode (bn_b 25) 127 = .ok (.iload_n 1, 1) := by decide +kernel
theorem bd_25_128 : decode (bn_b 25) 128 = .ok (.ireturn, 1) := by decide +kernel
theorem bd_26_0 : decode (bn_b 26) 0 = .ok (.iconst 0, 1) := by decide +kernel
theorem bd_26_1 : decode (bn_b 26) 1 = .ok (.istore_n 2, 1) := by decide +kernel
theorem bd_26_2 : decode (bn_b 26) 2 = .ok (.iload_n 2, 1) := by decide +kernel
theorem bd_26_3 : decode (bn_b 26) 3 = .ok (.aload_n 0, 1) := by decide +kernel
theorem bd_26_4 : decode (bn_b 26) 4 = .ok (.getfield 42, 3) := by decide +kernel
theorem bd_26_7 : decode (bn_b 26) 7 = .ok (.if_icmp .ge 27, 3) := by decide +kernel
theorem bd_26_10 : decode (bn_b 26) 10 = .ok (.aload_n 0, 1) := by decide +kernel
theorem bd_26_11 : decode (bn_b 26) 11 = .ok (.getfield 48, 3) := by decide +kernel
theorem bd_26_14 : decode (bn_b 26) 14 = .ok (.iload_n 2, 1) := by decide +kernel
theorem bd_26_15 : decode (bn_b 26) 15 = .ok (.iaload, 1) := by decide +kernel
theorem bd_26_16 : decode (bn_b 26) 16 = .ok (.iload_n 1, 1) := by decide +kernel
theorem bd_26_17 : decode (bn_b 26) 17 = .ok (.if_icmp .ne 11, 3) := by decide +kernel
theorem bd_26_20 : decode (bn_b 26) 20 = .ok (.aload_n 0, 1) := by decide +kernel
theorem bd_26_21 : decode (bn_b 26) 21 = .ok (.getfield 48, 3) := by decide +kernel
theorem bd_26_24 : decode (bn_b 26) 24 = .ok (.iload_n 2, 1) := by decide +kernel
theorem bd_26_25 : decode (bn_b 26) 25 = .ok (.bipush 10, 2) := by decide +kernel
theorem bd_26_27 : decode (bn_b 26) 27 = .ok (.iastore, 1) := by decide +kernel
theorem bd_26_28 : decode (bn_b 26) 28 = .ok (.iinc 2 1, 3) := by decide +kernel
theorem bd_26_31 : decode (bn_b 26) 31 = .ok (.goto (-29), 3) := by decide +kernel
theorem bd_26_34 : decode (bn_b 26) 34 = .ok (.return_, 1) := by decide +kernel
theorem bd_27_0 : decode (bn_b 27) 0 = .ok (.iconst 0, 1) := by decide +kernel
theorem bd_27_1 : decode (bn_b 27) 1 = .ok (.istore_n 1, 1) := by decide +kernel
theorem bd_27_2 : decode (bn_b 27) 2 = .ok (.iload_n 1, 1) := by decide +kernel
theorem bd_27_3 : decode (bn_b 27) 3 = .ok (.aload_n 0, 1) := by decide +kernel
theorem bd_27_4 : decode (bn_b 27) 4 = .ok (.getfield 28, 3) := by decide +kernel
theorem bd_27_7 : decode (bn_b 27) 7 = .ok (.if_icmp .ge 25, 3) := by decide +kernel
theorem bd_27_10 : decode (bn_b 27) 10 = .ok (.aload_n 0, 1) := by decide +kernel
theorem bd_27_11 : decode (bn_b 27) 11 = .ok (.iload_n 1, 1) := by decide +kernel
theorem bd_27_12 : decode (bn_b 27) 12 = .ok (.invokevirtual 112, 3) := by decide +kernel
theorem bd_27_15 : decode (bn_b 27) 15 = .ok (.istore_n 2, 1) := by decide +kernel
theorem bd_27_16 : decode (bn_b 27) 16 = .ok (.iload_n 2, 1) := by decide +kernel
theorem bd_27_17 : decode (bn_b 27) 17 = .ok (.ifCond .lt 9, 3) := by decide +kernel
theorem bd_27_20 : decode (bn_b 27) 20 = .ok (.aload_n 0, 1) := by decide +kernel
theorem bd_27_21 : decode (bn_b 27) 21 = .ok (.iload_n 1, 1) := by decide +kernel
theorem bd_27_22 : decode (bn_b 27) 22 = .ok (.iload_n 2, 1) := by decide +kernel
theorem bd_27_23 : decode (bn_b 27) 23 = .ok (.invokevirtual 115, 3) := by decide +kernel
theorem bd_27_26 : decode (bn_b 27) 26 = .ok (.iinc 1 1, 3) := by decide +kernel
theorem bd_27_29 : decode (bn_b 27) 29 = .ok (.goto (-27), 3) := by decide +kernel
theorem bd_27_32 : decode (bn_b 27) 32 = .ok (.return_, 1) := by decide +kernel
theorem bd_28_0 : decode (bn_b 28) 0 = .ok (.bipush (-9), 2) := by decide +kernel
theorem bd_28_2 : decode (bn_b 28) 2 = .ok (.istore_n 2, 1) := by decide +kernel
theorem bd_28_3 : decode (bn_b 28) 3 = .ok (.iconst 0, 1) := by decide +kernel
theorem bd_28_4 : decode (bn_b 28) 4 = .ok (.istore_n 3, 1) := by decide +kernel
theorem bd_28_5 : decode (bn_b 28) 5 = .ok (.iload_n 3, 1) := by decide +kernel
theorem bd_28_6 : decode (bn_b 28) 6 = .ok (.aload_n 0, 1) := by decide +kernel
theorem bd_28_7 : decode (bn_b 28) 7 = .ok (.getfield 42, 3) := by decide +kernel
theorem bd_28_10 : decode (bn_b 28) 10 = .ok (.if_icmp .ge 39, 3) := by decide +kernel
theorem bd_28_13 : decode (bn_b 28) 13 = .ok (.aload_n 0, 1) := by decide +kernel
theorem bd_28_14 : decode (bn_b 28) 14 = .ok (.iload_n 1, 1) := by decide +kernel
theorem bd_28_15 : decode (bn_b 28) 15 = .ok (.iload_n 3, 1) := by decide +kernel
theorem bd_28_16 : decode (bn_b 28) 16 = .ok (.invokevirtual 119, 3) := by decide +kernel
theorem bd_28_19 : decode (bn_b 28) 19 = .ok (.ifCond .eq 24, 3) := by decide +kernel
theorem bd_28_22 : decode (bn_b 28) 22 = .ok (.iload_n 2, 1) := by decide +kernel
theorem bd_28_23 : decode (bn_b 28) 23 = .ok (.ifCond .lt 18, 3) := by decide +kernel
theorem bd_28_26 : decode (bn_b 28) 26 = .ok (.aload_n 0, 1) := by decide +kernel
theorem bd_28_27 : decode (bn_b 28) 27 = .ok (.getfield 45, 3) := by decide +kernel
theorem bd_28_30 : decode (bn_b 28) 30 = .ok (.iload_n 3, 1) := by decide +kernel
theorem bd_28_31 : decode (bn_b 28) 31 = .ok (.iaload, 1) := by decide +kernel
theorem bd_28_32 : decode (bn_b 28) 32 = .ok (.aload_n 0, 1) := by decide +kernel
theorem bd_28_33 : decode (bn_b 28) 33 = .ok (.getfield 45, 3) := by decide +kernel
theorem bd_28_36 : decode (bn_b 28) 36 = .ok (.iload_n 2, 1) := by decide +kernel
theorem bd_28_37 : decode (bn_b 28) 37 = .ok (.iaload, 1) := by decide +kernel
theorem bd_28_38 : decode (bn_b 28) 38 = .ok (.if_icmp .ge 5, 3) := by decide +kernel
theorem bd_28_41 : decode (bn_b 28) 41 = .ok (.iload_n 3, 1) := by decide +kernel
theorem bd_28_42 : decode (bn_b 28) 42 = .ok (.istore_n 2, 1) := by decide +kernel
theorem bd_28_43 : decode (bn_b 28) 43 = .ok (.iinc 3 1, 3) := by decide +kernel
theorem bd_28_46 : decode (bn_b 28) 46 = .ok (.goto (-41), 3) := by decide +kernel
theorem bd_28_49 : decode (bn_b 28) 49 = .ok (.iload_n 2, 1) := by decide +kernel
theorem bd_28_50 : decode (bn_b 28) 50 = .ok (.ireturn, 1) := by decide +kernel
theorem bd_29_0 : decode (bn_b 29) 0 = .ok (.iload_n 1, 1) := by decide +kernel
theorem bd_29_1 : decode (bn_b 29) 1 = .ok (.aload_n 0, 1) := by decide +kernel
theorem bd_29_2 : decode (bn_b 29) 2 = .ok (.getfield 15, 3) := by decide +kernel
theorem bd_29_5 : decode (bn_b 29) 5 = .ok (.isub, 1) := by decide +kernel
theorem bd_29_6 : decode (bn_b 29) 6 = .ok (.iconst 1, 1) := by decide +kernel
theorem bd_29_7 : decode (bn_b 29) 7 = .ok (.isub, 1) := by decide +kernel
theorem bd_29_8 : decode (bn_b 29) 8 = .ok (.istore_n 2, 1) := by decide +kernel
theorem bd_29_9 : decode (bn_b 29) 9 = .ok (.iconst 0, 1) := by decide +kernel
theorem bd_29_10 : decode (bn_b 29) 10 = .ok (.istore_n 3, 1) := by decide +kernel
theorem bd_29_11 : decode (bn_b 29) 11 = .ok (.iload_n 3, 1) := by decide +kernel
theorem bd_29_12 : decode (bn_b 29) 12 = .ok (.iload_n 2, 1) := by decide +kernel
theorem bd_29_13 : decode (bn_b 29) 13 = .ok (.iconst 0, 1) := by decide +kernel
theorem bd_29_14 : decode (bn_b 29) 14 = .ok (.invokestatic 90, 3) := by decide +kernel
theorem bd_29_17 : decode (bn_b 29) 17 = .ok (.if_icmp .gt 25, 3) := by decide +kernel
theorem bd_29_20 : decode (bn_b 29) 20 = .ok (.aload_n 0, 1) := by decide +kernel
theorem bd_29_21 : decode (bn_b 29) 21 = .ok (.iload_n 2, 1) := by decide +kernel
theorem bd_29_22 : decode (bn_b 29) 22 = .ok (.iload_n 3, 1) := by decide +kernel
theorem bd_29_23 : decode (bn_b 29) 23 = .ok (.invokevirtual 122, 3) := by decide +kernel
theorem bd_29_26 : decode (bn_b 29) 26 = .ok (.aload_n 0, 1) := by decide +kernel
theorem bd_29_27 : decode (bn_b 29) 27 = .ok (.iload_n 3, 1) := by decide +kernel
theorem bd_29_28 : decode (bn_b 29) 28 = .ok (.invokevirtual 125, 3) := by decide +kernel
theorem bd_29_31 : decode (bn_b 29) 31 = .ok (.if_icmp .le 5, 3) := by decide +kernel
theorem bd_29_34 : decode (bn_b 29) 34 = .ok (.iconst 0, 1) := by decide +kernel
theorem bd_29_35 : decode (bn_b 29) 35 = .ok (.ireturn, 1) := by decide +kernel
theorem bd_29_36 : decode (bn_b 29) 36 = .ok (.iinc 3 1, 3) := by decide +kernel
theorem bd_29_39 : decode (bn_b 29) 39 = .ok (.goto (-28), 3) := by decide +kernel
theorem bd_29_42 : decode (bn_b 29) 42 = .ok (.iconst 1, 1) := by decide +kernel
theorem bd_29_43 : decode (bn_b 29) 43 = .ok (.ireturn, 1) := by decide +kernel
theorem bd_30_0 : decode (bn_b 30) 0 = .ok (.iconst 0, 1) := by decide +kernel
theorem bd_30_1 : decode (bn_b 30) 1 = .ok (.istore_n 3, 1) := by decide +kernel
theorem bd_30_2 : decode (bn_b 30) 2 = .ok (.iconst 0, 1) := by decide +kernel
theorem bd_30_3 : decode (bn_b 30) 3 = .ok (.istore 4, 2) := by decide +kernel
theorem bd_30_5 : decode (bn_b 30) 5 = .ok (.iload 4, 2) := by decide +kernel
theorem bd_30_7 : decode (bn_b 30) 7 = .ok (.aload_n 0, 1) := by decide +kernel
theorem bd_30_8 : decode (bn_b 30) 8 = .ok (.getfield 28, 3) := by decide +kernel
theorem bd_30_11 : decode (bn_b 30) 11 = .ok (.if_icmp .ge 80, 3) := by decide +kernel
theorem bd_30_14 : decode (bn_b 30) 14 = .ok (.aload_n 0, 1) := by decide +kernel
theorem bd_30_15 : decode (bn_b 30) 15 = .ok (.iload 4, 2) := by decide +kernel
theorem bd_30_17 : decode (bn_b 30) 17 = .ok (.invokevirtual 66, 3) := by decide +kernel
theorem bd_30_20 : decode (bn_b 30) 20 = .ok (.ifCond .eq 65, 3) := by decide +kernel
theorem bd_30_23 : decode (bn_b 30) 23 = .ok (.aload_n 0, 1) := by decide +kernel
theorem bd_30_24 : decode (bn_b 30) 24 = .ok (.getfield 35, 3) := by decide +kernel
theorem bd_30_27 : decode (bn_b 30) 27 = .ok (.iload 4, 2) := by decide +kernel
theorem bd_30_29 : decode (bn_b 30) 29 = .ok (.baload, 1) := by decide +kernel
theorem bd_30_30 : decode (bn_b 30) 30 = .ok (.ifCond .eq 7, 3) := by decide +kernel
theorem bd_30_33 : decode (bn_b 30) 33 = .ok (.iconst 0, 1) := by decide +kernel
theorem bd_30_34 : decode (bn_b 30) 34 = .ok (.goto 12, 3) := by decide +kernel
theorem bd_30_37 : decode (bn_b 30) 37 = .ok (.iconst (-1), 1) := by decide +kernel
theorem bd_30_38 : decode (bn_b 30) 38 = .ok (.aload_n 0, 1) := by decide +kernel
theorem bd_30_39 : decode (bn_b 30) 39 = .ok (.getfield 31, 3) := by decide +kernel
theorem bd_30_42 : decode (bn_b 30) 42 = .ok (.iload 4, 2) := by decide +kernel
theorem bd_30_44 : decode (bn_b 30) 44 = .ok (.iaload, 1) := by decide +kernel
theorem bd_30_45 : decode (bn_b 30) 45 = .ok (.isub, 1) := by decide +kernel
theorem bd_30_46 : decode (bn_b 30) 46 = .ok (.istore 5, 2) := by decide +kernel
theorem bd_30_48 : decode (bn_b 30) 48 = .ok (.iload_n 1, 1) := by decide +kernel
theorem bd_30_49 : decode (bn_b 30) 49 = .ok (.istore 6, 2) := by decide +kernel
theorem bd_30_51 : decode (bn_b 30) 51 = .ok (.iload 6, 2) := by decide +kernel
theorem bd_30_53 : decode (bn_b 30) 53 = .ok (.iload 5, 2) := by decide +kernel
theorem bd_30_55 : decode (bn_b 30) 55 = .ok (.if_icmp .le 30, 3) := by decide +kernel
theorem bd_30_58 : decode (bn_b 30) 58 = .ok (.iload 6, 2) := by decide +kernel
theorem bd_30_60 : decode (bn_b 30) 60 = .ok (.iconst 0, 1) := by decide +kernel
theorem bd_30_61 : decode (bn_b 30) 61 = .ok (.invokestatic 90, 3) := by decide +kernel
theorem bd_30_64 : decode (bn_b 30) 64 = .ok (.iload_n 2, 1) := by decide +kernel
theorem bd_30_65 : decode (bn_b 30) 65 = .ok (.if_icmp .lt 6, 3) := by decide +kernel
theorem bd_30_68 : decode (bn_b 30) 68 = .ok (.iinc 3 1, 3) := by decide +kernel
theorem bd_30_71 : decode (bn_b 30) 71 = .ok (.iload 6, 2) := by decide +kernel
theorem bd_30_73 : decode (bn_b 30) 73 = .ok (.aload_n 0, 1) := by decide +kernel
theorem bd_30_74 : decode (bn_b 30) 74 = .ok (.getfield 15, 3) := by decide +kernel
theorem bd_30_77 : decode (bn_b 30) 77 = .ok (.iconst 1, 1) := by decide +kernel
theorem bd_30_78 : decode (bn_b 30) 78 = .ok (.iadd, 1) := by decide +kernel
theorem bd_30_79 : decode (bn_b 30) 79 = .ok (.isub, 1) := by decide +kernel
theorem bd_30_80 : decode (bn_b 30) 80 = .ok (.istore 6, 2) := by decide +kernel
theorem bd_30_82 : decode (bn_b 30) 82 = .ok (.goto (-31), 3) := by decide +kernel
theorem bd_30_85 : decode (bn_b 30) 85 = .ok (.iinc 4 1, 3) := by decide +kernel
theorem bd_30_88 : decode (bn_b 30) 88 = .ok (.goto (-83), 3) := by decide +kernel
theorem bd_30_91 : decode (bn_b 30) 91 = .ok (.iload_n 3, 1) := by decide +kernel
theorem bd_30_92 : decode (bn_b 30) 92 = .ok (.ireturn, 1) := by decide +kernel
theorem bd_31_0 : decode (bn_b 31) 0 = .ok (.iconst 0, 1) := by decide +kernel
theorem bd_31_1 : decode (bn_b 31) 1 = .ok (.istore_n 2, 1) := by decide +kernel
theorem bd_31_2 : decode (bn_b 31) 2 = .ok (.iconst 0, 1) := by decide +kernel
theorem bd_31_3 : decode (bn_b 31) 3 = .ok (.istore_n 3, 1) := by decide +kernel
theorem bd_31_4 : decode (bn_b 31) 4 = .ok (.iload_n 3, 1) := by decide +kernel
theorem bd_31_5 : decode (bn_b 31) 5 = .ok (.aload_n 0, 1) := by decide +kernel
theorem bd_31_6 : decode (bn_b 31) 6 = .ok (.getfield 42, 3) := by decide +kernel
theorem bd_31_9 : decode (bn_b 31) 9 = .ok (.if_icmp .ge 35, 3) := by decide +kernel
theorem bd_31_12 : decode (bn_b 31) 12 = .ok (.aload_n 0, 1) := by decide +kernel
theorem bd_31_13 : decode (bn_b 31) 13 = .ok (.iload_n 3, 1) := by decide +kernel
theorem bd_31_14 : decode (bn_b 31) 14 = .ok (.invokevirtual 80, 3) := by decide +kernel
theorem bd_31_17 : decode (bn_b 31) 17 = .ok (.ifCond .eq 21, 3) := by decide +kernel
theorem bd_31_20 : decode (bn_b 31) 20 = .ok (.aload_n 0, 1) := by decide +kernel
theorem bd_31_21 : decode (bn_b 31) 21 = .ok (.getfield 51, 3) := by decide +kernel
theorem bd_31_24 : decode (bn_b 31) 24 = .ok (.iload_n 3, 1) := by decide +kernel
theorem bd_31_25 : decode (bn_b 31) 25 = .ok (.iaload, 1) := by decide +kernel
theorem bd_31_26 : decode (bn_b 31) 26 = .ok (.iload_n 1, 1) := by decide +kernel
theorem bd_31_27 : decode (bn_b 31) 27 = .ok (.iadd, 1) := by decide +kernel
theorem bd_31_28 : decode (bn_b 31) 28 = .ok (.aload_n 0, 1) := by decide +kernel
theorem bd_31_29 : decode (bn_b 31) 29 = .ok (.getfield 18, 3) := by decide +kernel
theorem bd_31_32 : decode (bn_b 31) 32 = .ok (.if_icmp .ge 6, 3) := by decide +kernel
theorem bd_31_35 : decode (bn_b 31) 35 = .ok (.iinc 2 1, 3) := by decide +kernel
theorem bd_31_38 : decode (bn_b 31) 38 = .ok (.iinc 3 1, 3) := by decide +kernel
theorem bd_31_41 : decode (bn_b 31) 41 = .ok (.goto (-37), 3) := by decide +kernel
theorem bd_31_44 : decode (bn_b 31) 44 = .ok (.iload_n 2, 1) := by decide +kernel
theorem bd_31_45 : decode (bn_b 31) 45 = .ok (.ireturn, 1) := by decide +kernel
end
section
/-! decode rows -/
theorem bd_32_0 : decode (bn_b 32) 0 = .ok (.aload_n 0, 1) := by decide +kernel
theorem bd_32_1 : decode (bn_b 32) 1 = .ok (.invokespecial 3, 3) := by decide +kernel
theorem bd_32_4 : decode (bn_b 32) 4 = .ok (.aload_n 0, 1) := by decide +kernel
theorem bd_32_5 : decode (bn_b 32) 5 = .ok (.bipush 80, 2) := by decide +kernel
theorem bd_32_7 : decode (bn_b 32) 7 = .ok (.newarray .int, 2) := by decide +kernel
theorem bd_32_9 : decode (bn_b 32) 9 = .ok (.putfield 9, 3) := by decide +kernel
theorem bd_32_12 : decode (bn_b 32) 12 = .ok (.aload_n 0, 1) := by decide +kernel
theorem bd_32_13 : decode (bn_b 32) 13 = .ok (.iconst 0, 1) := by decide +kernel
theorem bd_32_14 : decode (bn_b 32) 14 = .ok (.putfield 15, 3) := by decide +kernel
theorem bd_32_17 : decode (bn_b 32) 17 = .ok (.aload_n 0, 1) := by decide +kernel
theorem bd_32_18 : decode (bn_b 32) 18 = .ok (.iconst 0, 1) := by decide +kernel
theorem bd_32_19 : decode (bn_b 32) 19 = .ok (.putfield 19, 3) := by decide +kernel
theorem bd_32_22 : decode (bn_b 32) 22 = .ok (.return_, 1) := by decide +kernel
theorem bd_33_0 : decode (bn_b 33) 0 = .ok (.aload_n 0, 1) := by decide +kernel
theorem bd_33_1 : decode (bn_b 33) 1 = .ok (.getfield 15, 3) := by decide +kernel
theorem bd_33_4 : decode (bn_b 33) 4 = .ok (.bipush 80, 2) := by decide +kernel
theorem bd_33_6 : decode (bn_b 33) 6 = .ok (.if_icmp .ge 23, 3) := by decide +kernel
theorem bd_33_9 : decode (bn_b 33) 9 = .ok (.aload_n 0, 1) := by decide +kernel
theorem bd_33_10 : decode (bn_b 33) 10 = .ok (.getfield 9, 3) := by decide +kernel
theorem bd_33_13 : decode (bn_b 33) 13 = .ok (.aload_n 0, 1) := by decide +kernel
theorem bd_33_14 : decode (bn_b 33) 14 = .ok (.getfield 15, 3) := by decide +kernel
theorem bd_33_17 : decode (bn_b 33) 17 = .ok (.iload_n 1, 1) := by decide +kernel
theorem bd_33_18 : decode (bn_b 33) 18 = .ok (.iastore, 1) := by decide +kernel
theorem bd_33_19 : decode (bn_b 33) 19 = .ok (.aload_n 0, 1) := by decide +kernel
theorem bd_33_20 : decode (bn_b 33) 20 = .ok (.dup, 1) := by decide +kernel
theorem bd_33_21 : decode (bn_b 33) 21 = .ok (.getfield 15, 3) := by decide +kernel
theorem bd_33_24 : decode (bn_b 33) 24 = .ok (.iconst 1, 1) := by decide +kernel
theorem bd_33_25 : decode (bn_b 33) 25 = .ok (.iadd, 1) := by decide +kernel
theorem bd_33_26 : decode (bn_b 33) 26 = .ok (.putfield 15, 3) := by decide +kernel
theorem bd_33_29 : decode (bn_b 33) 29 = .ok (.return_, 1) := by decide +kernel
theorem bd_34_0 : decode (bn_b 34) 0 = .ok (.aload_n 0, 1) := by decide +kernel
theorem bd_34_1 : decode (bn_b 34) 1 = .ok (.iconst 0, 1) := by decide +kernel
theorem bd_34_2 : decode (bn_b 34) 2 = .ok (.putfield 19, 3) := by decide +kernel
theorem bd_34_5 : decode (bn_b 34) 5 = .ok (.aload_n 0, 1) := by decide +kernel
theorem bd_34_6 : decode (bn_b 34) 6 = .ok (.aload_n 1, 1) := by decide +kernel
theorem bd_34_7 : decode (bn_b 34) 7 = .ok (.invokevirtual 22, 3) := by decide +kernel
theorem bd_34_10 : decode (bn_b 34) 10 = .ok (.ifCond .ne 8, 3) := by decide +kernel
theorem bd_34_13 : decode (bn_b 34) 13 = .ok (.aload_n 0, 1) := by decide +kernel
theorem bd_34_14 : decode (bn_b 34) 14 = .ok (.getfield 19, 3) := by decide +kernel
theorem bd_34_17 : decode (bn_b 34) 17 = .ok (.ireturn, 1) := by decide +kernel
theorem bd_34_18 : decode (bn_b 34) 18 = .ok (.iconst 0, 1) := by decide +kernel
theorem bd_34_19 : decode (bn_b 34) 19 = .ok (.istore_n 2, 1) := by decide +kernel
theorem bd_34_20 : decode (bn_b 34) 20 = .ok (.iload_n 2, 1) := by decide +kernel
theorem bd_34_21 : decode (bn_b 34) 21 = .ok (.bipush 15, 2) := by decide +kernel
theorem bd_34_23 : decode (bn_b 34) 23 = .ok (.if_icmp .ge 52, 3) := by decide +kernel
theorem bd_34_26 : decode (bn_b 34) 26 = .ok (.aload_n 0, 1) := by decide +kernel
theorem bd_34_27 : decode (bn_b 34) 27 = .ok (.getfield 19, 3) := by decide +kernel
theorem bd_34_30 : decode (bn_b 34) 30 = .ok (.aload_n 0, 1) := by decide +kernel
theorem bd_34_31 : decode (bn_b 34) 31 = .ok (.getfield 15, 3) := by decide +kernel
theorem bd_34_34 : decode (bn_b 34) 34 = .ok (.if_icmp .ge 41, 3) := by decide +kernel
theorem bd_34_37 : decode (bn_b 34) 37 = .ok (.aload_n 0, 1) := by decide +kernel
theorem bd_34_38 : decode (bn_b 34) 38 = .ok (.bipush 80, 2) := by decide +kernel
theorem bd_34_40 : decode (bn_b 34) 40 = .ok (.invokevirtual 26, 3) := by decide +kernel
theorem bd_34_43 : decode (bn_b 34) 43 = .ok (.ifCond .eq 11, 3) := by decide +kernel
theorem bd_34_46 : decode (bn_b 34) 46 = .ok (.aload_n 0, 1) := by decide +kernel
theorem bd_34_47 : decode (bn_b 34) 47 = .ok (.aload_n 1, 1) := by decide +kernel
theorem bd_34_48 : decode (bn_b 34) 48 = .ok (.invokevirtual 30, 3) := by decide +kernel
theorem bd_34_51 : decode (bn_b 34) 51 = .ok (.goto 8, 3) := by decide +kernel
theorem bd_34_54 : decode (bn_b 34) 54 = .ok (.aload_n 0, 1) := by decide +kernel
theorem bd_34_55 : decode (bn_b 34) 55 = .ok (.aload_n 1, 1) := by decide +kernel
theorem bd_34_56 : decode (bn_b 34) 56 = .ok (.invokevirtual 33, 3) := by decide +kernel
theorem bd_34_59 : decode (bn_b 34) 59 = .ok (.istore_n 3, 1) := by decide +kernel
theorem bd_34_60 : decode (bn_b 34) 60 = .ok (.iload_n 3, 1) := by decide +kernel
theorem bd_34_61 : decode (bn_b 34) 61 = .ok (.ifCond .ne 8, 3) := by decide +kernel
theorem bd_34_64 : decode (bn_b 34) 64 = .ok (.aload_n 0, 1) := by decide +kernel
theorem bd_34_65 : decode (bn_b 34) 65 = .ok (.getfield 19, 3) := by decide +kernel
theorem bd_34_68 : decode (bn_b 34) 68 = .ok (.ireturn, 1) := by decide +kernel
theorem bd_34_69 : decode (bn_b 34) 69 = .ok (.iinc 2 1, 3) := by decide +kernel
theorem bd_34_72 : decode (bn_b 34) 72 = .ok (.goto (-52), 3) := by decide +kernel
theorem bd_34_75 : decode (bn_b 34) 75 = .ok (.aload_n 0, 1) := by decide +kernel
theorem bd_34_76 : decode (bn_b 34) 76 = .ok (.getfield 19, 3) := by decide +kernel
theorem bd_34_79 : decode (bn_b 34) 79 = .ok (.aload_n 0, 1) := by decide +kernel
theorem bd_34_80 : decode (bn_b 34) 80 = .ok (.getfield 15, 3) := by decide +kernel
theorem bd_34_83 : decode (bn_b 34) 83 = .ok (.if_icmp .ge 10, 3) := by decide +kernel
theorem bd_34_86 : decode (bn_b 34) 86 = .ok (.aload_n 0, 1) := by decide +kernel
theorem bd_34_87 : decode (bn_b 34) 87 = .ok (.getfield 19, 3) := by decide +kernel
theorem bd_34_90 : decode (bn_b 34) 90 = .ok (.goto 5, 3) := by decide +kernel
theorem bd_34_93 : decode (bn_b 34) 93 = .ok (.bipush (-9), 2) := by decide +kernel
theorem bd_34_95 : decode (bn_b 34) 95 = .ok (.ireturn, 1) := by decide +kernel
theorem bd_35_0 : decode (bn_b 35) 0 = .ok (.aload_n 0, 1) := by decide +kernel
theorem bd_35_1 : decode (bn_b 35) 1 = .ok (.bipush 83, 2) := by decide +kernel
theorem bd_35_3 : decode (bn_b 35) 3 = .ok (.invokevirtual 36, 3) := by decide +kernel
theorem bd_35_6 : decode (bn_b 35) 6 = .ok (.ifCond .ne 5, 3) := by decide +kernel
theorem bd_35_9 : decode (bn_b 35) 9 = .ok (.iconst 0, 1) := by decide +kernel
theorem bd_35_10 : decode (bn_b 35) 10 = .ok (.ireturn, 1) := by decide +kernel
theorem bd_35_11 : decode (bn_b 35) 11 = .ok (.aload_n 0, 1) := by decide +kernel
theorem bd_35_12 : decode (bn_b 35) 12 = .ok (.iconst 0, 1) := by decide +kernel
theorem bd_35_13 : decode (bn_b 35) 13 = .ok (.iconst 2, 1) := by decide +kernel
theorem bd_35_14 : decode (bn_b 35) 14 = .ok (.invokevirtual 39, 3) := by decide +kernel
theorem bd_35_17 : decode (bn_b 35) 17 = .ok (.istore_n 2, 1) := by decide +kernel
theorem bd_35_18 : decode (bn_b 35) 18 = .ok (.iload_n 2, 1) := by decide +kernel
theorem bd_35_19 : decode (bn_b 35) 19 = .ok (.ifCond .ge 8, 3) := by decide +kernel
theorem bd_35_22 : decode (bn_b 35) 22 = .ok (.bipush (-9), 2) := by decide +kernel
theorem bd_35_24 : decode (bn_b 35) 24 = .ok (.goto 10, 3) := by decide +kernel
theorem bd_35_27 : decode (bn_b 35) 27 = .ok (.aload_n 0, 1) := by decide +kernel
theorem bd_35_28 : decode (bn_b 35) 28 = .ok (.iconst 1, 1) := by decide +kernel
theorem bd_35_29 : decode (bn_b 35) 29 = .ok (.bipush 9, 2) := by decide +kernel
theorem bd_35_31 : decode (bn_b 35) 31 = .ok (.invokevirtual 39, 3) := by decide +kernel
theorem bd_35_34 : decode (bn_b 35) 34 = .ok (.istore_n 3, 1) := by decide +kernel
theorem bd_35_35 : decode (bn_b 35) 35 = .ok (.iload_n 3, 1) := by decide +kernel
theorem bd_35_36 : decode (bn_b 35) 36 = .ok (.ifCond .ge 8, 3) := by decide +kernel
theorem bd_35_39 : decode (bn_b 35) 39 = .ok (.bipush (-9), 2) := by decide +kernel
theorem bd_35_41 : decode (bn_b 35) 41 = .ok (.goto 10, 3) := by decide +kernel
theorem bd_35_44 : decode (bn_b 35) 44 = .ok (.aload_n 0, 1) := by decide +kernel
theorem bd_35_45 : decode (bn_b 35) 45 = .ok (.iconst 1, 1) := by decide +kernel
theorem bd_35_46 : decode (bn_b 35) 46 = .ok (.bipush 9, 2) := by decide +kernel
theorem bd_35_48 : decode (bn_b 35) 48 = .ok (.invokevirtual 39, 3) := by decide +kernel
theorem bd_35_51 : decode (bn_b 35) 51 = .ok (.istore 4, 2) := by decide +kernel
theorem bd_35_53 : decode (bn_b 35) 53 = .ok (.iload 4, 2) := by decide +kernel
theorem bd_35_55 : decode (bn_b 35) 55 = .ok (.ifCond .ge 5, 3) := by decide +kernel
theorem bd_35_58 : decode (bn_b 35) 58 = .ok (.iconst 0, 1) := by decide +kernel
theorem bd_35_59 : decode (bn_b 35) 59 = .ok (.ireturn, 1) := by decide +kernel
theorem bd_35_60 : decode (bn_b 35) 60 = .ok (.aload_n 1, 1) := by decide +kernel
theorem bd_35_61 : decode (bn_b 35) 61 = .ok (.iload_n 2, 1) := by decide +kernel
theorem bd_35_62 : decode (bn_b 35) 62 = .ok (.iload_n 3, 1) := by decide +kernel
theorem bd_35_63 : decode (bn_b 35) 63 = .ok (.iload 4, 2) := by decide +kernel
theorem bd_35_65 : decode (bn_b 35) 65 = .ok (.invokevirtual 43, 3) := by decide +kernel
theorem bd_35_68 : decode (bn_b 35) 68 = .ok (.iconst 1, 1) := by decide +kernel
theorem bd_35_69 : decode (bn_b 35) 69 = .ok (.ireturn, 1) := by decide +kernel
theorem bd_36_0 : decode (bn_b 36) 0 = .ok (.aload_n 1, 1) := by decide +kernel
theorem bd_36_1 : decode (bn_b 36) 1 = .ok (.getfield 49, 3) := by decide +kernel
theorem bd_36_4 : decode (bn_b 36) 4 = .ok (.iconst 5, 1) := by decide +kernel
theorem bd_36_5 : decode (bn_b 36) 5 = .ok (.if_icmp .ge 12, 3) := by decide +kernel
theorem bd_36_8 : decode (bn_b 36) 8 = .ok (.aload_n 0, 1) := by decide +kernel
theorem bd_36_9 : decode (bn_b 36) 9 = .ok (.bipush 80, 2) := by decide +kernel
theorem bd_36_11 : decode (bn_b 36) 11 = .ok (.invokevirtual 36, 3) := by decide +kernel
theorem bd_36_14 : decode (bn_b 36) 14 = .ok (.ifCond .ne 5, 3) := by decide +kernel
theorem bd_36_17 : decode (bn_b 36) 17 = .ok (.iconst 0, 1) := by decide +kernel
theorem bd_36_18 : decode (bn_b 36) 18 = .ok (.ireturn, 1) := by decide +kernel
theorem bd_36_19 : decode (bn_b 36) 19 = .ok (.aload_n 0, 1) := by decide +kernel
theorem bd_36_20 : decode (bn_b 36) 20 = .ok (.iconst 0, 1) := by decide +kernel
theorem bd_36_21 : decode (bn_b 36) 21 = .ok (.aload_n 1, 1) := by decide +kernel
theorem bd_36_22 : decode (bn_b 36) 22 = .ok (.getfield 52, 3) := by decide +kernel
theorem bd_36_25 : decode (bn_b 36) 25 = .ok (.invokevirtual 39, 3) := by decide +kernel
theorem bd_36_28 : decode (bn_b 36) 28 = .ok (.istore_n 2, 1) := by decide +kernel
theorem bd_36_29 : decode (bn_b 36) 29 = .ok (.iload_n 2, 1) := by decide +kernel
theorem bd_36_30 : decode (bn_b 36) 30 = .ok (.ifCond .ge 5, 3) := by decide +kernel
theorem bd_36_33 : decode (bn_b 36) 33 = .ok (.iconst 0, 1) := by decide +kernel
theorem bd_36_34 : decode (bn_b 36) 34 = .ok (.ireturn, 1) := by decide +kernel
theorem bd_36_35 : decode (bn_b 36) 35 = .ok (.aload_n 1, 1) := by decide +kernel
theorem bd_36_36 : decode (bn_b 36) 36 = .ok (.iload_n 2, 1) := by decide +kernel
theorem bd_36_37 : decode (bn_b 36) 37 = .ok (.invokevirtual 55, 3) := by decide +kernel
theorem bd_36_40 : decode (bn_b 36) 40 = .ok (.iconst 1, 1) := by decide +kernel
theorem bd_36_41 : decode (bn_b 36) 41 = .ok (.ireturn, 1) := by decide +kernel
theorem bd_37_0 : decode (bn_b 37) 0 = .ok (.aload_n 1, 1) := by decide +kernel
theorem bd_37_1 : decode (bn_b 37) 1 = .ok (.getfield 49, 3) := by decide +kernel
theorem bd_37_4 : decode (bn_b 37) 4 = .ok (.ifCond .eq 21, 3) := by decide +kernel
theorem bd_37_7 : decode (bn_b 37) 7 = .ok (.aload_n 1, 1) := by decide +kernel
theorem bd_37_8 : decode (bn_b 37) 8 = .ok (.getfield 59, 3) := by decide +kernel
theorem bd_37_11 : decode (bn_b 37) 11 = .ok (.bipush 10, 2) := by decide +kernel
theorem bd_37_13 : decode (bn_b 37) 13 = .ok (.if_icmp .ge 12, 3) := by decide +kernel
theorem bd_37_16 : decode (bn_b 37) 16 = .ok (.aload_n 0, 1) := by decide +kernel
theorem bd_37_17 : decode (bn_b 37) 17 = .ok (.bipush 76, 2) := by decide +kernel
theorem bd_37_19 : decode (bn_b 37) 19 = .ok (.invokevirtual 36, 3) := by decide +kernel
theorem bd_37_22 : decode (bn_b 37) 22 = .ok (.ifCond .ne 5, 3) := by decide +kernel
theorem bd_37_25 : decode (bn_b 37) 25 = .ok (.iconst 0, 1) := by decide +kernel
theorem bd_37_26 : decode (bn_b 37) 26 = .ok (.ireturn, 1) := by decide +kernel
theorem bd_37_27 : decode (bn_b 37) 27 = .ok (.aload_n 0, 1) := by decide +kernel
theorem bd_37_28 : decode (bn_b 37) 28 = .ok (.aload_n 1, 1) := by decide +kernel
theorem bd_37_29 : decode (bn_b 37) 29 = .ok (.invokevirtual 62, 3) := by decide +kernel
theorem bd_37_32 : decode (bn_b 37) 32 = .ok (.istore_n 2, 1) := by decide +kernel
theorem bd_37_33 : decode (bn_b 37) 33 = .ok (.iload_n 2, 1) := by decide +kernel
theorem bd_37_34 : decode (bn_b 37) 34 = .ok (.ifCond .ge 8, 3) := by decide +kernel
theorem bd_37_37 : decode (bn_b 37) 37 = .ok (.bipush (-9), 2) := by decide +kernel
theorem bd_37_39 : decode (bn_b 37) 39 = .ok (.goto 14, 3) := by decide +kernel
theorem bd_37_42 : decode (bn_b 37) 42 = .ok (.aload_n 0, 1) := by decide +kernel
theorem bd_37_43 : decode (bn_b 37) 43 = .ok (.iconst 0, 1) := by decide +kernel
theorem bd_37_44 : decode (bn_b 37) 44 = .ok (.aload_n 1, 1) := by decide +kernel
theorem bd_37_45 : decode (bn_b 37) 45 = .ok (.getfield 49, 3) := by decide +kernel
theorem bd_37_48 : decode (bn_b 37) 48 = .ok (.iconst 1, 1) := by decide +kernel
theorem bd_37_49 : decode (bn_b 37) 49 = .ok (.isub, 1) := by decide +kernel
theorem bd_37_50 : decode (bn_b 37) 50 = .ok (.invokevirtual 39, 3) := by decide +kernel
theorem bd_37_53 : decode (bn_b 37) 53 = .ok (.istore_n 3, 1) := by decide +kernel
theorem bd_37_54 : decode (bn_b 37) 54 = .ok (.iload_n 3, 1) := by decide +kernel
theorem bd_37_55 : decode (bn_b 37) 55 = .ok (.ifCond .ge 8, 3) := by decide +kernel
theorem bd_37_58 : decode (bn_b 37) 58 = .ok (.bipush (-9), 2) := by decide +kernel
theorem bd_37_60 : decode (bn_b 37) 60 = .ok (.goto 10, 3) := by decide +kernel
theorem bd_37_63 : decode (bn_b 37) 63 = .ok (.aload_n 0, 1) := by decide +kernel
theorem bd_37_64 : decode (bn_b 37) 64 = .ok (.iconst 0, 1) := by decide +kernel
theorem bd_37_65 : decode (bn_b 37) 65 = .ok (.bipush 9, 2) := by decide +kernel
theorem bd_37_67 : decode (bn_b 37) 67 = .ok (.invokevirtual 39, 3) := by decide +kernel
theorem bd_37_70 : decode (bn_b 37) 70 = .ok (.istore 4, 2) := by decide +kernel
theorem bd_37_72 : decode (bn_b 37) 72 = .ok (.iload 4, 2) := by decide +kernel
theorem bd_37_74 : decode (bn_b 37) 74 = .ok (.ifCond .ge 5, 3) := by decide +kernel
theorem bd_37_77 : decode (bn_b 37) 77 = .ok (.iconst 0, 1) := by decide +kernel
theorem bd_37_78 : decode (bn_b 37) 78 = .ok (.ireturn, 1) := by decide +kernel
theorem bd_37_79 : decode (bn_b 37) 79 = .ok (.aload_n 1, 1) := by decide +kernel
theorem bd_37_80 : decode (bn_b 37) 80 = .ok (.iload_n 2, 1) := by decide +kernel
theorem bd_37_81 : decode (bn_b 37) 81 = .ok (.iload_n 3, 1) := by decide +kernel
theorem bd_37_82 : decode (bn_b 37) 82 = .ok (.iload 4, 2) := by decide +kernel
theorem bd_37_84 : decode (bn_b 37) 84 = .ok (.invokevirtual 66, 3) := by decide +kernel
theorem bd_37_87 : decode (bn_b 37) 87 = .ok (.iconst 1, 1) := by decide +kernel
theorem bd_37_88 : decode (bn_b 37) 88 = .ok (.ireturn, 1) := by decide +kernel
theorem bd_38_0 : decode (bn_b 38) 0 = .ok (.aload_n 0, 1) := by decide +kernel
theorem bd_38_1 : decode (bn_b 38) 1 = .ok (.invokevirtual 69, 3) := by decide +kernel
theorem bd_38_4 : decode (bn_b 38) 4 = .ok (.istore_n 2, 1) := by decide +kernel
theorem bd_38_5 : decode (bn_b 38) 5 = .ok (.iload_n 2, 1) := by decide +kernel
theorem bd_38_6 : decode (bn_b 38) 6 = .ok (.ifCond .lt 11, 3) := by decide +kernel
theorem bd_38_9 : decode (bn_b 38) 9 = .ok (.aload_n 1, 1) := by decide +kernel
theorem bd_38_10 : decode (bn_b 38) 10 = .ok (.iload_n 2, 1) := by decide +kernel
theorem bd_38_11 : decode (bn_b 38) 11 = .ok (.invokestatic 73, 3) := by decide +kernel
theorem bd_38_14 : decode (bn_b 38) 14 = .ok (.ifCond .ne 6, 3) := by decide +kernel
theorem bd_38_17 : decode (bn_b 38) 17 = .ok (.bipush (-9), 2) := by decide +kernel
theorem bd_38_19 : decode (bn_b 38) 19 = .ok (.ireturn, 1) := by decide +kernel
theorem bd_38_20 : decode (bn_b 38) 20 = .ok (.aload_n 0, 1) := by decide +kernel
theorem bd_38_21 : decode (bn_b 38) 21 = .ok (.dup, 1) := by decide +kernel
theorem bd_38_22 : decode (bn_b 38) 22 = .ok (.getfield 19, 3) := by decide +kernel
theorem bd_38_25 : decode (bn_b 38) 25 = .ok (.iconst 1, 1) := by decide +kernel
theorem bd_38_26 : decode (bn_b 38) 26 = .ok (.iadd, 1) := by decide +kernel
theorem bd_38_27 : decode (bn_b 38) 27 = .ok (.putfield 19, 3) := by decide +kernel
theorem bd_38_30 : decode (bn_b 38) 30 = .ok (.aload_n 0, 1) := by decide +kernel
theorem bd_38_31 : decode (bn_b 38) 31 = .ok (.invokevirtual 69, 3) := by decide +kernel
theorem bd_38_34 : decode (bn_b 38) 34 = .ok (.istore_n 3, 1) := by decide +kernel
theorem bd_38_35 : decode (bn_b 38) 35 = .ok (.iload_n 3, 1) := by decide +kernel
theorem bd_38_36 : decode (bn_b 38) 36 = .ok (.ifCond .lt 16, 3) := by decide +kernel
theorem bd_38_39 : decode (bn_b 38) 39 = .ok (.aload_n 1, 1) := by decide +kernel
theorem bd_38_40 : decode (bn_b 38) 40 = .ok (.bipush 10, 2) := by decide +kernel
theorem bd_38_42 : decode (bn_b 38) 42 = .ok (.iload_n 2, 1) := by decide +kernel
theorem bd_38_43 : decode (bn_b 38) 43 = .ok (.imul, 1) := by decide +kernel
theorem bd_38_44 : decode (bn_b 38) 44 = .ok (.iload_n 3, 1) := by decide +kernel
theorem bd_38_45 : decode (bn_b 38) 45 = .ok (.iadd, 1) := by decide +kernel
theorem bd_38_46 : decode (bn_b 38) 46 = .ok (.invokestatic 77, 3) := by decide +kernel
theorem bd_38_49 : decode (bn_b 38) 49 = .ok (.ifCond .ne 6, 3) := by decide +kernel
theorem bd_38_52 : decode (bn_b 38) 52 = .ok (.bipush (-9), 2) := by decide +kernel
theorem bd_38_54 : decode (bn_b 38) 54 = .ok (.ireturn, 1) := by decide +kernel
theorem bd_38_55 : decode (bn_b 38) 55 = .ok (.aload_n 0, 1) := by decide +kernel
theorem bd_38_56 : decode (bn_b 38) 56 = .ok (.dup, 1) := by decide +kernel
theorem bd_38_57 : decode (bn_b 38) 57 = .ok (.getfield 19, 3) := by decide +kernel
theorem bd_38_60 : decode (bn_b 38) 60 = .ok (.iconst 1, 1) := by decide +kernel
theorem bd_38_61 : decode (bn_b 38) 61 = .ok (.iadd, 1) := by decide +kernel
theorem bd_38_62 : decode (bn_b 38) 62 = .ok (.putfield 19, 3) := by decide +kernel
theorem bd_38_65 : decode (bn_b 38) 65 = .ok (.bipush 10, 2) := by decide +kernel
theorem bd_38_67 : decode (bn_b 38) 67 = .ok (.iload_n 2, 1) := by decide +kernel
theorem bd_38_68 : decode (bn_b 38) 68 = .ok (.imul, 1) := by decide +kernel
theorem bd_38_69 : decode (bn_b 38) 69 = .ok (.iload_n 3, 1) := by decide +kernel
theorem bd_38_70 : decode (bn_b 38) 70 = .ok (.iadd, 1) := by decide +kernel
theorem bd_38_71 : decode (bn_b 38) 71 = .ok (.ireturn, 1) := by decide +kernel
theorem bd_39_0 : decode (bn_b 39) 0 = .ok (.iconst 0, 1) := by decide +kernel
theorem bd_39_1 : decode (bn_b 39) 1 = .ok (.istore_n 2, 1) := by decide +kernel
theorem bd_39_2 : decode (bn_b 39) 2 = .ok (.iload_n 2, 1) := by decide +kernel
theorem bd_39_3 : decode (bn_b 39) 3 = .ok (.bipush 9, 2) := by decide +kernel
theorem bd_39_5 : decode (bn_b 39) 5 = .ok (.if_icmp .gt 24, 3) := by decide +kernel
theorem bd_39_8 : decode (bn_b 39) 8 = .ok (.aload_n 0, 1) := by decide +kernel
theorem bd_39_9 : decode (bn_b 39) 9 = .ok (.bipush 10, 2) := by decide +kernel
theorem bd_39_11 : decode (bn_b 39) 11 = .ok (.iload_n 1, 1) := by decide +kernel
theorem bd_39_12 : decode (bn_b 39) 12 = .ok (.imul, 1) := by decide +kernel
theorem bd_39_13 : decode (bn_b 39) 13 = .ok (.iload_n 2, 1) := by decide +kernel
theorem bd_39_14 : decode (bn_b 39) 14 = .ok (.iadd, 1) := by decide +kernel
theorem bd_39_15 : decode (bn_b 39) 15 = .ok (.invokestatic 77, 3) := by decide +kernel
theorem bd_39_18 : decode (bn_b 39) 18 = .ok (.ifCond .eq 5, 3) := by decide +kernel
theorem bd_39_21 : decode (bn_b 39) 21 = .ok (.iconst 1, 1) := by decide +kernel
theorem bd_39_22 : decode (bn_b 39) 22 = .ok (.ireturn, 1) := by decide +kernel
theorem bd_39_23 : decode (bn_b 39) 23 = .ok (.iinc 2 1, 3) := by decide +kernel
theorem bd_39_26 : decode (bn_b 39) 26 = .ok (.goto (-24), 3) := by decide +kernel
theorem bd_39_29 : decode (bn_b 39) 29 = .ok (.iconst 0, 1) := by decide +kernel
theorem bd_39_30 : decode (bn_b 39) 30 = .ok (.ireturn, 1) := by decide +kernel
theorem bd_40_0 : decode (bn_b 40) 0 = .ok (.iload_n 1, 1) := by decide +kernel
theorem bd_40_1 : decode (bn_b 40) 1 = .ok (.iconst 1, 1) := by decide +kernel
theorem bd_40_2 : decode (bn_b 40) 2 = .ok (.if_icmp .lt 15, 3) := by decide +kernel
theorem bd_40_5 : decode (bn_b 40) 5 = .ok (.aload_n 0, 1) := by decide +kernel
theorem bd_40_6 : decode (bn_b 40) 6 = .ok (.iload_n 1, 1) := by decide +kernel
theorem bd_40_7 : decode (bn_b 40) 7 = .ok (.invokevirtual 80, 3) := by decide +kernel
theorem bd_40_10 : decode (bn_b 40) 10 = .ok (.ifCond .ne 7, 3) := by decide +kernel
theorem bd_40_13 : decode (bn_b 40) 13 = .ok (.iconst 1, 1) := by decide +kernel
theorem bd_40_14 : decode (bn_b 40) 14 = .ok (.goto 4, 3) := by decide +kernel
theorem bd_40_17 : decode (bn_b 40) 17 = .ok (.iconst 0, 1) := by decide +kernel
theorem bd_40_18 : decode (bn_b 40) 18 = .ok (.ireturn, 1) := by decide +kernel
theorem bd_41_0 : decode (bn_b 41) 0 = .ok (.aload_n 0, 1) := by decide +kernel
theorem bd_41_1 : decode (bn_b 41) 1 = .ok (.iload_n 1, 1) := by decide +kernel
theorem bd_41_2 : decode (bn_b 41) 2 = .ok (.invokevirtual 26, 3) := by decide +kernel
theorem bd_41_5 : decode (bn_b 41) 5 = .ok (.ifCond .ne 5, 3) := by decide +kernel
theorem bd_41_8 : decode (bn_b 41) 8 = .ok (.iconst 0, 1) := by decide +kernel
theorem bd_41_9 : decode (bn_b 41) 9 = .ok (.ireturn, 1) := by decide +kernel
theorem bd_41_10 : decode (bn_b 41) 10 = .ok (.aload_n 0, 1) := by decide +kernel
theorem bd_41_11 : decode (bn_b 41) 11 = .ok (.dup, 1) := by decide +kernel
theorem bd_41_12 : decode (bn_b 41) 12 = .ok (.getfield 19, 3) := by decide +kernel
theorem bd_41_15 : decode (bn_b 41) 15 = .ok (.iconst 1, 1) := by decide +kernel
theorem bd_41_16 : decode (bn_b 41) 16 = .ok (.iadd, 1) := by decide +kernel
theorem bd_41_17 : decode (bn_b 41) 17 = .ok (.putfield 19, 3) := by decide +kernel
theorem bd_41_20 : decode (bn_b 41) 20 = .ok (.iconst 1, 1) := by decide +kernel
theorem bd_41_21 : decode (bn_b 41) 21 = .ok (.ireturn, 1) := by decide +kernel
theorem bd_42_0 : decode (bn_b 42) 0 = .ok (.aload_n 0, 1) := by decide +kernel
theorem bd_42_1 : decode (bn_b 42) 1 = .ok (.getfield 19, 3) := by decide +kernel
theorem bd_42_4 : decode (bn_b 42) 4 = .ok (.aload_n 0, 1) := by decide +kernel
theorem bd_42_5 : decode (bn_b 42) 5 = .ok (.getfield 15, 3) := by decide +kernel
theorem bd_42_8 : decode (bn_b 42) 8 = .ok (.if_icmp .ge 20, 3) := by decide +kernel
theorem bd_42_11 : decode (bn_b 42) 11 = .ok (.aload_n 0, 1) := by decide +kernel
theorem bd_42_12 : decode (bn_b 42) 12 = .ok (.getfield 9, 3) := by decide +kernel
theorem bd_42_15 : decode (bn_b 42) 15 = .ok (.aload_n 0, 1) := by decide +kernel
theorem bd_42_16 : decode (bn_b 42) 16 = .ok (.getfield 19, 3) := by decide +kernel
theorem bd_42_19 : decode (bn_b 42) 19 = .ok (.iaload, 1) := by decide +kernel
theorem bd_42_20 : decode (bn_b 42) 20 = .ok (.iload_n 1, 1) := by decide +kernel
theorem bd_42_21 : decode (bn_b 42) 21 = .ok (.if_icmp .ne 7, 3) := by decide +kernel
theorem bd_42_24 : decode (bn_b 42) 24 = .ok (.iconst 1, 1) := by decide +kernel
theorem bd_42_25 : decode (bn_b 42) 25 = .ok (.goto 4, 3) := by decide +kernel
theorem bd_42_28 : decode (bn_b 42) 28 = .ok (.iconst 0, 1) := by decide +kernel
theorem bd_42_29 : decode (bn_b 42) 29 = .ok (.ireturn, 1) := by decide +kernel
theorem bd_43_0 : decode (bn_b 43) 0 = .ok (.aload_n 0, 1) := by decide +kernel
theorem bd_43_1 : decode (bn_b 43) 1 = .ok (.invokevirtual 69, 3) := by decide +kernel
theorem bd_43_4 : decode (bn_b 43) 4 = .ok (.istore_n 3, 1) := by decide +kernel
theorem bd_43_5 : decode (bn_b 43) 5 = .ok (.iload_n 3, 1) := by decide +kernel
theorem bd_43_6 : decode (bn_b 43) 6 = .ok (.iload_n 1, 1) := by decide +kernel
theorem bd_43_7 : decode (bn_b 43) 7 = .ok (.if_icmp .lt 8, 3) := by decide +kernel
theorem bd_43_10 : decode (bn_b 43) 10 = .ok (.iload_n 3, 1) := by decide +kernel
theorem bd_43_11 : decode (bn_b 43) 11 = .ok (.iload_n 2, 1) := by decide +kernel
theorem bd_43_12 : decode (bn_b 43) 12 = .ok (.if_icmp .le 6, 3) := by decide +kernel
theorem bd_43_15 : decode (bn_b 43) 15 = .ok (.bipush (-9), 2) := by decide +kernel
theorem bd_43_17 : decode (bn_b 43) 17 = .ok (.ireturn, 1) := by decide +kernel
theorem bd_43_18 : decode (bn_b 43) 18 = .ok (.aload_n 0, 1) := by decide +kernel
theorem bd_43_19 : decode (bn_b 43) 19 = .ok (.dup, 1) := by decide +kernel
theorem bd_43_20 : decode (bn_b 43) 20 = .ok (.getfield 19, 3) := by decide +kernel
theorem bd_43_23 : decode (bn_b 43) 23 = .ok (.iconst 1, 1) := by decide +kernel
theorem bd_43_24 : decode (bn_b 43) 24 = .ok (.iadd, 1) := by decide +kernel
theorem bd_43_25 : decode (bn_b 43) 25 = .ok (.putfield 19, 3) := by decide +kernel
theorem bd_43_28 : decode (bn_b 43) 28 = .ok (.iload_n 3, 1) := by decide +kernel
theorem bd_43_29 : decode (bn_b 43) 29 = .ok (.ireturn, 1) := by decide +kernel
theorem bd_44_0 : decode (bn_b 44) 0 = .ok (.aload_n 0, 1) := by decide +kernel
theorem bd_44_1 : decode (bn_b 44) 1 = .ok (.getfield 19, 3) := by decide +kernel
theorem bd_44_4 : decode (bn_b 44) 4 = .ok (.aload_n 0, 1) := by decide +kernel
theorem bd_44_5 : decode (bn_b 44) 5 = .ok (.getfield 15, 3) := by decide +kernel
theorem bd_44_8 : decode (bn_b 44) 8 = .ok (.if_icmp .ge 31, 3) := by decide +kernel
theorem bd_44_11 : decode (bn_b 44) 11 = .ok (.aload_n 0, 1) := by decide +kernel
theorem bd_44_12 : decode (bn_b 44) 12 = .ok (.getfield 9, 3) := by decide +kernel
theorem bd_44_15 : decode (bn_b 44) 15 = .ok (.aload_n 0, 1) := by decide +kernel
theorem bd_44_16 : decode (bn_b 44) 16 = .ok (.getfield 19, 3) := by decide +kernel
theorem bd_44_19 : decode (bn_b 44) 19 = .ok (.iaload, 1) := by decide +kernel
theorem bd_44_20 : decode (bn_b 44) 20 = .ok (.bipush 48, 2) := by decide +kernel
theorem bd_44_22 : decode (bn_b 44) 22 = .ok (.if_icmp .lt 17, 3) := by decide +kernel
theorem bd_44_25 : decode (bn_b 44) 25 = .ok (.aload_n 0, 1) := by decide +kernel
theorem bd_44_26 : decode (bn_b 44) 26 = .ok (.getfield 9, 3) := by decide +kernel
theorem bd_44_29 : decode (bn_b 44) 29 = .ok (.aload_n 0, 1) := by decide +kernel
theorem bd_44_30 : decode (bn_b 44) 30 = .ok (.getfield 19, 3) := by decide +kernel
theorem bd_44_33 : decode (bn_b 44) 33 = .ok (.iaload, 1) := by decide +kernel
theorem bd_44_34 : decode (bn_b 44) 34 = .ok (.bipush 57, 2) := by decide +kernel
theorem bd_44_36 : decode (bn_b 44) 36 = .ok (.if_icmp .le 6, 3) := by decide +kernel
theorem bd_44_39 : decode (bn_b 44) 39 = .ok (.bipush (-9), 2) := by decide +kernel
theorem bd_44_41 : decode (bn_b 44) 41 = .ok (.ireturn, 1) := by decide +kernel
theorem bd_44_42 : decode (bn_b 44) 42 = .ok (.aload_n 0, 1) := by decide +kernel
theorem bd_44_43 : decode (bn_b 44) 43 = .ok (.getfield 9, 3) := by decide +kernel
theorem bd_44_46 : decode (bn_b 44) 46 = .ok (.aload_n 0, 1) := by decide +kernel
theorem bd_44_47 : decode (bn_b 44) 47 = .ok (.getfield 19, 3) := by decide +kernel
theorem bd_44_50 : decode (bn_b 44) 50 = .ok (.iaload, 1) := by decide +kernel
theorem bd_44_51 : decode (bn_b 44) 51 = .ok (.bipush 48, 2) := by decide +kernel
theorem bd_44_53 : decode (bn_b 44) 53 = .ok (.isub, 1) := by decide +kernel
theorem bd_44_54 : decode (bn_b 44) 54 = .ok (.ireturn, 1) := by decide +kernel
theorem bd_45_0 : decode (bn_b 45) 0 = .ok (.aload_n 0, 1) := by decide +kernel
theorem bd_45_1 : decode (bn_b 45) 1 = .ok (.invokespecial 3, 3) := by decide +kernel
theorem bd_45_4 : decode (bn_b 45) 4 = .ok (.aload_n 0, 1) := by decide +kernel
theorem bd_45_5 : decode (bn_b 45) 5 = .ok (.new 9, 3) := by decide +kernel
theorem bd_45_8 : decode (bn_b 45) 8 = .ok (.dup, 1) := by decide +kernel
theorem bd_45_9 : decode (bn_b 45) 9 = .ok (.invokespecial 11, 3) := by decide +kernel
theorem bd_45_12 : decode (bn_b 45) 12 = .ok (.putfield 12, 3) := by decide +kernel
theorem bd_45_15 : decode (bn_b 45) 15 = .ok (.aload_n 0, 1) := by decide +kernel
theorem bd_45_16 : decode (bn_b 45) 16 = .ok (.new 16, 3) := by decide +kernel
theorem bd_45_19 : decode (bn_b 45) 19 = .ok (.dup, 1) := by decide +kernel
theorem bd_45_20 : decode (bn_b 45) 20 = .ok (.invokespecial 18, 3) := by decide +kernel
theorem bd_45_23 : decode (bn_b 45) 23 = .ok (.putfield 19, 3) := by decide +kernel
theorem bd_45_26 : decode (bn_b 45) 26 = .ok (.aload_n 0, 1) := by decide +kernel
theorem bd_45_27 : decode (bn_b 45) 27 = .ok (.new 16, 3) := by decide +kernel
theorem bd_45_30 : decode (bn_b 45) 30 = .ok (.dup, 1) := by decide +kernel
theorem bd_45_31 : decode (bn_b 45) 31 = .ok (.invokespecial 18, 3) := by decide +kernel
theorem bd_45_34 : decode (bn_b 45) 34 = .ok (.putfield 23, 3) := by decide +kernel
theorem bd_45_37 : decode (bn_b 45) 37 = .ok (.aload_n 0, 1) := by decide +kernel
theorem bd_45_38 : decode (bn_b 45) 38 = .ok (.bipush 20, 2) := by decide +kernel
theorem bd_45_40 : decode (bn_b 45) 40 = .ok (.anewarray 16, 3) := by decide +kernel
theorem bd_45_43 : decode (bn_b 45) 43 = .ok (.putfield 26, 3) := by decide +kernel
theorem bd_45_46 : decode (bn_b 45) 46 = .ok (.aload_n 0, 1) := by decide +kernel
theorem bd_45_47 : decode (bn_b 45) 47 = .ok (.iconst 0, 1) := by decide +kernel
theorem bd_45_48 : decode (bn_b 45) 48 = .ok (.putfield 30, 3) := by decide +kernel
theorem bd_45_51 : decode (bn_b 45) 51 = .ok (.aload_n 0, 1) := by decide +kernel
theorem bd_45_52 : decode (bn_b 45) 52 = .ok (.iconst 0, 1) := by decide +kernel
theorem bd_45_53 : decode (bn_b 45) 53 = .ok (.putfield 34, 3) := by decide +kernel
theorem bd_45_56 : decode (bn_b 45) 56 = .ok (.aload_n 0, 1) := by decide +kernel
theorem bd_45_57 : decode (bn_b 45) 57 = .ok (.iconst 2, 1) := by decide +kernel
theorem bd_45_58 : decode (bn_b 45) 58 = .ok (.anewarray 16, 3) := by decide +kernel
theorem bd_45_61 : decode (bn_b 45) 61 = .ok (.putfield 37, 3) := by decide +kernel
theorem bd_45_64 : decode (bn_b 45) 64 = .ok (.aload_n 0, 1) := by decide +kernel
theorem bd_45_65 : decode (bn_b 45) 65 = .ok (.iconst 2, 1) := by decide +kernel
theorem bd_45_66 : decode (bn_b 45) 66 = .ok (.newarray .boolean, 2) := by decide +kernel
theorem bd_45_68 : decode (bn_b 45) 68 = .ok (.putfield 40, 3) := by decide +kernel
theorem bd_45_71 : decode (bn_b 45) 71 = .ok (.iconst 0, 1) := by decide +kernel
theorem bd_45_72 : decode (bn_b 45) 72 = .ok (.istore_n 1, 1) := by decide +kernel
theorem bd_45_73 : decode (bn_b 45) 73 = .ok (.iload_n 1, 1) := by decide +kernel
theorem bd_45_74 : decode (bn_b 45) 74 = .ok (.bipush 20, 2) := by decide +kernel
theorem bd_45_76 : decode (bn_b 45) 76 = .ok (.if_icmp .ge 22, 3) := by decide +kernel
theorem bd_45_79 : decode (bn_b 45) 79 = .ok (.aload_n 0, 1) := by decide +kernel
theorem bd_45_80 : decode (bn_b 45) 80 = .ok (.getfield 26, 3) := by decide +kernel
theorem bd_45_83 : decode (bn_b 45) 83 = .ok (.iload_n 1, 1) := by decide +kernel
theorem bd_45_84 : decode (bn_b 45) 84 = .ok (.new 16, 3) := by decide +kernel
theorem bd_45_87 : decode (bn_b 45) 87 = .ok (.dup, 1) := by decide +kernel
theorem bd_45_88 : decode (bn_b 45) 88 = .ok (.invokespecial 18, 3) := by decide +kernel
theorem bd_45_91 : decode (bn_b 45) 91 = .ok (.aastore, 1) := by decide +kernel
theorem bd_45_92 : decode (bn_b 45) 92 = .ok (.iinc 1 1, 3) := by decide +kernel
theorem bd_45_95 : decode (bn_b 45) 95 = .ok (.goto (-22), 3) := by decide +kernel
theorem bd_45_98 : decode (bn_b 45) 98 = .ok (.iconst 0, 1) := by decide +kernel
theorem bd_45_99 : decode (bn_b 45) 99 = .ok (.istore_n 1, 1) := by decide +kernel
theorem bd_45_100 : decode (bn_b 45) 100 = .ok (.iload_n 1, 1) := by decide +kernel
theorem bd_45_101 : decode (bn_b 45) 101 = .ok (.iconst 2, 1) := by decide +kernel
theorem bd_45_102 : decode (bn_b 45) 102 = .ok (.if_icmp .ge 22, 3) := by decide +kernel
theorem bd_45_105 : decode (bn_b 45) 105 = .ok (.aload_n 0, 1) := by decide +kernel
theorem bd_45_106 : decode (bn_b 45) 106 = .ok (.getfield 37, 3) := by decide +kernel
theorem bd_45_109 : decode (bn_b 45) 109 = .ok (.iload_n 1, 1) := by decide +kernel
theorem bd_45_110 : decode (bn_b 45) 110 = .ok (.new 16, 3) := by decide +kernel
theorem bd_45_113 : decode (bn_b 45) 113 = .ok (.dup, 1) := by decide +kernel
theorem bd_45_114 : decode (bn_b 45) 114 = .ok (.invokespecial 18, 3) := by decide +kernel
theorem bd_45_117 : decode (bn_b 45) 117 = .ok (.aastore, 1) := by decide +kernel
theorem bd_45_118 : decode (bn_b 45) 118 = .ok (.iinc 1 1, 3) := by decide +kernel
theorem bd_45_121 : decode (bn_b 45) 121 = .ok (.goto (-21), 3) := by decide +kernel
theorem bd_45_124 : decode (bn_b 45) 124 = .ok (.return_, 1) := by decide +kernel
theorem bd_46_0 : decode (bn_b 46) 0 = .ok (.iload_n 1, 1) := by decide +kernel
theorem bd_46_1 : decode (bn_b 46) 1 = .ok (.iconst 1, 1) := by decide +kernel
theorem bd_46_2 : decode (bn_b 46) 2 = .ok (.if_icmp .lt 9, 3) := by decide +kernel
theorem bd_46_5 : decode (bn_b 46) 5 = .ok (.iload_n 1, 1) := by decide +kernel
theorem bd_46_6 : decode (bn_b 46) 6 = .ok (.bipush 8, 2) := by decide +kernel
theorem bd_46_8 : decode (bn_b 46) 8 = .ok (.if_icmp .le 6, 3) := by decide +kernel
theorem bd_46_11 : decode (bn_b 46) 11 = .ok (.bipush (-2), 2) := by decide +kernel
theorem bd_46_13 : decode (bn_b 46) 13 = .ok (.ireturn, 1) := by decide +kernel
theorem bd_46_14 : decode (bn_b 46) 14 = .ok (.aload_n 0, 1) := by decide +kernel
theorem bd_46_15 : decode (bn_b 46) 15 = .ok (.getfield 12, 3) := by decide +kernel
theorem bd_46_18 : decode (bn_b 46) 18 = .ok (.getfield 44, 3) := by decide +kernel
theorem bd_46_21 : decode (bn_b 46) 21 = .ok (.iload_n 1, 1) := by decide +kernel
theorem bd_46_22 : decode (bn_b 46) 22 = .ok (.iadd, 1) := by decide +kernel
theorem bd_46_23 : decode (bn_b 46) 23 = .ok (.bipush 80, 2) := by decide +kernel
theorem bd_46_25 : decode (bn_b 46) 25 = .ok (.if_icmp .le 6, 3) := by decide +kernel
theorem bd_46_28 : decode (bn_b 46) 28 = .ok (.bipush (-4), 2) := by decide +kernel
theorem bd_46_30 : decode (bn_b 46) 30 = .ok (.ireturn, 1) := by decide +kernel
theorem bd_46_31 : decode (bn_b 46) 31 = .ok (.iload_n 1, 1) := by decide +kernel
theorem bd_46_32 : decode (bn_b 46) 32 = .ok (.iconst 1, 1) := by decide +kernel
theorem bd_46_33 : decode (bn_b 46) 33 = .ok (.isub, 1) := by decide +kernel
theorem bd_46_34 : decode (bn_b 46) 34 = .ok (.istore 4, 2) := by decide +kernel
theorem bd_46_36 : decode (bn_b 46) 36 = .ok (.iload 4, 2) := by decide +kernel
theorem bd_46_38 : decode (bn_b 46) 38 = .ok (.ifCond .lt 28, 3) := by decide +kernel
theorem bd_46_41 : decode (bn_b 46) 41 = .ok (.aload_n 0, 1) := by decide +kernel
theorem bd_46_42 : decode (bn_b 46) 42 = .ok (.getfield 12, 3) := by decide +kernel
theorem bd_46_45 : decode (bn_b 46) 45 = .ok (.lload_n 2, 1) := by decide +kernel
theorem bd_46_46 : decode (bn_b 46) 46 = .ok (.bipush 8, 2) := by decide +kernel
theorem bd_46_48 : decode (bn_b 46) 48 = .ok (.iload 4, 2) := by decide +kernel
theorem bd_46_50 : decode (bn_b 46) 50 = .ok (.imul, 1) := by decide +kernel
theorem bd_46_51 : decode (bn_b 46) 51 = .ok (.lushr, 1) := by decide +kernel
theorem bd_46_52 : decode (bn_b 46) 52 = .ok (.l2i, 1) := by decide +kernel
theorem bd_46_53 : decode (bn_b 46) 53 = .ok (.sipush 255, 3) := by decide +kernel
theorem bd_46_56 : decode (bn_b 46) 56 = .ok (.iand, 1) := by decide +kernel
theorem bd_46_57 : decode (bn_b 46) 57 = .ok (.invokevirtual 47, 3) := by decide +kernel
theorem bd_46_60 : decode (bn_b 46) 60 = .ok (.iinc 4 (-1), 3) := by decide +kernel
theorem bd_46_63 : decode (bn_b 46) 63 = .ok (.goto (-27), 3) := by decide +kernel
theorem bd_46_66 : decode (bn_b 46) 66 = .ok (.aload_n 0, 1) := by decide +kernel
theorem bd_46_67 : decode (bn_b 46) 67 = .ok (.getfield 12, 3) := by decide +kernel
theorem bd_46_70 : decode (bn_b 46) 70 = .ok (.getfield 44, 3) := by decide +kernel
theorem bd_46_73 : decode (bn_b 46) 73 = .ok (.ireturn, 1) := by decide +kernel
theorem bd_47_0 : decode (bn_b 47) 0 = .ok (.aload_n 0, 1) := by decide +kernel
theorem bd_47_1 : decode (bn_b 47) 1 = .ok (.getfield 12, 3) := by decide +kernel
theorem bd_47_4 : decode (bn_b 47) 4 = .ok (.getfield 44, 3) := by decide +kernel
theorem bd_47_7 : decode (bn_b 47) 7 = .ok (.istore_n 1, 1) := by decide +kernel
theorem bd_47_8 : decode (bn_b 47) 8 = .ok (.aload_n 0, 1) := by decide +kernel
theorem bd_47_9 : decode (bn_b 47) 9 = .ok (.getfield 12, 3) := by decide +kernel
theorem bd_47_12 : decode (bn_b 47) 12 = .ok (.iconst 0, 1) := by decide +kernel
theorem bd_47_13 : decode (bn_b 47) 13 = .ok (.putfield 44, 3) := by decide +kernel
theorem bd_47_16 : decode (bn_b 47) 16 = .ok (.iload_n 1, 1) := by decide +kernel
theorem bd_47_17 : decode (bn_b 47) 17 = .ok (.ireturn, 1) := by decide +kernel
theorem bd_48_0 : decode (bn_b 48) 0 = .ok (.aload_n 0, 1) := by decide +kernel
theorem bd_48_1 : decode (bn_b 48) 1 = .ok (.getfield 12, 3) := by decide +kernel
theorem bd_48_4 : decode (bn_b 48) 4 = .ok (.aload_n 0, 1) := by decide +kernel
theorem bd_48_5 : decode (bn_b 48) 5 = .ok (.getfield 23, 3) := by decide +kernel
theorem bd_48_8 : decode (bn_b 48) 8 = .ok (.invokevirtual 51, 3) := by decide +kernel
theorem bd_48_11 : decode (bn_b 48) 11 = .ok (.ireturn, 1) := by decide +kernel
theorem bd_49_0 : decode (bn_b 49) 0 = .ok (.aload_n 0, 1) := by decide +kernel
theorem bd_49_1 : decode (bn_b 49) 1 = .ok (.getfield 12, 3) := by decide +kernel
theorem bd_49_4 : decode (bn_b 49) 4 = .ok (.aload_n 0, 1) := by decide +kernel
theorem bd_49_5 : decode (bn_b 49) 5 = .ok (.getfield 23, 3) := by decide +kernel
theorem bd_49_8 : decode (bn_b 49) 8 = .ok (.invokevirtual 51, 3) := by decide +kernel
theorem bd_49_11 : decode (bn_b 49) 11 = .ok (.bipush (-9), 2) := by decide +kernel
theorem bd_49_13 : decode (bn_b 49) 13 = .ok (.if_icmp .eq 6, 3) := by decide +kernel
theorem bd_49_16 : decode (bn_b 49) 16 = .ok (.bipush (-3), 2) := by decide +kernel
theorem bd_49_18 : decode (bn_b 49) 18 = .ok (.ireturn, 1) := by decide +kernel
theorem bd_49_19 : decode (bn_b 49) 19 = .ok (.aload_n 0, 1) := by decide +kernel
theorem bd_49_20 : decode (bn_b 49) 20 = .ok (.getfield 23, 3) := by decide +kernel
theorem bd_49_23 : decode (bn_b 49) 23 = .ok (.aload_n 0, 1) := by decide +kernel
theorem bd_49_24 : decode (bn_b 49) 24 = .ok (.getfield 19, 3) := by decide +kernel
theorem bd_49_27 : decode (bn_b 49) 27 = .ok (.getfield 55, 3) := by decide +kernel
theorem bd_49_30 : decode (bn_b 49) 30 = .ok (.putfield 55, 3) := by decide +kernel
theorem bd_49_33 : decode (bn_b 49) 33 = .ok (.aload_n 0, 1) := by decide +kernel
theorem bd_49_34 : decode (bn_b 49) 34 = .ok (.getfield 19, 3) := by decide +kernel
theorem bd_49_37 : decode (bn_b 49) 37 = .ok (.aload_n 0, 1) := by decide +kernel
theorem bd_49_38 : decode (bn_b 49) 38 = .ok (.getfield 23, 3) := by decide +kernel
theorem bd_49_41 : decode (bn_b 49) 41 = .ok (.invokevirtual 59, 3) := by decide +kernel
theorem bd_49_44 : decode (bn_b 49) 44 = .ok (.aload_n 0, 1) := by decide +kernel
theorem bd_49_45 : decode (bn_b 49) 45 = .ok (.invokevirtual 63, 3) := by decide +kernel
theorem bd_49_48 : decode (bn_b 49) 48 = .ok (.iconst 0, 1) := by decide +kernel
theorem bd_49_49 : decode (bn_b 49) 49 = .ok (.istore_n 1, 1) := by decide +kernel
theorem bd_49_50 : decode (bn_b 49) 50 = .ok (.iload_n 1, 1) := by decide +kernel
theorem bd_49_51 : decode (bn_b 49) 51 = .ok (.iconst 2, 1) := by decide +kernel
theorem bd_49_52 : decode (bn_b 49) 52 = .ok (.if_icmp .ge 16, 3) := by decide +kernel
theorem bd_49_55 : decode (bn_b 49) 55 = .ok (.aload_n 0, 1) := by decide +kernel
theorem bd_49_56 : decode (bn_b 49) 56 = .ok (.getfield 40, 3) := by decide +kernel
theorem bd_49_59 : decode (bn_b 49) 59 = .ok (.iload_n 1, 1) := by decide +kernel
theorem bd_49_60 : decode (bn_b 49) 60 = .ok (.iconst 0, 1) := by decide +kernel
theorem bd_49_61 : decode (bn_b 49) 61 = .ok (.bastore, 1) := by decide +kernel
theorem bd_49_62 : decode (bn_b 49) 62 = .ok (.iinc 1 1, 3) := by decide +kernel
theorem bd_49_65 : decode (bn_b 49) 65 = .ok (.goto (-15), 3) := by decide +kernel
theorem bd_49_68 : decode (bn_b 49) 68 = .ok (.bipush 100, 2) := by decide +kernel
theorem bd_49_70 : decode (bn_b 49) 70 = .ok (.aload_n 0, 1) := by decide +kernel
theorem bd_49_71 : decode (bn_b 49) 71 = .ok (.getfield 19, 3) := by decide +kernel
theorem bd_49_74 : decode (bn_b 49) 74 = .ok (.getfield 66, 3) := by decide +kernel
theorem bd_49_77 : decode (bn_b 49) 77 = .ok (.imul, 1) := by decide +kernel
theorem bd_49_78 : decode (bn_b 49) 78 = .ok (.aload_n 0, 1) := by decide +kernel
theorem bd_49_79 : decode (bn_b 49) 79 = .ok (.getfield 19, 3) := by decide +kernel
theorem bd_49_82 : decode (bn_b 49) 82 = .ok (.getfield 69, 3) := by decide +kernel
theorem bd_49_85 : decode (bn_b 49) 85 = .ok (.iadd, 1) := by decide +kernel
theorem bd_49_86 : decode (bn_b 49) 86 = .ok (.ireturn, 1) := by decide +kernel
theorem bd_50_0 : decode (bn_b 50) 0 = .ok (.aload_n 0, 1) := by decide +kernel
theorem bd_50_1 : decode (bn_b 50) 1 = .ok (.getfield 19, 3) := by decide +kernel
theorem bd_50_4 : decode (bn_b 50) 4 = .ok (.iload_n 1, 1) := by decide +kernel
theorem bd_50_5 : decode (bn_b 50) 5 = .ok (.invokevirtual 72, 3) := by decide +kernel
theorem bd_50_8 : decode (bn_b 50) 8 = .ok (.ifCond .ne 5, 3) := by decide +kernel
theorem bd_50_11 : decode (bn_b 50) 11 = .ok (.iconst (-1), 1) := by decide +kernel
theorem bd_50_12 : decode (bn_b 50) 12 = .ok (.ireturn, 1) := by decide +kernel
theorem bd_50_13 : decode (bn_b 50) 13 = .ok (.iload_n 2, 1) := by decide +kernel
theorem bd_50_14 : decode (bn_b 50) 14 = .ok (.tableswitch 98 0 4 #[34, 44, 61, 79, 88], 34) := by decide +kernel
theorem bd_50_48 : decode (bn_b 50) 48 = .ok (.aload_n 0, 1) := by decide +kernel
theorem bd_50_49 : decode (bn_b 50) 49 = .ok (.getfield 19, 3) := by decide +kernel
theorem bd_50_52 : decode (bn_b 50) 52 = .ok (.getfield 76, 3) := by decide +kernel
theorem bd_50_55 : decode (bn_b 50) 55 = .ok (.iload_n 1, 1) := by decide +kernel
theorem bd_50_56 : decode (bn_b 50) 56 = .ok (.iaload, 1) := by decide +kernel
theorem bd_50_57 : decode (bn_b 50) 57 = .ok (.ireturn, 1) := by decide +kernel
theorem bd_50_58 : decode (bn_b 50) 58 = .ok (.aload_n 0, 1) := by decide +kernel
theorem bd_50_59 : decode (bn_b 50) 59 = .ok (.getfield 19, 3) := by decide +kernel
theorem bd_50_62 : decode (bn_b 50) 62 = .ok (.iload_n 1, 1) := by decide +kernel
theorem bd_50_63 : decode (bn_b 50) 63 = .ok (.invokevirtual 80, 3) := by decide +kernel
theorem bd_50_66 : decode (bn_b 50) 66 = .ok (.ifCond .eq 7, 3) := by decide +kernel
theorem bd_50_69 : decode (bn_b 50) 69 = .ok (.iconst 1, 1) := by decide +kernel
theorem bd_50_70 : decode (bn_b 50) 70 = .ok (.goto 4, 3) := by decide +kernel
theorem bd_50_73 : decode (bn_b 50) 73 = .ok (.iconst 0, 1) := by decide +kernel
theorem bd_50_74 : decode (bn_b 50) 74 = .ok (.ireturn, 1) := by decide +kernel
theorem bd_50_75 : decode (bn_b 50) 75 = .ok (.aload_n 0, 1) := by decide +kernel
theorem bd_50_76 : decode (bn_b 50) 76 = .ok (.getfield 19, 3) := by decide +kernel
theorem bd_50_79 : decode (bn_b 50) 79 = .ok (.getfield 83, 3) := by decide +kernel
theorem bd_50_82 : decode (bn_b 50) 82 = .ok (.iload_n 1, 1) := by decide +kernel
theorem bd_50_83 : decode (bn_b 50) 83 = .ok (.baload, 1) := by decide +kernel
theorem bd_50_84 : decode (bn_b 50) 84 = .ok (.ifCond .eq 7, 3) := by decide +kernel
theorem bd_50_87 : decode (bn_b 50) 87 = .ok (.iconst 1, 1) := by decide +kernel
theorem bd_50_88 : decode (bn_b 50) 88 = .ok (.goto 4, 3) := by decide +kernel
theorem bd_50_91 : decode (bn_b 50) 91 = .ok (.iconst 0, 1) := by decide +kernel
theorem bd_50_92 : decode (bn_b 50) 92 = .ok (.ireturn, 1) := by decide +kernel
theorem bd_50_93 : decode (bn_b 50) 93 = .ok (.aload_n 0, 1) := by decide +kernel
theorem bd_50_94 : decode (bn_b 50) 94 = .ok (.getfield 19, 3) := by decide +kernel
theorem bd_50_97 : decode (bn_b 50) 97 = .ok (.iload_n 1, 1) := by decide +kernel
theorem bd_50_98 : decode (bn_b 50) 98 = .ok (.invokevirtual 86, 3) := by decide +kernel
theorem bd_50_101 : decode (bn_b 50) 101 = .ok (.ireturn, 1) := by decide +kernel
theorem bd_50_102 : decode (bn_b 50) 102 = .ok (.aload_n 0, 1) := by decide +kernel
theorem bd_50_103 : decode (bn_b 50) 103 = .ok (.getfield 19, 3) := by decide +kernel
theorem bd_50_106 : decode (bn_b 50) 106 = .ok (.getfield 90, 3) := by decide +kernel
theorem bd_50_109 : decode (bn_b 50) 109 = .ok (.iload_n 1, 1) := by decide +kernel
theorem bd_50_110 : decode (bn_b 50) 110 = .ok (.iaload, 1) := by decide +kernel
theorem bd_50_111 : decode (bn_b 50) 111 = .ok (.ireturn, 1) := by decide +kernel
theorem bd_50_112 : decode (bn_b 50) 112 = .ok (.bipush (-2), 2) := by decide +kernel
theorem bd_50_114 : decode (bn_b 50) 114 = .ok (.ireturn, 1) := by decide +kernel
theorem bd_51_0 : decode (bn_b 51) 0 = .ok (.aload_n 0, 1) := by decide +kernel
theorem bd_51_1 : decode (bn_b 51) 1 = .ok (.getfield 19, 3) := by decide +kernel
theorem bd_51_4 : decode (bn_b 51) 4 = .ok (.iload_n 1, 1) := by decide +kernel
theorem bd_51_5 : decode (bn_b 51) 5 = .ok (.invokevirtual 93, 3) := by decide +kernel
theorem bd_51_8 : decode (bn_b 51) 8 = .ok (.ifCond .ne 5, 3) := by decide +kernel
theorem bd_51_11 : decode (bn_b 51) 11 = .ok (.iconst (-1), 1) := by decide +kernel
theorem bd_51_12 : decode (bn_b 51) 12 = .ok (.ireturn, 1) := by decide +kernel
theorem bd_51_13 : decode (bn_b 51) 13 = .ok (.iload_n 2, 1) := by decide +kernel
theorem bd_51_14 : decode (bn_b 51) 14 = .ok (.tableswitch 105 0 5 #[38, 48, 58, 68, 85, 95], 38) := by decide +kernel
theorem bd_51_52 : decode (bn_b 51) 52 = .ok (.aload_n 0, 1) := by decide +kernel
theorem bd_51_53 : decode (bn_b 51) 53 = .ok (.getfield 19, 3) := by decide +kernel
theorem bd_51_56 : decode (bn_b 51) 56 = .ok (.getfield 96, 3) := by decide +kernel
theorem bd_51_59 : decode (bn_b 51) 59 = .ok (.iload_n 1, 1) := by decide +kernel
theorem bd_51_60 : decode (bn_b 51) 60 = .ok (.iaload, 1) := by decide +kernel
theorem bd_51_61 : decode (bn_b 51) 61 = .ok (.ireturn, 1) := by decide +kernel
theorem bd_51_62 : decode (bn_b 51) 62 = .ok (.aload_n 0, 1) := by decide +kernel
theorem bd_51_63 : decode (bn_b 51) 63 = .ok (.getfield 19, 3) := by decide +kernel
theorem bd_51_66 : decode (bn_b 51) 66 = .ok (.getfield 99, 3) := by decide +kernel
theorem bd_51_69 : decode (bn_b 51) 69 = .ok (.iload_n 1, 1) := by decide +kernel
theorem bd_51_70 : decode (bn_b 51) 70 = .ok (.iaload, 1) := by decide +kernel
theorem bd_51_71 : decode (bn_b 51) 71 = .ok (.ireturn, 1) := by decide +kernel
theorem bd_51_72 : decode (bn_b 51) 72 = .ok (.aload_n 0, 1) := by decide +kernel
theorem bd_51_73 : decode (bn_b 51) 73 = .ok (.getfield 19, 3) := by decide +kernel
theorem bd_51_76 : decode (bn_b 51) 76 = .ok (.getfield 102, 3) := by decide +kernel
theorem bd_51_79 : decode (bn_b 51) 79 = .ok (.iload_n 1, 1) := by decide +kernel
theorem bd_51_80 : decode (bn_b 51) 80 = .ok (.iaload, 1) := by decide +kernel
theorem bd_51_81 : decode (bn_b 51) 81 = .ok (.ireturn, 1) := by decide +kernel
theorem bd_51_82 : decode (bn_b 51) 82 = .ok (.aload_n 0, 1) := by decide +kernel
theorem bd_51_83 : decode (bn_b 51) 83 = .ok (.getfield 19, 3) := by decide +kernel
theorem bd_51_86 : decode (bn_b 51) 86 = .ok (.iload_n 1, 1) := by decide +kernel
theorem bd_51_87 : decode (bn_b 51) 87 = .ok (.invokevirtual 105, 3) := by decide +kernel
theorem bd_51_90 : decode (bn_b 51) 90 = .ok (.ifCond .eq 7, 3) := by decide +kernel
theorem bd_51_93 : decode (bn_b 51) 93 = .ok (.iconst 1, 1) := by decide +kernel
theorem bd_51_94 : decode (bn_b 51) 94 = .ok (.goto 4, 3) := by decide +kernel
theorem bd_51_97 : decode (bn_b 51) 97 = .ok (.iconst 0, 1) := by decide +kernel
theorem bd_51_98 : decode (bn_b 51) 98 = .ok (.ireturn, 1) := by decide +kernel
theorem bd_51_99 : decode (bn_b 51) 99 = .ok (.aload_n 0, 1) := by decide +kernel
theorem bd_51_100 : decode (bn_b 51) 100 = .ok (.getfield 19, 3) := by decide +kernel
theorem bd_51_103 : decode (bn_b 51) 103 = .ok (.getfield 108, 3) := by decide +kernel
theorem bd_51_106 : decode (bn_b 51) 106 = .ok (.iload_n 1, 1) := by decide +kernel
theorem bd_51_107 : decode (bn_b 51) 107 = .ok (.iaload, 1) := by decide +kernel
theorem bd_51_108 : decode (bn_b 51) 108 = .ok (.ireturn, 1) := by decide +kernel
theorem bd_51_109 : decode (bn_b 51) 109 = .ok (.aload_n 0, 1) := by decide +kernel
theorem bd_51_110 : decode (bn_b 51) 110 = .ok (.getfield 19, 3) := by decide +kernel
theorem bd_51_113 : decode (bn_b 51) 113 = .ok (.getfield 111, 3) := by decide +kernel
theorem bd_51_116 : decode (bn_b 51) 116 = .ok (.iload_n 1, 1) := by decide +kernel
theorem bd_51_117 : decode (bn_b 51) 117 = .ok (.iaload, 1) := by decide +kernel
theorem bd_51_118 : decode (bn_b 51) 118 = .ok (.ireturn, 1) := by decide +kernel
theorem bd_51_119 : decode (bn_b 51) 119 = .ok (.bipush (-2), 2) := by decide +kernel
theorem bd_51_121 : decode (bn_b 51) 121 = .ok (.ireturn, 1) := by decide +kernel
theorem bd_52_0 : decode (bn_b 52) 0 = .ok (.aload_n 0, 1) := by decide +kernel
theorem bd_52_1 : decode (bn_b 52) 1 = .ok (.getfield 19, 3) := by decide +kernel
theorem bd_52_4 : decode (bn_b 52) 4 = .ok (.iload_n 1, 1) := by decide +kernel
theorem bd_52_5 : decode (bn_b 52) 5 = .ok (.invokevirtual 72, 3) := by decide +kernel
theorem bd_52_8 : decode (bn_b 52) 8 = .ok (.ifCond .eq 14, 3) := by decide +kernel
theorem bd_52_11 : decode (bn_b 52) 11 = .ok (.aload_n 0, 1) := by decide +kernel
theorem bd_52_12 : decode (bn_b 52) 12 = .ok (.getfield 19, 3) := by decide +kernel
theorem bd_52_15 : decode (bn_b 52) 15 = .ok (.iload_n 2, 1) := by decide +kernel
theorem bd_52_16 : decode (bn_b 52) 16 = .ok (.invokevirtual 93, 3) := by decide +kernel
theorem bd_52_19 : decode (bn_b 52) 19 = .ok (.ifCond .ne 5, 3) := by decide +kernel
theorem bd_52_22 : decode (bn_b 52) 22 = .ok (.iconst (-1), 1) := by decide +kernel
theorem bd_52_23 : decode (bn_b 52) 23 = .ok (.ireturn, 1) := by decide +kernel
theorem bd_52_24 : decode (bn_b 52) 24 = .ok (.aload_n 0, 1) := by decide +kernel
theorem bd_52_25 : decode (bn_b 52) 25 = .ok (.getfield 19, 3) := by decide +kernel
theorem bd_52_28 : decode (bn_b 52) 28 = .ok (.iload_n 1, 1) := by decide +kernel
theorem bd_52_29 : decode (bn_b 52) 29 = .ok (.iload_n 2, 1) := by decide +kernel
theorem bd_52_30 : decode (bn_b 52) 30 = .ok (.invokevirtual 114, 3) := by decide +kernel
theorem bd_52_33 : decode (bn_b 52) 33 = .ok (.ifCond .eq 7, 3) := by decide +kernel
theorem bd_52_36 : decode (bn_b 52) 36 = .ok (.iconst 1, 1) := by decide +kernel
theorem bd_52_37 : decode (bn_b 52) 37 = .ok (.goto 4, 3) := by decide +kernel
theorem bd_52_40 : decode (bn_b 52) 40 = .ok (.iconst 0, 1) := by decide +kernel
theorem bd_52_41 : decode (bn_b 52) 41 = .ok (.ireturn, 1) := by decide +kernel
theorem bd_53_0 : decode (bn_b 53) 0 = .ok (.aload_n 0, 1) := by decide +kernel
theorem bd_53_1 : decode (bn_b 53) 1 = .ok (.getfield 19, 3) := by decide +kernel
theorem bd_53_4 : decode (bn_b 53) 4 = .ok (.iload_n 1, 1) := by decide +kernel
theorem bd_53_5 : decode (bn_b 53) 5 = .ok (.invokevirtual 72, 3) := by decide +kernel
theorem bd_53_8 : decode (bn_b 53) 8 = .ok (.ifCond .eq 14, 3) := by decide +kernel
theorem bd_53_11 : decode (bn_b 53) 11 = .ok (.aload_n 0, 1) := by decide +kernel
theorem bd_53_12 : decode (bn_b 53) 12 = .ok (.getfield 19, 3) := by decide +kernel
theorem bd_53_15 : decode (bn_b 53) 15 = .ok (.iload_n 2, 1) := by decide +kernel
theorem bd_53_16 : decode (bn_b 53) 16 = .ok (.invokevirtual 93, 3) := by decide +kernel
theorem bd_53_19 : decode (bn_b 53) 19 = .ok (.ifCond .ne 5, 3) := by decide +kernel
theorem bd_53_22 : decode (bn_b 53) 22 = .ok (.iconst (-1), 1) := by decide +kernel
theorem bd_53_23 : decode (bn_b 53) 23 = .ok (.ireturn, 1) := by decide +kernel
theorem bd_53_24 : decode (bn_b 53) 24 = .ok (.aload_n 0, 1) := by decide +kernel
theorem bd_53_25 : decode (bn_b 53) 25 = .ok (.getfield 19, 3) := by decide +kernel
theorem bd_53_28 : decode (bn_b 53) 28 = .ok (.iload_n 1, 1) := by decide +kernel
theorem bd_53_29 : decode (bn_b 53) 29 = .ok (.iload_n 2, 1) := by decide +kernel
theorem bd_53_30 : decode (bn_b 53) 30 = .ok (.invokevirtual 114, 3) := by decide +kernel
theorem bd_53_33 : decode (bn_b 53) 33 = .ok (.ifCond .ne 6, 3) := by decide +kernel
theorem bd_53_36 : decode (bn_b 53) 36 = .ok (.bipush (-3), 2) := by decide +kernel
theorem bd_53_38 : decode (bn_b 53) 38 = .ok (.ireturn, 1) := by decide +kernel
theorem bd_53_39 : decode (bn_b 53) 39 = .ok (.aload_n 0, 1) := by decide +kernel
theorem bd_53_40 : decode (bn_b 53) 40 = .ok (.invokevirtual 118, 3) := by decide +kernel
theorem bd_53_43 : decode (bn_b 53) 43 = .ok (.aload_n 0, 1) := by decide +kernel
theorem bd_53_44 : decode (bn_b 53) 44 = .ok (.getfield 19, 3) := by decide +kernel
theorem bd_53_47 : decode (bn_b 53) 47 = .ok (.iload_n 1, 1) := by decide +kernel
theorem bd_53_48 : decode (bn_b 53) 48 = .ok (.iload_n 2, 1) := by decide +kernel
theorem bd_53_49 : decode (bn_b 53) 49 = .ok (.invokevirtual 121, 3) := by decide +kernel
theorem bd_53_52 : decode (bn_b 53) 52 = .ok (.aload_n 0, 1) := by decide +kernel
theorem bd_53_53 : decode (bn_b 53) 53 = .ok (.getfield 19, 3) := by decide +kernel
theorem bd_53_56 : decode (bn_b 53) 56 = .ok (.getfield 96, 3) := by decide +kernel
theorem bd_53_59 : decode (bn_b 53) 59 = .ok (.iload_n 2, 1) := by decide +kernel
theorem bd_53_60 : decode (bn_b 53) 60 = .ok (.iaload, 1) := by decide +kernel
theorem bd_53_61 : decode (bn_b 53) 61 = .ok (.ireturn, 1) := by decide +kernel
theorem bd_54_0 : decode (bn_b 54) 0 = .ok (.aload_n 0, 1) := by decide +kernel
theorem bd_54_1 : decode (bn_b 54) 1 = .ok (.getfield 19, 3) := by decide +kernel
theorem bd_54_4 : decode (bn_b 54) 4 = .ok (.iload_n 1, 1) := by decide +kernel
theorem bd_54_5 : decode (bn_b 54) 5 = .ok (.invokevirtual 93, 3) := by decide +kernel
theorem bd_54_8 : decode (bn_b 54) 8 = .ok (.ifCond .eq 20, 3) := by decide +kernel
theorem bd_54_11 : decode (bn_b 54) 11 = .ok (.iload_n 2, 1) := by decide +kernel
theorem bd_54_12 : decode (bn_b 54) 12 = .ok (.bipush 10, 2) := by decide +kernel
theorem bd_54_14 : decode (bn_b 54) 14 = .ok (.if_icmp .eq 16, 3) := by decide +kernel
theorem bd_54_17 : decode (bn_b 54) 17 = .ok (.aload_n 0, 1) := by decide +kernel
theorem bd_54_18 : decode (bn_b 54) 18 = .ok (.getfield 19, 3) := by decide +kernel
theorem bd_54_21 : decode (bn_b 54) 21 = .ok (.iload_n 2, 1) := by decide +kernel
theorem bd_54_22 : decode (bn_b 54) 22 = .ok (.invokevirtual 72, 3) := by decide +kernel
theorem bd_54_25 : decode (bn_b 54) 25 = .ok (.ifCond .ne 5, 3) := by decide +kernel
theorem bd_54_28 : decode (bn_b 54) 28 = .ok (.iconst (-1), 1) := by decide +kernel
theorem bd_54_29 : decode (bn_b 54) 29 = .ok (.ireturn, 1) := by decide +kernel
theorem bd_54_30 : decode (bn_b 54) 30 = .ok (.aload_n 0, 1) := by decide +kernel
theorem bd_54_31 : decode (bn_b 54) 31 = .ok (.getfield 19, 3) := by decide +kernel
theorem bd_54_34 : decode (bn_b 54) 34 = .ok (.getfield 99, 3) := by decide +kernel
theorem bd_54_37 : decode (bn_b 54) 37 = .ok (.iload_n 1, 1) := by decide +kernel
theorem bd_54_38 : decode (bn_b 54) 38 = .ok (.iaload, 1) := by decide +kernel
theorem bd_54_39 : decode (bn_b 54) 39 = .ok (.istore_n 3, 1) := by decide +kernel
theorem bd_54_40 : decode (bn_b 54) 40 = .ok (.iload_n 3, 1) := by decide +kernel
theorem bd_54_41 : decode (bn_b 54) 41 = .ok (.bipush 20, 2) := by decide +kernel
theorem bd_54_43 : decode (bn_b 54) 43 = .ok (.if_icmp .eq 25, 3) := by decide +kernel
theorem bd_54_46 : decode (bn_b 54) 46 = .ok (.iload_n 3, 1) := by decide +kernel
theorem bd_54_47 : decode (bn_b 54) 47 = .ok (.iload_n 2, 1) := by decide +kernel
theorem bd_54_48 : decode (bn_b 54) 48 = .ok (.if_icmp .eq 20, 3) := by decide +kernel
theorem bd_54_51 : decode (bn_b 54) 51 = .ok (.iload_n 2, 1) := by decide +kernel
theorem bd_54_52 : decode (bn_b 54) 52 = .ok (.bipush 10, 2) := by decide +kernel
theorem bd_54_54 : decode (bn_b 54) 54 = .ok (.if_icmp .eq 17, 3) := by decide +kernel
theorem bd_54_57 : decode (bn_b 54) 57 = .ok (.aload_n 0, 1) := by decide +kernel
theorem bd_54_58 : decode (bn_b 54) 58 = .ok (.getfield 19, 3) := by decide +kernel
theorem bd_54_61 : decode (bn_b 54) 61 = .ok (.iload_n 2, 1) := by decide +kernel
theorem bd_54_62 : decode (bn_b 54) 62 = .ok (.invokevirtual 80, 3) := by decide +kernel
theorem bd_54_65 : decode (bn_b 54) 65 = .ok (.ifCond .ne 6, 3) := by decide +kernel
theorem bd_54_68 : decode (bn_b 54) 68 = .ok (.bipush (-3), 2) := by decide +kernel
theorem bd_54_70 : decode (bn_b 54) 70 = .ok (.ireturn, 1) := by decide +kernel
theorem bd_54_71 : decode (bn_b 54) 71 = .ok (.aload_n 0, 1) := by decide +kernel
theorem bd_54_72 : decode (bn_b 54) 72 = .ok (.invokevirtual 118, 3) := by decide +kernel
theorem bd_54_75 : decode (bn_b 54) 75 = .ok (.aload_n 0, 1) := by decide +kernel
theorem bd_54_76 : decode (bn_b 54) 76 = .ok (.getfield 19, 3) := by decide +kernel
theorem bd_54_79 : decode (bn_b 54) 79 = .ok (.getfield 99, 3) := by decide +kernel
theorem bd_54_82 : decode (bn_b 54) 82 = .ok (.iload_n 1, 1) := by decide +kernel
theorem bd_54_83 : decode (bn_b 54) 83 = .ok (.iload_n 2, 1) := by decide +kernel
theorem bd_54_84 : decode (bn_b 54) 84 = .ok (.iastore, 1) := by decide +kernel
theorem bd_54_85 : decode (bn_b 54) 85 = .ok (.iload_n 3, 1) := by decide +kernel
theorem bd_54_86 : decode (bn_b 54) 86 = .ok (.ireturn, 1) := by decide +kernel
theorem bd_55_0 : decode (bn_b 55) 0 = .ok (.aload_n 0, 1) := by decide +kernel
theorem bd_55_1 : decode (bn_b 55) 1 = .ok (.getfield 19, 3) := by decide +kernel
theorem bd_55_4 : decode (bn_b 55) 4 = .ok (.iload_n 1, 1) := by decide +kernel
theorem bd_55_5 : decode (bn_b 55) 5 = .ok (.invokevirtual 93, 3) := by decide +kernel
theorem bd_55_8 : decode (bn_b 55) 8 = .ok (.ifCond .ne 5, 3) := by decide +kernel
theorem bd_55_11 : decode (bn_b 55) 11 = .ok (.iconst (-1), 1) := by decide +kernel
theorem bd_55_12 : decode (bn_b 55) 12 = .ok (.ireturn, 1) := by decide +kernel
theorem bd_55_13 : decode (bn_b 55) 13 = .ok (.aload_n 0, 1) := by decide +kernel
theorem bd_55_14 : decode (bn_b 55) 14 = .ok (.getfield 19, 3) := by decide +kernel
theorem bd_55_17 : decode (bn_b 55) 17 = .ok (.getfield 99, 3) := by decide +kernel
theorem bd_55_20 : decode (bn_b 55) 20 = .ok (.iload_n 1, 1) := by decide +kernel
theorem bd_55_21 : decode (bn_b 55) 21 = .ok (.iaload, 1) := by decide +kernel
theorem bd_55_22 : decode (bn_b 55) 22 = .ok (.bipush 20, 2) := by decide +kernel
theorem bd_55_24 : decode (bn_b 55) 24 = .ok (.if_icmp .eq 18, 3) := by decide +kernel
theorem bd_55_27 : decode (bn_b 55) 27 = .ok (.aload_n 0, 1) := by decide +kernel
theorem bd_55_28 : decode (bn_b 55) 28 = .ok (.getfield 19, 3) := by decide +kernel
theorem bd_55_31 : decode (bn_b 55) 31 = .ok (.getfield 96, 3) := by decide +kernel
theorem bd_55_34 : decode (bn_b 55) 34 = .ok (.iload_n 1, 1) := by decide +kernel
theorem bd_55_35 : decode (bn_b 55) 35 = .ok (.iaload, 1) := by decide +kernel
theorem bd_55_36 : decode (bn_b 55) 36 = .ok (.invokestatic 125, 3) := by decide +kernel
theorem bd_55_39 : decode (bn_b 55) 39 = .ok (.ifCond .ne 6, 3) := by decide +kernel
theorem bd_55_42 : decode (bn_b 55) 42 = .ok (.bipush (-3), 2) := by decide +kernel
theorem bd_55_44 : decode (bn_b 55) 44 = .ok (.ireturn, 1) := by decide +kernel
theorem bd_55_45 : decode (bn_b 55) 45 = .ok (.aload_n 0, 1) := by decide +kernel
theorem bd_55_46 : decode (bn_b 55) 46 = .ok (.invokevirtual 118, 3) := by decide +kernel
theorem bd_55_49 : decode (bn_b 55) 49 = .ok (.aload_n 0, 1) := by decide +kernel
theorem bd_55_50 : decode (bn_b 55) 50 = .ok (.getfield 19, 3) := by decide +kernel
theorem bd_55_53 : decode (bn_b 55) 53 = .ok (.getfield 96, 3) := by decide +kernel
theorem bd_55_56 : decode (bn_b 55) 56 = .ok (.iload_n 1, 1) := by decide +kernel
theorem bd_55_57 : decode (bn_b 55) 57 = .ok (.aload_n 0, 1) := by decide +kernel
theorem bd_55_58 : decode (bn_b 55) 58 = .ok (.getfield 19, 3) := by decide +kernel
theorem bd_55_61 : decode (bn_b 55) 61 = .ok (.getfield 96, 3) := by decide +kernel
theorem bd_55_64 : decode (bn_b 55) 64 = .ok (.iload_n 1, 1) := by decide +kernel
theorem bd_55_65 : decode (bn_b 55) 65 = .ok (.iaload, 1) := by decide +kernel
theorem bd_55_66 : decode (bn_b 55) 66 = .ok (.invokestatic 128, 3) := by decide +kernel
theorem bd_55_69 : decode (bn_b 55) 69 = .ok (.iastore, 1) := by decide +kernel
theorem bd_55_70 : decode (bn_b 55) 70 = .ok (.aload_n 0, 1) := by decide +kernel
theorem bd_55_71 : decode (bn_b 55) 71 = .ok (.getfield 19, 3) := by decide +kernel
theorem bd_55_74 : decode (bn_b 55) 74 = .ok (.getfield 96, 3) := by decide +kernel
theorem bd_55_77 : decode (bn_b 55) 77 = .ok (.iload_n 1, 1) := by decide +kernel
theorem bd_55_78 : decode (bn_b 55) 78 = .ok (.iaload, 1) := by decide +kernel
theorem bd_55_79 : decode (bn_b 55) 79 = .ok (.ireturn, 1) := by decide +kernel
theorem bd_56_0 : decode (bn_b 56) 0 = .ok (.aload_n 0, 1) := by decide +kernel
theorem bd_56_1 : decode (bn_b 56) 1 = .ok (.invokevirtual 118, 3) := by decide +kernel
theorem bd_56_4 : decode (bn_b 56) 4 = .ok (.aload_n 0, 1) := by decide +kernel
theorem bd_56_5 : decode (bn_b 56) 5 = .ok (.getfield 19, 3) := by decide +kernel
theorem bd_56_8 : decode (bn_b 56) 8 = .ok (.invokevirtual 131, 3) := by decide +kernel
theorem bd_56_11 : decode (bn_b 56) 11 = .ok (.ireturn, 1) := by decide +kernel
theorem bd_57_0 : decode (bn_b 57) 0 = .ok (.aload_n 0, 1) := by decide +kernel
theorem bd_57_1 : decode (bn_b 57) 1 = .ok (.getfield 19, 3) := by decide +kernel
theorem bd_57_4 : decode (bn_b 57) 4 = .ok (.invokevirtual 135, 3) := by decide +kernel
theorem bd_57_7 : decode (bn_b 57) 7 = .ok (.istore_n 1, 1) := by decide +kernel
theorem bd_57_8 : decode (bn_b 57) 8 = .ok (.iload_n 1, 1) := by decide +kernel
theorem bd_57_9 : decode (bn_b 57) 9 = .ok (.ifCond .ne 6, 3) := by decide +kernel
theorem bd_57_12 : decode (bn_b 57) 12 = .ok (.bipush (-9), 2) := by decide +kernel
theorem bd_57_14 : decode (bn_b 57) 14 = .ok (.ireturn, 1) := by decide +kernel
theorem bd_57_15 : decode (bn_b 57) 15 = .ok (.aload_n 0, 1) := by decide +kernel
theorem bd_57_16 : decode (bn_b 57) 16 = .ok (.invokevirtual 118, 3) := by decide +kernel
theorem bd_57_19 : decode (bn_b 57) 19 = .ok (.aload_n 0, 1) := by decide +kernel
theorem bd_57_20 : decode (bn_b 57) 20 = .ok (.getfield 19, 3) := by decide +kernel
theorem bd_57_23 : decode (bn_b 57) 23 = .ok (.aload_n 0, 1) := by decide +kernel
theorem bd_57_24 : decode (bn_b 57) 24 = .ok (.getfield 19, 3) := by decide +kernel
theorem bd_57_27 : decode (bn_b 57) 27 = .ok (.getfield 55, 3) := by decide +kernel
theorem bd_57_30 : decode (bn_b 57) 30 = .ok (.ldc2_w 138, 3) := by decide +kernel
theorem bd_57_33 : decode (bn_b 57) 33 = .ok (.lmul, 1) := by decide +kernel
theorem bd_57_34 : decode (bn_b 57) 34 = .ok (.ldc2_w 140, 3) := by decide +kernel
theorem bd_57_37 : decode (bn_b 57) 37 = .ok (.ladd, 1) := by decide +kernel
theorem bd_57_38 : decode (bn_b 57) 38 = .ok (.putfield 55, 3) := by decide +kernel
theorem bd_57_41 : decode (bn_b 57) 41 = .ok (.aload_n 0, 1) := by decide +kernel
theorem bd_57_42 : decode (bn_b 57) 42 = .ok (.getfield 19, 3) := by decide +kernel
theorem bd_57_45 : decode (bn_b 57) 45 = .ok (.getfield 55, 3) := by decide +kernel
theorem bd_57_48 : decode (bn_b 57) 48 = .ok (.bipush 33, 2) := by decide +kernel
theorem bd_57_50 : decode (bn_b 57) 50 = .ok (.lushr, 1) := by decide +kernel
theorem bd_57_51 : decode (bn_b 57) 51 = .ok (.l2i, 1) := by decide +kernel
theorem bd_57_52 : decode (bn_b 57) 52 = .ok (.istore_n 2, 1) := by decide +kernel
theorem bd_57_53 : decode (bn_b 57) 53 = .ok (.aload_n 0, 1) := by decide +kernel
theorem bd_57_54 : decode (bn_b 57) 54 = .ok (.getfield 19, 3) := by decide +kernel
theorem bd_57_57 : decode (bn_b 57) 57 = .ok (.iload_n 2, 1) := by decide +kernel
theorem bd_57_58 : decode (bn_b 57) 58 = .ok (.iload_n 1, 1) := by decide +kernel
theorem bd_57_59 : decode (bn_b 57) 59 = .ok (.irem, 1) := by decide +kernel
theorem bd_57_60 : decode (bn_b 57) 60 = .ok (.invokevirtual 142, 3) := by decide +kernel
theorem bd_57_63 : decode (bn_b 57) 63 = .ok (.istore_n 3, 1) := by decide +kernel
theorem bd_57_64 : decode (bn_b 57) 64 = .ok (.aload_n 0, 1) := by decide +kernel
theorem bd_57_65 : decode (bn_b 57) 65 = .ok (.getfield 19, 3) := by decide +kernel
theorem bd_57_68 : decode (bn_b 57) 68 = .ok (.iload_n 3, 1) := by decide +kernel
theorem bd_57_69 : decode (bn_b 57) 69 = .ok (.invokevirtual 145, 3) := by decide +kernel
theorem bd_57_72 : decode (bn_b 57) 72 = .ok (.istore 4, 2) := by decide +kernel
theorem bd_57_74 : decode (bn_b 57) 74 = .ok (.iload 4, 2) := by decide +kernel
theorem bd_57_76 : decode (bn_b 57) 76 = .ok (.ifCond .ne 8, 3) := by decide +kernel
theorem bd_57_79 : decode (bn_b 57) 79 = .ok (.bipush (-9), 2) := by decide +kernel
theorem bd_57_81 : decode (bn_b 57) 81 = .ok (.goto 17, 3) := by decide +kernel
theorem bd_57_84 : decode (bn_b 57) 84 = .ok (.aload_n 0, 1) := by decide +kernel
theorem bd_57_85 : decode (bn_b 57) 85 = .ok (.getfield 19, 3) := by decide +kernel
theorem bd_57_88 : decode (bn_b 57) 88 = .ok (.iload_n 3, 1) := by decide +kernel
theorem bd_57_89 : decode (bn_b 57) 89 = .ok (.iload_n 2, 1) := by decide +kernel
theorem bd_57_90 : decode (bn_b 57) 90 = .ok (.iload_n 1, 1) := by decide +kernel
theorem bd_57_91 : decode (bn_b 57) 91 = .ok (.idiv, 1) := by decide +kernel
theorem bd_57_92 : decode (bn_b 57) 92 = .ok (.iload 4, 2) := by decide +kernel
theorem bd_57_94 : decode (bn_b 57) 94 = .ok (.irem, 1) := by decide +kernel
theorem bd_57_95 : decode (bn_b 57) 95 = .ok (.invokevirtual 148, 3) := by decide +kernel
theorem bd_57_98 : decode (bn_b 57) 98 = .ok (.istore 5, 2) := by decide +kernel
theorem bd_57_100 : decode (bn_b 57) 100 = .ok (.iload 5, 2) := by decide +kernel
theorem bd_57_102 : decode (bn_b 57) 102 = .ok (.ifCond .ge 6, 3) := by decide +kernel
theorem bd_57_105 : decode (bn_b 57) 105 = .ok (.bipush (-9), 2) := by decide +kernel
theorem bd_57_107 : decode (bn_b 57) 107 = .ok (.ireturn, 1) := by decide +kernel
theorem bd_57_108 : decode (bn_b 57) 108 = .ok (.aload_n 0, 1) := by decide +kernel
theorem bd_57_109 : decode (bn_b 57) 109 = .ok (.getfield 19, 3) := by decide +kernel
theorem bd_57_112 : decode (bn_b 57) 112 = .ok (.getfield 99, 3) := by decide +kernel
theorem bd_57_115 : decode (bn_b 57) 115 = .ok (.iload 5, 2) := by decide +kernel
theorem bd_57_117 : decode (bn_b 57) 117 = .ok (.iload_n 3, 1) := by decide +kernel
theorem bd_57_118 : decode (bn_b 57) 118 = .ok (.iastore, 1) := by decide +kernel
theorem bd_57_119 : decode (bn_b 57) 119 = .ok (.bipush 10, 2) := by decide +kernel
theorem bd_57_121 : decode (bn_b 57) 121 = .ok (.iload_n 3, 1) := by decide +kernel
theorem bd_57_122 : decode (bn_b 57) 122 = .ok (.imul, 1) := by decide +kernel
theorem bd_57_123 : decode (bn_b 57) 123 = .ok (.iload 5, 2) := by decide +kernel
theorem bd_57_125 : decode (bn_b 57) 125 = .ok (.iadd, 1) := by decide +kernel
theorem bd_57_126 : decode (bn_b 57) 126 = .ok (.ireturn, 1) := by decide +kernel
theorem bd_58_0 : decode (bn_b 58) 0 = .ok (.aload_n 0, 1) := by decide +kernel
theorem bd_58_1 : decode (bn_b 58) 1 = .ok (.getfield 34, 3) := by decide +kernel
theorem bd_58_4 : decode (bn_b 58) 4 = .ok (.ifCond .ne 6, 3) := by decide +kernel
theorem bd_58_7 : decode (bn_b 58) 7 = .ok (.bipush (-3), 2) := by decide +kernel
theorem bd_58_9 : decode (bn_b 58) 9 = .ok (.ireturn, 1) := by decide +kernel
theorem bd_58_10 : decode (bn_b 58) 10 = .ok (.aload_n 0, 1) := by decide +kernel
theorem bd_58_11 : decode (bn_b 58) 11 = .ok (.dup, 1) := by decide +kernel
theorem bd_58_12 : decode (bn_b 58) 12 = .ok (.getfield 34, 3) := by decide +kernel
theorem bd_58_15 : decode (bn_b 58) 15 = .ok (.iconst 1, 1) := by decide +kernel
theorem bd_58_16 : decode (bn_b 58) 16 = .ok (.isub, 1) := by decide +kernel
theorem bd_58_17 : decode (bn_b 58) 17 = .ok (.putfield 34, 3) := by decide +kernel
theorem bd_58_20 : decode (bn_b 58) 20 = .ok (.aload_n 0, 1) := by decide +kernel
theorem bd_58_21 : decode (bn_b 58) 21 = .ok (.getfield 19, 3) := by decide +kernel
theorem bd_58_24 : decode (bn_b 58) 24 = .ok (.aload_n 0, 1) := by decide +kernel
theorem bd_58_25 : decode (bn_b 58) 25 = .ok (.getfield 26, 3) := by decide +kernel
theorem bd_58_28 : decode (bn_b 58) 28 = .ok (.aload_n 0, 1) := by decide +kernel
theorem bd_58_29 : decode (bn_b 58) 29 = .ok (.getfield 30, 3) := by decide +kernel
theorem bd_58_32 : decode (bn_b 58) 32 = .ok (.aload_n 0, 1) := by decide +kernel
theorem bd_58_33 : decode (bn_b 58) 33 = .ok (.getfield 34, 3) := by decide +kernel
theorem bd_58_36 : decode (bn_b 58) 36 = .ok (.iadd, 1) := by decide +kernel
theorem bd_58_37 : decode (bn_b 58) 37 = .ok (.bipush 20, 2) := by decide +kernel
theorem bd_58_39 : decode (bn_b 58) 39 = .ok (.irem, 1) := by decide +kernel
theorem bd_58_40 : decode (bn_b 58) 40 = .ok (.aaload, 1) := by decide +kernel
theorem bd_58_41 : decode (bn_b 58) 41 = .ok (.invokevirtual 59, 3) := by decide +kernel
theorem bd_58_44 : decode (bn_b 58) 44 = .ok (.aload_n 0, 1) := by decide +kernel
theorem bd_58_45 : decode (bn_b 58) 45 = .ok (.getfield 34, 3) := by decide +kernel
theorem bd_58_48 : decode (bn_b 58) 48 = .ok (.ireturn, 1) := by decide +kernel
theorem bd_59_0 : decode (bn_b 59) 0 = .ok (.aload_n 0, 1) := by decide +kernel
theorem bd_59_1 : decode (bn_b 59) 1 = .ok (.getfield 19, 3) := by decide +kernel
theorem bd_59_4 : decode (bn_b 59) 4 = .ok (.getfield 55, 3) := by decide +kernel
theorem bd_59_7 : decode (bn_b 59) 7 = .ok (.lstore_n 3, 1) := by decide +kernel
theorem bd_59_8 : decode (bn_b 59) 8 = .ok (.aload_n 0, 1) := by decide +kernel
theorem bd_59_9 : decode (bn_b 59) 9 = .ok (.getfield 19, 3) := by decide +kernel
theorem bd_59_12 : decode (bn_b 59) 12 = .ok (.lload_n 1, 1) := by decide +kernel
theorem bd_59_13 : decode (bn_b 59) 13 = .ok (.putfield 55, 3) := by decide +kernel
theorem bd_59_16 : decode (bn_b 59) 16 = .ok (.lload_n 3, 1) := by decide +kernel
theorem bd_59_17 : decode (bn_b 59) 17 = .ok (.lreturn, 1) := by decide +kernel
theorem bd_60_0 : decode (bn_b 60) 0 = .ok (.aload_n 0, 1) := by decide +kernel
theorem bd_60_1 : decode (bn_b 60) 1 = .ok (.invokevirtual 152, 3) := by decide +kernel
theorem bd_60_4 : decode (bn_b 60) 4 = .ok (.ireturn, 1) := by decide +kernel
theorem bd_61_0 : decode (bn_b 61) 0 = .ok (.aload_n 0, 1) := by decide +kernel
theorem bd_61_1 : decode (bn_b 61) 1 = .ok (.invokevirtual 152, 3) := by decide +kernel
theorem bd_61_4 : decode (bn_b 61) 4 = .ok (.ifCond .gt 6, 3) := by decide +kernel
theorem bd_61_7 : decode (bn_b 61) 7 = .ok (.bipush (-9), 2) := by decide +kernel
theorem bd_61_9 : decode (bn_b 61) 9 = .ok (.ireturn, 1) := by decide +kernel
theorem bd_61_10 : decode (bn_b 61) 10 = .ok (.iconst 0, 1) := by decide +kernel
theorem bd_61_11 : decode (bn_b 61) 11 = .ok (.istore_n 1, 1) := by decide +kernel
theorem bd_61_12 : decode (bn_b 61) 12 = .ok (.iload_n 1, 1) := by decide +kernel
theorem bd_61_13 : decode (bn_b 61) 13 = .ok (.aload_n 0, 1) := by decide +kernel
theorem bd_61_14 : decode (bn_b 61) 14 = .ok (.getfield 19, 3) := by decide +kernel
theorem bd_61_17 : decode (bn_b 61) 17 = .ok (.getfield 66, 3) := by decide +kernel
theorem bd_61_20 : decode (bn_b 61) 20 = .ok (.if_icmp .ge 33, 3) := by decide +kernel
theorem bd_61_23 : decode (bn_b 61) 23 = .ok (.aload_n 0, 1) := by decide +kernel
theorem bd_61_24 : decode (bn_b 61) 24 = .ok (.getfield 19, 3) := by decide +kernel
theorem bd_61_27 : decode (bn_b 61) 27 = .ok (.iload_n 1, 1) := by decide +kernel
theorem bd_61_28 : decode (bn_b 61) 28 = .ok (.invokevirtual 80, 3) := by decide +kernel
theorem bd_61_31 : decode (bn_b 61) 31 = .ok (.ifCond .eq 16, 3) := by decide +kernel
theorem bd_61_34 : decode (bn_b 61) 34 = .ok (.aload_n 0, 1) := by decide +kernel
theorem bd_61_35 : decode (bn_b 61) 35 = .ok (.getfield 23, 3) := by decide +kernel
theorem bd_61_38 : decode (bn_b 61) 38 = .ok (.iload_n 1, 1) := by decide +kernel
theorem bd_61_39 : decode (bn_b 61) 39 = .ok (.invokevirtual 80, 3) := by decide +kernel
theorem bd_61_42 : decode (bn_b 61) 42 = .ok (.ifCond .ne 5, 3) := by decide +kernel
theorem bd_61_45 : decode (bn_b 61) 45 = .ok (.iload_n 1, 1) := by decide +kernel
theorem bd_61_46 : decode (bn_b 61) 46 = .ok (.ireturn, 1) := by decide +kernel
theorem bd_61_47 : decode (bn_b 61) 47 = .ok (.iinc 1 1, 3) := by decide +kernel
theorem bd_61_50 : decode (bn_b 61) 50 = .ok (.goto (-38), 3) := by decide +kernel
theorem bd_61_53 : decode (bn_b 61) 53 = .ok (.bipush (-9), 2) := by decide +kernel
theorem bd_61_55 : decode (bn_b 61) 55 = .ok (.ireturn, 1) := by decide +kernel
theorem bd_62_0 : decode (bn_b 62) 0 = .ok (.aload_n 0, 1) := by decide +kernel
theorem bd_62_1 : decode (bn_b 62) 1 = .ok (.getfield 19, 3) := by decide +kernel
theorem bd_62_4 : decode (bn_b 62) 4 = .ok (.invokevirtual 135, 3) := by decide +kernel
theorem bd_62_7 : decode (bn_b 62) 7 = .ok (.istore_n 1, 1) := by decide +kernel
theorem bd_62_8 : decode (bn_b 62) 8 = .ok (.iload_n 1, 1) := by decide +kernel
theorem bd_62_9 : decode (bn_b 62) 9 = .ok (.ifCond .eq 8, 3) := by decide +kernel
theorem bd_62_12 : decode (bn_b 62) 12 = .ok (.iload_n 1, 1) := by decide +kernel
theorem bd_62_13 : decode (bn_b 62) 13 = .ok (.iconst 3, 1) := by decide +kernel
theorem bd_62_14 : decode (bn_b 62) 14 = .ok (.if_icmp .le 6, 3) := by decide +kernel
theorem bd_62_17 : decode (bn_b 62) 17 = .ok (.bipush (-3), 2) := by decide +kernel
theorem bd_62_19 : decode (bn_b 62) 19 = .ok (.ireturn, 1) := by decide +kernel
theorem bd_62_20 : decode (bn_b 62) 20 = .ok (.iconst 0, 1) := by decide +kernel
theorem bd_62_21 : decode (bn_b 62) 21 = .ok (.istore_n 2, 1) := by decide +kernel
theorem bd_62_22 : decode (bn_b 62) 22 = .ok (.iload_n 2, 1) := by decide +kernel
theorem bd_62_23 : decode (bn_b 62) 23 = .ok (.sipush 200, 3) := by decide +kernel
theorem bd_62_26 : decode (bn_b 62) 26 = .ok (.if_icmp .ge 22, 3) := by decide +kernel
theorem bd_62_29 : decode (bn_b 62) 29 = .ok (.aload_n 0, 1) := by decide +kernel
theorem bd_62_30 : decode (bn_b 62) 30 = .ok (.getfield 19, 3) := by decide +kernel
theorem bd_62_33 : decode (bn_b 62) 33 = .ok (.iload_n 2, 1) := by decide +kernel
theorem bd_62_34 : decode (bn_b 62) 34 = .ok (.iconst 1, 1) := by decide +kernel
theorem bd_62_35 : decode (bn_b 62) 35 = .ok (.iadd, 1) := by decide +kernel
theorem bd_62_36 : decode (bn_b 62) 36 = .ok (.invokevirtual 155, 3) := by decide +kernel
theorem bd_62_39 : decode (bn_b 62) 39 = .ok (.ifCond .eq 9, 3) := by decide +kernel
theorem bd_62_42 : decode (bn_b 62) 42 = .ok (.iinc 2 1, 3) := by decide +kernel
theorem bd_62_45 : decode (bn_b 62) 45 = .ok (.goto (-23), 3) := by decide +kernel
theorem bd_62_48 : decode (bn_b 62) 48 = .ok (.iload_n 2, 1) := by decide +kernel
theorem bd_62_49 : decode (bn_b 62) 49 = .ok (.ireturn, 1) := by decide +kernel
theorem bd_63_0 : decode (bn_b 63) 0 = .ok (.aload_n 0, 1) := by decide +kernel
theorem bd_63_1 : decode (bn_b 63) 1 = .ok (.getfield 19, 3) := by decide +kernel
theorem bd_63_4 : decode (bn_b 63) 4 = .ok (.invokevirtual 158, 3) := by decide +kernel
theorem bd_63_7 : decode (bn_b 63) 7 = .ok (.istore_n 2, 1) := by decide +kernel
theorem bd_63_8 : decode (bn_b 63) 8 = .ok (.iconst 0, 1) := by decide +kernel
theorem bd_63_9 : decode (bn_b 63) 9 = .ok (.istore_n 3, 1) := by decide +kernel
theorem bd_63_10 : decode (bn_b 63) 10 = .ok (.iconst 1, 1) := by decide +kernel
theorem bd_63_11 : decode (bn_b 63) 11 = .ok (.istore 4, 2) := by decide +kernel
theorem bd_63_13 : decode (bn_b 63) 13 = .ok (.iload 4, 2) := by decide +kernel
theorem bd_63_15 : decode (bn_b 63) 15 = .ok (.iload_n 2, 1) := by decide +kernel
theorem bd_63_16 : decode (bn_b 63) 16 = .ok (.if_icmp .ge 32, 3) := by decide +kernel
theorem bd_63_19 : decode (bn_b 63) 19 = .ok (.aload_n 0, 1) := by decide +kernel
theorem bd_63_20 : decode (bn_b 63) 20 = .ok (.getfield 19, 3) := by decide +kernel
theorem bd_63_23 : decode (bn_b 63) 23 = .ok (.iload 4, 2) := by decide +kernel
theorem bd_63_25 : decode (bn_b 63) 25 = .ok (.invokevirtual 161, 3) := by decide +kernel
theorem bd_63_28 : decode (bn_b 63) 28 = .ok (.ifCond .ne 14, 3) := by decide +kernel
theorem bd_63_31 : decode (bn_b 63) 31 = .ok (.iload_n 3, 1) := by decide +kernel
theorem bd_63_32 : decode (bn_b 63) 32 = .ok (.iload_n 1, 1) := by decide +kernel
theorem bd_63_33 : decode (bn_b 63) 33 = .ok (.if_icmp .ne 6, 3) := by decide +kernel
theorem bd_63_36 : decode (bn_b 63) 36 = .ok (.iload 4, 2) := by decide +kernel
theorem bd_63_38 : decode (bn_b 63) 38 = .ok (.ireturn, 1) := by decide +kernel
theorem bd_63_39 : decode (bn_b 63) 39 = .ok (.iinc 3 1, 3) := by decide +kernel
theorem bd_63_42 : decode (bn_b 63) 42 = .ok (.iinc 4 1, 3) := by decide +kernel
theorem bd_63_45 : decode (bn_b 63) 45 = .ok (.goto (-32), 3) := by decide +kernel
theorem bd_63_48 : decode (bn_b 63) 48 = .ok (.bipush (-9), 2) := by decide +kernel
theorem bd_63_50 : decode (bn_b 63) 50 = .ok (.ireturn, 1) := by decide +kernel
theorem bd_64_0 : decode (bn_b 64) 0 = .ok (.iload_n 1, 1) := by decide +kernel
theorem bd_64_1 : decode (bn_b 64) 1 = .ok (.iconst 1, 1) := by decide +kernel
theorem bd_64_2 : decode (bn_b 64) 2 = .ok (.if_icmp .lt 30, 3) := by decide +kernel
theorem bd_64_5 : decode (bn_b 64) 5 = .ok (.iload_n 1, 1) := by decide +kernel
theorem bd_64_6 : decode (bn_b 64) 6 = .ok (.bipush 99, 2) := by decide +kernel
theorem bd_64_8 : decode (bn_b 64) 8 = .ok (.if_icmp .gt 24, 3) := by decide +kernel
theorem bd_64_11 : decode (bn_b 64) 11 = .ok (.iload_n 2, 1) := by decide +kernel
theorem bd_64_12 : decode (bn_b 64) 12 = .ok (.iconst 1, 1) := by decide +kernel
theorem bd_64_13 : decode (bn_b 64) 13 = .ok (.if_icmp .lt 19, 3) := by decide +kernel
theorem bd_64_16 : decode (bn_b 64) 16 = .ok (.iload_n 2, 1) := by decide +kernel
theorem bd_64_17 : decode (bn_b 64) 17 = .ok (.bipush 99, 2) := by decide +kernel
theorem bd_64_19 : decode (bn_b 64) 19 = .ok (.if_icmp .gt 13, 3) := by decide +kernel
theorem bd_64_22 : decode (bn_b 64) 22 = .ok (.iload_n 3, 1) := by decide +kernel
theorem bd_64_23 : decode (bn_b 64) 23 = .ok (.ifCond .lt 9, 3) := by decide +kernel
theorem bd_64_26 : decode (bn_b 64) 26 = .ok (.iload_n 3, 1) := by decide +kernel
theorem bd_64_27 : decode (bn_b 64) 27 = .ok (.bipush 10, 2) := by decide +kernel
theorem bd_64_29 : decode (bn_b 64) 29 = .ok (.if_icmp .le 6, 3) := by decide +kernel
theorem bd_64_32 : decode (bn_b 64) 32 = .ok (.bipush (-2), 2) := by decide +kernel
theorem bd_64_34 : decode (bn_b 64) 34 = .ok (.ireturn, 1) := by decide +kernel
theorem bd_64_35 : decode (bn_b 64) 35 = .ok (.iconst 0, 1) := by decide +kernel
theorem bd_64_36 : decode (bn_b 64) 36 = .ok (.istore 5, 2) := by decide +kernel
theorem bd_64_38 : decode (bn_b 64) 38 = .ok (.iconst 1, 1) := by decide +kernel
theorem bd_64_39 : decode (bn_b 64) 39 = .ok (.istore 6, 2) := by decide +kernel
theorem bd_64_41 : decode (bn_b 64) 41 = .ok (.iload 6, 2) := by decide +kernel
theorem bd_64_43 : decode (bn_b 64) 43 = .ok (.iload_n 2, 1) := by decide +kernel
theorem bd_64_44 : decode (bn_b 64) 44 = .ok (.if_icmp .gt 32, 3) := by decide +kernel
theorem bd_64_47 : decode (bn_b 64) 47 = .ok (.iload 6, 2) := by decide +kernel
theorem bd_64_49 : decode (bn_b 64) 49 = .ok (.invokestatic 125, 3) := by decide +kernel
theorem bd_64_52 : decode (bn_b 64) 52 = .ok (.ifCond .eq 18, 3) := by decide +kernel
theorem bd_64_55 : decode (bn_b 64) 55 = .ok (.iload 6, 2) := by decide +kernel
theorem bd_64_57 : decode (bn_b 64) 57 = .ok (.invokestatic 128, 3) := by decide +kernel
theorem bd_64_60 : decode (bn_b 64) 60 = .ok (.iload_n 1, 1) := by decide +kernel
theorem bd_64_61 : decode (bn_b 64) 61 = .ok (.if_icmp .ne 9, 3) := by decide +kernel
theorem bd_64_64 : decode (bn_b 64) 64 = .ok (.iload 5, 2) := by decide +kernel
theorem bd_64_66 : decode (bn_b 64) 66 = .ok (.iload_n 3, 1) := by decide +kernel
theorem bd_64_67 : decode (bn_b 64) 67 = .ok (.iadd, 1) := by decide +kernel
theorem bd_64_68 : decode (bn_b 64) 68 = .ok (.istore 5, 2) := by decide +kernel
theorem bd_64_70 : decode (bn_b 64) 70 = .ok (.iinc 6 1, 3) := by decide +kernel
theorem bd_64_73 : decode (bn_b 64) 73 = .ok (.goto (-32), 3) := by decide +kernel
theorem bd_64_76 : decode (bn_b 64) 76 = .ok (.iload 5, 2) := by decide +kernel
theorem bd_64_78 : decode (bn_b 64) 78 = .ok (.istore 6, 2) := by decide +kernel
theorem bd_64_80 : decode (bn_b 64) 80 = .ok (.iload_n 1, 1) := by decide +kernel
theorem bd_64_81 : decode (bn_b 64) 81 = .ok (.iload_n 2, 1) := by decide +kernel
theorem bd_64_82 : decode (bn_b 64) 82 = .ok (.if_icmp .gt 24, 3) := by decide +kernel
theorem bd_64_85 : decode (bn_b 64) 85 = .ok (.iload 6, 2) := by decide +kernel
theorem bd_64_87 : decode (bn_b 64) 87 = .ok (.iload_n 1, 1) := by decide +kernel
theorem bd_64_88 : decode (bn_b 64) 88 = .ok (.invokestatic 125, 3) := by decide +kernel
theorem bd_64_91 : decode (bn_b 64) 91 = .ok (.ifCond .eq 10, 3) := by decide +kernel
theorem bd_64_94 : decode (bn_b 64) 94 = .ok (.bipush 10, 2) := by decide +kernel
theorem bd_64_96 : decode (bn_b 64) 96 = .ok (.iload_n 3, 1) := by decide +kernel
theorem bd_64_97 : decode (bn_b 64) 97 = .ok (.isub, 1) := by decide +kernel
theorem bd_64_98 : decode (bn_b 64) 98 = .ok (.goto 5, 3) := by decide +kernel
theorem bd_64_101 : decode (bn_b 64) 101 = .ok (.bipush 10, 2) := by decide +kernel
theorem bd_64_103 : decode (bn_b 64) 103 = .ok (.iadd, 1) := by decide +kernel
theorem bd_64_104 : decode (bn_b 64) 104 = .ok (.istore 6, 2) := by decide +kernel
theorem bd_64_106 : decode (bn_b 64) 106 = .ok (.iload 6, 2) := by decide +kernel
theorem bd_64_108 : decode (bn_b 64) 108 = .ok (.ifCond .ne 6, 3) := by decide +kernel
theorem bd_64_111 : decode (bn_b 64) 111 = .ok (.bipush (-3), 2) := by decide +kernel
theorem bd_64_113 : decode (bn_b 64) 113 = .ok (.ireturn, 1) := by decide +kernel
theorem bd_64_114 : decode (bn_b 64) 114 = .ok (.iload 5, 2) := by decide +kernel
theorem bd_64_116 : decode (bn_b 64) 116 = .ok (.i2l, 1) := by decide +kernel
theorem bd_64_117 : decode (bn_b 64) 117 = .ok (.iload 6, 2) := by decide +kernel
theorem bd_64_119 : decode (bn_b 64) 119 = .ok (.i2l, 1) := by decide +kernel
theorem bd_64_120 : decode (bn_b 64) 120 = .ok (.iload 4, 2) := by decide +kernel
theorem bd_64_122 : decode (bn_b 64) 122 = .ok (.invokestatic 164, 3) := by decide +kernel
theorem bd_64_125 : decode (bn_b 64) 125 = .ok (.l2i, 1) := by decide +kernel
theorem bd_64_126 : decode (bn_b 64) 126 = .ok (.ireturn, 1) := by decide +kernel
theorem bd_65_0 : decode (bn_b 65) 0 = .ok (.iload_n 1, 1) := by decide +kernel
theorem bd_65_1 : decode (bn_b 65) 1 = .ok (.ifCond .lt 9, 3) := by decide +kernel
theorem bd_65_4 : decode (bn_b 65) 4 = .ok (.iload_n 1, 1) := by decide +kernel
theorem bd_65_5 : decode (bn_b 65) 5 = .ok (.bipush 10, 2) := by decide +kernel
theorem bd_65_7 : decode (bn_b 65) 7 = .ok (.if_icmp .le 7, 3) := by decide +kernel
theorem bd_65_10 : decode (bn_b 65) 10 = .ok (.ldc2_w 168, 3) := by decide +kernel
theorem bd_65_13 : decode (bn_b 65) 13 = .ok (.lreturn, 1) := by decide +kernel
theorem bd_65_14 : decode (bn_b 65) 14 = .ok (.aload_n 0, 1) := by decide +kernel
theorem bd_65_15 : decode (bn_b 65) 15 = .ok (.getfield 19, 3) := by decide +kernel
theorem bd_65_18 : decode (bn_b 65) 18 = .ok (.invokevirtual 135, 3) := by decide +kernel
theorem bd_65_21 : decode (bn_b 65) 21 = .ok (.ifCond .ne 7, 3) := by decide +kernel
theorem bd_65_24 : decode (bn_b 65) 24 = .ok (.ldc2_w 170, 3) := by decide +kernel
theorem bd_65_27 : decode (bn_b 65) 27 = .ok (.lreturn, 1) := by decide +kernel
theorem bd_65_28 : decode (bn_b 65) 28 = .ok (.aload_n 0, 1) := by decide +kernel
theorem bd_65_29 : decode (bn_b 65) 29 = .ok (.invokevirtual 152, 3) := by decide +kernel
theorem bd_65_32 : decode (bn_b 65) 32 = .ok (.istore_n 3, 1) := by decide +kernel
theorem bd_65_33 : decode (bn_b 65) 33 = .ok (.iload_n 3, 1) := by decide +kernel
theorem bd_65_34 : decode (bn_b 65) 34 = .ok (.bipush (-9), 2) := by decide +kernel
theorem bd_65_36 : decode (bn_b 65) 36 = .ok (.if_icmp .ne 9, 3) := by decide +kernel
theorem bd_65_39 : decode (bn_b 65) 39 = .ok (.sipush 199, 3) := by decide +kernel
theorem bd_65_42 : decode (bn_b 65) 42 = .ok (.goto 6, 3) := by decide +kernel
theorem bd_65_45 : decode (bn_b 65) 45 = .ok (.iload_n 3, 1) := by decide +kernel
theorem bd_65_46 : decode (bn_b 65) 46 = .ok (.iconst 1, 1) := by decide +kernel
theorem bd_65_47 : decode (bn_b 65) 47 = .ok (.isub, 1) := by decide +kernel
theorem bd_65_48 : decode (bn_b 65) 48 = .ok (.istore 4, 2) := by decide +kernel
theorem bd_65_50 : decode (bn_b 65) 50 = .ok (.lconst 1, 1) := by decide +kernel
theorem bd_65_51 : decode (bn_b 65) 51 = .ok (.lstore 5, 2) := by decide +kernel
theorem bd_65_53 : decode (bn_b 65) 53 = .ok (.lconst 1, 1) := by decide +kernel
theorem bd_65_54 : decode (bn_b 65) 54 = .ok (.lstore 7, 2) := by decide +kernel
theorem bd_65_56 : decode (bn_b 65) 56 = .ok (.iconst 0, 1) := by decide +kernel
theorem bd_65_57 : decode (bn_b 65) 57 = .ok (.istore 9, 2) := by decide +kernel
theorem bd_65_59 : decode (bn_b 65) 59 = .ok (.iload 9, 2) := by decide +kernel
theorem bd_65_61 : decode (bn_b 65) 61 = .ok (.iload 4, 2) := by decide +kernel
theorem bd_65_63 : decode (bn_b 65) 63 = .ok (.if_icmp .ge 34, 3) := by decide +kernel
theorem bd_65_66 : decode (bn_b 65) 66 = .ok (.iload 9, 2) := by decide +kernel
theorem bd_65_68 : decode (bn_b 65) 68 = .ok (.bipush 18, 2) := by decide +kernel
theorem bd_65_70 : decode (bn_b 65) 70 = .ok (.if_icmp .ge 27, 3) := by decide +kernel
theorem bd_65_73 : decode (bn_b 65) 73 = .ok (.lload 5, 2) := by decide +kernel
theorem bd_65_75 : decode (bn_b 65) 75 = .ok (.ldc2_w 172, 3) := by decide +kernel
theorem bd_65_78 : decode (bn_b 65) 78 = .ok (.lmul, 1) := by decide +kernel
theorem bd_65_79 : decode (bn_b 65) 79 = .ok (.lstore 5, 2) := by decide +kernel
theorem bd_65_81 : decode (bn_b 65) 81 = .ok (.lload 7, 2) := by decide +kernel
theorem bd_65_83 : decode (bn_b 65) 83 = .ok (.bipush 10, 2) := by decide +kernel
theorem bd_65_85 : decode (bn_b 65) 85 = .ok (.iload_n 1, 1) := by decide +kernel
theorem bd_65_86 : decode (bn_b 65) 86 = .ok (.isub, 1) := by decide +kernel
theorem bd_65_87 : decode (bn_b 65) 87 = .ok (.i2l, 1) := by decide +kernel
theorem bd_65_88 : decode (bn_b 65) 88 = .ok (.lmul, 1) := by decide +kernel
theorem bd_65_89 : decode (bn_b 65) 89 = .ok (.lstore 7, 2) := by decide +kernel
theorem bd_65_91 : decode (bn_b 65) 91 = .ok (.iinc 9 1, 3) := by decide +kernel
theorem bd_65_94 : decode (bn_b 65) 94 = .ok (.goto (-35), 3) := by decide +kernel
theorem bd_65_97 : decode (bn_b 65) 97 = .ok (.lload 5, 2) := by decide +kernel
theorem bd_65_99 : decode (bn_b 65) 99 = .ok (.lload 7, 2) := by decide +kernel
theorem bd_65_101 : decode (bn_b 65) 101 = .ok (.lsub, 1) := by decide +kernel
theorem bd_65_102 : decode (bn_b 65) 102 = .ok (.lload 5, 2) := by decide +kernel
theorem bd_65_104 : decode (bn_b 65) 104 = .ok (.iload_n 2, 1) := by decide +kernel
theorem bd_65_105 : decode (bn_b 65) 105 = .ok (.invokestatic 164, 3) := by decide +kernel
theorem bd_65_108 : decode (bn_b 65) 108 = .ok (.lreturn, 1) := by decide +kernel
theorem bd_66_0 : decode (bn_b 66) 0 = .ok (.iload_n 1, 1) := by decide +kernel
theorem bd_66_1 : decode (bn_b 66) 1 = .ok (.ifCond .lt 8, 3) := by decide +kernel
theorem bd_66_4 : decode (bn_b 66) 4 = .ok (.iload_n 1, 1) := by decide +kernel
theorem bd_66_5 : decode (bn_b 66) 5 = .ok (.iconst 2, 1) := by decide +kernel
theorem bd_66_6 : decode (bn_b 66) 6 = .ok (.if_icmp .lt 5, 3) := by decide +kernel
theorem bd_66_9 : decode (bn_b 66) 9 = .ok (.iconst (-1), 1) := by decide +kernel
theorem bd_66_10 : decode (bn_b 66) 10 = .ok (.ireturn, 1) := by decide +kernel
theorem bd_66_11 : decode (bn_b 66) 11 = .ok (.aload_n 0, 1) := by decide +kernel
theorem bd_66_12 : decode (bn_b 66) 12 = .ok (.getfield 37, 3) := by decide +kernel
theorem bd_66_15 : decode (bn_b 66) 15 = .ok (.iload_n 1, 1) := by decide +kernel
theorem bd_66_16 : decode (bn_b 66) 16 = .ok (.aaload, 1) := by decide +kernel
theorem bd_66_17 : decode (bn_b 66) 17 = .ok (.aload_n 0, 1) := by decide +kernel
theorem bd_66_18 : decode (bn_b 66) 18 = .ok (.getfield 19, 3) := by decide +kernel
theorem bd_66_21 : decode (bn_b 66) 21 = .ok (.invokevirtual 59, 3) := by decide +kernel
theorem bd_66_24 : decode (bn_b 66) 24 = .ok (.aload_n 0, 1) := by decide +kernel
theorem bd_66_25 : decode (bn_b 66) 25 = .ok (.getfield 40, 3) := by decide +kernel
theorem bd_66_28 : decode (bn_b 66) 28 = .ok (.iload_n 1, 1) := by decide +kernel
theorem bd_66_29 : decode (bn_b 66) 29 = .ok (.iconst 1, 1) := by decide +kernel
theorem bd_66_30 : decode (bn_b 66) 30 = .ok (.bastore, 1) := by decide +kernel
theorem bd_66_31 : decode (bn_b 66) 31 = .ok (.aload_n 0, 1) := by decide +kernel
theorem bd_66_32 : decode (bn_b 66) 32 = .ok (.getfield 19, 3) := by decide +kernel
theorem bd_66_35 : decode (bn_b 66) 35 = .ok (.getfield 174, 3) := by decide +kernel
theorem bd_66_38 : decode (bn_b 66) 38 = .ok (.ireturn, 1) := by decide +kernel
theorem bd_67_0 : decode (bn_b 67) 0 = .ok (.iload_n 1, 1) := by decide +kernel
theorem bd_67_1 : decode (bn_b 67) 1 = .ok (.ifCond .lt 8, 3) := by decide +kernel
theorem bd_67_4 : decode (bn_b 67) 4 = .ok (.iload_n 1, 1) := by decide +kernel
theorem bd_67_5 : decode (bn_b 67) 5 = .ok (.iconst 2, 1) := by decide +kernel
theorem bd_67_6 : decode (bn_b 67) 6 = .ok (.if_icmp .lt 5, 3) := by decide +kernel
theorem bd_67_9 : decode (bn_b 67) 9 = .ok (.iconst (-1), 1) := by decide +kernel
theorem bd_67_10 : decode (bn_b 67) 10 = .ok (.ireturn, 1) := by decide +kernel
theorem bd_67_11 : decode (bn_b 67) 11 = .ok (.aload_n 0, 1) := by decide +kernel
theorem bd_67_12 : decode (bn_b 67) 12 = .ok (.getfield 40, 3) := by decide +kernel
theorem bd_67_15 : decode (bn_b 67) 15 = .ok (.iload_n 1, 1) := by decide +kernel
theorem bd_67_16 : decode (bn_b 67) 16 = .ok (.baload, 1) := by decide +kernel
theorem bd_67_17 : decode (bn_b 67) 17 = .ok (.ifCond .ne 6, 3) := by decide +kernel
theorem bd_67_20 : decode (bn_b 67) 20 = .ok (.bipush (-3), 2) := by decide +kernel
theorem bd_67_22 : decode (bn_b 67) 22 = .ok (.ireturn, 1) := by decide +kernel
theorem bd_67_23 : decode (bn_b 67) 23 = .ok (.aload_n 0, 1) := by decide +kernel
theorem bd_67_24 : decode (bn_b 67) 24 = .ok (.getfield 19, 3) := by decide +kernel
theorem bd_67_27 : decode (bn_b 67) 27 = .ok (.aload_n 0, 1) := by decide +kernel
theorem bd_67_28 : decode (bn_b 67) 28 = .ok (.getfield 37, 3) := by decide +kernel
theorem bd_67_31 : decode (bn_b 67) 31 = .ok (.iload_n 1, 1) := by decide +kernel
theorem bd_67_32 : decode (bn_b 67) 32 = .ok (.aaload, 1) := by decide +kernel
theorem bd_67_33 : decode (bn_b 67) 33 = .ok (.invokevirtual 59, 3) := by decide +kernel
theorem bd_67_36 : decode (bn_b 67) 36 = .ok (.aload_n 0, 1) := by decide +kernel
theorem bd_67_37 : decode (bn_b 67) 37 = .ok (.invokevirtual 63, 3) := by decide +kernel
theorem bd_67_40 : decode (bn_b 67) 40 = .ok (.aload_n 0, 1) := by decide +kernel
theorem bd_67_41 : decode (bn_b 67) 41 = .ok (.getfield 19, 3) := by decide +kernel
theorem bd_67_44 : decode (bn_b 67) 44 = .ok (.getfield 174, 3) := by decide +kernel
theorem bd_67_47 : decode (bn_b 67) 47 = .ok (.ireturn, 1) := by decide +kernel
theorem bd_68_0 : decode (bn_b 68) 0 = .ok (.iload_n 1, 1) := by decide +kernel
theorem bd_68_1 : decode (bn_b 68) 1 = .ok (.tableswitch 132 0 9 #[55, 63, 71, 79, 87, 95, 103, 111, 116, 124], 55) := by decide +kernel
theorem bd_68_56 : decode (bn_b 68) 56 = .ok (.aload_n 0, 1) := by decide +kernel
theorem bd_68_57 : decode (bn_b 68) 57 = .ok (.getfield 12, 3) := by decide +kernel
theorem bd_68_60 : decode (bn_b 68) 60 = .ok (.getfield 44, 3) := by decide +kernel
theorem bd_68_63 : decode (bn_b 68) 63 = .ok (.ireturn, 1) := by decide +kernel
theorem bd_68_64 : decode (bn_b 68) 64 = .ok (.aload_n 0, 1) := by decide +kernel
theorem bd_68_65 : decode (bn_b 68) 65 = .ok (.getfield 19, 3) := by decide +kernel
theorem bd_68_68 : decode (bn_b 68) 68 = .ok (.getfield 66, 3) := by decide +kernel
theorem bd_68_71 : decode (bn_b 68) 71 = .ok (.ireturn, 1) := by decide +kernel
theorem bd_68_72 : decode (bn_b 68) 72 = .ok (.aload_n 0, 1) := by decide +kernel
theorem bd_68_73 : decode (bn_b 68) 73 = .ok (.getfield 19, 3) := by decide +kernel
theorem bd_68_76 : decode (bn_b 68) 76 = .ok (.getfield 69, 3) := by decide +kernel
theorem bd_68_79 : decode (bn_b 68) 79 = .ok (.ireturn, 1) := by decide +kernel
theorem bd_68_80 : decode (bn_b 68) 80 = .ok (.aload_n 0, 1) := by decide +kernel
theorem bd_68_81 : decode (bn_b 68) 81 = .ok (.getfield 19, 3) := by decide +kernel
theorem bd_68_84 : decode (bn_b 68) 84 = .ok (.invokevirtual 177, 3) := by decide +kernel
theorem bd_68_87 : decode (bn_b 68) 87 = .ok (.ireturn, 1) := by decide +kernel
theorem bd_68_88 : decode (bn_b 68) 88 = .ok (.aload_n 0, 1) := by decide +kernel
theorem bd_68_89 : decode (bn_b 68) 89 = .ok (.getfield 19, 3) := by decide +kernel
theorem bd_68_92 : decode (bn_b 68) 92 = .ok (.getfield 174, 3) := by decide +kernel
theorem bd_68_95 : decode (bn_b 68) 95 = .ok (.ireturn, 1) := by decide +kernel
theorem bd_68_96 : decode (bn_b 68) 96 = .ok (.aload_n 0, 1) := by decide +kernel
theorem bd_68_97 : decode (bn_b 68) 97 = .ok (.getfield 19, 3) := by decide +kernel
theorem bd_68_100 : decode (bn_b 68) 100 = .ok (.invokevirtual 180, 3) := by decide +kernel
theorem bd_68_103 : decode (bn_b 68) 103 = .ok (.ireturn, 1) := by decide +kernel
theorem bd_68_104 : decode (bn_b 68) 104 = .ok (.aload_n 0, 1) := by decide +kernel
theorem bd_68_105 : decode (bn_b 68) 105 = .ok (.getfield 19, 3) := by decide +kernel
theorem bd_68_108 : decode (bn_b 68) 108 = .ok (.invokevirtual 183, 3) := by decide +kernel
theorem bd_68_111 : decode (bn_b 68) 111 = .ok (.ireturn, 1) := by decide +kernel
theorem bd_68_112 : decode (bn_b 68) 112 = .ok (.aload_n 0, 1) := by decide +kernel
theorem bd_68_113 : decode (bn_b 68) 113 = .ok (.getfield 34, 3) := by decide +kernel
theorem bd_68_116 : decode (bn_b 68) 116 = .ok (.ireturn, 1) := by decide +kernel
theorem bd_68_117 : decode (bn_b 68) 117 = .ok (.aload_n 0, 1) := by decide +kernel
theorem bd_68_118 : decode (bn_b 68) 118 = .ok (.getfield 19, 3) := by decide +kernel
theorem bd_68_121 : decode (bn_b 68) 121 = .ok (.invokevirtual 186, 3) := by decide +kernel
theorem bd_68_124 : decode (bn_b 68) 124 = .ok (.ireturn, 1) := by decide +kernel
theorem bd_68_125 : decode (bn_b 68) 125 = .ok (.aload_n 0, 1) := by decide +kernel
theorem bd_68_126 : decode (bn_b 68) 126 = .ok (.getfield 19, 3) := by decide +kernel
theorem bd_68_129 : decode (bn_b 68) 129 = .ok (.getfield 189, 3) := by decide +kernel
theorem bd_68_132 : decode (bn_b 68) 132 = .ok (.ireturn, 1) := by decide +kernel
theorem bd_68_133 : decode (bn_b 68) 133 = .ok (.bipush (-2), 2) := by decide +kernel
theorem bd_68_135 : decode (bn_b 68) 135 = .ok (.ireturn, 1) := by decide +kernel
theorem bd_69_0 : decode (bn_b 69) 0 = .ok (.aload_n 0, 1) := by decide +kernel
theorem bd_69_1 : decode (bn_b 69) 1 = .ok (.getfield 34, 3) := by decide +kernel
theorem bd_69_4 : decode (bn_b 69) 4 = .ok (.bipush 20, 2) := by decide +kernel
theorem bd_69_6 : decode (bn_b 69) 6 = .ok (.if_icmp .ne 26, 3) := by decide +kernel
theorem bd_69_9 : decode (bn_b 69) 9 = .ok (.aload_n 0, 1) := by decide +kernel
theorem bd_69_10 : decode (bn_b 69) 10 = .ok (.aload_n 0, 1) := by decide +kernel
theorem bd_69_11 : decode (bn_b 69) 11 = .ok (.getfield 30, 3) := by decide +kernel
theorem bd_69_14 : decode (bn_b 69) 14 = .ok (.iconst 1, 1) := by decide +kernel
theorem bd_69_15 : decode (bn_b 69) 15 = .ok (.iadd, 1) := by decide +kernel
theorem bd_69_16 : decode (bn_b 69) 16 = .ok (.bipush 20, 2) := by decide +kernel
theorem bd_69_18 : decode (bn_b 69) 18 = .ok (.irem, 1) := by decide +kernel
theorem bd_69_19 : decode (bn_b 69) 19 = .ok (.putfield 30, 3) := by decide +kernel
theorem bd_69_22 : decode (bn_b 69) 22 = .ok (.aload_n 0, 1) := by decide +kernel
theorem bd_69_23 : decode (bn_b 69) 23 = .ok (.dup, 1) := by decide +kernel
theorem bd_69_24 : decode (bn_b 69) 24 = .ok (.getfield 34, 3) := by decide +kernel
theorem bd_69_27 : decode (bn_b 69) 27 = .ok (.iconst 1, 1) := by decide +kernel
theorem bd_69_28 : decode (bn_b 69) 28 = .ok (.isub, 1) := by decide +kernel
theorem bd_69_29 : decode (bn_b 69) 29 = .ok (.putfield 34, 3) := by decide +kernel
theorem bd_69_32 : decode (bn_b 69) 32 = .ok (.aload_n 0, 1) := by decide +kernel
theorem bd_69_33 : decode (bn_b 69) 33 = .ok (.getfield 26, 3) := by decide +kernel
theorem bd_69_36 : decode (bn_b 69) 36 = .ok (.aload_n 0, 1) := by decide +kernel
theorem bd_69_37 : decode (bn_b 69) 37 = .ok (.getfield 30, 3) := by decide +kernel
theorem bd_69_40 : decode (bn_b 69) 40 = .ok (.aload_n 0, 1) := by decide +kernel
theorem bd_69_41 : decode (bn_b 69) 41 = .ok (.getfield 34, 3) := by decide +kernel
theorem bd_69_44 : decode (bn_b 69) 44 = .ok (.iadd, 1) := by decide +kernel
theorem bd_69_45 : decode (bn_b 69) 45 = .ok (.bipush 20, 2) := by decide +kernel
theorem bd_69_47 : decode (bn_b 69) 47 = .ok (.irem, 1) := by decide +kernel
theorem bd_69_48 : decode (bn_b 69) 48 = .ok (.aaload, 1) := by decide +kernel
theorem bd_69_49 : decode (bn_b 69) 49 = .ok (.aload_n 0, 1) := by decide +kernel
theorem bd_69_50 : decode (bn_b 69) 50 = .ok (.getfield 19, 3) := by decide +kernel
theorem bd_69_53 : decode (bn_b 69) 53 = .ok (.invokevirtual 59, 3) := by decide +kernel
theorem bd_69_56 : decode (bn_b 69) 56 = .ok (.aload_n 0, 1) := by decide +kernel
theorem bd_69_57 : decode (bn_b 69) 57 = .ok (.dup, 1) := by decide +kernel
theorem bd_69_58 : decode (bn_b 69) 58 = .ok (.getfield 34, 3) := by decide +kernel
theorem bd_69_61 : decode (bn_b 69) 61 = .ok (.iconst 1, 1) := by decide +kernel
theorem bd_69_62 : decode (bn_b 69) 62 = .ok (.iadd, 1) := by decide +kernel
theorem bd_69_63 : decode (bn_b 69) 63 = .ok (.putfield 34, 3) := by decide +kernel
theorem bd_69_66 : decode (bn_b 69) 66 = .ok (.return_, 1) := by decide +kernel
theorem bd_70_0 : decode (bn_b 70) 0 = .ok (.aload_n 0, 1) := by decide +kernel
theorem bd_70_1 : decode (bn_b 70) 1 = .ok (.iconst 0, 1) := by decide +kernel
theorem bd_70_2 : decode (bn_b 70) 2 = .ok (.putfield 30, 3) := by decide +kernel
theorem bd_70_5 : decode (bn_b 70) 5 = .ok (.aload_n 0, 1) := by decide +kernel
theorem bd_70_6 : decode (bn_b 70) 6 = .ok (.iconst 0, 1) := by decide +kernel
theorem bd_70_7 : decode (bn_b 70) 7 = .ok (.putfield 34, 3) := by decide +kernel
theorem bd_70_10 : decode (bn_b 70) 10 = .ok (.return_, 1) := by decide +kernel
theorem bd_71_0 : decode (bn_b 71) 0 = .ok (.aload_n 0, 1) := by decide +kernel
theorem bd_71_1 : decode (bn_b 71) 1 = .ok (.getfield 19, 3) := by decide +kernel
theorem bd_71_4 : decode (bn_b 71) 4 = .ok (.invokevirtual 135, 3) := by decide +kernel
theorem bd_71_7 : decode (bn_b 71) 7 = .ok (.ifCond .ne 5, 3) := by decide +kernel
theorem bd_71_10 : decode (bn_b 71) 10 = .ok (.iconst 0, 1) := by decide +kernel
theorem bd_71_11 : decode (bn_b 71) 11 = .ok (.ireturn, 1) := by decide +kernel
theorem bd_71_12 : decode (bn_b 71) 12 = .ok (.aload_n 0, 1) := by decide +kernel
theorem bd_71_13 : decode (bn_b 71) 13 = .ok (.getfield 23, 3) := by decide +kernel
theorem bd_71_16 : decode (bn_b 71) 16 = .ok (.aload_n 0, 1) := by decide +kernel
theorem bd_71_17 : decode (bn_b 71) 17 = .ok (.getfield 19, 3) := by decide +kernel
theorem bd_71_20 : decode (bn_b 71) 20 = .ok (.invokevirtual 59, 3) := by decide +kernel
theorem bd_71_23 : decode (bn_b 71) 23 = .ok (.iconst 1, 1) := by decide +kernel
theorem bd_71_24 : decode (bn_b 71) 24 = .ok (.istore_n 1, 1) := by decide +kernel
theorem bd_71_25 : decode (bn_b 71) 25 = .ok (.iload_n 1, 1) := by decide +kernel
theorem bd_71_26 : decode (bn_b 71) 26 = .ok (.sipush 200, 3) := by decide +kernel
theorem bd_71_29 : decode (bn_b 71) 29 = .ok (.if_icmp .gt 28, 3) := by decide +kernel
theorem bd_71_32 : decode (bn_b 71) 32 = .ok (.aload_n 0, 1) := by decide +kernel
theorem bd_71_33 : decode (bn_b 71) 33 = .ok (.getfield 23, 3) := by decide +kernel
theorem bd_71_36 : decode (bn_b 71) 36 = .ok (.invokevirtual 192, 3) := by decide +kernel
theorem bd_71_39 : decode (bn_b 71) 39 = .ok (.aload_n 0, 1) := by decide +kernel
theorem bd_71_40 : decode (bn_b 71) 40 = .ok (.getfield 23, 3) := by decide +kernel
theorem bd_71_43 : decode (bn_b 71) 43 = .ok (.invokevirtual 131, 3) := by decide +kernel
theorem bd_71_46 : decode (bn_b 71) 46 = .ok (.ifCond .eq 5, 3) := by decide +kernel
theorem bd_71_49 : decode (bn_b 71) 49 = .ok (.iload_n 1, 1) := by decide +kernel
theorem bd_71_50 : decode (bn_b 71) 50 = .ok (.ireturn, 1) := by decide +kernel
theorem bd_71_51 : decode (bn_b 71) 51 = .ok (.iinc 1 1, 3) := by decide +kernel
theorem bd_71_54 : decode (bn_b 71) 54 = .ok (.goto (-29), 3) := by decide +kernel
theorem bd_71_57 : decode (bn_b 71) 57 = .ok (.bipush (-9), 2) := by decide +kernel
theorem bd_71_59 : decode (bn_b 71) 59 = .ok (.ireturn, 1) := by decide +kernel
theorem bd_72_0 : decode (bn_b 72) 0 = .ok (.iload_n 0, 1) := by decide +kernel
theorem bd_72_1 : decode (bn_b 72) 1 = .ok (.bipush 10, 2) := by decide +kernel
theorem bd_72_3 : decode (bn_b 72) 3 = .ok (.idiv, 1) := by decide +kernel
theorem bd_72_4 : decode (bn_b 72) 4 = .ok (.bipush 9, 2) := by decide +kernel
theorem bd_72_6 : decode (bn_b 72) 6 = .ok (.if_icmp .eq 12, 3) := by decide +kernel
theorem bd_72_9 : decode (bn_b 72) 9 = .ok (.iload_n 0, 1) := by decide +kernel
theorem bd_72_10 : decode (bn_b 72) 10 = .ok (.bipush 10, 2) := by decide +kernel
theorem bd_72_12 : decode (bn_b 72) 12 = .ok (.irem, 1) := by decide +kernel
theorem bd_72_13 : decode (bn_b 72) 13 = .ok (.bipush 9, 2) := by decide +kernel
theorem bd_72_15 : decode (bn_b 72) 15 = .ok (.if_icmp .ne 7, 3) := by decide +kernel
theorem bd_72_18 : decode (bn_b 72) 18 = .ok (.iconst 1, 1) := by decide +kernel
theorem bd_72_19 : decode (bn_b 72) 19 = .ok (.goto 4, 3) := by decide +kernel
theorem bd_72_22 : decode (bn_b 72) 22 = .ok (.iconst 0, 1) := by decide +kernel
theorem bd_72_23 : decode (bn_b 72) 23 = .ok (.ireturn, 1) := by decide +kernel
theorem bd_73_0 : decode (bn_b 73) 0 = .ok (.iload_n 0, 1) := by decide +kernel
theorem bd_73_1 : decode (bn_b 73) 1 = .ok (.bipush 10, 2) := by decide +kernel
theorem bd_73_3 : decode (bn_b 73) 3 = .ok (.idiv, 1) := by decide +kernel
theorem bd_73_4 : decode (bn_b 73) 4 = .ok (.bipush 9, 2) := by decide +kernel
theorem bd_73_6 : decode (bn_b 73) 6 = .ok (.if_icmp .ne 10, 3) := by decide +kernel
theorem bd_73_9 : decode (bn_b 73) 9 = .ok (.iload_n 0, 1) := by decide +kernel
theorem bd_73_10 : decode (bn_b 73) 10 = .ok (.bipush 30, 2) := by decide +kernel
theorem bd_73_12 : decode (bn_b 73) 12 = .ok (.isub, 1) := by decide +kernel
theorem bd_73_13 : decode (bn_b 73) 13 = .ok (.goto 6, 3) := by decide +kernel
theorem bd_73_16 : decode (bn_b 73) 16 = .ok (.iload_n 0, 1) := by decide +kernel
theorem bd_73_17 : decode (bn_b 73) 17 = .ok (.iconst 3, 1) := by decide +kernel
theorem bd_73_18 : decode (bn_b 73) 18 = .ok (.isub, 1) := by decide +kernel
theorem bd_73_19 : decode (bn_b 73) 19 = .ok (.ireturn, 1) := by decide +kernel
theorem bd_74_0 : decode (bn_b 74) 0 = .ok (.lload_n 0, 1) := by decide +kernel
theorem bd_74_1 : decode (bn_b 74) 1 = .ok (.lload_n 2, 1) := by decide +kernel
theorem bd_74_2 : decode (bn_b 74) 2 = .ok (.invokestatic 195, 3) := by decide +kernel
theorem bd_74_5 : decode (bn_b 74) 5 = .ok (.lstore 5, 2) := by decide +kernel
theorem bd_74_7 : decode (bn_b 74) 7 = .ok (.lload 5, 2) := by decide +kernel
theorem bd_74_9 : decode (bn_b 74) 9 = .ok (.lconst 0, 1) := by decide +kernel
theorem bd_74_10 : decode (bn_b 74) 10 = .ok (.lcmp, 1) := by decide +kernel
theorem bd_74_11 : decode (bn_b 74) 11 = .ok (.ifCond .ne 7, 3) := by decide +kernel
theorem bd_74_14 : decode (bn_b 74) 14 = .ok (.ldc2_w 199, 3) := by decide +kernel
theorem bd_74_17 : decode (bn_b 74) 17 = .ok (.lreturn, 1) := by decide +kernel
theorem bd_74_18 : decode (bn_b 74) 18 = .ok (.iload 4, 2) := by decide +kernel
theorem bd_74_20 : decode (bn_b 74) 20 = .ok (.ifCond .eq 10, 3) := by decide +kernel
theorem bd_74_23 : decode (bn_b 74) 23 = .ok (.lload_n 0, 1) := by decide +kernel
theorem bd_74_24 : decode (bn_b 74) 24 = .ok (.lload 5, 2) := by decide +kernel
theorem bd_74_26 : decode (bn_b 74) 26 = .ok (.ldiv, 1) := by decide +kernel
theorem bd_74_27 : decode (bn_b 74) 27 = .ok (.goto 7, 3) := by decide +kernel
theorem bd_74_30 : decode (bn_b 74) 30 = .ok (.lload_n 2, 1) := by decide +kernel
theorem bd_74_31 : decode (bn_b 74) 31 = .ok (.lload 5, 2) := by decide +kernel
theorem bd_74_33 : decode (bn_b 74) 33 = .ok (.ldiv, 1) := by decide +kernel
theorem bd_74_34 : decode (bn_b 74) 34 = .ok (.lreturn, 1) := by decide +kernel
theorem bd_75_0 : decode (bn_b 75) 0 = .ok (.iconst 0, 1) := by decide +kernel
theorem bd_75_1 : decode (bn_b 75) 1 = .ok (.istore 4, 2) := by decide +kernel
theorem bd_75_3 : decode (bn_b 75) 3 = .ok (.iload 4, 2) := by decide +kernel
theorem bd_75_5 : decode (bn_b 75) 5 = .ok (.sipush 200, 3) := by decide +kernel
theorem bd_75_8 : decode (bn_b 75) 8 = .ok (.if_icmp .ge 25, 3) := by decide +kernel
theorem bd_75_11 : decode (bn_b 75) 11 = .ok (.lload_n 2, 1) := by decide +kernel
theorem bd_75_12 : decode (bn_b 75) 12 = .ok (.lconst 0, 1) := by decide +kernel
theorem bd_75_13 : decode (bn_b 75) 13 = .ok (.lcmp, 1) := by decide +kernel
theorem bd_75_14 : decode (bn_b 75) 14 = .ok (.ifCond .eq 19, 3) := by decide +kernel
theorem bd_75_17 : decode (bn_b 75) 17 = .ok (.lload_n 0, 1) := by decide +kernel
theorem bd_75_18 : decode (bn_b 75) 18 = .ok (.lload_n 2, 1) := by decide +kernel
theorem bd_75_19 : decode (bn_b 75) 19 = .ok (.lrem, 1) := by decide +kernel
theorem bd_75_20 : decode (bn_b 75) 20 = .ok (.lstore 5, 2) := by decide +kernel
theorem bd_75_22 : decode (bn_b 75) 22 = .ok (.lload_n 2, 1) := by decide +kernel
theorem bd_75_23 : decode (bn_b 75) 23 = .ok (.lstore_n 0, 1) := by decide +kernel
theorem bd_75_24 : decode (bn_b 75) 24 = .ok (.lload 5, 2) := by decide +kernel
theorem bd_75_26 : decode (bn_b 75) 26 = .ok (.lstore_n 2, 1) := by decide +kernel
theorem bd_75_27 : decode (bn_b 75) 27 = .ok (.iinc 4 1, 3) := by decide +kernel
theorem bd_75_30 : decode (bn_b 75) 30 = .ok (.goto (-27), 3) := by decide +kernel
theorem bd_75_33 : decode (bn_b 75) 33 = .ok (.lload_n 0, 1) := by decide +kernel
theorem bd_75_34 : decode (bn_b 75) 34 = .ok (.lreturn, 1) := by decide +kernel
end
section
/-! decode rows -/
theorem bd_76_0 : decode (bn_b 76) 0 = .ok (.aload_n 0, 1) := by decide +kernel
theorem bd_76_1 : decode (bn_b 76) 1 = .ok (.invokespecial 1, 3) := by decide +kernel
theorem bd_76_4 : decode (bn_b 76) 4 = .ok (.aload_n 0, 1) := by decide +kernel
theorem bd_76_5 : decode (bn_b 76) 5 = .ok (.bipush 71, 2) := by decide +kernel
theorem bd_76_7 : decode (bn_b 76) 7 = .ok (.newarray .int, 2) := by decide +kernel
theorem bd_76_9 : decode (bn_b 76) 9 = .ok (.putfield 7, 3) := by decide +kernel
theorem bd_76_12 : decode (bn_b 76) 12 = .ok (.aload_n 0, 1) := by decide +kernel
theorem bd_76_13 : decode (bn_b 76) 13 = .ok (.bipush 71, 2) := by decide +kernel
theorem bd_76_15 : decode (bn_b 76) 15 = .ok (.newarray .int, 2) := by decide +kernel
theorem bd_76_17 : decode (bn_b 76) 17 = .ok (.putfield 13, 3) := by decide +kernel
theorem bd_76_20 : decode (bn_b 76) 20 = .ok (.aload_n 0, 1) := by decide +kernel
theorem bd_76_21 : decode (bn_b 76) 21 = .ok (.bipush 80, 2) := by decide +kernel
theorem bd_76_23 : decode (bn_b 76) 23 = .ok (.newarray .int, 2) := by decide +kernel
theorem bd_76_25 : decode (bn_b 76) 25 = .ok (.putfield 16, 3) := by decide +kernel
theorem bd_76_28 : decode (bn_b 76) 28 = .ok (.aload_n 0, 1) := by decide +kernel
theorem bd_76_29 : decode (bn_b 76) 29 = .ok (.sipush 1440, 3) := by decide +kernel
theorem bd_76_32 : decode (bn_b 76) 32 = .ok (.newarray .int, 2) := by decide +kernel
theorem bd_76_34 : decode (bn_b 76) 34 = .ok (.putfield 19, 3) := by decide +kernel
theorem bd_76_37 : decode (bn_b 76) 37 = .ok (.aload_n 0, 1) := by decide +kernel
theorem bd_76_38 : decode (bn_b 76) 38 = .ok (.bipush 20, 2) := by decide +kernel
theorem bd_76_40 : decode (bn_b 76) 40 = .ok (.newarray .long, 2) := by decide +kernel
theorem bd_76_42 : decode (bn_b 76) 42 = .ok (.putfield 22, 3) := by decide +kernel
theorem bd_76_45 : decode (bn_b 76) 45 = .ok (.aload_n 0, 1) := by decide +kernel
theorem bd_76_46 : decode (bn_b 76) 46 = .ok (.bipush 71, 2) := by decide +kernel
theorem bd_76_48 : decode (bn_b 76) 48 = .ok (.newarray .int, 2) := by decide +kernel
theorem bd_76_50 : decode (bn_b 76) 50 = .ok (.putfield 26, 3) := by decide +kernel
theorem bd_76_53 : decode (bn_b 76) 53 = .ok (.aload_n 0, 1) := by decide +kernel
theorem bd_76_54 : decode (bn_b 76) 54 = .ok (.sipush 11000, 3) := by decide +kernel
theorem bd_76_57 : decode (bn_b 76) 57 = .ok (.newarray .boolean, 2) := by decide +kernel
theorem bd_76_59 : decode (bn_b 76) 59 = .ok (.putfield 29, 3) := by decide +kernel
theorem bd_76_62 : decode (bn_b 76) 62 = .ok (.aload_n 0, 1) := by decide +kernel
theorem bd_76_63 : decode (bn_b 76) 63 = .ok (.sipush 11000, 3) := by decide +kernel
theorem bd_76_66 : decode (bn_b 76) 66 = .ok (.newarray .boolean, 2) := by decide +kernel
theorem bd_76_68 : decode (bn_b 76) 68 = .ok (.putfield 33, 3) := by decide +kernel
theorem bd_76_71 : decode (bn_b 76) 71 = .ok (.aload_n 0, 1) := by decide +kernel
theorem bd_76_72 : decode (bn_b 76) 72 = .ok (.bipush 10, 2) := by decide +kernel
theorem bd_76_74 : decode (bn_b 76) 74 = .ok (.newarray .int, 2) := by decide +kernel
theorem bd_76_76 : decode (bn_b 76) 76 = .ok (.putfield 36, 3) := by decide +kernel
theorem bd_76_79 : decode (bn_b 76) 79 = .ok (.aload_n 0, 1) := by decide +kernel
theorem bd_76_80 : decode (bn_b 76) 80 = .ok (.iconst 2, 1) := by decide +kernel
theorem bd_76_81 : decode (bn_b 76) 81 = .ok (.newarray .boolean, 2) := by decide +kernel
theorem bd_76_83 : decode (bn_b 76) 83 = .ok (.putfield 39, 3) := by decide +kernel
theorem bd_76_86 : decode (bn_b 76) 86 = .ok (.aload_n 0, 1) := by decide +kernel
theorem bd_76_87 : decode (bn_b 76) 87 = .ok (.sipush 144, 3) := by decide +kernel
theorem bd_76_90 : decode (bn_b 76) 90 = .ok (.newarray .int, 2) := by decide +kernel
theorem bd_76_92 : decode (bn_b 76) 92 = .ok (.putfield 42, 3) := by decide +kernel
theorem bd_76_95 : decode (bn_b 76) 95 = .ok (.aload_n 0, 1) := by decide +kernel
theorem bd_76_96 : decode (bn_b 76) 96 = .ok (.iconst 2, 1) := by decide +kernel
theorem bd_76_97 : decode (bn_b 76) 97 = .ok (.newarray .long, 2) := by decide +kernel
theorem bd_76_99 : decode (bn_b 76) 99 = .ok (.putfield 45, 3) := by decide +kernel
theorem bd_76_102 : decode (bn_b 76) 102 = .ok (.aload_n 0, 1) := by decide +kernel
theorem bd_76_103 : decode (bn_b 76) 103 = .ok (.bipush 9, 2) := by decide +kernel
theorem bd_76_105 : decode (bn_b 76) 105 = .ok (.putfield 48, 3) := by decide +kernel
theorem bd_76_108 : decode (bn_b 76) 108 = .ok (.aload_n 0, 1) := by decide +kernel
theorem bd_76_109 : decode (bn_b 76) 109 = .ok (.bipush 9, 2) := by decide +kernel
theorem bd_76_111 : decode (bn_b 76) 111 = .ok (.putfield 52, 3) := by decide +kernel
theorem bd_76_114 : decode (bn_b 76) 114 = .ok (.return_, 1) := by decide +kernel
theorem bd_77_0 : decode (bn_b 77) 0 = .ok (.lload_n 0, 1) := by decide +kernel
theorem bd_77_1 : decode (bn_b 77) 1 = .ok (.lload_n 2, 1) := by decide +kernel
theorem bd_77_2 : decode (bn_b 77) 2 = .ok (.lcmp, 1) := by decide +kernel
theorem bd_77_3 : decode (bn_b 77) 3 = .ok (.ifCond .lt 14, 3) := by decide +kernel
theorem bd_77_6 : decode (bn_b 77) 6 = .ok (.lload_n 0, 1) := by decide +kernel
theorem bd_77_7 : decode (bn_b 77) 7 = .ok (.lload 4, 2) := by decide +kernel
theorem bd_77_9 : decode (bn_b 77) 9 = .ok (.lcmp, 1) := by decide +kernel
theorem bd_77_10 : decode (bn_b 77) 10 = .ok (.ifCond .gt 7, 3) := by decide +kernel
theorem bd_77_13 : decode (bn_b 77) 13 = .ok (.iconst 1, 1) := by decide +kernel
theorem bd_77_14 : decode (bn_b 77) 14 = .ok (.goto 4, 3) := by decide +kernel
theorem bd_77_17 : decode (bn_b 77) 17 = .ok (.iconst 0, 1) := by decide +kernel
theorem bd_77_18 : decode (bn_b 77) 18 = .ok (.ireturn, 1) := by decide +kernel
theorem bd_78_0 : decode (bn_b 78) 0 = .ok (.iload_n 1, 1) := by decide +kernel
theorem bd_78_1 : decode (bn_b 78) 1 = .ok (.i2l, 1) := by decide +kernel
theorem bd_78_2 : decode (bn_b 78) 2 = .ok (.lconst 1, 1) := by decide +kernel
theorem bd_78_3 : decode (bn_b 78) 3 = .ok (.ldc2_w 55, 3) := by decide +kernel
theorem bd_78_6 : decode (bn_b 78) 6 = .ok (.invokestatic 57, 3) := by decide +kernel
theorem bd_78_9 : decode (bn_b 78) 9 = .ok (.ifCond .ne 6, 3) := by decide +kernel
theorem bd_78_12 : decode (bn_b 78) 12 = .ok (.bipush (-2), 2) := by decide +kernel
theorem bd_78_14 : decode (bn_b 78) 14 = .ok (.ireturn, 1) := by decide +kernel
theorem bd_78_15 : decode (bn_b 78) 15 = .ok (.aload_n 0, 1) := by decide +kernel
theorem bd_78_16 : decode (bn_b 78) 16 = .ok (.getfield 61, 3) := by decide +kernel
theorem bd_78_19 : decode (bn_b 78) 19 = .ok (.iload_n 1, 1) := by decide +kernel
theorem bd_78_20 : decode (bn_b 78) 20 = .ok (.iadd, 1) := by decide +kernel
theorem bd_78_21 : decode (bn_b 78) 21 = .ok (.bipush 80, 2) := by decide +kernel
theorem bd_78_23 : decode (bn_b 78) 23 = .ok (.if_icmp .le 6, 3) := by decide +kernel
theorem bd_78_26 : decode (bn_b 78) 26 = .ok (.bipush (-4), 2) := by decide +kernel
theorem bd_78_28 : decode (bn_b 78) 28 = .ok (.ireturn, 1) := by decide +kernel
theorem bd_78_29 : decode (bn_b 78) 29 = .ok (.iload_n 1, 1) := by decide +kernel
theorem bd_78_30 : decode (bn_b 78) 30 = .ok (.iconst 1, 1) := by decide +kernel
theorem bd_78_31 : decode (bn_b 78) 31 = .ok (.isub, 1) := by decide +kernel
theorem bd_78_32 : decode (bn_b 78) 32 = .ok (.istore 4, 2) := by decide +kernel
theorem bd_78_34 : decode (bn_b 78) 34 = .ok (.iload 4, 2) := by decide +kernel
theorem bd_78_36 : decode (bn_b 78) 36 = .ok (.ifCond .lt 40, 3) := by decide +kernel
theorem bd_78_39 : decode (bn_b 78) 39 = .ok (.aload_n 0, 1) := by decide +kernel
theorem bd_78_40 : decode (bn_b 78) 40 = .ok (.getfield 16, 3) := by decide +kernel
theorem bd_78_43 : decode (bn_b 78) 43 = .ok (.aload_n 0, 1) := by decide +kernel
theorem bd_78_44 : decode (bn_b 78) 44 = .ok (.getfield 61, 3) := by decide +kernel
theorem bd_78_47 : decode (bn_b 78) 47 = .ok (.lload_n 2, 1) := by decide +kernel
theorem bd_78_48 : decode (bn_b 78) 48 = .ok (.bipush 8, 2) := by decide +kernel
theorem bd_78_50 : decode (bn_b 78) 50 = .ok (.iload 4, 2) := by decide +kernel
theorem bd_78_52 : decode (bn_b 78) 52 = .ok (.imul, 1) := by decide +kernel
theorem bd_78_53 : decode (bn_b 78) 53 = .ok (.lshr, 1) := by decide +kernel
theorem bd_78_54 : decode (bn_b 78) 54 = .ok (.ldc2_w 64, 3) := by decide +kernel
theorem bd_78_57 : decode (bn_b 78) 57 = .ok (.land, 1) := by decide +kernel
theorem bd_78_58 : decode (bn_b 78) 58 = .ok (.l2i, 1) := by decide +kernel
theorem bd_78_59 : decode (bn_b 78) 59 = .ok (.iastore, 1) := by decide +kernel
theorem bd_78_60 : decode (bn_b 78) 60 = .ok (.aload_n 0, 1) := by decide +kernel
theorem bd_78_61 : decode (bn_b 78) 61 = .ok (.dup, 1) := by decide +kernel
theorem bd_78_62 : decode (bn_b 78) 62 = .ok (.getfield 61, 3) := by decide +kernel
theorem bd_78_65 : decode (bn_b 78) 65 = .ok (.iconst 1, 1) := by decide +kernel
theorem bd_78_66 : decode (bn_b 78) 66 = .ok (.iadd, 1) := by decide +kernel
theorem bd_78_67 : decode (bn_b 78) 67 = .ok (.putfield 61, 3) := by decide +kernel
theorem bd_78_70 : decode (bn_b 78) 70 = .ok (.iinc 4 (-1), 3) := by decide +kernel
theorem bd_78_73 : decode (bn_b 78) 73 = .ok (.goto (-39), 3) := by decide +kernel
theorem bd_78_76 : decode (bn_b 78) 76 = .ok (.aload_n 0, 1) := by decide +kernel
theorem bd_78_77 : decode (bn_b 78) 77 = .ok (.getfield 61, 3) := by decide +kernel
theorem bd_78_80 : decode (bn_b 78) 80 = .ok (.ireturn, 1) := by decide +kernel
theorem bd_79_0 : decode (bn_b 79) 0 = .ok (.aload_n 0, 1) := by decide +kernel
theorem bd_79_1 : decode (bn_b 79) 1 = .ok (.getfield 61, 3) := by decide +kernel
theorem bd_79_4 : decode (bn_b 79) 4 = .ok (.istore_n 1, 1) := by decide +kernel
theorem bd_79_5 : decode (bn_b 79) 5 = .ok (.aload_n 0, 1) := by decide +kernel
theorem bd_79_6 : decode (bn_b 79) 6 = .ok (.iconst 0, 1) := by decide +kernel
theorem bd_79_7 : decode (bn_b 79) 7 = .ok (.putfield 61, 3) := by decide +kernel
theorem bd_79_10 : decode (bn_b 79) 10 = .ok (.iload_n 1, 1) := by decide +kernel
theorem bd_79_11 : decode (bn_b 79) 11 = .ok (.ireturn, 1) := by decide +kernel
theorem bd_80_0 : decode (bn_b 80) 0 = .ok (.aload_n 0, 1) := by decide +kernel
theorem bd_80_1 : decode (bn_b 80) 1 = .ok (.getfield 66, 3) := by decide +kernel
theorem bd_80_4 : decode (bn_b 80) 4 = .ok (.bipush (-9), 2) := by decide +kernel
theorem bd_80_6 : decode (bn_b 80) 6 = .ok (.if_icmp .ne 29, 3) := by decide +kernel
theorem bd_80_9 : decode (bn_b 80) 9 = .ok (.aload_n 0, 1) := by decide +kernel
theorem bd_80_10 : decode (bn_b 80) 10 = .ok (.getfield 69, 3) := by decide +kernel
theorem bd_80_13 : decode (bn_b 80) 13 = .ok (.aload_n 0, 1) := by decide +kernel
theorem bd_80_14 : decode (bn_b 80) 14 = .ok (.getfield 61, 3) := by decide +kernel
theorem bd_80_17 : decode (bn_b 80) 17 = .ok (.if_icmp .ge 18, 3) := by decide +kernel
theorem bd_80_20 : decode (bn_b 80) 20 = .ok (.aload_n 0, 1) := by decide +kernel
theorem bd_80_21 : decode (bn_b 80) 21 = .ok (.getfield 16, 3) := by decide +kernel
theorem bd_80_24 : decode (bn_b 80) 24 = .ok (.aload_n 0, 1) := by decide +kernel
theorem bd_80_25 : decode (bn_b 80) 25 = .ok (.getfield 69, 3) := by decide +kernel
theorem bd_80_28 : decode (bn_b 80) 28 = .ok (.iaload, 1) := by decide +kernel
theorem bd_80_29 : decode (bn_b 80) 29 = .ok (.bipush 48, 2) := by decide +kernel
theorem bd_80_31 : decode (bn_b 80) 31 = .ok (.isub, 1) := by decide +kernel
theorem bd_80_32 : decode (bn_b 80) 32 = .ok (.goto 4, 3) := by decide +kernel
theorem bd_80_35 : decode (bn_b 80) 35 = .ok (.iconst (-1), 1) := by decide +kernel
theorem bd_80_36 : decode (bn_b 80) 36 = .ok (.istore_n 2, 1) := by decide +kernel
theorem bd_80_37 : decode (bn_b 80) 37 = .ok (.iload_n 2, 1) := by decide +kernel
theorem bd_80_38 : decode (bn_b 80) 38 = .ok (.i2l, 1) := by decide +kernel
theorem bd_80_39 : decode (bn_b 80) 39 = .ok (.lconst 0, 1) := by decide +kernel
theorem bd_80_40 : decode (bn_b 80) 40 = .ok (.ldc2_w 72, 3) := by decide +kernel
theorem bd_80_43 : decode (bn_b 80) 43 = .ok (.invokestatic 57, 3) := by decide +kernel
theorem bd_80_46 : decode (bn_b 80) 46 = .ok (.ifCond .eq 11, 3) := by decide +kernel
theorem bd_80_49 : decode (bn_b 80) 49 = .ok (.iload_n 1, 1) := by decide +kernel
theorem bd_80_50 : decode (bn_b 80) 50 = .ok (.iload_n 2, 1) := by decide +kernel
theorem bd_80_51 : decode (bn_b 80) 51 = .ok (.ishr, 1) := by decide +kernel
theorem bd_80_52 : decode (bn_b 80) 52 = .ok (.iconst 1, 1) := by decide +kernel
theorem bd_80_53 : decode (bn_b 80) 53 = .ok (.iand, 1) := by decide +kernel
theorem bd_80_54 : decode (bn_b 80) 54 = .ok (.ifCond .ne 29, 3) := by decide +kernel
theorem bd_80_57 : decode (bn_b 80) 57 = .ok (.aload_n 0, 1) := by decide +kernel
theorem bd_80_58 : decode (bn_b 80) 58 = .ok (.aload_n 0, 1) := by decide +kernel
theorem bd_80_59 : decode (bn_b 80) 59 = .ok (.getfield 66, 3) := by decide +kernel
theorem bd_80_62 : decode (bn_b 80) 62 = .ok (.bipush (-9), 2) := by decide +kernel
theorem bd_80_64 : decode (bn_b 80) 64 = .ok (.if_icmp .ne 10, 3) := by decide +kernel
theorem bd_80_67 : decode (bn_b 80) 67 = .ok (.aload_n 0, 1) := by decide +kernel
theorem bd_80_68 : decode (bn_b 80) 68 = .ok (.getfield 69, 3) := by decide +kernel
theorem bd_80_71 : decode (bn_b 80) 71 = .ok (.goto 7, 3) := by decide +kernel
theorem bd_80_74 : decode (bn_b 80) 74 = .ok (.aload_n 0, 1) := by decide +kernel
theorem bd_80_75 : decode (bn_b 80) 75 = .ok (.getfield 66, 3) := by decide +kernel
theorem bd_80_78 : decode (bn_b 80) 78 = .ok (.putfield 66, 3) := by decide +kernel
theorem bd_80_81 : decode (bn_b 80) 81 = .ok (.iconst 0, 1) := by decide +kernel
theorem bd_80_82 : decode (bn_b 80) 82 = .ok (.ireturn, 1) := by decide +kernel
theorem bd_80_83 : decode (bn_b 80) 83 = .ok (.aload_n 0, 1) := by decide +kernel
theorem bd_80_84 : decode (bn_b 80) 84 = .ok (.dup, 1) := by decide +kernel
theorem bd_80_85 : decode (bn_b 80) 85 = .ok (.getfield 69, 3) := by decide +kernel
theorem bd_80_88 : decode (bn_b 80) 88 = .ok (.iconst 1, 1) := by decide +kernel
theorem bd_80_89 : decode (bn_b 80) 89 = .ok (.iadd, 1) := by decide +kernel
theorem bd_80_90 : decode (bn_b 80) 90 = .ok (.putfield 69, 3) := by decide +kernel
theorem bd_80_93 : decode (bn_b 80) 93 = .ok (.iload_n 2, 1) := by decide +kernel
theorem bd_80_94 : decode (bn_b 80) 94 = .ok (.ireturn, 1) := by decide +kernel
theorem bd_81_0 : decode (bn_b 81) 0 = .ok (.iload_n 1, 1) := by decide +kernel
theorem bd_81_1 : decode (bn_b 81) 1 = .ok (.ifCond .ne 9, 3) := by decide +kernel
theorem bd_81_4 : decode (bn_b 81) 4 = .ok (.sipush 1022, 3) := by decide +kernel
theorem bd_81_7 : decode (bn_b 81) 7 = .ok (.goto 6, 3) := by decide +kernel
theorem bd_81_10 : decode (bn_b 81) 10 = .ok (.sipush 1023, 3) := by decide +kernel
theorem bd_81_13 : decode (bn_b 81) 13 = .ok (.istore_n 2, 1) := by decide +kernel
theorem bd_81_14 : decode (bn_b 81) 14 = .ok (.iconst 0, 1) := by decide +kernel
theorem bd_81_15 : decode (bn_b 81) 15 = .ok (.istore_n 3, 1) := by decide +kernel
theorem bd_81_16 : decode (bn_b 81) 16 = .ok (.iload_n 3, 1) := by decide +kernel
theorem bd_81_17 : decode (bn_b 81) 17 = .ok (.aload_n 0, 1) := by decide +kernel
theorem bd_81_18 : decode (bn_b 81) 18 = .ok (.getfield 74, 3) := by decide +kernel
theorem bd_81_21 : decode (bn_b 81) 21 = .ok (.if_icmp .ge 47, 3) := by decide +kernel
theorem bd_81_24 : decode (bn_b 81) 24 = .ok (.aload_n 0, 1) := by decide +kernel
theorem bd_81_25 : decode (bn_b 81) 25 = .ok (.getfield 7, 3) := by decide +kernel
theorem bd_81_28 : decode (bn_b 81) 28 = .ok (.bipush 20, 2) := by decide +kernel
theorem bd_81_30 : decode (bn_b 81) 30 = .ok (.iconst 5, 1) := by decide +kernel
theorem bd_81_31 : decode (bn_b 81) 31 = .ok (.iload_n 3, 1) := by decide +kernel
theorem bd_81_32 : decode (bn_b 81) 32 = .ok (.imul, 1) := by decide +kernel
theorem bd_81_33 : decode (bn_b 81) 33 = .ok (.iadd, 1) := by decide +kernel
theorem bd_81_34 : decode (bn_b 81) 34 = .ok (.iaload, 1) := by decide +kernel
theorem bd_81_35 : decode (bn_b 81) 35 = .ok (.istore 4, 2) := by decide +kernel
theorem bd_81_37 : decode (bn_b 81) 37 = .ok (.iload_n 2, 1) := by decide +kernel
theorem bd_81_38 : decode (bn_b 81) 38 = .ok (.iload 4, 2) := by decide +kernel
theorem bd_81_40 : decode (bn_b 81) 40 = .ok (.bipush 10, 2) := by decide +kernel
theorem bd_81_42 : decode (bn_b 81) 42 = .ok (.idiv, 1) := by decide +kernel
theorem bd_81_43 : decode (bn_b 81) 43 = .ok (.iload_n 1, 1) := by decide +kernel
theorem bd_81_44 : decode (bn_b 81) 44 = .ok (.if_icmp .ne 15, 3) := by decide +kernel
theorem bd_81_47 : decode (bn_b 81) 47 = .ok (.iconst 1, 1) := by decide +kernel
theorem bd_81_48 : decode (bn_b 81) 48 = .ok (.iload 4, 2) := by decide +kernel
theorem bd_81_50 : decode (bn_b 81) 50 = .ok (.bipush 10, 2) := by decide +kernel
theorem bd_81_52 : decode (bn_b 81) 52 = .ok (.irem, 1) := by decide +kernel
theorem bd_81_53 : decode (bn_b 81) 53 = .ok (.ishl, 1) := by decide +kernel
theorem bd_81_54 : decode (bn_b 81) 54 = .ok (.iconst (-1), 1) := by decide +kernel
theorem bd_81_55 : decode (bn_b 81) 55 = .ok (.ixor, 1) := by decide +kernel
theorem bd_81_56 : decode (bn_b 81) 56 = .ok (.goto 4, 3) := by decide +kernel
theorem bd_81_59 : decode (bn_b 81) 59 = .ok (.iconst (-1), 1) := by decide +kernel
theorem bd_81_60 : decode (bn_b 81) 60 = .ok (.iand, 1) := by decide +kernel
theorem bd_81_61 : decode (bn_b 81) 61 = .ok (.istore_n 2, 1) := by decide +kernel
theorem bd_81_62 : decode (bn_b 81) 62 = .ok (.iinc 3 1, 3) := by decide +kernel
theorem bd_81_65 : decode (bn_b 81) 65 = .ok (.goto (-49), 3) := by decide +kernel
theorem bd_81_68 : decode (bn_b 81) 68 = .ok (.iload_n 2, 1) := by decide +kernel
theorem bd_81_69 : decode (bn_b 81) 69 = .ok (.ireturn, 1) := by decide +kernel
theorem bd_82_0 : decode (bn_b 82) 0 = .ok (.aload_n 0, 1) := by decide +kernel
theorem bd_82_1 : decode (bn_b 82) 1 = .ok (.iconst 0, 1) := by decide +kernel
theorem bd_82_2 : decode (bn_b 82) 2 = .ok (.putfield 69, 3) := by decide +kernel
theorem bd_82_5 : decode (bn_b 82) 5 = .ok (.aload_n 0, 1) := by decide +kernel
theorem bd_82_6 : decode (bn_b 82) 6 = .ok (.bipush (-9), 2) := by decide +kernel
theorem bd_82_8 : decode (bn_b 82) 8 = .ok (.putfield 66, 3) := by decide +kernel
theorem bd_82_11 : decode (bn_b 82) 11 = .ok (.aload_n 0, 1) := by decide +kernel
theorem bd_82_12 : decode (bn_b 82) 12 = .ok (.iconst 0, 1) := by decide +kernel
theorem bd_82_13 : decode (bn_b 82) 13 = .ok (.putfield 77, 3) := by decide +kernel
theorem bd_82_16 : decode (bn_b 82) 16 = .ok (.aload_n 0, 1) := by decide +kernel
theorem bd_82_17 : decode (bn_b 82) 17 = .ok (.iconst 0, 1) := by decide +kernel
theorem bd_82_18 : decode (bn_b 82) 18 = .ok (.putfield 74, 3) := by decide +kernel
theorem bd_82_21 : decode (bn_b 82) 21 = .ok (.aload_n 0, 1) := by decide +kernel
theorem bd_82_22 : decode (bn_b 82) 22 = .ok (.getfield 61, 3) := by decide +kernel
theorem bd_82_25 : decode (bn_b 82) 25 = .ok (.ifCond .eq 14, 3) := by decide +kernel
theorem bd_82_28 : decode (bn_b 82) 28 = .ok (.aload_n 0, 1) := by decide +kernel
theorem bd_82_29 : decode (bn_b 82) 29 = .ok (.getfield 16, 3) := by decide +kernel
theorem bd_82_32 : decode (bn_b 82) 32 = .ok (.iconst 0, 1) := by decide +kernel
theorem bd_82_33 : decode (bn_b 82) 33 = .ok (.iaload, 1) := by decide +kernel
theorem bd_82_34 : decode (bn_b 82) 34 = .ok (.bipush 83, 2) := by decide +kernel
theorem bd_82_36 : decode (bn_b 82) 36 = .ok (.if_icmp .eq 5, 3) := by decide +kernel
theorem bd_82_39 : decode (bn_b 82) 39 = .ok (.iconst 0, 1) := by decide +kernel
theorem bd_82_40 : decode (bn_b 82) 40 = .ok (.ireturn, 1) := by decide +kernel
theorem bd_82_41 : decode (bn_b 82) 41 = .ok (.aload_n 0, 1) := by decide +kernel
theorem bd_82_42 : decode (bn_b 82) 42 = .ok (.iconst 1, 1) := by decide +kernel
theorem bd_82_43 : decode (bn_b 82) 43 = .ok (.putfield 69, 3) := by decide +kernel
theorem bd_82_46 : decode (bn_b 82) 46 = .ok (.aload_n 0, 1) := by decide +kernel
theorem bd_82_47 : decode (bn_b 82) 47 = .ok (.aload_n 0, 1) := by decide +kernel
theorem bd_82_48 : decode (bn_b 82) 48 = .ok (.bipush 7, 2) := by decide +kernel
theorem bd_82_50 : decode (bn_b 82) 50 = .ok (.invokevirtual 80, 3) := by decide +kernel
theorem bd_82_53 : decode (bn_b 82) 53 = .ok (.putfield 84, 3) := by decide +kernel
theorem bd_82_56 : decode (bn_b 82) 56 = .ok (.aload_n 0, 1) := by decide +kernel
theorem bd_82_57 : decode (bn_b 82) 57 = .ok (.aload_n 0, 1) := by decide +kernel
theorem bd_82_58 : decode (bn_b 82) 58 = .ok (.sipush 1022, 3) := by decide +kernel
theorem bd_82_61 : decode (bn_b 82) 61 = .ok (.invokevirtual 80, 3) := by decide +kernel
theorem bd_82_64 : decode (bn_b 82) 64 = .ok (.putfield 87, 3) := by decide +kernel
theorem bd_82_67 : decode (bn_b 82) 67 = .ok (.aload_n 0, 1) := by decide +kernel
theorem bd_82_68 : decode (bn_b 82) 68 = .ok (.aload_n 0, 1) := by decide +kernel
theorem bd_82_69 : decode (bn_b 82) 69 = .ok (.sipush 1022, 3) := by decide +kernel
theorem bd_82_72 : decode (bn_b 82) 72 = .ok (.invokevirtual 80, 3) := by decide +kernel
theorem bd_82_75 : decode (bn_b 82) 75 = .ok (.putfield 90, 3) := by decide +kernel
theorem bd_82_78 : decode (bn_b 82) 78 = .ok (.aload_n 0, 1) := by decide +kernel
theorem bd_82_79 : decode (bn_b 82) 79 = .ok (.getfield 66, 3) := by decide +kernel
theorem bd_82_82 : decode (bn_b 82) 82 = .ok (.bipush (-9), 2) := by decide +kernel
theorem bd_82_84 : decode (bn_b 82) 84 = .ok (.if_icmp .ne 159, 3) := by decide +kernel
theorem bd_82_87 : decode (bn_b 82) 87 = .ok (.aload_n 0, 1) := by decide +kernel
theorem bd_82_88 : decode (bn_b 82) 88 = .ok (.getfield 69, 3) := by decide +kernel
theorem bd_82_91 : decode (bn_b 82) 91 = .ok (.aload_n 0, 1) := by decide +kernel
theorem bd_82_92 : decode (bn_b 82) 92 = .ok (.getfield 61, 3) := by decide +kernel
theorem bd_82_95 : decode (bn_b 82) 95 = .ok (.if_icmp .ge 148, 3) := by decide +kernel
theorem bd_82_98 : decode (bn_b 82) 98 = .ok (.aload_n 0, 1) := by decide +kernel
theorem bd_82_99 : decode (bn_b 82) 99 = .ok (.getfield 16, 3) := by decide +kernel
theorem bd_82_102 : decode (bn_b 82) 102 = .ok (.aload_n 0, 1) := by decide +kernel
theorem bd_82_103 : decode (bn_b 82) 103 = .ok (.getfield 69, 3) := by decide +kernel
theorem bd_82_106 : decode (bn_b 82) 106 = .ok (.iaload, 1) := by decide +kernel
theorem bd_82_107 : decode (bn_b 82) 107 = .ok (.bipush 80, 2) := by decide +kernel
theorem bd_82_109 : decode (bn_b 82) 109 = .ok (.if_icmp .ne 86, 3) := by decide +kernel
theorem bd_82_112 : decode (bn_b 82) 112 = .ok (.aload_n 0, 1) := by decide +kernel
theorem bd_82_113 : decode (bn_b 82) 113 = .ok (.getfield 77, 3) := by decide +kernel
theorem bd_82_116 : decode (bn_b 82) 116 = .ok (.iconst 5, 1) := by decide +kernel
theorem bd_82_117 : decode (bn_b 82) 117 = .ok (.if_icmp .ge 78, 3) := by decide +kernel
theorem bd_82_120 : decode (bn_b 82) 120 = .ok (.aload_n 0, 1) := by decide +kernel
theorem bd_82_121 : decode (bn_b 82) 121 = .ok (.dup, 1) := by decide +kernel
theorem bd_82_122 : decode (bn_b 82) 122 = .ok (.getfield 69, 3) := by decide +kernel
theorem bd_82_125 : decode (bn_b 82) 125 = .ok (.iconst 1, 1) := by decide +kernel
theorem bd_82_126 : decode (bn_b 82) 126 = .ok (.iadd, 1) := by decide +kernel
theorem bd_82_127 : decode (bn_b 82) 127 = .ok (.putfield 69, 3) := by decide +kernel
theorem bd_82_130 : decode (bn_b 82) 130 = .ok (.iconst 4, 1) := by decide +kernel
theorem bd_82_131 : decode (bn_b 82) 131 = .ok (.aload_n 0, 1) := by decide +kernel
theorem bd_82_132 : decode (bn_b 82) 132 = .ok (.getfield 77, 3) := by decide +kernel
theorem bd_82_135 : decode (bn_b 82) 135 = .ok (.imul, 1) := by decide +kernel
theorem bd_82_136 : decode (bn_b 82) 136 = .ok (.istore_n 1, 1) := by decide +kernel
theorem bd_82_137 : decode (bn_b 82) 137 = .ok (.aload_n 0, 1) := by decide +kernel
theorem bd_82_138 : decode (bn_b 82) 138 = .ok (.getfield 7, 3) := by decide +kernel
theorem bd_82_141 : decode (bn_b 82) 141 = .ok (.iload_n 1, 1) := by decide +kernel
theorem bd_82_142 : decode (bn_b 82) 142 = .ok (.aload_n 0, 1) := by decide +kernel
theorem bd_82_143 : decode (bn_b 82) 143 = .ok (.iconst 2, 1) := by decide +kernel
theorem bd_82_144 : decode (bn_b 82) 144 = .ok (.aload_n 0, 1) := by decide +kernel
theorem bd_82_145 : decode (bn_b 82) 145 = .ok (.getfield 87, 3) := by decide +kernel
theorem bd_82_148 : decode (bn_b 82) 148 = .ok (.ishl, 1) := by decide +kernel
theorem bd_82_149 : decode (bn_b 82) 149 = .ok (.iconst 1, 1) := by decide +kernel
theorem bd_82_150 : decode (bn_b 82) 150 = .ok (.isub, 1) := by decide +kernel
theorem bd_82_151 : decode (bn_b 82) 151 = .ok (.invokevirtual 80, 3) := by decide +kernel
theorem bd_82_154 : decode (bn_b 82) 154 = .ok (.iastore, 1) := by decide +kernel
theorem bd_82_155 : decode (bn_b 82) 155 = .ok (.aload_n 0, 1) := by decide +kernel
theorem bd_82_156 : decode (bn_b 82) 156 = .ok (.getfield 7, 3) := by decide +kernel
theorem bd_82_159 : decode (bn_b 82) 159 = .ok (.iload_n 1, 1) := by decide +kernel
theorem bd_82_160 : decode (bn_b 82) 160 = .ok (.iconst 1, 1) := by decide +kernel
theorem bd_82_161 : decode (bn_b 82) 161 = .ok (.iadd, 1) := by decide +kernel
theorem bd_82_162 : decode (bn_b 82) 162 = .ok (.iconst 1, 1) := by decide +kernel
theorem bd_82_163 : decode (bn_b 82) 163 = .ok (.iastore, 1) := by decide +kernel
theorem bd_82_164 : decode (bn_b 82) 164 = .ok (.aload_n 0, 1) := by decide +kernel
theorem bd_82_165 : decode (bn_b 82) 165 = .ok (.getfield 7, 3) := by decide +kernel
theorem bd_82_168 : decode (bn_b 82) 168 = .ok (.iload_n 1, 1) := by decide +kernel
theorem bd_82_169 : decode (bn_b 82) 169 = .ok (.iconst 2, 1) := by decide +kernel
theorem bd_82_170 : decode (bn_b 82) 170 = .ok (.iadd, 1) := by decide +kernel
theorem bd_82_171 : decode (bn_b 82) 171 = .ok (.iconst 0, 1) := by decide +kernel
theorem bd_82_172 : decode (bn_b 82) 172 = .ok (.iastore, 1) := by decide +kernel
theorem bd_82_173 : decode (bn_b 82) 173 = .ok (.aload_n 0, 1) := by decide +kernel
theorem bd_82_174 : decode (bn_b 82) 174 = .ok (.getfield 7, 3) := by decide +kernel
theorem bd_82_177 : decode (bn_b 82) 177 = .ok (.iload_n 1, 1) := by decide +kernel
theorem bd_82_178 : decode (bn_b 82) 178 = .ok (.iconst 3, 1) := by decide +kernel
theorem bd_82_179 : decode (bn_b 82) 179 = .ok (.iadd, 1) := by decide +kernel
theorem bd_82_180 : decode (bn_b 82) 180 = .ok (.iconst 0, 1) := by decide +kernel
theorem bd_82_181 : decode (bn_b 82) 181 = .ok (.iastore, 1) := by decide +kernel
theorem bd_82_182 : decode (bn_b 82) 182 = .ok (.aload_n 0, 1) := by decide +kernel
theorem bd_82_183 : decode (bn_b 82) 183 = .ok (.dup, 1) := by decide +kernel
theorem bd_82_184 : decode (bn_b 82) 184 = .ok (.getfield 77, 3) := by decide +kernel
theorem bd_82_187 : decode (bn_b 82) 187 = .ok (.iconst 1, 1) := by decide +kernel
theorem bd_82_188 : decode (bn_b 82) 188 = .ok (.iadd, 1) := by decide +kernel
theorem bd_82_189 : decode (bn_b 82) 189 = .ok (.putfield 77, 3) := by decide +kernel
theorem bd_82_192 : decode (bn_b 82) 192 = .ok (.goto (-114), 3) := by decide +kernel
theorem bd_82_195 : decode (bn_b 82) 195 = .ok (.aload_n 0, 1) := by decide +kernel
theorem bd_82_196 : decode (bn_b 82) 196 = .ok (.getfield 16, 3) := by decide +kernel
theorem bd_82_199 : decode (bn_b 82) 199 = .ok (.aload_n 0, 1) := by decide +kernel
theorem bd_82_200 : decode (bn_b 82) 200 = .ok (.getfield 69, 3) := by decide +kernel
theorem bd_82_203 : decode (bn_b 82) 203 = .ok (.iaload, 1) := by decide +kernel
theorem bd_82_204 : decode (bn_b 82) 204 = .ok (.bipush 76, 2) := by decide +kernel
theorem bd_82_206 : decode (bn_b 82) 206 = .ok (.if_icmp .ne 26, 3) := by decide +kernel
theorem bd_82_209 : decode (bn_b 82) 209 = .ok (.aload_n 0, 1) := by decide +kernel
theorem bd_82_210 : decode (bn_b 82) 210 = .ok (.getfield 74, 3) := by decide +kernel
theorem bd_82_213 : decode (bn_b 82) 213 = .ok (.bipush 10, 2) := by decide +kernel
theorem bd_82_215 : decode (bn_b 82) 215 = .ok (.if_icmp .ge 17, 3) := by decide +kernel
theorem bd_82_218 : decode (bn_b 82) 218 = .ok (.aload_n 0, 1) := by decide +kernel
theorem bd_82_219 : decode (bn_b 82) 219 = .ok (.getfield 77, 3) := by decide +kernel
theorem bd_82_222 : decode (bn_b 82) 222 = .ok (.ifCond .le 10, 3) := by decide +kernel
theorem bd_82_225 : decode (bn_b 82) 225 = .ok (.aload_n 0, 1) := by decide +kernel
theorem bd_82_226 : decode (bn_b 82) 226 = .ok (.invokevirtual 93, 3) := by decide +kernel
theorem bd_82_229 : decode (bn_b 82) 229 = .ok (.goto (-151), 3) := by decide +kernel
theorem bd_82_232 : decode (bn_b 82) 232 = .ok (.aload_n 0, 1) := by decide +kernel
theorem bd_82_233 : decode (bn_b 82) 233 = .ok (.aload_n 0, 1) := by decide +kernel
theorem bd_82_234 : decode (bn_b 82) 234 = .ok (.getfield 69, 3) := by decide +kernel
theorem bd_82_237 : decode (bn_b 82) 237 = .ok (.putfield 66, 3) := by decide +kernel
theorem bd_82_240 : decode (bn_b 82) 240 = .ok (.goto (-162), 3) := by decide +kernel
theorem bd_82_243 : decode (bn_b 82) 243 = .ok (.aload_n 0, 1) := by decide +kernel
theorem bd_82_244 : decode (bn_b 82) 244 = .ok (.getfield 66, 3) := by decide +kernel
theorem bd_82_247 : decode (bn_b 82) 247 = .ok (.ireturn, 1) := by decide +kernel
theorem bd_83_0 : decode (bn_b 83) 0 = .ok (.aload_n 0, 1) := by decide +kernel
theorem bd_83_1 : decode (bn_b 83) 1 = .ok (.dup, 1) := by decide +kernel
theorem bd_83_2 : decode (bn_b 83) 2 = .ok (.getfield 69, 3) := by decide +kernel
theorem bd_83_5 : decode (bn_b 83) 5 = .ok (.iconst 1, 1) := by decide +kernel
theorem bd_83_6 : decode (bn_b 83) 6 = .ok (.iadd, 1) := by decide +kernel
theorem bd_83_7 : decode (bn_b 83) 7 = .ok (.putfield 69, 3) := by decide +kernel
theorem bd_83_10 : decode (bn_b 83) 10 = .ok (.iconst 0, 1) := by decide +kernel
theorem bd_83_11 : decode (bn_b 83) 11 = .ok (.istore_n 1, 1) := by decide +kernel
theorem bd_83_12 : decode (bn_b 83) 12 = .ok (.iconst 0, 1) := by decide +kernel
theorem bd_83_13 : decode (bn_b 83) 13 = .ok (.istore_n 2, 1) := by decide +kernel
theorem bd_83_14 : decode (bn_b 83) 14 = .ok (.iload_n 2, 1) := by decide +kernel
theorem bd_83_15 : decode (bn_b 83) 15 = .ok (.bipush 10, 2) := by decide +kernel
theorem bd_83_17 : decode (bn_b 83) 17 = .ok (.if_icmp .ge 27, 3) := by decide +kernel
theorem bd_83_20 : decode (bn_b 83) 20 = .ok (.iload_n 1, 1) := by decide +kernel
theorem bd_83_21 : decode (bn_b 83) 21 = .ok (.aload_n 0, 1) := by decide +kernel
theorem bd_83_22 : decode (bn_b 83) 22 = .ok (.iload_n 2, 1) := by decide +kernel
theorem bd_83_23 : decode (bn_b 83) 23 = .ok (.invokevirtual 96, 3) := by decide +kernel
theorem bd_83_26 : decode (bn_b 83) 26 = .ok (.ifCond .eq 9, 3) := by decide +kernel
theorem bd_83_29 : decode (bn_b 83) 29 = .ok (.iconst 1, 1) := by decide +kernel
theorem bd_83_30 : decode (bn_b 83) 30 = .ok (.iload_n 2, 1) := by decide +kernel
theorem bd_83_31 : decode (bn_b 83) 31 = .ok (.ishl, 1) := by decide +kernel
theorem bd_83_32 : decode (bn_b 83) 32 = .ok (.goto 4, 3) := by decide +kernel
theorem bd_83_35 : decode (bn_b 83) 35 = .ok (.iconst 0, 1) := by decide +kernel
theorem bd_83_36 : decode (bn_b 83) 36 = .ok (.ior, 1) := by decide +kernel
theorem bd_83_37 : decode (bn_b 83) 37 = .ok (.istore_n 1, 1) := by decide +kernel
theorem bd_83_38 : decode (bn_b 83) 38 = .ok (.iinc 2 1, 3) := by decide +kernel
theorem bd_83_41 : decode (bn_b 83) 41 = .ok (.goto (-27), 3) := by decide +kernel
theorem bd_83_44 : decode (bn_b 83) 44 = .ok (.aload_n 0, 1) := by decide +kernel
theorem bd_83_45 : decode (bn_b 83) 45 = .ok (.iload_n 1, 1) := by decide +kernel
theorem bd_83_46 : decode (bn_b 83) 46 = .ok (.invokevirtual 80, 3) := by decide +kernel
theorem bd_83_49 : decode (bn_b 83) 49 = .ok (.istore_n 2, 1) := by decide +kernel
theorem bd_83_50 : decode (bn_b 83) 50 = .ok (.bipush 10, 2) := by decide +kernel
theorem bd_83_52 : decode (bn_b 83) 52 = .ok (.iload_n 2, 1) := by decide +kernel
theorem bd_83_53 : decode (bn_b 83) 53 = .ok (.imul, 1) := by decide +kernel
theorem bd_83_54 : decode (bn_b 83) 54 = .ok (.aload_n 0, 1) := by decide +kernel
theorem bd_83_55 : decode (bn_b 83) 55 = .ok (.aload_n 0, 1) := by decide +kernel
theorem bd_83_56 : decode (bn_b 83) 56 = .ok (.iload_n 2, 1) := by decide +kernel
theorem bd_83_57 : decode (bn_b 83) 57 = .ok (.invokevirtual 96, 3) := by decide +kernel
theorem bd_83_60 : decode (bn_b 83) 60 = .ok (.invokevirtual 80, 3) := by decide +kernel
theorem bd_83_63 : decode (bn_b 83) 63 = .ok (.iadd, 1) := by decide +kernel
theorem bd_83_64 : decode (bn_b 83) 64 = .ok (.istore_n 3, 1) := by decide +kernel
theorem bd_83_65 : decode (bn_b 83) 65 = .ok (.aload_n 0, 1) := by decide +kernel
theorem bd_83_66 : decode (bn_b 83) 66 = .ok (.iconst 1, 1) := by decide +kernel
theorem bd_83_67 : decode (bn_b 83) 67 = .ok (.aload_n 0, 1) := by decide +kernel
theorem bd_83_68 : decode (bn_b 83) 68 = .ok (.getfield 77, 3) := by decide +kernel
theorem bd_83_71 : decode (bn_b 83) 71 = .ok (.ishl, 1) := by decide +kernel
theorem bd_83_72 : decode (bn_b 83) 72 = .ok (.iconst 1, 1) := by decide +kernel
theorem bd_83_73 : decode (bn_b 83) 73 = .ok (.isub, 1) := by decide +kernel
theorem bd_83_74 : decode (bn_b 83) 74 = .ok (.invokevirtual 80, 3) := by decide +kernel
theorem bd_83_77 : decode (bn_b 83) 77 = .ok (.istore 4, 2) := by decide +kernel
theorem bd_83_79 : decode (bn_b 83) 79 = .ok (.bipush 20, 2) := by decide +kernel
theorem bd_83_81 : decode (bn_b 83) 81 = .ok (.iconst 5, 1) := by decide +kernel
theorem bd_83_82 : decode (bn_b 83) 82 = .ok (.aload_n 0, 1) := by decide +kernel
theorem bd_83_83 : decode (bn_b 83) 83 = .ok (.getfield 74, 3) := by decide +kernel
theorem bd_83_86 : decode (bn_b 83) 86 = .ok (.imul, 1) := by decide +kernel
theorem bd_83_87 : decode (bn_b 83) 87 = .ok (.iadd, 1) := by decide +kernel
theorem bd_83_88 : decode (bn_b 83) 88 = .ok (.istore 5, 2) := by decide +kernel
theorem bd_83_90 : decode (bn_b 83) 90 = .ok (.aload_n 0, 1) := by decide +kernel
theorem bd_83_91 : decode (bn_b 83) 91 = .ok (.getfield 7, 3) := by decide +kernel
theorem bd_83_94 : decode (bn_b 83) 94 = .ok (.iload 5, 2) := by decide +kernel
theorem bd_83_96 : decode (bn_b 83) 96 = .ok (.iload_n 3, 1) := by decide +kernel
theorem bd_83_97 : decode (bn_b 83) 97 = .ok (.iastore, 1) := by decide +kernel
theorem bd_83_98 : decode (bn_b 83) 98 = .ok (.aload_n 0, 1) := by decide +kernel
theorem bd_83_99 : decode (bn_b 83) 99 = .ok (.getfield 7, 3) := by decide +kernel
theorem bd_83_102 : decode (bn_b 83) 102 = .ok (.iload 5, 2) := by decide +kernel
theorem bd_83_104 : decode (bn_b 83) 104 = .ok (.iconst 1, 1) := by decide +kernel
theorem bd_83_105 : decode (bn_b 83) 105 = .ok (.iadd, 1) := by decide +kernel
theorem bd_83_106 : decode (bn_b 83) 106 = .ok (.iload 4, 2) := by decide +kernel
theorem bd_83_108 : decode (bn_b 83) 108 = .ok (.iastore, 1) := by decide +kernel
theorem bd_83_109 : decode (bn_b 83) 109 = .ok (.aload_n 0, 1) := by decide +kernel
theorem bd_83_110 : decode (bn_b 83) 110 = .ok (.getfield 7, 3) := by decide +kernel
theorem bd_83_113 : decode (bn_b 83) 113 = .ok (.iload 5, 2) := by decide +kernel
theorem bd_83_115 : decode (bn_b 83) 115 = .ok (.iconst 2, 1) := by decide +kernel
theorem bd_83_116 : decode (bn_b 83) 116 = .ok (.iadd, 1) := by decide +kernel
theorem bd_83_117 : decode (bn_b 83) 117 = .ok (.aload_n 0, 1) := by decide +kernel
theorem bd_83_118 : decode (bn_b 83) 118 = .ok (.sipush 1023, 3) := by decide +kernel
theorem bd_83_121 : decode (bn_b 83) 121 = .ok (.invokevirtual 80, 3) := by decide +kernel
theorem bd_83_124 : decode (bn_b 83) 124 = .ok (.iastore, 1) := by decide +kernel
theorem bd_83_125 : decode (bn_b 83) 125 = .ok (.aload_n 0, 1) := by decide +kernel
theorem bd_83_126 : decode (bn_b 83) 126 = .ok (.getfield 7, 3) := by decide +kernel
theorem bd_83_129 : decode (bn_b 83) 129 = .ok (.iload 5, 2) := by decide +kernel
theorem bd_83_131 : decode (bn_b 83) 131 = .ok (.iconst 3, 1) := by decide +kernel
theorem bd_83_132 : decode (bn_b 83) 132 = .ok (.iadd, 1) := by decide +kernel
theorem bd_83_133 : decode (bn_b 83) 133 = .ok (.bipush (-9), 2) := by decide +kernel
theorem bd_83_135 : decode (bn_b 83) 135 = .ok (.iastore, 1) := by decide +kernel
theorem bd_83_136 : decode (bn_b 83) 136 = .ok (.aload_n 0, 1) := by decide +kernel
theorem bd_83_137 : decode (bn_b 83) 137 = .ok (.getfield 7, 3) := by decide +kernel
theorem bd_83_140 : decode (bn_b 83) 140 = .ok (.iload 5, 2) := by decide +kernel
theorem bd_83_142 : decode (bn_b 83) 142 = .ok (.iconst 4, 1) := by decide +kernel
theorem bd_83_143 : decode (bn_b 83) 143 = .ok (.iadd, 1) := by decide +kernel
theorem bd_83_144 : decode (bn_b 83) 144 = .ok (.bipush (-9), 2) := by decide +kernel
theorem bd_83_146 : decode (bn_b 83) 146 = .ok (.iastore, 1) := by decide +kernel
theorem bd_83_147 : decode (bn_b 83) 147 = .ok (.aload_n 0, 1) := by decide +kernel
theorem bd_83_148 : decode (bn_b 83) 148 = .ok (.dup, 1) := by decide +kernel
theorem bd_83_149 : decode (bn_b 83) 149 = .ok (.getfield 74, 3) := by decide +kernel
theorem bd_83_152 : decode (bn_b 83) 152 = .ok (.iconst 1, 1) := by decide +kernel
theorem bd_83_153 : decode (bn_b 83) 153 = .ok (.iadd, 1) := by decide +kernel
theorem bd_83_154 : decode (bn_b 83) 154 = .ok (.putfield 74, 3) := by decide +kernel
theorem bd_83_157 : decode (bn_b 83) 157 = .ok (.return_, 1) := by decide +kernel
theorem bd_84_0 : decode (bn_b 84) 0 = .ok (.aload_n 0, 1) := by decide +kernel
theorem bd_84_1 : decode (bn_b 84) 1 = .ok (.invokevirtual 99, 3) := by decide +kernel
theorem bd_84_4 : decode (bn_b 84) 4 = .ok (.ireturn, 1) := by decide +kernel
theorem bd_85_0 : decode (bn_b 85) 0 = .ok (.aload_n 0, 1) := by decide +kernel
theorem bd_85_1 : decode (bn_b 85) 1 = .ok (.invokevirtual 99, 3) := by decide +kernel
theorem bd_85_4 : decode (bn_b 85) 4 = .ok (.bipush (-9), 2) := by decide +kernel
theorem bd_85_6 : decode (bn_b 85) 6 = .ok (.if_icmp .eq 6, 3) := by decide +kernel
theorem bd_85_9 : decode (bn_b 85) 9 = .ok (.bipush (-3), 2) := by decide +kernel
theorem bd_85_11 : decode (bn_b 85) 11 = .ok (.ireturn, 1) := by decide +kernel
theorem bd_85_12 : decode (bn_b 85) 12 = .ok (.iconst 0, 1) := by decide +kernel
theorem bd_85_13 : decode (bn_b 85) 13 = .ok (.istore_n 1, 1) := by decide +kernel
theorem bd_85_14 : decode (bn_b 85) 14 = .ok (.iload_n 1, 1) := by decide +kernel
theorem bd_85_15 : decode (bn_b 85) 15 = .ok (.bipush 70, 2) := by decide +kernel
theorem bd_85_17 : decode (bn_b 85) 17 = .ok (.if_icmp .ge 21, 3) := by decide +kernel
theorem bd_85_20 : decode (bn_b 85) 20 = .ok (.aload_n 0, 1) := by decide +kernel
theorem bd_85_21 : decode (bn_b 85) 21 = .ok (.getfield 13, 3) := by decide +kernel
theorem bd_85_24 : decode (bn_b 85) 24 = .ok (.iload_n 1, 1) := by decide +kernel
theorem bd_85_25 : decode (bn_b 85) 25 = .ok (.aload_n 0, 1) := by decide +kernel
theorem bd_85_26 : decode (bn_b 85) 26 = .ok (.getfield 7, 3) := by decide +kernel
theorem bd_85_29 : decode (bn_b 85) 29 = .ok (.iload_n 1, 1) := by decide +kernel
theorem bd_85_30 : decode (bn_b 85) 30 = .ok (.iaload, 1) := by decide +kernel
theorem bd_85_31 : decode (bn_b 85) 31 = .ok (.iastore, 1) := by decide +kernel
theorem bd_85_32 : decode (bn_b 85) 32 = .ok (.iinc 1 1, 3) := by decide +kernel
theorem bd_85_35 : decode (bn_b 85) 35 = .ok (.goto (-21), 3) := by decide +kernel
theorem bd_85_38 : decode (bn_b 85) 38 = .ok (.aload_n 0, 1) := by decide +kernel
theorem bd_85_39 : decode (bn_b 85) 39 = .ok (.getfield 13, 3) := by decide +kernel
theorem bd_85_42 : decode (bn_b 85) 42 = .ok (.bipush 70, 2) := by decide +kernel
theorem bd_85_44 : decode (bn_b 85) 44 = .ok (.iconst 0, 1) := by decide +kernel
theorem bd_85_45 : decode (bn_b 85) 45 = .ok (.iastore, 1) := by decide +kernel
theorem bd_85_46 : decode (bn_b 85) 46 = .ok (.aload_n 0, 1) := by decide +kernel
theorem bd_85_47 : decode (bn_b 85) 47 = .ok (.aload_n 0, 1) := by decide +kernel
theorem bd_85_48 : decode (bn_b 85) 48 = .ok (.getfield 84, 3) := by decide +kernel
theorem bd_85_51 : decode (bn_b 85) 51 = .ok (.putfield 103, 3) := by decide +kernel
theorem bd_85_54 : decode (bn_b 85) 54 = .ok (.aload_n 0, 1) := by decide +kernel
theorem bd_85_55 : decode (bn_b 85) 55 = .ok (.aload_n 0, 1) := by decide +kernel
theorem bd_85_56 : decode (bn_b 85) 56 = .ok (.getfield 87, 3) := by decide +kernel
theorem bd_85_59 : decode (bn_b 85) 59 = .ok (.putfield 48, 3) := by decide +kernel
theorem bd_85_62 : decode (bn_b 85) 62 = .ok (.aload_n 0, 1) := by decide +kernel
theorem bd_85_63 : decode (bn_b 85) 63 = .ok (.aload_n 0, 1) := by decide +kernel
theorem bd_85_64 : decode (bn_b 85) 64 = .ok (.getfield 90, 3) := by decide +kernel
theorem bd_85_67 : decode (bn_b 85) 67 = .ok (.putfield 52, 3) := by decide +kernel
theorem bd_85_70 : decode (bn_b 85) 70 = .ok (.aload_n 0, 1) := by decide +kernel
theorem bd_85_71 : decode (bn_b 85) 71 = .ok (.aload_n 0, 1) := by decide +kernel
theorem bd_85_72 : decode (bn_b 85) 72 = .ok (.getfield 77, 3) := by decide +kernel
theorem bd_85_75 : decode (bn_b 85) 75 = .ok (.putfield 106, 3) := by decide +kernel
theorem bd_85_78 : decode (bn_b 85) 78 = .ok (.aload_n 0, 1) := by decide +kernel
theorem bd_85_79 : decode (bn_b 85) 79 = .ok (.aload_n 0, 1) := by decide +kernel
theorem bd_85_80 : decode (bn_b 85) 80 = .ok (.getfield 74, 3) := by decide +kernel
theorem bd_85_83 : decode (bn_b 85) 83 = .ok (.putfield 109, 3) := by decide +kernel
theorem bd_85_86 : decode (bn_b 85) 86 = .ok (.aload_n 0, 1) := by decide +kernel
theorem bd_85_87 : decode (bn_b 85) 87 = .ok (.iconst 0, 1) := by decide +kernel
theorem bd_85_88 : decode (bn_b 85) 88 = .ok (.putfield 112, 3) := by decide +kernel
theorem bd_85_91 : decode (bn_b 85) 91 = .ok (.aload_n 0, 1) := by decide +kernel
theorem bd_85_92 : decode (bn_b 85) 92 = .ok (.getfield 39, 3) := by decide +kernel
theorem bd_85_95 : decode (bn_b 85) 95 = .ok (.iconst 0, 1) := by decide +kernel
theorem bd_85_96 : decode (bn_b 85) 96 = .ok (.iconst 0, 1) := by decide +kernel
theorem bd_85_97 : decode (bn_b 85) 97 = .ok (.bastore, 1) := by decide +kernel
theorem bd_85_98 : decode (bn_b 85) 98 = .ok (.aload_n 0, 1) := by decide +kernel
theorem bd_85_99 : decode (bn_b 85) 99 = .ok (.getfield 39, 3) := by decide +kernel
theorem bd_85_102 : decode (bn_b 85) 102 = .ok (.iconst 1, 1) := by decide +kernel
theorem bd_85_103 : decode (bn_b 85) 103 = .ok (.iconst 0, 1) := by decide +kernel
theorem bd_85_104 : decode (bn_b 85) 104 = .ok (.bastore, 1) := by decide +kernel
theorem bd_85_105 : decode (bn_b 85) 105 = .ok (.bipush 100, 2) := by decide +kernel
theorem bd_85_107 : decode (bn_b 85) 107 = .ok (.aload_n 0, 1) := by decide +kernel
theorem bd_85_108 : decode (bn_b 85) 108 = .ok (.getfield 106, 3) := by decide +kernel
theorem bd_85_111 : decode (bn_b 85) 111 = .ok (.imul, 1) := by decide +kernel
theorem bd_85_112 : decode (bn_b 85) 112 = .ok (.aload_n 0, 1) := by decide +kernel
theorem bd_85_113 : decode (bn_b 85) 113 = .ok (.getfield 109, 3) := by decide +kernel
theorem bd_85_116 : decode (bn_b 85) 116 = .ok (.iadd, 1) := by decide +kernel
theorem bd_85_117 : decode (bn_b 85) 117 = .ok (.ireturn, 1) := by decide +kernel
theorem bd_86_0 : decode (bn_b 86) 0 = .ok (.iload_n 1, 1) := by decide +kernel
theorem bd_86_1 : decode (bn_b 86) 1 = .ok (.i2l, 1) := by decide +kernel
theorem bd_86_2 : decode (bn_b 86) 2 = .ok (.lconst 0, 1) := by decide +kernel
theorem bd_86_3 : decode (bn_b 86) 3 = .ok (.aload_n 0, 1) := by decide +kernel
theorem bd_86_4 : decode (bn_b 86) 4 = .ok (.getfield 106, 3) := by decide +kernel
theorem bd_86_7 : decode (bn_b 86) 7 = .ok (.iconst 1, 1) := by decide +kernel
theorem bd_86_8 : decode (bn_b 86) 8 = .ok (.isub, 1) := by decide +kernel
theorem bd_86_9 : decode (bn_b 86) 9 = .ok (.i2l, 1) := by decide +kernel
theorem bd_86_10 : decode (bn_b 86) 10 = .ok (.invokestatic 57, 3) := by decide +kernel
theorem bd_86_13 : decode (bn_b 86) 13 = .ok (.ireturn, 1) := by decide +kernel
theorem bd_87_0 : decode (bn_b 87) 0 = .ok (.iload_n 1, 1) := by decide +kernel
theorem bd_87_1 : decode (bn_b 87) 1 = .ok (.i2l, 1) := by decide +kernel
theorem bd_87_2 : decode (bn_b 87) 2 = .ok (.lconst 0, 1) := by decide +kernel
theorem bd_87_3 : decode (bn_b 87) 3 = .ok (.aload_n 0, 1) := by decide +kernel
theorem bd_87_4 : decode (bn_b 87) 4 = .ok (.getfield 109, 3) := by decide +kernel
theorem bd_87_7 : decode (bn_b 87) 7 = .ok (.iconst 1, 1) := by decide +kernel
theorem bd_87_8 : decode (bn_b 87) 8 = .ok (.isub, 1) := by decide +kernel
theorem bd_87_9 : decode (bn_b 87) 9 = .ok (.i2l, 1) := by decide +kernel
theorem bd_87_10 : decode (bn_b 87) 10 = .ok (.invokestatic 57, 3) := by decide +kernel
theorem bd_87_13 : decode (bn_b 87) 13 = .ok (.ireturn, 1) := by decide +kernel
theorem bd_88_0 : decode (bn_b 88) 0 = .ok (.aload_n 0, 1) := by decide +kernel
theorem bd_88_1 : decode (bn_b 88) 1 = .ok (.getfield 13, 3) := by decide +kernel
theorem bd_88_4 : decode (bn_b 88) 4 = .ok (.bipush 20, 2) := by decide +kernel
theorem bd_88_6 : decode (bn_b 88) 6 = .ok (.iconst 5, 1) := by decide +kernel
theorem bd_88_7 : decode (bn_b 88) 7 = .ok (.iload_n 1, 1) := by decide +kernel
theorem bd_88_8 : decode (bn_b 88) 8 = .ok (.imul, 1) := by decide +kernel
theorem bd_88_9 : decode (bn_b 88) 9 = .ok (.iadd, 1) := by decide +kernel
theorem bd_88_10 : decode (bn_b 88) 10 = .ok (.iaload, 1) := by decide +kernel
theorem bd_88_11 : decode (bn_b 88) 11 = .ok (.ireturn, 1) := by decide +kernel
theorem bd_89_0 : decode (bn_b 89) 0 = .ok (.aload_n 0, 1) := by decide +kernel
theorem bd_89_1 : decode (bn_b 89) 1 = .ok (.getfield 13, 3) := by decide +kernel
theorem bd_89_4 : decode (bn_b 89) 4 = .ok (.bipush 21, 2) := by decide +kernel
theorem bd_89_6 : decode (bn_b 89) 6 = .ok (.iconst 5, 1) := by decide +kernel
theorem bd_89_7 : decode (bn_b 89) 7 = .ok (.iload_n 1, 1) := by decide +kernel
theorem bd_89_8 : decode (bn_b 89) 8 = .ok (.imul, 1) := by decide +kernel
theorem bd_89_9 : decode (bn_b 89) 9 = .ok (.iadd, 1) := by decide +kernel
theorem bd_89_10 : decode (bn_b 89) 10 = .ok (.iaload, 1) := by decide +kernel
theorem bd_89_11 : decode (bn_b 89) 11 = .ok (.ireturn, 1) := by decide +kernel
theorem bd_90_0 : decode (bn_b 90) 0 = .ok (.aload_n 0, 1) := by decide +kernel
theorem bd_90_1 : decode (bn_b 90) 1 = .ok (.getfield 13, 3) := by decide +kernel
theorem bd_90_4 : decode (bn_b 90) 4 = .ok (.bipush 22, 2) := by decide +kernel
theorem bd_90_6 : decode (bn_b 90) 6 = .ok (.iconst 5, 1) := by decide +kernel
theorem bd_90_7 : decode (bn_b 90) 7 = .ok (.iload_n 1, 1) := by decide +kernel
theorem bd_90_8 : decode (bn_b 90) 8 = .ok (.imul, 1) := by decide +kernel
theorem bd_90_9 : decode (bn_b 90) 9 = .ok (.iadd, 1) := by decide +kernel
theorem bd_90_10 : decode (bn_b 90) 10 = .ok (.iaload, 1) := by decide +kernel
theorem bd_90_11 : decode (bn_b 90) 11 = .ok (.aload_n 0, 1) := by decide +kernel
theorem bd_90_12 : decode (bn_b 90) 12 = .ok (.getfield 52, 3) := by decide +kernel
theorem bd_90_15 : decode (bn_b 90) 15 = .ok (.if_icmp .lt 7, 3) := by decide +kernel
theorem bd_90_18 : decode (bn_b 90) 18 = .ok (.iconst 1, 1) := by decide +kernel
theorem bd_90_19 : decode (bn_b 90) 19 = .ok (.goto 4, 3) := by decide +kernel
theorem bd_90_22 : decode (bn_b 90) 22 = .ok (.iconst 0, 1) := by decide +kernel
theorem bd_90_23 : decode (bn_b 90) 23 = .ok (.ireturn, 1) := by decide +kernel
theorem bd_91_0 : decode (bn_b 91) 0 = .ok (.iconst 0, 1) := by decide +kernel
theorem bd_91_1 : decode (bn_b 91) 1 = .ok (.istore_n 2, 1) := by decide +kernel
theorem bd_91_2 : decode (bn_b 91) 2 = .ok (.iconst 0, 1) := by decide +kernel
theorem bd_91_3 : decode (bn_b 91) 3 = .ok (.istore_n 3, 1) := by decide +kernel
theorem bd_91_4 : decode (bn_b 91) 4 = .ok (.iload_n 3, 1) := by decide +kernel
theorem bd_91_5 : decode (bn_b 91) 5 = .ok (.aload_n 0, 1) := by decide +kernel
theorem bd_91_6 : decode (bn_b 91) 6 = .ok (.getfield 109, 3) := by decide +kernel
theorem bd_91_9 : decode (bn_b 91) 9 = .ok (.if_icmp .ge 28, 3) := by decide +kernel
theorem bd_91_12 : decode (bn_b 91) 12 = .ok (.iload_n 2, 1) := by decide +kernel
theorem bd_91_13 : decode (bn_b 91) 13 = .ok (.aload_n 0, 1) := by decide +kernel
theorem bd_91_14 : decode (bn_b 91) 14 = .ok (.iload_n 3, 1) := by decide +kernel
theorem bd_91_15 : decode (bn_b 91) 15 = .ok (.invokevirtual 115, 3) := by decide +kernel
theorem bd_91_18 : decode (bn_b 91) 18 = .ok (.iload_n 1, 1) := by decide +kernel
theorem bd_91_19 : decode (bn_b 91) 19 = .ok (.if_icmp .ne 9, 3) := by decide +kernel
theorem bd_91_22 : decode (bn_b 91) 22 = .ok (.iconst 1, 1) := by decide +kernel
theorem bd_91_23 : decode (bn_b 91) 23 = .ok (.iload_n 3, 1) := by decide +kernel
theorem bd_91_24 : decode (bn_b 91) 24 = .ok (.ishl, 1) := by decide +kernel
theorem bd_91_25 : decode (bn_b 91) 25 = .ok (.goto 4, 3) := by decide +kernel
theorem bd_91_28 : decode (bn_b 91) 28 = .ok (.iconst 0, 1) := by decide +kernel
theorem bd_91_29 : decode (bn_b 91) 29 = .ok (.ior, 1) := by decide +kernel
theorem bd_91_30 : decode (bn_b 91) 30 = .ok (.istore_n 2, 1) := by decide +kernel
theorem bd_91_31 : decode (bn_b 91) 31 = .ok (.iinc 3 1, 3) := by decide +kernel
theorem bd_91_34 : decode (bn_b 91) 34 = .ok (.goto (-30), 3) := by decide +kernel
theorem bd_91_37 : decode (bn_b 91) 37 = .ok (.iload_n 2, 1) := by decide +kernel
theorem bd_91_38 : decode (bn_b 91) 38 = .ok (.ireturn, 1) := by decide +kernel
theorem bd_92_0 : decode (bn_b 92) 0 = .ok (.aload_n 0, 1) := by decide +kernel
theorem bd_92_1 : decode (bn_b 92) 1 = .ok (.iload_n 1, 1) := by decide +kernel
theorem bd_92_2 : decode (bn_b 92) 2 = .ok (.invokevirtual 118, 3) := by decide +kernel
theorem bd_92_5 : decode (bn_b 92) 5 = .ok (.ifCond .ne 5, 3) := by decide +kernel
theorem bd_92_8 : decode (bn_b 92) 8 = .ok (.iconst (-1), 1) := by decide +kernel
theorem bd_92_9 : decode (bn_b 92) 9 = .ok (.ireturn, 1) := by decide +kernel
theorem bd_92_10 : decode (bn_b 92) 10 = .ok (.iload_n 2, 1) := by decide +kernel
theorem bd_92_11 : decode (bn_b 92) 11 = .ok (.tableswitch 61 0 4 #[33, 33, 33, 44, 50], 33) := by decide +kernel
theorem bd_92_44 : decode (bn_b 92) 44 = .ok (.aload_n 0, 1) := by decide +kernel
theorem bd_92_45 : decode (bn_b 92) 45 = .ok (.getfield 13, 3) := by decide +kernel
theorem bd_92_48 : decode (bn_b 92) 48 = .ok (.iconst 4, 1) := by decide +kernel
theorem bd_92_49 : decode (bn_b 92) 49 = .ok (.iload_n 1, 1) := by decide +kernel
theorem bd_92_50 : decode (bn_b 92) 50 = .ok (.imul, 1) := by decide +kernel
theorem bd_92_51 : decode (bn_b 92) 51 = .ok (.iload_n 2, 1) := by decide +kernel
theorem bd_92_52 : decode (bn_b 92) 52 = .ok (.iadd, 1) := by decide +kernel
theorem bd_92_53 : decode (bn_b 92) 53 = .ok (.iaload, 1) := by decide +kernel
theorem bd_92_54 : decode (bn_b 92) 54 = .ok (.ireturn, 1) := by decide +kernel
theorem bd_92_55 : decode (bn_b 92) 55 = .ok (.aload_n 0, 1) := by decide +kernel
theorem bd_92_56 : decode (bn_b 92) 56 = .ok (.iload_n 1, 1) := by decide +kernel
theorem bd_92_57 : decode (bn_b 92) 57 = .ok (.invokevirtual 122, 3) := by decide +kernel
theorem bd_92_60 : decode (bn_b 92) 60 = .ok (.ireturn, 1) := by decide +kernel
theorem bd_92_61 : decode (bn_b 92) 61 = .ok (.aload_n 0, 1) := by decide +kernel
theorem bd_92_62 : decode (bn_b 92) 62 = .ok (.getfield 13, 3) := by decide +kernel
theorem bd_92_65 : decode (bn_b 92) 65 = .ok (.iconst 4, 1) := by decide +kernel
theorem bd_92_66 : decode (bn_b 92) 66 = .ok (.iload_n 1, 1) := by decide +kernel
theorem bd_92_67 : decode (bn_b 92) 67 = .ok (.imul, 1) := by decide +kernel
theorem bd_92_68 : decode (bn_b 92) 68 = .ok (.iconst 3, 1) := by decide +kernel
theorem bd_92_69 : decode (bn_b 92) 69 = .ok (.iadd, 1) := by decide +kernel
theorem bd_92_70 : decode (bn_b 92) 70 = .ok (.iaload, 1) := by decide +kernel
theorem bd_92_71 : decode (bn_b 92) 71 = .ok (.ireturn, 1) := by decide +kernel
theorem bd_92_72 : decode (bn_b 92) 72 = .ok (.bipush (-2), 2) := by decide +kernel
theorem bd_92_74 : decode (bn_b 92) 74 = .ok (.ireturn, 1) := by decide +kernel
theorem bd_93_0 : decode (bn_b 93) 0 = .ok (.aload_n 0, 1) := by decide +kernel
theorem bd_93_1 : decode (bn_b 93) 1 = .ok (.iload_n 1, 1) := by decide +kernel
theorem bd_93_2 : decode (bn_b 93) 2 = .ok (.invokevirtual 125, 3) := by decide +kernel
theorem bd_93_5 : decode (bn_b 93) 5 = .ok (.ifCond .ne 5, 3) := by decide +kernel
theorem bd_93_8 : decode (bn_b 93) 8 = .ok (.iconst (-1), 1) := by decide +kernel
theorem bd_93_9 : decode (bn_b 93) 9 = .ok (.ireturn, 1) := by decide +kernel
theorem bd_93_10 : decode (bn_b 93) 10 = .ok (.iload_n 2, 1) := by decide +kernel
theorem bd_93_11 : decode (bn_b 93) 11 = .ok (.tableswitch 79 0 5 #[37, 37, 37, 51, 65, 65], 37) := by decide +kernel
theorem bd_93_48 : decode (bn_b 93) 48 = .ok (.aload_n 0, 1) := by decide +kernel
theorem bd_93_49 : decode (bn_b 93) 49 = .ok (.getfield 13, 3) := by decide +kernel
theorem bd_93_52 : decode (bn_b 93) 52 = .ok (.bipush 20, 2) := by decide +kernel
theorem bd_93_54 : decode (bn_b 93) 54 = .ok (.iconst 5, 1) := by decide +kernel
theorem bd_93_55 : decode (bn_b 93) 55 = .ok (.iload_n 1, 1) := by decide +kernel
theorem bd_93_56 : decode (bn_b 93) 56 = .ok (.imul, 1) := by decide +kernel
theorem bd_93_57 : decode (bn_b 93) 57 = .ok (.iadd, 1) := by decide +kernel
theorem bd_93_58 : decode (bn_b 93) 58 = .ok (.iload_n 2, 1) := by decide +kernel
theorem bd_93_59 : decode (bn_b 93) 59 = .ok (.iadd, 1) := by decide +kernel
theorem bd_93_60 : decode (bn_b 93) 60 = .ok (.iaload, 1) := by decide +kernel
theorem bd_93_61 : decode (bn_b 93) 61 = .ok (.ireturn, 1) := by decide +kernel
theorem bd_93_62 : decode (bn_b 93) 62 = .ok (.aload_n 0, 1) := by decide +kernel
theorem bd_93_63 : decode (bn_b 93) 63 = .ok (.iload_n 1, 1) := by decide +kernel
theorem bd_93_64 : decode (bn_b 93) 64 = .ok (.invokevirtual 128, 3) := by decide +kernel
theorem bd_93_67 : decode (bn_b 93) 67 = .ok (.ifCond .eq 7, 3) := by decide +kernel
theorem bd_93_70 : decode (bn_b 93) 70 = .ok (.iconst 1, 1) := by decide +kernel
theorem bd_93_71 : decode (bn_b 93) 71 = .ok (.goto 4, 3) := by decide +kernel
theorem bd_93_74 : decode (bn_b 93) 74 = .ok (.iconst 0, 1) := by decide +kernel
theorem bd_93_75 : decode (bn_b 93) 75 = .ok (.ireturn, 1) := by decide +kernel
theorem bd_93_76 : decode (bn_b 93) 76 = .ok (.aload_n 0, 1) := by decide +kernel
theorem bd_93_77 : decode (bn_b 93) 77 = .ok (.getfield 13, 3) := by decide +kernel
theorem bd_93_80 : decode (bn_b 93) 80 = .ok (.bipush 19, 2) := by decide +kernel
theorem bd_93_82 : decode (bn_b 93) 82 = .ok (.iconst 5, 1) := by decide +kernel
theorem bd_93_83 : decode (bn_b 93) 83 = .ok (.iload_n 1, 1) := by decide +kernel
theorem bd_93_84 : decode (bn_b 93) 84 = .ok (.imul, 1) := by decide +kernel
theorem bd_93_85 : decode (bn_b 93) 85 = .ok (.iadd, 1) := by decide +kernel
theorem bd_93_86 : decode (bn_b 93) 86 = .ok (.iload_n 2, 1) := by decide +kernel
theorem bd_93_87 : decode (bn_b 93) 87 = .ok (.iadd, 1) := by decide +kernel
theorem bd_93_88 : decode (bn_b 93) 88 = .ok (.iaload, 1) := by decide +kernel
theorem bd_93_89 : decode (bn_b 93) 89 = .ok (.ireturn, 1) := by decide +kernel
theorem bd_93_90 : decode (bn_b 93) 90 = .ok (.bipush (-2), 2) := by decide +kernel
theorem bd_93_92 : decode (bn_b 93) 92 = .ok (.ireturn, 1) := by decide +kernel
theorem bd_94_0 : decode (bn_b 94) 0 = .ok (.iconst 0, 1) := by decide +kernel
theorem bd_94_1 : decode (bn_b 94) 1 = .ok (.istore_n 1, 1) := by decide +kernel
theorem bd_94_2 : decode (bn_b 94) 2 = .ok (.iload_n 1, 1) := by decide +kernel
theorem bd_94_3 : decode (bn_b 94) 3 = .ok (.bipush 71, 2) := by decide +kernel
theorem bd_94_5 : decode (bn_b 94) 5 = .ok (.if_icmp .ge 29, 3) := by decide +kernel
theorem bd_94_8 : decode (bn_b 94) 8 = .ok (.aload_n 0, 1) := by decide +kernel
theorem bd_94_9 : decode (bn_b 94) 9 = .ok (.getfield 19, 3) := by decide +kernel
theorem bd_94_12 : decode (bn_b 94) 12 = .ok (.bipush 72, 2) := by decide +kernel
theorem bd_94_14 : decode (bn_b 94) 14 = .ok (.aload_n 0, 1) := by decide +kernel
theorem bd_94_15 : decode (bn_b 94) 15 = .ok (.getfield 131, 3) := by decide +kernel
theorem bd_94_18 : decode (bn_b 94) 18 = .ok (.imul, 1) := by decide +kernel
theorem bd_94_19 : decode (bn_b 94) 19 = .ok (.iload_n 1, 1) := by decide +kernel
theorem bd_94_20 : decode (bn_b 94) 20 = .ok (.iadd, 1) := by decide +kernel
theorem bd_94_21 : decode (bn_b 94) 21 = .ok (.aload_n 0, 1) := by decide +kernel
theorem bd_94_22 : decode (bn_b 94) 22 = .ok (.getfield 13, 3) := by decide +kernel
theorem bd_94_25 : decode (bn_b 94) 25 = .ok (.iload_n 1, 1) := by decide +kernel
theorem bd_94_26 : decode (bn_b 94) 26 = .ok (.iaload, 1) := by decide +kernel
theorem bd_94_27 : decode (bn_b 94) 27 = .ok (.iastore, 1) := by decide +kernel
theorem bd_94_28 : decode (bn_b 94) 28 = .ok (.iinc 1 1, 3) := by decide +kernel
theorem bd_94_31 : decode (bn_b 94) 31 = .ok (.goto (-29), 3) := by decide +kernel
theorem bd_94_34 : decode (bn_b 94) 34 = .ok (.aload_n 0, 1) := by decide +kernel
theorem bd_94_35 : decode (bn_b 94) 35 = .ok (.getfield 22, 3) := by decide +kernel
theorem bd_94_38 : decode (bn_b 94) 38 = .ok (.aload_n 0, 1) := by decide +kernel
theorem bd_94_39 : decode (bn_b 94) 39 = .ok (.getfield 131, 3) := by decide +kernel
theorem bd_94_42 : decode (bn_b 94) 42 = .ok (.aload_n 0, 1) := by decide +kernel
theorem bd_94_43 : decode (bn_b 94) 43 = .ok (.getfield 134, 3) := by decide +kernel
theorem bd_94_46 : decode (bn_b 94) 46 = .ok (.lastore, 1) := by decide +kernel
theorem bd_94_47 : decode (bn_b 94) 47 = .ok (.aload_n 0, 1) := by decide +kernel
theorem bd_94_48 : decode (bn_b 94) 48 = .ok (.aload_n 0, 1) := by decide +kernel
theorem bd_94_49 : decode (bn_b 94) 49 = .ok (.getfield 131, 3) := by decide +kernel
theorem bd_94_52 : decode (bn_b 94) 52 = .ok (.iconst 1, 1) := by decide +kernel
theorem bd_94_53 : decode (bn_b 94) 53 = .ok (.iadd, 1) := by decide +kernel
theorem bd_94_54 : decode (bn_b 94) 54 = .ok (.bipush 20, 2) := by decide +kernel
theorem bd_94_56 : decode (bn_b 94) 56 = .ok (.irem, 1) := by decide +kernel
theorem bd_94_57 : decode (bn_b 94) 57 = .ok (.putfield 131, 3) := by decide +kernel
theorem bd_94_60 : decode (bn_b 94) 60 = .ok (.aload_n 0, 1) := by decide +kernel
theorem bd_94_61 : decode (bn_b 94) 61 = .ok (.aload_n 0, 1) := by decide +kernel
theorem bd_94_62 : decode (bn_b 94) 62 = .ok (.getfield 112, 3) := by decide +kernel
theorem bd_94_65 : decode (bn_b 94) 65 = .ok (.bipush 20, 2) := by decide +kernel
theorem bd_94_67 : decode (bn_b 94) 67 = .ok (.if_icmp .ge 12, 3) := by decide +kernel
theorem bd_94_70 : decode (bn_b 94) 70 = .ok (.aload_n 0, 1) := by decide +kernel
theorem bd_94_71 : decode (bn_b 94) 71 = .ok (.getfield 112, 3) := by decide +kernel
theorem bd_94_74 : decode (bn_b 94) 74 = .ok (.iconst 1, 1) := by decide +kernel
theorem bd_94_75 : decode (bn_b 94) 75 = .ok (.iadd, 1) := by decide +kernel
theorem bd_94_76 : decode (bn_b 94) 76 = .ok (.goto 5, 3) := by decide +kernel
theorem bd_94_79 : decode (bn_b 94) 79 = .ok (.bipush 20, 2) := by decide +kernel
theorem bd_94_81 : decode (bn_b 94) 81 = .ok (.putfield 112, 3) := by decide +kernel
theorem bd_94_84 : decode (bn_b 94) 84 = .ok (.return_, 1) := by decide +kernel
theorem bd_95_0 : decode (bn_b 95) 0 = .ok (.aload_n 0, 1) := by decide +kernel
theorem bd_95_1 : decode (bn_b 95) 1 = .ok (.iload_n 2, 1) := by decide +kernel
theorem bd_95_2 : decode (bn_b 95) 2 = .ok (.invokevirtual 115, 3) := by decide +kernel
theorem bd_95_5 : decode (bn_b 95) 5 = .ok (.iload_n 1, 1) := by decide +kernel
theorem bd_95_6 : decode (bn_b 95) 6 = .ok (.if_icmp .ne 38, 3) := by decide +kernel
theorem bd_95_9 : decode (bn_b 95) 9 = .ok (.aload_n 0, 1) := by decide +kernel
theorem bd_95_10 : decode (bn_b 95) 10 = .ok (.iload_n 2, 1) := by decide +kernel
theorem bd_95_11 : decode (bn_b 95) 11 = .ok (.invokevirtual 128, 3) := by decide +kernel
theorem bd_95_14 : decode (bn_b 95) 14 = .ok (.ifCond .ne 30, 3) := by decide +kernel
theorem bd_95_17 : decode (bn_b 95) 17 = .ok (.aload_n 0, 1) := by decide +kernel
theorem bd_95_18 : decode (bn_b 95) 18 = .ok (.getfield 13, 3) := by decide +kernel
theorem bd_95_21 : decode (bn_b 95) 21 = .ok (.iconst 4, 1) := by decide +kernel
theorem bd_95_22 : decode (bn_b 95) 22 = .ok (.iload_n 1, 1) := by decide +kernel
theorem bd_95_23 : decode (bn_b 95) 23 = .ok (.imul, 1) := by decide +kernel
theorem bd_95_24 : decode (bn_b 95) 24 = .ok (.iconst 1, 1) := by decide +kernel
theorem bd_95_25 : decode (bn_b 95) 25 = .ok (.iadd, 1) := by decide +kernel
theorem bd_95_26 : decode (bn_b 95) 26 = .ok (.iaload, 1) := by decide +kernel
theorem bd_95_27 : decode (bn_b 95) 27 = .ok (.ifCond .eq 17, 3) := by decide +kernel
theorem bd_95_30 : decode (bn_b 95) 30 = .ok (.aload_n 0, 1) := by decide +kernel
theorem bd_95_31 : decode (bn_b 95) 31 = .ok (.getfield 13, 3) := by decide +kernel
theorem bd_95_34 : decode (bn_b 95) 34 = .ok (.iconst 4, 1) := by decide +kernel
theorem bd_95_35 : decode (bn_b 95) 35 = .ok (.iload_n 1, 1) := by decide +kernel
theorem bd_95_36 : decode (bn_b 95) 36 = .ok (.imul, 1) := by decide +kernel
theorem bd_95_37 : decode (bn_b 95) 37 = .ok (.iconst 2, 1) := by decide +kernel
theorem bd_95_38 : decode (bn_b 95) 38 = .ok (.iadd, 1) := by decide +kernel
theorem bd_95_39 : decode (bn_b 95) 39 = .ok (.iaload, 1) := by decide +kernel
theorem bd_95_40 : decode (bn_b 95) 40 = .ok (.iconst 1, 1) := by decide +kernel
theorem bd_95_41 : decode (bn_b 95) 41 = .ok (.if_icmp .ne 5, 3) := by decide +kernel
theorem bd_95_44 : decode (bn_b 95) 44 = .ok (.iconst 0, 1) := by decide +kernel
theorem bd_95_45 : decode (bn_b 95) 45 = .ok (.ireturn, 1) := by decide +kernel
theorem bd_95_46 : decode (bn_b 95) 46 = .ok (.iconst 1, 1) := by decide +kernel
theorem bd_95_47 : decode (bn_b 95) 47 = .ok (.istore_n 3, 1) := by decide +kernel
theorem bd_95_48 : decode (bn_b 95) 48 = .ok (.iconst 0, 1) := by decide +kernel
theorem bd_95_49 : decode (bn_b 95) 49 = .ok (.istore 4, 2) := by decide +kernel
theorem bd_95_51 : decode (bn_b 95) 51 = .ok (.iload 4, 2) := by decide +kernel
theorem bd_95_53 : decode (bn_b 95) 53 = .ok (.aload_n 0, 1) := by decide +kernel
theorem bd_95_54 : decode (bn_b 95) 54 = .ok (.getfield 109, 3) := by decide +kernel
theorem bd_95_57 : decode (bn_b 95) 57 = .ok (.if_icmp .ge 98, 3) := by decide +kernel
theorem bd_95_60 : decode (bn_b 95) 60 = .ok (.aload_n 0, 1) := by decide +kernel
theorem bd_95_61 : decode (bn_b 95) 61 = .ok (.getfield 103, 3) := by decide +kernel
theorem bd_95_64 : decode (bn_b 95) 64 = .ok (.iconst 2, 1) := by decide +kernel
theorem bd_95_65 : decode (bn_b 95) 65 = .ok (.if_icmp .ge 90, 3) := by decide +kernel
theorem bd_95_68 : decode (bn_b 95) 68 = .ok (.aload_n 0, 1) := by decide +kernel
theorem bd_95_69 : decode (bn_b 95) 69 = .ok (.getfield 103, 3) := by decide +kernel
theorem bd_95_72 : decode (bn_b 95) 72 = .ok (.ifCond .ne 21, 3) := by decide +kernel
theorem bd_95_75 : decode (bn_b 95) 75 = .ok (.aload_n 0, 1) := by decide +kernel
theorem bd_95_76 : decode (bn_b 95) 76 = .ok (.iload 4, 2) := by decide +kernel
theorem bd_95_78 : decode (bn_b 95) 78 = .ok (.invokevirtual 115, 3) := by decide +kernel
theorem bd_95_81 : decode (bn_b 95) 81 = .ok (.iload_n 1, 1) := by decide +kernel
theorem bd_95_82 : decode (bn_b 95) 82 = .ok (.if_icmp .ne 7, 3) := by decide +kernel
theorem bd_95_85 : decode (bn_b 95) 85 = .ok (.iconst 1, 1) := by decide +kernel
theorem bd_95_86 : decode (bn_b 95) 86 = .ok (.goto 23, 3) := by decide +kernel
theorem bd_95_89 : decode (bn_b 95) 89 = .ok (.iconst 0, 1) := by decide +kernel
theorem bd_95_90 : decode (bn_b 95) 90 = .ok (.goto 19, 3) := by decide +kernel
theorem bd_95_93 : decode (bn_b 95) 93 = .ok (.aload_n 0, 1) := by decide +kernel
theorem bd_95_94 : decode (bn_b 95) 94 = .ok (.iload 4, 2) := by decide +kernel
theorem bd_95_96 : decode (bn_b 95) 96 = .ok (.invokevirtual 115, 3) := by decide +kernel
theorem bd_95_99 : decode (bn_b 95) 99 = .ok (.bipush 10, 2) := by decide +kernel
theorem bd_95_101 : decode (bn_b 95) 101 = .ok (.if_icmp .ge 7, 3) := by decide +kernel
theorem bd_95_104 : decode (bn_b 95) 104 = .ok (.iconst 1, 1) := by decide +kernel
theorem bd_95_105 : decode (bn_b 95) 105 = .ok (.goto 4, 3) := by decide +kernel
theorem bd_95_108 : decode (bn_b 95) 108 = .ok (.iconst 0, 1) := by decide +kernel
theorem bd_95_109 : decode (bn_b 95) 109 = .ok (.istore 5, 2) := by decide +kernel
theorem bd_95_111 : decode (bn_b 95) 111 = .ok (.iload_n 3, 1) := by decide +kernel
theorem bd_95_112 : decode (bn_b 95) 112 = .ok (.ifCond .eq 35, 3) := by decide +kernel
theorem bd_95_115 : decode (bn_b 95) 115 = .ok (.iload 5, 2) := by decide +kernel
theorem bd_95_117 : decode (bn_b 95) 117 = .ok (.ifCond .eq 26, 3) := by decide +kernel
theorem bd_95_120 : decode (bn_b 95) 120 = .ok (.aload_n 0, 1) := by decide +kernel
theorem bd_95_121 : decode (bn_b 95) 121 = .ok (.iload 4, 2) := by decide +kernel
theorem bd_95_123 : decode (bn_b 95) 123 = .ok (.invokevirtual 128, 3) := by decide +kernel
theorem bd_95_126 : decode (bn_b 95) 126 = .ok (.ifCond .ne 17, 3) := by decide +kernel
theorem bd_95_129 : decode (bn_b 95) 129 = .ok (.aload_n 0, 1) := by decide +kernel
theorem bd_95_130 : decode (bn_b 95) 130 = .ok (.iload 4, 2) := by decide +kernel
theorem bd_95_132 : decode (bn_b 95) 132 = .ok (.invokevirtual 138, 3) := by decide +kernel
theorem bd_95_135 : decode (bn_b 95) 135 = .ok (.aload_n 0, 1) := by decide +kernel
theorem bd_95_136 : decode (bn_b 95) 136 = .ok (.iload_n 2, 1) := by decide +kernel
theorem bd_95_137 : decode (bn_b 95) 137 = .ok (.invokevirtual 138, 3) := by decide +kernel
theorem bd_95_140 : decode (bn_b 95) 140 = .ok (.if_icmp .lt 7, 3) := by decide +kernel
theorem bd_95_143 : decode (bn_b 95) 143 = .ok (.iconst 1, 1) := by decide +kernel
theorem bd_95_144 : decode (bn_b 95) 144 = .ok (.goto 4, 3) := by decide +kernel
theorem bd_95_147 : decode (bn_b 95) 147 = .ok (.iconst 0, 1) := by decide +kernel
theorem bd_95_148 : decode (bn_b 95) 148 = .ok (.istore_n 3, 1) := by decide +kernel
theorem bd_95_149 : decode (bn_b 95) 149 = .ok (.iinc 4 1, 3) := by decide +kernel
theorem bd_95_152 : decode (bn_b 95) 152 = .ok (.goto (-101), 3) := by decide +kernel
theorem bd_95_155 : decode (bn_b 95) 155 = .ok (.iload_n 3, 1) := by decide +kernel
theorem bd_95_156 : decode (bn_b 95) 156 = .ok (.ireturn, 1) := by decide +kernel
theorem bd_96_0 : decode (bn_b 96) 0 = .ok (.aload_n 0, 1) := by decide +kernel
theorem bd_96_1 : decode (bn_b 96) 1 = .ok (.iload_n 1, 1) := by decide +kernel
theorem bd_96_2 : decode (bn_b 96) 2 = .ok (.invokevirtual 118, 3) := by decide +kernel
theorem bd_96_5 : decode (bn_b 96) 5 = .ok (.ifCond .eq 11, 3) := by decide +kernel
theorem bd_96_8 : decode (bn_b 96) 8 = .ok (.aload_n 0, 1) := by decide +kernel
theorem bd_96_9 : decode (bn_b 96) 9 = .ok (.iload_n 2, 1) := by decide +kernel
theorem bd_96_10 : decode (bn_b 96) 10 = .ok (.invokevirtual 125, 3) := by decide +kernel
theorem bd_96_13 : decode (bn_b 96) 13 = .ok (.ifCond .ne 5, 3) := by decide +kernel
theorem bd_96_16 : decode (bn_b 96) 16 = .ok (.iconst (-1), 1) := by decide +kernel
theorem bd_96_17 : decode (bn_b 96) 17 = .ok (.ireturn, 1) := by decide +kernel
theorem bd_96_18 : decode (bn_b 96) 18 = .ok (.aload_n 0, 1) := by decide +kernel
theorem bd_96_19 : decode (bn_b 96) 19 = .ok (.iload_n 1, 1) := by decide +kernel
theorem bd_96_20 : decode (bn_b 96) 20 = .ok (.iload_n 2, 1) := by decide +kernel
theorem bd_96_21 : decode (bn_b 96) 21 = .ok (.invokevirtual 141, 3) := by decide +kernel
theorem bd_96_24 : decode (bn_b 96) 24 = .ok (.ifCond .eq 7, 3) := by decide +kernel
theorem bd_96_27 : decode (bn_b 96) 27 = .ok (.iconst 1, 1) := by decide +kernel
theorem bd_96_28 : decode (bn_b 96) 28 = .ok (.goto 4, 3) := by decide +kernel
theorem bd_96_31 : decode (bn_b 96) 31 = .ok (.iconst 0, 1) := by decide +kernel
theorem bd_96_32 : decode (bn_b 96) 32 = .ok (.ireturn, 1) := by decide +kernel
theorem bd_97_0 : decode (bn_b 97) 0 = .ok (.bipush 20, 2) := by decide +kernel
theorem bd_97_2 : decode (bn_b 97) 2 = .ok (.iconst 5, 1) := by decide +kernel
theorem bd_97_3 : decode (bn_b 97) 3 = .ok (.iload_n 2, 1) := by decide +kernel
theorem bd_97_4 : decode (bn_b 97) 4 = .ok (.imul, 1) := by decide +kernel
theorem bd_97_5 : decode (bn_b 97) 5 = .ok (.iadd, 1) := by decide +kernel
theorem bd_97_6 : decode (bn_b 97) 6 = .ok (.istore_n 3, 1) := by decide +kernel
theorem bd_97_7 : decode (bn_b 97) 7 = .ok (.aload_n 0, 1) := by decide +kernel
theorem bd_97_8 : decode (bn_b 97) 8 = .ok (.getfield 13, 3) := by decide +kernel
theorem bd_97_11 : decode (bn_b 97) 11 = .ok (.iload_n 3, 1) := by decide +kernel
theorem bd_97_12 : decode (bn_b 97) 12 = .ok (.iconst 1, 1) := by decide +kernel
theorem bd_97_13 : decode (bn_b 97) 13 = .ok (.iadd, 1) := by decide +kernel
theorem bd_97_14 : decode (bn_b 97) 14 = .ok (.bipush 20, 2) := by decide +kernel
theorem bd_97_16 : decode (bn_b 97) 16 = .ok (.iastore, 1) := by decide +kernel
theorem bd_97_17 : decode (bn_b 97) 17 = .ok (.aload_n 0, 1) := by decide +kernel
theorem bd_97_18 : decode (bn_b 97) 18 = .ok (.getfield 13, 3) := by decide +kernel
theorem bd_97_21 : decode (bn_b 97) 21 = .ok (.iload_n 3, 1) := by decide +kernel
theorem bd_97_22 : decode (bn_b 97) 22 = .ok (.iconst 3, 1) := by decide +kernel
theorem bd_97_23 : decode (bn_b 97) 23 = .ok (.iadd, 1) := by decide +kernel
theorem bd_97_24 : decode (bn_b 97) 24 = .ok (.iload_n 1, 1) := by decide +kernel
theorem bd_97_25 : decode (bn_b 97) 25 = .ok (.iastore, 1) := by decide +kernel
theorem bd_97_26 : decode (bn_b 97) 26 = .ok (.aload_n 0, 1) := by decide +kernel
theorem bd_97_27 : decode (bn_b 97) 27 = .ok (.getfield 13, 3) := by decide +kernel
theorem bd_97_30 : decode (bn_b 97) 30 = .ok (.iload_n 3, 1) := by decide +kernel
theorem bd_97_31 : decode (bn_b 97) 31 = .ok (.iconst 4, 1) := by decide +kernel
theorem bd_97_32 : decode (bn_b 97) 32 = .ok (.iadd, 1) := by decide +kernel
theorem bd_97_33 : decode (bn_b 97) 33 = .ok (.aload_n 0, 1) := by decide +kernel
theorem bd_97_34 : decode (bn_b 97) 34 = .ok (.getfield 13, 3) := by decide +kernel
theorem bd_97_37 : decode (bn_b 97) 37 = .ok (.bipush 70, 2) := by decide +kernel
theorem bd_97_39 : decode (bn_b 97) 39 = .ok (.iaload, 1) := by decide +kernel
theorem bd_97_40 : decode (bn_b 97) 40 = .ok (.iastore, 1) := by decide +kernel
theorem bd_97_41 : decode (bn_b 97) 41 = .ok (.aload_n 0, 1) := by decide +kernel
theorem bd_97_42 : decode (bn_b 97) 42 = .ok (.getfield 13, 3) := by decide +kernel
theorem bd_97_45 : decode (bn_b 97) 45 = .ok (.iconst 4, 1) := by decide +kernel
theorem bd_97_46 : decode (bn_b 97) 46 = .ok (.iload_n 1, 1) := by decide +kernel
theorem bd_97_47 : decode (bn_b 97) 47 = .ok (.imul, 1) := by decide +kernel
theorem bd_97_48 : decode (bn_b 97) 48 = .ok (.iconst 0, 1) := by decide +kernel
theorem bd_97_49 : decode (bn_b 97) 49 = .ok (.iastore, 1) := by decide +kernel
theorem bd_97_50 : decode (bn_b 97) 50 = .ok (.aload_n 0, 1) := by decide +kernel
theorem bd_97_51 : decode (bn_b 97) 51 = .ok (.getfield 13, 3) := by decide +kernel
theorem bd_97_54 : decode (bn_b 97) 54 = .ok (.iconst 4, 1) := by decide +kernel
theorem bd_97_55 : decode (bn_b 97) 55 = .ok (.iload_n 1, 1) := by decide +kernel
theorem bd_97_56 : decode (bn_b 97) 56 = .ok (.imul, 1) := by decide +kernel
theorem bd_97_57 : decode (bn_b 97) 57 = .ok (.iconst 2, 1) := by decide +kernel
theorem bd_97_58 : decode (bn_b 97) 58 = .ok (.iadd, 1) := by decide +kernel
theorem bd_97_59 : decode (bn_b 97) 59 = .ok (.iconst 1, 1) := by decide +kernel
theorem bd_97_60 : decode (bn_b 97) 60 = .ok (.iastore, 1) := by decide +kernel
theorem bd_97_61 : decode (bn_b 97) 61 = .ok (.aload_n 0, 1) := by decide +kernel
theorem bd_97_62 : decode (bn_b 97) 62 = .ok (.getfield 13, 3) := by decide +kernel
theorem bd_97_65 : decode (bn_b 97) 65 = .ok (.iconst 4, 1) := by decide +kernel
theorem bd_97_66 : decode (bn_b 97) 66 = .ok (.iload_n 1, 1) := by decide +kernel
theorem bd_97_67 : decode (bn_b 97) 67 = .ok (.imul, 1) := by decide +kernel
theorem bd_97_68 : decode (bn_b 97) 68 = .ok (.iconst 3, 1) := by decide +kernel
theorem bd_97_69 : decode (bn_b 97) 69 = .ok (.iadd, 1) := by decide +kernel
theorem bd_97_70 : decode (bn_b 97) 70 = .ok (.dup2, 1) := by decide +kernel
theorem bd_97_71 : decode (bn_b 97) 71 = .ok (.iaload, 1) := by decide +kernel
theorem bd_97_72 : decode (bn_b 97) 72 = .ok (.iconst 1, 1) := by decide +kernel
theorem bd_97_73 : decode (bn_b 97) 73 = .ok (.iadd, 1) := by decide +kernel
theorem bd_97_74 : decode (bn_b 97) 74 = .ok (.iastore, 1) := by decide +kernel
theorem bd_97_75 : decode (bn_b 97) 75 = .ok (.return_, 1) := by decide +kernel
theorem bd_98_0 : decode (bn_b 98) 0 = .ok (.aload_n 0, 1) := by decide +kernel
theorem bd_98_1 : decode (bn_b 98) 1 = .ok (.iload_n 1, 1) := by decide +kernel
theorem bd_98_2 : decode (bn_b 98) 2 = .ok (.invokevirtual 118, 3) := by decide +kernel
theorem bd_98_5 : decode (bn_b 98) 5 = .ok (.ifCond .eq 11, 3) := by decide +kernel
theorem bd_98_8 : decode (bn_b 98) 8 = .ok (.aload_n 0, 1) := by decide +kernel
theorem bd_98_9 : decode (bn_b 98) 9 = .ok (.iload_n 2, 1) := by decide +kernel
theorem bd_98_10 : decode (bn_b 98) 10 = .ok (.invokevirtual 125, 3) := by decide +kernel
theorem bd_98_13 : decode (bn_b 98) 13 = .ok (.ifCond .ne 5, 3) := by decide +kernel
theorem bd_98_16 : decode (bn_b 98) 16 = .ok (.iconst (-1), 1) := by decide +kernel
theorem bd_98_17 : decode (bn_b 98) 17 = .ok (.ireturn, 1) := by decide +kernel
theorem bd_98_18 : decode (bn_b 98) 18 = .ok (.aload_n 0, 1) := by decide +kernel
theorem bd_98_19 : decode (bn_b 98) 19 = .ok (.iload_n 1, 1) := by decide +kernel
theorem bd_98_20 : decode (bn_b 98) 20 = .ok (.iload_n 2, 1) := by decide +kernel
theorem bd_98_21 : decode (bn_b 98) 21 = .ok (.invokevirtual 141, 3) := by decide +kernel
theorem bd_98_24 : decode (bn_b 98) 24 = .ok (.ifCond .ne 6, 3) := by decide +kernel
theorem bd_98_27 : decode (bn_b 98) 27 = .ok (.bipush (-3), 2) := by decide +kernel
theorem bd_98_29 : decode (bn_b 98) 29 = .ok (.ireturn, 1) := by decide +kernel
theorem bd_98_30 : decode (bn_b 98) 30 = .ok (.aload_n 0, 1) := by decide +kernel
theorem bd_98_31 : decode (bn_b 98) 31 = .ok (.invokevirtual 145, 3) := by decide +kernel
theorem bd_98_34 : decode (bn_b 98) 34 = .ok (.aload_n 0, 1) := by decide +kernel
theorem bd_98_35 : decode (bn_b 98) 35 = .ok (.iload_n 1, 1) := by decide +kernel
theorem bd_98_36 : decode (bn_b 98) 36 = .ok (.iload_n 2, 1) := by decide +kernel
theorem bd_98_37 : decode (bn_b 98) 37 = .ok (.invokevirtual 148, 3) := by decide +kernel
theorem bd_98_40 : decode (bn_b 98) 40 = .ok (.aload_n 0, 1) := by decide +kernel
theorem bd_98_41 : decode (bn_b 98) 41 = .ok (.iload_n 2, 1) := by decide +kernel
theorem bd_98_42 : decode (bn_b 98) 42 = .ok (.invokevirtual 138, 3) := by decide +kernel
theorem bd_98_45 : decode (bn_b 98) 45 = .ok (.ireturn, 1) := by decide +kernel
theorem bd_99_0 : decode (bn_b 99) 0 = .ok (.aload_n 0, 1) := by decide +kernel
theorem bd_99_1 : decode (bn_b 99) 1 = .ok (.iload_n 1, 1) := by decide +kernel
theorem bd_99_2 : decode (bn_b 99) 2 = .ok (.invokevirtual 125, 3) := by decide +kernel
theorem bd_99_5 : decode (bn_b 99) 5 = .ok (.ifCond .eq 17, 3) := by decide +kernel
theorem bd_99_8 : decode (bn_b 99) 8 = .ok (.iload_n 2, 1) := by decide +kernel
theorem bd_99_9 : decode (bn_b 99) 9 = .ok (.bipush 10, 2) := by decide +kernel
theorem bd_99_11 : decode (bn_b 99) 11 = .ok (.if_icmp .eq 13, 3) := by decide +kernel
theorem bd_99_14 : decode (bn_b 99) 14 = .ok (.aload_n 0, 1) := by decide +kernel
theorem bd_99_15 : decode (bn_b 99) 15 = .ok (.iload_n 2, 1) := by decide +kernel
theorem bd_99_16 : decode (bn_b 99) 16 = .ok (.invokevirtual 118, 3) := by decide +kernel
theorem bd_99_19 : decode (bn_b 99) 19 = .ok (.ifCond .ne 5, 3) := by decide +kernel
theorem bd_99_22 : decode (bn_b 99) 22 = .ok (.iconst (-1), 1) := by decide +kernel
theorem bd_99_23 : decode (bn_b 99) 23 = .ok (.ireturn, 1) := by decide +kernel
theorem bd_99_24 : decode (bn_b 99) 24 = .ok (.aload_n 0, 1) := by decide +kernel
theorem bd_99_25 : decode (bn_b 99) 25 = .ok (.iload_n 1, 1) := by decide +kernel
theorem bd_99_26 : decode (bn_b 99) 26 = .ok (.invokevirtual 115, 3) := by decide +kernel
theorem bd_99_29 : decode (bn_b 99) 29 = .ok (.istore_n 3, 1) := by decide +kernel
theorem bd_99_30 : decode (bn_b 99) 30 = .ok (.iload_n 3, 1) := by decide +kernel
theorem bd_99_31 : decode (bn_b 99) 31 = .ok (.bipush 20, 2) := by decide +kernel
theorem bd_99_33 : decode (bn_b 99) 33 = .ok (.if_icmp .eq 27, 3) := by decide +kernel
theorem bd_99_36 : decode (bn_b 99) 36 = .ok (.iload_n 3, 1) := by decide +kernel
theorem bd_99_37 : decode (bn_b 99) 37 = .ok (.iload_n 2, 1) := by decide +kernel
theorem bd_99_38 : decode (bn_b 99) 38 = .ok (.if_icmp .eq 22, 3) := by decide +kernel
theorem bd_99_41 : decode (bn_b 99) 41 = .ok (.iload_n 2, 1) := by decide +kernel
theorem bd_99_42 : decode (bn_b 99) 42 = .ok (.bipush 10, 2) := by decide +kernel
theorem bd_99_44 : decode (bn_b 99) 44 = .ok (.if_icmp .eq 19, 3) := by decide +kernel
theorem bd_99_47 : decode (bn_b 99) 47 = .ok (.aload_n 0, 1) := by decide +kernel
theorem bd_99_48 : decode (bn_b 99) 48 = .ok (.getfield 13, 3) := by decide +kernel
theorem bd_99_51 : decode (bn_b 99) 51 = .ok (.iconst 4, 1) := by decide +kernel
theorem bd_99_52 : decode (bn_b 99) 52 = .ok (.iload_n 2, 1) := by decide +kernel
theorem bd_99_53 : decode (bn_b 99) 53 = .ok (.imul, 1) := by decide +kernel
theorem bd_99_54 : decode (bn_b 99) 54 = .ok (.iconst 1, 1) := by decide +kernel
theorem bd_99_55 : decode (bn_b 99) 55 = .ok (.iadd, 1) := by decide +kernel
theorem bd_99_56 : decode (bn_b 99) 56 = .ok (.iaload, 1) := by decide +kernel
theorem bd_99_57 : decode (bn_b 99) 57 = .ok (.ifCond .ne 6, 3) := by decide +kernel
theorem bd_99_60 : decode (bn_b 99) 60 = .ok (.bipush (-3), 2) := by decide +kernel
theorem bd_99_62 : decode (bn_b 99) 62 = .ok (.ireturn, 1) := by decide +kernel
theorem bd_99_63 : decode (bn_b 99) 63 = .ok (.aload_n 0, 1) := by decide +kernel
theorem bd_99_64 : decode (bn_b 99) 64 = .ok (.invokevirtual 145, 3) := by decide +kernel
theorem bd_99_67 : decode (bn_b 99) 67 = .ok (.aload_n 0, 1) := by decide +kernel
theorem bd_99_68 : decode (bn_b 99) 68 = .ok (.getfield 13, 3) := by decide +kernel
theorem bd_99_71 : decode (bn_b 99) 71 = .ok (.bipush 21, 2) := by decide +kernel
theorem bd_99_73 : decode (bn_b 99) 73 = .ok (.iconst 5, 1) := by decide +kernel
theorem bd_99_74 : decode (bn_b 99) 74 = .ok (.iload_n 1, 1) := by decide +kernel
theorem bd_99_75 : decode (bn_b 99) 75 = .ok (.imul, 1) := by decide +kernel
theorem bd_99_76 : decode (bn_b 99) 76 = .ok (.iadd, 1) := by decide +kernel
theorem bd_99_77 : decode (bn_b 99) 77 = .ok (.iload_n 2, 1) := by decide +kernel
theorem bd_99_78 : decode (bn_b 99) 78 = .ok (.iastore, 1) := by decide +kernel
theorem bd_99_79 : decode (bn_b 99) 79 = .ok (.iload_n 3, 1) := by decide +kernel
theorem bd_99_80 : decode (bn_b 99) 80 = .ok (.ireturn, 1) := by decide +kernel
theorem bd_100_0 : decode (bn_b 100) 0 = .ok (.iload_n 0, 1) := by decide +kernel
theorem bd_100_1 : decode (bn_b 100) 1 = .ok (.bipush 10, 2) := by decide +kernel
theorem bd_100_3 : decode (bn_b 100) 3 = .ok (.idiv, 1) := by decide +kernel
theorem bd_100_4 : decode (bn_b 100) 4 = .ok (.bipush 9, 2) := by decide +kernel
theorem bd_100_6 : decode (bn_b 100) 6 = .ok (.if_icmp .ne 10, 3) := by decide +kernel
theorem bd_100_9 : decode (bn_b 100) 9 = .ok (.iload_n 0, 1) := by decide +kernel
theorem bd_100_10 : decode (bn_b 100) 10 = .ok (.bipush 30, 2) := by decide +kernel
theorem bd_100_12 : decode (bn_b 100) 12 = .ok (.isub, 1) := by decide +kernel
theorem bd_100_13 : decode (bn_b 100) 13 = .ok (.goto 19, 3) := by decide +kernel
theorem bd_100_16 : decode (bn_b 100) 16 = .ok (.iload_n 0, 1) := by decide +kernel
theorem bd_100_17 : decode (bn_b 100) 17 = .ok (.bipush 10, 2) := by decide +kernel
theorem bd_100_19 : decode (bn_b 100) 19 = .ok (.irem, 1) := by decide +kernel
theorem bd_100_20 : decode (bn_b 100) 20 = .ok (.bipush 9, 2) := by decide +kernel
theorem bd_100_22 : decode (bn_b 100) 22 = .ok (.if_icmp .ne 9, 3) := by decide +kernel
theorem bd_100_25 : decode (bn_b 100) 25 = .ok (.iload_n 0, 1) := by decide +kernel
theorem bd_100_26 : decode (bn_b 100) 26 = .ok (.iconst 3, 1) := by decide +kernel
theorem bd_100_27 : decode (bn_b 100) 27 = .ok (.isub, 1) := by decide +kernel
theorem bd_100_28 : decode (bn_b 100) 28 = .ok (.goto 4, 3) := by decide +kernel
theorem bd_100_31 : decode (bn_b 100) 31 = .ok (.iload_n 0, 1) := by decide +kernel
theorem bd_100_32 : decode (bn_b 100) 32 = .ok (.ireturn, 1) := by decide +kernel
theorem bd_101_0 : decode (bn_b 101) 0 = .ok (.aload_n 0, 1) := by decide +kernel
theorem bd_101_1 : decode (bn_b 101) 1 = .ok (.iload_n 1, 1) := by decide +kernel
theorem bd_101_2 : decode (bn_b 101) 2 = .ok (.invokevirtual 125, 3) := by decide +kernel
theorem bd_101_5 : decode (bn_b 101) 5 = .ok (.ifCond .ne 5, 3) := by decide +kernel
theorem bd_101_8 : decode (bn_b 101) 8 = .ok (.iconst (-1), 1) := by decide +kernel
theorem bd_101_9 : decode (bn_b 101) 9 = .ok (.ireturn, 1) := by decide +kernel
theorem bd_101_10 : decode (bn_b 101) 10 = .ok (.aload_n 0, 1) := by decide +kernel
theorem bd_101_11 : decode (bn_b 101) 11 = .ok (.iload_n 1, 1) := by decide +kernel
theorem bd_101_12 : decode (bn_b 101) 12 = .ok (.invokevirtual 115, 3) := by decide +kernel
theorem bd_101_15 : decode (bn_b 101) 15 = .ok (.bipush 20, 2) := by decide +kernel
theorem bd_101_17 : decode (bn_b 101) 17 = .ok (.if_icmp .eq 19, 3) := by decide +kernel
theorem bd_101_20 : decode (bn_b 101) 20 = .ok (.aload_n 0, 1) := by decide +kernel
theorem bd_101_21 : decode (bn_b 101) 21 = .ok (.iload_n 1, 1) := by decide +kernel
theorem bd_101_22 : decode (bn_b 101) 22 = .ok (.invokevirtual 138, 3) := by decide +kernel
theorem bd_101_25 : decode (bn_b 101) 25 = .ok (.invokestatic 152, 3) := by decide +kernel
theorem bd_101_28 : decode (bn_b 101) 28 = .ok (.aload_n 0, 1) := by decide +kernel
theorem bd_101_29 : decode (bn_b 101) 29 = .ok (.iload_n 1, 1) := by decide +kernel
theorem bd_101_30 : decode (bn_b 101) 30 = .ok (.invokevirtual 138, 3) := by decide +kernel
theorem bd_101_33 : decode (bn_b 101) 33 = .ok (.if_icmp .ne 6, 3) := by decide +kernel
theorem bd_101_36 : decode (bn_b 101) 36 = .ok (.bipush (-3), 2) := by decide +kernel
theorem bd_101_38 : decode (bn_b 101) 38 = .ok (.ireturn, 1) := by decide +kernel
theorem bd_101_39 : decode (bn_b 101) 39 = .ok (.aload_n 0, 1) := by decide +kernel
theorem bd_101_40 : decode (bn_b 101) 40 = .ok (.invokevirtual 145, 3) := by decide +kernel
theorem bd_101_43 : decode (bn_b 101) 43 = .ok (.aload_n 0, 1) := by decide +kernel
theorem bd_101_44 : decode (bn_b 101) 44 = .ok (.getfield 13, 3) := by decide +kernel
theorem bd_101_47 : decode (bn_b 101) 47 = .ok (.bipush 20, 2) := by decide +kernel
theorem bd_101_49 : decode (bn_b 101) 49 = .ok (.iconst 5, 1) := by decide +kernel
theorem bd_101_50 : decode (bn_b 101) 50 = .ok (.iload_n 1, 1) := by decide +kernel
theorem bd_101_51 : decode (bn_b 101) 51 = .ok (.imul, 1) := by decide +kernel
theorem bd_101_52 : decode (bn_b 101) 52 = .ok (.iadd, 1) := by decide +kernel
theorem bd_101_53 : decode (bn_b 101) 53 = .ok (.aload_n 0, 1) := by decide +kernel
theorem bd_101_54 : decode (bn_b 101) 54 = .ok (.iload_n 1, 1) := by decide +kernel
theorem bd_101_55 : decode (bn_b 101) 55 = .ok (.invokevirtual 138, 3) := by decide +kernel
theorem bd_101_58 : decode (bn_b 101) 58 = .ok (.invokestatic 152, 3) := by decide +kernel
theorem bd_101_61 : decode (bn_b 101) 61 = .ok (.iastore, 1) := by decide +kernel
theorem bd_101_62 : decode (bn_b 101) 62 = .ok (.aload_n 0, 1) := by decide +kernel
theorem bd_101_63 : decode (bn_b 101) 63 = .ok (.iload_n 1, 1) := by decide +kernel
theorem bd_101_64 : decode (bn_b 101) 64 = .ok (.invokevirtual 138, 3) := by decide +kernel
theorem bd_101_67 : decode (bn_b 101) 67 = .ok (.ireturn, 1) := by decide +kernel
theorem bd_102_0 : decode (bn_b 102) 0 = .ok (.iconst 0, 1) := by decide +kernel
theorem bd_102_1 : decode (bn_b 102) 1 = .ok (.istore_n 1, 1) := by decide +kernel
theorem bd_102_2 : decode (bn_b 102) 2 = .ok (.iconst 0, 1) := by decide +kernel
theorem bd_102_3 : decode (bn_b 102) 3 = .ok (.istore_n 2, 1) := by decide +kernel
theorem bd_102_4 : decode (bn_b 102) 4 = .ok (.iload_n 2, 1) := by decide +kernel
theorem bd_102_5 : decode (bn_b 102) 5 = .ok (.aload_n 0, 1) := by decide +kernel
theorem bd_102_6 : decode (bn_b 102) 6 = .ok (.getfield 106, 3) := by decide +kernel
theorem bd_102_9 : decode (bn_b 102) 9 = .ok (.if_icmp .ge 127, 3) := by decide +kernel
theorem bd_102_12 : decode (bn_b 102) 12 = .ok (.iconst 4, 1) := by decide +kernel
theorem bd_102_13 : decode (bn_b 102) 13 = .ok (.iload_n 2, 1) := by decide +kernel
theorem bd_102_14 : decode (bn_b 102) 14 = .ok (.imul, 1) := by decide +kernel
theorem bd_102_15 : decode (bn_b 102) 15 = .ok (.istore_n 3, 1) := by decide +kernel
theorem bd_102_16 : decode (bn_b 102) 16 = .ok (.aload_n 0, 1) := by decide +kernel
theorem bd_102_17 : decode (bn_b 102) 17 = .ok (.getfield 13, 3) := by decide +kernel
theorem bd_102_20 : decode (bn_b 102) 20 = .ok (.iload_n 3, 1) := by decide +kernel
theorem bd_102_21 : decode (bn_b 102) 21 = .ok (.dup2, 1) := by decide +kernel
theorem bd_102_22 : decode (bn_b 102) 22 = .ok (.iaload, 1) := by decide +kernel
theorem bd_102_23 : decode (bn_b 102) 23 = .ok (.aload_n 0, 1) := by decide +kernel
theorem bd_102_24 : decode (bn_b 102) 24 = .ok (.getfield 13, 3) := by decide +kernel
theorem bd_102_27 : decode (bn_b 102) 27 = .ok (.iload_n 3, 1) := by decide +kernel
theorem bd_102_28 : decode (bn_b 102) 28 = .ok (.iconst 1, 1) := by decide +kernel
theorem bd_102_29 : decode (bn_b 102) 29 = .ok (.iadd, 1) := by decide +kernel
theorem bd_102_30 : decode (bn_b 102) 30 = .ok (.iaload, 1) := by decide +kernel
theorem bd_102_31 : decode (bn_b 102) 31 = .ok (.iconst 1, 1) := by decide +kernel
theorem bd_102_32 : decode (bn_b 102) 32 = .ok (.if_icmp .ne 18, 3) := by decide +kernel
theorem bd_102_35 : decode (bn_b 102) 35 = .ok (.aload_n 0, 1) := by decide +kernel
theorem bd_102_36 : decode (bn_b 102) 36 = .ok (.getfield 13, 3) := by decide +kernel
theorem bd_102_39 : decode (bn_b 102) 39 = .ok (.iload_n 3, 1) := by decide +kernel
theorem bd_102_40 : decode (bn_b 102) 40 = .ok (.iconst 2, 1) := by decide +kernel
theorem bd_102_41 : decode (bn_b 102) 41 = .ok (.iadd, 1) := by decide +kernel
theorem bd_102_42 : decode (bn_b 102) 42 = .ok (.iaload, 1) := by decide +kernel
theorem bd_102_43 : decode (bn_b 102) 43 = .ok (.ifCond .ne 7, 3) := by decide +kernel
theorem bd_102_46 : decode (bn_b 102) 46 = .ok (.iconst 1, 1) := by decide +kernel
theorem bd_102_47 : decode (bn_b 102) 47 = .ok (.goto 4, 3) := by decide +kernel
theorem bd_102_50 : decode (bn_b 102) 50 = .ok (.iconst 0, 1) := by decide +kernel
theorem bd_102_51 : decode (bn_b 102) 51 = .ok (.iadd, 1) := by decide +kernel
theorem bd_102_52 : decode (bn_b 102) 52 = .ok (.iastore, 1) := by decide +kernel
theorem bd_102_53 : decode (bn_b 102) 53 = .ok (.iload_n 1, 1) := by decide +kernel
theorem bd_102_54 : decode (bn_b 102) 54 = .ok (.aload_n 0, 1) := by decide +kernel
theorem bd_102_55 : decode (bn_b 102) 55 = .ok (.getfield 13, 3) := by decide +kernel
theorem bd_102_58 : decode (bn_b 102) 58 = .ok (.iload_n 3, 1) := by decide +kernel
theorem bd_102_59 : decode (bn_b 102) 59 = .ok (.iconst 1, 1) := by decide +kernel
theorem bd_102_60 : decode (bn_b 102) 60 = .ok (.iadd, 1) := by decide +kernel
theorem bd_102_61 : decode (bn_b 102) 61 = .ok (.iaload, 1) := by decide +kernel
theorem bd_102_62 : decode (bn_b 102) 62 = .ok (.iconst 1, 1) := by decide +kernel
theorem bd_102_63 : decode (bn_b 102) 63 = .ok (.if_icmp .ne 22, 3) := by decide +kernel
theorem bd_102_66 : decode (bn_b 102) 66 = .ok (.aload_n 0, 1) := by decide +kernel
theorem bd_102_67 : decode (bn_b 102) 67 = .ok (.getfield 13, 3) := by decide +kernel
theorem bd_102_70 : decode (bn_b 102) 70 = .ok (.iload_n 3, 1) := by decide +kernel
theorem bd_102_71 : decode (bn_b 102) 71 = .ok (.iaload, 1) := by decide +kernel
theorem bd_102_72 : decode (bn_b 102) 72 = .ok (.aload_n 0, 1) := by decide +kernel
theorem bd_102_73 : decode (bn_b 102) 73 = .ok (.getfield 48, 3) := by decide +kernel
theorem bd_102_76 : decode (bn_b 102) 76 = .ok (.if_icmp .le 9, 3) := by decide +kernel
theorem bd_102_79 : decode (bn_b 102) 79 = .ok (.iconst 1, 1) := by decide +kernel
theorem bd_102_80 : decode (bn_b 102) 80 = .ok (.iload_n 2, 1) := by decide +kernel
theorem bd_102_81 : decode (bn_b 102) 81 = .ok (.ishl, 1) := by decide +kernel
theorem bd_102_82 : decode (bn_b 102) 82 = .ok (.goto 4, 3) := by decide +kernel
theorem bd_102_85 : decode (bn_b 102) 85 = .ok (.iconst 0, 1) := by decide +kernel
theorem bd_102_86 : decode (bn_b 102) 86 = .ok (.ior, 1) := by decide +kernel
theorem bd_102_87 : decode (bn_b 102) 87 = .ok (.istore_n 1, 1) := by decide +kernel
theorem bd_102_88 : decode (bn_b 102) 88 = .ok (.aload_n 0, 1) := by decide +kernel
theorem bd_102_89 : decode (bn_b 102) 89 = .ok (.getfield 13, 3) := by decide +kernel
theorem bd_102_92 : decode (bn_b 102) 92 = .ok (.iload_n 3, 1) := by decide +kernel
theorem bd_102_93 : decode (bn_b 102) 93 = .ok (.iconst 1, 1) := by decide +kernel
theorem bd_102_94 : decode (bn_b 102) 94 = .ok (.iadd, 1) := by decide +kernel
theorem bd_102_95 : decode (bn_b 102) 95 = .ok (.aload_n 0, 1) := by decide +kernel
theorem bd_102_96 : decode (bn_b 102) 96 = .ok (.getfield 13, 3) := by decide +kernel
theorem bd_102_99 : decode (bn_b 102) 99 = .ok (.iload_n 3, 1) := by decide +kernel
theorem bd_102_100 : decode (bn_b 102) 100 = .ok (.iaload, 1) := by decide +kernel
theorem bd_102_101 : decode (bn_b 102) 101 = .ok (.aload_n 0, 1) := by decide +kernel
theorem bd_102_102 : decode (bn_b 102) 102 = .ok (.getfield 48, 3) := by decide +kernel
theorem bd_102_105 : decode (bn_b 102) 105 = .ok (.if_icmp .le 7, 3) := by decide +kernel
theorem bd_102_108 : decode (bn_b 102) 108 = .ok (.iconst 0, 1) := by decide +kernel
theorem bd_102_109 : decode (bn_b 102) 109 = .ok (.goto 11, 3) := by decide +kernel
theorem bd_102_112 : decode (bn_b 102) 112 = .ok (.aload_n 0, 1) := by decide +kernel
theorem bd_102_113 : decode (bn_b 102) 113 = .ok (.getfield 13, 3) := by decide +kernel
theorem bd_102_116 : decode (bn_b 102) 116 = .ok (.iload_n 3, 1) := by decide +kernel
theorem bd_102_117 : decode (bn_b 102) 117 = .ok (.iconst 1, 1) := by decide +kernel
theorem bd_102_118 : decode (bn_b 102) 118 = .ok (.iadd, 1) := by decide +kernel
theorem bd_102_119 : decode (bn_b 102) 119 = .ok (.iaload, 1) := by decide +kernel
theorem bd_102_120 : decode (bn_b 102) 120 = .ok (.iastore, 1) := by decide +kernel
theorem bd_102_121 : decode (bn_b 102) 121 = .ok (.aload_n 0, 1) := by decide +kernel
theorem bd_102_122 : decode (bn_b 102) 122 = .ok (.getfield 13, 3) := by decide +kernel
theorem bd_102_125 : decode (bn_b 102) 125 = .ok (.iload_n 3, 1) := by decide +kernel
theorem bd_102_126 : decode (bn_b 102) 126 = .ok (.iconst 2, 1) := by decide +kernel
theorem bd_102_127 : decode (bn_b 102) 127 = .ok (.iadd, 1) := by decide +kernel
theorem bd_102_128 : decode (bn_b 102) 128 = .ok (.iconst 0, 1) := by decide +kernel
theorem bd_102_129 : decode (bn_b 102) 129 = .ok (.iastore, 1) := by decide +kernel
theorem bd_102_130 : decode (bn_b 102) 130 = .ok (.iinc 2 1, 3) := by decide +kernel
theorem bd_102_133 : decode (bn_b 102) 133 = .ok (.goto (-129), 3) := by decide +kernel
theorem bd_102_136 : decode (bn_b 102) 136 = .ok (.iconst 0, 1) := by decide +kernel
theorem bd_102_137 : decode (bn_b 102) 137 = .ok (.istore_n 2, 1) := by decide +kernel
theorem bd_102_138 : decode (bn_b 102) 138 = .ok (.iload_n 2, 1) := by decide +kernel
theorem bd_102_139 : decode (bn_b 102) 139 = .ok (.aload_n 0, 1) := by decide +kernel
theorem bd_102_140 : decode (bn_b 102) 140 = .ok (.getfield 109, 3) := by decide +kernel
theorem bd_102_143 : decode (bn_b 102) 143 = .ok (.if_icmp .ge 108, 3) := by decide +kernel
theorem bd_102_146 : decode (bn_b 102) 146 = .ok (.bipush 20, 2) := by decide +kernel
theorem bd_102_148 : decode (bn_b 102) 148 = .ok (.iconst 5, 1) := by decide +kernel
theorem bd_102_149 : decode (bn_b 102) 149 = .ok (.iload_n 2, 1) := by decide +kernel
theorem bd_102_150 : decode (bn_b 102) 150 = .ok (.imul, 1) := by decide +kernel
theorem bd_102_151 : decode (bn_b 102) 151 = .ok (.iadd, 1) := by decide +kernel
theorem bd_102_152 : decode (bn_b 102) 152 = .ok (.istore_n 3, 1) := by decide +kernel
theorem bd_102_153 : decode (bn_b 102) 153 = .ok (.aload_n 0, 1) := by decide +kernel
theorem bd_102_154 : decode (bn_b 102) 154 = .ok (.getfield 13, 3) := by decide +kernel
theorem bd_102_157 : decode (bn_b 102) 157 = .ok (.iload_n 3, 1) := by decide +kernel
theorem bd_102_158 : decode (bn_b 102) 158 = .ok (.iconst 2, 1) := by decide +kernel
theorem bd_102_159 : decode (bn_b 102) 159 = .ok (.iadd, 1) := by decide +kernel
theorem bd_102_160 : decode (bn_b 102) 160 = .ok (.dup2, 1) := by decide +kernel
theorem bd_102_161 : decode (bn_b 102) 161 = .ok (.iaload, 1) := by decide +kernel
theorem bd_102_162 : decode (bn_b 102) 162 = .ok (.aload_n 0, 1) := by decide +kernel
theorem bd_102_163 : decode (bn_b 102) 163 = .ok (.getfield 13, 3) := by decide +kernel
theorem bd_102_166 : decode (bn_b 102) 166 = .ok (.iload_n 3, 1) := by decide +kernel
theorem bd_102_167 : decode (bn_b 102) 167 = .ok (.iconst 1, 1) := by decide +kernel
theorem bd_102_168 : decode (bn_b 102) 168 = .ok (.iadd, 1) := by decide +kernel
theorem bd_102_169 : decode (bn_b 102) 169 = .ok (.iaload, 1) := by decide +kernel
theorem bd_102_170 : decode (bn_b 102) 170 = .ok (.bipush 20, 2) := by decide +kernel
theorem bd_102_172 : decode (bn_b 102) 172 = .ok (.if_icmp .eq 20, 3) := by decide +kernel
theorem bd_102_175 : decode (bn_b 102) 175 = .ok (.aload_n 0, 1) := by decide +kernel
theorem bd_102_176 : decode (bn_b 102) 176 = .ok (.getfield 13, 3) := by decide +kernel
theorem bd_102_179 : decode (bn_b 102) 179 = .ok (.iload_n 3, 1) := by decide +kernel
theorem bd_102_180 : decode (bn_b 102) 180 = .ok (.iconst 2, 1) := by decide +kernel
theorem bd_102_181 : decode (bn_b 102) 181 = .ok (.iadd, 1) := by decide +kernel
theorem bd_102_182 : decode (bn_b 102) 182 = .ok (.iaload, 1) := by decide +kernel
theorem bd_102_183 : decode (bn_b 102) 183 = .ok (.bipush 99, 2) := by decide +kernel
theorem bd_102_185 : decode (bn_b 102) 185 = .ok (.if_icmp .ge 7, 3) := by decide +kernel
theorem bd_102_188 : decode (bn_b 102) 188 = .ok (.iconst 1, 1) := by decide +kernel
theorem bd_102_189 : decode (bn_b 102) 189 = .ok (.goto 4, 3) := by decide +kernel
theorem bd_102_192 : decode (bn_b 102) 192 = .ok (.iconst 0, 1) := by decide +kernel
theorem bd_102_193 : decode (bn_b 102) 193 = .ok (.iadd, 1) := by decide +kernel
theorem bd_102_194 : decode (bn_b 102) 194 = .ok (.iastore, 1) := by decide +kernel
theorem bd_102_195 : decode (bn_b 102) 195 = .ok (.aload_n 0, 1) := by decide +kernel
theorem bd_102_196 : decode (bn_b 102) 196 = .ok (.getfield 13, 3) := by decide +kernel
theorem bd_102_199 : decode (bn_b 102) 199 = .ok (.iload_n 3, 1) := by decide +kernel
theorem bd_102_200 : decode (bn_b 102) 200 = .ok (.iconst 1, 1) := by decide +kernel
theorem bd_102_201 : decode (bn_b 102) 201 = .ok (.iadd, 1) := by decide +kernel
theorem bd_102_202 : decode (bn_b 102) 202 = .ok (.aload_n 0, 1) := by decide +kernel
theorem bd_102_203 : decode (bn_b 102) 203 = .ok (.getfield 13, 3) := by decide +kernel
theorem bd_102_206 : decode (bn_b 102) 206 = .ok (.iload_n 3, 1) := by decide +kernel
theorem bd_102_207 : decode (bn_b 102) 207 = .ok (.iconst 1, 1) := by decide +kernel
theorem bd_102_208 : decode (bn_b 102) 208 = .ok (.iadd, 1) := by decide +kernel
theorem bd_102_209 : decode (bn_b 102) 209 = .ok (.iaload, 1) := by decide +kernel
theorem bd_102_210 : decode (bn_b 102) 210 = .ok (.bipush 10, 2) := by decide +kernel
theorem bd_102_212 : decode (bn_b 102) 212 = .ok (.if_icmp .ge 24, 3) := by decide +kernel
theorem bd_102_215 : decode (bn_b 102) 215 = .ok (.iload_n 1, 1) := by decide +kernel
theorem bd_102_216 : decode (bn_b 102) 216 = .ok (.aload_n 0, 1) := by decide +kernel
theorem bd_102_217 : decode (bn_b 102) 217 = .ok (.getfield 13, 3) := by decide +kernel
theorem bd_102_220 : decode (bn_b 102) 220 = .ok (.iload_n 3, 1) := by decide +kernel
theorem bd_102_221 : decode (bn_b 102) 221 = .ok (.iconst 1, 1) := by decide +kernel
theorem bd_102_222 : decode (bn_b 102) 222 = .ok (.iadd, 1) := by decide +kernel
theorem bd_102_223 : decode (bn_b 102) 223 = .ok (.iaload, 1) := by decide +kernel
theorem bd_102_224 : decode (bn_b 102) 224 = .ok (.ishr, 1) := by decide +kernel
theorem bd_102_225 : decode (bn_b 102) 225 = .ok (.iconst 1, 1) := by decide +kernel
theorem bd_102_226 : decode (bn_b 102) 226 = .ok (.iand, 1) := by decide +kernel
theorem bd_102_227 : decode (bn_b 102) 227 = .ok (.iconst 1, 1) := by decide +kernel
theorem bd_102_228 : decode (bn_b 102) 228 = .ok (.if_icmp .ne 8, 3) := by decide +kernel
theorem bd_102_231 : decode (bn_b 102) 231 = .ok (.bipush 10, 2) := by decide +kernel
theorem bd_102_233 : decode (bn_b 102) 233 = .ok (.goto 11, 3) := by decide +kernel
theorem bd_102_236 : decode (bn_b 102) 236 = .ok (.aload_n 0, 1) := by decide +kernel
theorem bd_102_237 : decode (bn_b 102) 237 = .ok (.getfield 13, 3) := by decide +kernel
theorem bd_102_240 : decode (bn_b 102) 240 = .ok (.iload_n 3, 1) := by decide +kernel
theorem bd_102_241 : decode (bn_b 102) 241 = .ok (.iconst 1, 1) := by decide +kernel
theorem bd_102_242 : decode (bn_b 102) 242 = .ok (.iadd, 1) := by decide +kernel
theorem bd_102_243 : decode (bn_b 102) 243 = .ok (.iaload, 1) := by decide +kernel
theorem bd_102_244 : decode (bn_b 102) 244 = .ok (.iastore, 1) := by decide +kernel
theorem bd_102_245 : decode (bn_b 102) 245 = .ok (.iinc 2 1, 3) := by decide +kernel
theorem bd_102_248 : decode (bn_b 102) 248 = .ok (.goto (-110), 3) := by decide +kernel
theorem bd_102_251 : decode (bn_b 102) 251 = .ok (.aload_n 0, 1) := by decide +kernel
theorem bd_102_252 : decode (bn_b 102) 252 = .ok (.getfield 13, 3) := by decide +kernel
theorem bd_102_255 : decode (bn_b 102) 255 = .ok (.bipush 70, 2) := by decide +kernel
theorem bd_102_257 : decode (bn_b 102) 257 = .ok (.dup2, 1) := by decide +kernel
theorem bd_102_258 : decode (bn_b 102) 258 = .ok (.iaload, 1) := by decide +kernel
theorem bd_102_259 : decode (bn_b 102) 259 = .ok (.iconst 1, 1) := by decide +kernel
theorem bd_102_260 : decode (bn_b 102) 260 = .ok (.iadd, 1) := by decide +kernel
theorem bd_102_261 : decode (bn_b 102) 261 = .ok (.iastore, 1) := by decide +kernel
theorem bd_102_262 : decode (bn_b 102) 262 = .ok (.iload_n 1, 1) := by decide +kernel
theorem bd_102_263 : decode (bn_b 102) 263 = .ok (.ireturn, 1) := by decide +kernel
theorem bd_103_0 : decode (bn_b 103) 0 = .ok (.aload_n 0, 1) := by decide +kernel
theorem bd_103_1 : decode (bn_b 103) 1 = .ok (.invokevirtual 145, 3) := by decide +kernel
theorem bd_103_4 : decode (bn_b 103) 4 = .ok (.aload_n 0, 1) := by decide +kernel
theorem bd_103_5 : decode (bn_b 103) 5 = .ok (.invokevirtual 155, 3) := by decide +kernel
theorem bd_103_8 : decode (bn_b 103) 8 = .ok (.ireturn, 1) := by decide +kernel
theorem bd_104_0 : decode (bn_b 104) 0 = .ok (.iconst 0, 1) := by decide +kernel
theorem bd_104_1 : decode (bn_b 104) 1 = .ok (.istore_n 1, 1) := by decide +kernel
theorem bd_104_2 : decode (bn_b 104) 2 = .ok (.iconst 0, 1) := by decide +kernel
theorem bd_104_3 : decode (bn_b 104) 3 = .ok (.istore_n 2, 1) := by decide +kernel
theorem bd_104_4 : decode (bn_b 104) 4 = .ok (.iload_n 2, 1) := by decide +kernel
theorem bd_104_5 : decode (bn_b 104) 5 = .ok (.aload_n 0, 1) := by decide +kernel
theorem bd_104_6 : decode (bn_b 104) 6 = .ok (.getfield 106, 3) := by decide +kernel
theorem bd_104_9 : decode (bn_b 104) 9 = .ok (.if_icmp .ge 24, 3) := by decide +kernel
theorem bd_104_12 : decode (bn_b 104) 12 = .ok (.iload_n 1, 1) := by decide +kernel
theorem bd_104_13 : decode (bn_b 104) 13 = .ok (.aload_n 0, 1) := by decide +kernel
theorem bd_104_14 : decode (bn_b 104) 14 = .ok (.getfield 13, 3) := by decide +kernel
theorem bd_104_17 : decode (bn_b 104) 17 = .ok (.iconst 4, 1) := by decide +kernel
theorem bd_104_18 : decode (bn_b 104) 18 = .ok (.iload_n 2, 1) := by decide +kernel
theorem bd_104_19 : decode (bn_b 104) 19 = .ok (.imul, 1) := by decide +kernel
theorem bd_104_20 : decode (bn_b 104) 20 = .ok (.iconst 1, 1) := by decide +kernel
theorem bd_104_21 : decode (bn_b 104) 21 = .ok (.iadd, 1) := by decide +kernel
theorem bd_104_22 : decode (bn_b 104) 22 = .ok (.iaload, 1) := by decide +kernel
theorem bd_104_23 : decode (bn_b 104) 23 = .ok (.iload_n 2, 1) := by decide +kernel
theorem bd_104_24 : decode (bn_b 104) 24 = .ok (.ishl, 1) := by decide +kernel
theorem bd_104_25 : decode (bn_b 104) 25 = .ok (.ior, 1) := by decide +kernel
theorem bd_104_26 : decode (bn_b 104) 26 = .ok (.istore_n 1, 1) := by decide +kernel
theorem bd_104_27 : decode (bn_b 104) 27 = .ok (.iinc 2 1, 3) := by decide +kernel
theorem bd_104_30 : decode (bn_b 104) 30 = .ok (.goto (-26), 3) := by decide +kernel
theorem bd_104_33 : decode (bn_b 104) 33 = .ok (.iload_n 1, 1) := by decide +kernel
theorem bd_104_34 : decode (bn_b 104) 34 = .ok (.ireturn, 1) := by decide +kernel
theorem bd_105_0 : decode (bn_b 105) 0 = .ok (.iconst 0, 1) := by decide +kernel
theorem bd_105_1 : decode (bn_b 105) 1 = .ok (.istore_n 1, 1) := by decide +kernel
theorem bd_105_2 : decode (bn_b 105) 2 = .ok (.iconst 0, 1) := by decide +kernel
theorem bd_105_3 : decode (bn_b 105) 3 = .ok (.istore_n 2, 1) := by decide +kernel
theorem bd_105_4 : decode (bn_b 105) 4 = .ok (.iload_n 2, 1) := by decide +kernel
theorem bd_105_5 : decode (bn_b 105) 5 = .ok (.bipush 10, 2) := by decide +kernel
theorem bd_105_7 : decode (bn_b 105) 7 = .ok (.if_icmp .ge 17, 3) := by decide +kernel
theorem bd_105_10 : decode (bn_b 105) 10 = .ok (.iload_n 1, 1) := by decide +kernel
theorem bd_105_11 : decode (bn_b 105) 11 = .ok (.iload_n 0, 1) := by decide +kernel
theorem bd_105_12 : decode (bn_b 105) 12 = .ok (.iload_n 2, 1) := by decide +kernel
theorem bd_105_13 : decode (bn_b 105) 13 = .ok (.ishr, 1) := by decide +kernel
theorem bd_105_14 : decode (bn_b 105) 14 = .ok (.iconst 1, 1) := by decide +kernel
theorem bd_105_15 : decode (bn_b 105) 15 = .ok (.iand, 1) := by decide +kernel
theorem bd_105_16 : decode (bn_b 105) 16 = .ok (.iadd, 1) := by decide +kernel
theorem bd_105_17 : decode (bn_b 105) 17 = .ok (.istore_n 1, 1) := by decide +kernel
theorem bd_105_18 : decode (bn_b 105) 18 = .ok (.iinc 2 1, 3) := by decide +kernel
theorem bd_105_21 : decode (bn_b 105) 21 = .ok (.goto (-17), 3) := by decide +kernel
theorem bd_105_24 : decode (bn_b 105) 24 = .ok (.iload_n 1, 1) := by decide +kernel
theorem bd_105_25 : decode (bn_b 105) 25 = .ok (.ireturn, 1) := by decide +kernel
theorem bd_106_0 : decode (bn_b 106) 0 = .ok (.iconst 0, 1) := by decide +kernel
theorem bd_106_1 : decode (bn_b 106) 1 = .ok (.istore_n 2, 1) := by decide +kernel
theorem bd_106_2 : decode (bn_b 106) 2 = .ok (.iload_n 1, 1) := by decide +kernel
theorem bd_106_3 : decode (bn_b 106) 3 = .ok (.istore_n 3, 1) := by decide +kernel
theorem bd_106_4 : decode (bn_b 106) 4 = .ok (.iload_n 3, 1) := by decide +kernel
theorem bd_106_5 : decode (bn_b 106) 5 = .ok (.ifCond .gt 11, 3) := by decide +kernel
theorem bd_106_8 : decode (bn_b 106) 8 = .ok (.iload_n 0, 1) := by decide +kernel
theorem bd_106_9 : decode (bn_b 106) 9 = .ok (.iload_n 2, 1) := by decide +kernel
theorem bd_106_10 : decode (bn_b 106) 10 = .ok (.ishr, 1) := by decide +kernel
theorem bd_106_11 : decode (bn_b 106) 11 = .ok (.iconst 1, 1) := by decide +kernel
theorem bd_106_12 : decode (bn_b 106) 12 = .ok (.iand, 1) := by decide +kernel
theorem bd_106_13 : decode (bn_b 106) 13 = .ok (.ifCond .ne 17, 3) := by decide +kernel
theorem bd_106_16 : decode (bn_b 106) 16 = .ok (.iload_n 3, 1) := by decide +kernel
theorem bd_106_17 : decode (bn_b 106) 17 = .ok (.iload_n 0, 1) := by decide +kernel
theorem bd_106_18 : decode (bn_b 106) 18 = .ok (.iload_n 2, 1) := by decide +kernel
theorem bd_106_19 : decode (bn_b 106) 19 = .ok (.ishr, 1) := by decide +kernel
theorem bd_106_20 : decode (bn_b 106) 20 = .ok (.iconst 1, 1) := by decide +kernel
theorem bd_106_21 : decode (bn_b 106) 21 = .ok (.iand, 1) := by decide +kernel
theorem bd_106_22 : decode (bn_b 106) 22 = .ok (.isub, 1) := by decide +kernel
theorem bd_106_23 : decode (bn_b 106) 23 = .ok (.istore_n 3, 1) := by decide +kernel
theorem bd_106_24 : decode (bn_b 106) 24 = .ok (.iinc 2 1, 3) := by decide +kernel
theorem bd_106_27 : decode (bn_b 106) 27 = .ok (.goto (-23), 3) := by decide +kernel
theorem bd_106_30 : decode (bn_b 106) 30 = .ok (.iload_n 2, 1) := by decide +kernel
theorem bd_106_31 : decode (bn_b 106) 31 = .ok (.ireturn, 1) := by decide +kernel
theorem bd_107_0 : decode (bn_b 107) 0 = .ok (.aload_n 0, 1) := by decide +kernel
theorem bd_107_1 : decode (bn_b 107) 1 = .ok (.invokevirtual 158, 3) := by decide +kernel
theorem bd_107_4 : decode (bn_b 107) 4 = .ok (.istore_n 1, 1) := by decide +kernel
theorem bd_107_5 : decode (bn_b 107) 5 = .ok (.iload_n 1, 1) := by decide +kernel
theorem bd_107_6 : decode (bn_b 107) 6 = .ok (.ifCond .ne 6, 3) := by decide +kernel
theorem bd_107_9 : decode (bn_b 107) 9 = .ok (.bipush (-9), 2) := by decide +kernel
theorem bd_107_11 : decode (bn_b 107) 11 = .ok (.ireturn, 1) := by decide +kernel
theorem bd_107_12 : decode (bn_b 107) 12 = .ok (.aload_n 0, 1) := by decide +kernel
theorem bd_107_13 : decode (bn_b 107) 13 = .ok (.invokevirtual 145, 3) := by decide +kernel
theorem bd_107_16 : decode (bn_b 107) 16 = .ok (.aload_n 0, 1) := by decide +kernel
theorem bd_107_17 : decode (bn_b 107) 17 = .ok (.aload_n 0, 1) := by decide +kernel
theorem bd_107_18 : decode (bn_b 107) 18 = .ok (.getfield 134, 3) := by decide +kernel
theorem bd_107_21 : decode (bn_b 107) 21 = .ok (.ldc2_w 161, 3) := by decide +kernel
theorem bd_107_24 : decode (bn_b 107) 24 = .ok (.lmul, 1) := by decide +kernel
theorem bd_107_25 : decode (bn_b 107) 25 = .ok (.ldc2_w 163, 3) := by decide +kernel
theorem bd_107_28 : decode (bn_b 107) 28 = .ok (.ladd, 1) := by decide +kernel
theorem bd_107_29 : decode (bn_b 107) 29 = .ok (.putfield 134, 3) := by decide +kernel
theorem bd_107_32 : decode (bn_b 107) 32 = .ok (.aload_n 0, 1) := by decide +kernel
theorem bd_107_33 : decode (bn_b 107) 33 = .ok (.getfield 134, 3) := by decide +kernel
theorem bd_107_36 : decode (bn_b 107) 36 = .ok (.bipush 33, 2) := by decide +kernel
theorem bd_107_38 : decode (bn_b 107) 38 = .ok (.lushr, 1) := by decide +kernel
theorem bd_107_39 : decode (bn_b 107) 39 = .ok (.l2i, 1) := by decide +kernel
theorem bd_107_40 : decode (bn_b 107) 40 = .ok (.istore_n 2, 1) := by decide +kernel
theorem bd_107_41 : decode (bn_b 107) 41 = .ok (.iload_n 1, 1) := by decide +kernel
theorem bd_107_42 : decode (bn_b 107) 42 = .ok (.iload_n 2, 1) := by decide +kernel
theorem bd_107_43 : decode (bn_b 107) 43 = .ok (.iload_n 1, 1) := by decide +kernel
theorem bd_107_44 : decode (bn_b 107) 44 = .ok (.invokestatic 165, 3) := by decide +kernel
theorem bd_107_47 : decode (bn_b 107) 47 = .ok (.irem, 1) := by decide +kernel
theorem bd_107_48 : decode (bn_b 107) 48 = .ok (.invokestatic 168, 3) := by decide +kernel
theorem bd_107_51 : decode (bn_b 107) 51 = .ok (.istore_n 3, 1) := by decide +kernel
theorem bd_107_52 : decode (bn_b 107) 52 = .ok (.iconst 0, 1) := by decide +kernel
theorem bd_107_53 : decode (bn_b 107) 53 = .ok (.istore 4, 2) := by decide +kernel
theorem bd_107_55 : decode (bn_b 107) 55 = .ok (.iconst 0, 1) := by decide +kernel
theorem bd_107_56 : decode (bn_b 107) 56 = .ok (.istore 5, 2) := by decide +kernel
theorem bd_107_58 : decode (bn_b 107) 58 = .ok (.iload 5, 2) := by decide +kernel
theorem bd_107_60 : decode (bn_b 107) 60 = .ok (.aload_n 0, 1) := by decide +kernel
theorem bd_107_61 : decode (bn_b 107) 61 = .ok (.getfield 109, 3) := by decide +kernel
theorem bd_107_64 : decode (bn_b 107) 64 = .ok (.if_icmp .ge 43, 3) := by decide +kernel
theorem bd_107_67 : decode (bn_b 107) 67 = .ok (.iload 4, 2) := by decide +kernel
theorem bd_107_69 : decode (bn_b 107) 69 = .ok (.aload_n 0, 1) := by decide +kernel
theorem bd_107_70 : decode (bn_b 107) 70 = .ok (.iload 5, 2) := by decide +kernel
theorem bd_107_72 : decode (bn_b 107) 72 = .ok (.invokevirtual 115, 3) := by decide +kernel
theorem bd_107_75 : decode (bn_b 107) 75 = .ok (.bipush 10, 2) := by decide +kernel
theorem bd_107_77 : decode (bn_b 107) 77 = .ok (.if_icmp .ge 20, 3) := by decide +kernel
theorem bd_107_80 : decode (bn_b 107) 80 = .ok (.aload_n 0, 1) := by decide +kernel
theorem bd_107_81 : decode (bn_b 107) 81 = .ok (.iload 5, 2) := by decide +kernel
theorem bd_107_83 : decode (bn_b 107) 83 = .ok (.invokevirtual 115, 3) := by decide +kernel
theorem bd_107_86 : decode (bn_b 107) 86 = .ok (.iload_n 3, 1) := by decide +kernel
theorem bd_107_87 : decode (bn_b 107) 87 = .ok (.if_icmp .eq 10, 3) := by decide +kernel
theorem bd_107_90 : decode (bn_b 107) 90 = .ok (.iconst 1, 1) := by decide +kernel
theorem bd_107_91 : decode (bn_b 107) 91 = .ok (.iload 5, 2) := by decide +kernel
theorem bd_107_93 : decode (bn_b 107) 93 = .ok (.ishl, 1) := by decide +kernel
theorem bd_107_94 : decode (bn_b 107) 94 = .ok (.goto 4, 3) := by decide +kernel
theorem bd_107_97 : decode (bn_b 107) 97 = .ok (.iconst 0, 1) := by decide +kernel
theorem bd_107_98 : decode (bn_b 107) 98 = .ok (.ior, 1) := by decide +kernel
theorem bd_107_99 : decode (bn_b 107) 99 = .ok (.istore 4, 2) := by decide +kernel
theorem bd_107_101 : decode (bn_b 107) 101 = .ok (.iinc 5 1, 3) := by decide +kernel
theorem bd_107_104 : decode (bn_b 107) 104 = .ok (.goto (-46), 3) := by decide +kernel
theorem bd_107_107 : decode (bn_b 107) 107 = .ok (.iload 4, 2) := by decide +kernel
theorem bd_107_109 : decode (bn_b 107) 109 = .ok (.ifCond .ne 6, 3) := by decide +kernel
theorem bd_107_112 : decode (bn_b 107) 112 = .ok (.bipush (-9), 2) := by decide +kernel
theorem bd_107_114 : decode (bn_b 107) 114 = .ok (.ireturn, 1) := by decide +kernel
theorem bd_107_115 : decode (bn_b 107) 115 = .ok (.iload 4, 2) := by decide +kernel
theorem bd_107_117 : decode (bn_b 107) 117 = .ok (.iload_n 2, 1) := by decide +kernel
theorem bd_107_118 : decode (bn_b 107) 118 = .ok (.iload_n 1, 1) := by decide +kernel
theorem bd_107_119 : decode (bn_b 107) 119 = .ok (.invokestatic 165, 3) := by decide +kernel
theorem bd_107_122 : decode (bn_b 107) 122 = .ok (.idiv, 1) := by decide +kernel
theorem bd_107_123 : decode (bn_b 107) 123 = .ok (.iload 4, 2) := by decide +kernel
theorem bd_107_125 : decode (bn_b 107) 125 = .ok (.invokestatic 165, 3) := by decide +kernel
theorem bd_107_128 : decode (bn_b 107) 128 = .ok (.irem, 1) := by decide +kernel
theorem bd_107_129 : decode (bn_b 107) 129 = .ok (.invokestatic 168, 3) := by decide +kernel
theorem bd_107_132 : decode (bn_b 107) 132 = .ok (.istore 5, 2) := by decide +kernel
theorem bd_107_134 : decode (bn_b 107) 134 = .ok (.aload_n 0, 1) := by decide +kernel
theorem bd_107_135 : decode (bn_b 107) 135 = .ok (.getfield 13, 3) := by decide +kernel
theorem bd_107_138 : decode (bn_b 107) 138 = .ok (.bipush 21, 2) := by decide +kernel
theorem bd_107_140 : decode (bn_b 107) 140 = .ok (.iconst 5, 1) := by decide +kernel
theorem bd_107_141 : decode (bn_b 107) 141 = .ok (.iload 5, 2) := by decide +kernel
theorem bd_107_143 : decode (bn_b 107) 143 = .ok (.imul, 1) := by decide +kernel
theorem bd_107_144 : decode (bn_b 107) 144 = .ok (.iadd, 1) := by decide +kernel
theorem bd_107_145 : decode (bn_b 107) 145 = .ok (.iload_n 3, 1) := by decide +kernel
theorem bd_107_146 : decode (bn_b 107) 146 = .ok (.iastore, 1) := by decide +kernel
theorem bd_107_147 : decode (bn_b 107) 147 = .ok (.bipush 10, 2) := by decide +kernel
theorem bd_107_149 : decode (bn_b 107) 149 = .ok (.iload_n 3, 1) := by decide +kernel
theorem bd_107_150 : decode (bn_b 107) 150 = .ok (.imul, 1) := by decide +kernel
theorem bd_107_151 : decode (bn_b 107) 151 = .ok (.iload 5, 2) := by decide +kernel
theorem bd_107_153 : decode (bn_b 107) 153 = .ok (.iadd, 1) := by decide +kernel
theorem bd_107_154 : decode (bn_b 107) 154 = .ok (.ireturn, 1) := by decide +kernel
theorem bd_108_0 : decode (bn_b 108) 0 = .ok (.aload_n 0, 1) := by decide +kernel
theorem bd_108_1 : decode (bn_b 108) 1 = .ok (.getfield 112, 3) := by decide +kernel
theorem bd_108_4 : decode (bn_b 108) 4 = .ok (.ifCond .ne 6, 3) := by decide +kernel
theorem bd_108_7 : decode (bn_b 108) 7 = .ok (.bipush (-3), 2) := by decide +kernel
theorem bd_108_9 : decode (bn_b 108) 9 = .ok (.ireturn, 1) := by decide +kernel
theorem bd_108_10 : decode (bn_b 108) 10 = .ok (.aload_n 0, 1) := by decide +kernel
theorem bd_108_11 : decode (bn_b 108) 11 = .ok (.dup, 1) := by decide +kernel
theorem bd_108_12 : decode (bn_b 108) 12 = .ok (.getfield 112, 3) := by decide +kernel
theorem bd_108_15 : decode (bn_b 108) 15 = .ok (.iconst 1, 1) := by decide +kernel
theorem bd_108_16 : decode (bn_b 108) 16 = .ok (.isub, 1) := by decide +kernel
theorem bd_108_17 : decode (bn_b 108) 17 = .ok (.putfield 112, 3) := by decide +kernel
theorem bd_108_20 : decode (bn_b 108) 20 = .ok (.aload_n 0, 1) := by decide +kernel
theorem bd_108_21 : decode (bn_b 108) 21 = .ok (.aload_n 0, 1) := by decide +kernel
theorem bd_108_22 : decode (bn_b 108) 22 = .ok (.getfield 131, 3) := by decide +kernel
theorem bd_108_25 : decode (bn_b 108) 25 = .ok (.bipush 19, 2) := by decide +kernel
theorem bd_108_27 : decode (bn_b 108) 27 = .ok (.iadd, 1) := by decide +kernel
theorem bd_108_28 : decode (bn_b 108) 28 = .ok (.bipush 20, 2) := by decide +kernel
theorem bd_108_30 : decode (bn_b 108) 30 = .ok (.irem, 1) := by decide +kernel
theorem bd_108_31 : decode (bn_b 108) 31 = .ok (.putfield 131, 3) := by decide +kernel
theorem bd_108_34 : decode (bn_b 108) 34 = .ok (.iconst 0, 1) := by decide +kernel
theorem bd_108_35 : decode (bn_b 108) 35 = .ok (.istore_n 1, 1) := by decide +kernel
theorem bd_108_36 : decode (bn_b 108) 36 = .ok (.iload_n 1, 1) := by decide +kernel
theorem bd_108_37 : decode (bn_b 108) 37 = .ok (.bipush 71, 2) := by decide +kernel
theorem bd_108_39 : decode (bn_b 108) 39 = .ok (.if_icmp .ge 29, 3) := by decide +kernel
theorem bd_108_42 : decode (bn_b 108) 42 = .ok (.aload_n 0, 1) := by decide +kernel
theorem bd_108_43 : decode (bn_b 108) 43 = .ok (.getfield 13, 3) := by decide +kernel
theorem bd_108_46 : decode (bn_b 108) 46 = .ok (.iload_n 1, 1) := by decide +kernel
theorem bd_108_47 : decode (bn_b 108) 47 = .ok (.aload_n 0, 1) := by decide +kernel
theorem bd_108_48 : decode (bn_b 108) 48 = .ok (.getfield 19, 3) := by decide +kernel
theorem bd_108_51 : decode (bn_b 108) 51 = .ok (.bipush 72, 2) := by decide +kernel
theorem bd_108_53 : decode (bn_b 108) 53 = .ok (.aload_n 0, 1) := by decide +kernel
theorem bd_108_54 : decode (bn_b 108) 54 = .ok (.getfield 131, 3) := by decide +kernel
theorem bd_108_57 : decode (bn_b 108) 57 = .ok (.imul, 1) := by decide +kernel
theorem bd_108_58 : decode (bn_b 108) 58 = .ok (.iload_n 1, 1) := by decide +kernel
theorem bd_108_59 : decode (bn_b 108) 59 = .ok (.iadd, 1) := by decide +kernel
theorem bd_108_60 : decode (bn_b 108) 60 = .ok (.iaload, 1) := by decide +kernel
theorem bd_108_61 : decode (bn_b 108) 61 = .ok (.iastore, 1) := by decide +kernel
theorem bd_108_62 : decode (bn_b 108) 62 = .ok (.iinc 1 1, 3) := by decide +kernel
theorem bd_108_65 : decode (bn_b 108) 65 = .ok (.goto (-29), 3) := by decide +kernel
theorem bd_108_68 : decode (bn_b 108) 68 = .ok (.aload_n 0, 1) := by decide +kernel
theorem bd_108_69 : decode (bn_b 108) 69 = .ok (.aload_n 0, 1) := by decide +kernel
theorem bd_108_70 : decode (bn_b 108) 70 = .ok (.getfield 22, 3) := by decide +kernel
theorem bd_108_73 : decode (bn_b 108) 73 = .ok (.aload_n 0, 1) := by decide +kernel
theorem bd_108_74 : decode (bn_b 108) 74 = .ok (.getfield 131, 3) := by decide +kernel
theorem bd_108_77 : decode (bn_b 108) 77 = .ok (.laload, 1) := by decide +kernel
theorem bd_108_78 : decode (bn_b 108) 78 = .ok (.putfield 134, 3) := by decide +kernel
theorem bd_108_81 : decode (bn_b 108) 81 = .ok (.aload_n 0, 1) := by decide +kernel
theorem bd_108_82 : decode (bn_b 108) 82 = .ok (.getfield 112, 3) := by decide +kernel
theorem bd_108_85 : decode (bn_b 108) 85 = .ok (.ireturn, 1) := by decide +kernel
theorem bd_109_0 : decode (bn_b 109) 0 = .ok (.aload_n 0, 1) := by decide +kernel
theorem bd_109_1 : decode (bn_b 109) 1 = .ok (.getfield 134, 3) := by decide +kernel
theorem bd_109_4 : decode (bn_b 109) 4 = .ok (.lstore_n 3, 1) := by decide +kernel
theorem bd_109_5 : decode (bn_b 109) 5 = .ok (.aload_n 0, 1) := by decide +kernel
theorem bd_109_6 : decode (bn_b 109) 6 = .ok (.lload_n 1, 1) := by decide +kernel
theorem bd_109_7 : decode (bn_b 109) 7 = .ok (.putfield 134, 3) := by decide +kernel
theorem bd_109_10 : decode (bn_b 109) 10 = .ok (.lload_n 3, 1) := by decide +kernel
theorem bd_109_11 : decode (bn_b 109) 11 = .ok (.lreturn, 1) := by decide +kernel
theorem bd_110_0 : decode (bn_b 110) 0 = .ok (.bipush (-9), 2) := by decide +kernel
theorem bd_110_2 : decode (bn_b 110) 2 = .ok (.istore_n 2, 1) := by decide +kernel
theorem bd_110_3 : decode (bn_b 110) 3 = .ok (.iconst 0, 1) := by decide +kernel
theorem bd_110_4 : decode (bn_b 110) 4 = .ok (.istore_n 3, 1) := by decide +kernel
theorem bd_110_5 : decode (bn_b 110) 5 = .ok (.iload_n 3, 1) := by decide +kernel
theorem bd_110_6 : decode (bn_b 110) 6 = .ok (.aload_n 0, 1) := by decide +kernel
theorem bd_110_7 : decode (bn_b 110) 7 = .ok (.getfield 109, 3) := by decide +kernel
theorem bd_110_10 : decode (bn_b 110) 10 = .ok (.if_icmp .ge 43, 3) := by decide +kernel
theorem bd_110_13 : decode (bn_b 110) 13 = .ok (.aload_n 0, 1) := by decide +kernel
theorem bd_110_14 : decode (bn_b 110) 14 = .ok (.iload_n 1, 1) := by decide +kernel
theorem bd_110_15 : decode (bn_b 110) 15 = .ok (.iload_n 3, 1) := by decide +kernel
theorem bd_110_16 : decode (bn_b 110) 16 = .ok (.invokevirtual 141, 3) := by decide +kernel
theorem bd_110_19 : decode (bn_b 110) 19 = .ok (.ifCond .eq 26, 3) := by decide +kernel
theorem bd_110_22 : decode (bn_b 110) 22 = .ok (.iload_n 2, 1) := by decide +kernel
theorem bd_110_23 : decode (bn_b 110) 23 = .ok (.bipush (-9), 2) := by decide +kernel
theorem bd_110_25 : decode (bn_b 110) 25 = .ok (.if_icmp .eq 16, 3) := by decide +kernel
theorem bd_110_28 : decode (bn_b 110) 28 = .ok (.aload_n 0, 1) := by decide +kernel
theorem bd_110_29 : decode (bn_b 110) 29 = .ok (.iload_n 3, 1) := by decide +kernel
theorem bd_110_30 : decode (bn_b 110) 30 = .ok (.invokevirtual 138, 3) := by decide +kernel
theorem bd_110_33 : decode (bn_b 110) 33 = .ok (.aload_n 0, 1) := by decide +kernel
theorem bd_110_34 : decode (bn_b 110) 34 = .ok (.iload_n 2, 1) := by decide +kernel
theorem bd_110_35 : decode (bn_b 110) 35 = .ok (.invokevirtual 138, 3) := by decide +kernel
theorem bd_110_38 : decode (bn_b 110) 38 = .ok (.if_icmp .ge 7, 3) := by decide +kernel
theorem bd_110_41 : decode (bn_b 110) 41 = .ok (.iload_n 3, 1) := by decide +kernel
theorem bd_110_42 : decode (bn_b 110) 42 = .ok (.goto 4, 3) := by decide +kernel
theorem bd_110_45 : decode (bn_b 110) 45 = .ok (.iload_n 2, 1) := by decide +kernel
theorem bd_110_46 : decode (bn_b 110) 46 = .ok (.istore_n 2, 1) := by decide +kernel
theorem bd_110_47 : decode (bn_b 110) 47 = .ok (.iinc 3 1, 3) := by decide +kernel
theorem bd_110_50 : decode (bn_b 110) 50 = .ok (.goto (-45), 3) := by decide +kernel
theorem bd_110_53 : decode (bn_b 110) 53 = .ok (.iload_n 2, 1) := by decide +kernel
theorem bd_110_54 : decode (bn_b 110) 54 = .ok (.ireturn, 1) := by decide +kernel
theorem bd_111_0 : decode (bn_b 111) 0 = .ok (.aload_n 0, 1) := by decide +kernel
theorem bd_111_1 : decode (bn_b 111) 1 = .ok (.bipush (-9), 2) := by decide +kernel
theorem bd_111_3 : decode (bn_b 111) 3 = .ok (.putfield 172, 3) := by decide +kernel
theorem bd_111_6 : decode (bn_b 111) 6 = .ok (.aload_n 0, 1) := by decide +kernel
theorem bd_111_7 : decode (bn_b 111) 7 = .ok (.invokevirtual 158, 3) := by decide +kernel
theorem bd_111_10 : decode (bn_b 111) 10 = .ok (.ifCond .ne 5, 3) := by decide +kernel
theorem bd_111_13 : decode (bn_b 111) 13 = .ok (.iconst 0, 1) := by decide +kernel
theorem bd_111_14 : decode (bn_b 111) 14 = .ok (.ireturn, 1) := by decide +kernel
theorem bd_111_15 : decode (bn_b 111) 15 = .ok (.iconst 0, 1) := by decide +kernel
theorem bd_111_16 : decode (bn_b 111) 16 = .ok (.istore_n 1, 1) := by decide +kernel
theorem bd_111_17 : decode (bn_b 111) 17 = .ok (.iload_n 1, 1) := by decide +kernel
theorem bd_111_18 : decode (bn_b 111) 18 = .ok (.bipush 71, 2) := by decide +kernel
theorem bd_111_20 : decode (bn_b 111) 20 = .ok (.if_icmp .ge 21, 3) := by decide +kernel
theorem bd_111_23 : decode (bn_b 111) 23 = .ok (.aload_n 0, 1) := by decide +kernel
theorem bd_111_24 : decode (bn_b 111) 24 = .ok (.getfield 26, 3) := by decide +kernel
theorem bd_111_27 : decode (bn_b 111) 27 = .ok (.iload_n 1, 1) := by decide +kernel
theorem bd_111_28 : decode (bn_b 111) 28 = .ok (.aload_n 0, 1) := by decide +kernel
theorem bd_111_29 : decode (bn_b 111) 29 = .ok (.getfield 13, 3) := by decide +kernel
theorem bd_111_32 : decode (bn_b 111) 32 = .ok (.iload_n 1, 1) := by decide +kernel
theorem bd_111_33 : decode (bn_b 111) 33 = .ok (.iaload, 1) := by decide +kernel
theorem bd_111_34 : decode (bn_b 111) 34 = .ok (.iastore, 1) := by decide +kernel
theorem bd_111_35 : decode (bn_b 111) 35 = .ok (.iinc 1 1, 3) := by decide +kernel
theorem bd_111_38 : decode (bn_b 111) 38 = .ok (.goto (-21), 3) := by decide +kernel
theorem bd_111_41 : decode (bn_b 111) 41 = .ok (.bipush (-9), 2) := by decide +kernel
theorem bd_111_43 : decode (bn_b 111) 43 = .ok (.istore_n 1, 1) := by decide +kernel
theorem bd_111_44 : decode (bn_b 111) 44 = .ok (.iconst 1, 1) := by decide +kernel
theorem bd_111_45 : decode (bn_b 111) 45 = .ok (.istore_n 2, 1) := by decide +kernel
theorem bd_111_46 : decode (bn_b 111) 46 = .ok (.iload_n 2, 1) := by decide +kernel
theorem bd_111_47 : decode (bn_b 111) 47 = .ok (.sipush 200, 3) := by decide +kernel
theorem bd_111_50 : decode (bn_b 111) 50 = .ok (.if_icmp .gt 86, 3) := by decide +kernel
theorem bd_111_53 : decode (bn_b 111) 53 = .ok (.iload_n 1, 1) := by decide +kernel
theorem bd_111_54 : decode (bn_b 111) 54 = .ok (.bipush (-9), 2) := by decide +kernel
theorem bd_111_56 : decode (bn_b 111) 56 = .ok (.if_icmp .ne 80, 3) := by decide +kernel
theorem bd_111_59 : decode (bn_b 111) 59 = .ok (.iconst 0, 1) := by decide +kernel
theorem bd_111_60 : decode (bn_b 111) 60 = .ok (.istore_n 3, 1) := by decide +kernel
theorem bd_111_61 : decode (bn_b 111) 61 = .ok (.iload_n 3, 1) := by decide +kernel
theorem bd_111_62 : decode (bn_b 111) 62 = .ok (.aload_n 0, 1) := by decide +kernel
theorem bd_111_63 : decode (bn_b 111) 63 = .ok (.getfield 106, 3) := by decide +kernel
theorem bd_111_66 : decode (bn_b 111) 66 = .ok (.if_icmp .ge 30, 3) := by decide +kernel
theorem bd_111_69 : decode (bn_b 111) 69 = .ok (.aload_n 0, 1) := by decide +kernel
theorem bd_111_70 : decode (bn_b 111) 70 = .ok (.iload_n 3, 1) := by decide +kernel
theorem bd_111_71 : decode (bn_b 111) 71 = .ok (.invokevirtual 175, 3) := by decide +kernel
theorem bd_111_74 : decode (bn_b 111) 74 = .ok (.istore 4, 2) := by decide +kernel
theorem bd_111_76 : decode (bn_b 111) 76 = .ok (.iload 4, 2) := by decide +kernel
theorem bd_111_78 : decode (bn_b 111) 78 = .ok (.bipush (-9), 2) := by decide +kernel
theorem bd_111_80 : decode (bn_b 111) 80 = .ok (.if_icmp .eq 10, 3) := by decide +kernel
theorem bd_111_83 : decode (bn_b 111) 83 = .ok (.aload_n 0, 1) := by decide +kernel
theorem bd_111_84 : decode (bn_b 111) 84 = .ok (.iload_n 3, 1) := by decide +kernel
theorem bd_111_85 : decode (bn_b 111) 85 = .ok (.iload 4, 2) := by decide +kernel
theorem bd_111_87 : decode (bn_b 111) 87 = .ok (.invokevirtual 148, 3) := by decide +kernel
theorem bd_111_90 : decode (bn_b 111) 90 = .ok (.iinc 3 1, 3) := by decide +kernel
theorem bd_111_93 : decode (bn_b 111) 93 = .ok (.goto (-32), 3) := by decide +kernel
theorem bd_111_96 : decode (bn_b 111) 96 = .ok (.aload_n 0, 1) := by decide +kernel
theorem bd_111_97 : decode (bn_b 111) 97 = .ok (.invokevirtual 155, 3) := by decide +kernel
theorem bd_111_100 : decode (bn_b 111) 100 = .ok (.istore_n 3, 1) := by decide +kernel
theorem bd_111_101 : decode (bn_b 111) 101 = .ok (.iload_n 3, 1) := by decide +kernel
theorem bd_111_102 : decode (bn_b 111) 102 = .ok (.ifCond .eq 7, 3) := by decide +kernel
theorem bd_111_105 : decode (bn_b 111) 105 = .ok (.iload_n 2, 1) := by decide +kernel
theorem bd_111_106 : decode (bn_b 111) 106 = .ok (.goto 5, 3) := by decide +kernel
theorem bd_111_109 : decode (bn_b 111) 109 = .ok (.bipush (-9), 2) := by decide +kernel
theorem bd_111_111 : decode (bn_b 111) 111 = .ok (.istore_n 1, 1) := by decide +kernel
theorem bd_111_112 : decode (bn_b 111) 112 = .ok (.aload_n 0, 1) := by decide +kernel
theorem bd_111_113 : decode (bn_b 111) 113 = .ok (.iload_n 3, 1) := by decide +kernel
theorem bd_111_114 : decode (bn_b 111) 114 = .ok (.ifCond .eq 11, 3) := by decide +kernel
theorem bd_111_117 : decode (bn_b 111) 117 = .ok (.iload_n 3, 1) := by decide +kernel
theorem bd_111_118 : decode (bn_b 111) 118 = .ok (.iconst 0, 1) := by decide +kernel
theorem bd_111_119 : decode (bn_b 111) 119 = .ok (.invokestatic 168, 3) := by decide +kernel
theorem bd_111_122 : decode (bn_b 111) 122 = .ok (.goto 5, 3) := by decide +kernel
theorem bd_111_125 : decode (bn_b 111) 125 = .ok (.bipush (-9), 2) := by decide +kernel
theorem bd_111_127 : decode (bn_b 111) 127 = .ok (.putfield 172, 3) := by decide +kernel
theorem bd_111_130 : decode (bn_b 111) 130 = .ok (.iinc 2 1, 3) := by decide +kernel
theorem bd_111_133 : decode (bn_b 111) 133 = .ok (.goto (-87), 3) := by decide +kernel
theorem bd_111_136 : decode (bn_b 111) 136 = .ok (.iconst 0, 1) := by decide +kernel
theorem bd_111_137 : decode (bn_b 111) 137 = .ok (.istore_n 2, 1) := by decide +kernel
theorem bd_111_138 : decode (bn_b 111) 138 = .ok (.iload_n 2, 1) := by decide +kernel
theorem bd_111_139 : decode (bn_b 111) 139 = .ok (.bipush 71, 2) := by decide +kernel
theorem bd_111_141 : decode (bn_b 111) 141 = .ok (.if_icmp .ge 21, 3) := by decide +kernel
theorem bd_111_144 : decode (bn_b 111) 144 = .ok (.aload_n 0, 1) := by decide +kernel
theorem bd_111_145 : decode (bn_b 111) 145 = .ok (.getfield 13, 3) := by decide +kernel
theorem bd_111_148 : decode (bn_b 111) 148 = .ok (.iload_n 2, 1) := by decide +kernel
theorem bd_111_149 : decode (bn_b 111) 149 = .ok (.aload_n 0, 1) := by decide +kernel
theorem bd_111_150 : decode (bn_b 111) 150 = .ok (.getfield 26, 3) := by decide +kernel
theorem bd_111_153 : decode (bn_b 111) 153 = .ok (.iload_n 2, 1) := by decide +kernel
theorem bd_111_154 : decode (bn_b 111) 154 = .ok (.iaload, 1) := by decide +kernel
theorem bd_111_155 : decode (bn_b 111) 155 = .ok (.iastore, 1) := by decide +kernel
theorem bd_111_156 : decode (bn_b 111) 156 = .ok (.iinc 2 1, 3) := by decide +kernel
theorem bd_111_159 : decode (bn_b 111) 159 = .ok (.goto (-21), 3) := by decide +kernel
theorem bd_111_162 : decode (bn_b 111) 162 = .ok (.iload_n 1, 1) := by decide +kernel
theorem bd_111_163 : decode (bn_b 111) 163 = .ok (.ireturn, 1) := by decide +kernel
theorem bd_112_0 : decode (bn_b 112) 0 = .ok (.aload_n 0, 1) := by decide +kernel
theorem bd_112_1 : decode (bn_b 112) 1 = .ok (.invokevirtual 178, 3) := by decide +kernel
theorem bd_112_4 : decode (bn_b 112) 4 = .ok (.ireturn, 1) := by decide +kernel
theorem bd_113_0 : decode (bn_b 113) 0 = .ok (.aload_n 0, 1) := by decide +kernel
theorem bd_113_1 : decode (bn_b 113) 1 = .ok (.invokevirtual 178, 3) := by decide +kernel
theorem bd_113_4 : decode (bn_b 113) 4 = .ok (.pop, 1) := by decide +kernel
theorem bd_113_5 : decode (bn_b 113) 5 = .ok (.aload_n 0, 1) := by decide +kernel
theorem bd_113_6 : decode (bn_b 113) 6 = .ok (.getfield 172, 3) := by decide +kernel
theorem bd_113_9 : decode (bn_b 113) 9 = .ok (.ireturn, 1) := by decide +kernel
theorem bd_114_0 : decode (bn_b 114) 0 = .ok (.iconst 0, 1) := by decide +kernel
theorem bd_114_1 : decode (bn_b 114) 1 = .ok (.istore_n 1, 1) := by decide +kernel
theorem bd_114_2 : decode (bn_b 114) 2 = .ok (.iconst 0, 1) := by decide +kernel
theorem bd_114_3 : decode (bn_b 114) 3 = .ok (.istore_n 2, 1) := by decide +kernel
theorem bd_114_4 : decode (bn_b 114) 4 = .ok (.iload_n 2, 1) := by decide +kernel
theorem bd_114_5 : decode (bn_b 114) 5 = .ok (.aload_n 0, 1) := by decide +kernel
theorem bd_114_6 : decode (bn_b 114) 6 = .ok (.getfield 109, 3) := by decide +kernel
theorem bd_114_9 : decode (bn_b 114) 9 = .ok (.if_icmp .ge 105, 3) := by decide +kernel
theorem bd_114_12 : decode (bn_b 114) 12 = .ok (.aload_n 0, 1) := by decide +kernel
theorem bd_114_13 : decode (bn_b 114) 13 = .ok (.iload_n 2, 1) := by decide +kernel
theorem bd_114_14 : decode (bn_b 114) 14 = .ok (.invokevirtual 115, 3) := by decide +kernel
theorem bd_114_17 : decode (bn_b 114) 17 = .ok (.bipush 10, 2) := by decide +kernel
theorem bd_114_19 : decode (bn_b 114) 19 = .ok (.if_icmp .ge 89, 3) := by decide +kernel
theorem bd_114_22 : decode (bn_b 114) 22 = .ok (.aload_n 0, 1) := by decide +kernel
theorem bd_114_23 : decode (bn_b 114) 23 = .ok (.iload_n 2, 1) := by decide +kernel
theorem bd_114_24 : decode (bn_b 114) 24 = .ok (.invokevirtual 128, 3) := by decide +kernel
theorem bd_114_27 : decode (bn_b 114) 27 = .ok (.ifCond .ne 81, 3) := by decide +kernel
theorem bd_114_30 : decode (bn_b 114) 30 = .ok (.iload_n 1, 1) := by decide +kernel
theorem bd_114_31 : decode (bn_b 114) 31 = .ok (.istore_n 3, 1) := by decide +kernel
theorem bd_114_32 : decode (bn_b 114) 32 = .ok (.iload_n 3, 1) := by decide +kernel
theorem bd_114_33 : decode (bn_b 114) 33 = .ok (.ifCond .le 50, 3) := by decide +kernel
theorem bd_114_36 : decode (bn_b 114) 36 = .ok (.aload_n 0, 1) := by decide +kernel
theorem bd_114_37 : decode (bn_b 114) 37 = .ok (.getfield 36, 3) := by decide +kernel
theorem bd_114_40 : decode (bn_b 114) 40 = .ok (.iload_n 3, 1) := by decide +kernel
theorem bd_114_41 : decode (bn_b 114) 41 = .ok (.iconst 1, 1) := by decide +kernel
theorem bd_114_42 : decode (bn_b 114) 42 = .ok (.isub, 1) := by decide +kernel
theorem bd_114_43 : decode (bn_b 114) 43 = .ok (.iaload, 1) := by decide +kernel
theorem bd_114_44 : decode (bn_b 114) 44 = .ok (.aload_n 0, 1) := by decide +kernel
theorem bd_114_45 : decode (bn_b 114) 45 = .ok (.getfield 52, 3) := by decide +kernel
theorem bd_114_48 : decode (bn_b 114) 48 = .ok (.aload_n 0, 1) := by decide +kernel
theorem bd_114_49 : decode (bn_b 114) 49 = .ok (.getfield 13, 3) := by decide +kernel
theorem bd_114_52 : decode (bn_b 114) 52 = .ok (.bipush 22, 2) := by decide +kernel
theorem bd_114_54 : decode (bn_b 114) 54 = .ok (.iconst 5, 1) := by decide +kernel
theorem bd_114_55 : decode (bn_b 114) 55 = .ok (.iload_n 2, 1) := by decide +kernel
theorem bd_114_56 : decode (bn_b 114) 56 = .ok (.imul, 1) := by decide +kernel
theorem bd_114_57 : decode (bn_b 114) 57 = .ok (.iadd, 1) := by decide +kernel
theorem bd_114_58 : decode (bn_b 114) 58 = .ok (.iaload, 1) := by decide +kernel
theorem bd_114_59 : decode (bn_b 114) 59 = .ok (.isub, 1) := by decide +kernel
theorem bd_114_60 : decode (bn_b 114) 60 = .ok (.if_icmp .le 23, 3) := by decide +kernel
theorem bd_114_63 : decode (bn_b 114) 63 = .ok (.aload_n 0, 1) := by decide +kernel
theorem bd_114_64 : decode (bn_b 114) 64 = .ok (.getfield 36, 3) := by decide +kernel
theorem bd_114_67 : decode (bn_b 114) 67 = .ok (.iload_n 3, 1) := by decide +kernel
theorem bd_114_68 : decode (bn_b 114) 68 = .ok (.aload_n 0, 1) := by decide +kernel
theorem bd_114_69 : decode (bn_b 114) 69 = .ok (.getfield 36, 3) := by decide +kernel
theorem bd_114_72 : decode (bn_b 114) 72 = .ok (.iload_n 3, 1) := by decide +kernel
theorem bd_114_73 : decode (bn_b 114) 73 = .ok (.iconst 1, 1) := by decide +kernel
theorem bd_114_74 : decode (bn_b 114) 74 = .ok (.isub, 1) := by decide +kernel
theorem bd_114_75 : decode (bn_b 114) 75 = .ok (.iaload, 1) := by decide +kernel
theorem bd_114_76 : decode (bn_b 114) 76 = .ok (.iastore, 1) := by decide +kernel
theorem bd_114_77 : decode (bn_b 114) 77 = .ok (.iinc 3 (-1), 3) := by decide +kernel
theorem bd_114_80 : decode (bn_b 114) 80 = .ok (.goto (-48), 3) := by decide +kernel
theorem bd_114_83 : decode (bn_b 114) 83 = .ok (.aload_n 0, 1) := by decide +kernel
theorem bd_114_84 : decode (bn_b 114) 84 = .ok (.getfield 36, 3) := by decide +kernel
theorem bd_114_87 : decode (bn_b 114) 87 = .ok (.iload_n 3, 1) := by decide +kernel
theorem bd_114_88 : decode (bn_b 114) 88 = .ok (.aload_n 0, 1) := by decide +kernel
theorem bd_114_89 : decode (bn_b 114) 89 = .ok (.getfield 52, 3) := by decide +kernel
theorem bd_114_92 : decode (bn_b 114) 92 = .ok (.aload_n 0, 1) := by decide +kernel
theorem bd_114_93 : decode (bn_b 114) 93 = .ok (.getfield 13, 3) := by decide +kernel
theorem bd_114_96 : decode (bn_b 114) 96 = .ok (.bipush 22, 2) := by decide +kernel
theorem bd_114_98 : decode (bn_b 114) 98 = .ok (.iconst 5, 1) := by decide +kernel
theorem bd_114_99 : decode (bn_b 114) 99 = .ok (.iload_n 2, 1) := by decide +kernel
theorem bd_114_100 : decode (bn_b 114) 100 = .ok (.imul, 1) := by decide +kernel
theorem bd_114_101 : decode (bn_b 114) 101 = .ok (.iadd, 1) := by decide +kernel
theorem bd_114_102 : decode (bn_b 114) 102 = .ok (.iaload, 1) := by decide +kernel
theorem bd_114_103 : decode (bn_b 114) 103 = .ok (.isub, 1) := by decide +kernel
theorem bd_114_104 : decode (bn_b 114) 104 = .ok (.iastore, 1) := by decide +kernel
theorem bd_114_105 : decode (bn_b 114) 105 = .ok (.iinc 1 1, 3) := by decide +kernel
theorem bd_114_108 : decode (bn_b 114) 108 = .ok (.iinc 2 1, 3) := by decide +kernel
theorem bd_114_111 : decode (bn_b 114) 111 = .ok (.goto (-107), 3) := by decide +kernel
theorem bd_114_114 : decode (bn_b 114) 114 = .ok (.iload_n 1, 1) := by decide +kernel
theorem bd_114_115 : decode (bn_b 114) 115 = .ok (.ireturn, 1) := by decide +kernel
theorem bd_115_0 : decode (bn_b 115) 0 = .ok (.iload_n 0, 1) := by decide +kernel
theorem bd_115_1 : decode (bn_b 115) 1 = .ok (.ifCond .ne 7, 3) := by decide +kernel
theorem bd_115_4 : decode (bn_b 115) 4 = .ok (.iconst 1, 1) := by decide +kernel
theorem bd_115_5 : decode (bn_b 115) 5 = .ok (.goto 15, 3) := by decide +kernel
theorem bd_115_8 : decode (bn_b 115) 8 = .ok (.iload_n 0, 1) := by decide +kernel
theorem bd_115_9 : decode (bn_b 115) 9 = .ok (.iconst 1, 1) := by decide +kernel
theorem bd_115_10 : decode (bn_b 115) 10 = .ok (.if_icmp .ne 8, 3) := by decide +kernel
theorem bd_115_13 : decode (bn_b 115) 13 = .ok (.bipush 10, 2) := by decide +kernel
theorem bd_115_15 : decode (bn_b 115) 15 = .ok (.goto 5, 3) := by decide +kernel
theorem bd_115_18 : decode (bn_b 115) 18 = .ok (.bipush 100, 2) := by decide +kernel
theorem bd_115_20 : decode (bn_b 115) 20 = .ok (.ireturn, 1) := by decide +kernel
theorem bd_116_0 : decode (bn_b 116) 0 = .ok (.iconst 0, 1) := by decide +kernel
theorem bd_116_1 : decode (bn_b 116) 1 = .ok (.istore 5, 2) := by decide +kernel
theorem bd_116_3 : decode (bn_b 116) 3 = .ok (.iconst 0, 1) := by decide +kernel
theorem bd_116_4 : decode (bn_b 116) 4 = .ok (.istore 6, 2) := by decide +kernel
theorem bd_116_6 : decode (bn_b 116) 6 = .ok (.iload 6, 2) := by decide +kernel
theorem bd_116_8 : decode (bn_b 116) 8 = .ok (.iload 4, 2) := by decide +kernel
theorem bd_116_10 : decode (bn_b 116) 10 = .ok (.if_icmp .ge 81, 3) := by decide +kernel
theorem bd_116_13 : decode (bn_b 116) 13 = .ok (.iload_n 1, 1) := by decide +kernel
theorem bd_116_14 : decode (bn_b 116) 14 = .ok (.iload 6, 2) := by decide +kernel
theorem bd_116_16 : decode (bn_b 116) 16 = .ok (.invokestatic 181, 3) := by decide +kernel
theorem bd_116_19 : decode (bn_b 116) 19 = .ok (.idiv, 1) := by decide +kernel
theorem bd_116_20 : decode (bn_b 116) 20 = .ok (.bipush 10, 2) := by decide +kernel
theorem bd_116_22 : decode (bn_b 116) 22 = .ok (.irem, 1) := by decide +kernel
theorem bd_116_23 : decode (bn_b 116) 23 = .ok (.istore 7, 2) := by decide +kernel
theorem bd_116_25 : decode (bn_b 116) 25 = .ok (.iload_n 2, 1) := by decide +kernel
theorem bd_116_26 : decode (bn_b 116) 26 = .ok (.iload 6, 2) := by decide +kernel
theorem bd_116_28 : decode (bn_b 116) 28 = .ok (.ishr, 1) := by decide +kernel
theorem bd_116_29 : decode (bn_b 116) 29 = .ok (.iconst 1, 1) := by decide +kernel
theorem bd_116_30 : decode (bn_b 116) 30 = .ok (.iand, 1) := by decide +kernel
theorem bd_116_31 : decode (bn_b 116) 31 = .ok (.iconst 1, 1) := by decide +kernel
theorem bd_116_32 : decode (bn_b 116) 32 = .ok (.if_icmp .ne 7, 3) := by decide +kernel
theorem bd_116_35 : decode (bn_b 116) 35 = .ok (.iconst 0, 1) := by decide +kernel
theorem bd_116_36 : decode (bn_b 116) 36 = .ok (.goto 22, 3) := by decide +kernel
theorem bd_116_39 : decode (bn_b 116) 39 = .ok (.iload_n 3, 1) := by decide +kernel
theorem bd_116_40 : decode (bn_b 116) 40 = .ok (.iload 6, 2) := by decide +kernel
theorem bd_116_42 : decode (bn_b 116) 42 = .ok (.ishr, 1) := by decide +kernel
theorem bd_116_43 : decode (bn_b 116) 43 = .ok (.iconst 1, 1) := by decide +kernel
theorem bd_116_44 : decode (bn_b 116) 44 = .ok (.iand, 1) := by decide +kernel
theorem bd_116_45 : decode (bn_b 116) 45 = .ok (.iconst 1, 1) := by decide +kernel
theorem bd_116_46 : decode (bn_b 116) 46 = .ok (.if_icmp .ne 8, 3) := by decide +kernel
theorem bd_116_49 : decode (bn_b 116) 49 = .ok (.iload 7, 2) := by decide +kernel
theorem bd_116_51 : decode (bn_b 116) 51 = .ok (.goto 7, 3) := by decide +kernel
theorem bd_116_54 : decode (bn_b 116) 54 = .ok (.iload 7, 2) := by decide +kernel
theorem bd_116_56 : decode (bn_b 116) 56 = .ok (.iconst 1, 1) := by decide +kernel
theorem bd_116_57 : decode (bn_b 116) 57 = .ok (.iadd, 1) := by decide +kernel
theorem bd_116_58 : decode (bn_b 116) 58 = .ok (.istore 7, 2) := by decide +kernel
theorem bd_116_60 : decode (bn_b 116) 60 = .ok (.iload 7, 2) := by decide +kernel
theorem bd_116_62 : decode (bn_b 116) 62 = .ok (.aload_n 0, 1) := by decide +kernel
theorem bd_116_63 : decode (bn_b 116) 63 = .ok (.getfield 48, 3) := by decide +kernel
theorem bd_116_66 : decode (bn_b 116) 66 = .ok (.if_icmp .le 6, 3) := by decide +kernel
theorem bd_116_69 : decode (bn_b 116) 69 = .ok (.bipush (-9), 2) := by decide +kernel
theorem bd_116_71 : decode (bn_b 116) 71 = .ok (.ireturn, 1) := by decide +kernel
theorem bd_116_72 : decode (bn_b 116) 72 = .ok (.iload 5, 2) := by decide +kernel
theorem bd_116_74 : decode (bn_b 116) 74 = .ok (.iload 7, 2) := by decide +kernel
theorem bd_116_76 : decode (bn_b 116) 76 = .ok (.iload 6, 2) := by decide +kernel
theorem bd_116_78 : decode (bn_b 116) 78 = .ok (.invokestatic 181, 3) := by decide +kernel
theorem bd_116_81 : decode (bn_b 116) 81 = .ok (.imul, 1) := by decide +kernel
theorem bd_116_82 : decode (bn_b 116) 82 = .ok (.iadd, 1) := by decide +kernel
theorem bd_116_83 : decode (bn_b 116) 83 = .ok (.istore 5, 2) := by decide +kernel
theorem bd_116_85 : decode (bn_b 116) 85 = .ok (.iinc 6 1, 3) := by decide +kernel
theorem bd_116_88 : decode (bn_b 116) 88 = .ok (.goto (-82), 3) := by decide +kernel
theorem bd_116_91 : decode (bn_b 116) 91 = .ok (.iload 5, 2) := by decide +kernel
theorem bd_116_93 : decode (bn_b 116) 93 = .ok (.ireturn, 1) := by decide +kernel
theorem bd_117_0 : decode (bn_b 117) 0 = .ok (.aload_n 0, 1) := by decide +kernel
theorem bd_117_1 : decode (bn_b 117) 1 = .ok (.invokevirtual 158, 3) := by decide +kernel
theorem bd_117_4 : decode (bn_b 117) 4 = .ok (.istore_n 1, 1) := by decide +kernel
theorem bd_117_5 : decode (bn_b 117) 5 = .ok (.iload_n 1, 1) := by decide +kernel
theorem bd_117_6 : decode (bn_b 117) 6 = .ok (.invokestatic 165, 3) := by decide +kernel
theorem bd_117_9 : decode (bn_b 117) 9 = .ok (.istore_n 2, 1) := by decide +kernel
theorem bd_117_10 : decode (bn_b 117) 10 = .ok (.iload_n 2, 1) := by decide +kernel
theorem bd_117_11 : decode (bn_b 117) 11 = .ok (.ifCond .eq 8, 3) := by decide +kernel
theorem bd_117_14 : decode (bn_b 117) 14 = .ok (.iload_n 2, 1) := by decide +kernel
theorem bd_117_15 : decode (bn_b 117) 15 = .ok (.iconst 3, 1) := by decide +kernel
theorem bd_117_16 : decode (bn_b 117) 16 = .ok (.if_icmp .le 6, 3) := by decide +kernel
theorem bd_117_19 : decode (bn_b 117) 19 = .ok (.bipush (-3), 2) := by decide +kernel
theorem bd_117_21 : decode (bn_b 117) 21 = .ok (.ireturn, 1) := by decide +kernel
theorem bd_117_22 : decode (bn_b 117) 22 = .ok (.aload_n 0, 1) := by decide +kernel
theorem bd_117_23 : decode (bn_b 117) 23 = .ok (.invokevirtual 184, 3) := by decide +kernel
theorem bd_117_26 : decode (bn_b 117) 26 = .ok (.istore_n 3, 1) := by decide +kernel
theorem bd_117_27 : decode (bn_b 117) 27 = .ok (.iconst 0, 1) := by decide +kernel
theorem bd_117_28 : decode (bn_b 117) 28 = .ok (.istore 4, 2) := by decide +kernel
theorem bd_117_30 : decode (bn_b 117) 30 = .ok (.iconst 0, 1) := by decide +kernel
theorem bd_117_31 : decode (bn_b 117) 31 = .ok (.istore 5, 2) := by decide +kernel
theorem bd_117_33 : decode (bn_b 117) 33 = .ok (.iconst 0, 1) := by decide +kernel
theorem bd_117_34 : decode (bn_b 117) 34 = .ok (.istore 6, 2) := by decide +kernel
theorem bd_117_36 : decode (bn_b 117) 36 = .ok (.iload 6, 2) := by decide +kernel
theorem bd_117_38 : decode (bn_b 117) 38 = .ok (.iload_n 2, 1) := by decide +kernel
theorem bd_117_39 : decode (bn_b 117) 39 = .ok (.if_icmp .ge 56, 3) := by decide +kernel
theorem bd_117_42 : decode (bn_b 117) 42 = .ok (.iload_n 1, 1) := by decide +kernel
theorem bd_117_43 : decode (bn_b 117) 43 = .ok (.iload 6, 2) := by decide +kernel
theorem bd_117_45 : decode (bn_b 117) 45 = .ok (.invokestatic 168, 3) := by decide +kernel
theorem bd_117_48 : decode (bn_b 117) 48 = .ok (.istore 7, 2) := by decide +kernel
theorem bd_117_50 : decode (bn_b 117) 50 = .ok (.iload 4, 2) := by decide +kernel
theorem bd_117_52 : decode (bn_b 117) 52 = .ok (.aload_n 0, 1) := by decide +kernel
theorem bd_117_53 : decode (bn_b 117) 53 = .ok (.getfield 13, 3) := by decide +kernel
theorem bd_117_56 : decode (bn_b 117) 56 = .ok (.iconst 4, 1) := by decide +kernel
theorem bd_117_57 : decode (bn_b 117) 57 = .ok (.iload 7, 2) := by decide +kernel
theorem bd_117_59 : decode (bn_b 117) 59 = .ok (.imul, 1) := by decide +kernel
theorem bd_117_60 : decode (bn_b 117) 60 = .ok (.iaload, 1) := by decide +kernel
theorem bd_117_61 : decode (bn_b 117) 61 = .ok (.iload 6, 2) := by decide +kernel
theorem bd_117_63 : decode (bn_b 117) 63 = .ok (.invokestatic 181, 3) := by decide +kernel
theorem bd_117_66 : decode (bn_b 117) 66 = .ok (.imul, 1) := by decide +kernel
theorem bd_117_67 : decode (bn_b 117) 67 = .ok (.iadd, 1) := by decide +kernel
theorem bd_117_68 : decode (bn_b 117) 68 = .ok (.istore 4, 2) := by decide +kernel
theorem bd_117_70 : decode (bn_b 117) 70 = .ok (.iload 5, 2) := by decide +kernel
theorem bd_117_72 : decode (bn_b 117) 72 = .ok (.aload_n 0, 1) := by decide +kernel
theorem bd_117_73 : decode (bn_b 117) 73 = .ok (.getfield 13, 3) := by decide +kernel
theorem bd_117_76 : decode (bn_b 117) 76 = .ok (.iconst 4, 1) := by decide +kernel
theorem bd_117_77 : decode (bn_b 117) 77 = .ok (.iload 7, 2) := by decide +kernel
theorem bd_117_79 : decode (bn_b 117) 79 = .ok (.imul, 1) := by decide +kernel
theorem bd_117_80 : decode (bn_b 117) 80 = .ok (.iconst 2, 1) := by decide +kernel
theorem bd_117_81 : decode (bn_b 117) 81 = .ok (.iadd, 1) := by decide +kernel
theorem bd_117_82 : decode (bn_b 117) 82 = .ok (.iaload, 1) := by decide +kernel
theorem bd_117_83 : decode (bn_b 117) 83 = .ok (.iload 6, 2) := by decide +kernel
theorem bd_117_85 : decode (bn_b 117) 85 = .ok (.ishl, 1) := by decide +kernel
theorem bd_117_86 : decode (bn_b 117) 86 = .ok (.ior, 1) := by decide +kernel
theorem bd_117_87 : decode (bn_b 117) 87 = .ok (.istore 5, 2) := by decide +kernel
theorem bd_117_89 : decode (bn_b 117) 89 = .ok (.iinc 6 1, 3) := by decide +kernel
theorem bd_117_92 : decode (bn_b 117) 92 = .ok (.goto (-56), 3) := by decide +kernel
theorem bd_117_95 : decode (bn_b 117) 95 = .ok (.iconst 0, 1) := by decide +kernel
theorem bd_117_96 : decode (bn_b 117) 96 = .ok (.istore 6, 2) := by decide +kernel
theorem bd_117_98 : decode (bn_b 117) 98 = .ok (.iload 6, 2) := by decide +kernel
theorem bd_117_100 : decode (bn_b 117) 100 = .ok (.sipush 11000, 3) := by decide +kernel
theorem bd_117_103 : decode (bn_b 117) 103 = .ok (.if_icmp .ge 28, 3) := by decide +kernel
theorem bd_117_106 : decode (bn_b 117) 106 = .ok (.aload_n 0, 1) := by decide +kernel
theorem bd_117_107 : decode (bn_b 117) 107 = .ok (.getfield 29, 3) := by decide +kernel
theorem bd_117_110 : decode (bn_b 117) 110 = .ok (.iload 6, 2) := by decide +kernel
theorem bd_117_112 : decode (bn_b 117) 112 = .ok (.iload 6, 2) := by decide +kernel
theorem bd_117_114 : decode (bn_b 117) 114 = .ok (.iload 4, 2) := by decide +kernel
theorem bd_117_116 : decode (bn_b 117) 116 = .ok (.if_icmp .ne 7, 3) := by decide +kernel
theorem bd_117_119 : decode (bn_b 117) 119 = .ok (.iconst 1, 1) := by decide +kernel
theorem bd_117_120 : decode (bn_b 117) 120 = .ok (.goto 4, 3) := by decide +kernel
theorem bd_117_123 : decode (bn_b 117) 123 = .ok (.iconst 0, 1) := by decide +kernel
theorem bd_117_124 : decode (bn_b 117) 124 = .ok (.bastore, 1) := by decide +kernel
theorem bd_117_125 : decode (bn_b 117) 125 = .ok (.iinc 6 1, 3) := by decide +kernel
theorem bd_117_128 : decode (bn_b 117) 128 = .ok (.goto (-30), 3) := by decide +kernel
theorem bd_117_131 : decode (bn_b 117) 131 = .ok (.iconst 0, 1) := by decide +kernel
theorem bd_117_132 : decode (bn_b 117) 132 = .ok (.istore 6, 2) := by decide +kernel
theorem bd_117_134 : decode (bn_b 117) 134 = .ok (.aload_n 0, 1) := by decide +kernel
theorem bd_117_135 : decode (bn_b 117) 135 = .ok (.iload_n 3, 1) := by decide +kernel
theorem bd_117_136 : decode (bn_b 117) 136 = .ok (.iload 6, 2) := by decide +kernel
theorem bd_117_138 : decode (bn_b 117) 138 = .ok (.iload 6, 2) := by decide +kernel
theorem bd_117_140 : decode (bn_b 117) 140 = .ok (.ifCond .ne 8, 3) := by decide +kernel
theorem bd_117_143 : decode (bn_b 117) 143 = .ok (.iload 5, 2) := by decide +kernel
theorem bd_117_145 : decode (bn_b 117) 145 = .ok (.goto 4, 3) := by decide +kernel
theorem bd_117_148 : decode (bn_b 117) 148 = .ok (.iconst 0, 1) := by decide +kernel
theorem bd_117_149 : decode (bn_b 117) 149 = .ok (.iload_n 2, 1) := by decide +kernel
theorem bd_117_150 : decode (bn_b 117) 150 = .ok (.invokevirtual 187, 3) := by decide +kernel
theorem bd_117_153 : decode (bn_b 117) 153 = .ok (.ifCond .eq 9, 3) := by decide +kernel
theorem bd_117_156 : decode (bn_b 117) 156 = .ok (.iinc 6 1, 3) := by decide +kernel
theorem bd_117_159 : decode (bn_b 117) 159 = .ok (.goto (-25), 3) := by decide +kernel
theorem bd_117_162 : decode (bn_b 117) 162 = .ok (.iload 6, 2) := by decide +kernel
theorem bd_117_164 : decode (bn_b 117) 164 = .ok (.ireturn, 1) := by decide +kernel
theorem bd_118_0 : decode (bn_b 118) 0 = .ok (.iconst 0, 1) := by decide +kernel
theorem bd_118_1 : decode (bn_b 118) 1 = .ok (.istore 5, 2) := by decide +kernel
theorem bd_118_3 : decode (bn_b 118) 3 = .ok (.iconst 0, 1) := by decide +kernel
theorem bd_118_4 : decode (bn_b 118) 4 = .ok (.istore 6, 2) := by decide +kernel
theorem bd_118_6 : decode (bn_b 118) 6 = .ok (.iload 6, 2) := by decide +kernel
theorem bd_118_8 : decode (bn_b 118) 8 = .ok (.sipush 11000, 3) := by decide +kernel
theorem bd_118_11 : decode (bn_b 118) 11 = .ok (.if_icmp .ge 17, 3) := by decide +kernel
theorem bd_118_14 : decode (bn_b 118) 14 = .ok (.aload_n 0, 1) := by decide +kernel
theorem bd_118_15 : decode (bn_b 118) 15 = .ok (.getfield 33, 3) := by decide +kernel
theorem bd_118_18 : decode (bn_b 118) 18 = .ok (.iload 6, 2) := by decide +kernel
theorem bd_118_20 : decode (bn_b 118) 20 = .ok (.iconst 0, 1) := by decide +kernel
theorem bd_118_21 : decode (bn_b 118) 21 = .ok (.bastore, 1) := by decide +kernel
theorem bd_118_22 : decode (bn_b 118) 22 = .ok (.iinc 6 1, 3) := by decide +kernel
theorem bd_118_25 : decode (bn_b 118) 25 = .ok (.goto (-19), 3) := by decide +kernel
theorem bd_118_28 : decode (bn_b 118) 28 = .ok (.iconst 0, 1) := by decide +kernel
theorem bd_118_29 : decode (bn_b 118) 29 = .ok (.istore 6, 2) := by decide +kernel
theorem bd_118_31 : decode (bn_b 118) 31 = .ok (.iload 6, 2) := by decide +kernel
theorem bd_118_33 : decode (bn_b 118) 33 = .ok (.sipush 11000, 3) := by decide +kernel
theorem bd_118_36 : decode (bn_b 118) 36 = .ok (.if_icmp .ge 140, 3) := by decide +kernel
theorem bd_118_39 : decode (bn_b 118) 39 = .ok (.aload_n 0, 1) := by decide +kernel
theorem bd_118_40 : decode (bn_b 118) 40 = .ok (.getfield 29, 3) := by decide +kernel
theorem bd_118_43 : decode (bn_b 118) 43 = .ok (.iload 6, 2) := by decide +kernel
theorem bd_118_45 : decode (bn_b 118) 45 = .ok (.baload, 1) := by decide +kernel
theorem bd_118_46 : decode (bn_b 118) 46 = .ok (.ifCond .eq 124, 3) := by decide +kernel
theorem bd_118_49 : decode (bn_b 118) 49 = .ok (.iload 6, 2) := by decide +kernel
theorem bd_118_51 : decode (bn_b 118) 51 = .ok (.sipush 1000, 3) := by decide +kernel
theorem bd_118_54 : decode (bn_b 118) 54 = .ok (.idiv, 1) := by decide +kernel
theorem bd_118_55 : decode (bn_b 118) 55 = .ok (.istore 7, 2) := by decide +kernel
theorem bd_118_57 : decode (bn_b 118) 57 = .ok (.iload 7, 2) := by decide +kernel
theorem bd_118_59 : decode (bn_b 118) 59 = .ok (.iload_n 1, 1) := by decide +kernel
theorem bd_118_60 : decode (bn_b 118) 60 = .ok (.if_icmp .ge 20, 3) := by decide +kernel
theorem bd_118_63 : decode (bn_b 118) 63 = .ok (.aload_n 0, 1) := by decide +kernel
theorem bd_118_64 : decode (bn_b 118) 64 = .ok (.getfield 36, 3) := by decide +kernel
theorem bd_118_67 : decode (bn_b 118) 67 = .ok (.iload 7, 2) := by decide +kernel
theorem bd_118_69 : decode (bn_b 118) 69 = .ok (.iaload, 1) := by decide +kernel
theorem bd_118_70 : decode (bn_b 118) 70 = .ok (.iload_n 2, 1) := by decide +kernel
theorem bd_118_71 : decode (bn_b 118) 71 = .ok (.if_icmp .gt 9, 3) := by decide +kernel
theorem bd_118_74 : decode (bn_b 118) 74 = .ok (.iinc 7 1, 3) := by decide +kernel
theorem bd_118_77 : decode (bn_b 118) 77 = .ok (.goto (-20), 3) := by decide +kernel
theorem bd_118_80 : decode (bn_b 118) 80 = .ok (.iconst 0, 1) := by decide +kernel
theorem bd_118_81 : decode (bn_b 118) 81 = .ok (.istore 8, 2) := by decide +kernel
theorem bd_118_83 : decode (bn_b 118) 83 = .ok (.iload 8, 2) := by decide +kernel
theorem bd_118_85 : decode (bn_b 118) 85 = .ok (.iconst 1, 1) := by decide +kernel
theorem bd_118_86 : decode (bn_b 118) 86 = .ok (.iload 4, 2) := by decide +kernel
theorem bd_118_88 : decode (bn_b 118) 88 = .ok (.ishl, 1) := by decide +kernel
theorem bd_118_89 : decode (bn_b 118) 89 = .ok (.if_icmp .ge 81, 3) := by decide +kernel
theorem bd_118_92 : decode (bn_b 118) 92 = .ok (.iload 8, 2) := by decide +kernel
theorem bd_118_94 : decode (bn_b 118) 94 = .ok (.iload_n 3, 1) := by decide +kernel
theorem bd_118_95 : decode (bn_b 118) 95 = .ok (.iand, 1) := by decide +kernel
theorem bd_118_96 : decode (bn_b 118) 96 = .ok (.ifCond .ne 33, 3) := by decide +kernel
theorem bd_118_99 : decode (bn_b 118) 99 = .ok (.iload 7, 2) := by decide +kernel
theorem bd_118_101 : decode (bn_b 118) 101 = .ok (.iload 8, 2) := by decide +kernel
theorem bd_118_103 : decode (bn_b 118) 103 = .ok (.invokestatic 165, 3) := by decide +kernel
theorem bd_118_106 : decode (bn_b 118) 106 = .ok (.iadd, 1) := by decide +kernel
theorem bd_118_107 : decode (bn_b 118) 107 = .ok (.iload_n 1, 1) := by decide +kernel
theorem bd_118_108 : decode (bn_b 118) 108 = .ok (.if_icmp .gt 21, 3) := by decide +kernel
theorem bd_118_111 : decode (bn_b 118) 111 = .ok (.aload_n 0, 1) := by decide +kernel
theorem bd_118_112 : decode (bn_b 118) 112 = .ok (.iload 6, 2) := by decide +kernel
theorem bd_118_114 : decode (bn_b 118) 114 = .ok (.sipush 1000, 3) := by decide +kernel
theorem bd_118_117 : decode (bn_b 118) 117 = .ok (.irem, 1) := by decide +kernel
theorem bd_118_118 : decode (bn_b 118) 118 = .ok (.iload 8, 2) := by decide +kernel
theorem bd_118_120 : decode (bn_b 118) 120 = .ok (.iload_n 3, 1) := by decide +kernel
theorem bd_118_121 : decode (bn_b 118) 121 = .ok (.iload 4, 2) := by decide +kernel
theorem bd_118_123 : decode (bn_b 118) 123 = .ok (.invokevirtual 191, 3) := by decide +kernel
theorem bd_118_126 : decode (bn_b 118) 126 = .ok (.goto 5, 3) := by decide +kernel
theorem bd_118_129 : decode (bn_b 118) 129 = .ok (.bipush (-9), 2) := by decide +kernel
theorem bd_118_131 : decode (bn_b 118) 131 = .ok (.istore 9, 2) := by decide +kernel
theorem bd_118_133 : decode (bn_b 118) 133 = .ok (.iload 9, 2) := by decide +kernel
theorem bd_118_135 : decode (bn_b 118) 135 = .ok (.bipush (-9), 2) := by decide +kernel
theorem bd_118_137 : decode (bn_b 118) 137 = .ok (.if_icmp .eq 27, 3) := by decide +kernel
theorem bd_118_140 : decode (bn_b 118) 140 = .ok (.aload_n 0, 1) := by decide +kernel
theorem bd_118_141 : decode (bn_b 118) 141 = .ok (.getfield 33, 3) := by decide +kernel
theorem bd_118_144 : decode (bn_b 118) 144 = .ok (.sipush 1000, 3) := by decide +kernel
theorem bd_118_147 : decode (bn_b 118) 147 = .ok (.iload 7, 2) := by decide +kernel
theorem bd_118_149 : decode (bn_b 118) 149 = .ok (.iload 8, 2) := by decide +kernel
theorem bd_118_151 : decode (bn_b 118) 151 = .ok (.invokestatic 165, 3) := by decide +kernel
theorem bd_118_154 : decode (bn_b 118) 154 = .ok (.iadd, 1) := by decide +kernel
theorem bd_118_155 : decode (bn_b 118) 155 = .ok (.imul, 1) := by decide +kernel
theorem bd_118_156 : decode (bn_b 118) 156 = .ok (.iload 9, 2) := by decide +kernel
theorem bd_118_158 : decode (bn_b 118) 158 = .ok (.iadd, 1) := by decide +kernel
theorem bd_118_159 : decode (bn_b 118) 159 = .ok (.iconst 1, 1) := by decide +kernel
theorem bd_118_160 : decode (bn_b 118) 160 = .ok (.bastore, 1) := by decide +kernel
theorem bd_118_161 : decode (bn_b 118) 161 = .ok (.iconst 1, 1) := by decide +kernel
theorem bd_118_162 : decode (bn_b 118) 162 = .ok (.istore 5, 2) := by decide +kernel
theorem bd_118_164 : decode (bn_b 118) 164 = .ok (.iinc 8 1, 3) := by decide +kernel
theorem bd_118_167 : decode (bn_b 118) 167 = .ok (.goto (-84), 3) := by decide +kernel
theorem bd_118_170 : decode (bn_b 118) 170 = .ok (.iinc 6 1, 3) := by decide +kernel
theorem bd_118_173 : decode (bn_b 118) 173 = .ok (.goto (-142), 3) := by decide +kernel
theorem bd_118_176 : decode (bn_b 118) 176 = .ok (.iconst 0, 1) := by decide +kernel
theorem bd_118_177 : decode (bn_b 118) 177 = .ok (.istore 6, 2) := by decide +kernel
theorem bd_118_179 : decode (bn_b 118) 179 = .ok (.iload 6, 2) := by decide +kernel
theorem bd_118_181 : decode (bn_b 118) 181 = .ok (.sipush 11000, 3) := by decide +kernel
theorem bd_118_184 : decode (bn_b 118) 184 = .ok (.if_icmp .ge 23, 3) := by decide +kernel
theorem bd_118_187 : decode (bn_b 118) 187 = .ok (.aload_n 0, 1) := by decide +kernel
theorem bd_118_188 : decode (bn_b 118) 188 = .ok (.getfield 29, 3) := by decide +kernel
theorem bd_118_191 : decode (bn_b 118) 191 = .ok (.iload 6, 2) := by decide +kernel
theorem bd_118_193 : decode (bn_b 118) 193 = .ok (.aload_n 0, 1) := by decide +kernel
theorem bd_118_194 : decode (bn_b 118) 194 = .ok (.getfield 33, 3) := by decide +kernel
theorem bd_118_197 : decode (bn_b 118) 197 = .ok (.iload 6, 2) := by decide +kernel
theorem bd_118_199 : decode (bn_b 118) 199 = .ok (.baload, 1) := by decide +kernel
theorem bd_118_200 : decode (bn_b 118) 200 = .ok (.bastore, 1) := by decide +kernel
theorem bd_118_201 : decode (bn_b 118) 201 = .ok (.iinc 6 1, 3) := by decide +kernel
theorem bd_118_204 : decode (bn_b 118) 204 = .ok (.goto (-25), 3) := by decide +kernel
theorem bd_118_207 : decode (bn_b 118) 207 = .ok (.iload 5, 2) := by decide +kernel
theorem bd_118_209 : decode (bn_b 118) 209 = .ok (.ireturn, 1) := by decide +kernel
theorem bd_119_0 : decode (bn_b 119) 0 = .ok (.iconst 0, 1) := by decide +kernel
theorem bd_119_1 : decode (bn_b 119) 1 = .ok (.istore_n 1, 1) := by decide +kernel
theorem bd_119_2 : decode (bn_b 119) 2 = .ok (.iconst 0, 1) := by decide +kernel
theorem bd_119_3 : decode (bn_b 119) 3 = .ok (.istore_n 2, 1) := by decide +kernel
theorem bd_119_4 : decode (bn_b 119) 4 = .ok (.iload_n 2, 1) := by decide +kernel
theorem bd_119_5 : decode (bn_b 119) 5 = .ok (.aload_n 0, 1) := by decide +kernel
theorem bd_119_6 : decode (bn_b 119) 6 = .ok (.getfield 109, 3) := by decide +kernel
theorem bd_119_9 : decode (bn_b 119) 9 = .ok (.if_icmp .ge 28, 3) := by decide +kernel
theorem bd_119_12 : decode (bn_b 119) 12 = .ok (.aload_n 0, 1) := by decide +kernel
theorem bd_119_13 : decode (bn_b 119) 13 = .ok (.iload_n 2, 1) := by decide +kernel
theorem bd_119_14 : decode (bn_b 119) 14 = .ok (.invokevirtual 138, 3) := by decide +kernel
theorem bd_119_17 : decode (bn_b 119) 17 = .ok (.iload_n 1, 1) := by decide +kernel
theorem bd_119_18 : decode (bn_b 119) 18 = .ok (.if_icmp .le 11, 3) := by decide +kernel
theorem bd_119_21 : decode (bn_b 119) 21 = .ok (.aload_n 0, 1) := by decide +kernel
theorem bd_119_22 : decode (bn_b 119) 22 = .ok (.iload_n 2, 1) := by decide +kernel
theorem bd_119_23 : decode (bn_b 119) 23 = .ok (.invokevirtual 138, 3) := by decide +kernel
theorem bd_119_26 : decode (bn_b 119) 26 = .ok (.goto 4, 3) := by decide +kernel
theorem bd_119_29 : decode (bn_b 119) 29 = .ok (.iload_n 1, 1) := by decide +kernel
theorem bd_119_30 : decode (bn_b 119) 30 = .ok (.istore_n 1, 1) := by decide +kernel
theorem bd_119_31 : decode (bn_b 119) 31 = .ok (.iinc 2 1, 3) := by decide +kernel
theorem bd_119_34 : decode (bn_b 119) 34 = .ok (.goto (-30), 3) := by decide +kernel
theorem bd_119_37 : decode (bn_b 119) 37 = .ok (.iload_n 1, 1) := by decide +kernel
theorem bd_119_38 : decode (bn_b 119) 38 = .ok (.ireturn, 1) := by decide +kernel
theorem bd_120_0 : decode (bn_b 120) 0 = .ok (.iconst 0, 1) := by decide +kernel
theorem bd_120_1 : decode (bn_b 120) 1 = .ok (.istore_n 2, 1) := by decide +kernel
theorem bd_120_2 : decode (bn_b 120) 2 = .ok (.iconst 0, 1) := by decide +kernel
theorem bd_120_3 : decode (bn_b 120) 3 = .ok (.istore_n 3, 1) := by decide +kernel
theorem bd_120_4 : decode (bn_b 120) 4 = .ok (.iload_n 3, 1) := by decide +kernel
theorem bd_120_5 : decode (bn_b 120) 5 = .ok (.aload_n 0, 1) := by decide +kernel
theorem bd_120_6 : decode (bn_b 120) 6 = .ok (.getfield 109, 3) := by decide +kernel
theorem bd_120_9 : decode (bn_b 120) 9 = .ok (.if_icmp .ge 28, 3) := by decide +kernel
theorem bd_120_12 : decode (bn_b 120) 12 = .ok (.iload_n 2, 1) := by decide +kernel
theorem bd_120_13 : decode (bn_b 120) 13 = .ok (.ifCond .ne 12, 3) := by decide +kernel
theorem bd_120_16 : decode (bn_b 120) 16 = .ok (.aload_n 0, 1) := by decide +kernel
theorem bd_120_17 : decode (bn_b 120) 17 = .ok (.iload_n 3, 1) := by decide +kernel
theorem bd_120_18 : decode (bn_b 120) 18 = .ok (.invokevirtual 138, 3) := by decide +kernel
theorem bd_120_21 : decode (bn_b 120) 21 = .ok (.iload_n 1, 1) := by decide +kernel
theorem bd_120_22 : decode (bn_b 120) 22 = .ok (.if_icmp .ne 7, 3) := by decide +kernel
theorem bd_120_25 : decode (bn_b 120) 25 = .ok (.iconst 1, 1) := by decide +kernel
theorem bd_120_26 : decode (bn_b 120) 26 = .ok (.goto 4, 3) := by decide +kernel
theorem bd_120_29 : decode (bn_b 120) 29 = .ok (.iconst 0, 1) := by decide +kernel
theorem bd_120_30 : decode (bn_b 120) 30 = .ok (.istore_n 2, 1) := by decide +kernel
theorem bd_120_31 : decode (bn_b 120) 31 = .ok (.iinc 3 1, 3) := by decide +kernel
theorem bd_120_34 : decode (bn_b 120) 34 = .ok (.goto (-30), 3) := by decide +kernel
theorem bd_120_37 : decode (bn_b 120) 37 = .ok (.iload_n 2, 1) := by decide +kernel
theorem bd_120_38 : decode (bn_b 120) 38 = .ok (.ireturn, 1) := by decide +kernel
theorem bd_121_0 : decode (bn_b 121) 0 = .ok (.iload_n 1, 1) := by decide +kernel
theorem bd_121_1 : decode (bn_b 121) 1 = .ok (.istore_n 2, 1) := by decide +kernel
theorem bd_121_2 : decode (bn_b 121) 2 = .ok (.iconst 1, 1) := by decide +kernel
theorem bd_121_3 : decode (bn_b 121) 3 = .ok (.istore_n 3, 1) := by decide +kernel
theorem bd_121_4 : decode (bn_b 121) 4 = .ok (.iload_n 3, 1) := by decide +kernel
theorem bd_121_5 : decode (bn_b 121) 5 = .ok (.aload_n 0, 1) := by decide +kernel
theorem bd_121_6 : decode (bn_b 121) 6 = .ok (.invokevirtual 195, 3) := by decide +kernel
theorem bd_121_9 : decode (bn_b 121) 9 = .ok (.if_icmp .ge 30, 3) := by decide +kernel
theorem bd_121_12 : decode (bn_b 121) 12 = .ok (.iload_n 2, 1) := by decide +kernel
theorem bd_121_13 : decode (bn_b 121) 13 = .ok (.ifCond .lt 26, 3) := by decide +kernel
theorem bd_121_16 : decode (bn_b 121) 16 = .ok (.aload_n 0, 1) := by decide +kernel
theorem bd_121_17 : decode (bn_b 121) 17 = .ok (.iload_n 3, 1) := by decide +kernel
theorem bd_121_18 : decode (bn_b 121) 18 = .ok (.invokevirtual 198, 3) := by decide +kernel
theorem bd_121_21 : decode (bn_b 121) 21 = .ok (.ifCond .ne 12, 3) := by decide +kernel
theorem bd_121_24 : decode (bn_b 121) 24 = .ok (.iload_n 2, 1) := by decide +kernel
theorem bd_121_25 : decode (bn_b 121) 25 = .ok (.ifCond .ne 5, 3) := by decide +kernel
theorem bd_121_28 : decode (bn_b 121) 28 = .ok (.iload_n 3, 1) := by decide +kernel
theorem bd_121_29 : decode (bn_b 121) 29 = .ok (.ireturn, 1) := by decide +kernel
theorem bd_121_30 : decode (bn_b 121) 30 = .ok (.iinc 2 (-1), 3) := by decide +kernel
theorem bd_121_33 : decode (bn_b 121) 33 = .ok (.iinc 3 1, 3) := by decide +kernel
theorem bd_121_36 : decode (bn_b 121) 36 = .ok (.goto (-32), 3) := by decide +kernel
theorem bd_121_39 : decode (bn_b 121) 39 = .ok (.bipush (-9), 2) := by decide +kernel
theorem bd_121_41 : decode (bn_b 121) 41 = .ok (.ireturn, 1) := by decide +kernel
theorem bd_122_0 : decode (bn_b 122) 0 = .ok (.iload_n 0, 1) := by decide +kernel
theorem bd_122_1 : decode (bn_b 122) 1 = .ok (.istore_n 2, 1) := by decide +kernel
theorem bd_122_2 : decode (bn_b 122) 2 = .ok (.iload_n 1, 1) := by decide +kernel
theorem bd_122_3 : decode (bn_b 122) 3 = .ok (.istore_n 3, 1) := by decide +kernel
theorem bd_122_4 : decode (bn_b 122) 4 = .ok (.iload_n 3, 1) := by decide +kernel
theorem bd_122_5 : decode (bn_b 122) 5 = .ok (.ifCond .eq 16, 3) := by decide +kernel
theorem bd_122_8 : decode (bn_b 122) 8 = .ok (.iload_n 2, 1) := by decide +kernel
theorem bd_122_9 : decode (bn_b 122) 9 = .ok (.iload_n 3, 1) := by decide +kernel
theorem bd_122_10 : decode (bn_b 122) 10 = .ok (.irem, 1) := by decide +kernel
theorem bd_122_11 : decode (bn_b 122) 11 = .ok (.istore 4, 2) := by decide +kernel
theorem bd_122_13 : decode (bn_b 122) 13 = .ok (.iload_n 3, 1) := by decide +kernel
theorem bd_122_14 : decode (bn_b 122) 14 = .ok (.istore_n 2, 1) := by decide +kernel
theorem bd_122_15 : decode (bn_b 122) 15 = .ok (.iload 4, 2) := by decide +kernel
theorem bd_122_17 : decode (bn_b 122) 17 = .ok (.istore_n 3, 1) := by decide +kernel
theorem bd_122_18 : decode (bn_b 122) 18 = .ok (.goto (-14), 3) := by decide +kernel
theorem bd_122_21 : decode (bn_b 122) 21 = .ok (.iload_n 2, 1) := by decide +kernel
theorem bd_122_22 : decode (bn_b 122) 22 = .ok (.ireturn, 1) := by decide +kernel
theorem bd_123_0 : decode (bn_b 123) 0 = .ok (.iload_n 1, 1) := by decide +kernel
theorem bd_123_1 : decode (bn_b 123) 1 = .ok (.i2l, 1) := by decide +kernel
theorem bd_123_2 : decode (bn_b 123) 2 = .ok (.lconst 1, 1) := by decide +kernel
theorem bd_123_3 : decode (bn_b 123) 3 = .ok (.ldc2_w 201, 3) := by decide +kernel
theorem bd_123_6 : decode (bn_b 123) 6 = .ok (.invokestatic 57, 3) := by decide +kernel
theorem bd_123_9 : decode (bn_b 123) 9 = .ok (.ifCond .eq 27, 3) := by decide +kernel
theorem bd_123_12 : decode (bn_b 123) 12 = .ok (.iload_n 2, 1) := by decide +kernel
theorem bd_123_13 : decode (bn_b 123) 13 = .ok (.i2l, 1) := by decide +kernel
theorem bd_123_14 : decode (bn_b 123) 14 = .ok (.lconst 1, 1) := by decide +kernel
theorem bd_123_15 : decode (bn_b 123) 15 = .ok (.ldc2_w 201, 3) := by decide +kernel
theorem bd_123_18 : decode (bn_b 123) 18 = .ok (.invokestatic 57, 3) := by decide +kernel
theorem bd_123_21 : decode (bn_b 123) 21 = .ok (.ifCond .eq 15, 3) := by decide +kernel
theorem bd_123_24 : decode (bn_b 123) 24 = .ok (.iload_n 3, 1) := by decide +kernel
theorem bd_123_25 : decode (bn_b 123) 25 = .ok (.i2l, 1) := by decide +kernel
theorem bd_123_26 : decode (bn_b 123) 26 = .ok (.lconst 0, 1) := by decide +kernel
theorem bd_123_27 : decode (bn_b 123) 27 = .ok (.ldc2_w 203, 3) := by decide +kernel
theorem bd_123_30 : decode (bn_b 123) 30 = .ok (.invokestatic 57, 3) := by decide +kernel
theorem bd_123_33 : decode (bn_b 123) 33 = .ok (.ifCond .ne 6, 3) := by decide +kernel
theorem bd_123_36 : decode (bn_b 123) 36 = .ok (.bipush (-2), 2) := by decide +kernel
theorem bd_123_38 : decode (bn_b 123) 38 = .ok (.ireturn, 1) := by decide +kernel
theorem bd_123_39 : decode (bn_b 123) 39 = .ok (.iconst 0, 1) := by decide +kernel
theorem bd_123_40 : decode (bn_b 123) 40 = .ok (.istore 5, 2) := by decide +kernel
theorem bd_123_42 : decode (bn_b 123) 42 = .ok (.iconst 1, 1) := by decide +kernel
theorem bd_123_43 : decode (bn_b 123) 43 = .ok (.istore 6, 2) := by decide +kernel
theorem bd_123_45 : decode (bn_b 123) 45 = .ok (.iload 6, 2) := by decide +kernel
theorem bd_123_47 : decode (bn_b 123) 47 = .ok (.iload_n 2, 1) := by decide +kernel
theorem bd_123_48 : decode (bn_b 123) 48 = .ok (.if_icmp .gt 38, 3) := by decide +kernel
theorem bd_123_51 : decode (bn_b 123) 51 = .ok (.iload 5, 2) := by decide +kernel
theorem bd_123_53 : decode (bn_b 123) 53 = .ok (.iload 6, 2) := by decide +kernel
theorem bd_123_55 : decode (bn_b 123) 55 = .ok (.invokestatic 152, 3) := by decide +kernel
theorem bd_123_58 : decode (bn_b 123) 58 = .ok (.iload 6, 2) := by decide +kernel
theorem bd_123_60 : decode (bn_b 123) 60 = .ok (.if_icmp .eq 16, 3) := by decide +kernel
theorem bd_123_63 : decode (bn_b 123) 63 = .ok (.iload 6, 2) := by decide +kernel
theorem bd_123_65 : decode (bn_b 123) 65 = .ok (.invokestatic 152, 3) := by decide +kernel
theorem bd_123_68 : decode (bn_b 123) 68 = .ok (.iload_n 1, 1) := by decide +kernel
theorem bd_123_69 : decode (bn_b 123) 69 = .ok (.if_icmp .ne 7, 3) := by decide +kernel
theorem bd_123_72 : decode (bn_b 123) 72 = .ok (.iload_n 3, 1) := by decide +kernel
theorem bd_123_73 : decode (bn_b 123) 73 = .ok (.goto 4, 3) := by decide +kernel
theorem bd_123_76 : decode (bn_b 123) 76 = .ok (.iconst 0, 1) := by decide +kernel
theorem bd_123_77 : decode (bn_b 123) 77 = .ok (.iadd, 1) := by decide +kernel
theorem bd_123_78 : decode (bn_b 123) 78 = .ok (.istore 5, 2) := by decide +kernel
theorem bd_123_80 : decode (bn_b 123) 80 = .ok (.iinc 6 1, 3) := by decide +kernel
theorem bd_123_83 : decode (bn_b 123) 83 = .ok (.goto (-38), 3) := by decide +kernel
theorem bd_123_86 : decode (bn_b 123) 86 = .ok (.iload 5, 2) := by decide +kernel
theorem bd_123_88 : decode (bn_b 123) 88 = .ok (.iload_n 1, 1) := by decide +kernel
theorem bd_123_89 : decode (bn_b 123) 89 = .ok (.iload_n 2, 1) := by decide +kernel
theorem bd_123_90 : decode (bn_b 123) 90 = .ok (.if_icmp .le 7, 3) := by decide +kernel
theorem bd_123_93 : decode (bn_b 123) 93 = .ok (.iconst 0, 1) := by decide +kernel
theorem bd_123_94 : decode (bn_b 123) 94 = .ok (.goto 20, 3) := by decide +kernel
theorem bd_123_97 : decode (bn_b 123) 97 = .ok (.iload_n 1, 1) := by decide +kernel
theorem bd_123_98 : decode (bn_b 123) 98 = .ok (.invokestatic 152, 3) := by decide +kernel
theorem bd_123_101 : decode (bn_b 123) 101 = .ok (.iload_n 1, 1) := by decide +kernel
theorem bd_123_102 : decode (bn_b 123) 102 = .ok (.if_icmp .eq 10, 3) := by decide +kernel
theorem bd_123_105 : decode (bn_b 123) 105 = .ok (.bipush 10, 2) := by decide +kernel
theorem bd_123_107 : decode (bn_b 123) 107 = .ok (.iload_n 3, 1) := by decide +kernel
theorem bd_123_108 : decode (bn_b 123) 108 = .ok (.isub, 1) := by decide +kernel
theorem bd_123_109 : decode (bn_b 123) 109 = .ok (.goto 5, 3) := by decide +kernel
theorem bd_123_112 : decode (bn_b 123) 112 = .ok (.bipush 10, 2) := by decide +kernel
theorem bd_123_114 : decode (bn_b 123) 114 = .ok (.iadd, 1) := by decide +kernel
theorem bd_123_115 : decode (bn_b 123) 115 = .ok (.istore 6, 2) := by decide +kernel
theorem bd_123_117 : decode (bn_b 123) 117 = .ok (.iload 6, 2) := by decide +kernel
theorem bd_123_119 : decode (bn_b 123) 119 = .ok (.ifCond .ne 6, 3) := by decide +kernel
theorem bd_123_122 : decode (bn_b 123) 122 = .ok (.bipush (-3), 2) := by decide +kernel
theorem bd_123_124 : decode (bn_b 123) 124 = .ok (.ireturn, 1) := by decide +kernel
theorem bd_123_125 : decode (bn_b 123) 125 = .ok (.iload 4, 2) := by decide +kernel
theorem bd_123_127 : decode (bn_b 123) 127 = .ok (.ifCond .eq 16, 3) := by decide +kernel
theorem bd_123_130 : decode (bn_b 123) 130 = .ok (.iload 5, 2) := by decide +kernel
theorem bd_123_132 : decode (bn_b 123) 132 = .ok (.iload 5, 2) := by decide +kernel
theorem bd_123_134 : decode (bn_b 123) 134 = .ok (.iload 6, 2) := by decide +kernel
theorem bd_123_136 : decode (bn_b 123) 136 = .ok (.invokestatic 205, 3) := by decide +kernel
theorem bd_123_139 : decode (bn_b 123) 139 = .ok (.idiv, 1) := by decide +kernel
theorem bd_123_140 : decode (bn_b 123) 140 = .ok (.goto 13, 3) := by decide +kernel
theorem bd_123_143 : decode (bn_b 123) 143 = .ok (.iload 6, 2) := by decide +kernel
theorem bd_123_145 : decode (bn_b 123) 145 = .ok (.iload 5, 2) := by decide +kernel
theorem bd_123_147 : decode (bn_b 123) 147 = .ok (.iload 6, 2) := by decide +kernel
theorem bd_123_149 : decode (bn_b 123) 149 = .ok (.invokestatic 205, 3) := by decide +kernel
theorem bd_123_152 : decode (bn_b 123) 152 = .ok (.idiv, 1) := by decide +kernel
theorem bd_123_153 : decode (bn_b 123) 153 = .ok (.ireturn, 1) := by decide +kernel
theorem bd_124_0 : decode (bn_b 124) 0 = .ok (.lconst 1, 1) := by decide +kernel
theorem bd_124_1 : decode (bn_b 124) 1 = .ok (.lstore_n 2, 1) := by decide +kernel
theorem bd_124_2 : decode (bn_b 124) 2 = .ok (.iconst 0, 1) := by decide +kernel
theorem bd_124_3 : decode (bn_b 124) 3 = .ok (.istore 4, 2) := by decide +kernel
theorem bd_124_5 : decode (bn_b 124) 5 = .ok (.iload 4, 2) := by decide +kernel
theorem bd_124_7 : decode (bn_b 124) 7 = .ok (.iload_n 1, 1) := by decide +kernel
theorem bd_124_8 : decode (bn_b 124) 8 = .ok (.if_icmp .ge 14, 3) := by decide +kernel
theorem bd_124_11 : decode (bn_b 124) 11 = .ok (.lload_n 2, 1) := by decide +kernel
theorem bd_124_12 : decode (bn_b 124) 12 = .ok (.iload_n 0, 1) := by decide +kernel
theorem bd_124_13 : decode (bn_b 124) 13 = .ok (.i2l, 1) := by decide +kernel
theorem bd_124_14 : decode (bn_b 124) 14 = .ok (.lmul, 1) := by decide +kernel
theorem bd_124_15 : decode (bn_b 124) 15 = .ok (.lstore_n 2, 1) := by decide +kernel
theorem bd_124_16 : decode (bn_b 124) 16 = .ok (.iinc 4 1, 3) := by decide +kernel
theorem bd_124_19 : decode (bn_b 124) 19 = .ok (.goto (-14), 3) := by decide +kernel
theorem bd_124_22 : decode (bn_b 124) 22 = .ok (.lload_n 2, 1) := by decide +kernel
theorem bd_124_23 : decode (bn_b 124) 23 = .ok (.lreturn, 1) := by decide +kernel
theorem bd_125_0 : decode (bn_b 125) 0 = .ok (.iload_n 1, 1) := by decide +kernel
theorem bd_125_1 : decode (bn_b 125) 1 = .ok (.i2l, 1) := by decide +kernel
theorem bd_125_2 : decode (bn_b 125) 2 = .ok (.lconst 0, 1) := by decide +kernel
theorem bd_125_3 : decode (bn_b 125) 3 = .ok (.ldc2_w 203, 3) := by decide +kernel
theorem bd_125_6 : decode (bn_b 125) 6 = .ok (.invokestatic 57, 3) := by decide +kernel
theorem bd_125_9 : decode (bn_b 125) 9 = .ok (.ifCond .ne 7, 3) := by decide +kernel
theorem bd_125_12 : decode (bn_b 125) 12 = .ok (.ldc2_w 208, 3) := by decide +kernel
theorem bd_125_15 : decode (bn_b 125) 15 = .ok (.lreturn, 1) := by decide +kernel
theorem bd_125_16 : decode (bn_b 125) 16 = .ok (.aload_n 0, 1) := by decide +kernel
theorem bd_125_17 : decode (bn_b 125) 17 = .ok (.invokevirtual 178, 3) := by decide +kernel
theorem bd_125_20 : decode (bn_b 125) 20 = .ok (.istore_n 3, 1) := by decide +kernel
theorem bd_125_21 : decode (bn_b 125) 21 = .ok (.iload_n 3, 1) := by decide +kernel
theorem bd_125_22 : decode (bn_b 125) 22 = .ok (.ifCond .ne 7, 3) := by decide +kernel
theorem bd_125_25 : decode (bn_b 125) 25 = .ok (.ldc2_w 210, 3) := by decide +kernel
theorem bd_125_28 : decode (bn_b 125) 28 = .ok (.lreturn, 1) := by decide +kernel
theorem bd_125_29 : decode (bn_b 125) 29 = .ok (.iload_n 3, 1) := by decide +kernel
theorem bd_125_30 : decode (bn_b 125) 30 = .ok (.bipush (-9), 2) := by decide +kernel
theorem bd_125_32 : decode (bn_b 125) 32 = .ok (.if_icmp .eq 9, 3) := by decide +kernel
theorem bd_125_35 : decode (bn_b 125) 35 = .ok (.iload_n 3, 1) := by decide +kernel
theorem bd_125_36 : decode (bn_b 125) 36 = .ok (.bipush 18, 2) := by decide +kernel
theorem bd_125_38 : decode (bn_b 125) 38 = .ok (.if_icmp .le 8, 3) := by decide +kernel
theorem bd_125_41 : decode (bn_b 125) 41 = .ok (.bipush 18, 2) := by decide +kernel
theorem bd_125_43 : decode (bn_b 125) 43 = .ok (.goto 6, 3) := by decide +kernel
theorem bd_125_46 : decode (bn_b 125) 46 = .ok (.iload_n 3, 1) := by decide +kernel
theorem bd_125_47 : decode (bn_b 125) 47 = .ok (.iconst 1, 1) := by decide +kernel
theorem bd_125_48 : decode (bn_b 125) 48 = .ok (.isub, 1) := by decide +kernel
theorem bd_125_49 : decode (bn_b 125) 49 = .ok (.istore 4, 2) := by decide +kernel
theorem bd_125_51 : decode (bn_b 125) 51 = .ok (.bipush 10, 2) := by decide +kernel
theorem bd_125_53 : decode (bn_b 125) 53 = .ok (.iload 4, 2) := by decide +kernel
theorem bd_125_55 : decode (bn_b 125) 55 = .ok (.invokestatic 212, 3) := by decide +kernel
theorem bd_125_58 : decode (bn_b 125) 58 = .ok (.lstore 5, 2) := by decide +kernel
theorem bd_125_60 : decode (bn_b 125) 60 = .ok (.lload 5, 2) := by decide +kernel
theorem bd_125_62 : decode (bn_b 125) 62 = .ok (.bipush 10, 2) := by decide +kernel
theorem bd_125_64 : decode (bn_b 125) 64 = .ok (.iload_n 1, 1) := by decide +kernel
theorem bd_125_65 : decode (bn_b 125) 65 = .ok (.isub, 1) := by decide +kernel
theorem bd_125_66 : decode (bn_b 125) 66 = .ok (.iload 4, 2) := by decide +kernel
theorem bd_125_68 : decode (bn_b 125) 68 = .ok (.invokestatic 212, 3) := by decide +kernel
theorem bd_125_71 : decode (bn_b 125) 71 = .ok (.lsub, 1) := by decide +kernel
theorem bd_125_72 : decode (bn_b 125) 72 = .ok (.lstore 7, 2) := by decide +kernel
theorem bd_125_74 : decode (bn_b 125) 74 = .ok (.lload 7, 2) := by decide +kernel
theorem bd_125_76 : decode (bn_b 125) 76 = .ok (.lstore 9, 2) := by decide +kernel
theorem bd_125_78 : decode (bn_b 125) 78 = .ok (.lload 5, 2) := by decide +kernel
theorem bd_125_80 : decode (bn_b 125) 80 = .ok (.lstore 11, 2) := by decide +kernel
theorem bd_125_82 : decode (bn_b 125) 82 = .ok (.lload 11, 2) := by decide +kernel
theorem bd_125_84 : decode (bn_b 125) 84 = .ok (.lconst 0, 1) := by decide +kernel
theorem bd_125_85 : decode (bn_b 125) 85 = .ok (.lcmp, 1) := by decide +kernel
theorem bd_125_86 : decode (bn_b 125) 86 = .ok (.ifCond .eq 21, 3) := by decide +kernel
theorem bd_125_89 : decode (bn_b 125) 89 = .ok (.lload 9, 2) := by decide +kernel
theorem bd_125_91 : decode (bn_b 125) 91 = .ok (.lload 11, 2) := by decide +kernel
theorem bd_125_93 : decode (bn_b 125) 93 = .ok (.lrem, 1) := by decide +kernel
theorem bd_125_94 : decode (bn_b 125) 94 = .ok (.lstore 13, 2) := by decide +kernel
theorem bd_125_96 : decode (bn_b 125) 96 = .ok (.lload 11, 2) := by decide +kernel
theorem bd_125_98 : decode (bn_b 125) 98 = .ok (.lstore 9, 2) := by decide +kernel
theorem bd_125_100 : decode (bn_b 125) 100 = .ok (.lload 13, 2) := by decide +kernel
theorem bd_125_102 : decode (bn_b 125) 102 = .ok (.lstore 11, 2) := by decide +kernel
theorem bd_125_104 : decode (bn_b 125) 104 = .ok (.goto (-22), 3) := by decide +kernel
theorem bd_125_107 : decode (bn_b 125) 107 = .ok (.iload_n 2, 1) := by decide +kernel
theorem bd_125_108 : decode (bn_b 125) 108 = .ok (.ifCond .eq 11, 3) := by decide +kernel
theorem bd_125_111 : decode (bn_b 125) 111 = .ok (.lload 7, 2) := by decide +kernel
theorem bd_125_113 : decode (bn_b 125) 113 = .ok (.lload 9, 2) := by decide +kernel
theorem bd_125_115 : decode (bn_b 125) 115 = .ok (.ldiv, 1) := by decide +kernel
theorem bd_125_116 : decode (bn_b 125) 116 = .ok (.goto 8, 3) := by decide +kernel
theorem bd_125_119 : decode (bn_b 125) 119 = .ok (.lload 5, 2) := by decide +kernel
theorem bd_125_121 : decode (bn_b 125) 121 = .ok (.lload 9, 2) := by decide +kernel
theorem bd_125_123 : decode (bn_b 125) 123 = .ok (.ldiv, 1) := by decide +kernel
theorem bd_125_124 : decode (bn_b 125) 124 = .ok (.lreturn, 1) := by decide +kernel
theorem bd_126_0 : decode (bn_b 126) 0 = .ok (.iload_n 1, 1) := by decide +kernel
theorem bd_126_1 : decode (bn_b 126) 1 = .ok (.i2l, 1) := by decide +kernel
theorem bd_126_2 : decode (bn_b 126) 2 = .ok (.lconst 0, 1) := by decide +kernel
theorem bd_126_3 : decode (bn_b 126) 3 = .ok (.lconst 1, 1) := by decide +kernel
theorem bd_126_4 : decode (bn_b 126) 4 = .ok (.invokestatic 57, 3) := by decide +kernel
theorem bd_126_7 : decode (bn_b 126) 7 = .ok (.ifCond .ne 5, 3) := by decide +kernel
theorem bd_126_10 : decode (bn_b 126) 10 = .ok (.iconst (-1), 1) := by decide +kernel
theorem bd_126_11 : decode (bn_b 126) 11 = .ok (.ireturn, 1) := by decide +kernel
theorem bd_126_12 : decode (bn_b 126) 12 = .ok (.aload_n 0, 1) := by decide +kernel
theorem bd_126_13 : decode (bn_b 126) 13 = .ok (.getfield 39, 3) := by decide +kernel
theorem bd_126_16 : decode (bn_b 126) 16 = .ok (.iload_n 1, 1) := by decide +kernel
theorem bd_126_17 : decode (bn_b 126) 17 = .ok (.iconst 1, 1) := by decide +kernel
theorem bd_126_18 : decode (bn_b 126) 18 = .ok (.bastore, 1) := by decide +kernel
theorem bd_126_19 : decode (bn_b 126) 19 = .ok (.iconst 0, 1) := by decide +kernel
theorem bd_126_20 : decode (bn_b 126) 20 = .ok (.istore_n 2, 1) := by decide +kernel
theorem bd_126_21 : decode (bn_b 126) 21 = .ok (.iload_n 2, 1) := by decide +kernel
theorem bd_126_22 : decode (bn_b 126) 22 = .ok (.bipush 71, 2) := by decide +kernel
theorem bd_126_24 : decode (bn_b 126) 24 = .ok (.if_icmp .ge 26, 3) := by decide +kernel
theorem bd_126_27 : decode (bn_b 126) 27 = .ok (.aload_n 0, 1) := by decide +kernel
theorem bd_126_28 : decode (bn_b 126) 28 = .ok (.getfield 42, 3) := by decide +kernel
theorem bd_126_31 : decode (bn_b 126) 31 = .ok (.bipush 72, 2) := by decide +kernel
theorem bd_126_33 : decode (bn_b 126) 33 = .ok (.iload_n 1, 1) := by decide +kernel
theorem bd_126_34 : decode (bn_b 126) 34 = .ok (.imul, 1) := by decide +kernel
theorem bd_126_35 : decode (bn_b 126) 35 = .ok (.iload_n 2, 1) := by decide +kernel
theorem bd_126_36 : decode (bn_b 126) 36 = .ok (.iadd, 1) := by decide +kernel
theorem bd_126_37 : decode (bn_b 126) 37 = .ok (.aload_n 0, 1) := by decide +kernel
theorem bd_126_38 : decode (bn_b 126) 38 = .ok (.getfield 13, 3) := by decide +kernel
theorem bd_126_41 : decode (bn_b 126) 41 = .ok (.iload_n 2, 1) := by decide +kernel
theorem bd_126_42 : decode (bn_b 126) 42 = .ok (.iaload, 1) := by decide +kernel
theorem bd_126_43 : decode (bn_b 126) 43 = .ok (.iastore, 1) := by decide +kernel
theorem bd_126_44 : decode (bn_b 126) 44 = .ok (.iinc 2 1, 3) := by decide +kernel
theorem bd_126_47 : decode (bn_b 126) 47 = .ok (.goto (-26), 3) := by decide +kernel
theorem bd_126_50 : decode (bn_b 126) 50 = .ok (.aload_n 0, 1) := by decide +kernel
theorem bd_126_51 : decode (bn_b 126) 51 = .ok (.getfield 45, 3) := by decide +kernel
theorem bd_126_54 : decode (bn_b 126) 54 = .ok (.iload_n 1, 1) := by decide +kernel
theorem bd_126_55 : decode (bn_b 126) 55 = .ok (.aload_n 0, 1) := by decide +kernel
theorem bd_126_56 : decode (bn_b 126) 56 = .ok (.getfield 134, 3) := by decide +kernel
theorem bd_126_59 : decode (bn_b 126) 59 = .ok (.lastore, 1) := by decide +kernel
theorem bd_126_60 : decode (bn_b 126) 60 = .ok (.aload_n 0, 1) := by decide +kernel
theorem bd_126_61 : decode (bn_b 126) 61 = .ok (.getfield 13, 3) := by decide +kernel
theorem bd_126_64 : decode (bn_b 126) 64 = .ok (.bipush 70, 2) := by decide +kernel
theorem bd_126_66 : decode (bn_b 126) 66 = .ok (.iaload, 1) := by decide +kernel
theorem bd_126_67 : decode (bn_b 126) 67 = .ok (.ireturn, 1) := by decide +kernel
theorem bd_127_0 : decode (bn_b 127) 0 = .ok (.iload_n 1, 1) := by decide +kernel
theorem bd_127_1 : decode (bn_b 127) 1 = .ok (.i2l, 1) := by decide +kernel
theorem bd_127_2 : decode (bn_b 127) 2 = .ok (.lconst 0, 1) := by decide +kernel
theorem bd_127_3 : decode (bn_b 127) 3 = .ok (.lconst 1, 1) := by decide +kernel
theorem bd_127_4 : decode (bn_b 127) 4 = .ok (.invokestatic 57, 3) := by decide +kernel
theorem bd_127_7 : decode (bn_b 127) 7 = .ok (.ifCond .ne 5, 3) := by decide +kernel
theorem bd_127_10 : decode (bn_b 127) 10 = .ok (.iconst (-1), 1) := by decide +kernel
theorem bd_127_11 : decode (bn_b 127) 11 = .ok (.ireturn, 1) := by decide +kernel
theorem bd_127_12 : decode (bn_b 127) 12 = .ok (.aload_n 0, 1) := by decide +kernel
theorem bd_127_13 : decode (bn_b 127) 13 = .ok (.getfield 39, 3) := by decide +kernel
theorem bd_127_16 : decode (bn_b 127) 16 = .ok (.iload_n 1, 1) := by decide +kernel
theorem bd_127_17 : decode (bn_b 127) 17 = .ok (.baload, 1) := by decide +kernel
theorem bd_127_18 : decode (bn_b 127) 18 = .ok (.ifCond .ne 6, 3) := by decide +kernel
theorem bd_127_21 : decode (bn_b 127) 21 = .ok (.bipush (-3), 2) := by decide +kernel
theorem bd_127_23 : decode (bn_b 127) 23 = .ok (.ireturn, 1) := by decide +kernel
theorem bd_127_24 : decode (bn_b 127) 24 = .ok (.iconst 0, 1) := by decide +kernel
theorem bd_127_25 : decode (bn_b 127) 25 = .ok (.istore_n 2, 1) := by decide +kernel
theorem bd_127_26 : decode (bn_b 127) 26 = .ok (.iload_n 2, 1) := by decide +kernel
theorem bd_127_27 : decode (bn_b 127) 27 = .ok (.bipush 71, 2) := by decide +kernel
theorem bd_127_29 : decode (bn_b 127) 29 = .ok (.if_icmp .ge 26, 3) := by decide +kernel
theorem bd_127_32 : decode (bn_b 127) 32 = .ok (.aload_n 0, 1) := by decide +kernel
theorem bd_127_33 : decode (bn_b 127) 33 = .ok (.getfield 13, 3) := by decide +kernel
theorem bd_127_36 : decode (bn_b 127) 36 = .ok (.iload_n 2, 1) := by decide +kernel
theorem bd_127_37 : decode (bn_b 127) 37 = .ok (.aload_n 0, 1) := by decide +kernel
theorem bd_127_38 : decode (bn_b 127) 38 = .ok (.getfield 42, 3) := by decide +kernel
theorem bd_127_41 : decode (bn_b 127) 41 = .ok (.bipush 72, 2) := by decide +kernel
theorem bd_127_43 : decode (bn_b 127) 43 = .ok (.iload_n 1, 1) := by decide +kernel
theorem bd_127_44 : decode (bn_b 127) 44 = .ok (.imul, 1) := by decide +kernel
theorem bd_127_45 : decode (bn_b 127) 45 = .ok (.iload_n 2, 1) := by decide +kernel
theorem bd_127_46 : decode (bn_b 127) 46 = .ok (.iadd, 1) := by decide +kernel
theorem bd_127_47 : decode (bn_b 127) 47 = .ok (.iaload, 1) := by decide +kernel
theorem bd_127_48 : decode (bn_b 127) 48 = .ok (.iastore, 1) := by decide +kernel
theorem bd_127_49 : decode (bn_b 127) 49 = .ok (.iinc 2 1, 3) := by decide +kernel
theorem bd_127_52 : decode (bn_b 127) 52 = .ok (.goto (-26), 3) := by decide +kernel
theorem bd_127_55 : decode (bn_b 127) 55 = .ok (.aload_n 0, 1) := by decide +kernel
theorem bd_127_56 : decode (bn_b 127) 56 = .ok (.aload_n 0, 1) := by decide +kernel
theorem bd_127_57 : decode (bn_b 127) 57 = .ok (.getfield 45, 3) := by decide +kernel
theorem bd_127_60 : decode (bn_b 127) 60 = .ok (.iload_n 1, 1) := by decide +kernel
theorem bd_127_61 : decode (bn_b 127) 61 = .ok (.laload, 1) := by decide +kernel
theorem bd_127_62 : decode (bn_b 127) 62 = .ok (.putfield 134, 3) := by decide +kernel
theorem bd_127_65 : decode (bn_b 127) 65 = .ok (.aload_n 0, 1) := by decide +kernel
theorem bd_127_66 : decode (bn_b 127) 66 = .ok (.iconst 0, 1) := by decide +kernel
theorem bd_127_67 : decode (bn_b 127) 67 = .ok (.putfield 112, 3) := by decide +kernel
theorem bd_127_70 : decode (bn_b 127) 70 = .ok (.aload_n 0, 1) := by decide +kernel
theorem bd_127_71 : decode (bn_b 127) 71 = .ok (.getfield 13, 3) := by decide +kernel
theorem bd_127_74 : decode (bn_b 127) 74 = .ok (.bipush 70, 2) := by decide +kernel
theorem bd_127_76 : decode (bn_b 127) 76 = .ok (.iaload, 1) := by decide +kernel
theorem bd_127_77 : decode (bn_b 127) 77 = .ok (.ireturn, 1) := by decide +kernel
theorem bd_128_0 : decode (bn_b 128) 0 = .ok (.iconst 0, 1) := by decide +kernel
theorem bd_128_1 : decode (bn_b 128) 1 = .ok (.istore_n 2, 1) := by decide +kernel
theorem bd_128_2 : decode (bn_b 128) 2 = .ok (.iconst 0, 1) := by decide +kernel
theorem bd_128_3 : decode (bn_b 128) 3 = .ok (.istore_n 3, 1) := by decide +kernel
theorem bd_128_4 : decode (bn_b 128) 4 = .ok (.iconst 0, 1) := by decide +kernel
theorem bd_128_5 : decode (bn_b 128) 5 = .ok (.istore 4, 2) := by decide +kernel
theorem bd_128_7 : decode (bn_b 128) 7 = .ok (.iconst 0, 1) := by decide +kernel
theorem bd_128_8 : decode (bn_b 128) 8 = .ok (.istore 5, 2) := by decide +kernel
theorem bd_128_10 : decode (bn_b 128) 10 = .ok (.iload 5, 2) := by decide +kernel
theorem bd_128_12 : decode (bn_b 128) 12 = .ok (.aload_n 0, 1) := by decide +kernel
theorem bd_128_13 : decode (bn_b 128) 13 = .ok (.getfield 109, 3) := by decide +kernel
theorem bd_128_16 : decode (bn_b 128) 16 = .ok (.if_icmp .ge 56, 3) := by decide +kernel
theorem bd_128_19 : decode (bn_b 128) 19 = .ok (.iload_n 2, 1) := by decide +kernel
theorem bd_128_20 : decode (bn_b 128) 20 = .ok (.aload_n 0, 1) := by decide +kernel
theorem bd_128_21 : decode (bn_b 128) 21 = .ok (.iload 5, 2) := by decide +kernel
theorem bd_128_23 : decode (bn_b 128) 23 = .ok (.invokevirtual 115, 3) := by decide +kernel
theorem bd_128_26 : decode (bn_b 128) 26 = .ok (.bipush 20, 2) := by decide +kernel
theorem bd_128_28 : decode (bn_b 128) 28 = .ok (.if_icmp .ne 7, 3) := by decide +kernel
theorem bd_128_31 : decode (bn_b 128) 31 = .ok (.iconst 1, 1) := by decide +kernel
theorem bd_128_32 : decode (bn_b 128) 32 = .ok (.goto 4, 3) := by decide +kernel
theorem bd_128_35 : decode (bn_b 128) 35 = .ok (.iconst 0, 1) := by decide +kernel
theorem bd_128_36 : decode (bn_b 128) 36 = .ok (.iadd, 1) := by decide +kernel
theorem bd_128_37 : decode (bn_b 128) 37 = .ok (.istore_n 2, 1) := by decide +kernel
theorem bd_128_38 : decode (bn_b 128) 38 = .ok (.iload_n 3, 1) := by decide +kernel
theorem bd_128_39 : decode (bn_b 128) 39 = .ok (.aload_n 0, 1) := by decide +kernel
theorem bd_128_40 : decode (bn_b 128) 40 = .ok (.iload 5, 2) := by decide +kernel
theorem bd_128_42 : decode (bn_b 128) 42 = .ok (.invokevirtual 115, 3) := by decide +kernel
theorem bd_128_45 : decode (bn_b 128) 45 = .ok (.bipush 20, 2) := by decide +kernel
theorem bd_128_47 : decode (bn_b 128) 47 = .ok (.if_icmp .eq 16, 3) := by decide +kernel
theorem bd_128_50 : decode (bn_b 128) 50 = .ok (.aload_n 0, 1) := by decide +kernel
theorem bd_128_51 : decode (bn_b 128) 51 = .ok (.iload 5, 2) := by decide +kernel
theorem bd_128_53 : decode (bn_b 128) 53 = .ok (.invokevirtual 128, 3) := by decide +kernel
theorem bd_128_56 : decode (bn_b 128) 56 = .ok (.ifCond .eq 7, 3) := by decide +kernel
theorem bd_128_59 : decode (bn_b 128) 59 = .ok (.iconst 1, 1) := by decide +kernel
theorem bd_128_60 : decode (bn_b 128) 60 = .ok (.goto 4, 3) := by decide +kernel
theorem bd_128_63 : decode (bn_b 128) 63 = .ok (.iconst 0, 1) := by decide +kernel
theorem bd_128_64 : decode (bn_b 128) 64 = .ok (.iadd, 1) := by decide +kernel
theorem bd_128_65 : decode (bn_b 128) 65 = .ok (.istore_n 3, 1) := by decide +kernel
theorem bd_128_66 : decode (bn_b 128) 66 = .ok (.iinc 5 1, 3) := by decide +kernel
theorem bd_128_69 : decode (bn_b 128) 69 = .ok (.goto (-59), 3) := by decide +kernel
theorem bd_128_72 : decode (bn_b 128) 72 = .ok (.iconst 1, 1) := by decide +kernel
theorem bd_128_73 : decode (bn_b 128) 73 = .ok (.istore 5, 2) := by decide +kernel
theorem bd_128_75 : decode (bn_b 128) 75 = .ok (.iload 5, 2) := by decide +kernel
theorem bd_128_77 : decode (bn_b 128) 77 = .ok (.aload_n 0, 1) := by decide +kernel
theorem bd_128_78 : decode (bn_b 128) 78 = .ok (.invokevirtual 195, 3) := by decide +kernel
theorem bd_128_81 : decode (bn_b 128) 81 = .ok (.if_icmp .ge 28, 3) := by decide +kernel
theorem bd_128_84 : decode (bn_b 128) 84 = .ok (.iload 4, 2) := by decide +kernel
theorem bd_128_86 : decode (bn_b 128) 86 = .ok (.aload_n 0, 1) := by decide +kernel
theorem bd_128_87 : decode (bn_b 128) 87 = .ok (.iload 5, 2) := by decide +kernel
theorem bd_128_89 : decode (bn_b 128) 89 = .ok (.invokevirtual 198, 3) := by decide +kernel
theorem bd_128_92 : decode (bn_b 128) 92 = .ok (.ifCond .eq 7, 3) := by decide +kernel
theorem bd_128_95 : decode (bn_b 128) 95 = .ok (.iconst 0, 1) := by decide +kernel
theorem bd_128_96 : decode (bn_b 128) 96 = .ok (.goto 4, 3) := by decide +kernel
theorem bd_128_99 : decode (bn_b 128) 99 = .ok (.iconst 1, 1) := by decide +kernel
theorem bd_128_100 : decode (bn_b 128) 100 = .ok (.iadd, 1) := by decide +kernel
theorem bd_128_101 : decode (bn_b 128) 101 = .ok (.istore 4, 2) := by decide +kernel
theorem bd_128_103 : decode (bn_b 128) 103 = .ok (.iinc 5 1, 3) := by decide +kernel
theorem bd_128_106 : decode (bn_b 128) 106 = .ok (.goto (-31), 3) := by decide +kernel
theorem bd_128_109 : decode (bn_b 128) 109 = .ok (.iload_n 1, 1) := by decide +kernel
theorem bd_128_110 : decode (bn_b 128) 110 = .ok (.tableswitch 99 0 9 #[54, 59, 64, 69, 74, 82, 84, 86, 91, 94], 54) := by decide +kernel
theorem bd_128_164 : decode (bn_b 128) 164 = .ok (.aload_n 0, 1) := by decide +kernel
theorem bd_128_165 : decode (bn_b 128) 165 = .ok (.getfield 61, 3) := by decide +kernel
theorem bd_128_168 : decode (bn_b 128) 168 = .ok (.ireturn, 1) := by decide +kernel
theorem bd_128_169 : decode (bn_b 128) 169 = .ok (.aload_n 0, 1) := by decide +kernel
theorem bd_128_170 : decode (bn_b 128) 170 = .ok (.getfield 106, 3) := by decide +kernel
theorem bd_128_173 : decode (bn_b 128) 173 = .ok (.ireturn, 1) := by decide +kernel
theorem bd_128_174 : decode (bn_b 128) 174 = .ok (.aload_n 0, 1) := by decide +kernel
theorem bd_128_175 : decode (bn_b 128) 175 = .ok (.getfield 109, 3) := by decide +kernel
theorem bd_128_178 : decode (bn_b 128) 178 = .ok (.ireturn, 1) := by decide +kernel
theorem bd_128_179 : decode (bn_b 128) 179 = .ok (.aload_n 0, 1) := by decide +kernel
theorem bd_128_180 : decode (bn_b 128) 180 = .ok (.invokevirtual 158, 3) := by decide +kernel
theorem bd_128_183 : decode (bn_b 128) 183 = .ok (.ireturn, 1) := by decide +kernel
theorem bd_128_184 : decode (bn_b 128) 184 = .ok (.aload_n 0, 1) := by decide +kernel
theorem bd_128_185 : decode (bn_b 128) 185 = .ok (.getfield 13, 3) := by decide +kernel
theorem bd_128_188 : decode (bn_b 128) 188 = .ok (.bipush 70, 2) := by decide +kernel
theorem bd_128_190 : decode (bn_b 128) 190 = .ok (.iaload, 1) := by decide +kernel
theorem bd_128_191 : decode (bn_b 128) 191 = .ok (.ireturn, 1) := by decide +kernel
theorem bd_128_192 : decode (bn_b 128) 192 = .ok (.iload_n 2, 1) := by decide +kernel
theorem bd_128_193 : decode (bn_b 128) 193 = .ok (.ireturn, 1) := by decide +kernel
theorem bd_128_194 : decode (bn_b 128) 194 = .ok (.iload_n 3, 1) := by decide +kernel
theorem bd_128_195 : decode (bn_b 128) 195 = .ok (.ireturn, 1) := by decide +kernel
theorem bd_128_196 : decode (bn_b 128) 196 = .ok (.aload_n 0, 1) := by decide +kernel
theorem bd_128_197 : decode (bn_b 128) 197 = .ok (.getfield 112, 3) := by decide +kernel
theorem bd_128_200 : decode (bn_b 128) 200 = .ok (.ireturn, 1) := by decide +kernel
theorem bd_128_201 : decode (bn_b 128) 201 = .ok (.iload 4, 2) := by decide +kernel
theorem bd_128_203 : decode (bn_b 128) 203 = .ok (.ireturn, 1) := by decide +kernel
theorem bd_128_204 : decode (bn_b 128) 204 = .ok (.aload_n 0, 1) := by decide +kernel
theorem bd_128_205 : decode (bn_b 128) 205 = .ok (.getfield 103, 3) := by decide +kernel
theorem bd_128_208 : decode (bn_b 128) 208 = .ok (.ireturn, 1) := by decide +kernel
theorem bd_128_209 : decode (bn_b 128) 209 = .ok (.bipush (-2), 2) := by decide +kernel
theorem bd_128_211 : decode (bn_b 128) 211 = .ok (.ireturn, 1) := by decide +kernel
end
section
/-! decode rows -/
theorem bd_129_0 : decode (bn_b 129) 0 = .ok (.iload_n 0, 1) := by decide +kernel
theorem bd_129_1 : decode (bn_b 129) 1 = .ok (.iload_n 0, 1) := by decide +kernel
theorem bd_129_2 : decode (bn_b 129) 2 = .ok (.iconst 1, 1) := by decide +kernel
theorem bd_129_3 : decode (bn_b 129) 3 = .ok (.iushr, 1) := by decide +kernel
theorem bd_129_4 : decode (bn_b 129) 4 = .ok (.ldc_w 265, 3) := by decide +kernel
theorem bd_129_7 : decode (bn_b 129) 7 = .ok (.iand, 1) := by decide +kernel
theorem bd_129_8 : decode (bn_b 129) 8 = .ok (.isub, 1) := by decide +kernel
theorem bd_129_9 : decode (bn_b 129) 9 = .ok (.istore_n 0, 1) := by decide +kernel
theorem bd_129_10 : decode (bn_b 129) 10 = .ok (.iload_n 0, 1) := by decide +kernel
theorem bd_129_11 : decode (bn_b 129) 11 = .ok (.ldc_w 266, 3) := by decide +kernel
theorem bd_129_14 : decode (bn_b 129) 14 = .ok (.iand, 1) := by decide +kernel
theorem bd_129_15 : decode (bn_b 129) 15 = .ok (.iload_n 0, 1) := by decide +kernel
theorem bd_129_16 : decode (bn_b 129) 16 = .ok (.iconst 2, 1) := by decide +kernel
theorem bd_129_17 : decode (bn_b 129) 17 = .ok (.iushr, 1) := by decide +kernel
theorem bd_129_18 : decode (bn_b 129) 18 = .ok (.ldc_w 266, 3) := by decide +kernel
theorem bd_129_21 : decode (bn_b 129) 21 = .ok (.iand, 1) := by decide +kernel
theorem bd_129_22 : decode (bn_b 129) 22 = .ok (.iadd, 1) := by decide +kernel
theorem bd_129_23 : decode (bn_b 129) 23 = .ok (.istore_n 0, 1) := by decide +kernel
theorem bd_129_24 : decode (bn_b 129) 24 = .ok (.iload_n 0, 1) := by decide +kernel
theorem bd_129_25 : decode (bn_b 129) 25 = .ok (.iload_n 0, 1) := by decide +kernel
theorem bd_129_26 : decode (bn_b 129) 26 = .ok (.iconst 4, 1) := by decide +kernel
theorem bd_129_27 : decode (bn_b 129) 27 = .ok (.iushr, 1) := by decide +kernel
theorem bd_129_28 : decode (bn_b 129) 28 = .ok (.iadd, 1) := by decide +kernel
theorem bd_129_29 : decode (bn_b 129) 29 = .ok (.ldc_w 267, 3) := by decide +kernel
theorem bd_129_32 : decode (bn_b 129) 32 = .ok (.iand, 1) := by decide +kernel
theorem bd_129_33 : decode (bn_b 129) 33 = .ok (.istore_n 0, 1) := by decide +kernel
theorem bd_129_34 : decode (bn_b 129) 34 = .ok (.iload_n 0, 1) := by decide +kernel
theorem bd_129_35 : decode (bn_b 129) 35 = .ok (.iload_n 0, 1) := by decide +kernel
theorem bd_129_36 : decode (bn_b 129) 36 = .ok (.bipush 8, 2) := by decide +kernel
theorem bd_129_38 : decode (bn_b 129) 38 = .ok (.iushr, 1) := by decide +kernel
theorem bd_129_39 : decode (bn_b 129) 39 = .ok (.iadd, 1) := by decide +kernel
theorem bd_129_40 : decode (bn_b 129) 40 = .ok (.istore_n 0, 1) := by decide +kernel
theorem bd_129_41 : decode (bn_b 129) 41 = .ok (.iload_n 0, 1) := by decide +kernel
theorem bd_129_42 : decode (bn_b 129) 42 = .ok (.iload_n 0, 1) := by decide +kernel
theorem bd_129_43 : decode (bn_b 129) 43 = .ok (.bipush 16, 2) := by decide +kernel
theorem bd_129_45 : decode (bn_b 129) 45 = .ok (.iushr, 1) := by decide +kernel
theorem bd_129_46 : decode (bn_b 129) 46 = .ok (.iadd, 1) := by decide +kernel
theorem bd_129_47 : decode (bn_b 129) 47 = .ok (.istore_n 0, 1) := by decide +kernel
theorem bd_129_48 : decode (bn_b 129) 48 = .ok (.iload_n 0, 1) := by decide +kernel
theorem bd_129_49 : decode (bn_b 129) 49 = .ok (.bipush 63, 2) := by decide +kernel
theorem bd_129_51 : decode (bn_b 129) 51 = .ok (.iand, 1) := by decide +kernel
theorem bd_129_52 : decode (bn_b 129) 52 = .ok (.ireturn, 1) := by decide +kernel
theorem bd_132_0 : decode (bn_b 132) 0 = .ok (.new 7, 3) := by decide +kernel
theorem bd_132_3 : decode (bn_b 132) 3 = .ok (.dup, 1) := by decide +kernel
theorem bd_132_4 : decode (bn_b 132) 4 = .ok (.invokespecial 9, 3) := by decide +kernel
theorem bd_132_7 : decode (bn_b 132) 7 = .ok (.astore_n 1, 1) := by decide +kernel
theorem bd_132_8 : decode (bn_b 132) 8 = .ok (.new 10, 3) := by decide +kernel
theorem bd_132_11 : decode (bn_b 132) 11 = .ok (.dup, 1) := by decide +kernel
theorem bd_132_12 : decode (bn_b 132) 12 = .ok (.invokespecial 12, 3) := by decide +kernel
theorem bd_132_15 : decode (bn_b 132) 15 = .ok (.astore_n 2, 1) := by decide +kernel
theorem bd_132_16 : decode (bn_b 132) 16 = .ok (.iconst 0, 1) := by decide +kernel
theorem bd_132_17 : decode (bn_b 132) 17 = .ok (.istore_n 3, 1) := by decide +kernel
theorem bd_132_18 : decode (bn_b 132) 18 = .ok (.iload_n 3, 1) := by decide +kernel
theorem bd_132_19 : decode (bn_b 132) 19 = .ok (.aload_n 0, 1) := by decide +kernel
theorem bd_132_20 : decode (bn_b 132) 20 = .ok (.arraylength, 1) := by decide +kernel
theorem bd_132_21 : decode (bn_b 132) 21 = .ok (.iconst 5, 1) := by decide +kernel
theorem bd_132_22 : decode (bn_b 132) 22 = .ok (.isub, 1) := by decide +kernel
theorem bd_132_23 : decode (bn_b 132) 23 = .ok (.if_icmp .gt 756, 3) := by decide +kernel
theorem bd_132_26 : decode (bn_b 132) 26 = .ok (.aload_n 0, 1) := by decide +kernel
theorem bd_132_27 : decode (bn_b 132) 27 = .ok (.iload_n 3, 1) := by decide +kernel
theorem bd_132_28 : decode (bn_b 132) 28 = .ok (.iaload, 1) := by decide +kernel
theorem bd_132_29 : decode (bn_b 132) 29 = .ok (.bipush 31, 2) := by decide +kernel
theorem bd_132_31 : decode (bn_b 132) 31 = .ok (.iand, 1) := by decide +kernel
theorem bd_132_32 : decode (bn_b 132) 32 = .ok (.tableswitch 741 0 22 #[108, 171, 184, 197, 210, 243, 276, 309, 342, 375, 398, 411, 424, 437, 491, 504, 517, 530, 553, 622, 672, 695, 718], 108) := by decide +kernel
theorem bd_132_140 : decode (bn_b 132) 140 = .ok (.aload_n 1, 1) := by decide +kernel
theorem bd_132_141 : decode (bn_b 132) 141 = .ok (.aload_n 0, 1) := by decide +kernel
theorem bd_132_142 : decode (bn_b 132) 142 = .ok (.iload_n 3, 1) := by decide +kernel
theorem bd_132_143 : decode (bn_b 132) 143 = .ok (.iconst 1, 1) := by decide +kernel
theorem bd_132_144 : decode (bn_b 132) 144 = .ok (.iadd, 1) := by decide +kernel
theorem bd_132_145 : decode (bn_b 132) 145 = .ok (.iaload, 1) := by decide +kernel
theorem bd_132_146 : decode (bn_b 132) 146 = .ok (.aload_n 0, 1) := by decide +kernel
theorem bd_132_147 : decode (bn_b 132) 147 = .ok (.iload_n 3, 1) := by decide +kernel
theorem bd_132_148 : decode (bn_b 132) 148 = .ok (.iconst 2, 1) := by decide +kernel
theorem bd_132_149 : decode (bn_b 132) 149 = .ok (.iadd, 1) := by decide +kernel
theorem bd_132_150 : decode (bn_b 132) 150 = .ok (.iaload, 1) := by decide +kernel
theorem bd_132_151 : decode (bn_b 132) 151 = .ok (.i2l, 1) := by decide +kernel
theorem bd_132_152 : decode (bn_b 132) 152 = .ok (.bipush 32, 2) := by decide +kernel
theorem bd_132_154 : decode (bn_b 132) 154 = .ok (.lshl, 1) := by decide +kernel
theorem bd_132_155 : decode (bn_b 132) 155 = .ok (.aload_n 0, 1) := by decide +kernel
theorem bd_132_156 : decode (bn_b 132) 156 = .ok (.iload_n 3, 1) := by decide +kernel
theorem bd_132_157 : decode (bn_b 132) 157 = .ok (.iconst 3, 1) := by decide +kernel
theorem bd_132_158 : decode (bn_b 132) 158 = .ok (.iadd, 1) := by decide +kernel
theorem bd_132_159 : decode (bn_b 132) 159 = .ok (.iaload, 1) := by decide +kernel
theorem bd_132_160 : decode (bn_b 132) 160 = .ok (.i2l, 1) := by decide +kernel
theorem bd_132_161 : decode (bn_b 132) 161 = .ok (.ldc2_w 13, 3) := by decide +kernel
theorem bd_132_164 : decode (bn_b 132) 164 = .ok (.land, 1) := by decide +kernel
theorem bd_132_165 : decode (bn_b 132) 165 = .ok (.lor, 1) := by decide +kernel
theorem bd_132_166 : decode (bn_b 132) 166 = .ok (.invokevirtual 15, 3) := by decide +kernel
theorem bd_132_169 : decode (bn_b 132) 169 = .ok (.aload_n 2, 1) := by decide +kernel
theorem bd_132_170 : decode (bn_b 132) 170 = .ok (.aload_n 0, 1) := by decide +kernel
theorem bd_132_171 : decode (bn_b 132) 171 = .ok (.iload_n 3, 1) := by decide +kernel
theorem bd_132_172 : decode (bn_b 132) 172 = .ok (.iconst 1, 1) := by decide +kernel
theorem bd_132_173 : decode (bn_b 132) 173 = .ok (.iadd, 1) := by decide +kernel
theorem bd_132_174 : decode (bn_b 132) 174 = .ok (.iaload, 1) := by decide +kernel
theorem bd_132_175 : decode (bn_b 132) 175 = .ok (.aload_n 0, 1) := by decide +kernel
theorem bd_132_176 : decode (bn_b 132) 176 = .ok (.iload_n 3, 1) := by decide +kernel
theorem bd_132_177 : decode (bn_b 132) 177 = .ok (.iconst 2, 1) := by decide +kernel
theorem bd_132_178 : decode (bn_b 132) 178 = .ok (.iadd, 1) := by decide +kernel
theorem bd_132_179 : decode (bn_b 132) 179 = .ok (.iaload, 1) := by decide +kernel
theorem bd_132_180 : decode (bn_b 132) 180 = .ok (.i2l, 1) := by decide +kernel
theorem bd_132_181 : decode (bn_b 132) 181 = .ok (.bipush 32, 2) := by decide +kernel
theorem bd_132_183 : decode (bn_b 132) 183 = .ok (.lshl, 1) := by decide +kernel
theorem bd_132_184 : decode (bn_b 132) 184 = .ok (.aload_n 0, 1) := by decide +kernel
theorem bd_132_185 : decode (bn_b 132) 185 = .ok (.iload_n 3, 1) := by decide +kernel
theorem bd_132_186 : decode (bn_b 132) 186 = .ok (.iconst 3, 1) := by decide +kernel
theorem bd_132_187 : decode (bn_b 132) 187 = .ok (.iadd, 1) := by decide +kernel
theorem bd_132_188 : decode (bn_b 132) 188 = .ok (.iaload, 1) := by decide +kernel
theorem bd_132_189 : decode (bn_b 132) 189 = .ok (.i2l, 1) := by decide +kernel
theorem bd_132_190 : decode (bn_b 132) 190 = .ok (.ldc2_w 13, 3) := by decide +kernel
theorem bd_132_193 : decode (bn_b 132) 193 = .ok (.land, 1) := by decide +kernel
theorem bd_132_194 : decode (bn_b 132) 194 = .ok (.lor, 1) := by decide +kernel
theorem bd_132_195 : decode (bn_b 132) 195 = .ok (.invokevirtual 19, 3) := by decide +kernel
theorem bd_132_198 : decode (bn_b 132) 198 = .ok (.if_icmp .eq 575, 3) := by decide +kernel
theorem bd_132_201 : decode (bn_b 132) 201 = .ok (.iconst 0, 1) := by decide +kernel
theorem bd_132_202 : decode (bn_b 132) 202 = .ok (.ireturn, 1) := by decide +kernel
theorem bd_132_203 : decode (bn_b 132) 203 = .ok (.aload_n 1, 1) := by decide +kernel
theorem bd_132_204 : decode (bn_b 132) 204 = .ok (.invokevirtual 20, 3) := by decide +kernel
theorem bd_132_207 : decode (bn_b 132) 207 = .ok (.aload_n 2, 1) := by decide +kernel
theorem bd_132_208 : decode (bn_b 132) 208 = .ok (.invokevirtual 24, 3) := by decide +kernel
theorem bd_132_211 : decode (bn_b 132) 211 = .ok (.if_icmp .eq 562, 3) := by decide +kernel
theorem bd_132_214 : decode (bn_b 132) 214 = .ok (.iconst 0, 1) := by decide +kernel
theorem bd_132_215 : decode (bn_b 132) 215 = .ok (.ireturn, 1) := by decide +kernel
theorem bd_132_216 : decode (bn_b 132) 216 = .ok (.aload_n 1, 1) := by decide +kernel
theorem bd_132_217 : decode (bn_b 132) 217 = .ok (.invokevirtual 25, 3) := by decide +kernel
theorem bd_132_220 : decode (bn_b 132) 220 = .ok (.aload_n 2, 1) := by decide +kernel
theorem bd_132_221 : decode (bn_b 132) 221 = .ok (.invokevirtual 28, 3) := by decide +kernel
theorem bd_132_224 : decode (bn_b 132) 224 = .ok (.if_icmp .eq 549, 3) := by decide +kernel
theorem bd_132_227 : decode (bn_b 132) 227 = .ok (.iconst 0, 1) := by decide +kernel
theorem bd_132_228 : decode (bn_b 132) 228 = .ok (.ireturn, 1) := by decide +kernel
theorem bd_132_229 : decode (bn_b 132) 229 = .ok (.aload_n 1, 1) := by decide +kernel
theorem bd_132_230 : decode (bn_b 132) 230 = .ok (.invokevirtual 29, 3) := by decide +kernel
theorem bd_132_233 : decode (bn_b 132) 233 = .ok (.aload_n 2, 1) := by decide +kernel
theorem bd_132_234 : decode (bn_b 132) 234 = .ok (.invokevirtual 32, 3) := by decide +kernel
theorem bd_132_237 : decode (bn_b 132) 237 = .ok (.if_icmp .eq 536, 3) := by decide +kernel
theorem bd_132_240 : decode (bn_b 132) 240 = .ok (.iconst 0, 1) := by decide +kernel
theorem bd_132_241 : decode (bn_b 132) 241 = .ok (.ireturn, 1) := by decide +kernel
theorem bd_132_242 : decode (bn_b 132) 242 = .ok (.aload_n 1, 1) := by decide +kernel
theorem bd_132_243 : decode (bn_b 132) 243 = .ok (.aload_n 0, 1) := by decide +kernel
theorem bd_132_244 : decode (bn_b 132) 244 = .ok (.iload_n 3, 1) := by decide +kernel
theorem bd_132_245 : decode (bn_b 132) 245 = .ok (.iconst 1, 1) := by decide +kernel
theorem bd_132_246 : decode (bn_b 132) 246 = .ok (.iadd, 1) := by decide +kernel
theorem bd_132_247 : decode (bn_b 132) 247 = .ok (.iaload, 1) := by decide +kernel
theorem bd_132_248 : decode (bn_b 132) 248 = .ok (.aload_n 0, 1) := by decide +kernel
theorem bd_132_249 : decode (bn_b 132) 249 = .ok (.iload_n 3, 1) := by decide +kernel
theorem bd_132_250 : decode (bn_b 132) 250 = .ok (.iconst 2, 1) := by decide +kernel
theorem bd_132_251 : decode (bn_b 132) 251 = .ok (.iadd, 1) := by decide +kernel
theorem bd_132_252 : decode (bn_b 132) 252 = .ok (.iaload, 1) := by decide +kernel
theorem bd_132_253 : decode (bn_b 132) 253 = .ok (.invokevirtual 33, 3) := by decide +kernel
theorem bd_132_256 : decode (bn_b 132) 256 = .ok (.aload_n 2, 1) := by decide +kernel
theorem bd_132_257 : decode (bn_b 132) 257 = .ok (.aload_n 0, 1) := by decide +kernel
theorem bd_132_258 : decode (bn_b 132) 258 = .ok (.iload_n 3, 1) := by decide +kernel
theorem bd_132_259 : decode (bn_b 132) 259 = .ok (.iconst 1, 1) := by decide +kernel
theorem bd_132_260 : decode (bn_b 132) 260 = .ok (.iadd, 1) := by decide +kernel
theorem bd_132_261 : decode (bn_b 132) 261 = .ok (.iaload, 1) := by decide +kernel
theorem bd_132_262 : decode (bn_b 132) 262 = .ok (.aload_n 0, 1) := by decide +kernel
theorem bd_132_263 : decode (bn_b 132) 263 = .ok (.iload_n 3, 1) := by decide +kernel
theorem bd_132_264 : decode (bn_b 132) 264 = .ok (.iconst 2, 1) := by decide +kernel
theorem bd_132_265 : decode (bn_b 132) 265 = .ok (.iadd, 1) := by decide +kernel
theorem bd_132_266 : decode (bn_b 132) 266 = .ok (.iaload, 1) := by decide +kernel
theorem bd_132_267 : decode (bn_b 132) 267 = .ok (.invokevirtual 37, 3) := by decide +kernel
theorem bd_132_270 : decode (bn_b 132) 270 = .ok (.if_icmp .eq 503, 3) := by decide +kernel
theorem bd_132_273 : decode (bn_b 132) 273 = .ok (.iconst 0, 1) := by decide +kernel
theorem bd_132_274 : decode (bn_b 132) 274 = .ok (.ireturn, 1) := by decide +kernel
theorem bd_132_275 : decode (bn_b 132) 275 = .ok (.aload_n 1, 1) := by decide +kernel
theorem bd_132_276 : decode (bn_b 132) 276 = .ok (.aload_n 0, 1) := by decide +kernel
theorem bd_132_277 : decode (bn_b 132) 277 = .ok (.iload_n 3, 1) := by decide +kernel
theorem bd_132_278 : decode (bn_b 132) 278 = .ok (.iconst 1, 1) := by decide +kernel
theorem bd_132_279 : decode (bn_b 132) 279 = .ok (.iadd, 1) := by decide +kernel
theorem bd_132_280 : decode (bn_b 132) 280 = .ok (.iaload, 1) := by decide +kernel
theorem bd_132_281 : decode (bn_b 132) 281 = .ok (.aload_n 0, 1) := by decide +kernel
theorem bd_132_282 : decode (bn_b 132) 282 = .ok (.iload_n 3, 1) := by decide +kernel
theorem bd_132_283 : decode (bn_b 132) 283 = .ok (.iconst 2, 1) := by decide +kernel
theorem bd_132_284 : decode (bn_b 132) 284 = .ok (.iadd, 1) := by decide +kernel
theorem bd_132_285 : decode (bn_b 132) 285 = .ok (.iaload, 1) := by decide +kernel
theorem bd_132_286 : decode (bn_b 132) 286 = .ok (.invokevirtual 38, 3) := by decide +kernel
theorem bd_132_289 : decode (bn_b 132) 289 = .ok (.aload_n 2, 1) := by decide +kernel
theorem bd_132_290 : decode (bn_b 132) 290 = .ok (.aload_n 0, 1) := by decide +kernel
theorem bd_132_291 : decode (bn_b 132) 291 = .ok (.iload_n 3, 1) := by decide +kernel
theorem bd_132_292 : decode (bn_b 132) 292 = .ok (.iconst 1, 1) := by decide +kernel
theorem bd_132_293 : decode (bn_b 132) 293 = .ok (.iadd, 1) := by decide +kernel
theorem bd_132_294 : decode (bn_b 132) 294 = .ok (.iaload, 1) := by decide +kernel
theorem bd_132_295 : decode (bn_b 132) 295 = .ok (.aload_n 0, 1) := by decide +kernel
theorem bd_132_296 : decode (bn_b 132) 296 = .ok (.iload_n 3, 1) := by decide +kernel
theorem bd_132_297 : decode (bn_b 132) 297 = .ok (.iconst 2, 1) := by decide +kernel
theorem bd_132_298 : decode (bn_b 132) 298 = .ok (.iadd, 1) := by decide +kernel
theorem bd_132_299 : decode (bn_b 132) 299 = .ok (.iaload, 1) := by decide +kernel
theorem bd_132_300 : decode (bn_b 132) 300 = .ok (.invokevirtual 41, 3) := by decide +kernel
theorem bd_132_303 : decode (bn_b 132) 303 = .ok (.if_icmp .eq 470, 3) := by decide +kernel
theorem bd_132_306 : decode (bn_b 132) 306 = .ok (.iconst 0, 1) := by decide +kernel
theorem bd_132_307 : decode (bn_b 132) 307 = .ok (.ireturn, 1) := by decide +kernel
theorem bd_132_308 : decode (bn_b 132) 308 = .ok (.aload_n 1, 1) := by decide +kernel
theorem bd_132_309 : decode (bn_b 132) 309 = .ok (.aload_n 0, 1) := by decide +kernel
theorem bd_132_310 : decode (bn_b 132) 310 = .ok (.iload_n 3, 1) := by decide +kernel
theorem bd_132_311 : decode (bn_b 132) 311 = .ok (.iconst 1, 1) := by decide +kernel
theorem bd_132_312 : decode (bn_b 132) 312 = .ok (.iadd, 1) := by decide +kernel
theorem bd_132_313 : decode (bn_b 132) 313 = .ok (.iaload, 1) := by decide +kernel
theorem bd_132_314 : decode (bn_b 132) 314 = .ok (.aload_n 0, 1) := by decide +kernel
theorem bd_132_315 : decode (bn_b 132) 315 = .ok (.iload_n 3, 1) := by decide +kernel
theorem bd_132_316 : decode (bn_b 132) 316 = .ok (.iconst 2, 1) := by decide +kernel
theorem bd_132_317 : decode (bn_b 132) 317 = .ok (.iadd, 1) := by decide +kernel
theorem bd_132_318 : decode (bn_b 132) 318 = .ok (.iaload, 1) := by decide +kernel
theorem bd_132_319 : decode (bn_b 132) 319 = .ok (.invokevirtual 42, 3) := by decide +kernel
theorem bd_132_322 : decode (bn_b 132) 322 = .ok (.aload_n 2, 1) := by decide +kernel
theorem bd_132_323 : decode (bn_b 132) 323 = .ok (.aload_n 0, 1) := by decide +kernel
theorem bd_132_324 : decode (bn_b 132) 324 = .ok (.iload_n 3, 1) := by decide +kernel
theorem bd_132_325 : decode (bn_b 132) 325 = .ok (.iconst 1, 1) := by decide +kernel
theorem bd_132_326 : decode (bn_b 132) 326 = .ok (.iadd, 1) := by decide +kernel
theorem bd_132_327 : decode (bn_b 132) 327 = .ok (.iaload, 1) := by decide +kernel
theorem bd_132_328 : decode (bn_b 132) 328 = .ok (.aload_n 0, 1) := by decide +kernel
theorem bd_132_329 : decode (bn_b 132) 329 = .ok (.iload_n 3, 1) := by decide +kernel
theorem bd_132_330 : decode (bn_b 132) 330 = .ok (.iconst 2, 1) := by decide +kernel
theorem bd_132_331 : decode (bn_b 132) 331 = .ok (.iadd, 1) := by decide +kernel
theorem bd_132_332 : decode (bn_b 132) 332 = .ok (.iaload, 1) := by decide +kernel
theorem bd_132_333 : decode (bn_b 132) 333 = .ok (.invokevirtual 45, 3) := by decide +kernel
theorem bd_132_336 : decode (bn_b 132) 336 = .ok (.if_icmp .eq 437, 3) := by decide +kernel
theorem bd_132_339 : decode (bn_b 132) 339 = .ok (.iconst 0, 1) := by decide +kernel
theorem bd_132_340 : decode (bn_b 132) 340 = .ok (.ireturn, 1) := by decide +kernel
theorem bd_132_341 : decode (bn_b 132) 341 = .ok (.aload_n 1, 1) := by decide +kernel
theorem bd_132_342 : decode (bn_b 132) 342 = .ok (.aload_n 0, 1) := by decide +kernel
theorem bd_132_343 : decode (bn_b 132) 343 = .ok (.iload_n 3, 1) := by decide +kernel
theorem bd_132_344 : decode (bn_b 132) 344 = .ok (.iconst 1, 1) := by decide +kernel
theorem bd_132_345 : decode (bn_b 132) 345 = .ok (.iadd, 1) := by decide +kernel
theorem bd_132_346 : decode (bn_b 132) 346 = .ok (.iaload, 1) := by decide +kernel
theorem bd_132_347 : decode (bn_b 132) 347 = .ok (.aload_n 0, 1) := by decide +kernel
theorem bd_132_348 : decode (bn_b 132) 348 = .ok (.iload_n 3, 1) := by decide +kernel
theorem bd_132_349 : decode (bn_b 132) 349 = .ok (.iconst 2, 1) := by decide +kernel
theorem bd_132_350 : decode (bn_b 132) 350 = .ok (.iadd, 1) := by decide +kernel
theorem bd_132_351 : decode (bn_b 132) 351 = .ok (.iaload, 1) := by decide +kernel
theorem bd_132_352 : decode (bn_b 132) 352 = .ok (.invokevirtual 46, 3) := by decide +kernel
theorem bd_132_355 : decode (bn_b 132) 355 = .ok (.aload_n 2, 1) := by decide +kernel
theorem bd_132_356 : decode (bn_b 132) 356 = .ok (.aload_n 0, 1) := by decide +kernel
theorem bd_132_357 : decode (bn_b 132) 357 = .ok (.iload_n 3, 1) := by decide +kernel
theorem bd_132_358 : decode (bn_b 132) 358 = .ok (.iconst 1, 1) := by decide +kernel
theorem bd_132_359 : decode (bn_b 132) 359 = .ok (.iadd, 1) := by decide +kernel
theorem bd_132_360 : decode (bn_b 132) 360 = .ok (.iaload, 1) := by decide +kernel
theorem bd_132_361 : decode (bn_b 132) 361 = .ok (.aload_n 0, 1) := by decide +kernel
theorem bd_132_362 : decode (bn_b 132) 362 = .ok (.iload_n 3, 1) := by decide +kernel
theorem bd_132_363 : decode (bn_b 132) 363 = .ok (.iconst 2, 1) := by decide +kernel
theorem bd_132_364 : decode (bn_b 132) 364 = .ok (.iadd, 1) := by decide +kernel
theorem bd_132_365 : decode (bn_b 132) 365 = .ok (.iaload, 1) := by decide +kernel
theorem bd_132_366 : decode (bn_b 132) 366 = .ok (.invokevirtual 49, 3) := by decide +kernel
theorem bd_132_369 : decode (bn_b 132) 369 = .ok (.if_icmp .eq 404, 3) := by decide +kernel
theorem bd_132_372 : decode (bn_b 132) 372 = .ok (.iconst 0, 1) := by decide +kernel
theorem bd_132_373 : decode (bn_b 132) 373 = .ok (.ireturn, 1) := by decide +kernel
theorem bd_132_374 : decode (bn_b 132) 374 = .ok (.aload_n 1, 1) := by decide +kernel
theorem bd_132_375 : decode (bn_b 132) 375 = .ok (.aload_n 0, 1) := by decide +kernel
theorem bd_132_376 : decode (bn_b 132) 376 = .ok (.iload_n 3, 1) := by decide +kernel
theorem bd_132_377 : decode (bn_b 132) 377 = .ok (.iconst 1, 1) := by decide +kernel
theorem bd_132_378 : decode (bn_b 132) 378 = .ok (.iadd, 1) := by decide +kernel
theorem bd_132_379 : decode (bn_b 132) 379 = .ok (.iaload, 1) := by decide +kernel
theorem bd_132_380 : decode (bn_b 132) 380 = .ok (.aload_n 0, 1) := by decide +kernel
theorem bd_132_381 : decode (bn_b 132) 381 = .ok (.iload_n 3, 1) := by decide +kernel
theorem bd_132_382 : decode (bn_b 132) 382 = .ok (.iconst 2, 1) := by decide +kernel
theorem bd_132_383 : decode (bn_b 132) 383 = .ok (.iadd, 1) := by decide +kernel
theorem bd_132_384 : decode (bn_b 132) 384 = .ok (.iaload, 1) := by decide +kernel
theorem bd_132_385 : decode (bn_b 132) 385 = .ok (.invokevirtual 50, 3) := by decide +kernel
theorem bd_132_388 : decode (bn_b 132) 388 = .ok (.aload_n 2, 1) := by decide +kernel
theorem bd_132_389 : decode (bn_b 132) 389 = .ok (.aload_n 0, 1) := by decide +kernel
theorem bd_132_390 : decode (bn_b 132) 390 = .ok (.iload_n 3, 1) := by decide +kernel
theorem bd_132_391 : decode (bn_b 132) 391 = .ok (.iconst 1, 1) := by decide +kernel
theorem bd_132_392 : decode (bn_b 132) 392 = .ok (.iadd, 1) := by decide +kernel
theorem bd_132_393 : decode (bn_b 132) 393 = .ok (.iaload, 1) := by decide +kernel
theorem bd_132_394 : decode (bn_b 132) 394 = .ok (.aload_n 0, 1) := by decide +kernel
theorem bd_132_395 : decode (bn_b 132) 395 = .ok (.iload_n 3, 1) := by decide +kernel
theorem bd_132_396 : decode (bn_b 132) 396 = .ok (.iconst 2, 1) := by decide +kernel
theorem bd_132_397 : decode (bn_b 132) 397 = .ok (.iadd, 1) := by decide +kernel
theorem bd_132_398 : decode (bn_b 132) 398 = .ok (.iaload, 1) := by decide +kernel
theorem bd_132_399 : decode (bn_b 132) 399 = .ok (.invokevirtual 53, 3) := by decide +kernel
theorem bd_132_402 : decode (bn_b 132) 402 = .ok (.if_icmp .eq 371, 3) := by decide +kernel
theorem bd_132_405 : decode (bn_b 132) 405 = .ok (.iconst 0, 1) := by decide +kernel
theorem bd_132_406 : decode (bn_b 132) 406 = .ok (.ireturn, 1) := by decide +kernel
theorem bd_132_407 : decode (bn_b 132) 407 = .ok (.aload_n 1, 1) := by decide +kernel
theorem bd_132_408 : decode (bn_b 132) 408 = .ok (.aload_n 0, 1) := by decide +kernel
theorem bd_132_409 : decode (bn_b 132) 409 = .ok (.iload_n 3, 1) := by decide +kernel
theorem bd_132_410 : decode (bn_b 132) 410 = .ok (.iconst 1, 1) := by decide +kernel
theorem bd_132_411 : decode (bn_b 132) 411 = .ok (.iadd, 1) := by decide +kernel
theorem bd_132_412 : decode (bn_b 132) 412 = .ok (.iaload, 1) := by decide +kernel
theorem bd_132_413 : decode (bn_b 132) 413 = .ok (.invokevirtual 54, 3) := by decide +kernel
theorem bd_132_416 : decode (bn_b 132) 416 = .ok (.aload_n 2, 1) := by decide +kernel
theorem bd_132_417 : decode (bn_b 132) 417 = .ok (.aload_n 0, 1) := by decide +kernel
theorem bd_132_418 : decode (bn_b 132) 418 = .ok (.iload_n 3, 1) := by decide +kernel
theorem bd_132_419 : decode (bn_b 132) 419 = .ok (.iconst 1, 1) := by decide +kernel
theorem bd_132_420 : decode (bn_b 132) 420 = .ok (.iadd, 1) := by decide +kernel
theorem bd_132_421 : decode (bn_b 132) 421 = .ok (.iaload, 1) := by decide +kernel
theorem bd_132_422 : decode (bn_b 132) 422 = .ok (.invokevirtual 58, 3) := by decide +kernel
theorem bd_132_425 : decode (bn_b 132) 425 = .ok (.if_icmp .eq 348, 3) := by decide +kernel
theorem bd_132_428 : decode (bn_b 132) 428 = .ok (.iconst 0, 1) := by decide +kernel
theorem bd_132_429 : decode (bn_b 132) 429 = .ok (.ireturn, 1) := by decide +kernel
theorem bd_132_430 : decode (bn_b 132) 430 = .ok (.aload_n 1, 1) := by decide +kernel
theorem bd_132_431 : decode (bn_b 132) 431 = .ok (.invokevirtual 59, 3) := by decide +kernel
theorem bd_132_434 : decode (bn_b 132) 434 = .ok (.aload_n 2, 1) := by decide +kernel
theorem bd_132_435 : decode (bn_b 132) 435 = .ok (.invokevirtual 62, 3) := by decide +kernel
theorem bd_132_438 : decode (bn_b 132) 438 = .ok (.if_icmp .eq 335, 3) := by decide +kernel
theorem bd_132_441 : decode (bn_b 132) 441 = .ok (.iconst 0, 1) := by decide +kernel
theorem bd_132_442 : decode (bn_b 132) 442 = .ok (.ireturn, 1) := by decide +kernel
theorem bd_132_443 : decode (bn_b 132) 443 = .ok (.aload_n 1, 1) := by decide +kernel
theorem bd_132_444 : decode (bn_b 132) 444 = .ok (.invokevirtual 63, 3) := by decide +kernel
theorem bd_132_447 : decode (bn_b 132) 447 = .ok (.aload_n 2, 1) := by decide +kernel
theorem bd_132_448 : decode (bn_b 132) 448 = .ok (.invokevirtual 66, 3) := by decide +kernel
theorem bd_132_451 : decode (bn_b 132) 451 = .ok (.if_icmp .eq 322, 3) := by decide +kernel
theorem bd_132_454 : decode (bn_b 132) 454 = .ok (.iconst 0, 1) := by decide +kernel
theorem bd_132_455 : decode (bn_b 132) 455 = .ok (.ireturn, 1) := by decide +kernel
theorem bd_132_456 : decode (bn_b 132) 456 = .ok (.aload_n 1, 1) := by decide +kernel
theorem bd_132_457 : decode (bn_b 132) 457 = .ok (.invokevirtual 67, 3) := by decide +kernel
theorem bd_132_460 : decode (bn_b 132) 460 = .ok (.aload_n 2, 1) := by decide +kernel
theorem bd_132_461 : decode (bn_b 132) 461 = .ok (.invokevirtual 70, 3) := by decide +kernel
theorem bd_132_464 : decode (bn_b 132) 464 = .ok (.if_icmp .eq 309, 3) := by decide +kernel
theorem bd_132_467 : decode (bn_b 132) 467 = .ok (.iconst 0, 1) := by decide +kernel
theorem bd_132_468 : decode (bn_b 132) 468 = .ok (.ireturn, 1) := by decide +kernel
theorem bd_132_469 : decode (bn_b 132) 469 = .ok (.aload_n 1, 1) := by decide +kernel
theorem bd_132_470 : decode (bn_b 132) 470 = .ok (.aload_n 0, 1) := by decide +kernel
theorem bd_132_471 : decode (bn_b 132) 471 = .ok (.iload_n 3, 1) := by decide +kernel
theorem bd_132_472 : decode (bn_b 132) 472 = .ok (.iconst 1, 1) := by decide +kernel
theorem bd_132_473 : decode (bn_b 132) 473 = .ok (.iadd, 1) := by decide +kernel
theorem bd_132_474 : decode (bn_b 132) 474 = .ok (.iaload, 1) := by decide +kernel
theorem bd_132_475 : decode (bn_b 132) 475 = .ok (.i2l, 1) := by decide +kernel
theorem bd_132_476 : decode (bn_b 132) 476 = .ok (.bipush 32, 2) := by decide +kernel
theorem bd_132_478 : decode (bn_b 132) 478 = .ok (.lshl, 1) := by decide +kernel
theorem bd_132_479 : decode (bn_b 132) 479 = .ok (.aload_n 0, 1) := by decide +kernel
theorem bd_132_480 : decode (bn_b 132) 480 = .ok (.iload_n 3, 1) := by decide +kernel
theorem bd_132_481 : decode (bn_b 132) 481 = .ok (.iconst 2, 1) := by decide +kernel
theorem bd_132_482 : decode (bn_b 132) 482 = .ok (.iadd, 1) := by decide +kernel
theorem bd_132_483 : decode (bn_b 132) 483 = .ok (.iaload, 1) := by decide +kernel
theorem bd_132_484 : decode (bn_b 132) 484 = .ok (.i2l, 1) := by decide +kernel
theorem bd_132_485 : decode (bn_b 132) 485 = .ok (.ldc2_w 13, 3) := by decide +kernel
theorem bd_132_488 : decode (bn_b 132) 488 = .ok (.land, 1) := by decide +kernel
theorem bd_132_489 : decode (bn_b 132) 489 = .ok (.lor, 1) := by decide +kernel
theorem bd_132_490 : decode (bn_b 132) 490 = .ok (.invokevirtual 71, 3) := by decide +kernel
theorem bd_132_493 : decode (bn_b 132) 493 = .ok (.aload_n 2, 1) := by decide +kernel
theorem bd_132_494 : decode (bn_b 132) 494 = .ok (.aload_n 0, 1) := by decide +kernel
theorem bd_132_495 : decode (bn_b 132) 495 = .ok (.iload_n 3, 1) := by decide +kernel
theorem bd_132_496 : decode (bn_b 132) 496 = .ok (.iconst 1, 1) := by decide +kernel
theorem bd_132_497 : decode (bn_b 132) 497 = .ok (.iadd, 1) := by decide +kernel
theorem bd_132_498 : decode (bn_b 132) 498 = .ok (.iaload, 1) := by decide +kernel
theorem bd_132_499 : decode (bn_b 132) 499 = .ok (.i2l, 1) := by decide +kernel
theorem bd_132_500 : decode (bn_b 132) 500 = .ok (.bipush 32, 2) := by decide +kernel
theorem bd_132_502 : decode (bn_b 132) 502 = .ok (.lshl, 1) := by decide +kernel
theorem bd_132_503 : decode (bn_b 132) 503 = .ok (.aload_n 0, 1) := by decide +kernel
theorem bd_132_504 : decode (bn_b 132) 504 = .ok (.iload_n 3, 1) := by decide +kernel
theorem bd_132_505 : decode (bn_b 132) 505 = .ok (.iconst 2, 1) := by decide +kernel
theorem bd_132_506 : decode (bn_b 132) 506 = .ok (.iadd, 1) := by decide +kernel
theorem bd_132_507 : decode (bn_b 132) 507 = .ok (.iaload, 1) := by decide +kernel
theorem bd_132_508 : decode (bn_b 132) 508 = .ok (.i2l, 1) := by decide +kernel
theorem bd_132_509 : decode (bn_b 132) 509 = .ok (.ldc2_w 13, 3) := by decide +kernel
theorem bd_132_512 : decode (bn_b 132) 512 = .ok (.land, 1) := by decide +kernel
theorem bd_132_513 : decode (bn_b 132) 513 = .ok (.lor, 1) := by decide +kernel
theorem bd_132_514 : decode (bn_b 132) 514 = .ok (.invokevirtual 75, 3) := by decide +kernel
theorem bd_132_517 : decode (bn_b 132) 517 = .ok (.lcmp, 1) := by decide +kernel
theorem bd_132_518 : decode (bn_b 132) 518 = .ok (.ifCond .eq 255, 3) := by decide +kernel
theorem bd_132_521 : decode (bn_b 132) 521 = .ok (.iconst 0, 1) := by decide +kernel
theorem bd_132_522 : decode (bn_b 132) 522 = .ok (.ireturn, 1) := by decide +kernel
theorem bd_132_523 : decode (bn_b 132) 523 = .ok (.aload_n 1, 1) := by decide +kernel
theorem bd_132_524 : decode (bn_b 132) 524 = .ok (.invokevirtual 76, 3) := by decide +kernel
theorem bd_132_527 : decode (bn_b 132) 527 = .ok (.aload_n 2, 1) := by decide +kernel
theorem bd_132_528 : decode (bn_b 132) 528 = .ok (.invokevirtual 79, 3) := by decide +kernel
theorem bd_132_531 : decode (bn_b 132) 531 = .ok (.if_icmp .eq 242, 3) := by decide +kernel
theorem bd_132_534 : decode (bn_b 132) 534 = .ok (.iconst 0, 1) := by decide +kernel
theorem bd_132_535 : decode (bn_b 132) 535 = .ok (.ireturn, 1) := by decide +kernel
theorem bd_132_536 : decode (bn_b 132) 536 = .ok (.aload_n 1, 1) := by decide +kernel
theorem bd_132_537 : decode (bn_b 132) 537 = .ok (.invokevirtual 80, 3) := by decide +kernel
theorem bd_132_540 : decode (bn_b 132) 540 = .ok (.aload_n 2, 1) := by decide +kernel
theorem bd_132_541 : decode (bn_b 132) 541 = .ok (.invokevirtual 83, 3) := by decide +kernel
theorem bd_132_544 : decode (bn_b 132) 544 = .ok (.if_icmp .eq 229, 3) := by decide +kernel
theorem bd_132_547 : decode (bn_b 132) 547 = .ok (.iconst 0, 1) := by decide +kernel
theorem bd_132_548 : decode (bn_b 132) 548 = .ok (.ireturn, 1) := by decide +kernel
theorem bd_132_549 : decode (bn_b 132) 549 = .ok (.aload_n 1, 1) := by decide +kernel
theorem bd_132_550 : decode (bn_b 132) 550 = .ok (.invokevirtual 84, 3) := by decide +kernel
theorem bd_132_553 : decode (bn_b 132) 553 = .ok (.aload_n 2, 1) := by decide +kernel
theorem bd_132_554 : decode (bn_b 132) 554 = .ok (.invokevirtual 87, 3) := by decide +kernel
theorem bd_132_557 : decode (bn_b 132) 557 = .ok (.if_icmp .eq 216, 3) := by decide +kernel
theorem bd_132_560 : decode (bn_b 132) 560 = .ok (.iconst 0, 1) := by decide +kernel
theorem bd_132_561 : decode (bn_b 132) 561 = .ok (.ireturn, 1) := by decide +kernel
theorem bd_132_562 : decode (bn_b 132) 562 = .ok (.aload_n 1, 1) := by decide +kernel
theorem bd_132_563 : decode (bn_b 132) 563 = .ok (.aload_n 0, 1) := by decide +kernel
theorem bd_132_564 : decode (bn_b 132) 564 = .ok (.iload_n 3, 1) := by decide +kernel
theorem bd_132_565 : decode (bn_b 132) 565 = .ok (.iconst 1, 1) := by decide +kernel
theorem bd_132_566 : decode (bn_b 132) 566 = .ok (.iadd, 1) := by decide +kernel
theorem bd_132_567 : decode (bn_b 132) 567 = .ok (.iaload, 1) := by decide +kernel
theorem bd_132_568 : decode (bn_b 132) 568 = .ok (.invokevirtual 88, 3) := by decide +kernel
theorem bd_132_571 : decode (bn_b 132) 571 = .ok (.aload_n 2, 1) := by decide +kernel
theorem bd_132_572 : decode (bn_b 132) 572 = .ok (.aload_n 0, 1) := by decide +kernel
theorem bd_132_573 : decode (bn_b 132) 573 = .ok (.iload_n 3, 1) := by decide +kernel
theorem bd_132_574 : decode (bn_b 132) 574 = .ok (.iconst 1, 1) := by decide +kernel
theorem bd_132_575 : decode (bn_b 132) 575 = .ok (.iadd, 1) := by decide +kernel
theorem bd_132_576 : decode (bn_b 132) 576 = .ok (.iaload, 1) := by decide +kernel
theorem bd_132_577 : decode (bn_b 132) 577 = .ok (.invokevirtual 91, 3) := by decide +kernel
theorem bd_132_580 : decode (bn_b 132) 580 = .ok (.if_icmp .eq 193, 3) := by decide +kernel
theorem bd_132_583 : decode (bn_b 132) 583 = .ok (.iconst 0, 1) := by decide +kernel
theorem bd_132_584 : decode (bn_b 132) 584 = .ok (.ireturn, 1) := by decide +kernel
theorem bd_132_585 : decode (bn_b 132) 585 = .ok (.aload_n 1, 1) := by decide +kernel
theorem bd_132_586 : decode (bn_b 132) 586 = .ok (.aload_n 0, 1) := by decide +kernel
theorem bd_132_587 : decode (bn_b 132) 587 = .ok (.iload_n 3, 1) := by decide +kernel
theorem bd_132_588 : decode (bn_b 132) 588 = .ok (.iconst 1, 1) := by decide +kernel
theorem bd_132_589 : decode (bn_b 132) 589 = .ok (.iadd, 1) := by decide +kernel
theorem bd_132_590 : decode (bn_b 132) 590 = .ok (.iaload, 1) := by decide +kernel
theorem bd_132_591 : decode (bn_b 132) 591 = .ok (.aload_n 0, 1) := by decide +kernel
theorem bd_132_592 : decode (bn_b 132) 592 = .ok (.iload_n 3, 1) := by decide +kernel
theorem bd_132_593 : decode (bn_b 132) 593 = .ok (.iconst 2, 1) := by decide +kernel
theorem bd_132_594 : decode (bn_b 132) 594 = .ok (.iadd, 1) := by decide +kernel
theorem bd_132_595 : decode (bn_b 132) 595 = .ok (.iaload, 1) := by decide +kernel
theorem bd_132_596 : decode (bn_b 132) 596 = .ok (.aload_n 0, 1) := by decide +kernel
theorem bd_132_597 : decode (bn_b 132) 597 = .ok (.iload_n 3, 1) := by decide +kernel
theorem bd_132_598 : decode (bn_b 132) 598 = .ok (.iconst 3, 1) := by decide +kernel
theorem bd_132_599 : decode (bn_b 132) 599 = .ok (.iadd, 1) := by decide +kernel
theorem bd_132_600 : decode (bn_b 132) 600 = .ok (.iaload, 1) := by decide +kernel
theorem bd_132_601 : decode (bn_b 132) 601 = .ok (.aload_n 0, 1) := by decide +kernel
theorem bd_132_602 : decode (bn_b 132) 602 = .ok (.iload_n 3, 1) := by decide +kernel
theorem bd_132_603 : decode (bn_b 132) 603 = .ok (.iconst 4, 1) := by decide +kernel
theorem bd_132_604 : decode (bn_b 132) 604 = .ok (.iadd, 1) := by decide +kernel
theorem bd_132_605 : decode (bn_b 132) 605 = .ok (.iaload, 1) := by decide +kernel
theorem bd_132_606 : decode (bn_b 132) 606 = .ok (.ifCond .eq 7, 3) := by decide +kernel
theorem bd_132_609 : decode (bn_b 132) 609 = .ok (.iconst 1, 1) := by decide +kernel
theorem bd_132_610 : decode (bn_b 132) 610 = .ok (.goto 4, 3) := by decide +kernel
theorem bd_132_613 : decode (bn_b 132) 613 = .ok (.iconst 0, 1) := by decide +kernel
theorem bd_132_614 : decode (bn_b 132) 614 = .ok (.invokevirtual 92, 3) := by decide +kernel
theorem bd_132_617 : decode (bn_b 132) 617 = .ok (.aload_n 2, 1) := by decide +kernel
theorem bd_132_618 : decode (bn_b 132) 618 = .ok (.aload_n 0, 1) := by decide +kernel
theorem bd_132_619 : decode (bn_b 132) 619 = .ok (.iload_n 3, 1) := by decide +kernel
theorem bd_132_620 : decode (bn_b 132) 620 = .ok (.iconst 1, 1) := by decide +kernel
theorem bd_132_621 : decode (bn_b 132) 621 = .ok (.iadd, 1) := by decide +kernel
theorem bd_132_622 : decode (bn_b 132) 622 = .ok (.iaload, 1) := by decide +kernel
theorem bd_132_623 : decode (bn_b 132) 623 = .ok (.aload_n 0, 1) := by decide +kernel
theorem bd_132_624 : decode (bn_b 132) 624 = .ok (.iload_n 3, 1) := by decide +kernel
theorem bd_132_625 : decode (bn_b 132) 625 = .ok (.iconst 2, 1) := by decide +kernel
theorem bd_132_626 : decode (bn_b 132) 626 = .ok (.iadd, 1) := by decide +kernel
theorem bd_132_627 : decode (bn_b 132) 627 = .ok (.iaload, 1) := by decide +kernel
theorem bd_132_628 : decode (bn_b 132) 628 = .ok (.aload_n 0, 1) := by decide +kernel
theorem bd_132_629 : decode (bn_b 132) 629 = .ok (.iload_n 3, 1) := by decide +kernel
theorem bd_132_630 : decode (bn_b 132) 630 = .ok (.iconst 3, 1) := by decide +kernel
theorem bd_132_631 : decode (bn_b 132) 631 = .ok (.iadd, 1) := by decide +kernel
theorem bd_132_632 : decode (bn_b 132) 632 = .ok (.iaload, 1) := by decide +kernel
theorem bd_132_633 : decode (bn_b 132) 633 = .ok (.aload_n 0, 1) := by decide +kernel
theorem bd_132_634 : decode (bn_b 132) 634 = .ok (.iload_n 3, 1) := by decide +kernel
theorem bd_132_635 : decode (bn_b 132) 635 = .ok (.iconst 4, 1) := by decide +kernel
theorem bd_132_636 : decode (bn_b 132) 636 = .ok (.iadd, 1) := by decide +kernel
theorem bd_132_637 : decode (bn_b 132) 637 = .ok (.iaload, 1) := by decide +kernel
theorem bd_132_638 : decode (bn_b 132) 638 = .ok (.ifCond .eq 7, 3) := by decide +kernel
theorem bd_132_641 : decode (bn_b 132) 641 = .ok (.iconst 1, 1) := by decide +kernel
theorem bd_132_642 : decode (bn_b 132) 642 = .ok (.goto 4, 3) := by decide +kernel
theorem bd_132_645 : decode (bn_b 132) 645 = .ok (.iconst 0, 1) := by decide +kernel
theorem bd_132_646 : decode (bn_b 132) 646 = .ok (.invokevirtual 96, 3) := by decide +kernel
theorem bd_132_649 : decode (bn_b 132) 649 = .ok (.if_icmp .eq 124, 3) := by decide +kernel
theorem bd_132_652 : decode (bn_b 132) 652 = .ok (.iconst 0, 1) := by decide +kernel
theorem bd_132_653 : decode (bn_b 132) 653 = .ok (.ireturn, 1) := by decide +kernel
theorem bd_132_654 : decode (bn_b 132) 654 = .ok (.aload_n 1, 1) := by decide +kernel
theorem bd_132_655 : decode (bn_b 132) 655 = .ok (.aload_n 0, 1) := by decide +kernel
theorem bd_132_656 : decode (bn_b 132) 656 = .ok (.iload_n 3, 1) := by decide +kernel
theorem bd_132_657 : decode (bn_b 132) 657 = .ok (.iconst 1, 1) := by decide +kernel
theorem bd_132_658 : decode (bn_b 132) 658 = .ok (.iadd, 1) := by decide +kernel
theorem bd_132_659 : decode (bn_b 132) 659 = .ok (.iaload, 1) := by decide +kernel
theorem bd_132_660 : decode (bn_b 132) 660 = .ok (.aload_n 0, 1) := by decide +kernel
theorem bd_132_661 : decode (bn_b 132) 661 = .ok (.iload_n 3, 1) := by decide +kernel
theorem bd_132_662 : decode (bn_b 132) 662 = .ok (.iconst 2, 1) := by decide +kernel
theorem bd_132_663 : decode (bn_b 132) 663 = .ok (.iadd, 1) := by decide +kernel
theorem bd_132_664 : decode (bn_b 132) 664 = .ok (.iaload, 1) := by decide +kernel
theorem bd_132_665 : decode (bn_b 132) 665 = .ok (.ifCond .eq 7, 3) := by decide +kernel
theorem bd_132_668 : decode (bn_b 132) 668 = .ok (.iconst 1, 1) := by decide +kernel
theorem bd_132_669 : decode (bn_b 132) 669 = .ok (.goto 4, 3) := by decide +kernel
theorem bd_132_672 : decode (bn_b 132) 672 = .ok (.iconst 0, 1) := by decide +kernel
theorem bd_132_673 : decode (bn_b 132) 673 = .ok (.invokevirtual 97, 3) := by decide +kernel
theorem bd_132_676 : decode (bn_b 132) 676 = .ok (.aload_n 2, 1) := by decide +kernel
theorem bd_132_677 : decode (bn_b 132) 677 = .ok (.aload_n 0, 1) := by decide +kernel
theorem bd_132_678 : decode (bn_b 132) 678 = .ok (.iload_n 3, 1) := by decide +kernel
theorem bd_132_679 : decode (bn_b 132) 679 = .ok (.iconst 1, 1) := by decide +kernel
theorem bd_132_680 : decode (bn_b 132) 680 = .ok (.iadd, 1) := by decide +kernel
theorem bd_132_681 : decode (bn_b 132) 681 = .ok (.iaload, 1) := by decide +kernel
theorem bd_132_682 : decode (bn_b 132) 682 = .ok (.aload_n 0, 1) := by decide +kernel
theorem bd_132_683 : decode (bn_b 132) 683 = .ok (.iload_n 3, 1) := by decide +kernel
theorem bd_132_684 : decode (bn_b 132) 684 = .ok (.iconst 2, 1) := by decide +kernel
theorem bd_132_685 : decode (bn_b 132) 685 = .ok (.iadd, 1) := by decide +kernel
theorem bd_132_686 : decode (bn_b 132) 686 = .ok (.iaload, 1) := by decide +kernel
theorem bd_132_687 : decode (bn_b 132) 687 = .ok (.ifCond .eq 7, 3) := by decide +kernel
theorem bd_132_690 : decode (bn_b 132) 690 = .ok (.iconst 1, 1) := by decide +kernel
theorem bd_132_691 : decode (bn_b 132) 691 = .ok (.goto 4, 3) := by decide +kernel
theorem bd_132_694 : decode (bn_b 132) 694 = .ok (.iconst 0, 1) := by decide +kernel
theorem bd_132_695 : decode (bn_b 132) 695 = .ok (.invokevirtual 101, 3) := by decide +kernel
theorem bd_132_698 : decode (bn_b 132) 698 = .ok (.lcmp, 1) := by decide +kernel
theorem bd_132_699 : decode (bn_b 132) 699 = .ok (.ifCond .eq 74, 3) := by decide +kernel
theorem bd_132_702 : decode (bn_b 132) 702 = .ok (.iconst 0, 1) := by decide +kernel
theorem bd_132_703 : decode (bn_b 132) 703 = .ok (.ireturn, 1) := by decide +kernel
theorem bd_132_704 : decode (bn_b 132) 704 = .ok (.aload_n 1, 1) := by decide +kernel
theorem bd_132_705 : decode (bn_b 132) 705 = .ok (.aload_n 0, 1) := by decide +kernel
theorem bd_132_706 : decode (bn_b 132) 706 = .ok (.iload_n 3, 1) := by decide +kernel
theorem bd_132_707 : decode (bn_b 132) 707 = .ok (.iconst 1, 1) := by decide +kernel
theorem bd_132_708 : decode (bn_b 132) 708 = .ok (.iadd, 1) := by decide +kernel
theorem bd_132_709 : decode (bn_b 132) 709 = .ok (.iaload, 1) := by decide +kernel
theorem bd_132_710 : decode (bn_b 132) 710 = .ok (.invokevirtual 102, 3) := by decide +kernel
theorem bd_132_713 : decode (bn_b 132) 713 = .ok (.aload_n 2, 1) := by decide +kernel
theorem bd_132_714 : decode (bn_b 132) 714 = .ok (.aload_n 0, 1) := by decide +kernel
theorem bd_132_715 : decode (bn_b 132) 715 = .ok (.iload_n 3, 1) := by decide +kernel
theorem bd_132_716 : decode (bn_b 132) 716 = .ok (.iconst 1, 1) := by decide +kernel
theorem bd_132_717 : decode (bn_b 132) 717 = .ok (.iadd, 1) := by decide +kernel
theorem bd_132_718 : decode (bn_b 132) 718 = .ok (.iaload, 1) := by decide +kernel
theorem bd_132_719 : decode (bn_b 132) 719 = .ok (.invokevirtual 105, 3) := by decide +kernel
theorem bd_132_722 : decode (bn_b 132) 722 = .ok (.if_icmp .eq 51, 3) := by decide +kernel
theorem bd_132_725 : decode (bn_b 132) 725 = .ok (.iconst 0, 1) := by decide +kernel
theorem bd_132_726 : decode (bn_b 132) 726 = .ok (.ireturn, 1) := by decide +kernel
theorem bd_132_727 : decode (bn_b 132) 727 = .ok (.aload_n 1, 1) := by decide +kernel
theorem bd_132_728 : decode (bn_b 132) 728 = .ok (.aload_n 0, 1) := by decide +kernel
theorem bd_132_729 : decode (bn_b 132) 729 = .ok (.iload_n 3, 1) := by decide +kernel
theorem bd_132_730 : decode (bn_b 132) 730 = .ok (.iconst 1, 1) := by decide +kernel
theorem bd_132_731 : decode (bn_b 132) 731 = .ok (.iadd, 1) := by decide +kernel
theorem bd_132_732 : decode (bn_b 132) 732 = .ok (.iaload, 1) := by decide +kernel
theorem bd_132_733 : decode (bn_b 132) 733 = .ok (.invokevirtual 106, 3) := by decide +kernel
theorem bd_132_736 : decode (bn_b 132) 736 = .ok (.aload_n 2, 1) := by decide +kernel
theorem bd_132_737 : decode (bn_b 132) 737 = .ok (.aload_n 0, 1) := by decide +kernel
theorem bd_132_738 : decode (bn_b 132) 738 = .ok (.iload_n 3, 1) := by decide +kernel
theorem bd_132_739 : decode (bn_b 132) 739 = .ok (.iconst 1, 1) := by decide +kernel
theorem bd_132_740 : decode (bn_b 132) 740 = .ok (.iadd, 1) := by decide +kernel
theorem bd_132_741 : decode (bn_b 132) 741 = .ok (.iaload, 1) := by decide +kernel
theorem bd_132_742 : decode (bn_b 132) 742 = .ok (.invokevirtual 109, 3) := by decide +kernel
theorem bd_132_745 : decode (bn_b 132) 745 = .ok (.if_icmp .eq 28, 3) := by decide +kernel
theorem bd_132_748 : decode (bn_b 132) 748 = .ok (.iconst 0, 1) := by decide +kernel
theorem bd_132_749 : decode (bn_b 132) 749 = .ok (.ireturn, 1) := by decide +kernel
theorem bd_132_750 : decode (bn_b 132) 750 = .ok (.aload_n 1, 1) := by decide +kernel
theorem bd_132_751 : decode (bn_b 132) 751 = .ok (.aload_n 0, 1) := by decide +kernel
theorem bd_132_752 : decode (bn_b 132) 752 = .ok (.iload_n 3, 1) := by decide +kernel
theorem bd_132_753 : decode (bn_b 132) 753 = .ok (.iconst 1, 1) := by decide +kernel
theorem bd_132_754 : decode (bn_b 132) 754 = .ok (.iadd, 1) := by decide +kernel
theorem bd_132_755 : decode (bn_b 132) 755 = .ok (.iaload, 1) := by decide +kernel
theorem bd_132_756 : decode (bn_b 132) 756 = .ok (.invokevirtual 110, 3) := by decide +kernel
theorem bd_132_759 : decode (bn_b 132) 759 = .ok (.aload_n 2, 1) := by decide +kernel
theorem bd_132_760 : decode (bn_b 132) 760 = .ok (.aload_n 0, 1) := by decide +kernel
theorem bd_132_761 : decode (bn_b 132) 761 = .ok (.iload_n 3, 1) := by decide +kernel
theorem bd_132_762 : decode (bn_b 132) 762 = .ok (.iconst 1, 1) := by decide +kernel
theorem bd_132_763 : decode (bn_b 132) 763 = .ok (.iadd, 1) := by decide +kernel
theorem bd_132_764 : decode (bn_b 132) 764 = .ok (.iaload, 1) := by decide +kernel
theorem bd_132_765 : decode (bn_b 132) 765 = .ok (.invokevirtual 113, 3) := by decide +kernel
theorem bd_132_768 : decode (bn_b 132) 768 = .ok (.if_icmp .eq 5, 3) := by decide +kernel
theorem bd_132_771 : decode (bn_b 132) 771 = .ok (.iconst 0, 1) := by decide +kernel
theorem bd_132_772 : decode (bn_b 132) 772 = .ok (.ireturn, 1) := by decide +kernel
theorem bd_132_773 : decode (bn_b 132) 773 = .ok (.iinc 3 5, 3) := by decide +kernel
theorem bd_132_776 : decode (bn_b 132) 776 = .ok (.goto (-758), 3) := by decide +kernel
theorem bd_132_779 : decode (bn_b 132) 779 = .ok (.iconst 1, 1) := by decide +kernel
theorem bd_132_780 : decode (bn_b 132) 780 = .ok (.ireturn, 1) := by decide +kernel
end
section
/-! THE WALK, AN INSTRUCTION A ROW -/
def bn_gI (h : bn_H) (p ci k : Nat) (K : Int32 → bn_R) : bn_R := match bn_gf h p ci k with
  | some (.int x) => K x
  | _ => none
def bn_gJ (h : bn_H) (p ci k : Nat) (K : Int64 → bn_R) : bn_R := match bn_gf h p ci k with
  | some (.long x) => K x
  | _ => none
def bn_gR (h : bn_H) (p ci k : Nat) (K : Nat → bn_R) : bn_R := match bn_gf h p ci k with
  | some (.ref x) => K x
  | _ => none
def bn_cI (x : bn_R) (K : Int32 → bn_H → bn_R) : bn_R := match x with
  | some (some (.int v), h) => K v h
  | _ => none
def bn_cJ (x : bn_R) (K : Int64 → bn_H → bn_R) : bn_R := match x with
  | some (some (.long v), h) => K v h
  | _ => none
def bn_cV (x : bn_R) (K : bn_H → bn_R) : bn_R := match x with
  | some (none, h) => K h
  | _ => none
def bn_gd (c : Bool) (X : bn_R) : bn_R := if c = true then X else none
theorem bn_ev_x {mi pc len : Nat} {i : Instr} {ls : bn_L} {st : List Value} {h : bn_H} (hd : decode (bn_b mi) pc = .ok (i, len)) (hL : len = bn_ln i len) (hr : bn_rt mi i st = none) (hk : bn_k mi i st h = none) : bn_ev mi pc ls st h = (bn_x mi i pc ls st h).bind fun a => bn_ev mi a.1 a.2.1 a.2.2.1 a.2.2.2 := by
  rw [bn_ev_eq]
  unfold bn_F
  rw [hd]
  dsimp only
  rw [if_pos hL, hr, hk]
theorem bn_ev_r {mi pc len : Nat} {i : Instr} {ls : bn_L} {st : List Value} {h : bn_H} {r : Option Value} (hd : decode (bn_b mi) pc = .ok (i, len)) (hL : len = bn_ln i len) (hr : bn_rt mi i st = some r) : bn_ev mi pc ls st h = some (r, h) := by
  rw [bn_ev_eq]
  unfold bn_F
  rw [hd]
  dsimp only
  rw [if_pos hL, hr]
theorem bn_ev_k {mi pc len mj : Nat} {i : Instr} {ls : bn_L} {st as rr : List Value} {h : bn_H} (hd : decode (bn_b mi) pc = .ok (i, len)) (hL : len = bn_ln i len) (hr : bn_rt mi i st = none) (hk : bn_k mi i st h = some (mj, as, rr)) : bn_ev mi pc ls st h = (bn_ev mj 0 (bn_en mj as) [] h).bind fun a => if bn_okr (bn_r mj) a.1 = true then bn_ev mi (pc + 3) ls (a.1.toList ++ rr) a.2 else none := by
  rw [bn_ev_eq]
  unfold bn_F
  rw [hd]
  dsimp only
  rw [if_pos hL, hr, hk]
theorem bn_cI_k {x : bn_R} {t : Option FieldType} (ht : t = some .int ∨ t = some .boolean) {F : Option Value × bn_H → bn_R} {K : Int32 → bn_H → bn_R} (hF : ∀ v h, F (some (.int v), h) = K v h) : (x.bind fun a => if bn_okr t a.1 = true then F a else none) = bn_cI x K := by
  cases x with
  | none => rfl
  | some a =>
    obtain ⟨r, h⟩ := a
    show (if bn_okr t r = true then F (r, h) else none) = _
    rcases ht with rfl | rfl
    · cases r with
      | none => rfl
      | some v => cases v <;> first | exact hF _ _ | rfl
    · cases r with
      | none => rfl
      | some v => cases v <;> first | exact hF _ _ | rfl
theorem bn_cJ_k {x : bn_R} {F : Option Value × bn_H → bn_R} {K : Int64 → bn_H → bn_R} (hF : ∀ v h, F (some (.long v), h) = K v h) : (x.bind fun a => if bn_okr (some .long) a.1 = true then F a else none) = bn_cJ x K := by
  cases x with
  | none => rfl
  | some a =>
    obtain ⟨r, h⟩ := a
    show (if bn_okr (some .long) r = true then F (r, h) else none) = _
    cases r with
    | none => rfl
    | some v => cases v <;> first | exact hF _ _ | rfl
theorem bn_cV_k {x : bn_R} {F : Option Value × bn_H → bn_R} {K : bn_H → bn_R} (hF : ∀ h, F (none, h) = K h) : (x.bind fun a => if bn_okr none a.1 = true then F a else none) = bn_cV x K := by
  cases x with
  | none => rfl
  | some a =>
    obtain ⟨r, h⟩ := a
    show (if bn_okr none r = true then F (r, h) else none) = _
    cases r with
    | none => exact hF _
    | some v => cases v <;> rfl
section ES
variable {mi pc : Nat} {ls : bn_L} {st : List Value} {h : bn_H}
theorem be_iconst {n : Int} {v : Int32} (hd : decode (bn_b mi) pc = .ok (.iconst n, 1)) (hv : Int32.ofInt n = v) : bn_ev mi pc ls (st) h = bn_ev mi (pc + 1) ls (.int v :: st) h := by
  rw [bn_ev_x hd rfl rfl rfl]
  subst hv; rfl
theorem be_bipush {n : Int} {v : Int32} (hd : decode (bn_b mi) pc = .ok (.bipush n, 2)) (hv : (Int8.ofInt n).toInt32 = v) : bn_ev mi pc ls (st) h = bn_ev mi (pc + 2) ls (.int v :: st) h := by
  rw [bn_ev_x hd rfl rfl rfl]
  subst hv; rfl
theorem be_sipush {n : Int} {v : Int32} (hd : decode (bn_b mi) pc = .ok (.sipush n, 3)) (hv : (Int16.ofInt n).toInt32 = v) : bn_ev mi pc ls (st) h = bn_ev mi (pc + 3) ls (.int v :: st) h := by
  rw [bn_ev_x hd rfl rfl rfl]
  subst hv; rfl
theorem be_lconst {n : Fin 2} {v : Int64} (hd : decode (bn_b mi) pc = .ok (.lconst n, 1)) (hv : Int64.ofNat (n : Nat) = v) : bn_ev mi pc ls (st) h = bn_ev mi (pc + 1) ls (.long v :: st) h := by
  rw [bn_ev_x hd rfl rfl rfl]
  subst hv; rfl
theorem be_ldcw {k : Nat} {v : Int32} (hd : decode (bn_b mi) pc = .ok (.ldc_w k, 3)) (hv : bn_ki (bn_c mi) k = some v) : bn_ev mi pc ls (st) h = bn_ev mi (pc + 3) ls (.int v :: st) h := by
  rw [bn_ev_x hd rfl rfl rfl]
  simp only [bn_x]; rw [hv]; rfl
theorem be_ldc2w {k : Nat} {v : Int64} (hd : decode (bn_b mi) pc = .ok (.ldc2_w k, 3)) (hv : bn_kl (bn_c mi) k = some v) : bn_ev mi pc ls (st) h = bn_ev mi (pc + 3) ls (.long v :: st) h := by
  rw [bn_ev_x hd rfl rfl rfl]
  simp only [bn_x]; rw [hv]; rfl
theorem be_iload_n {k : Fin 4} {x : Int32} (hd : decode (bn_b mi) pc = .ok (.iload_n k, 1)) (hx : bn_get ls k = some (.int x)) : bn_ev mi pc ls (st) h = bn_ev mi (pc + 1) ls (.int x :: st) h := by
  rw [bn_ev_x hd rfl rfl rfl]
  simp only [bn_x, bn_i1]; rw [hx]; rfl
theorem be_iload {k : Nat} {x : Int32} (hd : decode (bn_b mi) pc = .ok (.iload k, 2)) (hx : bn_get ls k = some (.int x)) : bn_ev mi pc ls (st) h = bn_ev mi (pc + 2) ls (.int x :: st) h := by
  rw [bn_ev_x hd rfl rfl rfl]
  simp only [bn_x, bn_i1]; rw [hx]; rfl
theorem be_lload_n {k : Fin 4} {x : Int64} (hd : decode (bn_b mi) pc = .ok (.lload_n k, 1)) (hx : bn_get ls k = some (.long x)) : bn_ev mi pc ls (st) h = bn_ev mi (pc + 1) ls (.long x :: st) h := by
  rw [bn_ev_x hd rfl rfl rfl]
  simp only [bn_x, bn_l1]; rw [hx]; rfl
theorem be_lload {k : Nat} {x : Int64} (hd : decode (bn_b mi) pc = .ok (.lload k, 2)) (hx : bn_get ls k = some (.long x)) : bn_ev mi pc ls (st) h = bn_ev mi (pc + 2) ls (.long x :: st) h := by
  rw [bn_ev_x hd rfl rfl rfl]
  simp only [bn_x, bn_l1]; rw [hx]; rfl
theorem be_aload_n {k : Fin 4} {x : Nat} (hd : decode (bn_b mi) pc = .ok (.aload_n k, 1)) (hx : bn_get ls k = some (.ref x)) : bn_ev mi pc ls (st) h = bn_ev mi (pc + 1) ls (.ref x :: st) h := by
  rw [bn_ev_x hd rfl rfl rfl]
  simp only [bn_x, bn_a1]; rw [hx]; rfl
theorem be_aload {k : Nat} {x : Nat} (hd : decode (bn_b mi) pc = .ok (.aload k, 2)) (hx : bn_get ls k = some (.ref x)) : bn_ev mi pc ls (st) h = bn_ev mi (pc + 2) ls (.ref x :: st) h := by
  rw [bn_ev_x hd rfl rfl rfl]
  simp only [bn_x, bn_a1]; rw [hx]; rfl
theorem be_sload_n {k : Fin 4} {x : Nat} (hd : decode (bn_b mi) pc = .ok (.aload_n k, 1)) (hx : bn_get ls k = some (.retAddr x)) : bn_ev mi pc ls (st) h = bn_ev mi (pc + 1) ls (.retAddr x :: st) h := by
  rw [bn_ev_x hd rfl rfl rfl]
  simp only [bn_x, bn_a1]; rw [hx]; rfl
theorem be_istore_n {k : Fin 4} {x : Int32} {ls' : bn_L} (hd : decode (bn_b mi) pc = .ok (.istore_n k, 1)) (hk : (k : Nat) < bn_m mi) (hl : bn_st1 ls k (.int x) = ls') : bn_ev mi pc ls (.int x :: st) h = bn_ev mi (pc + 1) ls' st h := by
  rw [bn_ev_x hd rfl rfl rfl]
  subst hl; simp only [bn_x, bn_iso]; rw [if_pos hk]; rfl
theorem be_istore {k : Nat} {x : Int32} {ls' : bn_L} (hd : decode (bn_b mi) pc = .ok (.istore k, 2)) (hk : k < bn_m mi) (hl : bn_st1 ls k (.int x) = ls') : bn_ev mi pc ls (.int x :: st) h = bn_ev mi (pc + 2) ls' st h := by
  rw [bn_ev_x hd rfl rfl rfl]
  subst hl; simp only [bn_x, bn_iso]; rw [if_pos hk]; rfl
theorem be_lstore_n {k : Fin 4} {x : Int64} {ls' : bn_L} (hd : decode (bn_b mi) pc = .ok (.lstore_n k, 1)) (hk : (k : Nat) + 1 < bn_m mi) (hl : bn_st2 ls k (.long x) = ls') : bn_ev mi pc ls (.long x :: st) h = bn_ev mi (pc + 1) ls' st h := by
  rw [bn_ev_x hd rfl rfl rfl]
  subst hl; simp only [bn_x, bn_lst]; rw [if_pos hk]; rfl
theorem be_lstore {k : Nat} {x : Int64} {ls' : bn_L} (hd : decode (bn_b mi) pc = .ok (.lstore k, 2)) (hk : k + 1 < bn_m mi) (hl : bn_st2 ls k (.long x) = ls') : bn_ev mi pc ls (.long x :: st) h = bn_ev mi (pc + 2) ls' st h := by
  rw [bn_ev_x hd rfl rfl rfl]
  subst hl; simp only [bn_x, bn_lst]; rw [if_pos hk]; rfl
theorem be_astore_n {k : Fin 4} {x : Nat} {ls' : bn_L} (hd : decode (bn_b mi) pc = .ok (.astore_n k, 1)) (hk : (k : Nat) < bn_m mi) (hl : bn_st1 ls k (.ref x) = ls') : bn_ev mi pc ls (.ref x :: st) h = bn_ev mi (pc + 1) ls' st h := by
  rw [bn_ev_x hd rfl rfl rfl]
  subst hl; simp only [bn_x, bn_as]; rw [if_pos hk]; rfl
theorem be_astore {k : Nat} {x : Nat} {ls' : bn_L} (hd : decode (bn_b mi) pc = .ok (.astore k, 2)) (hk : k < bn_m mi) (hl : bn_st1 ls k (.ref x) = ls') : bn_ev mi pc ls (.ref x :: st) h = bn_ev mi (pc + 2) ls' st h := by
  rw [bn_ev_x hd rfl rfl rfl]
  subst hl; simp only [bn_x, bn_as]; rw [if_pos hk]; rfl
theorem be_iinc {k : Nat} {n : Int} {x v : Int32} {ls' : bn_L} (hd : decode (bn_b mi) pc = .ok (.iinc k n, 3)) (hx : bn_get ls k = some (.int x)) (hv : Int32.ofInt n = v) (hk : k < bn_m mi) (hl : bn_st1 ls k (.int (x + v)) = ls') : bn_ev mi pc ls (st) h = bn_ev mi (pc + 3) ls' st h := by
  rw [bn_ev_x hd rfl rfl rfl]
  subst hl; subst hv; simp only [bn_x]; rw [hx]; dsimp only; rw [if_pos hk]; rfl
theorem be_iadd {x y : Int32} (hd : decode (bn_b mi) pc = .ok (.iadd, 1))  : bn_ev mi pc ls (.int y :: .int x :: st) h = bn_ev mi (pc + 1) ls (.int (x + y) :: st) h := by
  rw [bn_ev_x hd rfl rfl rfl]
  rfl
theorem be_isub {x y : Int32} (hd : decode (bn_b mi) pc = .ok (.isub, 1))  : bn_ev mi pc ls (.int y :: .int x :: st) h = bn_ev mi (pc + 1) ls (.int (x - y) :: st) h := by
  rw [bn_ev_x hd rfl rfl rfl]
  rfl
theorem be_imul {x y : Int32} (hd : decode (bn_b mi) pc = .ok (.imul, 1))  : bn_ev mi pc ls (.int y :: .int x :: st) h = bn_ev mi (pc + 1) ls (.int (x * y) :: st) h := by
  rw [bn_ev_x hd rfl rfl rfl]
  rfl
theorem be_iand {x y : Int32} (hd : decode (bn_b mi) pc = .ok (.iand, 1))  : bn_ev mi pc ls (.int y :: .int x :: st) h = bn_ev mi (pc + 1) ls (.int (x &&& y) :: st) h := by
  rw [bn_ev_x hd rfl rfl rfl]
  rfl
theorem be_ior {x y : Int32} (hd : decode (bn_b mi) pc = .ok (.ior, 1))  : bn_ev mi pc ls (.int y :: .int x :: st) h = bn_ev mi (pc + 1) ls (.int (x ||| y) :: st) h := by
  rw [bn_ev_x hd rfl rfl rfl]
  rfl
theorem be_ixor {x y : Int32} (hd : decode (bn_b mi) pc = .ok (.ixor, 1))  : bn_ev mi pc ls (.int y :: .int x :: st) h = bn_ev mi (pc + 1) ls (.int (x ^^^ y) :: st) h := by
  rw [bn_ev_x hd rfl rfl rfl]
  rfl
theorem be_ishl {x y : Int32} (hd : decode (bn_b mi) pc = .ok (.ishl, 1))  : bn_ev mi pc ls (.int y :: .int x :: st) h = bn_ev mi (pc + 1) ls (.int (bn_shl x y) :: st) h := by
  rw [bn_ev_x hd rfl rfl rfl]
  rfl
theorem be_ishr {x y : Int32} (hd : decode (bn_b mi) pc = .ok (.ishr, 1))  : bn_ev mi pc ls (.int y :: .int x :: st) h = bn_ev mi (pc + 1) ls (.int (bn_shr x y) :: st) h := by
  rw [bn_ev_x hd rfl rfl rfl]
  rfl
theorem be_iushr {x y : Int32} (hd : decode (bn_b mi) pc = .ok (.iushr, 1))  : bn_ev mi pc ls (.int y :: .int x :: st) h = bn_ev mi (pc + 1) ls (.int (bn_ushr x y) :: st) h := by
  rw [bn_ev_x hd rfl rfl rfl]
  rfl
theorem be_ladd {x y : Int64} (hd : decode (bn_b mi) pc = .ok (.ladd, 1))  : bn_ev mi pc ls (.long y :: .long x :: st) h = bn_ev mi (pc + 1) ls (.long (x + y) :: st) h := by
  rw [bn_ev_x hd rfl rfl rfl]
  rfl
theorem be_lsub {x y : Int64} (hd : decode (bn_b mi) pc = .ok (.lsub, 1))  : bn_ev mi pc ls (.long y :: .long x :: st) h = bn_ev mi (pc + 1) ls (.long (x - y) :: st) h := by
  rw [bn_ev_x hd rfl rfl rfl]
  rfl
theorem be_lmul {x y : Int64} (hd : decode (bn_b mi) pc = .ok (.lmul, 1))  : bn_ev mi pc ls (.long y :: .long x :: st) h = bn_ev mi (pc + 1) ls (.long (x * y) :: st) h := by
  rw [bn_ev_x hd rfl rfl rfl]
  rfl
theorem be_land {x y : Int64} (hd : decode (bn_b mi) pc = .ok (.land, 1))  : bn_ev mi pc ls (.long y :: .long x :: st) h = bn_ev mi (pc + 1) ls (.long (x &&& y) :: st) h := by
  rw [bn_ev_x hd rfl rfl rfl]
  rfl
theorem be_lor {x y : Int64} (hd : decode (bn_b mi) pc = .ok (.lor, 1))  : bn_ev mi pc ls (.long y :: .long x :: st) h = bn_ev mi (pc + 1) ls (.long (x ||| y) :: st) h := by
  rw [bn_ev_x hd rfl rfl rfl]
  rfl
theorem be_lushr {x : Int64} {y : Int32} (hd : decode (bn_b mi) pc = .ok (.lushr, 1))  : bn_ev mi pc ls (.int y :: .long x :: st) h = bn_ev mi (pc + 1) ls (.long (bn_lushr x y) :: st) h := by
  rw [bn_ev_x hd rfl rfl rfl]
  rfl
theorem be_lshl {x : Int64} {y : Int32} (hd : decode (bn_b mi) pc = .ok (.lshl, 1))  : bn_ev mi pc ls (.int y :: .long x :: st) h = bn_ev mi (pc + 1) ls (.long (bn_lshl x y) :: st) h := by
  rw [bn_ev_x hd rfl rfl rfl]
  rfl
theorem be_lshr {x : Int64} {y : Int32} (hd : decode (bn_b mi) pc = .ok (.lshr, 1))  : bn_ev mi pc ls (.int y :: .long x :: st) h = bn_ev mi (pc + 1) ls (.long (bn_lshr x y) :: st) h := by
  rw [bn_ev_x hd rfl rfl rfl]
  rfl
theorem be_idiv {x y : Int32} (hd : decode (bn_b mi) pc = .ok (.idiv, 1))  : bn_ev mi pc ls (.int y :: .int x :: st) h = if y = 0 then none else bn_ev mi (pc + 1) ls (.int (x / y) :: st) h := by
  rw [bn_ev_x hd rfl rfl rfl]
  simp only [bn_x, bn_idv]; split <;> rfl
theorem be_irem {x y : Int32} (hd : decode (bn_b mi) pc = .ok (.irem, 1))  : bn_ev mi pc ls (.int y :: .int x :: st) h = if y = 0 then none else bn_ev mi (pc + 1) ls (.int (bn_rem x y) :: st) h := by
  rw [bn_ev_x hd rfl rfl rfl]
  simp only [bn_x, bn_idv]; split <;> rfl
theorem be_ldiv {x y : Int64} (hd : decode (bn_b mi) pc = .ok (.ldiv, 1))  : bn_ev mi pc ls (.long y :: .long x :: st) h = if y = 0 then none else bn_ev mi (pc + 1) ls (.long (x / y) :: st) h := by
  rw [bn_ev_x hd rfl rfl rfl]
  simp only [bn_x, bn_ldv]; split <;> rfl
theorem be_lrem {x y : Int64} (hd : decode (bn_b mi) pc = .ok (.lrem, 1))  : bn_ev mi pc ls (.long y :: .long x :: st) h = if y = 0 then none else bn_ev mi (pc + 1) ls (.long (bn_lrem x y) :: st) h := by
  rw [bn_ev_x hd rfl rfl rfl]
  simp only [bn_x, bn_ldv]; split <;> rfl
theorem be_idiv_c {x y : Int32} (hd : decode (bn_b mi) pc = .ok (.idiv, 1)) (hy : ¬ y = 0) : bn_ev mi pc ls (.int y :: .int x :: st) h = bn_ev mi (pc + 1) ls (.int (x / y) :: st) h := by
  rw [bn_ev_x hd rfl rfl rfl]
  simp only [bn_x, bn_idv]; rw [if_neg hy]; rfl
theorem be_irem_c {x y : Int32} (hd : decode (bn_b mi) pc = .ok (.irem, 1)) (hy : ¬ y = 0) : bn_ev mi pc ls (.int y :: .int x :: st) h = bn_ev mi (pc + 1) ls (.int (bn_rem x y) :: st) h := by
  rw [bn_ev_x hd rfl rfl rfl]
  simp only [bn_x, bn_idv]; rw [if_neg hy]; rfl
theorem be_i2l {x : Int32} (hd : decode (bn_b mi) pc = .ok (.i2l, 1))  : bn_ev mi pc ls (.int x :: st) h = bn_ev mi (pc + 1) ls (.long x.toInt64 :: st) h := by
  rw [bn_ev_x hd rfl rfl rfl]
  rfl
theorem be_l2i {x : Int64} (hd : decode (bn_b mi) pc = .ok (.l2i, 1))  : bn_ev mi pc ls (.long x :: st) h = bn_ev mi (pc + 1) ls (.int x.toInt32 :: st) h := by
  rw [bn_ev_x hd rfl rfl rfl]
  rfl
theorem be_lcmp {x y : Int64} (hd : decode (bn_b mi) pc = .ok (.lcmp, 1))  : bn_ev mi pc ls (.long y :: .long x :: st) h = bn_ev mi (pc + 1) ls (.int (lg_cmp x y) :: st) h := by
  rw [bn_ev_x hd rfl rfl rfl]
  rfl
theorem be_dup {v : Value} (hd : decode (bn_b mi) pc = .ok (.dup, 1)) (hv : v.category = 1) : bn_ev mi pc ls (v :: st) h = bn_ev mi (pc + 1) ls (v :: v :: st) h := by
  rw [bn_ev_x hd rfl rfl rfl]
  simp only [bn_x]; rw [if_pos hv]; rfl
theorem be_dup2 {v w : Value} (hd : decode (bn_b mi) pc = .ok (.dup2, 1)) (hv : v.category = 1 ∧ w.category = 1) : bn_ev mi pc ls (v :: w :: st) h = bn_ev mi (pc + 1) ls (v :: w :: v :: w :: st) h := by
  rw [bn_ev_x hd rfl rfl rfl]
  simp only [bn_x]; rw [if_pos hv]; rfl
theorem be_pop {v : Value} (hd : decode (bn_b mi) pc = .ok (.pop, 1)) (hv : v.category = 1) : bn_ev mi pc ls (v :: st) h = bn_ev mi (pc + 1) ls st h := by
  rw [bn_ev_x hd rfl rfl rfl]
  simp only [bn_x]; rw [if_pos hv]; rfl
theorem be_goto {off : Int} {t : Nat} (hd : decode (bn_b mi) pc = .ok (.goto off, 3)) (ht : bn_tg pc off = some t) : bn_ev mi pc ls (st) h = bn_ev mi t ls st h := by
  rw [bn_ev_x hd rfl rfl rfl]
  simp only [bn_x]; rw [ht]; rfl
theorem be_icmp_eq {off : Int} {t : Nat} {x y : Int32} (hd : decode (bn_b mi) pc = .ok (.if_icmp .eq off, 3)) (ht : bn_tg pc off = some t) : bn_ev mi pc ls (.int y :: .int x :: st) h = if x = y then bn_ev mi t ls st h else bn_ev mi (pc + 3) ls st h := by
  rw [bn_ev_x hd rfl rfl rfl]
  simp only [bn_x, bn_cm]; rw [ht]; simp only [Option.map_some, Option.bind_some, decide_eq_true_eq, Bool.not_eq_true', decide_eq_false_iff_not]; split <;> simp_all
theorem be_if_eq {off : Int} {t : Nat} {x : Int32} (hd : decode (bn_b mi) pc = .ok (.ifCond .eq off, 3)) (ht : bn_tg pc off = some t) : bn_ev mi pc ls (.int x :: st) h = if x = 0 then bn_ev mi t ls st h else bn_ev mi (pc + 3) ls st h := by
  rw [bn_ev_x hd rfl rfl rfl]
  simp only [bn_x, bn_cm]; rw [ht]; simp only [Option.map_some, Option.bind_some, decide_eq_true_eq, Bool.not_eq_true', decide_eq_false_iff_not]; split <;> simp_all
theorem be_icmp_ne {off : Int} {t : Nat} {x y : Int32} (hd : decode (bn_b mi) pc = .ok (.if_icmp .ne off, 3)) (ht : bn_tg pc off = some t) : bn_ev mi pc ls (.int y :: .int x :: st) h = if x = y then bn_ev mi (pc + 3) ls st h else bn_ev mi t ls st h := by
  rw [bn_ev_x hd rfl rfl rfl]
  simp only [bn_x, bn_cm]; rw [ht]; simp only [Option.map_some, Option.bind_some, decide_eq_true_eq, Bool.not_eq_true', decide_eq_false_iff_not]; split <;> simp_all
theorem be_if_ne {off : Int} {t : Nat} {x : Int32} (hd : decode (bn_b mi) pc = .ok (.ifCond .ne off, 3)) (ht : bn_tg pc off = some t) : bn_ev mi pc ls (.int x :: st) h = if x = 0 then bn_ev mi (pc + 3) ls st h else bn_ev mi t ls st h := by
  rw [bn_ev_x hd rfl rfl rfl]
  simp only [bn_x, bn_cm]; rw [ht]; simp only [Option.map_some, Option.bind_some, decide_eq_true_eq, Bool.not_eq_true', decide_eq_false_iff_not]; split <;> simp_all
theorem be_icmp_lt {off : Int} {t : Nat} {x y : Int32} (hd : decode (bn_b mi) pc = .ok (.if_icmp .lt off, 3)) (ht : bn_tg pc off = some t) : bn_ev mi pc ls (.int y :: .int x :: st) h = if x < y then bn_ev mi t ls st h else bn_ev mi (pc + 3) ls st h := by
  rw [bn_ev_x hd rfl rfl rfl]
  simp only [bn_x, bn_cm]; rw [ht]; simp only [Option.map_some, Option.bind_some, decide_eq_true_eq, Bool.not_eq_true', decide_eq_false_iff_not]; split <;> simp_all
theorem be_if_lt {off : Int} {t : Nat} {x : Int32} (hd : decode (bn_b mi) pc = .ok (.ifCond .lt off, 3)) (ht : bn_tg pc off = some t) : bn_ev mi pc ls (.int x :: st) h = if x < 0 then bn_ev mi t ls st h else bn_ev mi (pc + 3) ls st h := by
  rw [bn_ev_x hd rfl rfl rfl]
  simp only [bn_x, bn_cm]; rw [ht]; simp only [Option.map_some, Option.bind_some, decide_eq_true_eq, Bool.not_eq_true', decide_eq_false_iff_not]; split <;> simp_all
theorem be_icmp_ge {off : Int} {t : Nat} {x y : Int32} (hd : decode (bn_b mi) pc = .ok (.if_icmp .ge off, 3)) (ht : bn_tg pc off = some t) : bn_ev mi pc ls (.int y :: .int x :: st) h = if y ≤ x then bn_ev mi t ls st h else bn_ev mi (pc + 3) ls st h := by
  rw [bn_ev_x hd rfl rfl rfl]
  simp only [bn_x, bn_cm]; rw [ht]; simp only [Option.map_some, Option.bind_some, decide_eq_true_eq, Bool.not_eq_true', decide_eq_false_iff_not]; split <;> simp_all
theorem be_if_ge {off : Int} {t : Nat} {x : Int32} (hd : decode (bn_b mi) pc = .ok (.ifCond .ge off, 3)) (ht : bn_tg pc off = some t) : bn_ev mi pc ls (.int x :: st) h = if 0 ≤ x then bn_ev mi t ls st h else bn_ev mi (pc + 3) ls st h := by
  rw [bn_ev_x hd rfl rfl rfl]
  simp only [bn_x, bn_cm]; rw [ht]; simp only [Option.map_some, Option.bind_some, decide_eq_true_eq, Bool.not_eq_true', decide_eq_false_iff_not]; split <;> simp_all
theorem be_icmp_gt {off : Int} {t : Nat} {x y : Int32} (hd : decode (bn_b mi) pc = .ok (.if_icmp .gt off, 3)) (ht : bn_tg pc off = some t) : bn_ev mi pc ls (.int y :: .int x :: st) h = if y < x then bn_ev mi t ls st h else bn_ev mi (pc + 3) ls st h := by
  rw [bn_ev_x hd rfl rfl rfl]
  simp only [bn_x, bn_cm]; rw [ht]; simp only [Option.map_some, Option.bind_some, decide_eq_true_eq, Bool.not_eq_true', decide_eq_false_iff_not]; split <;> simp_all
theorem be_if_gt {off : Int} {t : Nat} {x : Int32} (hd : decode (bn_b mi) pc = .ok (.ifCond .gt off, 3)) (ht : bn_tg pc off = some t) : bn_ev mi pc ls (.int x :: st) h = if 0 < x then bn_ev mi t ls st h else bn_ev mi (pc + 3) ls st h := by
  rw [bn_ev_x hd rfl rfl rfl]
  simp only [bn_x, bn_cm]; rw [ht]; simp only [Option.map_some, Option.bind_some, decide_eq_true_eq, Bool.not_eq_true', decide_eq_false_iff_not]; split <;> simp_all
theorem be_icmp_le {off : Int} {t : Nat} {x y : Int32} (hd : decode (bn_b mi) pc = .ok (.if_icmp .le off, 3)) (ht : bn_tg pc off = some t) : bn_ev mi pc ls (.int y :: .int x :: st) h = if x ≤ y then bn_ev mi t ls st h else bn_ev mi (pc + 3) ls st h := by
  rw [bn_ev_x hd rfl rfl rfl]
  simp only [bn_x, bn_cm]; rw [ht]; simp only [Option.map_some, Option.bind_some, decide_eq_true_eq, Bool.not_eq_true', decide_eq_false_iff_not]; split <;> simp_all
theorem be_if_le {off : Int} {t : Nat} {x : Int32} (hd : decode (bn_b mi) pc = .ok (.ifCond .le off, 3)) (ht : bn_tg pc off = some t) : bn_ev mi pc ls (.int x :: st) h = if x ≤ 0 then bn_ev mi t ls st h else bn_ev mi (pc + 3) ls st h := by
  rw [bn_ev_x hd rfl rfl rfl]
  simp only [bn_x, bn_cm]; rw [ht]; simp only [Option.map_some, Option.bind_some, decide_eq_true_eq, Bool.not_eq_true', decide_eq_false_iff_not]; split <;> simp_all
theorem be_getI {k p ci j : Nat} (hd : decode (bn_b mi) pc = .ok (.getfield k, 3)) (hf : bn_fl (bn_c mi) k = some (ci, j)) (hty : bn_ty ci j = .int) : bn_ev mi pc ls (.ref p :: st) h = bn_gI h p ci j (fun x => bn_ev mi (pc + 3) ls (.int x :: st) h) := by
  rw [bn_ev_x hd rfl rfl rfl]
  simp only [bn_x]; rw [hf]; simp only [Option.bind_some, hty, bn_gI]
  cases hg : bn_gf h p ci j with
  | none => rfl
  | some v => cases v <;> rfl
theorem be_getJ {k p ci j : Nat} (hd : decode (bn_b mi) pc = .ok (.getfield k, 3)) (hf : bn_fl (bn_c mi) k = some (ci, j)) (hty : bn_ty ci j = .long) : bn_ev mi pc ls (.ref p :: st) h = bn_gJ h p ci j (fun x => bn_ev mi (pc + 3) ls (.long x :: st) h) := by
  rw [bn_ev_x hd rfl rfl rfl]
  simp only [bn_x]; rw [hf]; simp only [Option.bind_some, hty, bn_gJ]
  cases hg : bn_gf h p ci j with
  | none => rfl
  | some v => cases v <;> rfl
theorem be_getR {k p ci j : Nat} {ty : FieldType} (hd : decode (bn_b mi) pc = .ok (.getfield k, 3)) (hf : bn_fl (bn_c mi) k = some (ci, j)) (hty : bn_ty ci j = ty) (hr : (∃ t, ty = .array t) ∨ ∃ t, ty = .object t) : bn_ev mi pc ls (.ref p :: st) h = bn_gR h p ci j (fun x => bn_ev mi (pc + 3) ls (.ref x :: st) h) := by
  rw [bn_ev_x hd rfl rfl rfl]
  simp only [bn_x]; rw [hf]; simp only [Option.bind_some, hty, bn_gR]
  cases hg : bn_gf h p ci j with
  | none => rfl
  | some v => rcases hr with ⟨t, rfl⟩ | ⟨t, rfl⟩ <;> cases v <;> rfl
theorem be_putI {k p ci j : Nat} {x : Int32} (hd : decode (bn_b mi) pc = .ok (.putfield k, 3)) (hf : bn_fl (bn_c mi) k = some (ci, j)) (hty : bn_ty ci j = .int) (hfi : (bn_T ci j).2.2.2 = false) : bn_ev mi pc ls (.int x :: .ref p :: st) h = (bn_pf h p ci j (.int x)).bind fun h' => bn_ev mi (pc + 3) ls st h' := by
  rw [bn_ev_x hd rfl rfl rfl]
  simp only [bn_x]; rw [hf]; simp only [Option.bind_some, hty]
  rw [if_pos ⟨rfl, rfl, Or.inl hfi⟩]
  cases bn_pf h p ci j _ <;> rfl
theorem be_putJ {k p ci j : Nat} {x : Int64} (hd : decode (bn_b mi) pc = .ok (.putfield k, 3)) (hf : bn_fl (bn_c mi) k = some (ci, j)) (hty : bn_ty ci j = .long) (hfi : (bn_T ci j).2.2.2 = false) : bn_ev mi pc ls (.long x :: .ref p :: st) h = (bn_pf h p ci j (.long x)).bind fun h' => bn_ev mi (pc + 3) ls st h' := by
  rw [bn_ev_x hd rfl rfl rfl]
  simp only [bn_x]; rw [hf]; simp only [Option.bind_some, hty]
  rw [if_pos ⟨rfl, rfl, Or.inl hfi⟩]
  cases bn_pf h p ci j _ <;> rfl
theorem be_putR {k p ci j x : Nat} {ty : FieldType} (hd : decode (bn_b mi) pc = .ok (.putfield k, 3)) (hf : bn_fl (bn_c mi) k = some (ci, j)) (hty : bn_ty ci j = ty) (hr : (∃ t, ty = .array t) ∨ ∃ t, ty = .object t) (hfi : (bn_T ci j).2.2.2 = false ∨ (bn_i mi = true ∧ (bn_T ci j).1 = bn_cn (bn_c mi))) : bn_ev mi pc ls (.ref x :: .ref p :: st) h = (bn_pf h p ci j (.ref x)).bind fun h' => bn_ev mi (pc + 3) ls st h' := by
  rw [bn_ev_x hd rfl rfl rfl]
  simp only [bn_x]; rw [hf]; simp only [Option.bind_some, hty]
  rw [if_pos ⟨by rcases hr with ⟨t, rfl⟩ | ⟨t, rfl⟩ <;> rfl, by rcases hr with ⟨t, rfl⟩ | ⟨t, rfl⟩ <;> rfl, hfi⟩]
  cases bn_pf h p ci j _ <;> rfl
theorem be_iaload {p : Nat} {i : Int32} (hd : decode (bn_b mi) pc = .ok (.iaload, 1))  : bn_ev mi pc ls (.int i :: .ref p :: st) h = (bn_ld h p 0 i).bind fun x => bn_ev mi (pc + 1) ls (.int x :: st) h := by
  rw [bn_ev_x hd rfl rfl rfl]
  simp only [bn_x]; cases bn_ld h p 0 i <;> rfl
theorem be_saload {p : Nat} {i : Int32} (hd : decode (bn_b mi) pc = .ok (.iaload, 1))  : bn_ev mi pc ls (.int i :: .retAddr p :: st) h = if i < 0 ∨ h.1.1 ≤ i.toNatClampNeg then none else bn_ev mi (pc + 1) ls (.int (h.1.2 i.toNatClampNeg) :: st) h := by
  rw [bn_ev_x hd rfl rfl rfl]
  simp only [bn_x]; split <;> rfl
theorem be_baload {p : Nat} {i : Int32} (hd : decode (bn_b mi) pc = .ok (.baload, 1))  : bn_ev mi pc ls (.int i :: .ref p :: st) h = (bn_ld h p 1 i).bind fun x => bn_ev mi (pc + 1) ls (.int x :: st) h := by
  rw [bn_ev_x hd rfl rfl rfl]
  simp only [bn_x]; cases bn_ld h p 1 i <;> rfl
theorem be_laload {p : Nat} {i : Int32} (hd : decode (bn_b mi) pc = .ok (.laload, 1))  : bn_ev mi pc ls (.int i :: .ref p :: st) h = (bn_lld h p i).bind fun x => bn_ev mi (pc + 1) ls (.long x :: st) h := by
  rw [bn_ev_x hd rfl rfl rfl]
  simp only [bn_x]; cases bn_lld h p i <;> rfl
theorem be_aaload {p : Nat} {i : Int32} (hd : decode (bn_b mi) pc = .ok (.aaload, 1))  : bn_ev mi pc ls (.int i :: .ref p :: st) h = (bn_rld h p i).bind fun x => bn_ev mi (pc + 1) ls (.ref x :: st) h := by
  rw [bn_ev_x hd rfl rfl rfl]
  simp only [bn_x]; cases bn_rld h p i <;> rfl
theorem be_iastore {p : Nat} {i x : Int32} (hd : decode (bn_b mi) pc = .ok (.iastore, 1))  : bn_ev mi pc ls (.int x :: .int i :: .ref p :: st) h = (bn_sd h p 0 i x).bind fun h' => bn_ev mi (pc + 1) ls st h' := by
  rw [bn_ev_x hd rfl rfl rfl]
  simp only [bn_x]; cases bn_sd h p 0 i x <;> rfl
theorem be_bastore {p : Nat} {i x : Int32} (hd : decode (bn_b mi) pc = .ok (.bastore, 1))  : bn_ev mi pc ls (.int x :: .int i :: .ref p :: st) h = (bn_sd h p 1 i (vp_nar .boolean x)).bind fun h' => bn_ev mi (pc + 1) ls st h' := by
  rw [bn_ev_x hd rfl rfl rfl]
  simp only [bn_x]; cases bn_sd h p 1 i (vp_nar .boolean x) <;> rfl
theorem be_lastore {p : Nat} {i : Int32} {x : Int64} (hd : decode (bn_b mi) pc = .ok (.lastore, 1))  : bn_ev mi pc ls (.long x :: .int i :: .ref p :: st) h = (bn_lsd h p i x).bind fun h' => bn_ev mi (pc + 1) ls st h' := by
  rw [bn_ev_x hd rfl rfl rfl]
  simp only [bn_x]; cases bn_lsd h p i x <;> rfl
theorem be_aastore {p x : Nat} {i : Int32} (hd : decode (bn_b mi) pc = .ok (.aastore, 1))  : bn_ev mi pc ls (.ref x :: .int i :: .ref p :: st) h = (bn_rsd h p i x).bind fun h' => bn_ev mi (pc + 1) ls st h' := by
  rw [bn_ev_x hd rfl rfl rfl]
  simp only [bn_x]; cases bn_rsd h p i x <;> rfl
theorem be_arraylength {p : Nat} (hd : decode (bn_b mi) pc = .ok (.arraylength, 1))  : bn_ev mi pc ls (.retAddr p :: st) h = bn_ev mi (pc + 1) ls (.int (Int32.ofNat h.1.1) :: st) h := by
  rw [bn_ev_x hd rfl rfl rfl]
  rfl
theorem be_tabout {dflt lo hi : Int} {offs : Array Int} {len t : Nat} {x : Int32} (hd : decode (bn_b mi) pc = .ok (.tableswitch dflt lo hi offs, len)) (hx : x.toInt < lo ∨ hi < x.toInt) (ht : bn_tg pc dflt = some t) : bn_ev mi pc ls (.int x :: st) h = bn_ev mi t ls st h := by
  rw [bn_ev_x hd rfl rfl rfl]
  simp only [bn_x, bn_ts]
  rw [if_pos hx, Option.bind_some, ht]
  rfl
theorem be_tabin {dflt lo hi off : Int} {offs : Array Int} {len t : Nat} {x : Int32} (hd : decode (bn_b mi) pc = .ok (.tableswitch dflt lo hi offs, len)) (hx : ¬ (x.toInt < lo ∨ hi < x.toInt)) (ho : offs[(x.toInt - lo).toNat]? = some off) (ht : bn_tg pc off = some t) : bn_ev mi pc ls (.int x :: st) h = bn_ev mi t ls st h := by
  rw [bn_ev_x hd rfl rfl rfl]
  simp only [bn_x, bn_ts]
  rw [if_neg hx, ho, Option.bind_some, ht]
  rfl
theorem be_objinit {k p : Nat} (hd : decode (bn_b mi) pc = .ok (.invokespecial k, 3)) (hm : bn_ml (bn_c mi) k = some (4, 0)) (hc : bn_ct st ≤ 8 ∧ 1 ≤ bn_f mi ∧ 26 ≤ bn_l mi) : bn_ev mi pc ls (.ref p :: st) h = bn_ev mi (pc + 3) ls st h := by
  have hk : bn_k mi (.invokespecial k) (.ref p :: st) h = none := by
    simp only [bn_k]
    rw [hm]
    simp only [Option.bind_some]
    split
    · rw [if_neg (by intro q; rcases q.1 with q | q <;> exact absurd q (by decide))]
    · rfl
  rw [bn_ev_x hd rfl rfl hk]
  simp only [bn_x]
  rw [if_pos ⟨hm, hc⟩]
  rfl
theorem bn_k_stat {k m : Nat} (hm : ∃ j, bn_ml (bn_c mi) k = some (m, j) ∧ m ≠ 1) (st : List Value) : bn_k mi (.invokestatic k) st h = none := by
  obtain ⟨j, h1, h2⟩ := hm
  simp only [bn_k]
  rw [h1]
  simp only [Option.bind_some]
  rw [if_neg (fun q => h2 q.1)]
theorem be_copy {k j p q : Nat} {n dp sp : Int32} (hd : decode (bn_b mi) pc = .ok (.invokestatic k, 3)) (hm : bn_ml (bn_c mi) k = some (5, j)) (hc : bn_ct st ≤ 8 ∧ 1 ≤ bn_f mi ∧ 26 ≤ bn_l mi) : bn_ev mi pc ls (.int n :: .int dp :: .ref q :: .int sp :: .ref p :: st) h = (bn_cp h p sp q dp n).bind fun h' => bn_ev mi (pc + 3) ls st h' := by
  rw [bn_ev_x hd rfl rfl (bn_k_stat ⟨j, hm, by decide⟩ _)]
  simp only [bn_x]
  rw [hm]
  rw [if_pos hc]
  cases bn_cp h p sp q dp n <;> rfl
theorem be_max {k j : Nat} {x y : Int32} (hd : decode (bn_b mi) pc = .ok (.invokestatic k, 3)) (hm : bn_ml (bn_c mi) k = some (6, j)) (hc : bn_ct st ≤ 8 ∧ 1 ≤ bn_f mi ∧ 26 ≤ bn_l mi) : bn_ev mi pc ls (.int y :: .int x :: st) h = bn_ev mi (pc + 3) ls (.int (if x < y then y else x) :: st) h := by
  rw [bn_ev_x hd rfl rfl (bn_k_stat ⟨j, hm, by decide⟩ _)]
  simp only [bn_x]
  rw [hm]
  rw [if_pos hc]
  rfl
theorem be_min {k j : Nat} {x y : Int32} (hd : decode (bn_b mi) pc = .ok (.invokestatic k, 3)) (hm : bn_ml (bn_c mi) k = some (7, j)) (hc : bn_ct st ≤ 8 ∧ 1 ≤ bn_f mi ∧ 26 ≤ bn_l mi) : bn_ev mi pc ls (.int y :: .int x :: st) h = bn_ev mi (pc + 3) ls (.int (if y < x then y else x) :: st) h := by
  rw [bn_ev_x hd rfl rfl (bn_k_stat ⟨j, hm, by decide⟩ _)]
  simp only [bn_x, hm]
  rw [if_pos hc]
  rfl
theorem be_virtI {k mj b n : Nat} {as rr : List Value} {en : bn_L} (hd : decode (bn_b mi) pc = .ok (.invokevirtual k, 3)) (hm : bn_ml (bn_c mi) k = some (0, mj)) (hn : bn_p mj = n) (hl : as.length = n) (hen : bn_en mj (.ref b :: as.reverse) = en) (hc : bn_ct rr ≤ 8 ∧ (bn_sl (.ref b :: as.reverse)).length ≤ bn_m mj ∧ bn_f mj + 1 ≤ bn_f mi ∧ 8 + (bn_m mj + 11) + bn_l mj ≤ bn_l mi) (hr : bn_r mj = some .int ∨ bn_r mj = some .boolean) : bn_ev mi pc ls (as ++ .ref b :: rr) h = bn_gd (bn_isC h b (bn_c mj)) (bn_cI (bn_ev mj 0 en [] h) (fun v h' => bn_ev mi (pc + 3) ls (.int v :: rr) h')) := by
  subst hn
  subst hen
  have hdr : (as ++ .ref b :: rr).drop (bn_p mj) = .ref b :: rr := by rw [← hl]; simp
  have htk : (as ++ .ref b :: rr).take (bn_p mj) = as := by rw [← hl]; simp
  by_cases hC : bn_isC h b (bn_c mj) = true
  · have hk : bn_k mi (.invokevirtual k) (as ++ .ref b :: rr) h = some (mj, .ref b :: as.reverse, rr) := by
      simp only [bn_k]
      rw [hm]
      simp only [Option.bind_some]
      rw [hdr, htk]
      dsimp only
      rw [if_pos ⟨trivial, hl, hC, hc⟩]
    rw [bn_ev_k hd rfl rfl hk]
    unfold bn_gd
    rw [if_pos hC]
    exact bn_cI_k hr (fun v h => rfl)
  · have hk : bn_k mi (.invokevirtual k) (as ++ .ref b :: rr) h = none := by
      simp only [bn_k]
      rw [hm]
      simp only [Option.bind_some]
      rw [hdr]
      dsimp only
      rw [if_neg (fun q => hC q.2.2.1)]
    rw [bn_ev_x hd rfl rfl hk]
    unfold bn_gd
    rw [if_neg hC]
    rfl
theorem be_statI {k mj n : Nat} {as rr : List Value} {en : bn_L} (hd : decode (bn_b mi) pc = .ok (.invokestatic k, 3)) (hm : bn_ml (bn_c mi) k = some (1, mj)) (hn : bn_p mj = n) (hl : as.length = n) (hen : bn_en mj as.reverse = en) (hc : bn_ct rr ≤ 8 ∧ (bn_sl as.reverse).length ≤ bn_m mj ∧ bn_f mj + 1 ≤ bn_f mi ∧ 8 + (bn_m mj + 11) + bn_l mj ≤ bn_l mi) (hr : bn_r mj = some .int ∨ bn_r mj = some .boolean) : bn_ev mi pc ls (as ++ rr) h = bn_cI (bn_ev mj 0 en [] h) (fun v h' => bn_ev mi (pc + 3) ls (.int v :: rr) h') := by
  subst hn
  subst hen
  have hdr : (as ++ rr).drop (bn_p mj) = rr := by rw [← hl]; simp
  have htk : (as ++ rr).take (bn_p mj) = as := by rw [← hl]; simp
  have hk : bn_k mi (.invokestatic k) (as ++ rr) h = some (mj, as.reverse, rr) := by
    simp only [bn_k]
    rw [hm]
    simp only [Option.bind_some]
    rw [hdr, htk]
    rw [if_pos ⟨trivial, hl, hc⟩]
  rw [bn_ev_k hd rfl rfl hk]
  exact bn_cI_k hr (fun v h => rfl)
theorem be_virtJ {k mj b n : Nat} {as rr : List Value} {en : bn_L} (hd : decode (bn_b mi) pc = .ok (.invokevirtual k, 3)) (hm : bn_ml (bn_c mi) k = some (0, mj)) (hn : bn_p mj = n) (hl : as.length = n) (hen : bn_en mj (.ref b :: as.reverse) = en) (hc : bn_ct rr ≤ 8 ∧ (bn_sl (.ref b :: as.reverse)).length ≤ bn_m mj ∧ bn_f mj + 1 ≤ bn_f mi ∧ 8 + (bn_m mj + 11) + bn_l mj ≤ bn_l mi) (hr : bn_r mj = some .long) : bn_ev mi pc ls (as ++ .ref b :: rr) h = bn_gd (bn_isC h b (bn_c mj)) (bn_cJ (bn_ev mj 0 en [] h) (fun v h' => bn_ev mi (pc + 3) ls (.long v :: rr) h')) := by
  subst hn
  subst hen
  have hdr : (as ++ .ref b :: rr).drop (bn_p mj) = .ref b :: rr := by rw [← hl]; simp
  have htk : (as ++ .ref b :: rr).take (bn_p mj) = as := by rw [← hl]; simp
  by_cases hC : bn_isC h b (bn_c mj) = true
  · have hk : bn_k mi (.invokevirtual k) (as ++ .ref b :: rr) h = some (mj, .ref b :: as.reverse, rr) := by
      simp only [bn_k]
      rw [hm]
      simp only [Option.bind_some]
      rw [hdr, htk]
      dsimp only
      rw [if_pos ⟨trivial, hl, hC, hc⟩]
    rw [bn_ev_k hd rfl rfl hk]
    unfold bn_gd
    rw [if_pos hC]
    rw [hr]; exact bn_cJ_k (fun v h => rfl)
  · have hk : bn_k mi (.invokevirtual k) (as ++ .ref b :: rr) h = none := by
      simp only [bn_k]
      rw [hm]
      simp only [Option.bind_some]
      rw [hdr]
      dsimp only
      rw [if_neg (fun q => hC q.2.2.1)]
    rw [bn_ev_x hd rfl rfl hk]
    unfold bn_gd
    rw [if_neg hC]
    rfl
theorem be_statJ {k mj n : Nat} {as rr : List Value} {en : bn_L} (hd : decode (bn_b mi) pc = .ok (.invokestatic k, 3)) (hm : bn_ml (bn_c mi) k = some (1, mj)) (hn : bn_p mj = n) (hl : as.length = n) (hen : bn_en mj as.reverse = en) (hc : bn_ct rr ≤ 8 ∧ (bn_sl as.reverse).length ≤ bn_m mj ∧ bn_f mj + 1 ≤ bn_f mi ∧ 8 + (bn_m mj + 11) + bn_l mj ≤ bn_l mi) (hr : bn_r mj = some .long) : bn_ev mi pc ls (as ++ rr) h = bn_cJ (bn_ev mj 0 en [] h) (fun v h' => bn_ev mi (pc + 3) ls (.long v :: rr) h') := by
  subst hn
  subst hen
  have hdr : (as ++ rr).drop (bn_p mj) = rr := by rw [← hl]; simp
  have htk : (as ++ rr).take (bn_p mj) = as := by rw [← hl]; simp
  have hk : bn_k mi (.invokestatic k) (as ++ rr) h = some (mj, as.reverse, rr) := by
    simp only [bn_k]
    rw [hm]
    simp only [Option.bind_some]
    rw [hdr, htk]
    rw [if_pos ⟨trivial, hl, hc⟩]
  rw [bn_ev_k hd rfl rfl hk]
  rw [hr]; exact bn_cJ_k (fun v h => rfl)
theorem be_virtV {k mj b n : Nat} {as rr : List Value} {en : bn_L} (hd : decode (bn_b mi) pc = .ok (.invokevirtual k, 3)) (hm : bn_ml (bn_c mi) k = some (0, mj)) (hn : bn_p mj = n) (hl : as.length = n) (hen : bn_en mj (.ref b :: as.reverse) = en) (hc : bn_ct rr ≤ 8 ∧ (bn_sl (.ref b :: as.reverse)).length ≤ bn_m mj ∧ bn_f mj + 1 ≤ bn_f mi ∧ 8 + (bn_m mj + 11) + bn_l mj ≤ bn_l mi) (hr : bn_r mj = none) : bn_ev mi pc ls (as ++ .ref b :: rr) h = bn_gd (bn_isC h b (bn_c mj)) (bn_cV (bn_ev mj 0 en [] h) (fun h' => bn_ev mi (pc + 3) ls rr h')) := by
  subst hn
  subst hen
  have hdr : (as ++ .ref b :: rr).drop (bn_p mj) = .ref b :: rr := by rw [← hl]; simp
  have htk : (as ++ .ref b :: rr).take (bn_p mj) = as := by rw [← hl]; simp
  by_cases hC : bn_isC h b (bn_c mj) = true
  · have hk : bn_k mi (.invokevirtual k) (as ++ .ref b :: rr) h = some (mj, .ref b :: as.reverse, rr) := by
      simp only [bn_k]
      rw [hm]
      simp only [Option.bind_some]
      rw [hdr, htk]
      dsimp only
      rw [if_pos ⟨trivial, hl, hC, hc⟩]
    rw [bn_ev_k hd rfl rfl hk]
    unfold bn_gd
    rw [if_pos hC]
    rw [hr]; exact bn_cV_k (fun h => rfl)
  · have hk : bn_k mi (.invokevirtual k) (as ++ .ref b :: rr) h = none := by
      simp only [bn_k]
      rw [hm]
      simp only [Option.bind_some]
      rw [hdr]
      dsimp only
      rw [if_neg (fun q => hC q.2.2.1)]
    rw [bn_ev_x hd rfl rfl hk]
    unfold bn_gd
    rw [if_neg hC]
    rfl
theorem be_statV {k mj n : Nat} {as rr : List Value} {en : bn_L} (hd : decode (bn_b mi) pc = .ok (.invokestatic k, 3)) (hm : bn_ml (bn_c mi) k = some (1, mj)) (hn : bn_p mj = n) (hl : as.length = n) (hen : bn_en mj as.reverse = en) (hc : bn_ct rr ≤ 8 ∧ (bn_sl as.reverse).length ≤ bn_m mj ∧ bn_f mj + 1 ≤ bn_f mi ∧ 8 + (bn_m mj + 11) + bn_l mj ≤ bn_l mi) (hr : bn_r mj = none) : bn_ev mi pc ls (as ++ rr) h = bn_cV (bn_ev mj 0 en [] h) (fun h' => bn_ev mi (pc + 3) ls rr h') := by
  subst hn
  subst hen
  have hdr : (as ++ rr).drop (bn_p mj) = rr := by rw [← hl]; simp
  have htk : (as ++ rr).take (bn_p mj) = as := by rw [← hl]; simp
  have hk : bn_k mi (.invokestatic k) (as ++ rr) h = some (mj, as.reverse, rr) := by
    simp only [bn_k]
    rw [hm]
    simp only [Option.bind_some]
    rw [hdr, htk]
    rw [if_pos ⟨trivial, hl, hc⟩]
  rw [bn_ev_k hd rfl rfl hk]
  rw [hr]; exact bn_cV_k (fun h => rfl)
theorem be_specV {k mj b n kd : Nat} {as rr : List Value} {en : bn_L} (hd : decode (bn_b mi) pc = .ok (.invokespecial k, 3)) (hm : bn_ml (bn_c mi) k = some (kd, mj)) (hkd : kd = 2 ∨ kd = 3) (hn : bn_p mj = n) (hl : as.length = n) (hen : bn_en mj (.ref b :: as.reverse) = en) (hc : bn_ct rr ≤ 8 ∧ (bn_sl (.ref b :: as.reverse)).length ≤ bn_m mj ∧ bn_f mj + 1 ≤ bn_f mi ∧ 8 + (bn_m mj + 11) + bn_l mj ≤ bn_l mi) (hr : bn_r mj = none) : bn_ev mi pc ls (as ++ .ref b :: rr) h = bn_cV (bn_ev mj 0 en [] h) (fun h' => bn_ev mi (pc + 3) ls rr h') := by
  subst hn
  subst hen
  have hdr : (as ++ .ref b :: rr).drop (bn_p mj) = .ref b :: rr := by rw [← hl]; simp
  have htk : (as ++ .ref b :: rr).take (bn_p mj) = as := by rw [← hl]; simp
  have hk : bn_k mi (.invokespecial k) (as ++ .ref b :: rr) h = some (mj, .ref b :: as.reverse, rr) := by
    simp only [bn_k]
    rw [hm]
    simp only [Option.bind_some]
    rw [hdr, htk]
    dsimp only
    rw [if_pos ⟨hkd, hl, hc⟩]
  rw [bn_ev_k hd rfl rfl hk]
  rw [hr]; exact bn_cV_k (fun h => rfl)
theorem be_new {k ci : Nat} (hd : decode (bn_b mi) pc = .ok (.new k, 3)) (hm : bn_ck (bn_c mi) k = some ci) : bn_ev mi pc ls st h = bn_ev mi (pc + 3) ls (.ref h.2.1 :: st) (bn_n h (.inr (ci, (List.range (bn_N ci)).map (fun j => bn_dv (bn_ty ci j)))) (bn_N ci)) := by
  rw [bn_ev_x hd rfl rfl rfl]
  simp only [bn_x]
  rw [hm]
  rfl
theorem be_ireturn {x : Int32} (hd : decode (bn_b mi) pc = .ok (.ireturn, 1)) (hr : bn_r mi = some .int) : bn_ev mi pc ls [.int x] h = some (some (.int x), h) := bn_ev_r hd rfl (by simp only [bn_rt]; rw [if_pos (Or.inl hr)])
theorem be_zreturn {x : Int32} (hd : decode (bn_b mi) pc = .ok (.ireturn, 1)) (hr : bn_r mi = some .boolean) : bn_ev mi pc ls [.int x] h = if x = 0 ∨ x = 1 then some (some (.int x), h) else none := by
  by_cases hx : x = 0 ∨ x = 1
  · rw [if_pos hx]
    exact bn_ev_r hd rfl (by simp only [bn_rt]; rw [if_pos (Or.inr ⟨hr, hx⟩)])
  · rw [if_neg hx, bn_ev_x hd rfl (by simp only [bn_rt]; rw [if_neg (fun q => q.elim (fun q => by rw [hr] at q; cases q) (fun q => hx q.2))]) rfl]
    rfl
theorem be_z0 (hd : decode (bn_b mi) pc = .ok (.ireturn, 1)) (hr : bn_r mi = some .boolean) {x : Int32} (hx : x = 0 ∨ x = 1) : bn_ev mi pc ls [.int x] h = some (some (.int x), h) := (be_zreturn hd hr).trans (if_pos hx)
theorem be_lreturn {x : Int64} (hd : decode (bn_b mi) pc = .ok (.lreturn, 1)) (hr : bn_r mi = some .long) : bn_ev mi pc ls [.long x] h = some (some (.long x), h) := bn_ev_r hd rfl (by simp only [bn_rt]; rw [if_pos hr])
theorem be_return (hd : decode (bn_b mi) pc = .ok (.return_, 1)) (hr : bn_r mi = none) : bn_ev mi pc ls [] h = some (none, h) := bn_ev_r hd rfl (by simp only [bn_rt]; rw [if_pos hr])
end ES
theorem bn_if_c {c : Prop} [Decidable c] {A A' B B' : bn_R} (h1 : A = A') (h2 : B = B') : (if c then A else B) = if c then A' else B' := by rw [h1, h2]
theorem bn_dia {c : Prop} [Decidable c] {A B : bn_R} {mi J : Nat} {ls : bn_L} {st : List Value} {h : bn_H} {a b : Int32} (hA : A = bn_ev mi J ls (.int a :: st) h) (hB : B = bn_ev mi J ls (.int b :: st) h) : (if c then A else B) = bn_ev mi J ls (.int (if c then a else b) :: st) h := by
  split
  · exact hA
  · exact hB
end
section
/-! links by their numbers -/
theorem bf_0_9 : bn_fl 0 9 = some (0, 0) := by decide +kernel
theorem bf_0_15 : bn_fl 0 15 = some (0, 1) := by decide +kernel
theorem bf_0_18 : bn_fl 0 18 = some (0, 2) := by decide +kernel
theorem bf_0_21 : bn_fl 0 21 = some (0, 3) := by decide +kernel
theorem bf_0_24 : bn_fl 0 24 = some (0, 4) := by decide +kernel
theorem bf_0_28 : bn_fl 0 28 = some (0, 5) := by decide +kernel
theorem bf_0_31 : bn_fl 0 31 = some (0, 6) := by decide +kernel
theorem bf_0_35 : bn_fl 0 35 = some (0, 7) := by decide +kernel
theorem bf_0_39 : bn_fl 0 39 = some (0, 8) := by decide +kernel
theorem bf_0_42 : bn_fl 0 42 = some (0, 9) := by decide +kernel
theorem bf_0_45 : bn_fl 0 45 = some (0, 10) := by decide +kernel
theorem bf_0_48 : bn_fl 0 48 = some (0, 11) := by decide +kernel
theorem bf_0_51 : bn_fl 0 51 = some (0, 12) := by decide +kernel
theorem bf_0_54 : bn_fl 0 54 = some (0, 13) := by decide +kernel
theorem bf_0_57 : bn_fl 0 57 = some (0, 14) := by decide +kernel
theorem bf_1_9 : bn_fl 1 9 = some (1, 0) := by decide +kernel
theorem bf_1_15 : bn_fl 1 15 = some (1, 1) := by decide +kernel
theorem bf_1_19 : bn_fl 1 19 = some (1, 2) := by decide +kernel
theorem bf_1_49 : bn_fl 1 49 = some (0, 5) := by decide +kernel
theorem bf_1_52 : bn_fl 1 52 = some (0, 1) := by decide +kernel
theorem bf_1_59 : bn_fl 1 59 = some (0, 9) := by decide +kernel
theorem bf_2_12 : bn_fl 2 12 = some (2, 0) := by decide +kernel
theorem bf_2_19 : bn_fl 2 19 = some (2, 1) := by decide +kernel
theorem bf_2_23 : bn_fl 2 23 = some (2, 2) := by decide +kernel
theorem bf_2_26 : bn_fl 2 26 = some (2, 3) := by decide +kernel
theorem bf_2_30 : bn_fl 2 30 = some (2, 4) := by decide +kernel
theorem bf_2_34 : bn_fl 2 34 = some (2, 5) := by decide +kernel
theorem bf_2_37 : bn_fl 2 37 = some (2, 6) := by decide +kernel
theorem bf_2_40 : bn_fl 2 40 = some (2, 7) := by decide +kernel
theorem bf_2_44 : bn_fl 2 44 = some (1, 1) := by decide +kernel
theorem bf_2_55 : bn_fl 2 55 = some (0, 4) := by decide +kernel
theorem bf_2_66 : bn_fl 2 66 = some (0, 5) := by decide +kernel
theorem bf_2_69 : bn_fl 2 69 = some (0, 9) := by decide +kernel
theorem bf_2_76 : bn_fl 2 76 = some (0, 6) := by decide +kernel
theorem bf_2_83 : bn_fl 2 83 = some (0, 7) := by decide +kernel
theorem bf_2_90 : bn_fl 2 90 = some (0, 8) := by decide +kernel
theorem bf_2_96 : bn_fl 2 96 = some (0, 10) := by decide +kernel
theorem bf_2_99 : bn_fl 2 99 = some (0, 11) := by decide +kernel
theorem bf_2_102 : bn_fl 2 102 = some (0, 12) := by decide +kernel
theorem bf_2_108 : bn_fl 2 108 = some (0, 13) := by decide +kernel
theorem bf_2_111 : bn_fl 2 111 = some (0, 14) := by decide +kernel
theorem bf_2_174 : bn_fl 2 174 = some (0, 3) := by decide +kernel
theorem bf_2_189 : bn_fl 2 189 = some (0, 0) := by decide +kernel
theorem bf_3_7 : bn_fl 3 7 = some (3, 0) := by decide +kernel
theorem bf_3_13 : bn_fl 3 13 = some (3, 6) := by decide +kernel
theorem bf_3_16 : bn_fl 3 16 = some (3, 13) := by decide +kernel
theorem bf_3_19 : bn_fl 3 19 = some (3, 19) := by decide +kernel
theorem bf_3_22 : bn_fl 3 22 = some (3, 20) := by decide +kernel
theorem bf_3_26 : bn_fl 3 26 = some (3, 21) := by decide +kernel
theorem bf_3_29 : bn_fl 3 29 = some (3, 23) := by decide +kernel
theorem bf_3_33 : bn_fl 3 33 = some (3, 24) := by decide +kernel
theorem bf_3_36 : bn_fl 3 36 = some (3, 25) := by decide +kernel
theorem bf_3_39 : bn_fl 3 39 = some (3, 26) := by decide +kernel
theorem bf_3_42 : bn_fl 3 42 = some (3, 27) := by decide +kernel
theorem bf_3_45 : bn_fl 3 45 = some (3, 28) := by decide +kernel
theorem bf_3_48 : bn_fl 3 48 = some (3, 8) := by decide +kernel
theorem bf_3_52 : bn_fl 3 52 = some (3, 9) := by decide +kernel
theorem bf_3_61 : bn_fl 3 61 = some (3, 14) := by decide +kernel
theorem bf_3_66 : bn_fl 3 66 = some (3, 16) := by decide +kernel
theorem bf_3_69 : bn_fl 3 69 = some (3, 15) := by decide +kernel
theorem bf_3_74 : bn_fl 3 74 = some (3, 5) := by decide +kernel
theorem bf_3_77 : bn_fl 3 77 = some (3, 4) := by decide +kernel
theorem bf_3_84 : bn_fl 3 84 = some (3, 1) := by decide +kernel
theorem bf_3_87 : bn_fl 3 87 = some (3, 2) := by decide +kernel
theorem bf_3_90 : bn_fl 3 90 = some (3, 3) := by decide +kernel
theorem bf_3_103 : bn_fl 3 103 = some (3, 7) := by decide +kernel
theorem bf_3_106 : bn_fl 3 106 = some (3, 10) := by decide +kernel
theorem bf_3_109 : bn_fl 3 109 = some (3, 11) := by decide +kernel
theorem bf_3_112 : bn_fl 3 112 = some (3, 17) := by decide +kernel
theorem bf_3_131 : bn_fl 3 131 = some (3, 18) := by decide +kernel
theorem bf_3_134 : bn_fl 3 134 = some (3, 12) := by decide +kernel
theorem bf_3_172 : bn_fl 3 172 = some (3, 22) := by decide +kernel
theorem bm_0_3 : bn_ml 0 3 = some (4, 0) := by decide +kernel
theorem bm_0_60 : bn_ml 0 60 = some (5, 0) := by decide +kernel
theorem bm_0_66 : bn_ml 0 66 = some (0, 7) := by decide +kernel
theorem bm_0_70 : bn_ml 0 70 = some (0, 10) := by decide +kernel
theorem bm_0_74 : bn_ml 0 74 = some (1, 129) := by decide +kernel
theorem bm_0_80 : bn_ml 0 80 = some (0, 9) := by decide +kernel
theorem bm_0_83 : bn_ml 0 83 = some (0, 14) := by decide +kernel
theorem bm_0_87 : bn_ml 0 87 = some (0, 8) := by decide +kernel
theorem bm_0_90 : bn_ml 0 90 = some (6, 0) := by decide +kernel
theorem bm_0_96 : bn_ml 0 96 = some (0, 20) := by decide +kernel
theorem bm_0_99 : bn_ml 0 99 = some (0, 19) := by decide +kernel
theorem bm_0_102 : bn_ml 0 102 = some (0, 23) := by decide +kernel
theorem bm_0_105 : bn_ml 0 105 = some (0, 26) := by decide +kernel
theorem bm_0_109 : bn_ml 0 109 = some (7, 0) := by decide +kernel
theorem bm_0_112 : bn_ml 0 112 = some (0, 28) := by decide +kernel
theorem bm_0_115 : bn_ml 0 115 = some (0, 24) := by decide +kernel
theorem bm_0_119 : bn_ml 0 119 = some (0, 22) := by decide +kernel
theorem bm_0_122 : bn_ml 0 122 = some (0, 30) := by decide +kernel
theorem bm_0_125 : bn_ml 0 125 = some (0, 31) := by decide +kernel
theorem bm_1_3 : bn_ml 1 3 = some (4, 0) := by decide +kernel
theorem bm_1_22 : bn_ml 1 22 = some (0, 35) := by decide +kernel
theorem bm_1_26 : bn_ml 1 26 = some (0, 42) := by decide +kernel
theorem bm_1_30 : bn_ml 1 30 = some (0, 36) := by decide +kernel
theorem bm_1_33 : bn_ml 1 33 = some (0, 37) := by decide +kernel
theorem bm_1_36 : bn_ml 1 36 = some (0, 41) := by decide +kernel
theorem bm_1_39 : bn_ml 1 39 = some (0, 43) := by decide +kernel
theorem bm_1_43 : bn_ml 1 43 = some (0, 1) := by decide +kernel
theorem bm_1_55 : bn_ml 1 55 = some (0, 2) := by decide +kernel
theorem bm_1_62 : bn_ml 1 62 = some (0, 38) := by decide +kernel
theorem bm_1_66 : bn_ml 1 66 = some (0, 3) := by decide +kernel
theorem bm_1_69 : bn_ml 1 69 = some (0, 44) := by decide +kernel
theorem bm_1_73 : bn_ml 1 73 = some (1, 39) := by decide +kernel
theorem bm_1_77 : bn_ml 1 77 = some (1, 40) := by decide +kernel
theorem bm_1_80 : bn_ml 1 80 = some (0, 19) := by decide +kernel
theorem bm_2_3 : bn_ml 2 3 = some (4, 0) := by decide +kernel
theorem bm_2_11 : bn_ml 2 11 = some (3, 32) := by decide +kernel
theorem bm_2_18 : bn_ml 2 18 = some (3, 0) := by decide +kernel
theorem bm_2_47 : bn_ml 2 47 = some (0, 33) := by decide +kernel
theorem bm_2_51 : bn_ml 2 51 = some (0, 34) := by decide +kernel
theorem bm_2_59 : bn_ml 2 59 = some (0, 4) := by decide +kernel
theorem bm_2_63 : bn_ml 2 63 = some (0, 70) := by decide +kernel
theorem bm_2_72 : bn_ml 2 72 = some (0, 5) := by decide +kernel
theorem bm_2_80 : bn_ml 2 80 = some (0, 7) := by decide +kernel
theorem bm_2_86 : bn_ml 2 86 = some (0, 13) := by decide +kernel
theorem bm_2_93 : bn_ml 2 93 = some (0, 6) := by decide +kernel
theorem bm_2_105 : bn_ml 2 105 = some (0, 8) := by decide +kernel
theorem bm_2_114 : bn_ml 2 114 = some (0, 22) := by decide +kernel
theorem bm_2_118 : bn_ml 2 118 = some (0, 69) := by decide +kernel
theorem bm_2_121 : bn_ml 2 121 = some (0, 24) := by decide +kernel
theorem bm_2_125 : bn_ml 2 125 = some (1, 72) := by decide +kernel
theorem bm_2_128 : bn_ml 2 128 = some (1, 73) := by decide +kernel
theorem bm_2_131 : bn_ml 2 131 = some (0, 25) := by decide +kernel
theorem bm_2_135 : bn_ml 2 135 = some (0, 11) := by decide +kernel
theorem bm_2_142 : bn_ml 2 142 = some (0, 12) := by decide +kernel
theorem bm_2_145 : bn_ml 2 145 = some (0, 15) := by decide +kernel
theorem bm_2_148 : bn_ml 2 148 = some (0, 16) := by decide +kernel
theorem bm_2_152 : bn_ml 2 152 = some (0, 71) := by decide +kernel
theorem bm_2_155 : bn_ml 2 155 = some (0, 29) := by decide +kernel
theorem bm_2_158 : bn_ml 2 158 = some (0, 20) := by decide +kernel
theorem bm_2_161 : bn_ml 2 161 = some (0, 19) := by decide +kernel
theorem bm_2_164 : bn_ml 2 164 = some (1, 74) := by decide +kernel
theorem bm_2_177 : bn_ml 2 177 = some (0, 10) := by decide +kernel
theorem bm_2_180 : bn_ml 2 180 = some (0, 17) := by decide +kernel
theorem bm_2_183 : bn_ml 2 183 = some (0, 18) := by decide +kernel
theorem bm_2_186 : bn_ml 2 186 = some (0, 21) := by decide +kernel
theorem bm_2_192 : bn_ml 2 192 = some (0, 27) := by decide +kernel
theorem bm_2_195 : bn_ml 2 195 = some (1, 75) := by decide +kernel
theorem bm_3_1 : bn_ml 3 1 = some (4, 0) := by decide +kernel
theorem bm_3_57 : bn_ml 3 57 = some (1, 77) := by decide +kernel
theorem bm_3_80 : bn_ml 3 80 = some (0, 80) := by decide +kernel
theorem bm_3_93 : bn_ml 3 93 = some (0, 83) := by decide +kernel
theorem bm_3_96 : bn_ml 3 96 = some (0, 81) := by decide +kernel
theorem bm_3_99 : bn_ml 3 99 = some (0, 82) := by decide +kernel
theorem bm_3_115 : bn_ml 3 115 = some (0, 89) := by decide +kernel
theorem bm_3_118 : bn_ml 3 118 = some (0, 86) := by decide +kernel
theorem bm_3_122 : bn_ml 3 122 = some (0, 91) := by decide +kernel
theorem bm_3_125 : bn_ml 3 125 = some (0, 87) := by decide +kernel
theorem bm_3_128 : bn_ml 3 128 = some (0, 90) := by decide +kernel
theorem bm_3_138 : bn_ml 3 138 = some (0, 88) := by decide +kernel
theorem bm_3_141 : bn_ml 3 141 = some (0, 95) := by decide +kernel
theorem bm_3_145 : bn_ml 3 145 = some (0, 94) := by decide +kernel
theorem bm_3_148 : bn_ml 3 148 = some (0, 97) := by decide +kernel
theorem bm_3_152 : bn_ml 3 152 = some (1, 100) := by decide +kernel
theorem bm_3_155 : bn_ml 3 155 = some (0, 102) := by decide +kernel
theorem bm_3_158 : bn_ml 3 158 = some (0, 104) := by decide +kernel
theorem bm_3_165 : bn_ml 3 165 = some (1, 105) := by decide +kernel
theorem bm_3_168 : bn_ml 3 168 = some (1, 106) := by decide +kernel
theorem bm_3_175 : bn_ml 3 175 = some (0, 110) := by decide +kernel
theorem bm_3_178 : bn_ml 3 178 = some (0, 111) := by decide +kernel
theorem bm_3_181 : bn_ml 3 181 = some (1, 115) := by decide +kernel
theorem bm_3_184 : bn_ml 3 184 = some (0, 114) := by decide +kernel
theorem bm_3_187 : bn_ml 3 187 = some (0, 118) := by decide +kernel
theorem bm_3_191 : bn_ml 3 191 = some (0, 116) := by decide +kernel
theorem bm_3_195 : bn_ml 3 195 = some (0, 119) := by decide +kernel
theorem bm_3_198 : bn_ml 3 198 = some (0, 120) := by decide +kernel
theorem bm_3_205 : bn_ml 3 205 = some (1, 122) := by decide +kernel
theorem bm_3_212 : bn_ml 3 212 = some (1, 124) := by decide +kernel
theorem bm_4_9 : bn_ml 4 9 = some (2, 45) := by decide +kernel
theorem bm_4_12 : bn_ml 4 12 = some (2, 76) := by decide +kernel
theorem bm_4_15 : bn_ml 4 15 = some (0, 46) := by decide +kernel
theorem bm_4_19 : bn_ml 4 19 = some (0, 78) := by decide +kernel
theorem bm_4_20 : bn_ml 4 20 = some (0, 47) := by decide +kernel
theorem bm_4_24 : bn_ml 4 24 = some (0, 79) := by decide +kernel
theorem bm_4_25 : bn_ml 4 25 = some (0, 48) := by decide +kernel
theorem bm_4_28 : bn_ml 4 28 = some (0, 84) := by decide +kernel
theorem bm_4_29 : bn_ml 4 29 = some (0, 49) := by decide +kernel
theorem bm_4_32 : bn_ml 4 32 = some (0, 85) := by decide +kernel
theorem bm_4_33 : bn_ml 4 33 = some (0, 50) := by decide +kernel
theorem bm_4_37 : bn_ml 4 37 = some (0, 92) := by decide +kernel
theorem bm_4_38 : bn_ml 4 38 = some (0, 51) := by decide +kernel
theorem bm_4_41 : bn_ml 4 41 = some (0, 93) := by decide +kernel
theorem bm_4_42 : bn_ml 4 42 = some (0, 52) := by decide +kernel
theorem bm_4_45 : bn_ml 4 45 = some (0, 96) := by decide +kernel
theorem bm_4_46 : bn_ml 4 46 = some (0, 53) := by decide +kernel
theorem bm_4_49 : bn_ml 4 49 = some (0, 98) := by decide +kernel
theorem bm_4_50 : bn_ml 4 50 = some (0, 54) := by decide +kernel
theorem bm_4_53 : bn_ml 4 53 = some (0, 99) := by decide +kernel
theorem bm_4_54 : bn_ml 4 54 = some (0, 55) := by decide +kernel
theorem bm_4_58 : bn_ml 4 58 = some (0, 101) := by decide +kernel
theorem bm_4_59 : bn_ml 4 59 = some (0, 56) := by decide +kernel
theorem bm_4_62 : bn_ml 4 62 = some (0, 103) := by decide +kernel
theorem bm_4_63 : bn_ml 4 63 = some (0, 57) := by decide +kernel
theorem bm_4_66 : bn_ml 4 66 = some (0, 107) := by decide +kernel
theorem bm_4_67 : bn_ml 4 67 = some (0, 58) := by decide +kernel
theorem bm_4_70 : bn_ml 4 70 = some (0, 108) := by decide +kernel
theorem bm_4_71 : bn_ml 4 71 = some (0, 59) := by decide +kernel
theorem bm_4_75 : bn_ml 4 75 = some (0, 109) := by decide +kernel
theorem bm_4_76 : bn_ml 4 76 = some (0, 60) := by decide +kernel
theorem bm_4_79 : bn_ml 4 79 = some (0, 112) := by decide +kernel
theorem bm_4_80 : bn_ml 4 80 = some (0, 61) := by decide +kernel
theorem bm_4_83 : bn_ml 4 83 = some (0, 113) := by decide +kernel
theorem bm_4_84 : bn_ml 4 84 = some (0, 62) := by decide +kernel
theorem bm_4_87 : bn_ml 4 87 = some (0, 117) := by decide +kernel
theorem bm_4_88 : bn_ml 4 88 = some (0, 63) := by decide +kernel
theorem bm_4_91 : bn_ml 4 91 = some (0, 121) := by decide +kernel
theorem bm_4_92 : bn_ml 4 92 = some (0, 64) := by decide +kernel
theorem bm_4_96 : bn_ml 4 96 = some (0, 123) := by decide +kernel
theorem bm_4_97 : bn_ml 4 97 = some (0, 65) := by decide +kernel
theorem bm_4_101 : bn_ml 4 101 = some (0, 125) := by decide +kernel
theorem bm_4_102 : bn_ml 4 102 = some (0, 66) := by decide +kernel
theorem bm_4_105 : bn_ml 4 105 = some (0, 126) := by decide +kernel
theorem bm_4_106 : bn_ml 4 106 = some (0, 67) := by decide +kernel
theorem bm_4_109 : bn_ml 4 109 = some (0, 127) := by decide +kernel
theorem bm_4_110 : bn_ml 4 110 = some (0, 68) := by decide +kernel
theorem bm_4_113 : bn_ml 4 113 = some (0, 128) := by decide +kernel
theorem bn_gI_c {h : bn_H} {p ci k : Nat} {K K' : Int32 → bn_R} (e : ∀ x, K x = K' x) : bn_gI h p ci k K = bn_gI h p ci k K' := by rw [funext e]
theorem bn_gJ_c {h : bn_H} {p ci k : Nat} {K K' : Int64 → bn_R} (e : ∀ x, K x = K' x) : bn_gJ h p ci k K = bn_gJ h p ci k K' := by rw [funext e]
theorem bn_gR_c {h : bn_H} {p ci k : Nat} {K K' : Nat → bn_R} (e : ∀ x, K x = K' x) : bn_gR h p ci k K = bn_gR h p ci k K' := by rw [funext e]
theorem bn_bd_c {α : Type} {x : Option α} {K K' : α → bn_R} (e : ∀ x, K x = K' x) : x.bind K = x.bind K' := by rw [funext e]
theorem bn_cI_c {x : bn_R} {K K' : Int32 → bn_H → bn_R} (e : ∀ v h, K v h = K' v h) : bn_cI x K = bn_cI x K' := by rw [show K = K' from funext fun v => funext fun h => e v h]
theorem bn_cJ_c {x : bn_R} {K K' : Int64 → bn_H → bn_R} (e : ∀ v h, K v h = K' v h) : bn_cJ x K = bn_cJ x K' := by rw [show K = K' from funext fun v => funext fun h => e v h]
theorem bn_cV_c {x : bn_R} {K K' : bn_H → bn_R} (e : ∀ h, K h = K' h) : bn_cV x K = bn_cV x K' := by rw [funext e]
theorem bn_gd_c {c : Bool} {A B : bn_R} (e : A = B) : bn_gd c A = bn_gd c B := by rw [e]
theorem bn_sw {x v : Int32} {X A B : bn_R} (h1 : x = v → X = A) (h2 : ¬ x = v → X = B) : X = if x = v then A else B := by
  split
  · exact h1 (by assumption)
  · exact h2 (by assumption)
theorem bn_ne_toInt {x v : Int32} (h : ¬ x = v) : x.toInt ≠ v.toInt := fun q => h (Int32.toInt_inj.mp q)
end
section
/-! segments: Siege -/
theorem bs_X0_begin_0 (a0 : Nat) (a1 : Int32) (a2 : Int32) (a3 : Int32) (h : bn_H) : bn_ev 1 0 [some (.ref a0), some (.int a1), some (.int a2), some (.int a3)] [] h = (bn_pf h a0 0 0 (.int a1)).bind (fun h1 => (bn_pf h1 a0 0 1 (.int a2)).bind (fun h2 => (bn_pf h2 a0 0 2 (.int a3)).bind (fun h3 => (bn_pf h3 a0 0 3 (.int 0)).bind (fun h4 => (bn_pf h4 a0 0 5 (.int 0)).bind (fun h5 => (bn_pf h5 a0 0 9 (.int 0)).bind (fun h6 => some (none, h6))))))) := by
  refine Eq.trans (be_aload_n bd_1_0 rfl) ?_
  refine Eq.trans (be_iload_n bd_1_1 rfl) ?_
  refine Eq.trans (be_putI bd_1_2 bf_0_9 rfl rfl) ?_
  refine bn_bd_c fun h1 => ?_
  refine Eq.trans (be_aload_n bd_1_5 rfl) ?_
  refine Eq.trans (be_iload_n bd_1_6 rfl) ?_
  refine Eq.trans (be_putI bd_1_7 bf_0_15 rfl rfl) ?_
  refine bn_bd_c fun h2 => ?_
  refine Eq.trans (be_aload_n bd_1_10 rfl) ?_
  refine Eq.trans (be_iload_n bd_1_11 rfl) ?_
  refine Eq.trans (be_putI bd_1_12 bf_0_18 rfl rfl) ?_
  refine bn_bd_c fun h3 => ?_
  refine Eq.trans (be_aload_n bd_1_15 rfl) ?_
  refine Eq.trans (be_iconst (v := 0) bd_1_16 (by decide)) ?_
  refine Eq.trans (be_putI bd_1_17 bf_0_21 rfl rfl) ?_
  refine bn_bd_c fun h4 => ?_
  refine Eq.trans (be_aload_n bd_1_20 rfl) ?_
  refine Eq.trans (be_iconst (v := 0) bd_1_21 (by decide)) ?_
  refine Eq.trans (be_putI bd_1_22 bf_0_28 rfl rfl) ?_
  refine bn_bd_c fun h5 => ?_
  refine Eq.trans (be_aload_n bd_1_25 rfl) ?_
  refine Eq.trans (be_iconst (v := 0) bd_1_26 (by decide)) ?_
  refine Eq.trans (be_putI bd_1_27 bf_0_42 rfl rfl) ?_
  refine bn_bd_c fun h6 => ?_
  exact be_return bd_1_30 rfl
theorem bs_X0_addPerson_0 (a0 : Nat) (a1 : Int32) (h : bn_H) : bn_ev 2 0 [some (.ref a0), some (.int a1)] [] h = bn_gI h a0 0 5 (fun x1 => if 5 ≤ x1 then (some (none, h)) else (bn_gR h a0 0 6 (fun p2 => bn_gI h a0 0 5 (fun x3 => (bn_sd h p2 0 x3 a1).bind (fun h4 => bn_gR h4 a0 0 7 (fun p5 => bn_gI h4 a0 0 5 (fun x6 => (bn_sd h4 p5 1 x6 (vp_nar .boolean 0)).bind (fun h7 => bn_gR h7 a0 0 8 (fun p8 => bn_gI h7 a0 0 5 (fun x9 => (bn_sd h7 p8 0 x9 0).bind (fun h10 => bn_gI h10 a0 0 5 (fun x11 => (bn_pf h10 a0 0 5 (.int (x11 + 1))).bind (fun h12 => some (none, h12)))))))))))))) := by
  refine Eq.trans (be_aload_n bd_2_0 rfl) ?_
  refine Eq.trans (be_getI bd_2_1 bf_0_28 rfl) ?_
  refine bn_gI_c fun x1 => ?_
  refine Eq.trans (be_iconst (v := 5) bd_2_4 (by decide)) ?_
  refine Eq.trans (be_icmp_ge (t := 48) bd_2_5 rfl) ?_
  refine bn_if_c ?_ ?_
  · exact be_return bd_2_48 rfl
  · refine Eq.trans (be_aload_n bd_2_8 rfl) ?_
    refine Eq.trans (be_getR bd_2_9 bf_0_31 rfl (Or.inl ⟨_, rfl⟩)) ?_
    refine bn_gR_c fun p2 => ?_
    refine Eq.trans (be_aload_n bd_2_12 rfl) ?_
    refine Eq.trans (be_getI bd_2_13 bf_0_28 rfl) ?_
    refine bn_gI_c fun x3 => ?_
    refine Eq.trans (be_iload_n bd_2_16 rfl) ?_
    refine Eq.trans (be_iastore bd_2_17) ?_
    refine bn_bd_c fun h4 => ?_
    refine Eq.trans (be_aload_n bd_2_18 rfl) ?_
    refine Eq.trans (be_getR bd_2_19 bf_0_35 rfl (Or.inl ⟨_, rfl⟩)) ?_
    refine bn_gR_c fun p5 => ?_
    refine Eq.trans (be_aload_n bd_2_22 rfl) ?_
    refine Eq.trans (be_getI bd_2_23 bf_0_28 rfl) ?_
    refine bn_gI_c fun x6 => ?_
    refine Eq.trans (be_iconst (v := 0) bd_2_26 (by decide)) ?_
    refine Eq.trans (be_bastore bd_2_27) ?_
    refine bn_bd_c fun h7 => ?_
    refine Eq.trans (be_aload_n bd_2_28 rfl) ?_
    refine Eq.trans (be_getR bd_2_29 bf_0_39 rfl (Or.inl ⟨_, rfl⟩)) ?_
    refine bn_gR_c fun p8 => ?_
    refine Eq.trans (be_aload_n bd_2_32 rfl) ?_
    refine Eq.trans (be_getI bd_2_33 bf_0_28 rfl) ?_
    refine bn_gI_c fun x9 => ?_
    refine Eq.trans (be_iconst (v := 0) bd_2_36 (by decide)) ?_
    refine Eq.trans (be_iastore bd_2_37) ?_
    refine bn_bd_c fun h10 => ?_
    refine Eq.trans (be_aload_n bd_2_38 rfl) ?_
    refine Eq.trans (be_dup bd_2_39 rfl) ?_
    refine Eq.trans (be_getI bd_2_40 bf_0_28 rfl) ?_
    refine bn_gI_c fun x11 => ?_
    refine Eq.trans (be_iconst (v := 1) bd_2_43 (by decide)) ?_
    refine Eq.trans (be_iadd bd_2_44) ?_
    refine Eq.trans (be_putI bd_2_45 bf_0_28 rfl rfl) ?_
    refine bn_bd_c fun h12 => ?_
    exact be_return bd_2_48 rfl
theorem bs_X0_addLoaf_0 (a0 : Nat) (a1 : Int32) (a2 : Int32) (a3 : Int32) (h : bn_H) : bn_ev 3 0 [some (.ref a0), some (.int a1), some (.int a2), some (.int a3)] [] h = bn_gI h a0 0 9 (fun x1 => if 10 ≤ x1 then (some (none, h)) else (bn_gR h a0 0 10 (fun p2 => bn_gI h a0 0 9 (fun x3 => (bn_sd h p2 0 x3 a1).bind (fun h4 => bn_gR h4 a0 0 11 (fun p5 => bn_gI h4 a0 0 9 (fun x6 => (bn_sd h4 p5 0 x6 a2).bind (fun h7 => bn_gR h7 a0 0 12 (fun p8 => bn_gI h7 a0 0 9 (fun x9 => (bn_sd h7 p8 0 x9 a3).bind (fun h10 => bn_gR h10 a0 0 13 (fun p11 => bn_gI h10 a0 0 9 (fun x12 => (bn_sd h10 p11 0 x12 (-9)).bind (fun h13 => bn_gR h13 a0 0 14 (fun p14 => bn_gI h13 a0 0 9 (fun x15 => (bn_sd h13 p14 0 x15 (-9)).bind (fun h16 => bn_gI h16 a0 0 9 (fun x17 => (bn_pf h16 a0 0 9 (.int (x17 + 1))).bind (fun h18 => some (none, h18)))))))))))))))))))) := by
  refine Eq.trans (be_aload_n bd_3_0 rfl) ?_
  refine Eq.trans (be_getI bd_3_1 bf_0_42 rfl) ?_
  refine bn_gI_c fun x1 => ?_
  refine Eq.trans (be_bipush (v := 10) bd_3_4 (by decide)) ?_
  refine Eq.trans (be_icmp_ge (t := 71) bd_3_6 rfl) ?_
  refine bn_if_c ?_ ?_
  · exact be_return bd_3_71 rfl
  · refine Eq.trans (be_aload_n bd_3_9 rfl) ?_
    refine Eq.trans (be_getR bd_3_10 bf_0_45 rfl (Or.inl ⟨_, rfl⟩)) ?_
    refine bn_gR_c fun p2 => ?_
    refine Eq.trans (be_aload_n bd_3_13 rfl) ?_
    refine Eq.trans (be_getI bd_3_14 bf_0_42 rfl) ?_
    refine bn_gI_c fun x3 => ?_
    refine Eq.trans (be_iload_n bd_3_17 rfl) ?_
    refine Eq.trans (be_iastore bd_3_18) ?_
    refine bn_bd_c fun h4 => ?_
    refine Eq.trans (be_aload_n bd_3_19 rfl) ?_
    refine Eq.trans (be_getR bd_3_20 bf_0_48 rfl (Or.inl ⟨_, rfl⟩)) ?_
    refine bn_gR_c fun p5 => ?_
    refine Eq.trans (be_aload_n bd_3_23 rfl) ?_
    refine Eq.trans (be_getI bd_3_24 bf_0_42 rfl) ?_
    refine bn_gI_c fun x6 => ?_
    refine Eq.trans (be_iload_n bd_3_27 rfl) ?_
    refine Eq.trans (be_iastore bd_3_28) ?_
    refine bn_bd_c fun h7 => ?_
    refine Eq.trans (be_aload_n bd_3_29 rfl) ?_
    refine Eq.trans (be_getR bd_3_30 bf_0_51 rfl (Or.inl ⟨_, rfl⟩)) ?_
    refine bn_gR_c fun p8 => ?_
    refine Eq.trans (be_aload_n bd_3_33 rfl) ?_
    refine Eq.trans (be_getI bd_3_34 bf_0_42 rfl) ?_
    refine bn_gI_c fun x9 => ?_
    refine Eq.trans (be_iload_n bd_3_37 rfl) ?_
    refine Eq.trans (be_iastore bd_3_38) ?_
    refine bn_bd_c fun h10 => ?_
    refine Eq.trans (be_aload_n bd_3_39 rfl) ?_
    refine Eq.trans (be_getR bd_3_40 bf_0_54 rfl (Or.inl ⟨_, rfl⟩)) ?_
    refine bn_gR_c fun p11 => ?_
    refine Eq.trans (be_aload_n bd_3_43 rfl) ?_
    refine Eq.trans (be_getI bd_3_44 bf_0_42 rfl) ?_
    refine bn_gI_c fun x12 => ?_
    refine Eq.trans (be_bipush (v := (-9)) bd_3_47 (by decide)) ?_
    refine Eq.trans (be_iastore bd_3_49) ?_
    refine bn_bd_c fun h13 => ?_
    refine Eq.trans (be_aload_n bd_3_50 rfl) ?_
    refine Eq.trans (be_getR bd_3_51 bf_0_57 rfl (Or.inl ⟨_, rfl⟩)) ?_
    refine bn_gR_c fun p14 => ?_
    refine Eq.trans (be_aload_n bd_3_54 rfl) ?_
    refine Eq.trans (be_getI bd_3_55 bf_0_42 rfl) ?_
    refine bn_gI_c fun x15 => ?_
    refine Eq.trans (be_bipush (v := (-9)) bd_3_58 (by decide)) ?_
    refine Eq.trans (be_iastore bd_3_60) ?_
    refine bn_bd_c fun h16 => ?_
    refine Eq.trans (be_aload_n bd_3_61 rfl) ?_
    refine Eq.trans (be_dup bd_3_62 rfl) ?_
    refine Eq.trans (be_getI bd_3_63 bf_0_42 rfl) ?_
    refine bn_gI_c fun x17 => ?_
    refine Eq.trans (be_iconst (v := 1) bd_3_66 (by decide)) ?_
    refine Eq.trans (be_iadd bd_3_67) ?_
    refine Eq.trans (be_putI bd_3_68 bf_0_42 rfl rfl) ?_
    refine bn_bd_c fun h18 => ?_
    exact be_return bd_3_71 rfl
theorem bs_X0_becomes_0 (a0 : Nat) (a1 : Nat) (h : bn_H) : bn_ev 4 0 [some (.ref a0), some (.ref a1), none] [] h = bn_gI h a1 0 0 (fun x1 => (bn_pf h a0 0 0 (.int x1)).bind (fun h2 => bn_gI h2 a1 0 1 (fun x3 => (bn_pf h2 a0 0 1 (.int x3)).bind (fun h4 => bn_gI h4 a1 0 2 (fun x5 => (bn_pf h4 a0 0 2 (.int x5)).bind (fun h6 => bn_gI h6 a1 0 3 (fun x7 => (bn_pf h6 a0 0 3 (.int x7)).bind (fun h8 => bn_gJ h8 a1 0 4 (fun y9 => (bn_pf h8 a0 0 4 (.long y9)).bind (fun h10 => bn_gI h10 a1 0 5 (fun x11 => (bn_pf h10 a0 0 5 (.int x11)).bind (fun h12 => bn_gR h12 a1 0 6 (fun p13 => bn_gR h12 a0 0 6 (fun p14 => (bn_cp h12 p13 0 p14 0 5).bind (fun h15 => bn_gR h15 a1 0 8 (fun p16 => bn_gR h15 a0 0 8 (fun p17 => (bn_cp h15 p16 0 p17 0 5).bind (fun h18 => bn_ev 4 78 [some (.ref a0), some (.ref a1), some (.int 0)] [] h18)))))))))))))))))) := by
  refine Eq.trans (be_aload_n bd_4_0 rfl) ?_
  refine Eq.trans (be_aload_n bd_4_1 rfl) ?_
  refine Eq.trans (be_getI bd_4_2 bf_0_9 rfl) ?_
  refine bn_gI_c fun x1 => ?_
  refine Eq.trans (be_putI bd_4_5 bf_0_9 rfl rfl) ?_
  refine bn_bd_c fun h2 => ?_
  refine Eq.trans (be_aload_n bd_4_8 rfl) ?_
  refine Eq.trans (be_aload_n bd_4_9 rfl) ?_
  refine Eq.trans (be_getI bd_4_10 bf_0_15 rfl) ?_
  refine bn_gI_c fun x3 => ?_
  refine Eq.trans (be_putI bd_4_13 bf_0_15 rfl rfl) ?_
  refine bn_bd_c fun h4 => ?_
  refine Eq.trans (be_aload_n bd_4_16 rfl) ?_
  refine Eq.trans (be_aload_n bd_4_17 rfl) ?_
  refine Eq.trans (be_getI bd_4_18 bf_0_18 rfl) ?_
  refine bn_gI_c fun x5 => ?_
  refine Eq.trans (be_putI bd_4_21 bf_0_18 rfl rfl) ?_
  refine bn_bd_c fun h6 => ?_
  refine Eq.trans (be_aload_n bd_4_24 rfl) ?_
  refine Eq.trans (be_aload_n bd_4_25 rfl) ?_
  refine Eq.trans (be_getI bd_4_26 bf_0_21 rfl) ?_
  refine bn_gI_c fun x7 => ?_
  refine Eq.trans (be_putI bd_4_29 bf_0_21 rfl rfl) ?_
  refine bn_bd_c fun h8 => ?_
  refine Eq.trans (be_aload_n bd_4_32 rfl) ?_
  refine Eq.trans (be_aload_n bd_4_33 rfl) ?_
  refine Eq.trans (be_getJ bd_4_34 bf_0_24 rfl) ?_
  refine bn_gJ_c fun y9 => ?_
  refine Eq.trans (be_putJ bd_4_37 bf_0_24 rfl rfl) ?_
  refine bn_bd_c fun h10 => ?_
  refine Eq.trans (be_aload_n bd_4_40 rfl) ?_
  refine Eq.trans (be_aload_n bd_4_41 rfl) ?_
  refine Eq.trans (be_getI bd_4_42 bf_0_28 rfl) ?_
  refine bn_gI_c fun x11 => ?_
  refine Eq.trans (be_putI bd_4_45 bf_0_28 rfl rfl) ?_
  refine bn_bd_c fun h12 => ?_
  refine Eq.trans (be_aload_n bd_4_48 rfl) ?_
  refine Eq.trans (be_getR bd_4_49 bf_0_31 rfl (Or.inl ⟨_, rfl⟩)) ?_
  refine bn_gR_c fun p13 => ?_
  refine Eq.trans (be_iconst (v := 0) bd_4_52 (by decide)) ?_
  refine Eq.trans (be_aload_n bd_4_53 rfl) ?_
  refine Eq.trans (be_getR bd_4_54 bf_0_31 rfl (Or.inl ⟨_, rfl⟩)) ?_
  refine bn_gR_c fun p14 => ?_
  refine Eq.trans (be_iconst (v := 0) bd_4_57 (by decide)) ?_
  refine Eq.trans (be_iconst (v := 5) bd_4_58 (by decide)) ?_
  refine Eq.trans (be_copy bd_4_59 bm_0_60 ⟨Nat.le_of_ble_eq_true rfl, Nat.le_of_ble_eq_true rfl, Nat.le_of_ble_eq_true rfl⟩) ?_
  refine bn_bd_c fun h15 => ?_
  refine Eq.trans (be_aload_n bd_4_62 rfl) ?_
  refine Eq.trans (be_getR bd_4_63 bf_0_39 rfl (Or.inl ⟨_, rfl⟩)) ?_
  refine bn_gR_c fun p16 => ?_
  refine Eq.trans (be_iconst (v := 0) bd_4_66 (by decide)) ?_
  refine Eq.trans (be_aload_n bd_4_67 rfl) ?_
  refine Eq.trans (be_getR bd_4_68 bf_0_39 rfl (Or.inl ⟨_, rfl⟩)) ?_
  refine bn_gR_c fun p17 => ?_
  refine Eq.trans (be_iconst (v := 0) bd_4_71 (by decide)) ?_
  refine Eq.trans (be_iconst (v := 5) bd_4_72 (by decide)) ?_
  refine Eq.trans (be_copy bd_4_73 bm_0_60 ⟨Nat.le_of_ble_eq_true rfl, Nat.le_of_ble_eq_true rfl, Nat.le_of_ble_eq_true rfl⟩) ?_
  refine bn_bd_c fun h18 => ?_
  refine Eq.trans (be_iconst (v := 0) bd_4_76 (by decide)) ?_
  refine Eq.trans (be_istore_n (ls' := [some (.ref a0), some (.ref a1), some (.int 0)]) bd_4_77 (Nat.le_of_ble_eq_true rfl) rfl) ?_
  rfl
theorem bs_X0_becomes_78 (a0 : Nat) (a1 : Nat) (a2 : Int32) (h : bn_H) : bn_ev 4 78 [some (.ref a0), some (.ref a1), some (.int a2)] [] h = if 5 ≤ a2 then (bn_gI h a1 0 9 (fun x1 => (bn_pf h a0 0 9 (.int x1)).bind (fun h2 => bn_gR h2 a1 0 10 (fun p3 => bn_gR h2 a0 0 10 (fun p4 => (bn_cp h2 p3 0 p4 0 10).bind (fun h5 => bn_gR h5 a1 0 11 (fun p6 => bn_gR h5 a0 0 11 (fun p7 => (bn_cp h5 p6 0 p7 0 10).bind (fun h8 => bn_gR h8 a1 0 12 (fun p9 => bn_gR h8 a0 0 12 (fun p10 => (bn_cp h8 p9 0 p10 0 10).bind (fun h11 => bn_gR h11 a1 0 13 (fun p12 => bn_gR h11 a0 0 13 (fun p13 => (bn_cp h11 p12 0 p13 0 10).bind (fun h14 => bn_gR h14 a1 0 14 (fun p15 => bn_gR h14 a0 0 14 (fun p16 => (bn_cp h14 p15 0 p16 0 10).bind (fun h17 => some (none, h17))))))))))))))))))) else (bn_gR h a0 0 7 (fun p18 => bn_gR h a1 0 7 (fun p19 => (bn_ld h p19 1 a2).bind (fun x20 => (bn_sd h p18 1 a2 (vp_nar .boolean x20)).bind (fun h21 => bn_ev 4 78 [some (.ref a0), some (.ref a1), some (.int (a2 + 1))] [] h21))))) := by
  refine Eq.trans (be_iload_n bd_4_78 rfl) ?_
  refine Eq.trans (be_iconst (v := 5) bd_4_79 (by decide)) ?_
  refine Eq.trans (be_icmp_ge (t := 101) bd_4_80 rfl) ?_
  refine bn_if_c ?_ ?_
  · refine Eq.trans (be_aload_n bd_4_101 rfl) ?_
    refine Eq.trans (be_aload_n bd_4_102 rfl) ?_
    refine Eq.trans (be_getI bd_4_103 bf_0_42 rfl) ?_
    refine bn_gI_c fun x1 => ?_
    refine Eq.trans (be_putI bd_4_106 bf_0_42 rfl rfl) ?_
    refine bn_bd_c fun h2 => ?_
    refine Eq.trans (be_aload_n bd_4_109 rfl) ?_
    refine Eq.trans (be_getR bd_4_110 bf_0_45 rfl (Or.inl ⟨_, rfl⟩)) ?_
    refine bn_gR_c fun p3 => ?_
    refine Eq.trans (be_iconst (v := 0) bd_4_113 (by decide)) ?_
    refine Eq.trans (be_aload_n bd_4_114 rfl) ?_
    refine Eq.trans (be_getR bd_4_115 bf_0_45 rfl (Or.inl ⟨_, rfl⟩)) ?_
    refine bn_gR_c fun p4 => ?_
    refine Eq.trans (be_iconst (v := 0) bd_4_118 (by decide)) ?_
    refine Eq.trans (be_bipush (v := 10) bd_4_119 (by decide)) ?_
    refine Eq.trans (be_copy bd_4_121 bm_0_60 ⟨Nat.le_of_ble_eq_true rfl, Nat.le_of_ble_eq_true rfl, Nat.le_of_ble_eq_true rfl⟩) ?_
    refine bn_bd_c fun h5 => ?_
    refine Eq.trans (be_aload_n bd_4_124 rfl) ?_
    refine Eq.trans (be_getR bd_4_125 bf_0_48 rfl (Or.inl ⟨_, rfl⟩)) ?_
    refine bn_gR_c fun p6 => ?_
    refine Eq.trans (be_iconst (v := 0) bd_4_128 (by decide)) ?_
    refine Eq.trans (be_aload_n bd_4_129 rfl) ?_
    refine Eq.trans (be_getR bd_4_130 bf_0_48 rfl (Or.inl ⟨_, rfl⟩)) ?_
    refine bn_gR_c fun p7 => ?_
    refine Eq.trans (be_iconst (v := 0) bd_4_133 (by decide)) ?_
    refine Eq.trans (be_bipush (v := 10) bd_4_134 (by decide)) ?_
    refine Eq.trans (be_copy bd_4_136 bm_0_60 ⟨Nat.le_of_ble_eq_true rfl, Nat.le_of_ble_eq_true rfl, Nat.le_of_ble_eq_true rfl⟩) ?_
    refine bn_bd_c fun h8 => ?_
    refine Eq.trans (be_aload_n bd_4_139 rfl) ?_
    refine Eq.trans (be_getR bd_4_140 bf_0_51 rfl (Or.inl ⟨_, rfl⟩)) ?_
    refine bn_gR_c fun p9 => ?_
    refine Eq.trans (be_iconst (v := 0) bd_4_143 (by decide)) ?_
    refine Eq.trans (be_aload_n bd_4_144 rfl) ?_
    refine Eq.trans (be_getR bd_4_145 bf_0_51 rfl (Or.inl ⟨_, rfl⟩)) ?_
    refine bn_gR_c fun p10 => ?_
    refine Eq.trans (be_iconst (v := 0) bd_4_148 (by decide)) ?_
    refine Eq.trans (be_bipush (v := 10) bd_4_149 (by decide)) ?_
    refine Eq.trans (be_copy bd_4_151 bm_0_60 ⟨Nat.le_of_ble_eq_true rfl, Nat.le_of_ble_eq_true rfl, Nat.le_of_ble_eq_true rfl⟩) ?_
    refine bn_bd_c fun h11 => ?_
    refine Eq.trans (be_aload_n bd_4_154 rfl) ?_
    refine Eq.trans (be_getR bd_4_155 bf_0_54 rfl (Or.inl ⟨_, rfl⟩)) ?_
    refine bn_gR_c fun p12 => ?_
    refine Eq.trans (be_iconst (v := 0) bd_4_158 (by decide)) ?_
    refine Eq.trans (be_aload_n bd_4_159 rfl) ?_
    refine Eq.trans (be_getR bd_4_160 bf_0_54 rfl (Or.inl ⟨_, rfl⟩)) ?_
    refine bn_gR_c fun p13 => ?_
    refine Eq.trans (be_iconst (v := 0) bd_4_163 (by decide)) ?_
    refine Eq.trans (be_bipush (v := 10) bd_4_164 (by decide)) ?_
    refine Eq.trans (be_copy bd_4_166 bm_0_60 ⟨Nat.le_of_ble_eq_true rfl, Nat.le_of_ble_eq_true rfl, Nat.le_of_ble_eq_true rfl⟩) ?_
    refine bn_bd_c fun h14 => ?_
    refine Eq.trans (be_aload_n bd_4_169 rfl) ?_
    refine Eq.trans (be_getR bd_4_170 bf_0_57 rfl (Or.inl ⟨_, rfl⟩)) ?_
    refine bn_gR_c fun p15 => ?_
    refine Eq.trans (be_iconst (v := 0) bd_4_173 (by decide)) ?_
    refine Eq.trans (be_aload_n bd_4_174 rfl) ?_
    refine Eq.trans (be_getR bd_4_175 bf_0_57 rfl (Or.inl ⟨_, rfl⟩)) ?_
    refine bn_gR_c fun p16 => ?_
    refine Eq.trans (be_iconst (v := 0) bd_4_178 (by decide)) ?_
    refine Eq.trans (be_bipush (v := 10) bd_4_179 (by decide)) ?_
    refine Eq.trans (be_copy bd_4_181 bm_0_60 ⟨Nat.le_of_ble_eq_true rfl, Nat.le_of_ble_eq_true rfl, Nat.le_of_ble_eq_true rfl⟩) ?_
    refine bn_bd_c fun h17 => ?_
    exact be_return bd_4_184 rfl
  · refine Eq.trans (be_aload_n bd_4_83 rfl) ?_
    refine Eq.trans (be_getR bd_4_84 bf_0_35 rfl (Or.inl ⟨_, rfl⟩)) ?_
    refine bn_gR_c fun p18 => ?_
    refine Eq.trans (be_iload_n bd_4_87 rfl) ?_
    refine Eq.trans (be_aload_n bd_4_88 rfl) ?_
    refine Eq.trans (be_getR bd_4_89 bf_0_35 rfl (Or.inl ⟨_, rfl⟩)) ?_
    refine bn_gR_c fun p19 => ?_
    refine Eq.trans (be_iload_n bd_4_92 rfl) ?_
    refine Eq.trans (be_baload bd_4_93) ?_
    refine bn_bd_c fun x20 => ?_
    refine Eq.trans (be_bastore bd_4_94) ?_
    refine bn_bd_c fun h21 => ?_
    refine Eq.trans (be_iinc (v := 1) (ls' := [some (.ref a0), some (.ref a1), some (.int (a2 + 1))]) bd_4_95 rfl (by decide) (Nat.le_of_ble_eq_true rfl) rfl) ?_
    refine Eq.trans (be_goto (t := 78) bd_4_98 rfl) ?_
    rfl
theorem bs_X0_hasPerson_0 (a0 : Nat) (a1 : Int32) (h : bn_H) : bn_ev 5 0 [some (.ref a0), some (.int a1)] [] h = if a1 < 0 then (some (some (.int 0), h)) else (bn_gI h a0 0 5 (fun x1 => if x1 ≤ a1 then (some (some (.int 0), h)) else (some (some (.int 1), h)))) := by
  refine Eq.trans (be_iload_n bd_5_0 rfl) ?_
  refine Eq.trans (be_if_lt (t := 16) bd_5_1 rfl) ?_
  refine bn_if_c ?_ ?_
  · refine Eq.trans (be_iconst (v := 0) bd_5_16 (by decide)) ?_
    exact be_z0 bd_5_17 rfl (Or.inl rfl)
  · refine Eq.trans (be_iload_n bd_5_4 rfl) ?_
    refine Eq.trans (be_aload_n bd_5_5 rfl) ?_
    refine Eq.trans (be_getI bd_5_6 bf_0_28 rfl) ?_
    refine bn_gI_c fun x1 => ?_
    refine Eq.trans (be_icmp_ge (t := 16) bd_5_9 rfl) ?_
    refine bn_if_c ?_ ?_
    · refine Eq.trans (be_iconst (v := 0) bd_5_16 (by decide)) ?_
      exact be_z0 bd_5_17 rfl (Or.inl rfl)
    · refine Eq.trans (be_iconst (v := 1) bd_5_12 (by decide)) ?_
      refine Eq.trans (be_goto (t := 17) bd_5_13 rfl) ?_
      exact be_z0 bd_5_17 rfl (Or.inr rfl)
theorem bs_X0_hasLoaf_0 (a0 : Nat) (a1 : Int32) (h : bn_H) : bn_ev 6 0 [some (.ref a0), some (.int a1)] [] h = if a1 < 0 then (some (some (.int 0), h)) else (bn_gI h a0 0 9 (fun x1 => if x1 ≤ a1 then (some (some (.int 0), h)) else (some (some (.int 1), h)))) := by
  refine Eq.trans (be_iload_n bd_6_0 rfl) ?_
  refine Eq.trans (be_if_lt (t := 16) bd_6_1 rfl) ?_
  refine bn_if_c ?_ ?_
  · refine Eq.trans (be_iconst (v := 0) bd_6_16 (by decide)) ?_
    exact be_z0 bd_6_17 rfl (Or.inl rfl)
  · refine Eq.trans (be_iload_n bd_6_4 rfl) ?_
    refine Eq.trans (be_aload_n bd_6_5 rfl) ?_
    refine Eq.trans (be_getI bd_6_6 bf_0_42 rfl) ?_
    refine bn_gI_c fun x1 => ?_
    refine Eq.trans (be_icmp_ge (t := 16) bd_6_9 rfl) ?_
    refine bn_if_c ?_ ?_
    · refine Eq.trans (be_iconst (v := 0) bd_6_16 (by decide)) ?_
      exact be_z0 bd_6_17 rfl (Or.inl rfl)
    · refine Eq.trans (be_iconst (v := 1) bd_6_12 (by decide)) ?_
      refine Eq.trans (be_goto (t := 17) bd_6_13 rfl) ?_
      exact be_z0 bd_6_17 rfl (Or.inr rfl)
theorem bs_X0_isAlive_0 (a0 : Nat) (a1 : Int32) (h : bn_H) : bn_ev 7 0 [some (.ref a0), some (.int a1)] [] h = bn_gR h a0 0 6 (fun p1 => (bn_ld h p1 0 a1).bind (fun x2 => bn_gI h a0 0 1 (fun x3 => some (some (.int (if x3 < x2 then 0 else 1)), h)))) := by
  refine Eq.trans (be_aload_n bd_7_0 rfl) ?_
  refine Eq.trans (be_getR bd_7_1 bf_0_31 rfl (Or.inl ⟨_, rfl⟩)) ?_
  refine bn_gR_c fun p1 => ?_
  refine Eq.trans (be_iload_n bd_7_4 rfl) ?_
  refine Eq.trans (be_iaload bd_7_5) ?_
  refine bn_bd_c fun x2 => ?_
  refine Eq.trans (be_aload_n bd_7_6 rfl) ?_
  refine Eq.trans (be_getI bd_7_7 bf_0_15 rfl) ?_
  refine bn_gI_c fun x3 => ?_
  refine Eq.trans (be_icmp_gt (t := 17) bd_7_10 rfl) ?_
  refine Eq.trans (bn_dia (J := 18) (a := 0) (b := 1) (by
      refine Eq.trans (be_iconst (v := 0) bd_7_17 (by decide)) ?_
      rfl) (by
      refine Eq.trans (be_iconst (v := 1) bd_7_13 (by decide)) ?_
      refine Eq.trans (be_goto (t := 18) bd_7_14 rfl) ?_
      rfl)) ?_
  exact be_z0 bd_7_18 rfl (by split <;> simp)
theorem bs_X0_isBad_0 (a0 : Nat) (a1 : Int32) (h : bn_H) : bn_ev 8 0 [some (.ref a0), some (.int a1)] [] h = bn_gR h a0 0 12 (fun p1 => (bn_ld h p1 0 a1).bind (fun x2 => bn_gI h a0 0 2 (fun x3 => some (some (.int (if x2 < x3 then 0 else 1)), h)))) := by
  refine Eq.trans (be_aload_n bd_8_0 rfl) ?_
  refine Eq.trans (be_getR bd_8_1 bf_0_51 rfl (Or.inl ⟨_, rfl⟩)) ?_
  refine bn_gR_c fun p1 => ?_
  refine Eq.trans (be_iload_n bd_8_4 rfl) ?_
  refine Eq.trans (be_iaload bd_8_5) ?_
  refine bn_bd_c fun x2 => ?_
  refine Eq.trans (be_aload_n bd_8_6 rfl) ?_
  refine Eq.trans (be_getI bd_8_7 bf_0_18 rfl) ?_
  refine bn_gI_c fun x3 => ?_
  refine Eq.trans (be_icmp_lt (t := 17) bd_8_10 rfl) ?_
  refine Eq.trans (bn_dia (J := 18) (a := 0) (b := 1) (by
      refine Eq.trans (be_iconst (v := 0) bd_8_17 (by decide)) ?_
      rfl) (by
      refine Eq.trans (be_iconst (v := 1) bd_8_13 (by decide)) ?_
      refine Eq.trans (be_goto (t := 18) bd_8_14 rfl) ?_
      rfl)) ?_
  exact be_z0 bd_8_18 rfl (by split <;> simp)
theorem bs_X0_isHeldByAnyone_0 (a0 : Nat) (a1 : Int32) (h : bn_H) : bn_ev 9 0 [some (.ref a0), some (.int a1)] [] h = bn_gR h a0 0 11 (fun p1 => (bn_ld h p1 0 a1).bind (fun x2 => some (some (.int (if 10 ≤ x2 then 0 else 1)), h))) := by
  refine Eq.trans (be_aload_n bd_9_0 rfl) ?_
  refine Eq.trans (be_getR bd_9_1 bf_0_48 rfl (Or.inl ⟨_, rfl⟩)) ?_
  refine bn_gR_c fun p1 => ?_
  refine Eq.trans (be_iload_n bd_9_4 rfl) ?_
  refine Eq.trans (be_iaload bd_9_5) ?_
  refine bn_bd_c fun x2 => ?_
  refine Eq.trans (be_bipush (v := 10) bd_9_6 (by decide)) ?_
  refine Eq.trans (be_icmp_ge (t := 15) bd_9_8 rfl) ?_
  refine Eq.trans (bn_dia (J := 16) (a := 0) (b := 1) (by
      refine Eq.trans (be_iconst (v := 0) bd_9_15 (by decide)) ?_
      rfl) (by
      refine Eq.trans (be_iconst (v := 1) bd_9_11 (by decide)) ?_
      refine Eq.trans (be_goto (t := 16) bd_9_12 rfl) ?_
      rfl)) ?_
  exact be_z0 bd_9_16 rfl (by split <;> simp)
theorem bs_X0_aliveBits_0 (a0 : Nat) (h : bn_H) : bn_ev 10 0 [some (.ref a0), none, none] [] h = bn_ev 10 4 [some (.ref a0), some (.int 0), some (.int 0)] [] h := by
  refine Eq.trans (be_iconst (v := 0) bd_10_0 (by decide)) ?_
  refine Eq.trans (be_istore_n (ls' := [some (.ref a0), some (.int 0), none]) bd_10_1 (Nat.le_of_ble_eq_true rfl) rfl) ?_
  refine Eq.trans (be_iconst (v := 0) bd_10_2 (by decide)) ?_
  refine Eq.trans (be_istore_n (ls' := [some (.ref a0), some (.int 0), some (.int 0)]) bd_10_3 (Nat.le_of_ble_eq_true rfl) rfl) ?_
  rfl
theorem bs_X0_aliveBits_4 (a0 : Nat) (a1 : Int32) (a2 : Int32) (h : bn_H) : bn_ev 10 4 [some (.ref a0), some (.int a1), some (.int a2)] [] h = bn_gI h a0 0 5 (fun x1 => if x1 ≤ a2 then (some (some (.int a1), h)) else (bn_gd (bn_isC h a0 0) (bn_cI (bn_ev 7 0 [some (.ref a0), some (.int a2)] [] h) (fun x3 h2 => if x3 = 0 then (bn_ev 10 4 [some (.ref a0), some (.int a1), some (.int (a2 + 1))] [] h2) else (bn_ev 10 4 [some (.ref a0), some (.int (a1 ||| (bn_shl 1 a2))), some (.int (a2 + 1))] [] h2))))) := by
  refine Eq.trans (be_iload_n bd_10_4 rfl) ?_
  refine Eq.trans (be_aload_n bd_10_5 rfl) ?_
  refine Eq.trans (be_getI bd_10_6 bf_0_28 rfl) ?_
  refine bn_gI_c fun x1 => ?_
  refine Eq.trans (be_icmp_ge (t := 32) bd_10_9 rfl) ?_
  refine bn_if_c ?_ ?_
  · refine Eq.trans (be_iload_n bd_10_32 rfl) ?_
    exact be_ireturn bd_10_33 rfl
  · refine Eq.trans (be_aload_n bd_10_12 rfl) ?_
    refine Eq.trans (be_iload_n bd_10_13 rfl) ?_
    refine Eq.trans (be_virtI (as := [.int a2]) (rr := []) (en := [some (.ref a0), some (.int a2)]) bd_10_14 bm_0_66 rfl rfl rfl ⟨Nat.le_of_ble_eq_true rfl, Nat.le_of_ble_eq_true rfl, Nat.le_of_ble_eq_true rfl, Nat.le_of_ble_eq_true rfl⟩ (Or.inr rfl)) ?_
    refine bn_gd_c (bn_cI_c fun x3 h2 => ?_)
    refine Eq.trans (be_if_eq (t := 26) bd_10_17 rfl) ?_
    refine bn_if_c ?_ ?_
    · refine Eq.trans (be_iinc (v := 1) (ls' := [some (.ref a0), some (.int a1), some (.int (a2 + 1))]) bd_10_26 rfl (by decide) (Nat.le_of_ble_eq_true rfl) rfl) ?_
      refine Eq.trans (be_goto (t := 4) bd_10_29 rfl) ?_
      rfl
    · refine Eq.trans (be_iload_n bd_10_20 rfl) ?_
      refine Eq.trans (be_iconst (v := 1) bd_10_21 (by decide)) ?_
      refine Eq.trans (be_iload_n bd_10_22 rfl) ?_
      refine Eq.trans (be_ishl bd_10_23) ?_
      refine Eq.trans (be_ior bd_10_24) ?_
      refine Eq.trans (be_istore_n (ls' := [some (.ref a0), some (.int (a1 ||| (bn_shl 1 a2))), some (.int a2)]) bd_10_25 (Nat.le_of_ble_eq_true rfl) rfl) ?_
      refine Eq.trans (be_iinc (v := 1) (ls' := [some (.ref a0), some (.int (a1 ||| (bn_shl 1 a2))), some (.int (a2 + 1))]) bd_10_26 rfl (by decide) (Nat.le_of_ble_eq_true rfl) rfl) ?_
      refine Eq.trans (be_goto (t := 4) bd_10_29 rfl) ?_
      rfl
theorem bs_X0_aliveCount_0 (a0 : Nat) (h : bn_H) : bn_ev 11 0 [some (.ref a0)] [] h = bn_gd (bn_isC h a0 0) (bn_cI (bn_ev 10 0 [some (.ref a0), none, none] [] h) (fun x2 h1 => bn_cI (bn_ev 129 0 [some (.int x2)] [] h1) (fun x4 h3 => some (some (.int x4), h3)))) := by
  refine Eq.trans (be_aload_n bd_11_0 rfl) ?_
  refine Eq.trans (be_virtI (as := []) (rr := []) (en := [some (.ref a0), none, none]) bd_11_1 bm_0_70 rfl rfl rfl ⟨Nat.le_of_ble_eq_true rfl, Nat.le_of_ble_eq_true rfl, Nat.le_of_ble_eq_true rfl, Nat.le_of_ble_eq_true rfl⟩ (Or.inl rfl)) ?_
  refine bn_gd_c (bn_cI_c fun x2 h1 => ?_)
  refine Eq.trans (be_statI (as := [.int x2]) (rr := []) (en := [some (.int x2)]) bd_11_4 bm_0_74 rfl rfl rfl ⟨Nat.le_of_ble_eq_true rfl, Nat.le_of_ble_eq_true rfl, Nat.le_of_ble_eq_true rfl, Nat.le_of_ble_eq_true rfl⟩ (Or.inl rfl)) ?_
  refine bn_cI_c fun x4 h3 => ?_
  exact be_ireturn bd_11_7 rfl
theorem bs_X0_aliveAt_0 (a0 : Nat) (a1 : Int32) (h : bn_H) : bn_ev 12 0 [some (.ref a0), some (.int a1), none, none] [] h = bn_ev 12 4 [some (.ref a0), some (.int a1), some (.int a1), some (.int 0)] [] h := by
  refine Eq.trans (be_iload_n bd_12_0 rfl) ?_
  refine Eq.trans (be_istore_n (ls' := [some (.ref a0), some (.int a1), some (.int a1), none]) bd_12_1 (Nat.le_of_ble_eq_true rfl) rfl) ?_
  refine Eq.trans (be_iconst (v := 0) bd_12_2 (by decide)) ?_
  refine Eq.trans (be_istore_n (ls' := [some (.ref a0), some (.int a1), some (.int a1), some (.int 0)]) bd_12_3 (Nat.le_of_ble_eq_true rfl) rfl) ?_
  rfl
theorem bs_X0_aliveAt_4 (a0 : Nat) (a1 : Int32) (a2 : Int32) (a3 : Int32) (h : bn_H) : bn_ev 12 4 [some (.ref a0), some (.int a1), some (.int a2), some (.int a3)] [] h = bn_gI h a0 0 5 (fun x1 => if x1 ≤ a3 then (some (some (.int (-9)), h)) else (bn_gd (bn_isC h a0 0) (bn_cI (bn_ev 7 0 [some (.ref a0), some (.int a3)] [] h) (fun x3 h2 => if x3 = 0 then (bn_ev 12 4 [some (.ref a0), some (.int a1), some (.int a2), some (.int (a3 + 1))] [] h2) else (if a2 = 0 then (some (some (.int a3), h2)) else (bn_ev 12 4 [some (.ref a0), some (.int a1), some (.int (a2 + (-1))), some (.int (a3 + 1))] [] h2)))))) := by
  refine Eq.trans (be_iload_n bd_12_4 rfl) ?_
  refine Eq.trans (be_aload_n bd_12_5 rfl) ?_
  refine Eq.trans (be_getI bd_12_6 bf_0_28 rfl) ?_
  refine bn_gI_c fun x1 => ?_
  refine Eq.trans (be_icmp_ge (t := 35) bd_12_9 rfl) ?_
  refine bn_if_c ?_ ?_
  · refine Eq.trans (be_bipush (v := (-9)) bd_12_35 (by decide)) ?_
    exact be_ireturn bd_12_37 rfl
  · refine Eq.trans (be_aload_n bd_12_12 rfl) ?_
    refine Eq.trans (be_iload_n bd_12_13 rfl) ?_
    refine Eq.trans (be_virtI (as := [.int a3]) (rr := []) (en := [some (.ref a0), some (.int a3)]) bd_12_14 bm_0_66 rfl rfl rfl ⟨Nat.le_of_ble_eq_true rfl, Nat.le_of_ble_eq_true rfl, Nat.le_of_ble_eq_true rfl, Nat.le_of_ble_eq_true rfl⟩ (Or.inr rfl)) ?_
    refine bn_gd_c (bn_cI_c fun x3 h2 => ?_)
    refine Eq.trans (be_if_eq (t := 29) bd_12_17 rfl) ?_
    refine bn_if_c ?_ ?_
    · refine Eq.trans (be_iinc (v := 1) (ls' := [some (.ref a0), some (.int a1), some (.int a2), some (.int (a3 + 1))]) bd_12_29 rfl (by decide) (Nat.le_of_ble_eq_true rfl) rfl) ?_
      refine Eq.trans (be_goto (t := 4) bd_12_32 rfl) ?_
      rfl
    · refine Eq.trans (be_iload_n bd_12_20 rfl) ?_
      refine Eq.trans (be_if_ne (t := 26) bd_12_21 rfl) ?_
      refine bn_if_c ?_ ?_
      · refine Eq.trans (be_iload_n bd_12_24 rfl) ?_
        exact be_ireturn bd_12_25 rfl
      · refine Eq.trans (be_iinc (v := (-1)) (ls' := [some (.ref a0), some (.int a1), some (.int (a2 + (-1))), some (.int a3)]) bd_12_26 rfl (by decide) (Nat.le_of_ble_eq_true rfl) rfl) ?_
        refine Eq.trans (be_iinc (v := 1) (ls' := [some (.ref a0), some (.int a1), some (.int (a2 + (-1))), some (.int (a3 + 1))]) bd_12_29 rfl (by decide) (Nat.le_of_ble_eq_true rfl) rfl) ?_
        refine Eq.trans (be_goto (t := 4) bd_12_32 rfl) ?_
        rfl
theorem bs_X0_heldBits_0 (a0 : Nat) (a1 : Int32) (h : bn_H) : bn_ev 13 0 [some (.ref a0), some (.int a1), none, none] [] h = bn_ev 13 4 [some (.ref a0), some (.int a1), some (.int 0), some (.int 0)] [] h := by
  refine Eq.trans (be_iconst (v := 0) bd_13_0 (by decide)) ?_
  refine Eq.trans (be_istore_n (ls' := [some (.ref a0), some (.int a1), some (.int 0), none]) bd_13_1 (Nat.le_of_ble_eq_true rfl) rfl) ?_
  refine Eq.trans (be_iconst (v := 0) bd_13_2 (by decide)) ?_
  refine Eq.trans (be_istore_n (ls' := [some (.ref a0), some (.int a1), some (.int 0), some (.int 0)]) bd_13_3 (Nat.le_of_ble_eq_true rfl) rfl) ?_
  rfl
theorem bs_X0_heldBits_4 (a0 : Nat) (a1 : Int32) (a2 : Int32) (a3 : Int32) (h : bn_H) : bn_ev 13 4 [some (.ref a0), some (.int a1), some (.int a2), some (.int a3)] [] h = bn_gI h a0 0 9 (fun x1 => if x1 ≤ a3 then (some (some (.int a2), h)) else (bn_gR h a0 0 11 (fun p2 => (bn_ld h p2 0 a3).bind (fun x3 => if x3 = a1 then (bn_ev 13 4 [some (.ref a0), some (.int a1), some (.int (a2 ||| (bn_shl 1 a3))), some (.int (a3 + 1))] [] h) else (bn_ev 13 4 [some (.ref a0), some (.int a1), some (.int a2), some (.int (a3 + 1))] [] h))))) := by
  refine Eq.trans (be_iload_n bd_13_4 rfl) ?_
  refine Eq.trans (be_aload_n bd_13_5 rfl) ?_
  refine Eq.trans (be_getI bd_13_6 bf_0_42 rfl) ?_
  refine bn_gI_c fun x1 => ?_
  refine Eq.trans (be_icmp_ge (t := 34) bd_13_9 rfl) ?_
  refine bn_if_c ?_ ?_
  · refine Eq.trans (be_iload_n bd_13_34 rfl) ?_
    exact be_ireturn bd_13_35 rfl
  · refine Eq.trans (be_aload_n bd_13_12 rfl) ?_
    refine Eq.trans (be_getR bd_13_13 bf_0_48 rfl (Or.inl ⟨_, rfl⟩)) ?_
    refine bn_gR_c fun p2 => ?_
    refine Eq.trans (be_iload_n bd_13_16 rfl) ?_
    refine Eq.trans (be_iaload bd_13_17) ?_
    refine bn_bd_c fun x3 => ?_
    refine Eq.trans (be_iload_n bd_13_18 rfl) ?_
    refine Eq.trans (be_icmp_ne (t := 28) bd_13_19 rfl) ?_
    refine bn_if_c ?_ ?_
    · refine Eq.trans (be_iload_n bd_13_22 rfl) ?_
      refine Eq.trans (be_iconst (v := 1) bd_13_23 (by decide)) ?_
      refine Eq.trans (be_iload_n bd_13_24 rfl) ?_
      refine Eq.trans (be_ishl bd_13_25) ?_
      refine Eq.trans (be_ior bd_13_26) ?_
      refine Eq.trans (be_istore_n (ls' := [some (.ref a0), some (.int a1), some (.int (a2 ||| (bn_shl 1 a3))), some (.int a3)]) bd_13_27 (Nat.le_of_ble_eq_true rfl) rfl) ?_
      refine Eq.trans (be_iinc (v := 1) (ls' := [some (.ref a0), some (.int a1), some (.int (a2 ||| (bn_shl 1 a3))), some (.int (a3 + 1))]) bd_13_28 rfl (by decide) (Nat.le_of_ble_eq_true rfl) rfl) ?_
      refine Eq.trans (be_goto (t := 4) bd_13_31 rfl) ?_
      rfl
    · refine Eq.trans (be_iinc (v := 1) (ls' := [some (.ref a0), some (.int a1), some (.int a2), some (.int (a3 + 1))]) bd_13_28 rfl (by decide) (Nat.le_of_ble_eq_true rfl) rfl) ?_
      refine Eq.trans (be_goto (t := 4) bd_13_31 rfl) ?_
      rfl
theorem bs_X0_isHeldByOthers_0 (a0 : Nat) (a1 : Int32) (a2 : Int32) (h : bn_H) : bn_ev 14 0 [some (.ref a0), some (.int a1), some (.int a2)] [] h = bn_gd (bn_isC h a0 0) (bn_cI (bn_ev 9 0 [some (.ref a0), some (.int a1)] [] h) (fun x2 h1 => if x2 = 0 then (some (some (.int 0), h1)) else (bn_gR h1 a0 0 11 (fun p3 => (bn_ld h1 p3 0 a1).bind (fun x4 => if x4 = a2 then (some (some (.int 0), h1)) else (some (some (.int 1), h1))))))) := by
  refine Eq.trans (be_aload_n bd_14_0 rfl) ?_
  refine Eq.trans (be_iload_n bd_14_1 rfl) ?_
  refine Eq.trans (be_virtI (as := [.int a1]) (rr := []) (en := [some (.ref a0), some (.int a1)]) bd_14_2 bm_0_80 rfl rfl rfl ⟨Nat.le_of_ble_eq_true rfl, Nat.le_of_ble_eq_true rfl, Nat.le_of_ble_eq_true rfl, Nat.le_of_ble_eq_true rfl⟩ (Or.inr rfl)) ?_
  refine bn_gd_c (bn_cI_c fun x2 h1 => ?_)
  refine Eq.trans (be_if_eq (t := 22) bd_14_5 rfl) ?_
  refine bn_if_c ?_ ?_
  · refine Eq.trans (be_iconst (v := 0) bd_14_22 (by decide)) ?_
    exact be_z0 bd_14_23 rfl (Or.inl rfl)
  · refine Eq.trans (be_aload_n bd_14_8 rfl) ?_
    refine Eq.trans (be_getR bd_14_9 bf_0_48 rfl (Or.inl ⟨_, rfl⟩)) ?_
    refine bn_gR_c fun p3 => ?_
    refine Eq.trans (be_iload_n bd_14_12 rfl) ?_
    refine Eq.trans (be_iaload bd_14_13) ?_
    refine bn_bd_c fun x4 => ?_
    refine Eq.trans (be_iload_n bd_14_14 rfl) ?_
    refine Eq.trans (be_icmp_eq (t := 22) bd_14_15 rfl) ?_
    refine bn_if_c ?_ ?_
    · refine Eq.trans (be_iconst (v := 0) bd_14_22 (by decide)) ?_
      exact be_z0 bd_14_23 rfl (Or.inl rfl)
    · refine Eq.trans (be_iconst (v := 1) bd_14_18 (by decide)) ?_
      refine Eq.trans (be_goto (t := 23) bd_14_19 rfl) ?_
      exact be_z0 bd_14_23 rfl (Or.inr rfl)
theorem bs_X0_heldByOthersCount_0 (a0 : Nat) (a1 : Int32) (h : bn_H) : bn_ev 15 0 [some (.ref a0), some (.int a1), none, none] [] h = bn_ev 15 4 [some (.ref a0), some (.int a1), some (.int 0), some (.int 0)] [] h := by
  refine Eq.trans (be_iconst (v := 0) bd_15_0 (by decide)) ?_
  refine Eq.trans (be_istore_n (ls' := [some (.ref a0), some (.int a1), some (.int 0), none]) bd_15_1 (Nat.le_of_ble_eq_true rfl) rfl) ?_
  refine Eq.trans (be_iconst (v := 0) bd_15_2 (by decide)) ?_
  refine Eq.trans (be_istore_n (ls' := [some (.ref a0), some (.int a1), some (.int 0), some (.int 0)]) bd_15_3 (Nat.le_of_ble_eq_true rfl) rfl) ?_
  rfl
theorem bs_X0_heldByOthersCount_4 (a0 : Nat) (a1 : Int32) (a2 : Int32) (a3 : Int32) (h : bn_H) : bn_ev 15 4 [some (.ref a0), some (.int a1), some (.int a2), some (.int a3)] [] h = bn_gI h a0 0 9 (fun x1 => if x1 ≤ a3 then (some (some (.int a2), h)) else (bn_gd (bn_isC h a0 0) (bn_cI (bn_ev 14 0 [some (.ref a0), some (.int a3), some (.int a1)] [] h) (fun x3 h2 => if x3 = 0 then (bn_ev 15 4 [some (.ref a0), some (.int a1), some (.int a2), some (.int (a3 + 1))] [] h2) else (bn_ev 15 4 [some (.ref a0), some (.int a1), some (.int (a2 + 1)), some (.int (a3 + 1))] [] h2))))) := by
  refine Eq.trans (be_iload_n bd_15_4 rfl) ?_
  refine Eq.trans (be_aload_n bd_15_5 rfl) ?_
  refine Eq.trans (be_getI bd_15_6 bf_0_42 rfl) ?_
  refine bn_gI_c fun x1 => ?_
  refine Eq.trans (be_icmp_ge (t := 30) bd_15_9 rfl) ?_
  refine bn_if_c ?_ ?_
  · refine Eq.trans (be_iload_n bd_15_30 rfl) ?_
    exact be_ireturn bd_15_31 rfl
  · refine Eq.trans (be_aload_n bd_15_12 rfl) ?_
    refine Eq.trans (be_iload_n bd_15_13 rfl) ?_
    refine Eq.trans (be_iload_n bd_15_14 rfl) ?_
    refine Eq.trans (be_virtI (as := [.int a1, .int a3]) (rr := []) (en := [some (.ref a0), some (.int a3), some (.int a1)]) bd_15_15 bm_0_83 rfl rfl rfl ⟨Nat.le_of_ble_eq_true rfl, Nat.le_of_ble_eq_true rfl, Nat.le_of_ble_eq_true rfl, Nat.le_of_ble_eq_true rfl⟩ (Or.inr rfl)) ?_
    refine bn_gd_c (bn_cI_c fun x3 h2 => ?_)
    refine Eq.trans (be_if_eq (t := 24) bd_15_18 rfl) ?_
    refine bn_if_c ?_ ?_
    · refine Eq.trans (be_iinc (v := 1) (ls' := [some (.ref a0), some (.int a1), some (.int a2), some (.int (a3 + 1))]) bd_15_24 rfl (by decide) (Nat.le_of_ble_eq_true rfl) rfl) ?_
      refine Eq.trans (be_goto (t := 4) bd_15_27 rfl) ?_
      rfl
    · refine Eq.trans (be_iinc (v := 1) (ls' := [some (.ref a0), some (.int a1), some (.int (a2 + 1)), some (.int a3)]) bd_15_21 rfl (by decide) (Nat.le_of_ble_eq_true rfl) rfl) ?_
      refine Eq.trans (be_iinc (v := 1) (ls' := [some (.ref a0), some (.int a1), some (.int (a2 + 1)), some (.int (a3 + 1))]) bd_15_24 rfl (by decide) (Nat.le_of_ble_eq_true rfl) rfl) ?_
      refine Eq.trans (be_goto (t := 4) bd_15_27 rfl) ?_
      rfl
theorem bs_X0_heldByOthersAt_0 (a0 : Nat) (a1 : Int32) (a2 : Int32) (h : bn_H) : bn_ev 16 0 [some (.ref a0), some (.int a1), some (.int a2), none, none] [] h = bn_ev 16 5 [some (.ref a0), some (.int a1), some (.int a2), some (.int a2), some (.int 0)] [] h := by
  refine Eq.trans (be_iload_n bd_16_0 rfl) ?_
  refine Eq.trans (be_istore_n (ls' := [some (.ref a0), some (.int a1), some (.int a2), some (.int a2), none]) bd_16_1 (Nat.le_of_ble_eq_true rfl) rfl) ?_
  refine Eq.trans (be_iconst (v := 0) bd_16_2 (by decide)) ?_
  refine Eq.trans (be_istore (ls' := [some (.ref a0), some (.int a1), some (.int a2), some (.int a2), some (.int 0)]) bd_16_3 (Nat.le_of_ble_eq_true rfl) rfl) ?_
  rfl
theorem bs_X0_heldByOthersAt_5 (a0 : Nat) (a1 : Int32) (a2 : Int32) (a3 : Int32) (a4 : Int32) (h : bn_H) : bn_ev 16 5 [some (.ref a0), some (.int a1), some (.int a2), some (.int a3), some (.int a4)] [] h = bn_gI h a0 0 9 (fun x1 => if x1 ≤ a4 then (some (some (.int (-9)), h)) else (bn_gd (bn_isC h a0 0) (bn_cI (bn_ev 14 0 [some (.ref a0), some (.int a4), some (.int a1)] [] h) (fun x3 h2 => if x3 = 0 then (bn_ev 16 5 [some (.ref a0), some (.int a1), some (.int a2), some (.int a3), some (.int (a4 + 1))] [] h2) else (if a3 = 0 then (some (some (.int a4), h2)) else (bn_ev 16 5 [some (.ref a0), some (.int a1), some (.int a2), some (.int (a3 + (-1))), some (.int (a4 + 1))] [] h2)))))) := by
  refine Eq.trans (be_iload bd_16_5 rfl) ?_
  refine Eq.trans (be_aload_n bd_16_7 rfl) ?_
  refine Eq.trans (be_getI bd_16_8 bf_0_42 rfl) ?_
  refine bn_gI_c fun x1 => ?_
  refine Eq.trans (be_icmp_ge (t := 40) bd_16_11 rfl) ?_
  refine bn_if_c ?_ ?_
  · refine Eq.trans (be_bipush (v := (-9)) bd_16_40 (by decide)) ?_
    exact be_ireturn bd_16_42 rfl
  · refine Eq.trans (be_aload_n bd_16_14 rfl) ?_
    refine Eq.trans (be_iload bd_16_15 rfl) ?_
    refine Eq.trans (be_iload_n bd_16_17 rfl) ?_
    refine Eq.trans (be_virtI (as := [.int a1, .int a4]) (rr := []) (en := [some (.ref a0), some (.int a4), some (.int a1)]) bd_16_18 bm_0_83 rfl rfl rfl ⟨Nat.le_of_ble_eq_true rfl, Nat.le_of_ble_eq_true rfl, Nat.le_of_ble_eq_true rfl, Nat.le_of_ble_eq_true rfl⟩ (Or.inr rfl)) ?_
    refine bn_gd_c (bn_cI_c fun x3 h2 => ?_)
    refine Eq.trans (be_if_eq (t := 34) bd_16_21 rfl) ?_
    refine bn_if_c ?_ ?_
    · refine Eq.trans (be_iinc (v := 1) (ls' := [some (.ref a0), some (.int a1), some (.int a2), some (.int a3), some (.int (a4 + 1))]) bd_16_34 rfl (by decide) (Nat.le_of_ble_eq_true rfl) rfl) ?_
      refine Eq.trans (be_goto (t := 5) bd_16_37 rfl) ?_
      rfl
    · refine Eq.trans (be_iload_n bd_16_24 rfl) ?_
      refine Eq.trans (be_if_ne (t := 31) bd_16_25 rfl) ?_
      refine bn_if_c ?_ ?_
      · refine Eq.trans (be_iload bd_16_28 rfl) ?_
        exact be_ireturn bd_16_30 rfl
      · refine Eq.trans (be_iinc (v := (-1)) (ls' := [some (.ref a0), some (.int a1), some (.int a2), some (.int (a3 + (-1))), some (.int a4)]) bd_16_31 rfl (by decide) (Nat.le_of_ble_eq_true rfl) rfl) ?_
        refine Eq.trans (be_iinc (v := 1) (ls' := [some (.ref a0), some (.int a1), some (.int a2), some (.int (a3 + (-1))), some (.int (a4 + 1))]) bd_16_34 rfl (by decide) (Nat.le_of_ble_eq_true rfl) rfl) ?_
        refine Eq.trans (be_goto (t := 5) bd_16_37 rfl) ?_
        rfl
theorem bs_X0_eatenLoaves_0 (a0 : Nat) (h : bn_H) : bn_ev 17 0 [some (.ref a0), none, none] [] h = bn_ev 17 4 [some (.ref a0), some (.int 0), some (.int 0)] [] h := by
  refine Eq.trans (be_iconst (v := 0) bd_17_0 (by decide)) ?_
  refine Eq.trans (be_istore_n (ls' := [some (.ref a0), some (.int 0), none]) bd_17_1 (Nat.le_of_ble_eq_true rfl) rfl) ?_
  refine Eq.trans (be_iconst (v := 0) bd_17_2 (by decide)) ?_
  refine Eq.trans (be_istore_n (ls' := [some (.ref a0), some (.int 0), some (.int 0)]) bd_17_3 (Nat.le_of_ble_eq_true rfl) rfl) ?_
  rfl
theorem bs_X0_eatenLoaves_4 (a0 : Nat) (a1 : Int32) (a2 : Int32) (h : bn_H) : bn_ev 17 4 [some (.ref a0), some (.int a1), some (.int a2)] [] h = bn_gI h a0 0 9 (fun x1 => if x1 ≤ a2 then (some (some (.int a1), h)) else (bn_gR h a0 0 11 (fun p2 => (bn_ld h p2 0 a2).bind (fun x3 => if x3 = 20 then (bn_ev 17 4 [some (.ref a0), some (.int (a1 + 1)), some (.int (a2 + 1))] [] h) else (bn_ev 17 4 [some (.ref a0), some (.int a1), some (.int (a2 + 1))] [] h))))) := by
  refine Eq.trans (be_iload_n bd_17_4 rfl) ?_
  refine Eq.trans (be_aload_n bd_17_5 rfl) ?_
  refine Eq.trans (be_getI bd_17_6 bf_0_42 rfl) ?_
  refine bn_gI_c fun x1 => ?_
  refine Eq.trans (be_icmp_ge (t := 32) bd_17_9 rfl) ?_
  refine bn_if_c ?_ ?_
  · refine Eq.trans (be_iload_n bd_17_32 rfl) ?_
    exact be_ireturn bd_17_33 rfl
  · refine Eq.trans (be_aload_n bd_17_12 rfl) ?_
    refine Eq.trans (be_getR bd_17_13 bf_0_48 rfl (Or.inl ⟨_, rfl⟩)) ?_
    refine bn_gR_c fun p2 => ?_
    refine Eq.trans (be_iload_n bd_17_16 rfl) ?_
    refine Eq.trans (be_iaload bd_17_17) ?_
    refine bn_bd_c fun x3 => ?_
    refine Eq.trans (be_bipush (v := 20) bd_17_18 (by decide)) ?_
    refine Eq.trans (be_icmp_ne (t := 26) bd_17_20 rfl) ?_
    refine bn_if_c ?_ ?_
    · refine Eq.trans (be_iinc (v := 1) (ls' := [some (.ref a0), some (.int (a1 + 1)), some (.int a2)]) bd_17_23 rfl (by decide) (Nat.le_of_ble_eq_true rfl) rfl) ?_
      refine Eq.trans (be_iinc (v := 1) (ls' := [some (.ref a0), some (.int (a1 + 1)), some (.int (a2 + 1))]) bd_17_26 rfl (by decide) (Nat.le_of_ble_eq_true rfl) rfl) ?_
      refine Eq.trans (be_goto (t := 4) bd_17_29 rfl) ?_
      rfl
    · refine Eq.trans (be_iinc (v := 1) (ls' := [some (.ref a0), some (.int a1), some (.int (a2 + 1))]) bd_17_26 rfl (by decide) (Nat.le_of_ble_eq_true rfl) rfl) ?_
      refine Eq.trans (be_goto (t := 4) bd_17_29 rfl) ?_
      rfl
theorem bs_X0_badLoaves_0 (a0 : Nat) (h : bn_H) : bn_ev 18 0 [some (.ref a0), none, none] [] h = bn_ev 18 4 [some (.ref a0), some (.int 0), some (.int 0)] [] h := by
  refine Eq.trans (be_iconst (v := 0) bd_18_0 (by decide)) ?_
  refine Eq.trans (be_istore_n (ls' := [some (.ref a0), some (.int 0), none]) bd_18_1 (Nat.le_of_ble_eq_true rfl) rfl) ?_
  refine Eq.trans (be_iconst (v := 0) bd_18_2 (by decide)) ?_
  refine Eq.trans (be_istore_n (ls' := [some (.ref a0), some (.int 0), some (.int 0)]) bd_18_3 (Nat.le_of_ble_eq_true rfl) rfl) ?_
  rfl
theorem bs_X0_badLoaves_4 (a0 : Nat) (a1 : Int32) (a2 : Int32) (h : bn_H) : bn_ev 18 4 [some (.ref a0), some (.int a1), some (.int a2)] [] h = bn_gI h a0 0 9 (fun x1 => if x1 ≤ a2 then (some (some (.int a1), h)) else (bn_gR h a0 0 11 (fun p2 => (bn_ld h p2 0 a2).bind (fun x3 => if x3 = 20 then (bn_ev 18 4 [some (.ref a0), some (.int a1), some (.int (a2 + 1))] [] h) else (bn_gd (bn_isC h a0 0) (bn_cI (bn_ev 8 0 [some (.ref a0), some (.int a2)] [] h) (fun x5 h4 => if x5 = 0 then (bn_ev 18 4 [some (.ref a0), some (.int a1), some (.int (a2 + 1))] [] h4) else (bn_ev 18 4 [some (.ref a0), some (.int (a1 + 1)), some (.int (a2 + 1))] [] h4)))))))) := by
  refine Eq.trans (be_iload_n bd_18_4 rfl) ?_
  refine Eq.trans (be_aload_n bd_18_5 rfl) ?_
  refine Eq.trans (be_getI bd_18_6 bf_0_42 rfl) ?_
  refine bn_gI_c fun x1 => ?_
  refine Eq.trans (be_icmp_ge (t := 40) bd_18_9 rfl) ?_
  refine bn_if_c ?_ ?_
  · refine Eq.trans (be_iload_n bd_18_40 rfl) ?_
    exact be_ireturn bd_18_41 rfl
  · refine Eq.trans (be_aload_n bd_18_12 rfl) ?_
    refine Eq.trans (be_getR bd_18_13 bf_0_48 rfl (Or.inl ⟨_, rfl⟩)) ?_
    refine bn_gR_c fun p2 => ?_
    refine Eq.trans (be_iload_n bd_18_16 rfl) ?_
    refine Eq.trans (be_iaload bd_18_17) ?_
    refine bn_bd_c fun x3 => ?_
    refine Eq.trans (be_bipush (v := 20) bd_18_18 (by decide)) ?_
    refine Eq.trans (be_icmp_eq (t := 34) bd_18_20 rfl) ?_
    refine bn_if_c ?_ ?_
    · refine Eq.trans (be_iinc (v := 1) (ls' := [some (.ref a0), some (.int a1), some (.int (a2 + 1))]) bd_18_34 rfl (by decide) (Nat.le_of_ble_eq_true rfl) rfl) ?_
      refine Eq.trans (be_goto (t := 4) bd_18_37 rfl) ?_
      rfl
    · refine Eq.trans (be_aload_n bd_18_23 rfl) ?_
      refine Eq.trans (be_iload_n bd_18_24 rfl) ?_
      refine Eq.trans (be_virtI (as := [.int a2]) (rr := []) (en := [some (.ref a0), some (.int a2)]) bd_18_25 bm_0_87 rfl rfl rfl ⟨Nat.le_of_ble_eq_true rfl, Nat.le_of_ble_eq_true rfl, Nat.le_of_ble_eq_true rfl, Nat.le_of_ble_eq_true rfl⟩ (Or.inr rfl)) ?_
      refine bn_gd_c (bn_cI_c fun x5 h4 => ?_)
      refine Eq.trans (be_if_eq (t := 34) bd_18_28 rfl) ?_
      refine bn_if_c ?_ ?_
      · refine Eq.trans (be_iinc (v := 1) (ls' := [some (.ref a0), some (.int a1), some (.int (a2 + 1))]) bd_18_34 rfl (by decide) (Nat.le_of_ble_eq_true rfl) rfl) ?_
        refine Eq.trans (be_goto (t := 4) bd_18_37 rfl) ?_
        rfl
      · refine Eq.trans (be_iinc (v := 1) (ls' := [some (.ref a0), some (.int (a1 + 1)), some (.int a2)]) bd_18_31 rfl (by decide) (Nat.le_of_ble_eq_true rfl) rfl) ?_
        refine Eq.trans (be_iinc (v := 1) (ls' := [some (.ref a0), some (.int (a1 + 1)), some (.int (a2 + 1))]) bd_18_34 rfl (by decide) (Nat.le_of_ble_eq_true rfl) rfl) ?_
        refine Eq.trans (be_goto (t := 4) bd_18_37 rfl) ?_
        rfl
theorem bs_X0_hasNumber_0 (a0 : Nat) (a1 : Int32) (h : bn_H) : bn_ev 19 0 [some (.ref a0), some (.int a1), none] [] h = bn_ev 19 2 [some (.ref a0), some (.int a1), some (.int 0)] [] h := by
  refine Eq.trans (be_iconst (v := 0) bd_19_0 (by decide)) ?_
  refine Eq.trans (be_istore_n (ls' := [some (.ref a0), some (.int a1), some (.int 0)]) bd_19_1 (Nat.le_of_ble_eq_true rfl) rfl) ?_
  rfl
theorem bs_X0_hasNumber_2 (a0 : Nat) (a1 : Int32) (a2 : Int32) (h : bn_H) : bn_ev 19 2 [some (.ref a0), some (.int a1), some (.int a2)] [] h = bn_gI h a0 0 9 (fun x1 => if x1 ≤ a2 then (some (some (.int 0), h)) else (bn_gR h a0 0 10 (fun p2 => (bn_ld h p2 0 a2).bind (fun x3 => if x3 = a1 then (some (some (.int 1), h)) else (bn_ev 19 2 [some (.ref a0), some (.int a1), some (.int (a2 + 1))] [] h))))) := by
  refine Eq.trans (be_iload_n bd_19_2 rfl) ?_
  refine Eq.trans (be_aload_n bd_19_3 rfl) ?_
  refine Eq.trans (be_getI bd_19_4 bf_0_42 rfl) ?_
  refine bn_gI_c fun x1 => ?_
  refine Eq.trans (be_icmp_ge (t := 28) bd_19_7 rfl) ?_
  refine bn_if_c ?_ ?_
  · refine Eq.trans (be_iconst (v := 0) bd_19_28 (by decide)) ?_
    exact be_z0 bd_19_29 rfl (Or.inl rfl)
  · refine Eq.trans (be_aload_n bd_19_10 rfl) ?_
    refine Eq.trans (be_getR bd_19_11 bf_0_45 rfl (Or.inl ⟨_, rfl⟩)) ?_
    refine bn_gR_c fun p2 => ?_
    refine Eq.trans (be_iload_n bd_19_14 rfl) ?_
    refine Eq.trans (be_iaload bd_19_15) ?_
    refine bn_bd_c fun x3 => ?_
    refine Eq.trans (be_iload_n bd_19_16 rfl) ?_
    refine Eq.trans (be_icmp_ne (t := 22) bd_19_17 rfl) ?_
    refine bn_if_c ?_ ?_
    · refine Eq.trans (be_iconst (v := 1) bd_19_20 (by decide)) ?_
      exact be_z0 bd_19_21 rfl (Or.inr rfl)
    · refine Eq.trans (be_iinc (v := 1) (ls' := [some (.ref a0), some (.int a1), some (.int (a2 + 1))]) bd_19_22 rfl (by decide) (Nat.le_of_ble_eq_true rfl) rfl) ?_
      refine Eq.trans (be_goto (t := 2) bd_19_25 rfl) ?_
      rfl
theorem bs_X0_greatestNumber_0 (a0 : Nat) (h : bn_H) : bn_ev 20 0 [some (.ref a0), none, none] [] h = bn_ev 20 4 [some (.ref a0), some (.int 0), some (.int 0)] [] h := by
  refine Eq.trans (be_iconst (v := 0) bd_20_0 (by decide)) ?_
  refine Eq.trans (be_istore_n (ls' := [some (.ref a0), some (.int 0), none]) bd_20_1 (Nat.le_of_ble_eq_true rfl) rfl) ?_
  refine Eq.trans (be_iconst (v := 0) bd_20_2 (by decide)) ?_
  refine Eq.trans (be_istore_n (ls' := [some (.ref a0), some (.int 0), some (.int 0)]) bd_20_3 (Nat.le_of_ble_eq_true rfl) rfl) ?_
  rfl
theorem bs_X0_greatestNumber_4 (a0 : Nat) (a1 : Int32) (a2 : Int32) (h : bn_H) : bn_ev 20 4 [some (.ref a0), some (.int a1), some (.int a2)] [] h = bn_gI h a0 0 9 (fun x1 => if x1 ≤ a2 then (some (some (.int a1), h)) else (bn_gR h a0 0 10 (fun p2 => (bn_ld h p2 0 a2).bind (fun x3 => bn_ev 20 4 [some (.ref a0), some (.int (if a1 < x3 then x3 else a1)), some (.int (a2 + 1))] [] h)))) := by
  refine Eq.trans (be_iload_n bd_20_4 rfl) ?_
  refine Eq.trans (be_aload_n bd_20_5 rfl) ?_
  refine Eq.trans (be_getI bd_20_6 bf_0_42 rfl) ?_
  refine bn_gI_c fun x1 => ?_
  refine Eq.trans (be_icmp_ge (t := 29) bd_20_9 rfl) ?_
  refine bn_if_c ?_ ?_
  · refine Eq.trans (be_iload_n bd_20_29 rfl) ?_
    exact be_ireturn bd_20_30 rfl
  · refine Eq.trans (be_iload_n bd_20_12 rfl) ?_
    refine Eq.trans (be_aload_n bd_20_13 rfl) ?_
    refine Eq.trans (be_getR bd_20_14 bf_0_45 rfl (Or.inl ⟨_, rfl⟩)) ?_
    refine bn_gR_c fun p2 => ?_
    refine Eq.trans (be_iload_n bd_20_17 rfl) ?_
    refine Eq.trans (be_iaload bd_20_18) ?_
    refine bn_bd_c fun x3 => ?_
    refine Eq.trans (be_max bd_20_19 bm_0_90 ⟨Nat.le_of_ble_eq_true rfl, Nat.le_of_ble_eq_true rfl, Nat.le_of_ble_eq_true rfl⟩) ?_
    refine Eq.trans (be_istore_n (ls' := [some (.ref a0), some (.int (if a1 < x3 then x3 else a1)), some (.int a2)]) bd_20_22 (Nat.le_of_ble_eq_true rfl) rfl) ?_
    refine Eq.trans (be_iinc (v := 1) (ls' := [some (.ref a0), some (.int (if a1 < x3 then x3 else a1)), some (.int (a2 + 1))]) bd_20_23 rfl (by decide) (Nat.le_of_ble_eq_true rfl) rfl) ?_
    refine Eq.trans (be_goto (t := 4) bd_20_26 rfl) ?_
    rfl
theorem bs_X0_missingCount_0 (a0 : Nat) (h : bn_H) : bn_ev 21 0 [some (.ref a0), none, none, none] [] h = bn_gd (bn_isC h a0 0) (bn_cI (bn_ev 20 0 [some (.ref a0), none, none] [] h) (fun x2 h1 => bn_ev 21 9 [some (.ref a0), some (.int x2), some (.int 0), some (.int 1)] [] h1)) := by
  refine Eq.trans (be_aload_n bd_21_0 rfl) ?_
  refine Eq.trans (be_virtI (as := []) (rr := []) (en := [some (.ref a0), none, none]) bd_21_1 bm_0_96 rfl rfl rfl ⟨Nat.le_of_ble_eq_true rfl, Nat.le_of_ble_eq_true rfl, Nat.le_of_ble_eq_true rfl, Nat.le_of_ble_eq_true rfl⟩ (Or.inl rfl)) ?_
  refine bn_gd_c (bn_cI_c fun x2 h1 => ?_)
  refine Eq.trans (be_istore_n (ls' := [some (.ref a0), some (.int x2), none, none]) bd_21_4 (Nat.le_of_ble_eq_true rfl) rfl) ?_
  refine Eq.trans (be_iconst (v := 0) bd_21_5 (by decide)) ?_
  refine Eq.trans (be_istore_n (ls' := [some (.ref a0), some (.int x2), some (.int 0), none]) bd_21_6 (Nat.le_of_ble_eq_true rfl) rfl) ?_
  refine Eq.trans (be_iconst (v := 1) bd_21_7 (by decide)) ?_
  refine Eq.trans (be_istore_n (ls' := [some (.ref a0), some (.int x2), some (.int 0), some (.int 1)]) bd_21_8 (Nat.le_of_ble_eq_true rfl) rfl) ?_
  rfl
theorem bs_X0_missingCount_9 (a0 : Nat) (a1 : Int32) (a2 : Int32) (a3 : Int32) (h : bn_H) : bn_ev 21 9 [some (.ref a0), some (.int a1), some (.int a2), some (.int a3)] [] h = if a1 ≤ a3 then (some (some (.int a2), h)) else (bn_gd (bn_isC h a0 0) (bn_cI (bn_ev 19 0 [some (.ref a0), some (.int a3), none] [] h) (fun x2 h1 => if x2 = 0 then (bn_ev 21 9 [some (.ref a0), some (.int a1), some (.int (a2 + 1)), some (.int (a3 + 1))] [] h1) else (bn_ev 21 9 [some (.ref a0), some (.int a1), some (.int a2), some (.int (a3 + 1))] [] h1)))) := by
  refine Eq.trans (be_iload_n bd_21_9 rfl) ?_
  refine Eq.trans (be_iload_n bd_21_10 rfl) ?_
  refine Eq.trans (be_icmp_ge (t := 31) bd_21_11 rfl) ?_
  refine bn_if_c ?_ ?_
  · refine Eq.trans (be_iload_n bd_21_31 rfl) ?_
    exact be_ireturn bd_21_32 rfl
  · refine Eq.trans (be_aload_n bd_21_14 rfl) ?_
    refine Eq.trans (be_iload_n bd_21_15 rfl) ?_
    refine Eq.trans (be_virtI (as := [.int a3]) (rr := []) (en := [some (.ref a0), some (.int a3), none]) bd_21_16 bm_0_99 rfl rfl rfl ⟨Nat.le_of_ble_eq_true rfl, Nat.le_of_ble_eq_true rfl, Nat.le_of_ble_eq_true rfl, Nat.le_of_ble_eq_true rfl⟩ (Or.inr rfl)) ?_
    refine bn_gd_c (bn_cI_c fun x2 h1 => ?_)
    refine Eq.trans (be_if_ne (t := 25) bd_21_19 rfl) ?_
    refine bn_if_c ?_ ?_
    · refine Eq.trans (be_iinc (v := 1) (ls' := [some (.ref a0), some (.int a1), some (.int (a2 + 1)), some (.int a3)]) bd_21_22 rfl (by decide) (Nat.le_of_ble_eq_true rfl) rfl) ?_
      refine Eq.trans (be_iinc (v := 1) (ls' := [some (.ref a0), some (.int a1), some (.int (a2 + 1)), some (.int (a3 + 1))]) bd_21_25 rfl (by decide) (Nat.le_of_ble_eq_true rfl) rfl) ?_
      refine Eq.trans (be_goto (t := 9) bd_21_28 rfl) ?_
      rfl
    · refine Eq.trans (be_iinc (v := 1) (ls' := [some (.ref a0), some (.int a1), some (.int a2), some (.int (a3 + 1))]) bd_21_25 rfl (by decide) (Nat.le_of_ble_eq_true rfl) rfl) ?_
      refine Eq.trans (be_goto (t := 9) bd_21_28 rfl) ?_
      rfl
theorem bs_X0_isAllowed_0 (a0 : Nat) (a1 : Int32) (a2 : Int32) (h : bn_H) : bn_ev 22 0 [some (.ref a0), some (.int a1), some (.int a2)] [] h = bn_gd (bn_isC h a0 0) (bn_cI (bn_ev 7 0 [some (.ref a0), some (.int a1)] [] h) (fun x2 h1 => if x2 = 0 then (some (some (.int 0), h1)) else (bn_gR h1 a0 0 7 (fun p3 => (bn_ld h1 p3 1 a1).bind (fun x4 => if x4 = 0 then (bn_gR h1 a0 0 11 (fun p5 => (bn_ld h1 p5 0 a2).bind (fun x6 => if x6 = a1 then (bn_gd (bn_isC h1 a0 0) (bn_cI (bn_ev 8 0 [some (.ref a0), some (.int a2)] [] h1) (fun x8 h7 => if x8 = 0 then (bn_gR h7 a0 0 10 (fun p9 => (bn_ld h7 p9 0 a2).bind (fun x10 => bn_gd (bn_isC h7 a0 0) (bn_cI (bn_ev 23 0 [some (.ref a0), some (.int a1), some (.int x10), none, none] [] h7) (fun x12 h11 => if x12 = 0 then (some (some (.int 1), h11)) else (some (some (.int 0), h11))))))) else (some (some (.int 0), h7))))) else (some (some (.int 0), h1))))) else (some (some (.int 0), h1))))))) := by
  refine Eq.trans (be_aload_n bd_22_0 rfl) ?_
  refine Eq.trans (be_iload_n bd_22_1 rfl) ?_
  refine Eq.trans (be_virtI (as := [.int a1]) (rr := []) (en := [some (.ref a0), some (.int a1)]) bd_22_2 bm_0_66 rfl rfl rfl ⟨Nat.le_of_ble_eq_true rfl, Nat.le_of_ble_eq_true rfl, Nat.le_of_ble_eq_true rfl, Nat.le_of_ble_eq_true rfl⟩ (Or.inr rfl)) ?_
  refine bn_gd_c (bn_cI_c fun x2 h1 => ?_)
  refine Eq.trans (be_if_eq (t := 53) bd_22_5 rfl) ?_
  refine bn_if_c ?_ ?_
  · refine Eq.trans (be_iconst (v := 0) bd_22_53 (by decide)) ?_
    exact be_z0 bd_22_54 rfl (Or.inl rfl)
  · refine Eq.trans (be_aload_n bd_22_8 rfl) ?_
    refine Eq.trans (be_getR bd_22_9 bf_0_35 rfl (Or.inl ⟨_, rfl⟩)) ?_
    refine bn_gR_c fun p3 => ?_
    refine Eq.trans (be_iload_n bd_22_12 rfl) ?_
    refine Eq.trans (be_baload bd_22_13) ?_
    refine bn_bd_c fun x4 => ?_
    refine Eq.trans (be_if_ne (t := 53) bd_22_14 rfl) ?_
    refine bn_if_c ?_ ?_
    · refine Eq.trans (be_aload_n bd_22_17 rfl) ?_
      refine Eq.trans (be_getR bd_22_18 bf_0_48 rfl (Or.inl ⟨_, rfl⟩)) ?_
      refine bn_gR_c fun p5 => ?_
      refine Eq.trans (be_iload_n bd_22_21 rfl) ?_
      refine Eq.trans (be_iaload bd_22_22) ?_
      refine bn_bd_c fun x6 => ?_
      refine Eq.trans (be_iload_n bd_22_23 rfl) ?_
      refine Eq.trans (be_icmp_ne (t := 53) bd_22_24 rfl) ?_
      refine bn_if_c ?_ ?_
      · refine Eq.trans (be_aload_n bd_22_27 rfl) ?_
        refine Eq.trans (be_iload_n bd_22_28 rfl) ?_
        refine Eq.trans (be_virtI (as := [.int a2]) (rr := []) (en := [some (.ref a0), some (.int a2)]) bd_22_29 bm_0_87 rfl rfl rfl ⟨Nat.le_of_ble_eq_true rfl, Nat.le_of_ble_eq_true rfl, Nat.le_of_ble_eq_true rfl, Nat.le_of_ble_eq_true rfl⟩ (Or.inr rfl)) ?_
        refine bn_gd_c (bn_cI_c fun x8 h7 => ?_)
        refine Eq.trans (be_if_ne (t := 53) bd_22_32 rfl) ?_
        refine bn_if_c ?_ ?_
        · refine Eq.trans (be_aload_n bd_22_35 rfl) ?_
          refine Eq.trans (be_iload_n bd_22_36 rfl) ?_
          refine Eq.trans (be_aload_n bd_22_37 rfl) ?_
          refine Eq.trans (be_getR bd_22_38 bf_0_45 rfl (Or.inl ⟨_, rfl⟩)) ?_
          refine bn_gR_c fun p9 => ?_
          refine Eq.trans (be_iload_n bd_22_41 rfl) ?_
          refine Eq.trans (be_iaload bd_22_42) ?_
          refine bn_bd_c fun x10 => ?_
          refine Eq.trans (be_virtI (as := [.int x10, .int a1]) (rr := []) (en := [some (.ref a0), some (.int a1), some (.int x10), none, none]) bd_22_43 bm_0_102 rfl rfl rfl ⟨Nat.le_of_ble_eq_true rfl, Nat.le_of_ble_eq_true rfl, Nat.le_of_ble_eq_true rfl, Nat.le_of_ble_eq_true rfl⟩ (Or.inr rfl)) ?_
          refine bn_gd_c (bn_cI_c fun x12 h11 => ?_)
          refine Eq.trans (be_if_ne (t := 53) bd_22_46 rfl) ?_
          refine bn_if_c ?_ ?_
          · refine Eq.trans (be_iconst (v := 1) bd_22_49 (by decide)) ?_
            refine Eq.trans (be_goto (t := 54) bd_22_50 rfl) ?_
            exact be_z0 bd_22_54 rfl (Or.inr rfl)
          · refine Eq.trans (be_iconst (v := 0) bd_22_53 (by decide)) ?_
            exact be_z0 bd_22_54 rfl (Or.inl rfl)
        · refine Eq.trans (be_iconst (v := 0) bd_22_53 (by decide)) ?_
          exact be_z0 bd_22_54 rfl (Or.inl rfl)
      · refine Eq.trans (be_iconst (v := 0) bd_22_53 (by decide)) ?_
        exact be_z0 bd_22_54 rfl (Or.inl rfl)
    · refine Eq.trans (be_iconst (v := 0) bd_22_53 (by decide)) ?_
      exact be_z0 bd_22_54 rfl (Or.inl rfl)
theorem bs_X0_lawForbids_0 (a0 : Nat) (a1 : Int32) (a2 : Int32) (h : bn_H) : bn_ev 23 0 [some (.ref a0), some (.int a1), some (.int a2), none, none] [] h = bn_ev 23 2 [some (.ref a0), some (.int a1), some (.int a2), some (.int 0), none] [] h := by
  refine Eq.trans (be_iconst (v := 0) bd_23_0 (by decide)) ?_
  refine Eq.trans (be_istore_n (ls' := [some (.ref a0), some (.int a1), some (.int a2), some (.int 0), none]) bd_23_1 (Nat.le_of_ble_eq_true rfl) rfl) ?_
  rfl
theorem bs_X0_lawForbids_2 (a0 : Nat) (a1 : Int32) (a2 : Int32) (a3 : Int32) (o4 : Option Value) (h : bn_H) : bn_ev 23 2 [some (.ref a0), some (.int a1), some (.int a2), some (.int a3), o4] [] h = bn_gI h a0 0 9 (fun x1 => if x1 ≤ a3 then (some (some (.int 0), h)) else (bn_gI h a0 0 0 (fun x2 => if x2 = 0 then (bn_gR h a0 0 11 (fun p3 => (bn_ld h p3 0 a3).bind (fun x4 => if x4 = a1 then (if (1 : Int32) = 0 then (bn_ev 23 2 [some (.ref a0), some (.int a1), some (.int a2), some (.int (a3 + 1)), some (.int 1)] [] h) else (bn_gR h a0 0 10 (fun p5 => (bn_ld h p5 0 a3).bind (fun x6 => if a2 ≤ x6 then (bn_ev 23 2 [some (.ref a0), some (.int a1), some (.int a2), some (.int (a3 + 1)), some (.int 1)] [] h) else (bn_gd (bn_isC h a0 0) (bn_cI (bn_ev 8 0 [some (.ref a0), some (.int a3)] [] h) (fun x8 h7 => if x8 = 0 then (some (some (.int 1), h7)) else (bn_ev 23 2 [some (.ref a0), some (.int a1), some (.int a2), some (.int (a3 + 1)), some (.int 1)] [] h7)))))))) else (bn_ev 23 27 [some (.ref a0), some (.int a1), some (.int a2), some (.int a3), o4] [] h)))) else (bn_ev 23 27 [some (.ref a0), some (.int a1), some (.int a2), some (.int a3), o4] [] h)))) := by
  refine Eq.trans (be_iload_n bd_23_2 rfl) ?_
  refine Eq.trans (be_aload_n bd_23_3 rfl) ?_
  refine Eq.trans (be_getI bd_23_4 bf_0_42 rfl) ?_
  refine bn_gI_c fun x1 => ?_
  refine Eq.trans (be_icmp_ge (t := 81) bd_23_7 rfl) ?_
  refine bn_if_c ?_ ?_
  · refine Eq.trans (be_iconst (v := 0) bd_23_81 (by decide)) ?_
    exact be_z0 bd_23_82 rfl (Or.inl rfl)
  · refine Eq.trans (be_aload_n bd_23_10 rfl) ?_
    refine Eq.trans (be_getI bd_23_11 bf_0_9 rfl) ?_
    refine bn_gI_c fun x2 => ?_
    refine Eq.trans (be_if_ne (t := 27) bd_23_14 rfl) ?_
    refine bn_if_c ?_ ?_
    · refine Eq.trans (be_aload_n bd_23_17 rfl) ?_
      refine Eq.trans (be_getR bd_23_18 bf_0_48 rfl (Or.inl ⟨_, rfl⟩)) ?_
      refine bn_gR_c fun p3 => ?_
      refine Eq.trans (be_iload_n bd_23_21 rfl) ?_
      refine Eq.trans (be_iaload bd_23_22) ?_
      refine bn_bd_c fun x4 => ?_
      refine Eq.trans (be_iload_n bd_23_23 rfl) ?_
      refine Eq.trans (be_icmp_eq (t := 43) bd_23_24 rfl) ?_
      refine bn_if_c ?_ ?_
      · refine Eq.trans (be_iconst (v := 1) bd_23_43 (by decide)) ?_
        refine Eq.trans (be_goto (t := 48) bd_23_44 rfl) ?_
        refine Eq.trans (be_istore (ls' := [some (.ref a0), some (.int a1), some (.int a2), some (.int a3), some (.int 1)]) bd_23_48 (Nat.le_of_ble_eq_true rfl) rfl) ?_
        refine Eq.trans (be_iload bd_23_50 rfl) ?_
        refine Eq.trans (be_if_eq (t := 75) bd_23_52 rfl) ?_
        refine bn_if_c ?_ ?_
        · refine Eq.trans (be_iinc (v := 1) (ls' := [some (.ref a0), some (.int a1), some (.int a2), some (.int (a3 + 1)), some (.int 1)]) bd_23_75 rfl (by decide) (Nat.le_of_ble_eq_true rfl) rfl) ?_
          refine Eq.trans (be_goto (t := 2) bd_23_78 rfl) ?_
          rfl
        · refine Eq.trans (be_aload_n bd_23_55 rfl) ?_
          refine Eq.trans (be_getR bd_23_56 bf_0_45 rfl (Or.inl ⟨_, rfl⟩)) ?_
          refine bn_gR_c fun p5 => ?_
          refine Eq.trans (be_iload_n bd_23_59 rfl) ?_
          refine Eq.trans (be_iaload bd_23_60) ?_
          refine bn_bd_c fun x6 => ?_
          refine Eq.trans (be_iload_n bd_23_61 rfl) ?_
          refine Eq.trans (be_icmp_ge (t := 75) bd_23_62 rfl) ?_
          refine bn_if_c ?_ ?_
          · refine Eq.trans (be_iinc (v := 1) (ls' := [some (.ref a0), some (.int a1), some (.int a2), some (.int (a3 + 1)), some (.int 1)]) bd_23_75 rfl (by decide) (Nat.le_of_ble_eq_true rfl) rfl) ?_
            refine Eq.trans (be_goto (t := 2) bd_23_78 rfl) ?_
            rfl
          · refine Eq.trans (be_aload_n bd_23_65 rfl) ?_
            refine Eq.trans (be_iload_n bd_23_66 rfl) ?_
            refine Eq.trans (be_virtI (as := [.int a3]) (rr := []) (en := [some (.ref a0), some (.int a3)]) bd_23_67 bm_0_87 rfl rfl rfl ⟨Nat.le_of_ble_eq_true rfl, Nat.le_of_ble_eq_true rfl, Nat.le_of_ble_eq_true rfl, Nat.le_of_ble_eq_true rfl⟩ (Or.inr rfl)) ?_
            refine bn_gd_c (bn_cI_c fun x8 h7 => ?_)
            refine Eq.trans (be_if_ne (t := 75) bd_23_70 rfl) ?_
            refine bn_if_c ?_ ?_
            · refine Eq.trans (be_iconst (v := 1) bd_23_73 (by decide)) ?_
              exact be_z0 bd_23_74 rfl (Or.inr rfl)
            · refine Eq.trans (be_iinc (v := 1) (ls' := [some (.ref a0), some (.int a1), some (.int a2), some (.int (a3 + 1)), some (.int 1)]) bd_23_75 rfl (by decide) (Nat.le_of_ble_eq_true rfl) rfl) ?_
              refine Eq.trans (be_goto (t := 2) bd_23_78 rfl) ?_
              rfl
      · rfl
    · rfl
theorem bs_X0_lawForbids_27 (a0 : Nat) (a1 : Int32) (a2 : Int32) (a3 : Int32) (o4 : Option Value) (h : bn_H) : bn_ev 23 27 [some (.ref a0), some (.int a1), some (.int a2), some (.int a3), o4] [] h = bn_gI h a0 0 0 (fun x1 => if x1 = 1 then (bn_gd (bn_isC h a0 0) (bn_cI (bn_ev 9 0 [some (.ref a0), some (.int a3)] [] h) (fun x3 h2 => if x3 = 0 then (bn_ev 23 47 [some (.ref a0), some (.int a1), some (.int a2), some (.int a3), o4] [] h2) else (if (1 : Int32) = 0 then (bn_ev 23 2 [some (.ref a0), some (.int a1), some (.int a2), some (.int (a3 + 1)), some (.int 1)] [] h2) else (bn_gR h2 a0 0 10 (fun p4 => (bn_ld h2 p4 0 a3).bind (fun x5 => if a2 ≤ x5 then (bn_ev 23 2 [some (.ref a0), some (.int a1), some (.int a2), some (.int (a3 + 1)), some (.int 1)] [] h2) else (bn_gd (bn_isC h2 a0 0) (bn_cI (bn_ev 8 0 [some (.ref a0), some (.int a3)] [] h2) (fun x7 h6 => if x7 = 0 then (some (some (.int 1), h6)) else (bn_ev 23 2 [some (.ref a0), some (.int a1), some (.int a2), some (.int (a3 + 1)), some (.int 1)] [] h6))))))))))) else (bn_ev 23 47 [some (.ref a0), some (.int a1), some (.int a2), some (.int a3), o4] [] h)) := by
  refine Eq.trans (be_aload_n bd_23_27 rfl) ?_
  refine Eq.trans (be_getI bd_23_28 bf_0_9 rfl) ?_
  refine bn_gI_c fun x1 => ?_
  refine Eq.trans (be_iconst (v := 1) bd_23_31 (by decide)) ?_
  refine Eq.trans (be_icmp_ne (t := 47) bd_23_32 rfl) ?_
  refine bn_if_c ?_ ?_
  · refine Eq.trans (be_aload_n bd_23_35 rfl) ?_
    refine Eq.trans (be_iload_n bd_23_36 rfl) ?_
    refine Eq.trans (be_virtI (as := [.int a3]) (rr := []) (en := [some (.ref a0), some (.int a3)]) bd_23_37 bm_0_80 rfl rfl rfl ⟨Nat.le_of_ble_eq_true rfl, Nat.le_of_ble_eq_true rfl, Nat.le_of_ble_eq_true rfl, Nat.le_of_ble_eq_true rfl⟩ (Or.inr rfl)) ?_
    refine bn_gd_c (bn_cI_c fun x3 h2 => ?_)
    refine Eq.trans (be_if_eq (t := 47) bd_23_40 rfl) ?_
    refine bn_if_c ?_ ?_
    · rfl
    · refine Eq.trans (be_iconst (v := 1) bd_23_43 (by decide)) ?_
      refine Eq.trans (be_goto (t := 48) bd_23_44 rfl) ?_
      refine Eq.trans (be_istore (ls' := [some (.ref a0), some (.int a1), some (.int a2), some (.int a3), some (.int 1)]) bd_23_48 (Nat.le_of_ble_eq_true rfl) rfl) ?_
      refine Eq.trans (be_iload bd_23_50 rfl) ?_
      refine Eq.trans (be_if_eq (t := 75) bd_23_52 rfl) ?_
      refine bn_if_c ?_ ?_
      · refine Eq.trans (be_iinc (v := 1) (ls' := [some (.ref a0), some (.int a1), some (.int a2), some (.int (a3 + 1)), some (.int 1)]) bd_23_75 rfl (by decide) (Nat.le_of_ble_eq_true rfl) rfl) ?_
        refine Eq.trans (be_goto (t := 2) bd_23_78 rfl) ?_
        rfl
      · refine Eq.trans (be_aload_n bd_23_55 rfl) ?_
        refine Eq.trans (be_getR bd_23_56 bf_0_45 rfl (Or.inl ⟨_, rfl⟩)) ?_
        refine bn_gR_c fun p4 => ?_
        refine Eq.trans (be_iload_n bd_23_59 rfl) ?_
        refine Eq.trans (be_iaload bd_23_60) ?_
        refine bn_bd_c fun x5 => ?_
        refine Eq.trans (be_iload_n bd_23_61 rfl) ?_
        refine Eq.trans (be_icmp_ge (t := 75) bd_23_62 rfl) ?_
        refine bn_if_c ?_ ?_
        · refine Eq.trans (be_iinc (v := 1) (ls' := [some (.ref a0), some (.int a1), some (.int a2), some (.int (a3 + 1)), some (.int 1)]) bd_23_75 rfl (by decide) (Nat.le_of_ble_eq_true rfl) rfl) ?_
          refine Eq.trans (be_goto (t := 2) bd_23_78 rfl) ?_
          rfl
        · refine Eq.trans (be_aload_n bd_23_65 rfl) ?_
          refine Eq.trans (be_iload_n bd_23_66 rfl) ?_
          refine Eq.trans (be_virtI (as := [.int a3]) (rr := []) (en := [some (.ref a0), some (.int a3)]) bd_23_67 bm_0_87 rfl rfl rfl ⟨Nat.le_of_ble_eq_true rfl, Nat.le_of_ble_eq_true rfl, Nat.le_of_ble_eq_true rfl, Nat.le_of_ble_eq_true rfl⟩ (Or.inr rfl)) ?_
          refine bn_gd_c (bn_cI_c fun x7 h6 => ?_)
          refine Eq.trans (be_if_ne (t := 75) bd_23_70 rfl) ?_
          refine bn_if_c ?_ ?_
          · refine Eq.trans (be_iconst (v := 1) bd_23_73 (by decide)) ?_
            exact be_z0 bd_23_74 rfl (Or.inr rfl)
          · refine Eq.trans (be_iinc (v := 1) (ls' := [some (.ref a0), some (.int a1), some (.int a2), some (.int (a3 + 1)), some (.int 1)]) bd_23_75 rfl (by decide) (Nat.le_of_ble_eq_true rfl) rfl) ?_
            refine Eq.trans (be_goto (t := 2) bd_23_78 rfl) ?_
            rfl
  · rfl
theorem bs_X0_lawForbids_47 (a0 : Nat) (a1 : Int32) (a2 : Int32) (a3 : Int32) (o4 : Option Value) (h : bn_H) : bn_ev 23 47 [some (.ref a0), some (.int a1), some (.int a2), some (.int a3), o4] [] h = if (0 : Int32) = 0 then (bn_ev 23 2 [some (.ref a0), some (.int a1), some (.int a2), some (.int (a3 + 1)), some (.int 0)] [] h) else (bn_gR h a0 0 10 (fun p1 => (bn_ld h p1 0 a3).bind (fun x2 => if a2 ≤ x2 then (bn_ev 23 2 [some (.ref a0), some (.int a1), some (.int a2), some (.int (a3 + 1)), some (.int 0)] [] h) else (bn_gd (bn_isC h a0 0) (bn_cI (bn_ev 8 0 [some (.ref a0), some (.int a3)] [] h) (fun x4 h3 => if x4 = 0 then (some (some (.int 1), h3)) else (bn_ev 23 2 [some (.ref a0), some (.int a1), some (.int a2), some (.int (a3 + 1)), some (.int 0)] [] h3))))))) := by
  refine Eq.trans (be_iconst (v := 0) bd_23_47 (by decide)) ?_
  refine Eq.trans (be_istore (ls' := [some (.ref a0), some (.int a1), some (.int a2), some (.int a3), some (.int 0)]) bd_23_48 (Nat.le_of_ble_eq_true rfl) rfl) ?_
  refine Eq.trans (be_iload bd_23_50 rfl) ?_
  refine Eq.trans (be_if_eq (t := 75) bd_23_52 rfl) ?_
  refine bn_if_c ?_ ?_
  · refine Eq.trans (be_iinc (v := 1) (ls' := [some (.ref a0), some (.int a1), some (.int a2), some (.int (a3 + 1)), some (.int 0)]) bd_23_75 rfl (by decide) (Nat.le_of_ble_eq_true rfl) rfl) ?_
    refine Eq.trans (be_goto (t := 2) bd_23_78 rfl) ?_
    rfl
  · refine Eq.trans (be_aload_n bd_23_55 rfl) ?_
    refine Eq.trans (be_getR bd_23_56 bf_0_45 rfl (Or.inl ⟨_, rfl⟩)) ?_
    refine bn_gR_c fun p1 => ?_
    refine Eq.trans (be_iload_n bd_23_59 rfl) ?_
    refine Eq.trans (be_iaload bd_23_60) ?_
    refine bn_bd_c fun x2 => ?_
    refine Eq.trans (be_iload_n bd_23_61 rfl) ?_
    refine Eq.trans (be_icmp_ge (t := 75) bd_23_62 rfl) ?_
    refine bn_if_c ?_ ?_
    · refine Eq.trans (be_iinc (v := 1) (ls' := [some (.ref a0), some (.int a1), some (.int a2), some (.int (a3 + 1)), some (.int 0)]) bd_23_75 rfl (by decide) (Nat.le_of_ble_eq_true rfl) rfl) ?_
      refine Eq.trans (be_goto (t := 2) bd_23_78 rfl) ?_
      rfl
    · refine Eq.trans (be_aload_n bd_23_65 rfl) ?_
      refine Eq.trans (be_iload_n bd_23_66 rfl) ?_
      refine Eq.trans (be_virtI (as := [.int a3]) (rr := []) (en := [some (.ref a0), some (.int a3)]) bd_23_67 bm_0_87 rfl rfl rfl ⟨Nat.le_of_ble_eq_true rfl, Nat.le_of_ble_eq_true rfl, Nat.le_of_ble_eq_true rfl, Nat.le_of_ble_eq_true rfl⟩ (Or.inr rfl)) ?_
      refine bn_gd_c (bn_cI_c fun x4 h3 => ?_)
      refine Eq.trans (be_if_ne (t := 75) bd_23_70 rfl) ?_
      refine bn_if_c ?_ ?_
      · refine Eq.trans (be_iconst (v := 1) bd_23_73 (by decide)) ?_
        exact be_z0 bd_23_74 rfl (Or.inr rfl)
      · refine Eq.trans (be_iinc (v := 1) (ls' := [some (.ref a0), some (.int a1), some (.int a2), some (.int (a3 + 1)), some (.int 0)]) bd_23_75 rfl (by decide) (Nat.le_of_ble_eq_true rfl) rfl) ?_
        refine Eq.trans (be_goto (t := 2) bd_23_78 rfl) ?_
        rfl
theorem bs_X0_feed_0 (a0 : Nat) (a1 : Int32) (a2 : Int32) (h : bn_H) : bn_ev 24 0 [some (.ref a0), some (.int a1), some (.int a2)] [] h = bn_gR h a0 0 6 (fun p1 => (bn_sd h p1 0 a1 0).bind (fun h2 => bn_gR h2 a0 0 7 (fun p3 => (bn_sd h2 p3 1 a1 (vp_nar .boolean 1)).bind (fun h4 => bn_gR h4 a0 0 8 (fun p5 => (bn_ld h4 p5 0 a1).bind (fun x6 => (bn_sd h4 p5 0 a1 (x6 + 1)).bind (fun h7 => bn_gR h7 a0 0 11 (fun p8 => (bn_sd h7 p8 0 a2 20).bind (fun h9 => bn_gR h9 a0 0 13 (fun p10 => (bn_sd h9 p10 0 a2 a1).bind (fun h11 => bn_gR h11 a0 0 14 (fun p12 => bn_gI h11 a0 0 3 (fun x13 => (bn_sd h11 p12 0 a2 x13).bind (fun h14 => some (none, h14))))))))))))))) := by
  refine Eq.trans (be_aload_n bd_24_0 rfl) ?_
  refine Eq.trans (be_getR bd_24_1 bf_0_31 rfl (Or.inl ⟨_, rfl⟩)) ?_
  refine bn_gR_c fun p1 => ?_
  refine Eq.trans (be_iload_n bd_24_4 rfl) ?_
  refine Eq.trans (be_iconst (v := 0) bd_24_5 (by decide)) ?_
  refine Eq.trans (be_iastore bd_24_6) ?_
  refine bn_bd_c fun h2 => ?_
  refine Eq.trans (be_aload_n bd_24_7 rfl) ?_
  refine Eq.trans (be_getR bd_24_8 bf_0_35 rfl (Or.inl ⟨_, rfl⟩)) ?_
  refine bn_gR_c fun p3 => ?_
  refine Eq.trans (be_iload_n bd_24_11 rfl) ?_
  refine Eq.trans (be_iconst (v := 1) bd_24_12 (by decide)) ?_
  refine Eq.trans (be_bastore bd_24_13) ?_
  refine bn_bd_c fun h4 => ?_
  refine Eq.trans (be_aload_n bd_24_14 rfl) ?_
  refine Eq.trans (be_getR bd_24_15 bf_0_39 rfl (Or.inl ⟨_, rfl⟩)) ?_
  refine bn_gR_c fun p5 => ?_
  refine Eq.trans (be_iload_n bd_24_18 rfl) ?_
  refine Eq.trans (be_dup2 bd_24_19 ⟨rfl, rfl⟩) ?_
  refine Eq.trans (be_iaload bd_24_20) ?_
  refine bn_bd_c fun x6 => ?_
  refine Eq.trans (be_iconst (v := 1) bd_24_21 (by decide)) ?_
  refine Eq.trans (be_iadd bd_24_22) ?_
  refine Eq.trans (be_iastore bd_24_23) ?_
  refine bn_bd_c fun h7 => ?_
  refine Eq.trans (be_aload_n bd_24_24 rfl) ?_
  refine Eq.trans (be_getR bd_24_25 bf_0_48 rfl (Or.inl ⟨_, rfl⟩)) ?_
  refine bn_gR_c fun p8 => ?_
  refine Eq.trans (be_iload_n bd_24_28 rfl) ?_
  refine Eq.trans (be_bipush (v := 20) bd_24_29 (by decide)) ?_
  refine Eq.trans (be_iastore bd_24_31) ?_
  refine bn_bd_c fun h9 => ?_
  refine Eq.trans (be_aload_n bd_24_32 rfl) ?_
  refine Eq.trans (be_getR bd_24_33 bf_0_54 rfl (Or.inl ⟨_, rfl⟩)) ?_
  refine bn_gR_c fun p10 => ?_
  refine Eq.trans (be_iload_n bd_24_36 rfl) ?_
  refine Eq.trans (be_iload_n bd_24_37 rfl) ?_
  refine Eq.trans (be_iastore bd_24_38) ?_
  refine bn_bd_c fun h11 => ?_
  refine Eq.trans (be_aload_n bd_24_39 rfl) ?_
  refine Eq.trans (be_getR bd_24_40 bf_0_57 rfl (Or.inl ⟨_, rfl⟩)) ?_
  refine bn_gR_c fun p12 => ?_
  refine Eq.trans (be_iload_n bd_24_43 rfl) ?_
  refine Eq.trans (be_aload_n bd_24_44 rfl) ?_
  refine Eq.trans (be_getI bd_24_45 bf_0_21 rfl) ?_
  refine bn_gI_c fun x13 => ?_
  refine Eq.trans (be_iastore bd_24_48) ?_
  refine bn_bd_c fun h14 => ?_
  exact be_return bd_24_49 rfl
theorem bs_X0_passDay_0 (a0 : Nat) (h : bn_H) : bn_ev 25 0 [some (.ref a0), none, none] [] h = bn_ev 25 4 [some (.ref a0), some (.int 0), some (.int 0)] [] h := by
  refine Eq.trans (be_iconst (v := 0) bd_25_0 (by decide)) ?_
  refine Eq.trans (be_istore_n (ls' := [some (.ref a0), some (.int 0), none]) bd_25_1 (Nat.le_of_ble_eq_true rfl) rfl) ?_
  refine Eq.trans (be_iconst (v := 0) bd_25_2 (by decide)) ?_
  refine Eq.trans (be_istore_n (ls' := [some (.ref a0), some (.int 0), some (.int 0)]) bd_25_3 (Nat.le_of_ble_eq_true rfl) rfl) ?_
  rfl
theorem bs_X0_passDay_4 (a0 : Nat) (a1 : Int32) (a2 : Int32) (h : bn_H) : bn_ev 25 4 [some (.ref a0), some (.int a1), some (.int a2)] [] h = bn_gI h a0 0 5 (fun x1 => if x1 ≤ a2 then (bn_ev 25 73 [some (.ref a0), some (.int a1), some (.int 0)] [] h) else (bn_gd (bn_isC h a0 0) (bn_cI (bn_ev 7 0 [some (.ref a0), some (.int a2)] [] h) (fun x3 h2 => if x3 = 0 then (bn_gR h2 a0 0 7 (fun p4 => (bn_sd h2 p4 1 a2 (vp_nar .boolean 0)).bind (fun h5 => bn_ev 25 4 [some (.ref a0), some (.int a1), some (.int (a2 + 1))] [] h5))) else (bn_gR h2 a0 0 7 (fun p6 => (bn_ld h2 p6 1 a2).bind (fun x7 => if x7 = 0 then (bn_gR h2 a0 0 6 (fun p8 => (bn_ld h2 p8 0 a2).bind (fun x9 => (bn_sd h2 p8 0 a2 (x9 + 1)).bind (fun h10 => bn_gd (bn_isC h10 a0 0) (bn_cI (bn_ev 7 0 [some (.ref a0), some (.int a2)] [] h10) (fun x12 h11 => if x12 = 0 then (bn_gd (bn_isC h11 a0 0) (bn_cV (bn_ev 26 0 [some (.ref a0), some (.int a2), none] [] h11) (fun h13 => bn_gR h13 a0 0 7 (fun p15 => (bn_sd h13 p15 1 a2 (vp_nar .boolean 0)).bind (fun h16 => bn_ev 25 4 [some (.ref a0), some (.int (a1 ||| (bn_shl 1 a2))), some (.int (a2 + 1))] [] h16))))) else (bn_gR h11 a0 0 7 (fun p17 => (bn_sd h11 p17 1 a2 (vp_nar .boolean 0)).bind (fun h18 => bn_ev 25 4 [some (.ref a0), some (.int a1), some (.int (a2 + 1))] [] h18))))))))) else (bn_gR h2 a0 0 7 (fun p19 => (bn_sd h2 p19 1 a2 (vp_nar .boolean 0)).bind (fun h20 => bn_ev 25 4 [some (.ref a0), some (.int a1), some (.int (a2 + 1))] [] h20)))))))))) := by
  refine Eq.trans (be_iload_n bd_25_4 rfl) ?_
  refine Eq.trans (be_aload_n bd_25_5 rfl) ?_
  refine Eq.trans (be_getI bd_25_6 bf_0_28 rfl) ?_
  refine bn_gI_c fun x1 => ?_
  refine Eq.trans (be_icmp_ge (t := 71) bd_25_9 rfl) ?_
  refine bn_if_c ?_ ?_
  · refine Eq.trans (be_iconst (v := 0) bd_25_71 (by decide)) ?_
    refine Eq.trans (be_istore_n (ls' := [some (.ref a0), some (.int a1), some (.int 0)]) bd_25_72 (Nat.le_of_ble_eq_true rfl) rfl) ?_
    rfl
  · refine Eq.trans (be_aload_n bd_25_12 rfl) ?_
    refine Eq.trans (be_iload_n bd_25_13 rfl) ?_
    refine Eq.trans (be_virtI (as := [.int a2]) (rr := []) (en := [some (.ref a0), some (.int a2)]) bd_25_14 bm_0_66 rfl rfl rfl ⟨Nat.le_of_ble_eq_true rfl, Nat.le_of_ble_eq_true rfl, Nat.le_of_ble_eq_true rfl, Nat.le_of_ble_eq_true rfl⟩ (Or.inr rfl)) ?_
    refine bn_gd_c (bn_cI_c fun x3 h2 => ?_)
    refine Eq.trans (be_if_eq (t := 58) bd_25_17 rfl) ?_
    refine bn_if_c ?_ ?_
    · refine Eq.trans (be_aload_n bd_25_58 rfl) ?_
      refine Eq.trans (be_getR bd_25_59 bf_0_35 rfl (Or.inl ⟨_, rfl⟩)) ?_
      refine bn_gR_c fun p4 => ?_
      refine Eq.trans (be_iload_n bd_25_62 rfl) ?_
      refine Eq.trans (be_iconst (v := 0) bd_25_63 (by decide)) ?_
      refine Eq.trans (be_bastore bd_25_64) ?_
      refine bn_bd_c fun h5 => ?_
      refine Eq.trans (be_iinc (v := 1) (ls' := [some (.ref a0), some (.int a1), some (.int (a2 + 1))]) bd_25_65 rfl (by decide) (Nat.le_of_ble_eq_true rfl) rfl) ?_
      refine Eq.trans (be_goto (t := 4) bd_25_68 rfl) ?_
      rfl
    · refine Eq.trans (be_aload_n bd_25_20 rfl) ?_
      refine Eq.trans (be_getR bd_25_21 bf_0_35 rfl (Or.inl ⟨_, rfl⟩)) ?_
      refine bn_gR_c fun p6 => ?_
      refine Eq.trans (be_iload_n bd_25_24 rfl) ?_
      refine Eq.trans (be_baload bd_25_25) ?_
      refine bn_bd_c fun x7 => ?_
      refine Eq.trans (be_if_ne (t := 58) bd_25_26 rfl) ?_
      refine bn_if_c ?_ ?_
      · refine Eq.trans (be_aload_n bd_25_29 rfl) ?_
        refine Eq.trans (be_getR bd_25_30 bf_0_31 rfl (Or.inl ⟨_, rfl⟩)) ?_
        refine bn_gR_c fun p8 => ?_
        refine Eq.trans (be_iload_n bd_25_33 rfl) ?_
        refine Eq.trans (be_dup2 bd_25_34 ⟨rfl, rfl⟩) ?_
        refine Eq.trans (be_iaload bd_25_35) ?_
        refine bn_bd_c fun x9 => ?_
        refine Eq.trans (be_iconst (v := 1) bd_25_36 (by decide)) ?_
        refine Eq.trans (be_iadd bd_25_37) ?_
        refine Eq.trans (be_iastore bd_25_38) ?_
        refine bn_bd_c fun h10 => ?_
        refine Eq.trans (be_aload_n bd_25_39 rfl) ?_
        refine Eq.trans (be_iload_n bd_25_40 rfl) ?_
        refine Eq.trans (be_virtI (as := [.int a2]) (rr := []) (en := [some (.ref a0), some (.int a2)]) bd_25_41 bm_0_66 rfl rfl rfl ⟨Nat.le_of_ble_eq_true rfl, Nat.le_of_ble_eq_true rfl, Nat.le_of_ble_eq_true rfl, Nat.le_of_ble_eq_true rfl⟩ (Or.inr rfl)) ?_
        refine bn_gd_c (bn_cI_c fun x12 h11 => ?_)
        refine Eq.trans (be_if_ne (t := 58) bd_25_44 rfl) ?_
        refine bn_if_c ?_ ?_
        · refine Eq.trans (be_iload_n bd_25_47 rfl) ?_
          refine Eq.trans (be_iconst (v := 1) bd_25_48 (by decide)) ?_
          refine Eq.trans (be_iload_n bd_25_49 rfl) ?_
          refine Eq.trans (be_ishl bd_25_50) ?_
          refine Eq.trans (be_ior bd_25_51) ?_
          refine Eq.trans (be_istore_n (ls' := [some (.ref a0), some (.int (a1 ||| (bn_shl 1 a2))), some (.int a2)]) bd_25_52 (Nat.le_of_ble_eq_true rfl) rfl) ?_
          refine Eq.trans (be_aload_n bd_25_53 rfl) ?_
          refine Eq.trans (be_iload_n bd_25_54 rfl) ?_
          refine Eq.trans (be_virtV (as := [.int a2]) (rr := []) (en := [some (.ref a0), some (.int a2), none]) bd_25_55 bm_0_105 rfl rfl rfl ⟨Nat.le_of_ble_eq_true rfl, Nat.le_of_ble_eq_true rfl, Nat.le_of_ble_eq_true rfl, Nat.le_of_ble_eq_true rfl⟩ rfl) ?_
          refine bn_gd_c (bn_cV_c fun h13 => ?_)
          refine Eq.trans (be_aload_n bd_25_58 rfl) ?_
          refine Eq.trans (be_getR bd_25_59 bf_0_35 rfl (Or.inl ⟨_, rfl⟩)) ?_
          refine bn_gR_c fun p15 => ?_
          refine Eq.trans (be_iload_n bd_25_62 rfl) ?_
          refine Eq.trans (be_iconst (v := 0) bd_25_63 (by decide)) ?_
          refine Eq.trans (be_bastore bd_25_64) ?_
          refine bn_bd_c fun h16 => ?_
          refine Eq.trans (be_iinc (v := 1) (ls' := [some (.ref a0), some (.int (a1 ||| (bn_shl 1 a2))), some (.int (a2 + 1))]) bd_25_65 rfl (by decide) (Nat.le_of_ble_eq_true rfl) rfl) ?_
          refine Eq.trans (be_goto (t := 4) bd_25_68 rfl) ?_
          rfl
        · refine Eq.trans (be_aload_n bd_25_58 rfl) ?_
          refine Eq.trans (be_getR bd_25_59 bf_0_35 rfl (Or.inl ⟨_, rfl⟩)) ?_
          refine bn_gR_c fun p17 => ?_
          refine Eq.trans (be_iload_n bd_25_62 rfl) ?_
          refine Eq.trans (be_iconst (v := 0) bd_25_63 (by decide)) ?_
          refine Eq.trans (be_bastore bd_25_64) ?_
          refine bn_bd_c fun h18 => ?_
          refine Eq.trans (be_iinc (v := 1) (ls' := [some (.ref a0), some (.int a1), some (.int (a2 + 1))]) bd_25_65 rfl (by decide) (Nat.le_of_ble_eq_true rfl) rfl) ?_
          refine Eq.trans (be_goto (t := 4) bd_25_68 rfl) ?_
          rfl
      · refine Eq.trans (be_aload_n bd_25_58 rfl) ?_
        refine Eq.trans (be_getR bd_25_59 bf_0_35 rfl (Or.inl ⟨_, rfl⟩)) ?_
        refine bn_gR_c fun p19 => ?_
        refine Eq.trans (be_iload_n bd_25_62 rfl) ?_
        refine Eq.trans (be_iconst (v := 0) bd_25_63 (by decide)) ?_
        refine Eq.trans (be_bastore bd_25_64) ?_
        refine bn_bd_c fun h20 => ?_
        refine Eq.trans (be_iinc (v := 1) (ls' := [some (.ref a0), some (.int a1), some (.int (a2 + 1))]) bd_25_65 rfl (by decide) (Nat.le_of_ble_eq_true rfl) rfl) ?_
        refine Eq.trans (be_goto (t := 4) bd_25_68 rfl) ?_
        rfl
theorem bs_X0_passDay_73 (a0 : Nat) (a1 : Int32) (a2 : Int32) (h : bn_H) : bn_ev 25 73 [some (.ref a0), some (.int a1), some (.int a2)] [] h = bn_gI h a0 0 9 (fun x1 => if x1 ≤ a2 then (bn_gI h a0 0 3 (fun x2 => (bn_pf h a0 0 3 (.int (x2 + 1))).bind (fun h3 => some (some (.int a1), h3)))) else (bn_gR h a0 0 11 (fun p4 => (bn_ld h p4 0 a2).bind (fun x5 => if x5 = 20 then (bn_ev 25 73 [some (.ref a0), some (.int a1), some (.int (a2 + 1))] [] h) else (bn_gR h a0 0 12 (fun p6 => bn_gR h a0 0 12 (fun p7 => (bn_ld h p7 0 a2).bind (fun x8 => (bn_sd h p6 0 a2 (if 99 < (x8 + 1) then 99 else (x8 + 1))).bind (fun h9 => bn_ev 25 73 [some (.ref a0), some (.int a1), some (.int (a2 + 1))] [] h9))))))))) := by
  refine Eq.trans (be_iload_n bd_25_73 rfl) ?_
  refine Eq.trans (be_aload_n bd_25_74 rfl) ?_
  refine Eq.trans (be_getI bd_25_75 bf_0_42 rfl) ?_
  refine bn_gI_c fun x1 => ?_
  refine Eq.trans (be_icmp_ge (t := 117) bd_25_78 rfl) ?_
  refine bn_if_c ?_ ?_
  · refine Eq.trans (be_aload_n bd_25_117 rfl) ?_
    refine Eq.trans (be_dup bd_25_118 rfl) ?_
    refine Eq.trans (be_getI bd_25_119 bf_0_21 rfl) ?_
    refine bn_gI_c fun x2 => ?_
    refine Eq.trans (be_iconst (v := 1) bd_25_122 (by decide)) ?_
    refine Eq.trans (be_iadd bd_25_123) ?_
    refine Eq.trans (be_putI bd_25_124 bf_0_21 rfl rfl) ?_
    refine bn_bd_c fun h3 => ?_
    refine Eq.trans (be_iload_n bd_25_127 rfl) ?_
    exact be_ireturn bd_25_128 rfl
  · refine Eq.trans (be_aload_n bd_25_81 rfl) ?_
    refine Eq.trans (be_getR bd_25_82 bf_0_48 rfl (Or.inl ⟨_, rfl⟩)) ?_
    refine bn_gR_c fun p4 => ?_
    refine Eq.trans (be_iload_n bd_25_85 rfl) ?_
    refine Eq.trans (be_iaload bd_25_86) ?_
    refine bn_bd_c fun x5 => ?_
    refine Eq.trans (be_bipush (v := 20) bd_25_87 (by decide)) ?_
    refine Eq.trans (be_icmp_eq (t := 111) bd_25_89 rfl) ?_
    refine bn_if_c ?_ ?_
    · refine Eq.trans (be_iinc (v := 1) (ls' := [some (.ref a0), some (.int a1), some (.int (a2 + 1))]) bd_25_111 rfl (by decide) (Nat.le_of_ble_eq_true rfl) rfl) ?_
      refine Eq.trans (be_goto (t := 73) bd_25_114 rfl) ?_
      rfl
    · refine Eq.trans (be_aload_n bd_25_92 rfl) ?_
      refine Eq.trans (be_getR bd_25_93 bf_0_51 rfl (Or.inl ⟨_, rfl⟩)) ?_
      refine bn_gR_c fun p6 => ?_
      refine Eq.trans (be_iload_n bd_25_96 rfl) ?_
      refine Eq.trans (be_aload_n bd_25_97 rfl) ?_
      refine Eq.trans (be_getR bd_25_98 bf_0_51 rfl (Or.inl ⟨_, rfl⟩)) ?_
      refine bn_gR_c fun p7 => ?_
      refine Eq.trans (be_iload_n bd_25_101 rfl) ?_
      refine Eq.trans (be_iaload bd_25_102) ?_
      refine bn_bd_c fun x8 => ?_
      refine Eq.trans (be_iconst (v := 1) bd_25_103 (by decide)) ?_
      refine Eq.trans (be_iadd bd_25_104) ?_
      refine Eq.trans (be_bipush (v := 99) bd_25_105 (by decide)) ?_
      refine Eq.trans (be_min bd_25_107 bm_0_109 ⟨Nat.le_of_ble_eq_true rfl, Nat.le_of_ble_eq_true rfl, Nat.le_of_ble_eq_true rfl⟩) ?_
      refine Eq.trans (be_iastore bd_25_110) ?_
      refine bn_bd_c fun h9 => ?_
      refine Eq.trans (be_iinc (v := 1) (ls' := [some (.ref a0), some (.int a1), some (.int (a2 + 1))]) bd_25_111 rfl (by decide) (Nat.le_of_ble_eq_true rfl) rfl) ?_
      refine Eq.trans (be_goto (t := 73) bd_25_114 rfl) ?_
      rfl
theorem bs_X0_leaveToPriest_0 (a0 : Nat) (a1 : Int32) (h : bn_H) : bn_ev 26 0 [some (.ref a0), some (.int a1), none] [] h = bn_ev 26 2 [some (.ref a0), some (.int a1), some (.int 0)] [] h := by
  refine Eq.trans (be_iconst (v := 0) bd_26_0 (by decide)) ?_
  refine Eq.trans (be_istore_n (ls' := [some (.ref a0), some (.int a1), some (.int 0)]) bd_26_1 (Nat.le_of_ble_eq_true rfl) rfl) ?_
  rfl
theorem bs_X0_leaveToPriest_2 (a0 : Nat) (a1 : Int32) (a2 : Int32) (h : bn_H) : bn_ev 26 2 [some (.ref a0), some (.int a1), some (.int a2)] [] h = bn_gI h a0 0 9 (fun x1 => if x1 ≤ a2 then (some (none, h)) else (bn_gR h a0 0 11 (fun p2 => (bn_ld h p2 0 a2).bind (fun x3 => if x3 = a1 then (bn_gR h a0 0 11 (fun p4 => (bn_sd h p4 0 a2 10).bind (fun h5 => bn_ev 26 2 [some (.ref a0), some (.int a1), some (.int (a2 + 1))] [] h5))) else (bn_ev 26 2 [some (.ref a0), some (.int a1), some (.int (a2 + 1))] [] h))))) := by
  refine Eq.trans (be_iload_n bd_26_2 rfl) ?_
  refine Eq.trans (be_aload_n bd_26_3 rfl) ?_
  refine Eq.trans (be_getI bd_26_4 bf_0_42 rfl) ?_
  refine bn_gI_c fun x1 => ?_
  refine Eq.trans (be_icmp_ge (t := 34) bd_26_7 rfl) ?_
  refine bn_if_c ?_ ?_
  · exact be_return bd_26_34 rfl
  · refine Eq.trans (be_aload_n bd_26_10 rfl) ?_
    refine Eq.trans (be_getR bd_26_11 bf_0_48 rfl (Or.inl ⟨_, rfl⟩)) ?_
    refine bn_gR_c fun p2 => ?_
    refine Eq.trans (be_iload_n bd_26_14 rfl) ?_
    refine Eq.trans (be_iaload bd_26_15) ?_
    refine bn_bd_c fun x3 => ?_
    refine Eq.trans (be_iload_n bd_26_16 rfl) ?_
    refine Eq.trans (be_icmp_ne (t := 28) bd_26_17 rfl) ?_
    refine bn_if_c ?_ ?_
    · refine Eq.trans (be_aload_n bd_26_20 rfl) ?_
      refine Eq.trans (be_getR bd_26_21 bf_0_48 rfl (Or.inl ⟨_, rfl⟩)) ?_
      refine bn_gR_c fun p4 => ?_
      refine Eq.trans (be_iload_n bd_26_24 rfl) ?_
      refine Eq.trans (be_bipush (v := 10) bd_26_25 (by decide)) ?_
      refine Eq.trans (be_iastore bd_26_27) ?_
      refine bn_bd_c fun h5 => ?_
      refine Eq.trans (be_iinc (v := 1) (ls' := [some (.ref a0), some (.int a1), some (.int (a2 + 1))]) bd_26_28 rfl (by decide) (Nat.le_of_ble_eq_true rfl) rfl) ?_
      refine Eq.trans (be_goto (t := 2) bd_26_31 rfl) ?_
      rfl
    · refine Eq.trans (be_iinc (v := 1) (ls' := [some (.ref a0), some (.int a1), some (.int (a2 + 1))]) bd_26_28 rfl (by decide) (Nat.le_of_ble_eq_true rfl) rfl) ?_
      refine Eq.trans (be_goto (t := 2) bd_26_31 rfl) ?_
      rfl
theorem bs_X0_eatAsItIs_0 (a0 : Nat) (h : bn_H) : bn_ev 27 0 [some (.ref a0), none, none] [] h = bn_ev 27 2 [some (.ref a0), some (.int 0), none] [] h := by
  refine Eq.trans (be_iconst (v := 0) bd_27_0 (by decide)) ?_
  refine Eq.trans (be_istore_n (ls' := [some (.ref a0), some (.int 0), none]) bd_27_1 (Nat.le_of_ble_eq_true rfl) rfl) ?_
  rfl
theorem bs_X0_eatAsItIs_2 (a0 : Nat) (a1 : Int32) (o2 : Option Value) (h : bn_H) : bn_ev 27 2 [some (.ref a0), some (.int a1), o2] [] h = bn_gI h a0 0 5 (fun x1 => if x1 ≤ a1 then (some (none, h)) else (bn_gd (bn_isC h a0 0) (bn_cI (bn_ev 28 0 [some (.ref a0), some (.int a1), none, none] [] h) (fun x3 h2 => if x3 < 0 then (bn_ev 27 2 [some (.ref a0), some (.int (a1 + 1)), some (.int x3)] [] h2) else (bn_gd (bn_isC h2 a0 0) (bn_cV (bn_ev 24 0 [some (.ref a0), some (.int a1), some (.int x3)] [] h2) (fun h4 => bn_ev 27 2 [some (.ref a0), some (.int (a1 + 1)), some (.int x3)] [] h4))))))) := by
  refine Eq.trans (be_iload_n bd_27_2 rfl) ?_
  refine Eq.trans (be_aload_n bd_27_3 rfl) ?_
  refine Eq.trans (be_getI bd_27_4 bf_0_28 rfl) ?_
  refine bn_gI_c fun x1 => ?_
  refine Eq.trans (be_icmp_ge (t := 32) bd_27_7 rfl) ?_
  refine bn_if_c ?_ ?_
  · exact be_return bd_27_32 rfl
  · refine Eq.trans (be_aload_n bd_27_10 rfl) ?_
    refine Eq.trans (be_iload_n bd_27_11 rfl) ?_
    refine Eq.trans (be_virtI (as := [.int a1]) (rr := []) (en := [some (.ref a0), some (.int a1), none, none]) bd_27_12 bm_0_112 rfl rfl rfl ⟨Nat.le_of_ble_eq_true rfl, Nat.le_of_ble_eq_true rfl, Nat.le_of_ble_eq_true rfl, Nat.le_of_ble_eq_true rfl⟩ (Or.inl rfl)) ?_
    refine bn_gd_c (bn_cI_c fun x3 h2 => ?_)
    refine Eq.trans (be_istore_n (ls' := [some (.ref a0), some (.int a1), some (.int x3)]) bd_27_15 (Nat.le_of_ble_eq_true rfl) rfl) ?_
    refine Eq.trans (be_iload_n bd_27_16 rfl) ?_
    refine Eq.trans (be_if_lt (t := 26) bd_27_17 rfl) ?_
    refine bn_if_c ?_ ?_
    · refine Eq.trans (be_iinc (v := 1) (ls' := [some (.ref a0), some (.int (a1 + 1)), some (.int x3)]) bd_27_26 rfl (by decide) (Nat.le_of_ble_eq_true rfl) rfl) ?_
      refine Eq.trans (be_goto (t := 2) bd_27_29 rfl) ?_
      rfl
    · refine Eq.trans (be_aload_n bd_27_20 rfl) ?_
      refine Eq.trans (be_iload_n bd_27_21 rfl) ?_
      refine Eq.trans (be_iload_n bd_27_22 rfl) ?_
      refine Eq.trans (be_virtV (as := [.int x3, .int a1]) (rr := []) (en := [some (.ref a0), some (.int a1), some (.int x3)]) bd_27_23 bm_0_115 rfl rfl rfl ⟨Nat.le_of_ble_eq_true rfl, Nat.le_of_ble_eq_true rfl, Nat.le_of_ble_eq_true rfl, Nat.le_of_ble_eq_true rfl⟩ rfl) ?_
      refine bn_gd_c (bn_cV_c fun h4 => ?_)
      refine Eq.trans (be_iinc (v := 1) (ls' := [some (.ref a0), some (.int (a1 + 1)), some (.int x3)]) bd_27_26 rfl (by decide) (Nat.le_of_ble_eq_true rfl) rfl) ?_
      refine Eq.trans (be_goto (t := 2) bd_27_29 rfl) ?_
      rfl
theorem bs_X0_leastAllowed_0 (a0 : Nat) (a1 : Int32) (h : bn_H) : bn_ev 28 0 [some (.ref a0), some (.int a1), none, none] [] h = bn_ev 28 5 [some (.ref a0), some (.int a1), some (.int (-9)), some (.int 0)] [] h := by
  refine Eq.trans (be_bipush (v := (-9)) bd_28_0 (by decide)) ?_
  refine Eq.trans (be_istore_n (ls' := [some (.ref a0), some (.int a1), some (.int (-9)), none]) bd_28_2 (Nat.le_of_ble_eq_true rfl) rfl) ?_
  refine Eq.trans (be_iconst (v := 0) bd_28_3 (by decide)) ?_
  refine Eq.trans (be_istore_n (ls' := [some (.ref a0), some (.int a1), some (.int (-9)), some (.int 0)]) bd_28_4 (Nat.le_of_ble_eq_true rfl) rfl) ?_
  rfl
theorem bs_X0_leastAllowed_5 (a0 : Nat) (a1 : Int32) (a2 : Int32) (a3 : Int32) (h : bn_H) : bn_ev 28 5 [some (.ref a0), some (.int a1), some (.int a2), some (.int a3)] [] h = bn_gI h a0 0 9 (fun x1 => if x1 ≤ a3 then (some (some (.int a2), h)) else (bn_gd (bn_isC h a0 0) (bn_cI (bn_ev 22 0 [some (.ref a0), some (.int a1), some (.int a3)] [] h) (fun x3 h2 => if x3 = 0 then (bn_ev 28 5 [some (.ref a0), some (.int a1), some (.int a2), some (.int (a3 + 1))] [] h2) else (if a2 < 0 then (bn_ev 28 5 [some (.ref a0), some (.int a1), some (.int a3), some (.int (a3 + 1))] [] h2) else (bn_gR h2 a0 0 10 (fun p4 => (bn_ld h2 p4 0 a3).bind (fun x5 => bn_gR h2 a0 0 10 (fun p6 => (bn_ld h2 p6 0 a2).bind (fun x7 => if x7 ≤ x5 then (bn_ev 28 5 [some (.ref a0), some (.int a1), some (.int a2), some (.int (a3 + 1))] [] h2) else (bn_ev 28 5 [some (.ref a0), some (.int a1), some (.int a3), some (.int (a3 + 1))] [] h2))))))))))) := by
  refine Eq.trans (be_iload_n bd_28_5 rfl) ?_
  refine Eq.trans (be_aload_n bd_28_6 rfl) ?_
  refine Eq.trans (be_getI bd_28_7 bf_0_42 rfl) ?_
  refine bn_gI_c fun x1 => ?_
  refine Eq.trans (be_icmp_ge (t := 49) bd_28_10 rfl) ?_
  refine bn_if_c ?_ ?_
  · refine Eq.trans (be_iload_n bd_28_49 rfl) ?_
    exact be_ireturn bd_28_50 rfl
  · refine Eq.trans (be_aload_n bd_28_13 rfl) ?_
    refine Eq.trans (be_iload_n bd_28_14 rfl) ?_
    refine Eq.trans (be_iload_n bd_28_15 rfl) ?_
    refine Eq.trans (be_virtI (as := [.int a3, .int a1]) (rr := []) (en := [some (.ref a0), some (.int a1), some (.int a3)]) bd_28_16 bm_0_119 rfl rfl rfl ⟨Nat.le_of_ble_eq_true rfl, Nat.le_of_ble_eq_true rfl, Nat.le_of_ble_eq_true rfl, Nat.le_of_ble_eq_true rfl⟩ (Or.inr rfl)) ?_
    refine bn_gd_c (bn_cI_c fun x3 h2 => ?_)
    refine Eq.trans (be_if_eq (t := 43) bd_28_19 rfl) ?_
    refine bn_if_c ?_ ?_
    · refine Eq.trans (be_iinc (v := 1) (ls' := [some (.ref a0), some (.int a1), some (.int a2), some (.int (a3 + 1))]) bd_28_43 rfl (by decide) (Nat.le_of_ble_eq_true rfl) rfl) ?_
      refine Eq.trans (be_goto (t := 5) bd_28_46 rfl) ?_
      rfl
    · refine Eq.trans (be_iload_n bd_28_22 rfl) ?_
      refine Eq.trans (be_if_lt (t := 41) bd_28_23 rfl) ?_
      refine bn_if_c ?_ ?_
      · refine Eq.trans (be_iload_n bd_28_41 rfl) ?_
        refine Eq.trans (be_istore_n (ls' := [some (.ref a0), some (.int a1), some (.int a3), some (.int a3)]) bd_28_42 (Nat.le_of_ble_eq_true rfl) rfl) ?_
        refine Eq.trans (be_iinc (v := 1) (ls' := [some (.ref a0), some (.int a1), some (.int a3), some (.int (a3 + 1))]) bd_28_43 rfl (by decide) (Nat.le_of_ble_eq_true rfl) rfl) ?_
        refine Eq.trans (be_goto (t := 5) bd_28_46 rfl) ?_
        rfl
      · refine Eq.trans (be_aload_n bd_28_26 rfl) ?_
        refine Eq.trans (be_getR bd_28_27 bf_0_45 rfl (Or.inl ⟨_, rfl⟩)) ?_
        refine bn_gR_c fun p4 => ?_
        refine Eq.trans (be_iload_n bd_28_30 rfl) ?_
        refine Eq.trans (be_iaload bd_28_31) ?_
        refine bn_bd_c fun x5 => ?_
        refine Eq.trans (be_aload_n bd_28_32 rfl) ?_
        refine Eq.trans (be_getR bd_28_33 bf_0_45 rfl (Or.inl ⟨_, rfl⟩)) ?_
        refine bn_gR_c fun p6 => ?_
        refine Eq.trans (be_iload_n bd_28_36 rfl) ?_
        refine Eq.trans (be_iaload bd_28_37) ?_
        refine bn_bd_c fun x7 => ?_
        refine Eq.trans (be_icmp_ge (t := 43) bd_28_38 rfl) ?_
        refine bn_if_c ?_ ?_
        · refine Eq.trans (be_iinc (v := 1) (ls' := [some (.ref a0), some (.int a1), some (.int a2), some (.int (a3 + 1))]) bd_28_43 rfl (by decide) (Nat.le_of_ble_eq_true rfl) rfl) ?_
          refine Eq.trans (be_goto (t := 5) bd_28_46 rfl) ?_
          rfl
        · refine Eq.trans (be_iload_n bd_28_41 rfl) ?_
          refine Eq.trans (be_istore_n (ls' := [some (.ref a0), some (.int a1), some (.int a3), some (.int a3)]) bd_28_42 (Nat.le_of_ble_eq_true rfl) rfl) ?_
          refine Eq.trans (be_iinc (v := 1) (ls' := [some (.ref a0), some (.int a1), some (.int a3), some (.int (a3 + 1))]) bd_28_43 rfl (by decide) (Nat.le_of_ble_eq_true rfl) rfl) ?_
          refine Eq.trans (be_goto (t := 5) bd_28_46 rfl) ?_
          rfl
theorem bs_X0_canAllLive_0 (a0 : Nat) (a1 : Int32) (h : bn_H) : bn_ev 29 0 [some (.ref a0), some (.int a1), none, none] [] h = bn_gI h a0 0 1 (fun x1 => bn_ev 29 11 [some (.ref a0), some (.int a1), some (.int ((a1 - x1) - 1)), some (.int 0)] [] h) := by
  refine Eq.trans (be_iload_n bd_29_0 rfl) ?_
  refine Eq.trans (be_aload_n bd_29_1 rfl) ?_
  refine Eq.trans (be_getI bd_29_2 bf_0_15 rfl) ?_
  refine bn_gI_c fun x1 => ?_
  refine Eq.trans (be_isub bd_29_5) ?_
  refine Eq.trans (be_iconst (v := 1) bd_29_6 (by decide)) ?_
  refine Eq.trans (be_isub bd_29_7) ?_
  refine Eq.trans (be_istore_n (ls' := [some (.ref a0), some (.int a1), some (.int ((a1 - x1) - 1)), none]) bd_29_8 (Nat.le_of_ble_eq_true rfl) rfl) ?_
  refine Eq.trans (be_iconst (v := 0) bd_29_9 (by decide)) ?_
  refine Eq.trans (be_istore_n (ls' := [some (.ref a0), some (.int a1), some (.int ((a1 - x1) - 1)), some (.int 0)]) bd_29_10 (Nat.le_of_ble_eq_true rfl) rfl) ?_
  rfl
theorem bs_X0_canAllLive_11 (a0 : Nat) (a1 : Int32) (a2 : Int32) (a3 : Int32) (h : bn_H) : bn_ev 29 11 [some (.ref a0), some (.int a1), some (.int a2), some (.int a3)] [] h = if (if a2 < 0 then 0 else a2) < a3 then (some (some (.int 1), h)) else (bn_gd (bn_isC h a0 0) (bn_cI (bn_ev 30 0 [some (.ref a0), some (.int a2), some (.int a3), none, none, none, none] [] h) (fun x2 h1 => bn_gd (bn_isC h1 a0 0) (bn_cI (bn_ev 31 0 [some (.ref a0), some (.int a3), none, none] [] h1) (fun x4 h3 => if x2 ≤ x4 then (bn_ev 29 11 [some (.ref a0), some (.int a1), some (.int a2), some (.int (a3 + 1))] [] h3) else (some (some (.int 0), h3))))))) := by
  refine Eq.trans (be_iload_n bd_29_11 rfl) ?_
  refine Eq.trans (be_iload_n bd_29_12 rfl) ?_
  refine Eq.trans (be_iconst (v := 0) bd_29_13 (by decide)) ?_
  refine Eq.trans (be_max bd_29_14 bm_0_90 ⟨Nat.le_of_ble_eq_true rfl, Nat.le_of_ble_eq_true rfl, Nat.le_of_ble_eq_true rfl⟩) ?_
  refine Eq.trans (be_icmp_gt (t := 42) bd_29_17 rfl) ?_
  refine bn_if_c ?_ ?_
  · refine Eq.trans (be_iconst (v := 1) bd_29_42 (by decide)) ?_
    exact be_z0 bd_29_43 rfl (Or.inr rfl)
  · refine Eq.trans (be_aload_n bd_29_20 rfl) ?_
    refine Eq.trans (be_iload_n bd_29_21 rfl) ?_
    refine Eq.trans (be_iload_n bd_29_22 rfl) ?_
    refine Eq.trans (be_virtI (as := [.int a3, .int a2]) (rr := []) (en := [some (.ref a0), some (.int a2), some (.int a3), none, none, none, none]) bd_29_23 bm_0_122 rfl rfl rfl ⟨Nat.le_of_ble_eq_true rfl, Nat.le_of_ble_eq_true rfl, Nat.le_of_ble_eq_true rfl, Nat.le_of_ble_eq_true rfl⟩ (Or.inl rfl)) ?_
    refine bn_gd_c (bn_cI_c fun x2 h1 => ?_)
    refine Eq.trans (be_aload_n bd_29_26 rfl) ?_
    refine Eq.trans (be_iload_n bd_29_27 rfl) ?_
    refine Eq.trans (be_virtI (as := [.int a3]) (rr := [.int x2]) (en := [some (.ref a0), some (.int a3), none, none]) bd_29_28 bm_0_125 rfl rfl rfl ⟨Nat.le_of_ble_eq_true rfl, Nat.le_of_ble_eq_true rfl, Nat.le_of_ble_eq_true rfl, Nat.le_of_ble_eq_true rfl⟩ (Or.inl rfl)) ?_
    refine bn_gd_c (bn_cI_c fun x4 h3 => ?_)
    refine Eq.trans (be_icmp_le (t := 36) bd_29_31 rfl) ?_
    refine bn_if_c ?_ ?_
    · refine Eq.trans (be_iinc (v := 1) (ls' := [some (.ref a0), some (.int a1), some (.int a2), some (.int (a3 + 1))]) bd_29_36 rfl (by decide) (Nat.le_of_ble_eq_true rfl) rfl) ?_
      refine Eq.trans (be_goto (t := 11) bd_29_39 rfl) ?_
      rfl
    · refine Eq.trans (be_iconst (v := 0) bd_29_34 (by decide)) ?_
      exact be_z0 bd_29_35 rfl (Or.inl rfl)
theorem bs_X0_mealsDue_0 (a0 : Nat) (a1 : Int32) (a2 : Int32) (h : bn_H) : bn_ev 30 0 [some (.ref a0), some (.int a1), some (.int a2), none, none, none, none] [] h = bn_ev 30 5 [some (.ref a0), some (.int a1), some (.int a2), some (.int 0), some (.int 0), none, none] [] h := by
  refine Eq.trans (be_iconst (v := 0) bd_30_0 (by decide)) ?_
  refine Eq.trans (be_istore_n (ls' := [some (.ref a0), some (.int a1), some (.int a2), some (.int 0), none, none, none]) bd_30_1 (Nat.le_of_ble_eq_true rfl) rfl) ?_
  refine Eq.trans (be_iconst (v := 0) bd_30_2 (by decide)) ?_
  refine Eq.trans (be_istore (ls' := [some (.ref a0), some (.int a1), some (.int a2), some (.int 0), some (.int 0), none, none]) bd_30_3 (Nat.le_of_ble_eq_true rfl) rfl) ?_
  rfl
theorem bs_X0_mealsDue_5 (a0 : Nat) (a1 : Int32) (a2 : Int32) (a3 : Int32) (a4 : Int32) (o5 : Option Value) (o6 : Option Value) (h : bn_H) : bn_ev 30 5 [some (.ref a0), some (.int a1), some (.int a2), some (.int a3), some (.int a4), o5, o6] [] h = bn_gI h a0 0 5 (fun x1 => if x1 ≤ a4 then (some (some (.int a3), h)) else (bn_gd (bn_isC h a0 0) (bn_cI (bn_ev 7 0 [some (.ref a0), some (.int a4)] [] h) (fun x3 h2 => if x3 = 0 then (bn_ev 30 5 [some (.ref a0), some (.int a1), some (.int a2), some (.int a3), some (.int (a4 + 1)), o5, o6] [] h2) else (bn_gR h2 a0 0 7 (fun p4 => (bn_ld h2 p4 1 a4).bind (fun x5 => if x5 = 0 then (bn_gR h2 a0 0 6 (fun p6 => (bn_ld h2 p6 0 a4).bind (fun x7 => bn_ev 30 51 [some (.ref a0), some (.int a1), some (.int a2), some (.int a3), some (.int a4), some (.int ((-1) - x7)), some (.int a1)] [] h2))) else (bn_ev 30 51 [some (.ref a0), some (.int a1), some (.int a2), some (.int a3), some (.int a4), some (.int 0), some (.int a1)] [] h2)))))))) := by
  refine Eq.trans (be_iload bd_30_5 rfl) ?_
  refine Eq.trans (be_aload_n bd_30_7 rfl) ?_
  refine Eq.trans (be_getI bd_30_8 bf_0_28 rfl) ?_
  refine bn_gI_c fun x1 => ?_
  refine Eq.trans (be_icmp_ge (t := 91) bd_30_11 rfl) ?_
  refine bn_if_c ?_ ?_
  · refine Eq.trans (be_iload_n bd_30_91 rfl) ?_
    exact be_ireturn bd_30_92 rfl
  · refine Eq.trans (be_aload_n bd_30_14 rfl) ?_
    refine Eq.trans (be_iload bd_30_15 rfl) ?_
    refine Eq.trans (be_virtI (as := [.int a4]) (rr := []) (en := [some (.ref a0), some (.int a4)]) bd_30_17 bm_0_66 rfl rfl rfl ⟨Nat.le_of_ble_eq_true rfl, Nat.le_of_ble_eq_true rfl, Nat.le_of_ble_eq_true rfl, Nat.le_of_ble_eq_true rfl⟩ (Or.inr rfl)) ?_
    refine bn_gd_c (bn_cI_c fun x3 h2 => ?_)
    refine Eq.trans (be_if_eq (t := 85) bd_30_20 rfl) ?_
    refine bn_if_c ?_ ?_
    · refine Eq.trans (be_iinc (v := 1) (ls' := [some (.ref a0), some (.int a1), some (.int a2), some (.int a3), some (.int (a4 + 1)), o5, o6]) bd_30_85 rfl (by decide) (Nat.le_of_ble_eq_true rfl) rfl) ?_
      refine Eq.trans (be_goto (t := 5) bd_30_88 rfl) ?_
      rfl
    · refine Eq.trans (be_aload_n bd_30_23 rfl) ?_
      refine Eq.trans (be_getR bd_30_24 bf_0_35 rfl (Or.inl ⟨_, rfl⟩)) ?_
      refine bn_gR_c fun p4 => ?_
      refine Eq.trans (be_iload bd_30_27 rfl) ?_
      refine Eq.trans (be_baload bd_30_29) ?_
      refine bn_bd_c fun x5 => ?_
      refine Eq.trans (be_if_eq (t := 37) bd_30_30 rfl) ?_
      refine bn_if_c ?_ ?_
      · refine Eq.trans (be_iconst (v := (-1)) bd_30_37 (by decide)) ?_
        refine Eq.trans (be_aload_n bd_30_38 rfl) ?_
        refine Eq.trans (be_getR bd_30_39 bf_0_31 rfl (Or.inl ⟨_, rfl⟩)) ?_
        refine bn_gR_c fun p6 => ?_
        refine Eq.trans (be_iload bd_30_42 rfl) ?_
        refine Eq.trans (be_iaload bd_30_44) ?_
        refine bn_bd_c fun x7 => ?_
        refine Eq.trans (be_isub bd_30_45) ?_
        refine Eq.trans (be_istore (ls' := [some (.ref a0), some (.int a1), some (.int a2), some (.int a3), some (.int a4), some (.int ((-1) - x7)), o6]) bd_30_46 (Nat.le_of_ble_eq_true rfl) rfl) ?_
        refine Eq.trans (be_iload_n bd_30_48 rfl) ?_
        refine Eq.trans (be_istore (ls' := [some (.ref a0), some (.int a1), some (.int a2), some (.int a3), some (.int a4), some (.int ((-1) - x7)), some (.int a1)]) bd_30_49 (Nat.le_of_ble_eq_true rfl) rfl) ?_
        rfl
      · refine Eq.trans (be_iconst (v := 0) bd_30_33 (by decide)) ?_
        refine Eq.trans (be_goto (t := 46) bd_30_34 rfl) ?_
        refine Eq.trans (be_istore (ls' := [some (.ref a0), some (.int a1), some (.int a2), some (.int a3), some (.int a4), some (.int 0), o6]) bd_30_46 (Nat.le_of_ble_eq_true rfl) rfl) ?_
        refine Eq.trans (be_iload_n bd_30_48 rfl) ?_
        refine Eq.trans (be_istore (ls' := [some (.ref a0), some (.int a1), some (.int a2), some (.int a3), some (.int a4), some (.int 0), some (.int a1)]) bd_30_49 (Nat.le_of_ble_eq_true rfl) rfl) ?_
        rfl
theorem bs_X0_mealsDue_51 (a0 : Nat) (a1 : Int32) (a2 : Int32) (a3 : Int32) (a4 : Int32) (a5 : Int32) (a6 : Int32) (h : bn_H) : bn_ev 30 51 [some (.ref a0), some (.int a1), some (.int a2), some (.int a3), some (.int a4), some (.int a5), some (.int a6)] [] h = if a6 ≤ a5 then (bn_ev 30 5 [some (.ref a0), some (.int a1), some (.int a2), some (.int a3), some (.int (a4 + 1)), some (.int a5), some (.int a6)] [] h) else (if (if a6 < 0 then 0 else a6) < a2 then (bn_gI h a0 0 1 (fun x1 => bn_ev 30 51 [some (.ref a0), some (.int a1), some (.int a2), some (.int a3), some (.int a4), some (.int a5), some (.int (a6 - (x1 + 1)))] [] h)) else (bn_gI h a0 0 1 (fun x2 => bn_ev 30 51 [some (.ref a0), some (.int a1), some (.int a2), some (.int (a3 + 1)), some (.int a4), some (.int a5), some (.int (a6 - (x2 + 1)))] [] h))) := by
  refine Eq.trans (be_iload bd_30_51 rfl) ?_
  refine Eq.trans (be_iload bd_30_53 rfl) ?_
  refine Eq.trans (be_icmp_le (t := 85) bd_30_55 rfl) ?_
  refine bn_if_c ?_ ?_
  · refine Eq.trans (be_iinc (v := 1) (ls' := [some (.ref a0), some (.int a1), some (.int a2), some (.int a3), some (.int (a4 + 1)), some (.int a5), some (.int a6)]) bd_30_85 rfl (by decide) (Nat.le_of_ble_eq_true rfl) rfl) ?_
    refine Eq.trans (be_goto (t := 5) bd_30_88 rfl) ?_
    rfl
  · refine Eq.trans (be_iload bd_30_58 rfl) ?_
    refine Eq.trans (be_iconst (v := 0) bd_30_60 (by decide)) ?_
    refine Eq.trans (be_max bd_30_61 bm_0_90 ⟨Nat.le_of_ble_eq_true rfl, Nat.le_of_ble_eq_true rfl, Nat.le_of_ble_eq_true rfl⟩) ?_
    refine Eq.trans (be_iload_n bd_30_64 rfl) ?_
    refine Eq.trans (be_icmp_lt (t := 71) bd_30_65 rfl) ?_
    refine bn_if_c ?_ ?_
    · refine Eq.trans (be_iload bd_30_71 rfl) ?_
      refine Eq.trans (be_aload_n bd_30_73 rfl) ?_
      refine Eq.trans (be_getI bd_30_74 bf_0_15 rfl) ?_
      refine bn_gI_c fun x1 => ?_
      refine Eq.trans (be_iconst (v := 1) bd_30_77 (by decide)) ?_
      refine Eq.trans (be_iadd bd_30_78) ?_
      refine Eq.trans (be_isub bd_30_79) ?_
      refine Eq.trans (be_istore (ls' := [some (.ref a0), some (.int a1), some (.int a2), some (.int a3), some (.int a4), some (.int a5), some (.int (a6 - (x1 + 1)))]) bd_30_80 (Nat.le_of_ble_eq_true rfl) rfl) ?_
      refine Eq.trans (be_goto (t := 51) bd_30_82 rfl) ?_
      rfl
    · refine Eq.trans (be_iinc (v := 1) (ls' := [some (.ref a0), some (.int a1), some (.int a2), some (.int (a3 + 1)), some (.int a4), some (.int a5), some (.int a6)]) bd_30_68 rfl (by decide) (Nat.le_of_ble_eq_true rfl) rfl) ?_
      refine Eq.trans (be_iload bd_30_71 rfl) ?_
      refine Eq.trans (be_aload_n bd_30_73 rfl) ?_
      refine Eq.trans (be_getI bd_30_74 bf_0_15 rfl) ?_
      refine bn_gI_c fun x2 => ?_
      refine Eq.trans (be_iconst (v := 1) bd_30_77 (by decide)) ?_
      refine Eq.trans (be_iadd bd_30_78) ?_
      refine Eq.trans (be_isub bd_30_79) ?_
      refine Eq.trans (be_istore (ls' := [some (.ref a0), some (.int a1), some (.int a2), some (.int (a3 + 1)), some (.int a4), some (.int a5), some (.int (a6 - (x2 + 1)))]) bd_30_80 (Nat.le_of_ble_eq_true rfl) rfl) ?_
      refine Eq.trans (be_goto (t := 51) bd_30_82 rfl) ?_
      rfl
theorem bs_X0_loavesGoodOn_0 (a0 : Nat) (a1 : Int32) (h : bn_H) : bn_ev 31 0 [some (.ref a0), some (.int a1), none, none] [] h = bn_ev 31 4 [some (.ref a0), some (.int a1), some (.int 0), some (.int 0)] [] h := by
  refine Eq.trans (be_iconst (v := 0) bd_31_0 (by decide)) ?_
  refine Eq.trans (be_istore_n (ls' := [some (.ref a0), some (.int a1), some (.int 0), none]) bd_31_1 (Nat.le_of_ble_eq_true rfl) rfl) ?_
  refine Eq.trans (be_iconst (v := 0) bd_31_2 (by decide)) ?_
  refine Eq.trans (be_istore_n (ls' := [some (.ref a0), some (.int a1), some (.int 0), some (.int 0)]) bd_31_3 (Nat.le_of_ble_eq_true rfl) rfl) ?_
  rfl
theorem bs_X0_loavesGoodOn_4 (a0 : Nat) (a1 : Int32) (a2 : Int32) (a3 : Int32) (h : bn_H) : bn_ev 31 4 [some (.ref a0), some (.int a1), some (.int a2), some (.int a3)] [] h = bn_gI h a0 0 9 (fun x1 => if x1 ≤ a3 then (some (some (.int a2), h)) else (bn_gd (bn_isC h a0 0) (bn_cI (bn_ev 9 0 [some (.ref a0), some (.int a3)] [] h) (fun x3 h2 => if x3 = 0 then (bn_ev 31 4 [some (.ref a0), some (.int a1), some (.int a2), some (.int (a3 + 1))] [] h2) else (bn_gR h2 a0 0 12 (fun p4 => (bn_ld h2 p4 0 a3).bind (fun x5 => bn_gI h2 a0 0 2 (fun x6 => if x6 ≤ (x5 + a1) then (bn_ev 31 4 [some (.ref a0), some (.int a1), some (.int a2), some (.int (a3 + 1))] [] h2) else (bn_ev 31 4 [some (.ref a0), some (.int a1), some (.int (a2 + 1)), some (.int (a3 + 1))] [] h2))))))))) := by
  refine Eq.trans (be_iload_n bd_31_4 rfl) ?_
  refine Eq.trans (be_aload_n bd_31_5 rfl) ?_
  refine Eq.trans (be_getI bd_31_6 bf_0_42 rfl) ?_
  refine bn_gI_c fun x1 => ?_
  refine Eq.trans (be_icmp_ge (t := 44) bd_31_9 rfl) ?_
  refine bn_if_c ?_ ?_
  · refine Eq.trans (be_iload_n bd_31_44 rfl) ?_
    exact be_ireturn bd_31_45 rfl
  · refine Eq.trans (be_aload_n bd_31_12 rfl) ?_
    refine Eq.trans (be_iload_n bd_31_13 rfl) ?_
    refine Eq.trans (be_virtI (as := [.int a3]) (rr := []) (en := [some (.ref a0), some (.int a3)]) bd_31_14 bm_0_80 rfl rfl rfl ⟨Nat.le_of_ble_eq_true rfl, Nat.le_of_ble_eq_true rfl, Nat.le_of_ble_eq_true rfl, Nat.le_of_ble_eq_true rfl⟩ (Or.inr rfl)) ?_
    refine bn_gd_c (bn_cI_c fun x3 h2 => ?_)
    refine Eq.trans (be_if_eq (t := 38) bd_31_17 rfl) ?_
    refine bn_if_c ?_ ?_
    · refine Eq.trans (be_iinc (v := 1) (ls' := [some (.ref a0), some (.int a1), some (.int a2), some (.int (a3 + 1))]) bd_31_38 rfl (by decide) (Nat.le_of_ble_eq_true rfl) rfl) ?_
      refine Eq.trans (be_goto (t := 4) bd_31_41 rfl) ?_
      rfl
    · refine Eq.trans (be_aload_n bd_31_20 rfl) ?_
      refine Eq.trans (be_getR bd_31_21 bf_0_51 rfl (Or.inl ⟨_, rfl⟩)) ?_
      refine bn_gR_c fun p4 => ?_
      refine Eq.trans (be_iload_n bd_31_24 rfl) ?_
      refine Eq.trans (be_iaload bd_31_25) ?_
      refine bn_bd_c fun x5 => ?_
      refine Eq.trans (be_iload_n bd_31_26 rfl) ?_
      refine Eq.trans (be_iadd bd_31_27) ?_
      refine Eq.trans (be_aload_n bd_31_28 rfl) ?_
      refine Eq.trans (be_getI bd_31_29 bf_0_18 rfl) ?_
      refine bn_gI_c fun x6 => ?_
      refine Eq.trans (be_icmp_ge (t := 38) bd_31_32 rfl) ?_
      refine bn_if_c ?_ ?_
      · refine Eq.trans (be_iinc (v := 1) (ls' := [some (.ref a0), some (.int a1), some (.int a2), some (.int (a3 + 1))]) bd_31_38 rfl (by decide) (Nat.le_of_ble_eq_true rfl) rfl) ?_
        refine Eq.trans (be_goto (t := 4) bd_31_41 rfl) ?_
        rfl
      · refine Eq.trans (be_iinc (v := 1) (ls' := [some (.ref a0), some (.int a1), some (.int (a2 + 1)), some (.int a3)]) bd_31_35 rfl (by decide) (Nat.le_of_ble_eq_true rfl) rfl) ?_
        refine Eq.trans (be_iinc (v := 1) (ls' := [some (.ref a0), some (.int a1), some (.int (a2 + 1)), some (.int (a3 + 1))]) bd_31_38 rfl (by decide) (Nat.le_of_ble_eq_true rfl) rfl) ?_
        refine Eq.trans (be_goto (t := 4) bd_31_41 rfl) ?_
        rfl
theorem bs_J6_bitCount_0f7a4_0 (a0 : Int32) (h : bn_H) : bn_ev 129 0 [some (.int a0)] [] h = some (some (.int ((((((((a0 - ((bn_ushr a0 1) &&& 1431655765)) &&& 858993459) + ((bn_ushr (a0 - ((bn_ushr a0 1) &&& 1431655765)) 2) &&& 858993459)) + (bn_ushr (((a0 - ((bn_ushr a0 1) &&& 1431655765)) &&& 858993459) + ((bn_ushr (a0 - ((bn_ushr a0 1) &&& 1431655765)) 2) &&& 858993459)) 4)) &&& 252645135) + (bn_ushr (((((a0 - ((bn_ushr a0 1) &&& 1431655765)) &&& 858993459) + ((bn_ushr (a0 - ((bn_ushr a0 1) &&& 1431655765)) 2) &&& 858993459)) + (bn_ushr (((a0 - ((bn_ushr a0 1) &&& 1431655765)) &&& 858993459) + ((bn_ushr (a0 - ((bn_ushr a0 1) &&& 1431655765)) 2) &&& 858993459)) 4)) &&& 252645135) 8)) + (bn_ushr ((((((a0 - ((bn_ushr a0 1) &&& 1431655765)) &&& 858993459) + ((bn_ushr (a0 - ((bn_ushr a0 1) &&& 1431655765)) 2) &&& 858993459)) + (bn_ushr (((a0 - ((bn_ushr a0 1) &&& 1431655765)) &&& 858993459) + ((bn_ushr (a0 - ((bn_ushr a0 1) &&& 1431655765)) 2) &&& 858993459)) 4)) &&& 252645135) + (bn_ushr (((((a0 - ((bn_ushr a0 1) &&& 1431655765)) &&& 858993459) + ((bn_ushr (a0 - ((bn_ushr a0 1) &&& 1431655765)) 2) &&& 858993459)) + (bn_ushr (((a0 - ((bn_ushr a0 1) &&& 1431655765)) &&& 858993459) + ((bn_ushr (a0 - ((bn_ushr a0 1) &&& 1431655765)) 2) &&& 858993459)) 4)) &&& 252645135) 8)) 16)) &&& 63)), h) := by
  refine Eq.trans (be_iload_n bd_129_0 rfl) ?_
  refine Eq.trans (be_iload_n bd_129_1 rfl) ?_
  refine Eq.trans (be_iconst (v := 1) bd_129_2 (by decide)) ?_
  refine Eq.trans (be_iushr bd_129_3) ?_
  refine Eq.trans (be_ldcw (v := 1431655765) bd_129_4 rfl) ?_
  refine Eq.trans (be_iand bd_129_7) ?_
  refine Eq.trans (be_isub bd_129_8) ?_
  refine Eq.trans (be_istore_n (ls' := [some (.int (a0 - ((bn_ushr a0 1) &&& 1431655765)))]) bd_129_9 (Nat.le_of_ble_eq_true rfl) rfl) ?_
  refine Eq.trans (be_iload_n bd_129_10 rfl) ?_
  refine Eq.trans (be_ldcw (v := 858993459) bd_129_11 rfl) ?_
  refine Eq.trans (be_iand bd_129_14) ?_
  refine Eq.trans (be_iload_n bd_129_15 rfl) ?_
  refine Eq.trans (be_iconst (v := 2) bd_129_16 (by decide)) ?_
  refine Eq.trans (be_iushr bd_129_17) ?_
  refine Eq.trans (be_ldcw (v := 858993459) bd_129_18 rfl) ?_
  refine Eq.trans (be_iand bd_129_21) ?_
  refine Eq.trans (be_iadd bd_129_22) ?_
  refine Eq.trans (be_istore_n (ls' := [some (.int (((a0 - ((bn_ushr a0 1) &&& 1431655765)) &&& 858993459) + ((bn_ushr (a0 - ((bn_ushr a0 1) &&& 1431655765)) 2) &&& 858993459)))]) bd_129_23 (Nat.le_of_ble_eq_true rfl) rfl) ?_
  refine Eq.trans (be_iload_n bd_129_24 rfl) ?_
  refine Eq.trans (be_iload_n bd_129_25 rfl) ?_
  refine Eq.trans (be_iconst (v := 4) bd_129_26 (by decide)) ?_
  refine Eq.trans (be_iushr bd_129_27) ?_
  refine Eq.trans (be_iadd bd_129_28) ?_
  refine Eq.trans (be_ldcw (v := 252645135) bd_129_29 rfl) ?_
  refine Eq.trans (be_iand bd_129_32) ?_
  refine Eq.trans (be_istore_n (ls' := [some (.int (((((a0 - ((bn_ushr a0 1) &&& 1431655765)) &&& 858993459) + ((bn_ushr (a0 - ((bn_ushr a0 1) &&& 1431655765)) 2) &&& 858993459)) + (bn_ushr (((a0 - ((bn_ushr a0 1) &&& 1431655765)) &&& 858993459) + ((bn_ushr (a0 - ((bn_ushr a0 1) &&& 1431655765)) 2) &&& 858993459)) 4)) &&& 252645135))]) bd_129_33 (Nat.le_of_ble_eq_true rfl) rfl) ?_
  refine Eq.trans (be_iload_n bd_129_34 rfl) ?_
  refine Eq.trans (be_iload_n bd_129_35 rfl) ?_
  refine Eq.trans (be_bipush (v := 8) bd_129_36 (by decide)) ?_
  refine Eq.trans (be_iushr bd_129_38) ?_
  refine Eq.trans (be_iadd bd_129_39) ?_
  refine Eq.trans (be_istore_n (ls' := [some (.int ((((((a0 - ((bn_ushr a0 1) &&& 1431655765)) &&& 858993459) + ((bn_ushr (a0 - ((bn_ushr a0 1) &&& 1431655765)) 2) &&& 858993459)) + (bn_ushr (((a0 - ((bn_ushr a0 1) &&& 1431655765)) &&& 858993459) + ((bn_ushr (a0 - ((bn_ushr a0 1) &&& 1431655765)) 2) &&& 858993459)) 4)) &&& 252645135) + (bn_ushr (((((a0 - ((bn_ushr a0 1) &&& 1431655765)) &&& 858993459) + ((bn_ushr (a0 - ((bn_ushr a0 1) &&& 1431655765)) 2) &&& 858993459)) + (bn_ushr (((a0 - ((bn_ushr a0 1) &&& 1431655765)) &&& 858993459) + ((bn_ushr (a0 - ((bn_ushr a0 1) &&& 1431655765)) 2) &&& 858993459)) 4)) &&& 252645135) 8)))]) bd_129_40 (Nat.le_of_ble_eq_true rfl) rfl) ?_
  refine Eq.trans (be_iload_n bd_129_41 rfl) ?_
  refine Eq.trans (be_iload_n bd_129_42 rfl) ?_
  refine Eq.trans (be_bipush (v := 16) bd_129_43 (by decide)) ?_
  refine Eq.trans (be_iushr bd_129_45) ?_
  refine Eq.trans (be_iadd bd_129_46) ?_
  refine Eq.trans (be_istore_n (ls' := [some (.int (((((((a0 - ((bn_ushr a0 1) &&& 1431655765)) &&& 858993459) + ((bn_ushr (a0 - ((bn_ushr a0 1) &&& 1431655765)) 2) &&& 858993459)) + (bn_ushr (((a0 - ((bn_ushr a0 1) &&& 1431655765)) &&& 858993459) + ((bn_ushr (a0 - ((bn_ushr a0 1) &&& 1431655765)) 2) &&& 858993459)) 4)) &&& 252645135) + (bn_ushr (((((a0 - ((bn_ushr a0 1) &&& 1431655765)) &&& 858993459) + ((bn_ushr (a0 - ((bn_ushr a0 1) &&& 1431655765)) 2) &&& 858993459)) + (bn_ushr (((a0 - ((bn_ushr a0 1) &&& 1431655765)) &&& 858993459) + ((bn_ushr (a0 - ((bn_ushr a0 1) &&& 1431655765)) 2) &&& 858993459)) 4)) &&& 252645135) 8)) + (bn_ushr ((((((a0 - ((bn_ushr a0 1) &&& 1431655765)) &&& 858993459) + ((bn_ushr (a0 - ((bn_ushr a0 1) &&& 1431655765)) 2) &&& 858993459)) + (bn_ushr (((a0 - ((bn_ushr a0 1) &&& 1431655765)) &&& 858993459) + ((bn_ushr (a0 - ((bn_ushr a0 1) &&& 1431655765)) 2) &&& 858993459)) 4)) &&& 252645135) + (bn_ushr (((((a0 - ((bn_ushr a0 1) &&& 1431655765)) &&& 858993459) + ((bn_ushr (a0 - ((bn_ushr a0 1) &&& 1431655765)) 2) &&& 858993459)) + (bn_ushr (((a0 - ((bn_ushr a0 1) &&& 1431655765)) &&& 858993459) + ((bn_ushr (a0 - ((bn_ushr a0 1) &&& 1431655765)) 2) &&& 858993459)) 4)) &&& 252645135) 8)) 16)))]) bd_129_47 (Nat.le_of_ble_eq_true rfl) rfl) ?_
  refine Eq.trans (be_iload_n bd_129_48 rfl) ?_
  refine Eq.trans (be_bipush (v := 63) bd_129_49 (by decide)) ?_
  refine Eq.trans (be_iand bd_129_51) ?_
  exact be_ireturn bd_129_52 rfl
end
