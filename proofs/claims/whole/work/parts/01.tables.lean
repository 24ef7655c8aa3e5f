/-- a private method of a class that the tables say can be made, by its rows of tables_1 -/
def lw_okq (q : MethodName × Nat) : Prop := (q.1.cls ≠ "java/lang/invoke/MethodHandle" ∧ q.1.cls ≠ "java/lang/invoke/VarHandle") ∧ Cond.instantiable q.1.cls q.2 ∈ tables_1 ∧ Cond.privateMethod q.1 ∈ tables_1 ∧ Cond.instanceMethod q.1 ∈ tables_1
theorem lw_p0 : lw_okq (⟨"BreadNumbered$Text", "readRules", "(LBreadNumbered$Siege;)Z"⟩, 3) := ⟨⟨by decide +kernel, by decide +kernel⟩, List.mem_of_getElem? (i := 17) (by decide +kernel), List.mem_of_getElem? (i := 150) (by decide +kernel), List.mem_of_getElem? (i := 151) (by decide +kernel)⟩
theorem lw_p1 : lw_okq (⟨"BreadNumbered$Text", "readSign", "(C)Z"⟩, 3) := ⟨⟨by decide +kernel, by decide +kernel⟩, List.mem_of_getElem? (i := 17) (by decide +kernel), List.mem_of_getElem? (i := 154) (by decide +kernel), List.mem_of_getElem? (i := 155) (by decide +kernel)⟩
theorem lw_p2 : lw_okq (⟨"BreadNumbered$Text", "isSignHere", "(C)Z"⟩, 3) := ⟨⟨by decide +kernel, by decide +kernel⟩, List.mem_of_getElem? (i := 17) (by decide +kernel), List.mem_of_getElem? (i := 158) (by decide +kernel), List.mem_of_getElem? (i := 159) (by decide +kernel)⟩
theorem lw_p3 : lw_okq (⟨"BreadNumbered$Text", "readFigure", "(II)I"⟩, 3) := ⟨⟨by decide +kernel, by decide +kernel⟩, List.mem_of_getElem? (i := 17) (by decide +kernel), List.mem_of_getElem? (i := 162) (by decide +kernel), List.mem_of_getElem? (i := 163) (by decide +kernel)⟩
theorem lw_p4 : lw_okq (⟨"BreadNumbered$Text", "figureHere", "()I"⟩, 3) := ⟨⟨by decide +kernel, by decide +kernel⟩, List.mem_of_getElem? (i := 17) (by decide +kernel), List.mem_of_getElem? (i := 166) (by decide +kernel), List.mem_of_getElem? (i := 167) (by decide +kernel)⟩
theorem lw_p5 : lw_okq (⟨"BreadNumbered$Text", "readPerson", "(LBreadNumbered$Siege;)Z"⟩, 3) := ⟨⟨by decide +kernel, by decide +kernel⟩, List.mem_of_getElem? (i := 17) (by decide +kernel), List.mem_of_getElem? (i := 174) (by decide +kernel), List.mem_of_getElem? (i := 175) (by decide +kernel)⟩
theorem lw_p6 : lw_okq (⟨"BreadNumbered$Text", "readLoaf", "(LBreadNumbered$Siege;)Z"⟩, 3) := ⟨⟨by decide +kernel, by decide +kernel⟩, List.mem_of_getElem? (i := 17) (by decide +kernel), List.mem_of_getElem? (i := 182) (by decide +kernel), List.mem_of_getElem? (i := 183) (by decide +kernel)⟩
theorem lw_p7 : lw_okq (⟨"BreadNumbered$Text", "readNumber", "(LBreadNumbered$Siege;)I"⟩, 3) := ⟨⟨by decide +kernel, by decide +kernel⟩, List.mem_of_getElem? (i := 17) (by decide +kernel), List.mem_of_getElem? (i := 186) (by decide +kernel), List.mem_of_getElem? (i := 187) (by decide +kernel)⟩
theorem lw_p8 : lw_okq (⟨"BreadNumbered", "forgetActs", "()V"⟩, 8) := ⟨⟨by decide +kernel, by decide +kernel⟩, List.mem_of_getElem? (i := 9) (by decide +kernel), List.mem_of_getElem? (i := 215) (by decide +kernel), List.mem_of_getElem? (i := 216) (by decide +kernel)⟩
theorem lw_p9 : lw_okq (⟨"BreadNumbered$Siege", "lawForbids", "(II)Z"⟩, 15) := ⟨⟨by decide +kernel, by decide +kernel⟩, List.mem_of_getElem? (i := 35) (by decide +kernel), List.mem_of_getElem? (i := 257) (by decide +kernel), List.mem_of_getElem? (i := 258) (by decide +kernel)⟩
theorem lw_p10 : lw_okq (⟨"BreadNumbered", "rememberAct", "()V"⟩, 8) := ⟨⟨by decide +kernel, by decide +kernel⟩, List.mem_of_getElem? (i := 9) (by decide +kernel), List.mem_of_getElem? (i := 269) (by decide +kernel), List.mem_of_getElem? (i := 270) (by decide +kernel)⟩
theorem lw_p11 : lw_okq (⟨"BreadNumbered$Siege", "leaveToPriest", "(I)V"⟩, 15) := ⟨⟨by decide +kernel, by decide +kernel⟩, List.mem_of_getElem? (i := 35) (by decide +kernel), List.mem_of_getElem? (i := 299) (by decide +kernel), List.mem_of_getElem? (i := 300) (by decide +kernel)⟩
theorem lw_p12 : lw_okq (⟨"BreadNumbered", "daysUntilDeath", "()I"⟩, 8) := ⟨⟨by decide +kernel, by decide +kernel⟩, List.mem_of_getElem? (i := 9) (by decide +kernel), List.mem_of_getElem? (i := 354) (by decide +kernel), List.mem_of_getElem? (i := 355) (by decide +kernel)⟩
theorem lw_p13 : lw_okq (⟨"BreadNumbered$Siege", "leastAllowed", "(I)I"⟩, 15) := ⟨⟨by decide +kernel, by decide +kernel⟩, List.mem_of_getElem? (i := 35) (by decide +kernel), List.mem_of_getElem? (i := 362) (by decide +kernel), List.mem_of_getElem? (i := 363) (by decide +kernel)⟩
theorem lw_p14 : lw_okq (⟨"BreadNumbered$Siege", "mealsDue", "(II)I"⟩, 15) := ⟨⟨by decide +kernel, by decide +kernel⟩, List.mem_of_getElem? (i := 35) (by decide +kernel), List.mem_of_getElem? (i := 383) (by decide +kernel), List.mem_of_getElem? (i := 384) (by decide +kernel)⟩
theorem lw_p15 : lw_okq (⟨"BreadNumbered$Siege", "loavesGoodOn", "(I)I"⟩, 15) := ⟨⟨by decide +kernel, by decide +kernel⟩, List.mem_of_getElem? (i := 35) (by decide +kernel), List.mem_of_getElem? (i := 387) (by decide +kernel), List.mem_of_getElem? (i := 388) (by decide +kernel)⟩
def lw_privs_1 : List (MethodName × Nat) := [(⟨"BreadNumbered$Text", "readRules", "(LBreadNumbered$Siege;)Z"⟩, 3), (⟨"BreadNumbered$Text", "readSign", "(C)Z"⟩, 3), (⟨"BreadNumbered$Text", "isSignHere", "(C)Z"⟩, 3), (⟨"BreadNumbered$Text", "readFigure", "(II)I"⟩, 3), (⟨"BreadNumbered$Text", "figureHere", "()I"⟩, 3), (⟨"BreadNumbered$Text", "readPerson", "(LBreadNumbered$Siege;)Z"⟩, 3), (⟨"BreadNumbered$Text", "readLoaf", "(LBreadNumbered$Siege;)Z"⟩, 3), (⟨"BreadNumbered$Text", "readNumber", "(LBreadNumbered$Siege;)I"⟩, 3), (⟨"BreadNumbered", "forgetActs", "()V"⟩, 8), (⟨"BreadNumbered$Siege", "lawForbids", "(II)Z"⟩, 15), (⟨"BreadNumbered", "rememberAct", "()V"⟩, 8), (⟨"BreadNumbered$Siege", "leaveToPriest", "(I)V"⟩, 15), (⟨"BreadNumbered", "daysUntilDeath", "()I"⟩, 8), (⟨"BreadNumbered$Siege", "leastAllowed", "(I)I"⟩, 15), (⟨"BreadNumbered$Siege", "mealsDue", "(II)I"⟩, 15), (⟨"BreadNumbered$Siege", "loavesGoodOn", "(I)I"⟩, 15)]
theorem lw_r1 : ∀ q ∈ lw_privs_1, lw_okq q := List.forall_mem_cons.mpr ⟨lw_p0, List.forall_mem_cons.mpr ⟨lw_p1, List.forall_mem_cons.mpr ⟨lw_p2, List.forall_mem_cons.mpr ⟨lw_p3, List.forall_mem_cons.mpr ⟨lw_p4, List.forall_mem_cons.mpr ⟨lw_p5, List.forall_mem_cons.mpr ⟨lw_p6, List.forall_mem_cons.mpr ⟨lw_p7, List.forall_mem_cons.mpr ⟨lw_p8, List.forall_mem_cons.mpr ⟨lw_p9, List.forall_mem_cons.mpr ⟨lw_p10, List.forall_mem_cons.mpr ⟨lw_p11, List.forall_mem_cons.mpr ⟨lw_p12, List.forall_mem_cons.mpr ⟨lw_p13, List.forall_mem_cons.mpr ⟨lw_p14, List.forall_mem_cons.mpr ⟨lw_p15, fun _ h => absurd h List.not_mem_nil⟩⟩⟩⟩⟩⟩⟩⟩⟩⟩⟩⟩⟩⟩⟩⟩
theorem lw_p16 : lw_okq (⟨"BreadNumberedModel", "readText", "()I"⟩, 29) := ⟨⟨by decide +kernel, by decide +kernel⟩, List.mem_of_getElem? (i := 445) (by decide +kernel), List.mem_of_getElem? (i := 557) (by decide +kernel), List.mem_of_getElem? (i := 558) (by decide +kernel)⟩
theorem lw_p17 : lw_okq (⟨"BreadNumberedModel", "figure", "(I)I"⟩, 29) := ⟨⟨by decide +kernel, by decide +kernel⟩, List.mem_of_getElem? (i := 445) (by decide +kernel), List.mem_of_getElem? (i := 561) (by decide +kernel), List.mem_of_getElem? (i := 562) (by decide +kernel)⟩
theorem lw_p18 : lw_okq (⟨"BreadNumberedModel", "readLoaf", "()V"⟩, 29) := ⟨⟨by decide +kernel, by decide +kernel⟩, List.mem_of_getElem? (i := 445) (by decide +kernel), List.mem_of_getElem? (i := 566) (by decide +kernel), List.mem_of_getElem? (i := 567) (by decide +kernel)⟩
theorem lw_p19 : lw_okq (⟨"BreadNumberedModel", "free", "(I)I"⟩, 29) := ⟨⟨by decide +kernel, by decide +kernel⟩, List.mem_of_getElem? (i := 445) (by decide +kernel), List.mem_of_getElem? (i := 570) (by decide +kernel), List.mem_of_getElem? (i := 571) (by decide +kernel)⟩
theorem lw_p20 : lw_okq (⟨"BreadNumberedModel", "isPerson", "(I)Z"⟩, 29) := ⟨⟨by decide +kernel, by decide +kernel⟩, List.mem_of_getElem? (i := 445) (by decide +kernel), List.mem_of_getElem? (i := 582) (by decide +kernel), List.mem_of_getElem? (i := 583) (by decide +kernel)⟩
theorem lw_p21 : lw_okq (⟨"BreadNumberedModel", "held", "(I)I"⟩, 29) := ⟨⟨by decide +kernel, by decide +kernel⟩, List.mem_of_getElem? (i := 445) (by decide +kernel), List.mem_of_getElem? (i := 586) (by decide +kernel), List.mem_of_getElem? (i := 587) (by decide +kernel)⟩
theorem lw_p22 : lw_okq (⟨"BreadNumberedModel", "holder", "(I)I"⟩, 29) := ⟨⟨by decide +kernel, by decide +kernel⟩, List.mem_of_getElem? (i := 445) (by decide +kernel), List.mem_of_getElem? (i := 590) (by decide +kernel), List.mem_of_getElem? (i := 591) (by decide +kernel)⟩
theorem lw_p23 : lw_okq (⟨"BreadNumberedModel", "isLoaf", "(I)Z"⟩, 29) := ⟨⟨by decide +kernel, by decide +kernel⟩, List.mem_of_getElem? (i := 445) (by decide +kernel), List.mem_of_getElem? (i := 598) (by decide +kernel), List.mem_of_getElem? (i := 599) (by decide +kernel)⟩
theorem lw_p24 : lw_okq (⟨"BreadNumberedModel", "isBad", "(I)Z"⟩, 29) := ⟨⟨by decide +kernel, by decide +kernel⟩, List.mem_of_getElem? (i := 445) (by decide +kernel), List.mem_of_getElem? (i := 602) (by decide +kernel), List.mem_of_getElem? (i := 603) (by decide +kernel)⟩
theorem lw_p25 : lw_okq (⟨"BreadNumberedModel", "mayEat", "(II)Z"⟩, 29) := ⟨⟨by decide +kernel, by decide +kernel⟩, List.mem_of_getElem? (i := 445) (by decide +kernel), List.mem_of_getElem? (i := 610) (by decide +kernel), List.mem_of_getElem? (i := 611) (by decide +kernel)⟩
theorem lw_p26 : lw_okq (⟨"BreadNumberedModel", "number", "(I)I"⟩, 29) := ⟨⟨by decide +kernel, by decide +kernel⟩, List.mem_of_getElem? (i := 445) (by decide +kernel), List.mem_of_getElem? (i := 614) (by decide +kernel), List.mem_of_getElem? (i := 615) (by decide +kernel)⟩
theorem lw_p27 : lw_okq (⟨"BreadNumberedModel", "keepAct", "()V"⟩, 29) := ⟨⟨by decide +kernel, by decide +kernel⟩, List.mem_of_getElem? (i := 445) (by decide +kernel), List.mem_of_getElem? (i := 622) (by decide +kernel), List.mem_of_getElem? (i := 623) (by decide +kernel)⟩
theorem lw_p28 : lw_okq (⟨"BreadNumberedModel", "eaten", "(II)V"⟩, 29) := ⟨⟨by decide +kernel, by decide +kernel⟩, List.mem_of_getElem? (i := 445) (by decide +kernel), List.mem_of_getElem? (i := 626) (by decide +kernel), List.mem_of_getElem? (i := 627) (by decide +kernel)⟩
theorem lw_p29 : lw_okq (⟨"BreadNumberedModel", "goBy", "()I"⟩, 29) := ⟨⟨by decide +kernel, by decide +kernel⟩, List.mem_of_getElem? (i := 445) (by decide +kernel), List.mem_of_getElem? (i := 645) (by decide +kernel), List.mem_of_getElem? (i := 646) (by decide +kernel)⟩
theorem lw_p30 : lw_okq (⟨"BreadNumberedModel", "alive", "()I"⟩, 29) := ⟨⟨by decide +kernel, by decide +kernel⟩, List.mem_of_getElem? (i := 445) (by decide +kernel), List.mem_of_getElem? (i := 653) (by decide +kernel), List.mem_of_getElem? (i := 654) (by decide +kernel)⟩
theorem lw_p31 : lw_okq (⟨"BreadNumberedModel", "layLasts", "()I"⟩, 29) := ⟨⟨by decide +kernel, by decide +kernel⟩, List.mem_of_getElem? (i := 445) (by decide +kernel), List.mem_of_getElem? (i := 677) (by decide +kernel), List.mem_of_getElem? (i := 678) (by decide +kernel)⟩
def lw_privs_2 : List (MethodName × Nat) := [(⟨"BreadNumberedModel", "readText", "()I"⟩, 29), (⟨"BreadNumberedModel", "figure", "(I)I"⟩, 29), (⟨"BreadNumberedModel", "readLoaf", "()V"⟩, 29), (⟨"BreadNumberedModel", "free", "(I)I"⟩, 29), (⟨"BreadNumberedModel", "isPerson", "(I)Z"⟩, 29), (⟨"BreadNumberedModel", "held", "(I)I"⟩, 29), (⟨"BreadNumberedModel", "holder", "(I)I"⟩, 29), (⟨"BreadNumberedModel", "isLoaf", "(I)Z"⟩, 29), (⟨"BreadNumberedModel", "isBad", "(I)Z"⟩, 29), (⟨"BreadNumberedModel", "mayEat", "(II)Z"⟩, 29), (⟨"BreadNumberedModel", "number", "(I)I"⟩, 29), (⟨"BreadNumberedModel", "keepAct", "()V"⟩, 29), (⟨"BreadNumberedModel", "eaten", "(II)V"⟩, 29), (⟨"BreadNumberedModel", "goBy", "()I"⟩, 29), (⟨"BreadNumberedModel", "alive", "()I"⟩, 29), (⟨"BreadNumberedModel", "layLasts", "()I"⟩, 29)]
theorem lw_r2 : ∀ q ∈ lw_privs_2, lw_okq q := List.forall_mem_cons.mpr ⟨lw_p16, List.forall_mem_cons.mpr ⟨lw_p17, List.forall_mem_cons.mpr ⟨lw_p18, List.forall_mem_cons.mpr ⟨lw_p19, List.forall_mem_cons.mpr ⟨lw_p20, List.forall_mem_cons.mpr ⟨lw_p21, List.forall_mem_cons.mpr ⟨lw_p22, List.forall_mem_cons.mpr ⟨lw_p23, List.forall_mem_cons.mpr ⟨lw_p24, List.forall_mem_cons.mpr ⟨lw_p25, List.forall_mem_cons.mpr ⟨lw_p26, List.forall_mem_cons.mpr ⟨lw_p27, List.forall_mem_cons.mpr ⟨lw_p28, List.forall_mem_cons.mpr ⟨lw_p29, List.forall_mem_cons.mpr ⟨lw_p30, List.forall_mem_cons.mpr ⟨lw_p31, fun _ h => absurd h List.not_mem_nil⟩⟩⟩⟩⟩⟩⟩⟩⟩⟩⟩⟩⟩⟩⟩⟩
theorem lw_p32 : lw_okq (⟨"BreadNumberedModel", "leastOf", "(I)I"⟩, 29) := ⟨⟨by decide +kernel, by decide +kernel⟩, List.mem_of_getElem? (i := 445) (by decide +kernel), List.mem_of_getElem? (i := 681) (by decide +kernel), List.mem_of_getElem? (i := 682) (by decide +kernel)⟩
theorem lw_p33 : lw_okq (⟨"BreadNumberedModel", "layGood", "()I"⟩, 29) := ⟨⟨by decide +kernel, by decide +kernel⟩, List.mem_of_getElem? (i := 445) (by decide +kernel), List.mem_of_getElem? (i := 693) (by decide +kernel), List.mem_of_getElem? (i := 694) (by decide +kernel)⟩
theorem lw_p34 : lw_okq (⟨"BreadNumberedModel", "goOn", "(IIII)Z"⟩, 29) := ⟨⟨by decide +kernel, by decide +kernel⟩, List.mem_of_getElem? (i := 445) (by decide +kernel), List.mem_of_getElem? (i := 700) (by decide +kernel), List.mem_of_getElem? (i := 701) (by decide +kernel)⟩
theorem lw_p35 : lw_okq (⟨"BreadNumberedModel", "fasted", "(IIII)I"⟩, 29) := ⟨⟨by decide +kernel, by decide +kernel⟩, List.mem_of_getElem? (i := 445) (by decide +kernel), List.mem_of_getElem? (i := 704) (by decide +kernel), List.mem_of_getElem? (i := 705) (by decide +kernel)⟩
theorem lw_p36 : lw_okq (⟨"BreadNumberedModel", "greatest", "()I"⟩, 29) := ⟨⟨by decide +kernel, by decide +kernel⟩, List.mem_of_getElem? (i := 445) (by decide +kernel), List.mem_of_getElem? (i := 712) (by decide +kernel), List.mem_of_getElem? (i := 713) (by decide +kernel)⟩
theorem lw_p37 : lw_okq (⟨"BreadNumberedModel", "isTold", "(I)Z"⟩, 29) := ⟨⟨by decide +kernel, by decide +kernel⟩, List.mem_of_getElem? (i := 445) (by decide +kernel), List.mem_of_getElem? (i := 716) (by decide +kernel), List.mem_of_getElem? (i := 717) (by decide +kernel)⟩
def lw_privs_3 : List (MethodName × Nat) := [(⟨"BreadNumberedModel", "leastOf", "(I)I"⟩, 29), (⟨"BreadNumberedModel", "layGood", "()I"⟩, 29), (⟨"BreadNumberedModel", "goOn", "(IIII)Z"⟩, 29), (⟨"BreadNumberedModel", "fasted", "(IIII)I"⟩, 29), (⟨"BreadNumberedModel", "greatest", "()I"⟩, 29), (⟨"BreadNumberedModel", "isTold", "(I)Z"⟩, 29)]
theorem lw_r3 : ∀ q ∈ lw_privs_3, lw_okq q := List.forall_mem_cons.mpr ⟨lw_p32, List.forall_mem_cons.mpr ⟨lw_p33, List.forall_mem_cons.mpr ⟨lw_p34, List.forall_mem_cons.mpr ⟨lw_p35, List.forall_mem_cons.mpr ⟨lw_p36, List.forall_mem_cons.mpr ⟨lw_p37, fun _ h => absurd h List.not_mem_nil⟩⟩⟩⟩⟩⟩
def lw_privs : List (MethodName × Nat) := lw_privs_1 ++ (lw_privs_2 ++ (lw_privs_3))
def lw_tbl : List Cond := k2_sels lw_privs ++ tables_1
theorem lw_privs_ok : ∀ q ∈ lw_privs, lw_okq q := by
  show ∀ q ∈ lw_privs_1 ++ (lw_privs_2 ++ (lw_privs_3)), lw_okq q
  exact List.forall_mem_append.mpr ⟨lw_r1, List.forall_mem_append.mpr ⟨lw_r2, lw_r3⟩⟩
def RX0 : String := "BreadNumbered$Siege"
def TX0 : u_T := fun k => match k with
  | 0 => ("BreadNumbered$Siege", "law", "I", false)
  | 1 => ("BreadNumbered$Siege", "lives", "I", false)
  | 2 => ("BreadNumbered$Siege", "badAt", "I", false)
  | 3 => ("BreadNumbered$Siege", "day", "I", false)
  | 4 => ("BreadNumbered$Siege", "seed", "J", false)
  | 5 => ("BreadNumbered$Siege", "people", "I", false)
  | 6 => ("BreadNumbered$Siege", "fasted", "[I", true)
  | 7 => ("BreadNumbered$Siege", "ateToday", "[Z", true)
  | 8 => ("BreadNumbered$Siege", "eatenCount", "[I", true)
  | 9 => ("BreadNumbered$Siege", "loaves", "I", false)
  | 10 => ("BreadNumbered$Siege", "number", "[I", true)
  | 11 => ("BreadNumbered$Siege", "holder", "[I", true)
  | 12 => ("BreadNumbered$Siege", "age", "[I", true)
  | 13 => ("BreadNumbered$Siege", "eater", "[I", true)
  | _ => ("BreadNumbered$Siege", "eatenOn", "[I", true)
def tyX0 : Nat → FieldType := fun k => match k with
  | 0 => .int
  | 1 => .int
  | 2 => .int
  | 3 => .int
  | 4 => .long
  | 5 => .int
  | 6 => .array .int
  | 7 => .array .boolean
  | 8 => .array .int
  | 9 => .int
  | 10 => .array .int
  | 11 => .array .int
  | 12 => .array .int
  | 13 => .array .int
  | _ => .array .int
abbrev wsX00 : List Cond := u_ws RX0 TX0 15
theorem nmX0 : ∀ a, a < 15 → ∀ b, b < 15 → a ≠ b → (TX0 a).2.1 ≠ (TX0 b).2.1 := by decide +kernel
theorem tyX0_ok : ∀ k, k < 15 → parseFieldDescriptor (TX0 k).2.2.1 = some (tyX0 k) := by decide +kernel
abbrev cX0_init : ByteArray := prog_2_method_1_code
def yX0_init : MethodName := ⟨RX0, "<init>", "()V"⟩
abbrev cX0_begin : ByteArray := prog_2_method_2_code
def yX0_begin : MethodName := ⟨RX0, "begin", "(III)V"⟩
abbrev cX0_addPerson : ByteArray := prog_2_method_3_code
def yX0_addPerson : MethodName := ⟨RX0, "addPerson", "(I)V"⟩
abbrev cX0_addLoaf : ByteArray := prog_2_method_4_code
def yX0_addLoaf : MethodName := ⟨RX0, "addLoaf", "(III)V"⟩
abbrev cX0_becomes : ByteArray := prog_2_method_5_code
def yX0_becomes : MethodName := ⟨RX0, "becomes", "(LBreadNumbered$Siege;)V"⟩
abbrev cX0_hasPerson : ByteArray := prog_2_method_6_code
def yX0_hasPerson : MethodName := ⟨RX0, "hasPerson", "(I)Z"⟩
abbrev cX0_hasLoaf : ByteArray := prog_2_method_7_code
def yX0_hasLoaf : MethodName := ⟨RX0, "hasLoaf", "(I)Z"⟩
abbrev cX0_isAlive : ByteArray := prog_2_method_8_code
def yX0_isAlive : MethodName := ⟨RX0, "isAlive", "(I)Z"⟩
abbrev cX0_isBad : ByteArray := prog_2_method_9_code
def yX0_isBad : MethodName := ⟨RX0, "isBad", "(I)Z"⟩
abbrev cX0_isHeldByAnyone : ByteArray := prog_2_method_10_code
def yX0_isHeldByAnyone : MethodName := ⟨RX0, "isHeldByAnyone", "(I)Z"⟩
abbrev cX0_aliveBits : ByteArray := prog_2_method_11_code
def yX0_aliveBits : MethodName := ⟨RX0, "aliveBits", "()I"⟩
abbrev cX0_aliveCount : ByteArray := prog_2_method_12_code
def yX0_aliveCount : MethodName := ⟨RX0, "aliveCount", "()I"⟩
abbrev cX0_aliveAt : ByteArray := prog_2_method_13_code
def yX0_aliveAt : MethodName := ⟨RX0, "aliveAt", "(I)I"⟩
abbrev cX0_heldBits : ByteArray := prog_2_method_14_code
def yX0_heldBits : MethodName := ⟨RX0, "heldBits", "(I)I"⟩
abbrev cX0_isHeldByOthers : ByteArray := prog_2_method_15_code
def yX0_isHeldByOthers : MethodName := ⟨RX0, "isHeldByOthers", "(II)Z"⟩
abbrev cX0_heldByOthersCount : ByteArray := prog_2_method_16_code
def yX0_heldByOthersCount : MethodName := ⟨RX0, "heldByOthersCount", "(I)I"⟩
abbrev cX0_heldByOthersAt : ByteArray := prog_2_method_17_code
def yX0_heldByOthersAt : MethodName := ⟨RX0, "heldByOthersAt", "(II)I"⟩
abbrev cX0_eatenLoaves : ByteArray := prog_2_method_18_code
def yX0_eatenLoaves : MethodName := ⟨RX0, "eatenLoaves", "()I"⟩
abbrev cX0_badLoaves : ByteArray := prog_2_method_19_code
def yX0_badLoaves : MethodName := ⟨RX0, "badLoaves", "()I"⟩
abbrev cX0_hasNumber : ByteArray := prog_2_method_20_code
def yX0_hasNumber : MethodName := ⟨RX0, "hasNumber", "(I)Z"⟩
abbrev cX0_greatestNumber : ByteArray := prog_2_method_21_code
def yX0_greatestNumber : MethodName := ⟨RX0, "greatestNumber", "()I"⟩
abbrev cX0_missingCount : ByteArray := prog_2_method_22_code
def yX0_missingCount : MethodName := ⟨RX0, "missingCount", "()I"⟩
abbrev cX0_isAllowed : ByteArray := prog_2_method_23_code
def yX0_isAllowed : MethodName := ⟨RX0, "isAllowed", "(II)Z"⟩
abbrev cX0_lawForbids : ByteArray := prog_2_method_24_code
def yX0_lawForbids : MethodName := ⟨RX0, "lawForbids", "(II)Z"⟩
abbrev cX0_feed : ByteArray := prog_2_method_25_code
def yX0_feed : MethodName := ⟨RX0, "feed", "(II)V"⟩
abbrev cX0_passDay : ByteArray := prog_2_method_26_code
def yX0_passDay : MethodName := ⟨RX0, "passDay", "()I"⟩
abbrev cX0_leaveToPriest : ByteArray := prog_2_method_27_code
def yX0_leaveToPriest : MethodName := ⟨RX0, "leaveToPriest", "(I)V"⟩
abbrev cX0_eatAsItIs : ByteArray := prog_2_method_28_code
def yX0_eatAsItIs : MethodName := ⟨RX0, "eatAsItIs", "()V"⟩
abbrev cX0_leastAllowed : ByteArray := prog_2_method_29_code
def yX0_leastAllowed : MethodName := ⟨RX0, "leastAllowed", "(I)I"⟩
abbrev cX0_canAllLive : ByteArray := prog_2_method_30_code
def yX0_canAllLive : MethodName := ⟨RX0, "canAllLive", "(I)Z"⟩
abbrev cX0_mealsDue : ByteArray := prog_2_method_31_code
def yX0_mealsDue : MethodName := ⟨RX0, "mealsDue", "(II)I"⟩
abbrev cX0_loavesGoodOn : ByteArray := prog_2_method_32_code
def yX0_loavesGoodOn : MethodName := ⟨RX0, "loavesGoodOn", "(I)I"⟩
def RX1 : String := "BreadNumbered$Text"
def TX1 : u_T := fun k => match k with
  | 0 => ("BreadNumbered$Text", "bytes", "[I", true)
  | 1 => ("BreadNumbered$Text", "length", "I", false)
  | _ => ("BreadNumbered$Text", "place", "I", false)
def tyX1 : Nat → FieldType := fun k => match k with
  | 0 => .array .int
  | 1 => .int
  | _ => .int
abbrev wsX10 : List Cond := u_ws RX1 TX1 3
theorem nmX1 : ∀ a, a < 3 → ∀ b, b < 3 → a ≠ b → (TX1 a).2.1 ≠ (TX1 b).2.1 := by decide +kernel
theorem tyX1_ok : ∀ k, k < 3 → parseFieldDescriptor (TX1 k).2.2.1 = some (tyX1 k) := by decide +kernel
abbrev cX1_init : ByteArray := prog_3_method_1_code
def yX1_init : MethodName := ⟨RX1, "<init>", "()V"⟩
abbrev cX1_append : ByteArray := prog_3_method_2_code
def yX1_append : MethodName := ⟨RX1, "append", "(I)V"⟩
abbrev cX1_readInto : ByteArray := prog_3_method_3_code
def yX1_readInto : MethodName := ⟨RX1, "readInto", "(LBreadNumbered$Siege;)I"⟩
abbrev cX1_readRules : ByteArray := prog_3_method_4_code
def yX1_readRules : MethodName := ⟨RX1, "readRules", "(LBreadNumbered$Siege;)Z"⟩
abbrev cX1_readPerson : ByteArray := prog_3_method_5_code
def yX1_readPerson : MethodName := ⟨RX1, "readPerson", "(LBreadNumbered$Siege;)Z"⟩
abbrev cX1_readLoaf : ByteArray := prog_3_method_6_code
def yX1_readLoaf : MethodName := ⟨RX1, "readLoaf", "(LBreadNumbered$Siege;)Z"⟩
abbrev cX1_readNumber : ByteArray := prog_3_method_7_code
def yX1_readNumber : MethodName := ⟨RX1, "readNumber", "(LBreadNumbered$Siege;)I"⟩
abbrev cX1_hasFreeNumber : ByteArray := prog_3_method_8_code
def yX1_hasFreeNumber : MethodName := ⟨RX1, "hasFreeNumber", "(LBreadNumbered$Siege;I)Z"⟩
abbrev cX1_isFree : ByteArray := prog_3_method_9_code
def yX1_isFree : MethodName := ⟨RX1, "isFree", "(LBreadNumbered$Siege;I)Z"⟩
abbrev cX1_readSign : ByteArray := prog_3_method_10_code
def yX1_readSign : MethodName := ⟨RX1, "readSign", "(C)Z"⟩
abbrev cX1_isSignHere : ByteArray := prog_3_method_11_code
def yX1_isSignHere : MethodName := ⟨RX1, "isSignHere", "(C)Z"⟩
abbrev cX1_readFigure : ByteArray := prog_3_method_12_code
def yX1_readFigure : MethodName := ⟨RX1, "readFigure", "(II)I"⟩
abbrev cX1_figureHere : ByteArray := prog_3_method_13_code
def yX1_figureHere : MethodName := ⟨RX1, "figureHere", "()I"⟩
def RX2 : String := "BreadNumbered"
def TX2 : u_T := fun k => match k with
  | 0 => ("BreadNumbered", "text", "LBreadNumbered$Text;", true)
  | 1 => ("BreadNumbered", "now", "LBreadNumbered$Siege;", true)
  | 2 => ("BreadNumbered", "spare", "LBreadNumbered$Siege;", true)
  | 3 => ("BreadNumbered", "acts", "[LBreadNumbered$Siege;", true)
  | 4 => ("BreadNumbered", "firstAct", "I", false)
  | 5 => ("BreadNumbered", "actCount", "I", false)
  | 6 => ("BreadNumbered", "slots", "[LBreadNumbered$Siege;", true)
  | _ => ("BreadNumbered", "isKept", "[Z", true)
def tyX2 : Nat → FieldType := fun k => match k with
  | 0 => .object "BreadNumbered$Text"
  | 1 => .object "BreadNumbered$Siege"
  | 2 => .object "BreadNumbered$Siege"
  | 3 => .array (.object "BreadNumbered$Siege")
  | 4 => .int
  | 5 => .int
  | 6 => .array (.object "BreadNumbered$Siege")
  | _ => .array .boolean
abbrev wsX20 : List Cond := u_ws RX2 TX2 8
theorem nmX2 : ∀ a, a < 8 → ∀ b, b < 8 → a ≠ b → (TX2 a).2.1 ≠ (TX2 b).2.1 := by decide +kernel
theorem tyX2_ok : ∀ k, k < 8 → parseFieldDescriptor (TX2 k).2.2.1 = some (tyX2 k) := by decide +kernel
abbrev cX2_init : ByteArray := prog_1_method_1_code
def yX2_init : MethodName := ⟨RX2, "<init>", "()V"⟩
abbrev cX2_write : ByteArray := prog_1_method_2_code
def yX2_write : MethodName := ⟨RX2, "write", "(IJ)I"⟩
abbrev cX2_wipe : ByteArray := prog_1_method_3_code
def yX2_wipe : MethodName := ⟨RX2, "wipe", "()I"⟩
abbrev cX2_fault : ByteArray := prog_1_method_4_code
def yX2_fault : MethodName := ⟨RX2, "fault", "()I"⟩
abbrev cX2_siege : ByteArray := prog_1_method_5_code
def yX2_siege : MethodName := ⟨RX2, "siege", "()I"⟩
abbrev cX2_person : ByteArray := prog_1_method_6_code
def yX2_person : MethodName := ⟨RX2, "person", "(II)I"⟩
abbrev cX2_loaf : ByteArray := prog_1_method_7_code
def yX2_loaf : MethodName := ⟨RX2, "loaf", "(II)I"⟩
abbrev cX2_may : ByteArray := prog_1_method_8_code
def yX2_may : MethodName := ⟨RX2, "may", "(II)I"⟩
abbrev cX2_eat : ByteArray := prog_1_method_9_code
def yX2_eat : MethodName := ⟨RX2, "eat", "(II)I"⟩
abbrev cX2_give : ByteArray := prog_1_method_10_code
def yX2_give : MethodName := ⟨RX2, "give", "(II)I"⟩
abbrev cX2_cut : ByteArray := prog_1_method_11_code
def yX2_cut : MethodName := ⟨RX2, "cut", "(I)I"⟩
abbrev cX2_day : ByteArray := prog_1_method_12_code
def yX2_day : MethodName := ⟨RX2, "day", "()I"⟩
abbrev cX2_night : ByteArray := prog_1_method_13_code
def yX2_night : MethodName := ⟨RX2, "night", "()I"⟩
abbrev cX2_undo : ByteArray := prog_1_method_14_code
def yX2_undo : MethodName := ⟨RX2, "undo", "()I"⟩
abbrev cX2_seed : ByteArray := prog_1_method_15_code
def yX2_seed : MethodName := ⟨RX2, "seed", "(J)J"⟩
abbrev cX2_lasts : ByteArray := prog_1_method_16_code
def yX2_lasts : MethodName := ⟨RX2, "lasts", "()I"⟩
abbrev cX2_first : ByteArray := prog_1_method_17_code
def yX2_first : MethodName := ⟨RX2, "first", "()I"⟩
abbrev cX2_best : ByteArray := prog_1_method_18_code
def yX2_best : MethodName := ⟨RX2, "best", "()I"⟩
abbrev cX2_missing : ByteArray := prog_1_method_19_code
def yX2_missing : MethodName := ⟨RX2, "missing", "(I)I"⟩
abbrev cX2_forged : ByteArray := prog_1_method_20_code
def yX2_forged : MethodName := ⟨RX2, "forged", "(IIIZ)I"⟩
abbrev cX2_help : ByteArray := prog_1_method_21_code
def yX2_help : MethodName := ⟨RX2, "help", "(IZ)J"⟩
abbrev cX2_keep : ByteArray := prog_1_method_22_code
def yX2_keep : MethodName := ⟨RX2, "keep", "(I)I"⟩
abbrev cX2_again : ByteArray := prog_1_method_23_code
def yX2_again : MethodName := ⟨RX2, "again", "(I)I"⟩
abbrev cX2_count : ByteArray := prog_1_method_24_code
def yX2_count : MethodName := ⟨RX2, "count", "(I)I"⟩
abbrev cX2_rememberAct : ByteArray := prog_1_method_25_code
def yX2_rememberAct : MethodName := ⟨RX2, "rememberAct", "()V"⟩
abbrev cX2_forgetActs : ByteArray := prog_1_method_26_code
def yX2_forgetActs : MethodName := ⟨RX2, "forgetActs", "()V"⟩
abbrev cX2_daysUntilDeath : ByteArray := prog_1_method_27_code
def yX2_daysUntilDeath : MethodName := ⟨RX2, "daysUntilDeath", "()I"⟩
abbrev cX2_hasNine : ByteArray := prog_1_method_28_code
def yX2_hasNine : MethodName := ⟨RX2, "hasNine", "(I)Z"⟩
abbrev cX2_whenCut : ByteArray := prog_1_method_29_code
def yX2_whenCut : MethodName := ⟨RX2, "whenCut", "(I)I"⟩
abbrev cX2_partInLeastTerms : ByteArray := prog_1_method_30_code
def yX2_partInLeastTerms : MethodName := ⟨RX2, "partInLeastTerms", "(JJZ)J"⟩
abbrev cX2_greatestDivisor : ByteArray := prog_1_method_31_code
def yX2_greatestDivisor : MethodName := ⟨RX2, "greatestDivisor", "(JJ)J"⟩
def RX3 : String := "BreadNumberedModel"
def TX3 : u_T := fun k => match k with
  | 0 => ("BreadNumberedModel", "read", "[I", true)
  | 1 => ("BreadNumberedModel", "readLaw", "I", false)
  | 2 => ("BreadNumberedModel", "readLives", "I", false)
  | 3 => ("BreadNumberedModel", "readSpoils", "I", false)
  | 4 => ("BreadNumberedModel", "readPeople", "I", false)
  | 5 => ("BreadNumberedModel", "readLoaves", "I", false)
  | 6 => ("BreadNumberedModel", "now", "[I", true)
  | 7 => ("BreadNumberedModel", "rule", "I", false)
  | 8 => ("BreadNumberedModel", "lives", "I", false)
  | 9 => ("BreadNumberedModel", "spoils", "I", false)
  | 10 => ("BreadNumberedModel", "people", "I", false)
  | 11 => ("BreadNumberedModel", "loaves", "I", false)
  | 12 => ("BreadNumberedModel", "seed", "J", false)
  | 13 => ("BreadNumberedModel", "text", "[I", true)
  | 14 => ("BreadNumberedModel", "length", "I", false)
  | 15 => ("BreadNumberedModel", "at", "I", false)
  | 16 => ("BreadNumberedModel", "faultAt", "I", false)
  | 17 => ("BreadNumberedModel", "acts", "I", false)
  | 18 => ("BreadNumberedModel", "next", "I", false)
  | 19 => ("BreadNumberedModel", "row", "[I", true)
  | 20 => ("BreadNumberedModel", "rowSeed", "[J", true)
  | 21 => ("BreadNumberedModel", "spare", "[I", true)
  | 22 => ("BreadNumberedModel", "firstDead", "I", false)
  | 23 => ("BreadNumberedModel", "can", "[Z", true)
  | 24 => ("BreadNumberedModel", "then", "[Z", true)
  | 25 => ("BreadNumberedModel", "good", "[I", true)
  | 26 => ("BreadNumberedModel", "isKept", "[Z", true)
  | 27 => ("BreadNumberedModel", "kept", "[I", true)
  | _ => ("BreadNumberedModel", "keptSeed", "[J", true)
def tyX3 : Nat → FieldType := fun k => match k with
  | 0 => .array .int
  | 1 => .int
  | 2 => .int
  | 3 => .int
  | 4 => .int
  | 5 => .int
  | 6 => .array .int
  | 7 => .int
  | 8 => .int
  | 9 => .int
  | 10 => .int
  | 11 => .int
  | 12 => .long
  | 13 => .array .int
  | 14 => .int
  | 15 => .int
  | 16 => .int
  | 17 => .int
  | 18 => .int
  | 19 => .array .int
  | 20 => .array .long
  | 21 => .array .int
  | 22 => .int
  | 23 => .array .boolean
  | 24 => .array .boolean
  | 25 => .array .int
  | 26 => .array .boolean
  | 27 => .array .int
  | _ => .array .long
abbrev wsX30 : List Cond := u_ws RX3 TX3 29
theorem nmX3 : ∀ a, a < 29 → ∀ b, b < 29 → a ≠ b → (TX3 a).2.1 ≠ (TX3 b).2.1 := by decide +kernel
theorem tyX3_ok : ∀ k, k < 29 → parseFieldDescriptor (TX3 k).2.2.1 = some (tyX3 k) := by decide +kernel
abbrev cX3_init : ByteArray := prog_5_method_1_code
def yX3_init : MethodName := ⟨RX3, "<init>", "()V"⟩
abbrev cX3_in : ByteArray := prog_5_method_3_code
def yX3_in : MethodName := ⟨RX3, "in", "(JJJ)Z"⟩
abbrev cX3_write : ByteArray := prog_5_method_4_code
def yX3_write : MethodName := ⟨RX3, "write", "(IJ)I"⟩
abbrev cX3_wipe : ByteArray := prog_5_method_5_code
def yX3_wipe : MethodName := ⟨RX3, "wipe", "()I"⟩
abbrev cX3_figure : ByteArray := prog_5_method_6_code
def yX3_figure : MethodName := ⟨RX3, "figure", "(I)I"⟩
abbrev cX3_free : ByteArray := prog_5_method_7_code
def yX3_free : MethodName := ⟨RX3, "free", "(I)I"⟩
abbrev cX3_readText : ByteArray := prog_5_method_8_code
def yX3_readText : MethodName := ⟨RX3, "readText", "()I"⟩
abbrev cX3_readLoaf : ByteArray := prog_5_method_9_code
def yX3_readLoaf : MethodName := ⟨RX3, "readLoaf", "()V"⟩
abbrev cX3_fault : ByteArray := prog_5_method_10_code
def yX3_fault : MethodName := ⟨RX3, "fault", "()I"⟩
abbrev cX3_siege : ByteArray := prog_5_method_11_code
def yX3_siege : MethodName := ⟨RX3, "siege", "()I"⟩
abbrev cX3_isPerson : ByteArray := prog_5_method_12_code
def yX3_isPerson : MethodName := ⟨RX3, "isPerson", "(I)Z"⟩
abbrev cX3_isLoaf : ByteArray := prog_5_method_13_code
def yX3_isLoaf : MethodName := ⟨RX3, "isLoaf", "(I)Z"⟩
abbrev cX3_number : ByteArray := prog_5_method_14_code
def yX3_number : MethodName := ⟨RX3, "number", "(I)I"⟩
abbrev cX3_holder : ByteArray := prog_5_method_15_code
def yX3_holder : MethodName := ⟨RX3, "holder", "(I)I"⟩
abbrev cX3_isBad : ByteArray := prog_5_method_16_code
def yX3_isBad : MethodName := ⟨RX3, "isBad", "(I)Z"⟩
abbrev cX3_held : ByteArray := prog_5_method_17_code
def yX3_held : MethodName := ⟨RX3, "held", "(I)I"⟩
abbrev cX3_person : ByteArray := prog_5_method_18_code
def yX3_person : MethodName := ⟨RX3, "person", "(II)I"⟩
abbrev cX3_loaf : ByteArray := prog_5_method_19_code
def yX3_loaf : MethodName := ⟨RX3, "loaf", "(II)I"⟩
abbrev cX3_keepAct : ByteArray := prog_5_method_20_code
def yX3_keepAct : MethodName := ⟨RX3, "keepAct", "()V"⟩
abbrev cX3_mayEat : ByteArray := prog_5_method_21_code
def yX3_mayEat : MethodName := ⟨RX3, "mayEat", "(II)Z"⟩
abbrev cX3_may : ByteArray := prog_5_method_22_code
def yX3_may : MethodName := ⟨RX3, "may", "(II)I"⟩
abbrev cX3_eaten : ByteArray := prog_5_method_23_code
def yX3_eaten : MethodName := ⟨RX3, "eaten", "(II)V"⟩
abbrev cX3_eat : ByteArray := prog_5_method_24_code
def yX3_eat : MethodName := ⟨RX3, "eat", "(II)I"⟩
abbrev cX3_give : ByteArray := prog_5_method_25_code
def yX3_give : MethodName := ⟨RX3, "give", "(II)I"⟩
abbrev cX3_cutOf : ByteArray := prog_5_method_26_code
def yX3_cutOf : MethodName := ⟨RX3, "cutOf", "(I)I"⟩
abbrev cX3_cut : ByteArray := prog_5_method_27_code
def yX3_cut : MethodName := ⟨RX3, "cut", "(I)I"⟩
abbrev cX3_goBy : ByteArray := prog_5_method_28_code
def yX3_goBy : MethodName := ⟨RX3, "goBy", "()I"⟩
abbrev cX3_day : ByteArray := prog_5_method_29_code
def yX3_day : MethodName := ⟨RX3, "day", "()I"⟩
abbrev cX3_alive : ByteArray := prog_5_method_30_code
def yX3_alive : MethodName := ⟨RX3, "alive", "()I"⟩
abbrev cX3_ones : ByteArray := prog_5_method_31_code
def yX3_ones : MethodName := ⟨RX3, "ones", "(I)I"⟩
abbrev cX3_nth : ByteArray := prog_5_method_32_code
def yX3_nth : MethodName := ⟨RX3, "nth", "(II)I"⟩
abbrev cX3_night : ByteArray := prog_5_method_33_code
def yX3_night : MethodName := ⟨RX3, "night", "()I"⟩
abbrev cX3_undo : ByteArray := prog_5_method_34_code
def yX3_undo : MethodName := ⟨RX3, "undo", "()I"⟩
abbrev cX3_seed : ByteArray := prog_5_method_35_code
def yX3_seed : MethodName := ⟨RX3, "seed", "(J)J"⟩
abbrev cX3_leastOf : ByteArray := prog_5_method_36_code
def yX3_leastOf : MethodName := ⟨RX3, "leastOf", "(I)I"⟩
abbrev cX3_layLasts : ByteArray := prog_5_method_37_code
def yX3_layLasts : MethodName := ⟨RX3, "layLasts", "()I"⟩
abbrev cX3_lasts : ByteArray := prog_5_method_38_code
def yX3_lasts : MethodName := ⟨RX3, "lasts", "()I"⟩
abbrev cX3_first : ByteArray := prog_5_method_39_code
def yX3_first : MethodName := ⟨RX3, "first", "()I"⟩
abbrev cX3_layGood : ByteArray := prog_5_method_40_code
def yX3_layGood : MethodName := ⟨RX3, "layGood", "()I"⟩
abbrev cX3_tenTo : ByteArray := prog_5_method_41_code
def yX3_tenTo : MethodName := ⟨RX3, "tenTo", "(I)I"⟩
abbrev cX3_fasted : ByteArray := prog_5_method_42_code
def yX3_fasted : MethodName := ⟨RX3, "fasted", "(IIII)I"⟩
abbrev cX3_best : ByteArray := prog_5_method_43_code
def yX3_best : MethodName := ⟨RX3, "best", "()I"⟩
abbrev cX3_goOn : ByteArray := prog_5_method_44_code
def yX3_goOn : MethodName := ⟨RX3, "goOn", "(IIII)Z"⟩
abbrev cX3_greatest : ByteArray := prog_5_method_45_code
def yX3_greatest : MethodName := ⟨RX3, "greatest", "()I"⟩
abbrev cX3_isTold : ByteArray := prog_5_method_46_code
def yX3_isTold : MethodName := ⟨RX3, "isTold", "(I)Z"⟩
abbrev cX3_missing : ByteArray := prog_5_method_47_code
def yX3_missing : MethodName := ⟨RX3, "missing", "(I)I"⟩
abbrev cX3_common : ByteArray := prog_5_method_48_code
def yX3_common : MethodName := ⟨RX3, "common", "(II)I"⟩
abbrev cX3_forged : ByteArray := prog_5_method_49_code
def yX3_forged : MethodName := ⟨RX3, "forged", "(IIIZ)I"⟩
abbrev cX3_power : ByteArray := prog_5_method_50_code
def yX3_power : MethodName := ⟨RX3, "power", "(II)J"⟩
abbrev cX3_help : ByteArray := prog_5_method_51_code
def yX3_help : MethodName := ⟨RX3, "help", "(IZ)J"⟩
abbrev cX3_keep : ByteArray := prog_5_method_52_code
def yX3_keep : MethodName := ⟨RX3, "keep", "(I)I"⟩
abbrev cX3_again : ByteArray := prog_5_method_53_code
def yX3_again : MethodName := ⟨RX3, "again", "(I)I"⟩
abbrev cX3_count : ByteArray := prog_5_method_54_code
def yX3_count : MethodName := ⟨RX3, "count", "(I)I"⟩
def RJ6 : String := "java/lang/Integer"
def TJ6 : u_T := fun k => match k with
  | _ => ("", "", "", false)
def tyJ6 : Nat → FieldType := fun k => match k with
  | _ => .int
abbrev wsJ60 : List Cond := u_ws RJ6 TJ6 0
theorem nmJ6 : ∀ a, a < 0 → ∀ b, b < 0 → a ≠ b → (TJ6 a).2.1 ≠ (TJ6 b).2.1 := by decide +kernel
theorem tyJ6_ok : ∀ k, k < 0 → parseFieldDescriptor (TJ6 k).2.2.1 = some (tyJ6 k) := by decide +kernel
abbrev cJ6_bitCount_0f7a4 : ByteArray := prog_6_method_49_code
def yJ6_bitCount_0f7a4 : MethodName := ⟨RJ6, "bitCount", "(I)I"⟩
def RJ9 : String := "java/lang/Math"
def TJ9 : u_T := fun k => match k with
  | _ => ("", "", "", false)
def tyJ9 : Nat → FieldType := fun k => match k with
  | _ => .int
abbrev wsJ90 : List Cond := u_ws RJ9 TJ9 0
theorem nmJ9 : ∀ a, a < 0 → ∀ b, b < 0 → a ≠ b → (TJ9 a).2.1 ≠ (TJ9 b).2.1 := by decide +kernel
theorem tyJ9_ok : ∀ k, k < 0 → parseFieldDescriptor (TJ9 k).2.2.1 = some (tyJ9 k) := by decide +kernel
abbrev cJ9_max_7cf53 : ByteArray := prog_7_method_65_code
def yJ9_max_7cf53 : MethodName := ⟨RJ9, "max", "(II)I"⟩
abbrev cJ9_min_7cf53 : ByteArray := prog_7_method_69_code
def yJ9_min_7cf53 : MethodName := ⟨RJ9, "min", "(II)I"⟩
def RJ10 : String := "java/lang/System"
def TJ10 : u_T := fun k => match k with
  | _ => ("", "", "", false)
def tyJ10 : Nat → FieldType := fun k => match k with
  | _ => .int
abbrev wsJ100 : List Cond := u_ws RJ10 TJ10 0
theorem nmJ10 : ∀ a, a < 0 → ∀ b, b < 0 → a ≠ b → (TJ10 a).2.1 ≠ (TJ10 b).2.1 := by decide +kernel
theorem tyJ10_ok : ∀ k, k < 0 → parseFieldDescriptor (TJ10 k).2.2.1 = some (tyJ10 k) := by decide +kernel
def RL : String := "BreadNumberedLaw"
abbrev cL_law : ByteArray := code
def yL_law : MethodName := ⟨RL, "law", "([I)Z"⟩
/-! the own tables of the walk: methods by number, what they link -/
abbrev bn_cl : List vw_C := [(RX0, TX0, 15), (RX1, TX1, 3), (RX2, TX2, 8), (RX3, TX3, 29)]
def bn_cnL : List String := [RX0, RX1, RX2, RX3, RL, RJ6, RJ9]
def bn_cn (c : Nat) : String := bn_cnL.getD c ""
def bn_yL : List MethodName := [yX0_init, yX0_begin, yX0_addPerson, yX0_addLoaf, yX0_becomes, yX0_hasPerson, yX0_hasLoaf, yX0_isAlive, yX0_isBad, yX0_isHeldByAnyone, yX0_aliveBits, yX0_aliveCount, yX0_aliveAt, yX0_heldBits, yX0_isHeldByOthers, yX0_heldByOthersCount, yX0_heldByOthersAt, yX0_eatenLoaves, yX0_badLoaves, yX0_hasNumber, yX0_greatestNumber, yX0_missingCount, yX0_isAllowed, yX0_lawForbids, yX0_feed, yX0_passDay, yX0_leaveToPriest, yX0_eatAsItIs, yX0_leastAllowed, yX0_canAllLive, yX0_mealsDue, yX0_loavesGoodOn, yX1_init, yX1_append, yX1_readInto, yX1_readRules, yX1_readPerson, yX1_readLoaf, yX1_readNumber, yX1_hasFreeNumber, yX1_isFree, yX1_readSign, yX1_isSignHere, yX1_readFigure, yX1_figureHere, yX2_init, yX2_write, yX2_wipe, yX2_fault, yX2_siege, yX2_person, yX2_loaf, yX2_may, yX2_eat, yX2_give, yX2_cut, yX2_day, yX2_night, yX2_undo, yX2_seed, yX2_lasts, yX2_first, yX2_best, yX2_missing, yX2_forged, yX2_help, yX2_keep, yX2_again, yX2_count, yX2_rememberAct, yX2_forgetActs, yX2_daysUntilDeath, yX2_hasNine, yX2_whenCut, yX2_partInLeastTerms, yX2_greatestDivisor, yX3_init, yX3_in, yX3_write, yX3_wipe, yX3_figure, yX3_free, yX3_readText, yX3_readLoaf, yX3_fault, yX3_siege, yX3_isPerson, yX3_isLoaf, yX3_number, yX3_holder, yX3_isBad, yX3_held, yX3_person, yX3_loaf, yX3_keepAct, yX3_mayEat, yX3_may, yX3_eaten, yX3_eat, yX3_give, yX3_cutOf, yX3_cut, yX3_goBy, yX3_day, yX3_alive, yX3_ones, yX3_nth, yX3_night, yX3_undo, yX3_seed, yX3_leastOf, yX3_layLasts, yX3_lasts, yX3_first, yX3_layGood, yX3_tenTo, yX3_fasted, yX3_best, yX3_goOn, yX3_greatest, yX3_isTold, yX3_missing, yX3_common, yX3_forged, yX3_power, yX3_help, yX3_keep, yX3_again, yX3_count, yJ6_bitCount_0f7a4, yJ9_max_7cf53, yJ9_min_7cf53, yL_law]
def bn_bL : List ByteArray := [cX0_init, cX0_begin, cX0_addPerson, cX0_addLoaf, cX0_becomes, cX0_hasPerson, cX0_hasLoaf, cX0_isAlive, cX0_isBad, cX0_isHeldByAnyone, cX0_aliveBits, cX0_aliveCount, cX0_aliveAt, cX0_heldBits, cX0_isHeldByOthers, cX0_heldByOthersCount, cX0_heldByOthersAt, cX0_eatenLoaves, cX0_badLoaves, cX0_hasNumber, cX0_greatestNumber, cX0_missingCount, cX0_isAllowed, cX0_lawForbids, cX0_feed, cX0_passDay, cX0_leaveToPriest, cX0_eatAsItIs, cX0_leastAllowed, cX0_canAllLive, cX0_mealsDue, cX0_loavesGoodOn, cX1_init, cX1_append, cX1_readInto, cX1_readRules, cX1_readPerson, cX1_readLoaf, cX1_readNumber, cX1_hasFreeNumber, cX1_isFree, cX1_readSign, cX1_isSignHere, cX1_readFigure, cX1_figureHere, cX2_init, cX2_write, cX2_wipe, cX2_fault, cX2_siege, cX2_person, cX2_loaf, cX2_may, cX2_eat, cX2_give, cX2_cut, cX2_day, cX2_night, cX2_undo, cX2_seed, cX2_lasts, cX2_first, cX2_best, cX2_missing, cX2_forged, cX2_help, cX2_keep, cX2_again, cX2_count, cX2_rememberAct, cX2_forgetActs, cX2_daysUntilDeath, cX2_hasNine, cX2_whenCut, cX2_partInLeastTerms, cX2_greatestDivisor, cX3_init, cX3_in, cX3_write, cX3_wipe, cX3_figure, cX3_free, cX3_readText, cX3_readLoaf, cX3_fault, cX3_siege, cX3_isPerson, cX3_isLoaf, cX3_number, cX3_holder, cX3_isBad, cX3_held, cX3_person, cX3_loaf, cX3_keepAct, cX3_mayEat, cX3_may, cX3_eaten, cX3_eat, cX3_give, cX3_cutOf, cX3_cut, cX3_goBy, cX3_day, cX3_alive, cX3_ones, cX3_nth, cX3_night, cX3_undo, cX3_seed, cX3_leastOf, cX3_layLasts, cX3_lasts, cX3_first, cX3_layGood, cX3_tenTo, cX3_fasted, cX3_best, cX3_goOn, cX3_greatest, cX3_isTold, cX3_missing, cX3_common, cX3_forged, cX3_power, cX3_help, cX3_keep, cX3_again, cX3_count, cJ6_bitCount_0f7a4, cJ9_max_7cf53, cJ9_min_7cf53, code]
def bn_mL : List Nat := [1, 4, 2, 4, 3, 2, 2, 2, 2, 2, 3, 1, 4, 4, 3, 4, 5, 3, 3, 3, 3, 4, 3, 5, 3, 3, 3, 3, 4, 4, 8, 4, 1, 2, 4, 5, 3, 5, 4, 3, 2, 2, 2, 4, 1, 2, 5, 2, 1, 2, 3, 3, 3, 3, 4, 2, 1, 6, 1, 5, 1, 2, 3, 5, 7, 10, 2, 2, 2, 1, 1, 2, 1, 1, 7, 7, 1, 6, 5, 2, 3, 5, 2, 6, 1, 2, 2, 2, 2, 2, 2, 4, 3, 3, 2, 6, 3, 4, 3, 4, 1, 2, 4, 1, 3, 3, 4, 6, 2, 5, 4, 5, 1, 1, 4, 1, 8, 8, 10, 3, 4, 4, 5, 7, 5, 15, 3, 3, 6, 1, 2, 2, 4]
def bn_rL : List (Option FieldType) := [none, none, none, none, none, (some .boolean), (some .boolean), (some .boolean), (some .boolean), (some .boolean), (some .int), (some .int), (some .int), (some .int), (some .boolean), (some .int), (some .int), (some .int), (some .int), (some .boolean), (some .int), (some .int), (some .boolean), (some .boolean), none, (some .int), none, none, (some .int), (some .boolean), (some .int), (some .int), none, none, (some .int), (some .boolean), (some .boolean), (some .boolean), (some .int), (some .boolean), (some .boolean), (some .boolean), (some .boolean), (some .int), (some .int), none, (some .int), (some .int), (some .int), (some .int), (some .int), (some .int), (some .int), (some .int), (some .int), (some .int), (some .int), (some .int), (some .int), (some .long), (some .int), (some .int), (some .int), (some .int), (some .int), (some .long), (some .int), (some .int), (some .int), none, none, (some .int), (some .boolean), (some .int), (some .long), (some .long), none, (some .boolean), (some .int), (some .int), (some .int), (some .int), (some .int), none, (some .int), (some .int), (some .boolean), (some .boolean), (some .int), (some .int), (some .boolean), (some .int), (some .int), (some .int), none, (some .boolean), (some .int), none, (some .int), (some .int), (some .int), (some .int), (some .int), (some .int), (some .int), (some .int), (some .int), (some .int), (some .int), (some .long), (some .int), (some .int), (some .int), (some .int), (some .int), (some .int), (some .int), (some .int), (some .boolean), (some .int), (some .boolean), (some .int), (some .int), (some .int), (some .long), (some .long), (some .int), (some .int), (some .int), (some .int), (some .int), (some .int), (some .boolean)]
def bn_cL : List Nat := [0, 0, 0, 0, 0, 0, 0, 0, 0, 0, 0, 0, 0, 0, 0, 0, 0, 0, 0, 0, 0, 0, 0, 0, 0, 0, 0, 0, 0, 0, 0, 0, 1, 1, 1, 1, 1, 1, 1, 1, 1, 1, 1, 1, 1, 2, 2, 2, 2, 2, 2, 2, 2, 2, 2, 2, 2, 2, 2, 2, 2, 2, 2, 2, 2, 2, 2, 2, 2, 2, 2, 2, 2, 2, 2, 2, 3, 3, 3, 3, 3, 3, 3, 3, 3, 3, 3, 3, 3, 3, 3, 3, 3, 3, 3, 3, 3, 3, 3, 3, 3, 3, 3, 3, 3, 3, 3, 3, 3, 3, 3, 3, 3, 3, 3, 3, 3, 3, 3, 3, 3, 3, 3, 3, 3, 3, 3, 3, 3, 5, 6, 6, 4]
def bn_fL : List Nat := [1, 0, 0, 0, 1, 0, 0, 0, 0, 0, 1, 2, 1, 0, 1, 2, 2, 0, 1, 0, 1, 2, 2, 1, 0, 1, 0, 4, 3, 2, 1, 1, 1, 0, 5, 2, 2, 4, 3, 2, 1, 1, 0, 1, 0, 2, 1, 0, 6, 6, 1, 1, 3, 3, 3, 3, 3, 3, 2, 0, 6, 6, 3, 2, 2, 6, 2, 2, 3, 2, 0, 5, 0, 0, 1, 0, 1, 0, 1, 0, 1, 0, 3, 2, 4, 4, 1, 1, 0, 0, 0, 1, 2, 2, 0, 1, 2, 0, 2, 2, 0, 2, 0, 1, 0, 0, 0, 1, 0, 0, 2, 3, 4, 4, 1, 0, 1, 3, 2, 1, 1, 2, 0, 1, 0, 4, 1, 1, 2, 0, 0, 0, 7]
def bn_lL : List Nat := [26, 0, 0, 0, 26, 0, 0, 0, 0, 0, 21, 43, 21, 0, 21, 43, 43, 0, 21, 0, 26, 48, 45, 21, 0, 26, 0, 90, 67, 53, 26, 21, 26, 0, 112, 43, 43, 88, 65, 43, 22, 21, 0, 20, 0, 46, 21, 0, 135, 135, 23, 21, 67, 68, 68, 68, 68, 68, 48, 0, 133, 133, 76, 48, 52, 133, 48, 48, 71, 48, 0, 112, 0, 0, 26, 0, 26, 0, 25, 0, 25, 0, 72, 47, 93, 93, 25, 25, 0, 0, 0, 21, 46, 46, 0, 21, 46, 0, 46, 46, 0, 46, 0, 23, 0, 0, 0, 23, 0, 0, 46, 69, 93, 93, 21, 0, 20, 76, 47, 21, 21, 44, 0, 25, 0, 93, 25, 25, 44, 0, 0, 0, 162]
def bn_pL : List Nat := [0, 3, 1, 3, 1, 1, 1, 1, 1, 1, 0, 0, 1, 1, 2, 1, 2, 0, 0, 1, 0, 0, 2, 2, 2, 0, 1, 0, 1, 1, 2, 1, 0, 1, 1, 1, 1, 1, 1, 2, 2, 1, 1, 2, 0, 0, 2, 0, 0, 0, 2, 2, 2, 2, 2, 1, 0, 0, 0, 1, 0, 0, 0, 1, 4, 2, 1, 1, 1, 0, 0, 0, 1, 1, 3, 2, 0, 3, 2, 0, 1, 1, 0, 0, 0, 0, 1, 1, 1, 1, 1, 1, 2, 2, 0, 2, 2, 2, 2, 2, 1, 1, 0, 0, 0, 1, 2, 0, 0, 1, 1, 0, 0, 0, 0, 1, 4, 0, 4, 0, 1, 1, 2, 4, 2, 2, 1, 1, 1, 1, 2, 2, 1]
def bn_y (i : Nat) : MethodName := bn_yL.getD i yX0_init
def bn_b (i : Nat) : ByteArray := bn_bL.getD i ⟨#[]⟩
def bn_m (i : Nat) : Nat := bn_mL.getD i 0
def bn_r (i : Nat) : Option FieldType := bn_rL.getD i none
def bn_c (i : Nat) : Nat := bn_cL.getD i 0
def bn_f (i : Nat) : Nat := bn_fL.getD i 0
def bn_l (i : Nat) : Nat := bn_lL.getD i 0
def bn_p (i : Nat) : Nat := bn_pL.getD i 0
/-- a constructor -/
def bn_i (i : Nat) : Bool := i == 0 || i == 32 || i == 45 || i == 76
/-- field links: class, index, class of the object, place, its row -/
def bn_FL : List (Nat × Nat × Nat × Nat × Nat) := [(1, 9, 1, 0, 60), (1, 15, 1, 1, 61), (2, 44, 1, 1, 62), (1, 19, 1, 2, 63), (0, 9, 0, 0, 78), (2, 189, 0, 0, 79), (0, 15, 0, 1, 80), (1, 52, 0, 1, 81), (0, 18, 0, 2, 82), (0, 21, 0, 3, 83), (2, 174, 0, 3, 84), (0, 24, 0, 4, 85), (2, 55, 0, 4, 86), (0, 28, 0, 5, 87), (1, 49, 0, 5, 88), (2, 66, 0, 5, 89), (0, 31, 0, 6, 90), (2, 76, 0, 6, 91), (0, 35, 0, 7, 92), (2, 83, 0, 7, 93), (0, 39, 0, 8, 94), (2, 90, 0, 8, 95), (0, 42, 0, 9, 96), (2, 69, 0, 9, 97), (1, 59, 0, 9, 98), (0, 45, 0, 10, 99), (2, 96, 0, 10, 100), (0, 48, 0, 11, 101), (2, 99, 0, 11, 102), (0, 51, 0, 12, 103), (2, 102, 0, 12, 104), (0, 54, 0, 13, 105), (2, 108, 0, 13, 106), (0, 57, 0, 14, 107), (2, 111, 0, 14, 108), (2, 12, 2, 0, 142), (2, 19, 2, 1, 143), (2, 23, 2, 2, 144), (2, 26, 2, 3, 145), (2, 30, 2, 4, 146), (2, 34, 2, 5, 147), (2, 37, 2, 6, 148), (2, 40, 2, 7, 149), (3, 7, 3, 0, 488), (3, 84, 3, 1, 489), (3, 87, 3, 2, 490), (3, 90, 3, 3, 491), (3, 77, 3, 4, 492), (3, 74, 3, 5, 493), (3, 13, 3, 6, 494), (3, 103, 3, 7, 495), (3, 48, 3, 8, 496), (3, 52, 3, 9, 497), (3, 106, 3, 10, 498), (3, 109, 3, 11, 499), (3, 134, 3, 12, 500), (3, 16, 3, 13, 501), (3, 61, 3, 14, 502), (3, 69, 3, 15, 503), (3, 66, 3, 16, 504), (3, 112, 3, 17, 505), (3, 131, 3, 18, 506), (3, 19, 3, 19, 507), (3, 22, 3, 20, 508), (3, 26, 3, 21, 509), (3, 172, 3, 22, 510), (3, 29, 3, 23, 511), (3, 33, 3, 24, 512), (3, 36, 3, 25, 513), (3, 39, 3, 26, 514), (3, 42, 3, 27, 515), (3, 45, 3, 28, 516)]
/-- method links: class, index, kind (0 virtual, 1 static, 2 constructor, 3 a nest mate's, 4 of Object, 5 arraycopy, 6 Math.max, 7 Math.min), the method, its row -/
def bn_ML : List (Nat × Nat × Nat × Nat × Nat) := [(4, 9, 2, 45, 48), (2, 3, 4, 0, 51), (2, 11, 3, 32, 56), (1, 3, 4, 0, 59), (2, 18, 3, 0, 74), (0, 3, 4, 0, 77), (4, 15, 0, 46, 167), (2, 47, 0, 33, 171), (4, 20, 0, 47, 175), (4, 25, 0, 48, 179), (2, 51, 0, 34, 183), (1, 22, 0, 35, 187), (1, 36, 0, 41, 191), (1, 26, 0, 42, 195), (1, 39, 0, 43, 199), (1, 69, 0, 44, 203), (1, 43, 0, 1, 207), (1, 30, 0, 36, 211), (1, 55, 0, 2, 215), (1, 33, 0, 37, 219), (1, 62, 0, 38, 223), (1, 73, 1, 39, 227), (1, 77, 1, 40, 230), (1, 80, 0, 19, 233), (1, 66, 0, 3, 237), (4, 29, 0, 49, 241), (2, 59, 0, 4, 245), (0, 60, 5, 0, 249), (2, 63, 0, 70, 252), (4, 33, 0, 50, 256), (2, 72, 0, 5, 260), (2, 80, 0, 7, 264), (2, 86, 0, 13, 268), (4, 38, 0, 51, 272), (2, 93, 0, 6, 276), (2, 105, 0, 8, 280), (4, 42, 0, 52, 284), (2, 114, 0, 22, 288), (0, 66, 0, 7, 292), (0, 87, 0, 8, 293), (0, 102, 0, 23, 294), (0, 80, 0, 9, 298), (4, 46, 0, 53, 302), (2, 118, 0, 69, 306), (2, 121, 0, 24, 310), (4, 50, 0, 54, 314), (4, 54, 0, 55, 318), (2, 125, 1, 72, 322), (2, 128, 1, 73, 325), (4, 59, 0, 56, 328), (2, 131, 0, 25, 332), (0, 105, 0, 26, 336), (0, 109, 7, 0, 340), (4, 63, 0, 57, 343), (2, 135, 0, 11, 347), (0, 70, 0, 10, 351), (0, 74, 1, 129, 355), (2, 142, 0, 12, 363), (2, 145, 0, 15, 367), (0, 83, 0, 14, 371), (2, 148, 0, 16, 375), (4, 67, 0, 58, 379), (4, 71, 0, 59, 383), (4, 76, 0, 60, 387), (2, 152, 0, 71, 391), (2, 192, 0, 27, 395), (0, 112, 0, 28, 399), (0, 119, 0, 22, 403), (0, 115, 0, 24, 404), (4, 80, 0, 61, 405), (4, 84, 0, 62, 409), (2, 155, 0, 29, 413), (0, 90, 6, 0, 417), (0, 122, 0, 30, 420), (0, 125, 0, 31, 424), (4, 88, 0, 63, 428), (2, 158, 0, 20, 432), (2, 161, 0, 19, 436), (4, 92, 0, 64, 437), (2, 164, 1, 74, 441), (2, 195, 1, 75, 444), (4, 97, 0, 65, 448), (4, 102, 0, 66, 455), (4, 106, 0, 67, 459), (4, 110, 0, 68, 463), (2, 177, 0, 10, 467), (2, 180, 0, 17, 468), (2, 183, 0, 18, 472), (2, 186, 0, 21, 476), (0, 96, 0, 20, 480), (0, 99, 0, 19, 481), (4, 12, 2, 76, 484), (3, 1, 4, 0, 487), (4, 19, 0, 78, 577), (3, 57, 1, 77, 582), (4, 24, 0, 79, 586), (4, 28, 0, 84, 590), (3, 99, 0, 82, 594), (3, 80, 0, 80, 598), (3, 93, 0, 83, 603), (3, 96, 0, 81, 607), (4, 32, 0, 85, 611), (4, 37, 0, 92, 615), (3, 118, 0, 86, 619), (3, 122, 0, 91, 623), (3, 115, 0, 89, 627), (4, 41, 0, 93, 631), (3, 125, 0, 87, 635), (3, 128, 0, 90, 639), (4, 45, 0, 96, 643), (3, 141, 0, 95, 647), (3, 138, 0, 88, 651), (4, 49, 0, 98, 655), (3, 145, 0, 94, 659), (3, 148, 0, 97, 663), (4, 53, 0, 99, 667), (4, 58, 0, 101, 671), (3, 152, 1, 100, 675), (4, 62, 0, 103, 678), (3, 155, 0, 102, 682), (4, 66, 0, 107, 686), (3, 158, 0, 104, 690), (3, 165, 1, 105, 696), (3, 168, 1, 106, 699), (4, 70, 0, 108, 702), (4, 75, 0, 109, 706), (4, 79, 0, 112, 710), (3, 178, 0, 111, 714), (3, 175, 0, 110, 718), (4, 83, 0, 113, 722), (4, 87, 0, 117, 726), (3, 184, 0, 114, 730), (3, 181, 1, 115, 734), (3, 187, 0, 118, 737), (3, 191, 0, 116, 741), (4, 91, 0, 121, 745), (3, 195, 0, 119, 749), (3, 198, 0, 120, 753), (4, 96, 0, 123, 757), (3, 205, 1, 122, 763), (4, 101, 0, 125, 766), (3, 212, 1, 124, 772), (4, 105, 0, 126, 775), (4, 109, 0, 127, 779), (4, 113, 0, 128, 783)]
/-- of a method the rows of its code, of instance or static, of selects, of its class -/
def bn_MR : List (Nat × Nat × Nat × Nat) := [(76, 75, 0, 41), (210, 208, 209, 41), (218, 216, 217, 41), (240, 238, 239, 41), (248, 246, 247, 41), (263, 261, 262, 41), (279, 277, 278, 41), (267, 265, 266, 41), (283, 281, 282, 41), (301, 299, 300, 41), (354, 352, 353, 41), (350, 348, 349, 41), (366, 364, 365, 41), (271, 269, 270, 41), (374, 372, 373, 41), (370, 368, 369, 41), (378, 376, 377, 41), (471, 469, 470, 41), (475, 473, 474, 41), (236, 234, 235, 41), (435, 433, 434, 41), (479, 477, 478, 41), (291, 289, 290, 41), (297, 296, 9, 41), (313, 311, 312, 41), (335, 333, 334, 41), (339, 338, 11, 41), (398, 396, 397, 41), (402, 401, 13, 41), (416, 414, 415, 41), (423, 422, 14, 41), (427, 426, 15, 41), (58, 57, 0, 40), (174, 172, 173, 40), (186, 184, 185, 40), (190, 189, 0, 40), (214, 213, 5, 40), (222, 221, 6, 40), (226, 225, 7, 40), (229, 228, 0, 40), (232, 231, 0, 40), (194, 193, 1, 40), (198, 197, 2, 40), (202, 201, 3, 40), (206, 205, 4, 40), (50, 49, 0, 39), (170, 168, 169, 39), (178, 176, 177, 39), (182, 180, 181, 39), (244, 242, 243, 39), (259, 257, 258, 39), (275, 273, 274, 39), (287, 285, 286, 39), (305, 303, 304, 39), (317, 315, 316, 39), (321, 319, 320, 39), (331, 329, 330, 39), (346, 344, 345, 39), (382, 380, 381, 39), (386, 384, 385, 39), (390, 388, 389, 39), (408, 406, 407, 39), (412, 410, 411, 39), (431, 429, 430, 39), (440, 438, 439, 39), (451, 449, 450, 39), (458, 456, 457, 39), (462, 460, 461, 39), (466, 464, 465, 39), (309, 308, 10, 39), (255, 254, 8, 39), (394, 393, 12, 39), (324, 323, 0, 39), (327, 326, 0, 39), (443, 442, 0, 39), (446, 445, 0, 39), (486, 485, 0, 42), (584, 583, 0, 42), (580, 578, 579, 42), (589, 587, 588, 42), (601, 600, 17, 42), (610, 609, 19, 42), (597, 596, 16, 42), (606, 605, 18, 42), (593, 591, 592, 42), (614, 612, 613, 42), (622, 621, 20, 42), (638, 637, 23, 42), (654, 653, 26, 42), (630, 629, 22, 42), (642, 641, 24, 42), (626, 625, 21, 42), (618, 616, 617, 42), (634, 632, 633, 42), (662, 661, 27, 42), (650, 649, 25, 42), (646, 644, 645, 42), (666, 665, 28, 42), (658, 656, 657, 42), (670, 668, 669, 42), (677, 676, 0, 42), (674, 672, 673, 42), (685, 684, 29, 42), (681, 679, 680, 42), (693, 692, 30, 42), (698, 697, 0, 42), (701, 700, 0, 42), (689, 687, 688, 42), (705, 703, 704, 42), (709, 707, 708, 42), (721, 720, 32, 42), (717, 716, 31, 42), (713, 711, 712, 42), (725, 723, 724, 42), (733, 732, 33, 42), (736, 735, 0, 42), (744, 743, 35, 42), (729, 727, 728, 42), (740, 739, 34, 42), (752, 751, 36, 42), (756, 755, 37, 42), (748, 746, 747, 42), (765, 764, 0, 42), (760, 758, 759, 42), (774, 773, 0, 42), (769, 767, 768, 42), (778, 776, 777, 42), (782, 780, 781, 42), (786, 784, 785, 42), (357, 356, 0, 45), (419, 418, 0, 44), (342, 341, 0, 44), (0, 0, 0, 0)]
def bn_KI : List (Nat × Nat × Int32 × Nat) := [(5, 265, (1431655765), 358), (5, 266, (858993459), 359), (5, 267, (252645135), 360)]
def bn_KL : List (Nat × Nat × Int64 × Nat) := [(2, 138, (6364136223846793005), 361), (2, 140, (1442695040888963407), 362), (2, 199, (-9), 447), (2, 168, (-2), 452), (2, 170, (-3), 453), (2, 172, (10), 454), (3, 55, (8), 581), (3, 64, (255), 585), (3, 72, (9), 602), (3, 161, (6364136223846793005), 694), (3, 163, (1442695040888963407), 695), (3, 201, (99), 761), (3, 203, (10), 762), (3, 208, (-2), 770), (3, 210, (-3), 771), (4, 13, (4294967295), 787)]
/-- class links: class, index, the class, its row -/
def bn_CK : List (Nat × Nat × Nat × Nat) := [(4, 7, 2, 46), (2, 9, 1, 54), (2, 16, 0, 72), (4, 10, 3, 482)]
