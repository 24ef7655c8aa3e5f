section
/-- a private method of a class that the tables say can be made, by its rows of tables_1 -/
def lw_okq (q : MethodName × Nat) : Prop := (q.1.cls ≠ "java/lang/invoke/MethodHandle" ∧ q.1.cls ≠ "java/lang/invoke/VarHandle") ∧ Cond.instantiable q.1.cls q.2 ∈ tables_1 ∧ Cond.privateMethod q.1 ∈ tables_1 ∧ Cond.instanceMethod q.1 ∈ tables_1
theorem lw_p0 : lw_okq (⟨"BreadNumbered$Text", "readRules", "(LBreadNumbered$Siege;)Z"⟩, 3) := ⟨⟨by decide +kernel, by decide +kernel⟩, List.mem_of_getElem? (i := 17) (by decide +kernel), List.mem_of_getElem? (i := 150) (by decide +kernel), List.mem_of_getElem? (i := 151) (by decide +kernel)⟩
theorem lw_p1 : lw_okq (⟨"BreadNumbered$Text", "readSign", "(C)Z"⟩, 3) := ⟨⟨by decide +kernel, by decide +kernel⟩, List.mem_of_getElem? (i := 17) (by decide +kernel), List.mem_of_getElem? (i := 154) (by decide +kernel), List.mem_of_getElem? (i := 155) (by decide +kernel)⟩
theorem lw_p2 : lw_okq (⟨"BreadNumbered$Text", "isSignHere", "(C)Z"⟩, 3) := ⟨⟨by decide +kernel, by decide +kernel⟩, List.mem_of_getElem? (i := 17) (by decide +kernel), List.mem_of_getElem? (i := 158) (by decide +kernel), List.mem_of_getElem? (i := 159) (by decide +kernel)⟩
theorem lw_p3 : lw_okq (⟨"BreadNumbered$Text", "readFigure", "(II)I"⟩, 3) := ⟨⟨by decide +kernel, by decide +kernel⟩, List.mem_of_getElem? (i := 17) (by decide +kernel), List.mem_of_getElem? (i := 162) (by decide +kernel), List.mem_of_getElem? (i := 163) (by decide +kernel)⟩
theorem lw_p4 : lw_okq (⟨"BreadNumbered$Text", "figureHere", "()I"⟩, 3) := ⟨⟨by decide +kernel, by decide +kernel⟩, List.mem_of_getElem? (i := 17) (by decide +kernel), List.mem_of_getElem? (i := 166) (by decide +kernel), List.mem_of_getElem? (i := 167) (by decide +kernel)⟩
theorem lw_p5 : lw_okq (⟨"BreadNumbered$Text", "readPerson", "(LBreadNumbered$Siege;)Z"⟩, 3) := ⟨⟨by decide +kernel, by decide +kernel⟩, List.mem_of_getElem? (i := 17) (by decide +kernel), List.mem_of_getElem? (i := 174) (by decide +kernel), List.mem_of_getElem? (i := 175) (by decide +kernel)⟩
theorem lw_p6 : lw_okq (⟨"BreadNumbered$Text", "readLoaf", "(LBreadNumbered$Siege;)Z"⟩, 3) := ⟨⟨by decide +kernel, by decide +kernel⟩, List.mem_of_getElem? (i := 17) (by decide +kernel), List.mem_of_getElem? (i := 182) (by decide +kernel), List.mem_of_getElem? (i := 183) (by decide +kernel)⟩
theorem lw_p7 : lw_okq (⟨"BreadNumbered$Text", "readNumber", "(LBreadNumbered$Siege;)I"⟩, 3) := ⟨⟨by decide +kernel, by decide +kernel⟩, List.mem_of_getElem? (i := 17) (by decide +kernel), List.mem_of_getElem? (i := 186) (by decide +kernel), List.mem_of_getElem? (i := 187) (by decide +kernel)⟩
theorem lw_p8 : lw_okq (⟨"BreadNumbered", "forgetActs", "()V"⟩, 8) := ⟨⟨by decide +kernel, by decide +kernel⟩, List.mem_of_getElem? (i := 9) (by decide +kernel), List.mem_of_getElem? (i := 215) (by decide +kernel), List.mem_of_getElem? (i := 216) (by decide +kernel)⟩
theorem lw_p9 : lw_okq (⟨"BreadNumbered$Siege", "lawForbids", "(II)Z"⟩, 15) := ⟨⟨by decide +kernel, by decide +kernel⟩, List.mem_of_getElem? (i := 35) (by decide +kernel), List.mem_of_getElem? (i := 257) (by decide +kernel), List.mem_of_getElem? (i := 258) (by decide +kernel)⟩
theorem lw_p10 : lw_okq (⟨"BreadNumbered", "rememberAct", "()V"⟩, 8) := ⟨⟨by decide +kernel, by decide +kernel⟩, List.mem_of_getElem? (i := 9) (by decide +kernel), List.mem_of_getElem? (i := 269) (by decide +kernel), List.mem_of_getElem? (i := 270) (by decide +kernel)⟩
theorem lw_p11 : lw_okq (⟨"BreadNumbered$Siege", "leaveToPriest", "(I)V"⟩, 15) := ⟨⟨by decide +kernel, by decide +kernel⟩, List.mem_of_getElem? (i := 35) (by decide +kernel), List.mem_of_getElem? (i := 299) (by decide +kernel), List.mem_of_getElem? (i := 300) (by decide +kernel)⟩
theorem lw_p12 : lw_okq (⟨"BreadNumbered", "daysUntilDeath", "()I"⟩, 8) := ⟨⟨by decide +kernel, by decide +kernel⟩, List.mem_of_getElem? (i := 9) (by decide +kernel), List.mem_of_getElem? (i := 354) (by decide +kernel), List.mem_of_getElem? (i := 355) (by decide +kernel)⟩
theorem lw_p13 : lw_okq (⟨"BreadNumbered$Siege", "leastAllowed", "(I)I"⟩, 15) := ⟨⟨by decide +kernel, by decide +kernel⟩, List.mem_of_getElem? (i := 35) (by decide +kernel), List.mem_of_getElem? (i := 362) (by decide +kernel), List.mem_of_getElem? (i := 363) (by decide +kernel)⟩
theorem lw_p14 : lw_okq (⟨"BreadNumbered$Siege", "mealsDue", "(II)I"⟩, 15) := ⟨⟨by decide +kernel, by decide +kernel⟩, List.mem_of_getElem? (i := 35) (by decide +kernel), List.mem_of_getElem? (i := 383) (by decide +kernel), List.mem_of_getElem? (i := 384) (by decide +kernel)⟩
theorem lw_p15 : lw_okq (⟨"BreadNumbered$Siege", "loavesGoodOn", "(I)I"⟩, 15) := ⟨⟨by decide +kernel, by decide +kernel⟩, List.mem_of_getElem? (i := 35) (by decide +kernel), List.mem_of_getElem? (i := 387) (by decide +kernel), List.mem_of_getElem? (i := 388) (by decide +kernel)⟩
def lw_privs_1 : List (MethodName × Nat) := [(⟨"BreadNumbered$Text", "readRules", "(LBreadNumbered$Siege;)Z"⟩, 3), (⟨"BreadNumbered$Text", "readSign", "(C)Z"⟩, 3), (⟨"BreadNumbered$Text", "isSignHere", "(C)Z"⟩, 3), (⟨"BreadNumbered$Text", "readFigure", "(II)I"⟩, 3), (⟨"BreadNumbered$Text", "figureHere", "()I"⟩, 3), (⟨"BreadNumbered$Text", "readPerson", "(LBreadNumbered$Siege;)Z"⟩, 3), (⟨"BreadNumbered$Text", "readLoaf", "(LBreadNumbered$Siege;)Z"⟩, 3), (⟨"BreadNumbered$Text", "readNumber", "(LBreadNumbered$Siege;)I"⟩, 3), (⟨"BreadNumbered", "forgetActs", "()V"⟩, 8), (⟨"BreadNumbered$Siege", "lawForbids", "(II)Z"⟩, 15), (⟨"BreadNumbered", "rememberAct", "()V"⟩, 8), (⟨"BreadNumbered$Siege", "leaveToPriest", "(I)V"⟩, 15), (⟨"BreadNumbered", "daysUntilDeath", "()I"⟩, 8), (⟨"BreadNumbered$Siege", "leastAllowed", "(I)I"⟩, 15), (⟨"BreadNumbered$Siege", "mealsDue", "(II)I"⟩, 15), (⟨"BreadNumbered$Siege", "loavesGoodOn", "(I)I"⟩, 15)]
theorem lw_r1 : ∀ q ∈ lw_privs_1, lw_okq q := List.forall_mem_cons.mpr ⟨lw_p0, List.forall_mem_cons.mpr ⟨lw_p1, List.forall_mem_cons.mpr ⟨lw_p2, List.forall_mem_cons.mpr ⟨lw_p3, List.forall_mem_cons.mpr ⟨lw_p4, List.forall_mem_cons.mpr ⟨lw_p5, List.forall_mem_cons.mpr ⟨lw_p6, List.forall_mem_cons.mpr ⟨lw_p7, List.forall_mem_cons.mpr ⟨lw_p8, List.forall_mem_cons.mpr ⟨lw_p9, List.forall_mem_cons.mpr ⟨lw_p10, List.forall_mem_cons.mpr ⟨lw_p11, List.forall_mem_cons.mpr ⟨lw_p12, List.forall_mem_cons.mpr ⟨lw_p13, List.forall_mem_cons.mpr ⟨lw_p14, List.forall_mem_cons.mpr ⟨lw_p15, fun _ h => absurd h List.not_mem_nil⟩⟩⟩⟩⟩⟩⟩⟩⟩⟩⟩⟩⟩⟩⟩⟩
theorem lw_p16 : lw_okq (⟨"BreadNumberedModel", "readText", "()I"⟩, 29) := ⟨⟨by decide +kernel, by decide +kernel⟩, List.mem_of_getElem? (i := 445) (by decide +kernel), List.mem_of_getElem? (i := 557) (by decide +kernel), List.mem_of_getElem? (i := 558) (by decide +kernel)⟩
theorem lw_p17 : lw_okq (⟨"BreadNumberedModel", "figure", "(I)I"⟩, 29) := ⟨⟨by decide +kernel, by decide +kernel⟩, List.mem_of_getElem? (i := 445) (by decide +kernel), List.mem_of_getElem? (i := 561) (by decide +kernel), List.mem_of_getElem? (i := 562) (by decide +kernel)⟩
theorem lw_p18 : lw_okq (⟨"BreadNumberedModel", "readLoaf", "()V"⟩, 29) := ⟨⟨by decide +kernel, by decide +kernel⟩, List.mem_of_getElem? (i := 445) (by decide +kernel), List.mem_of_getElem? (i := 566) (by decide +kernel), List.mem_of_getElem? (i := 567) (by decide +kernel)⟩
theorem lw_p19 : lw_okq (⟨"BreadNumberedModel", "free", "(I)I"⟩, 29) := ⟨⟨by decide +kernel, by decide +kernel⟩, List.mem_of_getElem? (i := 445) (by decide +kernel), List.mem_of_getElem? (i := 570) (by decide +kernel), List.mem_of_getElem? (i := 571) (by decide +kernel)⟩
theorem lw_p20 : lw_okq (⟨"BreadNumberedModel", "isPerson", "(I)Z"⟩, 29) := ⟨⟨by decide +kernel, by decide +kernel⟩, List.mem_of_getElem? (i := 445) (by decide +kernel), List.mem_of_getElem? (i := 582) (by decide +kernel), List.mem_of_getElem? (i := 583) (by decide +kernel)⟩
theorem lw_p21 : lw_okq (⟨"BreadNumberedModel", "held", "(I)I"⟩, 29) := ⟨⟨by decide +kernel, by decide +kernel⟩, List.mem_of_getElem? (i := 445) (by decide +kernel), List.mem_of_getElem? (i := 586) (by decide +kernel), List.mem_of_getElem? (i := 587) (by decide +kernel)⟩
theorem lw_p22 : lw_okq (⟨"BreadNumberedModel", "holder", "(I)I"⟩, 29) := ⟨⟨by decide +kernel, by decide +kernel⟩, List.mem_of_getElem? (i := 445) (by decide +kernel), List.mem_of_getElem? (i := 590) (by decide +kernel), List.mem_of_getElem? (i := 591) (by decide +kernel)⟩
theorem lw_p23 : lw_okq (⟨"BreadNumberedModel", "isLoaf", "(I)Z"⟩, 29) := ⟨⟨by decide +kernel, by decide +kernel⟩, List.mem_of_getElem? (i := 445) (by decide +kernel), List.mem_of_getElem? (i := 598) (by decide +kernel), List.mem_of_getElem? (i := 599) (by decide +kernel)⟩
theorem lw_p24 : lw_okq (⟨"BreadNumberedModel", "isBad", "(I)Z"⟩, 29) := ⟨⟨by decide +kernel, by decide +kernel⟩, List.mem_of_getElem? (i := 445) (by decide +kernel), List.mem_of_getElem? (i := 602) (by decide +kernel), List.mem_of_getElem? (i := 603) (by decide +kernel)⟩
theorem lw_p25 : lw_okq (⟨"BreadNumberedModel", "mayEat", "(II)Z"⟩, 29) := ⟨⟨by decide +kernel, by decide +kernel⟩, List.mem_of_getElem? (i := 445) (by decide +kernel), List.mem_of_getElem? (i := 610) (by decide +kernel), List.mem_of_getElem? (i := 611) (by decide +kernel)⟩
theorem lw_p26 : lw_okq (⟨"BreadNumberedModel", "number", "(I)I"⟩, 29) := ⟨⟨by decide +kernel, by decide +kernel⟩, List.mem_of_getElem? (i := 445) (by decide +kernel), List.mem_of_getElem? (i := 614) (by decide +kernel), List.mem_of_getElem? (i := 615) (by decide +kernel)⟩
theorem lw_p27 : lw_okq (⟨"BreadNumberedModel", "keepAct", "()V"⟩, 29) := ⟨⟨by decide +kernel, by decide +kernel⟩, List.mem_of_getElem? (i := 445) (by decide +kernel), List.mem_of_getElem? (i := 622) (by decide +kernel), List.mem_of_getElem? (i := 623) (by decide +kernel)⟩
theorem lw_p28 : lw_okq (⟨"BreadNumberedModel", "eaten", "(II)V"⟩, 29) := ⟨⟨by decide +kernel, by decide +kernel⟩, List.mem_of_getElem? (i := 445) (by decide +kernel), List.mem_of_getElem? (i := 626) (by decide +kernel), List.mem_of_getElem? (i := 627) (by decide +kernel)⟩
theorem lw_p29 : lw_okq (⟨"BreadNumberedModel", "goBy", "()I"⟩, 29) := ⟨⟨by decide +kernel, by decide +kernel⟩, List.mem_of_getElem? (i := 445) (by decide +kernel), List.mem_of_getElem? (i := 645) (by decide +kernel), List.mem_of_getElem? (i := 646) (by decide +kernel)⟩
theorem lw_p30 : lw_okq (⟨"BreadNumberedModel", "alive", "()I"⟩, 29) := ⟨⟨by decide +kernel, by decide +kernel⟩, List.mem_of_getElem? (i := 445) (by decide +kernel), List.mem_of_getElem? (i := 653) (by decide +kernel), List.mem_of_getElem? (i := 654) (by decide +kernel)⟩
theorem lw_p31 : lw_okq (⟨"BreadNumberedModel", "layLasts", "()I"⟩, 29) := ⟨⟨by decide +kernel, by decide +kernel⟩, List.mem_of_getElem? (i := 445) (by decide +kernel), List.mem_of_getElem? (i := 677) (by decide +kernel), List.mem_of_getElem? (i := 678) (by decide +kernel)⟩
def lw_privs_2 : List (MethodName × Nat) := [(⟨"BreadNumberedModel", "readText", "()I"⟩, 29), (⟨"BreadNumberedModel", "figure", "(I)I"⟩, 29), (⟨"BreadNumberedModel", "readLoaf", "()V"⟩, 29), (⟨"BreadNumberedModel", "free", "(I)I"⟩, 29), (⟨"BreadNumberedModel", "isPerson", "(I)Z"⟩, 29), (⟨"BreadNumberedModel", "held", "(I)I"⟩, 29), (⟨"BreadNumberedModel", "holder", "(I)I"⟩, 29), (⟨"BreadNumberedModel", "isLoaf", "(I)Z"⟩, 29), (⟨"BreadNumberedModel", "isBad", "(I)Z"⟩, 29), (⟨"BreadNumberedModel", "mayEat", "(II)Z"⟩, 29), (⟨"BreadNumberedModel", "number", "(I)I"⟩, 29), (⟨"BreadNumberedModel", "keepAct", "()V"⟩, 29), (⟨"BreadNumberedModel", "eaten", "(II)V"⟩, 29), (⟨"BreadNumberedModel", "goBy", "()I"⟩, 29), (⟨"BreadNumberedModel", "alive", "()I"⟩, 29), (⟨"BreadNumberedModel", "layLasts", "()I"⟩, 29)]
theorem lw_r2 : ∀ q ∈ lw_privs_2, lw_okq q := List.forall_mem_cons.mpr ⟨lw_p16, List.forall_mem_cons.mpr ⟨lw_p17, List.forall_mem_cons.mpr ⟨lw_p18, List.forall_mem_cons.mpr ⟨lw_p19, List.forall_mem_cons.mpr ⟨lw_p20, List.forall_mem_cons.mpr ⟨lw_p21, List.forall_mem_cons.mpr ⟨lw_p22, List.forall_mem_cons.mpr ⟨lw_p23, List.forall_mem_cons.mpr ⟨lw_p24, List.forall_mem_cons.mpr ⟨lw_p25, List.forall_mem_cons.mpr ⟨lw_p26, List.forall_mem_cons.mpr ⟨lw_p27, List.forall_mem_cons.mpr ⟨lw_p28, List.forall_mem_cons.mpr ⟨lw_p29, List.forall_mem_cons.mpr ⟨lw_p30, List.forall_mem_cons.mpr ⟨lw_p31, fun _ h => absurd h List.not_mem_nil⟩⟩⟩⟩⟩⟩⟩⟩⟩⟩⟩⟩⟩⟩⟩⟩
theorem lw_p32 : lw_okq (⟨"BreadNumberedModel", "leastOf", "(I)I"⟩, 29) := ⟨⟨by decide +kernel, by decide +kernel⟩, List.mem_of_getElem? (i := 445) (by decide +kernel), List.mem_of_getElem? (i := 681) (by decide +kernel), List.mem_of_getElem? (i := 682) (by decide +kernel)⟩
theorem lw_p33 : lw_okq (⟨"BreadNumberedModel", "layGood", "()I"⟩, 29) := ⟨⟨by decide +kernel, by decide +kernel⟩, List.mem_of_getElem? (i := 445) (by decide +kernel), List.mem_of_getElem? (i := 693) (by decide +kernel), List.mem_of_getElem? (i := 694) (by decide +kernel)⟩
theorem lw_p34 : lw_okq (⟨"BreadNumberedModel", "goOn", "(IIII)Z"⟩, 29) := ⟨⟨by decide +kernel, by decide +kernel⟩, List.mem_of_getElem? (i := 445) (by decide +kernel), List.mem_of_getElem? (i := 700) (by decide +kernel), List.mem_of_getElem? (i := 701) (by decide +kernel)⟩
theorem lw_p35 : lw_okq (⟨"BreadNumberedModel", "fasted", "(IIII)I"⟩, 29) := ⟨⟨by decide +kernel, by decide +kernel⟩, List.mem_of_getElem? (i := 445) (by decide +kernel), List.mem_of_getElem? (i := 704) (by decide +kernel), List.mem_of_getElem? (i := 705) (by decide +kernel)⟩
theorem lw_p36 : lw_okq (⟨"BreadNumberedModel", "greatest", "()I"⟩, 29) := ⟨⟨by decide +kernel, by decide +kernel⟩, List.mem_of_getElem? (i := 445) (by decide +kernel), List.mem_of_getElem? (i := 712) (by decide +kernel), List.mem_of_getElem? (i := 713) (by decide +kernel)⟩
theorem lw_p37 : lw_okq (⟨"BreadNumberedModel", "isTold", "(I)Z"⟩, 29) := ⟨⟨by decide +kernel, by decide +kernel⟩, List.mem_of_getElem? (i := 445) (by decide +kernel), List.mem_of_getElem? (i := 716) (by decide +kernel), List.mem_of_getElem? (i := 717) (by decide +kernel)⟩
def lw_privs_3 : List (MethodName × Nat) := [(⟨"BreadNumberedModel", "leastOf", "(I)I"⟩, 29), (⟨"BreadNumberedModel", "layGood", "()I"⟩, 29), (⟨"BreadNumberedModel", "goOn", "(IIII)Z"⟩, 29), (⟨"BreadNumberedModel", "fasted", "(IIII)I"⟩, 29), (⟨"BreadNumberedModel", "greatest", "()I"⟩, 29), (⟨"BreadNumberedModel", "isTold", "(I)Z"⟩, 29)]
theorem lw_r3 : ∀ q ∈ lw_privs_3, lw_okq q := List.forall_mem_cons.mpr ⟨lw_p32, List.forall_mem_cons.mpr ⟨lw_p33, List.forall_mem_cons.mpr ⟨lw_p34, List.forall_mem_cons.mpr ⟨lw_p35, List.forall_mem_cons.mpr ⟨lw_p36, List.forall_mem_cons.mpr ⟨lw_p37, fun _ h => absurd h List.not_mem_nil⟩⟩⟩⟩⟩⟩
def lw_privs : List (MethodName × Nat) := lw_privs_1 ++ (lw_privs_2 ++ (lw_privs_3))
def lw_tbl : List Cond := k2_sels lw_privs ++ tables_1
theorem lw_privs_ok : ∀ q ∈ lw_privs, lw_okq q := by
  show ∀ q ∈ lw_privs_1 ++ (lw_privs_2 ++ (lw_privs_3)), lw_okq q
  exact List.forall_mem_append.mpr ⟨lw_r1, List.forall_mem_append.mpr ⟨lw_r2, lw_r3⟩⟩
def RX0 : String := "BreadNumbered$Siege"
def TX0 : u_T := fun k => match k with
  | 0 => ("BreadNumbered$Siege", "law", "I", false)
  | 1 => ("BreadNumbered$Siege", "lives", "I", false)
  | 2 => ("BreadNumbered$Siege", "badAt", "I", false)
  | 3 => ("BreadNumbered$Siege", "day", "I", false)
  | 4 => ("BreadNumbered$Siege", "seed", "J", false)
  | 5 => ("BreadNumbered$Siege", "people", "I", false)
  | 6 => ("BreadNumbered$Siege", "fasted", "[I", true)
  | 7 => ("BreadNumbered$Siege", "ateToday", "[Z", true)
  | 8 => ("BreadNumbered$Siege", "eatenCount", "[I", true)
  | 9 => ("BreadNumbered$Siege", "loaves", "I", false)
  | 10 => ("BreadNumbered$Siege", "number", "[I", true)
  | 11 => ("BreadNumbered$Siege", "holder", "[I", true)
  | 12 => ("BreadNumbered$Siege", "age", "[I", true)
  | 13 => ("BreadNumbered$Siege", "eater", "[I", true)
  | _ => ("BreadNumbered$Siege", "eatenOn", "[I", true)
def tyX0 : Nat → FieldType := fun k => match k with
  | 0 => .int
  | 1 => .int
  | 2 => .int
  | 3 => .int
  | 4 => .long
  | 5 => .int
  | 6 => .array .int
  | 7 => .array .boolean
  | 8 => .array .int
  | 9 => .int
  | 10 => .array .int
  | 11 => .array .int
  | 12 => .array .int
  | 13 => .array .int
  | _ => .array .int
abbrev wsX00 : List Cond := u_ws RX0 TX0 15
theorem nmX0 : ∀ a, a < 15 → ∀ b, b < 15 → a ≠ b → (TX0 a).2.1 ≠ (TX0 b).2.1 := by decide +kernel
theorem tyX0_ok : ∀ k, k < 15 → parseFieldDescriptor (TX0 k).2.2.1 = some (tyX0 k) := by decide +kernel
abbrev cX0_init : ByteArray := prog_2_method_1_code
def yX0_init : MethodName := ⟨RX0, "<init>", "()V"⟩
abbrev cX0_begin : ByteArray := prog_2_method_2_code
def yX0_begin : MethodName := ⟨RX0, "begin", "(III)V"⟩
abbrev cX0_addPerson : ByteArray := prog_2_method_3_code
def yX0_addPerson : MethodName := ⟨RX0, "addPerson", "(I)V"⟩
abbrev cX0_addLoaf : ByteArray := prog_2_method_4_code
def yX0_addLoaf : MethodName := ⟨RX0, "addLoaf", "(III)V"⟩
abbrev cX0_becomes : ByteArray := prog_2_method_5_code
def yX0_becomes : MethodName := ⟨RX0, "becomes", "(LBreadNumbered$Siege;)V"⟩
abbrev cX0_hasPerson : ByteArray := prog_2_method_6_code
def yX0_hasPerson : MethodName := ⟨RX0, "hasPerson", "(I)Z"⟩
abbrev cX0_hasLoaf : ByteArray := prog_2_method_7_code
def yX0_hasLoaf : MethodName := ⟨RX0, "hasLoaf", "(I)Z"⟩
abbrev cX0_isAlive : ByteArray := prog_2_method_8_code
def yX0_isAlive : MethodName := ⟨RX0, "isAlive", "(I)Z"⟩
abbrev cX0_isBad : ByteArray := prog_2_method_9_code
def yX0_isBad : MethodName := ⟨RX0, "isBad", "(I)Z"⟩
abbrev cX0_isHeldByAnyone : ByteArray := prog_2_method_10_code
def yX0_isHeldByAnyone : MethodName := ⟨RX0, "isHeldByAnyone", "(I)Z"⟩
abbrev cX0_aliveBits : ByteArray := prog_2_method_11_code
def yX0_aliveBits : MethodName := ⟨RX0, "aliveBits", "()I"⟩
abbrev cX0_aliveCount : ByteArray := prog_2_method_12_code
def yX0_aliveCount : MethodName := ⟨RX0, "aliveCount", "()I"⟩
abbrev cX0_aliveAt : ByteArray := prog_2_method_13_code
def yX0_aliveAt : MethodName := ⟨RX0, "aliveAt", "(I)I"⟩
abbrev cX0_heldBits : ByteArray := prog_2_method_14_code
def yX0_heldBits : MethodName := ⟨RX0, "heldBits", "(I)I"⟩
abbrev cX0_isHeldByOthers : ByteArray := prog_2_method_15_code
def yX0_isHeldByOthers : MethodName := ⟨RX0, "isHeldByOthers", "(II)Z"⟩
abbrev cX0_heldByOthersCount : ByteArray := prog_2_method_16_code
def yX0_heldByOthersCount : MethodName := ⟨RX0, "heldByOthersCount", "(I)I"⟩
abbrev cX0_heldByOthersAt : ByteArray := prog_2_method_17_code
def yX0_heldByOthersAt : MethodName := ⟨RX0, "heldByOthersAt", "(II)I"⟩
abbrev cX0_eatenLoaves : ByteArray := prog_2_method_18_code
def yX0_eatenLoaves : MethodName := ⟨RX0, "eatenLoaves", "()I"⟩
abbrev cX0_badLoaves : ByteArray := prog_2_method_19_code
def yX0_badLoaves : MethodName := ⟨RX0, "badLoaves", "()I"⟩
abbrev cX0_hasNumber : ByteArray := prog_2_method_20_code
def yX0_hasNumber : MethodName := ⟨RX0, "hasNumber", "(I)Z"⟩
abbrev cX0_greatestNumber : ByteArray := prog_2_method_21_code
def yX0_greatestNumber : MethodName := ⟨RX0, "greatestNumber", "()I"⟩
abbrev cX0_missingCount : ByteArray := prog_2_method_22_code
def yX0_missingCount : MethodName := ⟨RX0, "missingCount", "()I"⟩
abbrev cX0_isAllowed : ByteArray := prog_2_method_23_code
def yX0_isAllowed : MethodName := ⟨RX0, "isAllowed", "(II)Z"⟩
abbrev cX0_lawForbids : ByteArray := prog_2_method_24_code
def yX0_lawForbids : MethodName := ⟨RX0, "lawForbids", "(II)Z"⟩
abbrev cX0_feed : ByteArray := prog_2_method_25_code
def yX0_feed : MethodName := ⟨RX0, "feed", "(II)V"⟩
abbrev cX0_passDay : ByteArray := prog_2_method_26_code
def yX0_passDay : MethodName := ⟨RX0, "passDay", "()I"⟩
abbrev cX0_leaveToPriest : ByteArray := prog_2_method_27_code
def yX0_leaveToPriest : MethodName := ⟨RX0, "leaveToPriest", "(I)V"⟩
abbrev cX0_eatAsItIs : ByteArray := prog_2_method_28_code
def yX0_eatAsItIs : MethodName := ⟨RX0, "eatAsItIs", "()V"⟩
abbrev cX0_leastAllowed : ByteArray := prog_2_method_29_code
def yX0_leastAllowed : MethodName := ⟨RX0, "leastAllowed", "(I)I"⟩
abbrev cX0_canAllLive : ByteArray := prog_2_method_30_code
def yX0_canAllLive : MethodName := ⟨RX0, "canAllLive", "(I)Z"⟩
abbrev cX0_mealsDue : ByteArray := prog_2_method_31_code
def yX0_mealsDue : MethodName := ⟨RX0, "mealsDue", "(II)I"⟩
abbrev cX0_loavesGoodOn : ByteArray := prog_2_method_32_code
def yX0_loavesGoodOn : MethodName := ⟨RX0, "loavesGoodOn", "(I)I"⟩
def RX1 : String := "BreadNumbered$Text"
def TX1 : u_T := fun k => match k with
  | 0 => ("BreadNumbered$Text", "bytes", "[I", true)
  | 1 => ("BreadNumbered$Text", "length", "I", false)
  | _ => ("BreadNumbered$Text", "place", "I", false)
def tyX1 : Nat → FieldType := fun k => match k with
  | 0 => .array .int
  | 1 => .int
  | _ => .int
abbrev wsX10 : List Cond := u_ws RX1 TX1 3
theorem nmX1 : ∀ a, a < 3 → ∀ b, b < 3 → a ≠ b → (TX1 a).2.1 ≠ (TX1 b).2.1 := by decide +kernel
theorem tyX1_ok : ∀ k, k < 3 → parseFieldDescriptor (TX1 k).2.2.1 = some (tyX1 k) := by decide +kernel
abbrev cX1_init : ByteArray := prog_3_method_1_code
def yX1_init : MethodName := ⟨RX1, "<init>", "()V"⟩
abbrev cX1_append : ByteArray := prog_3_method_2_code
def yX1_append : MethodName := ⟨RX1, "append", "(I)V"⟩
abbrev cX1_readInto : ByteArray := prog_3_method_3_code
def yX1_readInto : MethodName := ⟨RX1, "readInto", "(LBreadNumbered$Siege;)I"⟩
abbrev cX1_readRules : ByteArray := prog_3_method_4_code
def yX1_readRules : MethodName := ⟨RX1, "readRules", "(LBreadNumbered$Siege;)Z"⟩
abbrev cX1_readPerson : ByteArray := prog_3_method_5_code
def yX1_readPerson : MethodName := ⟨RX1, "readPerson", "(LBreadNumbered$Siege;)Z"⟩
abbrev cX1_readLoaf : ByteArray := prog_3_method_6_code
def yX1_readLoaf : MethodName := ⟨RX1, "readLoaf", "(LBreadNumbered$Siege;)Z"⟩
abbrev cX1_readNumber : ByteArray := prog_3_method_7_code
def yX1_readNumber : MethodName := ⟨RX1, "readNumber", "(LBreadNumbered$Siege;)I"⟩
abbrev cX1_hasFreeNumber : ByteArray := prog_3_method_8_code
def yX1_hasFreeNumber : MethodName := ⟨RX1, "hasFreeNumber", "(LBreadNumbered$Siege;I)Z"⟩
abbrev cX1_isFree : ByteArray := prog_3_method_9_code
def yX1_isFree : MethodName := ⟨RX1, "isFree", "(LBreadNumbered$Siege;I)Z"⟩
abbrev cX1_readSign : ByteArray := prog_3_method_10_code
def yX1_readSign : MethodName := ⟨RX1, "readSign", "(C)Z"⟩
abbrev cX1_isSignHere : ByteArray := prog_3_method_11_code
def yX1_isSignHere : MethodName := ⟨RX1, "isSignHere", "(C)Z"⟩
abbrev cX1_readFigure : ByteArray := prog_3_method_12_code
def yX1_readFigure : MethodName := ⟨RX1, "readFigure", "(II)I"⟩
abbrev cX1_figureHere : ByteArray := prog_3_method_13_code
def yX1_figureHere : MethodName := ⟨RX1, "figureHere", "()I"⟩
def RX2 : String := "BreadNumbered"
def TX2 : u_T := fun k => match k with
  | 0 => ("BreadNumbered", "text", "LBreadNumbered$Text;", true)
  | 1 => ("BreadNumbered", "now", "LBreadNumbered$Siege;", true)
  | 2 => ("BreadNumbered", "spare", "LBreadNumbered$Siege;", true)
  | 3 => ("BreadNumbered", "acts", "[LBreadNumbered$Siege;", true)
  | 4 => ("BreadNumbered", "firstAct", "I", false)
  | 5 => ("BreadNumbered", "actCount", "I", false)
  | 6 => ("BreadNumbered", "slots", "[LBreadNumbered$Siege;", true)
  | _ => ("BreadNumbered", "isKept", "[Z", true)
def tyX2 : Nat → FieldType := fun k => match k with
  | 0 => .object "BreadNumbered$Text"
  | 1 => .object "BreadNumbered$Siege"
  | 2 => .object "BreadNumbered$Siege"
  | 3 => .array (.object "BreadNumbered$Siege")
  | 4 => .int
  | 5 => .int
  | 6 => .array (.object "BreadNumbered$Siege")
  | _ => .array .boolean
abbrev wsX20 : List Cond := u_ws RX2 TX2 8
theorem nmX2 : ∀ a, a < 8 → ∀ b, b < 8 → a ≠ b → (TX2 a).2.1 ≠ (TX2 b).2.1 := by decide +kernel
theorem tyX2_ok : ∀ k, k < 8 → parseFieldDescriptor (TX2 k).2.2.1 = some (tyX2 k) := by decide +kernel
abbrev cX2_init : ByteArray := prog_1_method_1_code
def yX2_init : MethodName := ⟨RX2, "<init>", "()V"⟩
abbrev cX2_write : ByteArray := prog_1_method_2_code
def yX2_write : MethodName := ⟨RX2, "write", "(IJ)I"⟩
abbrev cX2_wipe : ByteArray := prog_1_method_3_code
def yX2_wipe : MethodName := ⟨RX2, "wipe", "()I"⟩
abbrev cX2_fault : ByteArray := prog_1_method_4_code
def yX2_fault : MethodName := ⟨RX2, "fault", "()I"⟩
abbrev cX2_siege : ByteArray := prog_1_method_5_code
def yX2_siege : MethodName := ⟨RX2, "siege", "()I"⟩
abbrev cX2_person : ByteArray := prog_1_method_6_code
def yX2_person : MethodName := ⟨RX2, "person", "(II)I"⟩
abbrev cX2_loaf : ByteArray := prog_1_method_7_code
def yX2_loaf : MethodName := ⟨RX2, "loaf", "(II)I"⟩
abbrev cX2_may : ByteArray := prog_1_method_8_code
def yX2_may : MethodName := ⟨RX2, "may", "(II)I"⟩
abbrev cX2_eat : ByteArray := prog_1_method_9_code
def yX2_eat : MethodName := ⟨RX2, "eat", "(II)I"⟩
abbrev cX2_give : ByteArray := prog_1_method_10_code
def yX2_give : MethodName := ⟨RX2, "give", "(II)I"⟩
abbrev cX2_cut : ByteArray := prog_1_method_11_code
def yX2_cut : MethodName := ⟨RX2, "cut", "(I)I"⟩
abbrev cX2_day : ByteArray := prog_1_method_12_code
def yX2_day : MethodName := ⟨RX2, "day", "()I"⟩
abbrev cX2_night : ByteArray := prog_1_method_13_code
def yX2_night : MethodName := ⟨RX2, "night", "()I"⟩
abbrev cX2_undo : ByteArray := prog_1_method_14_code
def yX2_undo : MethodName := ⟨RX2, "undo", "()I"⟩
abbrev cX2_seed : ByteArray := prog_1_method_15_code
def yX2_seed : MethodName := ⟨RX2, "seed", "(J)J"⟩
abbrev cX2_lasts : ByteArray := prog_1_method_16_code
def yX2_lasts : MethodName := ⟨RX2, "lasts", "()I"⟩
abbrev cX2_first : ByteArray := prog_1_method_17_code
def yX2_first : MethodName := ⟨RX2, "first", "()I"⟩
abbrev cX2_best : ByteArray := prog_1_method_18_code
def yX2_best : MethodName := ⟨RX2, "best", "()I"⟩
abbrev cX2_missing : ByteArray := prog_1_method_19_code
def yX2_missing : MethodName := ⟨RX2, "missing", "(I)I"⟩
abbrev cX2_forged : ByteArray := prog_1_method_20_code
def yX2_forged : MethodName := ⟨RX2, "forged", "(IIIZ)I"⟩
abbrev cX2_help : ByteArray := prog_1_method_21_code
def yX2_help : MethodName := ⟨RX2, "help", "(IZ)J"⟩
abbrev cX2_keep : ByteArray := prog_1_method_22_code
def yX2_keep : MethodName := ⟨RX2, "keep", "(I)I"⟩
abbrev cX2_again : ByteArray := prog_1_method_23_code
def yX2_again : MethodName := ⟨RX2, "again", "(I)I"⟩
abbrev cX2_count : ByteArray := prog_1_method_24_code
def yX2_count : MethodName := ⟨RX2, "count", "(I)I"⟩
abbrev cX2_rememberAct : ByteArray := prog_1_method_25_code
def yX2_rememberAct : MethodName := ⟨RX2, "rememberAct", "()V"⟩
abbrev cX2_forgetActs : ByteArray := prog_1_method_26_code
def yX2_forgetActs : MethodName := ⟨RX2, "forgetActs", "()V"⟩
abbrev cX2_daysUntilDeath : ByteArray := prog_1_method_27_code
def yX2_daysUntilDeath : MethodName := ⟨RX2, "daysUntilDeath", "()I"⟩
abbrev cX2_hasNine : ByteArray := prog_1_method_28_code
def yX2_hasNine : MethodName := ⟨RX2, "hasNine", "(I)Z"⟩
abbrev cX2_whenCut : ByteArray := prog_1_method_29_code
def yX2_whenCut : MethodName := ⟨RX2, "whenCut", "(I)I"⟩
abbrev cX2_partInLeastTerms : ByteArray := prog_1_method_30_code
def yX2_partInLeastTerms : MethodName := ⟨RX2, "partInLeastTerms", "(JJZ)J"⟩
abbrev cX2_greatestDivisor : ByteArray := prog_1_method_31_code
def yX2_greatestDivisor : MethodName := ⟨RX2, "greatestDivisor", "(JJ)J"⟩
def RX3 : String := "BreadNumberedModel"
def TX3 : u_T := fun k => match k with
  | 0 => ("BreadNumberedModel", "read", "[I", true)
  | 1 => ("BreadNumberedModel", "readLaw", "I", false)
  | 2 => ("BreadNumberedModel", "readLives", "I", false)
  | 3 => ("BreadNumberedModel", "readSpoils", "I", false)
  | 4 => ("BreadNumberedModel", "readPeople", "I", false)
  | 5 => ("BreadNumberedModel", "readLoaves", "I", false)
  | 6 => ("BreadNumberedModel", "now", "[I", true)
  | 7 => ("BreadNumberedModel", "rule", "I", false)
  | 8 => ("BreadNumberedModel", "lives", "I", false)
  | 9 => ("BreadNumberedModel", "spoils", "I", false)
  | 10 => ("BreadNumberedModel", "people", "I", false)
  | 11 => ("BreadNumberedModel", "loaves", "I", false)
  | 12 => ("BreadNumberedModel", "seed", "J", false)
  | 13 => ("BreadNumberedModel", "text", "[I", true)
  | 14 => ("BreadNumberedModel", "length", "I", false)
  | 15 => ("BreadNumberedModel", "at", "I", false)
  | 16 => ("BreadNumberedModel", "faultAt", "I", false)
  | 17 => ("BreadNumberedModel", "acts", "I", false)
  | 18 => ("BreadNumberedModel", "next", "I", false)
  | 19 => ("BreadNumberedModel", "row", "[I", true)
  | 20 => ("BreadNumberedModel", "rowSeed", "[J", true)
  | 21 => ("BreadNumberedModel", "spare", "[I", true)
  | 22 => ("BreadNumberedModel", "firstDead", "I", false)
  | 23 => ("BreadNumberedModel", "can", "[Z", true)
  | 24 => ("BreadNumberedModel", "then", "[Z", true)
  | 25 => ("BreadNumberedModel", "good", "[I", true)
  | 26 => ("BreadNumberedModel", "isKept", "[Z", true)
  | 27 => ("BreadNumberedModel", "kept", "[I", true)
  | _ => ("BreadNumberedModel", "keptSeed", "[J", true)
def tyX3 : Nat → FieldType := fun k => match k with
  | 0 => .array .int
  | 1 => .int
  | 2 => .int
  | 3 => .int
  | 4 => .int
  | 5 => .int
  | 6 => .array .int
  | 7 => .int
  | 8 => .int
  | 9 => .int
  | 10 => .int
  | 11 => .int
  | 12 => .long
  | 13 => .array .int
  | 14 => .int
  | 15 => .int
  | 16 => .int
  | 17 => .int
  | 18 => .int
  | 19 => .array .int
  | 20 => .array .long
  | 21 => .array .int
  | 22 => .int
  | 23 => .array .boolean
  | 24 => .array .boolean
  | 25 => .array .int
  | 26 => .array .boolean
  | 27 => .array .int
  | _ => .array .long
abbrev wsX30 : List Cond := u_ws RX3 TX3 29
theorem nmX3 : ∀ a, a < 29 → ∀ b, b < 29 → a ≠ b → (TX3 a).2.1 ≠ (TX3 b).2.1 := by decide +kernel
theorem tyX3_ok : ∀ k, k < 29 → parseFieldDescriptor (TX3 k).2.2.1 = some (tyX3 k) := by decide +kernel
abbrev cX3_init : ByteArray := prog_5_method_1_code
def yX3_init : MethodName := ⟨RX3, "<init>", "()V"⟩
abbrev cX3_in : ByteArray := prog_5_method_3_code
def yX3_in : MethodName := ⟨RX3, "in", "(JJJ)Z"⟩
abbrev cX3_write : ByteArray := prog_5_method_4_code
def yX3_write : MethodName := ⟨RX3, "write", "(IJ)I"⟩
abbrev cX3_wipe : ByteArray := prog_5_method_5_code
def yX3_wipe : MethodName := ⟨RX3, "wipe", "()I"⟩
abbrev cX3_figure : ByteArray := prog_5_method_6_code
def yX3_figure : MethodName := ⟨RX3, "figure", "(I)I"⟩
abbrev cX3_free : ByteArray := prog_5_method_7_code
def yX3_free : MethodName := ⟨RX3, "free", "(I)I"⟩
abbrev cX3_readText : ByteArray := prog_5_method_8_code
def yX3_readText : MethodName := ⟨RX3, "readText", "()I"⟩
abbrev cX3_readLoaf : ByteArray := prog_5_method_9_code
def yX3_readLoaf : MethodName := ⟨RX3, "readLoaf", "()V"⟩
abbrev cX3_fault : ByteArray := prog_5_method_10_code
def yX3_fault : MethodName := ⟨RX3, "fault", "()I"⟩
abbrev cX3_siege : ByteArray := prog_5_method_11_code
def yX3_siege : MethodName := ⟨RX3, "siege", "()I"⟩
abbrev cX3_isPerson : ByteArray := prog_5_method_12_code
def yX3_isPerson : MethodName := ⟨RX3, "isPerson", "(I)Z"⟩
abbrev cX3_isLoaf : ByteArray := prog_5_method_13_code
def yX3_isLoaf : MethodName := ⟨RX3, "isLoaf", "(I)Z"⟩
abbrev cX3_number : ByteArray := prog_5_method_14_code
def yX3_number : MethodName := ⟨RX3, "number", "(I)I"⟩
abbrev cX3_holder : ByteArray := prog_5_method_15_code
def yX3_holder : MethodName := ⟨RX3, "holder", "(I)I"⟩
abbrev cX3_isBad : ByteArray := prog_5_method_16_code
def yX3_isBad : MethodName := ⟨RX3, "isBad", "(I)Z"⟩
abbrev cX3_held : ByteArray := prog_5_method_17_code
def yX3_held : MethodName := ⟨RX3, "held", "(I)I"⟩
abbrev cX3_person : ByteArray := prog_5_method_18_code
def yX3_person : MethodName := ⟨RX3, "person", "(II)I"⟩
abbrev cX3_loaf : ByteArray := prog_5_method_19_code
def yX3_loaf : MethodName := ⟨RX3, "loaf", "(II)I"⟩
abbrev cX3_keepAct : ByteArray := prog_5_method_20_code
def yX3_keepAct : MethodName := ⟨RX3, "keepAct", "()V"⟩
abbrev cX3_mayEat : ByteArray := prog_5_method_21_code
def yX3_mayEat : MethodName := ⟨RX3, "mayEat", "(II)Z"⟩
abbrev cX3_may : ByteArray := prog_5_method_22_code
def yX3_may : MethodName := ⟨RX3, "may", "(II)I"⟩
abbrev cX3_eaten : ByteArray := prog_5_method_23_code
def yX3_eaten : MethodName := ⟨RX3, "eaten", "(II)V"⟩
abbrev cX3_eat : ByteArray := prog_5_method_24_code
def yX3_eat : MethodName := ⟨RX3, "eat", "(II)I"⟩
abbrev cX3_give : ByteArray := prog_5_method_25_code
def yX3_give : MethodName := ⟨RX3, "give", "(II)I"⟩
abbrev cX3_cutOf : ByteArray := prog_5_method_26_code
def yX3_cutOf : MethodName := ⟨RX3, "cutOf", "(I)I"⟩
abbrev cX3_cut : ByteArray := prog_5_method_27_code
def yX3_cut : MethodName := ⟨RX3, "cut", "(I)I"⟩
abbrev cX3_goBy : ByteArray := prog_5_method_28_code
def yX3_goBy : MethodName := ⟨RX3, "goBy", "()I"⟩
abbrev cX3_day : ByteArray := prog_5_method_29_code
def yX3_day : MethodName := ⟨RX3, "day", "()I"⟩
abbrev cX3_alive : ByteArray := prog_5_method_30_code
def yX3_alive : MethodName := ⟨RX3, "alive", "()I"⟩
abbrev cX3_ones : ByteArray := prog_5_method_31_code
def yX3_ones : MethodName := ⟨RX3, "ones", "(I)I"⟩
abbrev cX3_nth : ByteArray := prog_5_method_32_code
def yX3_nth : MethodName := ⟨RX3, "nth", "(II)I"⟩
abbrev cX3_night : ByteArray := prog_5_method_33_code
def yX3_night : MethodName := ⟨RX3, "night", "()I"⟩
abbrev cX3_undo : ByteArray := prog_5_method_34_code
def yX3_undo : MethodName := ⟨RX3, "undo", "()I"⟩
abbrev cX3_seed : ByteArray := prog_5_method_35_code
def yX3_seed : MethodName := ⟨RX3, "seed", "(J)J"⟩
abbrev cX3_leastOf : ByteArray := prog_5_method_36_code
def yX3_leastOf : MethodName := ⟨RX3, "leastOf", "(I)I"⟩
abbrev cX3_layLasts : ByteArray := prog_5_method_37_code
def yX3_layLasts : MethodName := ⟨RX3, "layLasts", "()I"⟩
abbrev cX3_lasts : ByteArray := prog_5_method_38_code
def yX3_lasts : MethodName := ⟨RX3, "lasts", "()I"⟩
abbrev cX3_first : ByteArray := prog_5_method_39_code
def yX3_first : MethodName := ⟨RX3, "first", "()I"⟩
abbrev cX3_layGood : ByteArray := prog_5_method_40_code
def yX3_layGood : MethodName := ⟨RX3, "layGood", "()I"⟩
abbrev cX3_tenTo : ByteArray := prog_5_method_41_code
def yX3_tenTo : MethodName := ⟨RX3, "tenTo", "(I)I"⟩
abbrev cX3_fasted : ByteArray := prog_5_method_42_code
def yX3_fasted : MethodName := ⟨RX3, "fasted", "(IIII)I"⟩
abbrev cX3_best : ByteArray := prog_5_method_43_code
def yX3_best : MethodName := ⟨RX3, "best", "()I"⟩
abbrev cX3_goOn : ByteArray := prog_5_method_44_code
def yX3_goOn : MethodName := ⟨RX3, "goOn", "(IIII)Z"⟩
abbrev cX3_greatest : ByteArray := prog_5_method_45_code
def yX3_greatest : MethodName := ⟨RX3, "greatest", "()I"⟩
abbrev cX3_isTold : ByteArray := prog_5_method_46_code
def yX3_isTold : MethodName := ⟨RX3, "isTold", "(I)Z"⟩
abbrev cX3_missing : ByteArray := prog_5_method_47_code
def yX3_missing : MethodName := ⟨RX3, "missing", "(I)I"⟩
abbrev cX3_common : ByteArray := prog_5_method_48_code
def yX3_common : MethodName := ⟨RX3, "common", "(II)I"⟩
abbrev cX3_forged : ByteArray := prog_5_method_49_code
def yX3_forged : MethodName := ⟨RX3, "forged", "(IIIZ)I"⟩
abbrev cX3_power : ByteArray := prog_5_method_50_code
def yX3_power : MethodName := ⟨RX3, "power", "(II)J"⟩
abbrev cX3_help : ByteArray := prog_5_method_51_code
def yX3_help : MethodName := ⟨RX3, "help", "(IZ)J"⟩
abbrev cX3_keep : ByteArray := prog_5_method_52_code
def yX3_keep : MethodName := ⟨RX3, "keep", "(I)I"⟩
abbrev cX3_again : ByteArray := prog_5_method_53_code
def yX3_again : MethodName := ⟨RX3, "again", "(I)I"⟩
abbrev cX3_count : ByteArray := prog_5_method_54_code
def yX3_count : MethodName := ⟨RX3, "count", "(I)I"⟩
def RJ6 : String := "java/lang/Integer"
def TJ6 : u_T := fun k => match k with
  | _ => ("", "", "", false)
def tyJ6 : Nat → FieldType := fun k => match k with
  | _ => .int
abbrev wsJ60 : List Cond := u_ws RJ6 TJ6 0
theorem nmJ6 : ∀ a, a < 0 → ∀ b, b < 0 → a ≠ b → (TJ6 a).2.1 ≠ (TJ6 b).2.1 := by decide +kernel
theorem tyJ6_ok : ∀ k, k < 0 → parseFieldDescriptor (TJ6 k).2.2.1 = some (tyJ6 k) := by decide +kernel
abbrev cJ6_bitCount_0f7a4 : ByteArray := prog_6_method_49_code
def yJ6_bitCount_0f7a4 : MethodName := ⟨RJ6, "bitCount", "(I)I"⟩
def RJ9 : String := "java/lang/Math"
def TJ9 : u_T := fun k => match k with
  | _ => ("", "", "", false)
def tyJ9 : Nat → FieldType := fun k => match k with
  | _ => .int
abbrev wsJ90 : List Cond := u_ws RJ9 TJ9 0
theorem nmJ9 : ∀ a, a < 0 → ∀ b, b < 0 → a ≠ b → (TJ9 a).2.1 ≠ (TJ9 b).2.1 := by decide +kernel
theorem tyJ9_ok : ∀ k, k < 0 → parseFieldDescriptor (TJ9 k).2.2.1 = some (tyJ9 k) := by decide +kernel
abbrev cJ9_max_7cf53 : ByteArray := prog_7_method_65_code
def yJ9_max_7cf53 : MethodName := ⟨RJ9, "max", "(II)I"⟩
abbrev cJ9_min_7cf53 : ByteArray := prog_7_method_69_code
def yJ9_min_7cf53 : MethodName := ⟨RJ9, "min", "(II)I"⟩
def RJ10 : String := "java/lang/System"
def TJ10 : u_T := fun k => match k with
  | _ => ("", "", "", false)
def tyJ10 : Nat → FieldType := fun k => match k with
  | _ => .int
abbrev wsJ100 : List Cond := u_ws RJ10 TJ10 0
theorem nmJ10 : ∀ a, a < 0 → ∀ b, b < 0 → a ≠ b → (TJ10 a).2.1 ≠ (TJ10 b).2.1 := by decide +kernel
theorem tyJ10_ok : ∀ k, k < 0 → parseFieldDescriptor (TJ10 k).2.2.1 = some (tyJ10 k) := by decide +kernel
def RL : String := "BreadNumberedLaw"
abbrev cL_law : ByteArray := code
def yL_law : MethodName := ⟨RL, "law", "([I)Z"⟩
/-! the own tables of the walk: methods by number, what they link -/
abbrev bn_cl : List vw_C := [(RX0, TX0, 15), (RX1, TX1, 3), (RX2, TX2, 8), (RX3, TX3, 29)]
def bn_cnL : List String := [RX0, RX1, RX2, RX3, RL, RJ6, RJ9]
def bn_cn (c : Nat) : String := bn_cnL.getD c ""
def bn_yL : List MethodName := [yX0_init, yX0_begin, yX0_addPerson, yX0_addLoaf, yX0_becomes, yX0_hasPerson, yX0_hasLoaf, yX0_isAlive, yX0_isBad, yX0_isHeldByAnyone, yX0_aliveBits, yX0_aliveCount, yX0_aliveAt, yX0_heldBits, yX0_isHeldByOthers, yX0_heldByOthersCount, yX0_heldByOthersAt, yX0_eatenLoaves, yX0_badLoaves, yX0_hasNumber, yX0_greatestNumber, yX0_missingCount, yX0_isAllowed, yX0_lawForbids, yX0_feed, yX0_passDay, yX0_leaveToPriest, yX0_eatAsItIs, yX0_leastAllowed, yX0_canAllLive, yX0_mealsDue, yX0_loavesGoodOn, yX1_init, yX1_append, yX1_readInto, yX1_readRules, yX1_readPerson, yX1_readLoaf, yX1_readNumber, yX1_hasFreeNumber, yX1_isFree, yX1_readSign, yX1_isSignHere, yX1_readFigure, yX1_figureHere, yX2_init, yX2_write, yX2_wipe, yX2_fault, yX2_siege, yX2_person, yX2_loaf, yX2_may, yX2_eat, yX2_give, yX2_cut, yX2_day, yX2_night, yX2_undo, yX2_seed, yX2_lasts, yX2_first, yX2_best, yX2_missing, yX2_forged, yX2_help, yX2_keep, yX2_again, yX2_count, yX2_rememberAct, yX2_forgetActs, yX2_daysUntilDeath, yX2_hasNine, yX2_whenCut, yX2_partInLeastTerms, yX2_greatestDivisor, yX3_init, yX3_in, yX3_write, yX3_wipe, yX3_figure, yX3_free, yX3_readText, yX3_readLoaf, yX3_fault, yX3_siege, yX3_isPerson, yX3_isLoaf, yX3_number, yX3_holder, yX3_isBad, yX3_held, yX3_person, yX3_loaf, yX3_keepAct, yX3_mayEat, yX3_may, yX3_eaten, yX3_eat, yX3_give, yX3_cutOf, yX3_cut, yX3_goBy, yX3_day, yX3_alive, yX3_ones, yX3_nth, yX3_night, yX3_undo, yX3_seed, yX3_leastOf, yX3_layLasts, yX3_lasts, yX3_first, yX3_layGood, yX3_tenTo, yX3_fasted, yX3_best, yX3_goOn, yX3_greatest, yX3_isTold, yX3_missing, yX3_common, yX3_forged, yX3_power, yX3_help, yX3_keep, yX3_again, yX3_count, yJ6_bitCount_0f7a4, yJ9_max_7cf53, yJ9_min_7cf53, yL_law]
def bn_bL : List ByteArray := [cX0_init, cX0_begin, cX0_addPerson, cX0_addLoaf, cX0_becomes, cX0_hasPerson, cX0_hasLoaf, cX0_isAlive, cX0_isBad, cX0_isHeldByAnyone, cX0_aliveBits, cX0_aliveCount, cX0_aliveAt, cX0_heldBits, cX0_isHeldByOthers, cX0_heldByOthersCount, cX0_heldByOthersAt, cX0_eatenLoaves, cX0_badLoaves, cX0_hasNumber, cX0_greatestNumber, cX0_missingCount, cX0_isAllowed, cX0_lawForbids, cX0_feed, cX0_passDay, cX0_leaveToPriest, cX0_eatAsItIs, cX0_leastAllowed, cX0_canAllLive, cX0_mealsDue, cX0_loavesGoodOn, cX1_init, cX1_append, cX1_readInto, cX1_readRules, cX1_readPerson, cX1_readLoaf, cX1_readNumber, cX1_hasFreeNumber, cX1_isFree, cX1_readSign, cX1_isSignHere, cX1_readFigure, cX1_figureHere, cX2_init, cX2_write, cX2_wipe, cX2_fault, cX2_siege, cX2_person, cX2_loaf, cX2_may, cX2_eat, cX2_give, cX2_cut, cX2_day, cX2_night, cX2_undo, cX2_seed, cX2_lasts, cX2_first, cX2_best, cX2_missing, cX2_forged, cX2_help, cX2_keep, cX2_again, cX2_count, cX2_rememberAct, cX2_forgetActs, cX2_daysUntilDeath, cX2_hasNine, cX2_whenCut, cX2_partInLeastTerms, cX2_greatestDivisor, cX3_init, cX3_in, cX3_write, cX3_wipe, cX3_figure, cX3_free, cX3_readText, cX3_readLoaf, cX3_fault, cX3_siege, cX3_isPerson, cX3_isLoaf, cX3_number, cX3_holder, cX3_isBad, cX3_held, cX3_person, cX3_loaf, cX3_keepAct, cX3_mayEat, cX3_may, cX3_eaten, cX3_eat, cX3_give, cX3_cutOf, cX3_cut, cX3_goBy, cX3_day, cX3_alive, cX3_ones, cX3_nth, cX3_night, cX3_undo, cX3_seed, cX3_leastOf, cX3_layLasts, cX3_lasts, cX3_first, cX3_layGood, cX3_tenTo, cX3_fasted, cX3_best, cX3_goOn, cX3_greatest, cX3_isTold, cX3_missing, cX3_common, cX3_forged, cX3_power, cX3_help, cX3_keep, cX3_again, cX3_count, cJ6_bitCount_0f7a4, cJ9_max_7cf53, cJ9_min_7cf53, code]
def bn_mL : List Nat := [1, 4, 2, 4, 3, 2, 2, 2, 2, 2, 3, 1, 4, 4, 3, 4, 5, 3, 3, 3, 3, 4, 3, 5, 3, 3, 3, 3, 4, 4, 7, 4, 1, 2, 4, 5, 3, 5, 4, 3, 2, 2, 2, 4, 1, 2, 5, 2, 1, 2, 3, 3, 3, 3, 4, 2, 1, 6, 1, 5, 1, 2, 3, 5, 7, 10, 2, 2, 2, 1, 1, 2, 1, 1, 7, 7, 1, 6, 5, 2, 3, 5, 2, 6, 1, 2, 2, 2, 2, 2, 2, 4, 3, 3, 2, 6, 3, 4, 3, 4, 1, 2, 4, 1, 3, 3, 4, 6, 2, 5, 4, 5, 1, 1, 4, 1, 8, 8, 10, 3, 4, 4, 5, 7, 5, 15, 3, 3, 6, 1, 2, 2, 4]
def bn_rL : List (Option FieldType) := [none, none, none, none, none, (some .boolean), (some .boolean), (some .boolean), (some .boolean), (some .boolean), (some .int), (some .int), (some .int), (some .int), (some .boolean), (some .int), (some .int), (some .int), (some .int), (some .boolean), (some .int), (some .int), (some .boolean), (some .boolean), none, (some .int), none, none, (some .int), (some .boolean), (some .int), (some .int), none, none, (some .int), (some .boolean), (some .boolean), (some .boolean), (some .int), (some .boolean), (some .boolean), (some .boolean), (some .boolean), (some .int), (some .int), none, (some .int), (some .int), (some .int), (some .int), (some .int), (some .int), (some .int), (some .int), (some .int), (some .int), (some .int), (some .int), (some .int), (some .long), (some .int), (some .int), (some .int), (some .int), (some .int), (some .long), (some .int), (some .int), (some .int), none, none, (some .int), (some .boolean), (some .int), (some .long), (some .long), none, (some .boolean), (some .int), (some .int), (some .int), (some .int), (some .int), none, (some .int), (some .int), (some .boolean), (some .boolean), (some .int), (some .int), (some .boolean), (some .int), (some .int), (some .int), none, (some .boolean), (some .int), none, (some .int), (some .int), (some .int), (some .int), (some .int), (some .int), (some .int), (some .int), (some .int), (some .int), (some .int), (some .long), (some .int), (some .int), (some .int), (some .int), (some .int), (some .int), (some .int), (some .int), (some .boolean), (some .int), (some .boolean), (some .int), (some .int), (some .int), (some .long), (some .long), (some .int), (some .int), (some .int), (some .int), (some .int), (some .int), (some .boolean)]
def bn_cL : List Nat := [0, 0, 0, 0, 0, 0, 0, 0, 0, 0, 0, 0, 0, 0, 0, 0, 0, 0, 0, 0, 0, 0, 0, 0, 0, 0, 0, 0, 0, 0, 0, 0, 1, 1, 1, 1, 1, 1, 1, 1, 1, 1, 1, 1, 1, 2, 2, 2, 2, 2, 2, 2, 2, 2, 2, 2, 2, 2, 2, 2, 2, 2, 2, 2, 2, 2, 2, 2, 2, 2, 2, 2, 2, 2, 2, 2, 3, 3, 3, 3, 3, 3, 3, 3, 3, 3, 3, 3, 3, 3, 3, 3, 3, 3, 3, 3, 3, 3, 3, 3, 3, 3, 3, 3, 3, 3, 3, 3, 3, 3, 3, 3, 3, 3, 3, 3, 3, 3, 3, 3, 3, 3, 3, 3, 3, 3, 3, 3, 3, 5, 6, 6, 4]
def bn_fL : List Nat := [1, 0, 0, 0, 1, 0, 0, 0, 0, 0, 1, 2, 1, 0, 1, 2, 2, 0, 1, 0, 1, 2, 2, 1, 0, 1, 0, 4, 3, 2, 1, 1, 1, 0, 5, 2, 2, 4, 3, 2, 1, 1, 0, 1, 0, 2, 1, 0, 6, 6, 1, 1, 3, 3, 3, 3, 3, 3, 2, 0, 6, 6, 3, 2, 2, 6, 2, 2, 3, 2, 0, 5, 0, 0, 1, 0, 1, 0, 1, 0, 1, 0, 3, 2, 4, 4, 1, 1, 0, 0, 0, 1, 2, 2, 0, 1, 2, 0, 2, 2, 0, 2, 0, 1, 0, 0, 0, 1, 0, 0, 2, 3, 4, 4, 1, 0, 1, 3, 2, 1, 1, 2, 0, 1, 0, 4, 1, 1, 2, 0, 0, 0, 7]
def bn_lL : List Nat := [26, 0, 0, 0, 26, 0, 0, 0, 0, 0, 21, 43, 21, 0, 21, 43, 43, 0, 21, 0, 26, 48, 45, 21, 0, 26, 0, 90, 67, 52, 26, 21, 26, 0, 112, 43, 43, 88, 65, 43, 22, 21, 0, 20, 0, 46, 21, 0, 135, 135, 23, 21, 67, 68, 68, 68, 68, 68, 48, 0, 133, 133, 75, 48, 52, 133, 48, 48, 71, 48, 0, 112, 0, 0, 26, 0, 26, 0, 25, 0, 25, 0, 72, 47, 93, 93, 25, 25, 0, 0, 0, 21, 46, 46, 0, 21, 46, 0, 46, 46, 0, 46, 0, 23, 0, 0, 0, 23, 0, 0, 46, 69, 93, 93, 21, 0, 20, 76, 47, 21, 21, 44, 0, 25, 0, 93, 25, 25, 44, 0, 0, 0, 162]
def bn_pL : List Nat := [0, 3, 1, 3, 1, 1, 1, 1, 1, 1, 0, 0, 1, 1, 2, 1, 2, 0, 0, 1, 0, 0, 2, 2, 2, 0, 1, 0, 1, 1, 2, 1, 0, 1, 1, 1, 1, 1, 1, 2, 2, 1, 1, 2, 0, 0, 2, 0, 0, 0, 2, 2, 2, 2, 2, 1, 0, 0, 0, 1, 0, 0, 0, 1, 4, 2, 1, 1, 1, 0, 0, 0, 1, 1, 3, 2, 0, 3, 2, 0, 1, 1, 0, 0, 0, 0, 1, 1, 1, 1, 1, 1, 2, 2, 0, 2, 2, 2, 2, 2, 1, 1, 0, 0, 0, 1, 2, 0, 0, 1, 1, 0, 0, 0, 0, 1, 4, 0, 4, 0, 1, 1, 2, 4, 2, 2, 1, 1, 1, 1, 2, 2, 1]
def bn_y (i : Nat) : MethodName := bn_yL.getD i yX0_init
def bn_b (i : Nat) : ByteArray := bn_bL.getD i ⟨#[]⟩
def bn_m (i : Nat) : Nat := bn_mL.getD i 0
def bn_r (i : Nat) : Option FieldType := bn_rL.getD i none
def bn_c (i : Nat) : Nat := bn_cL.getD i 0
def bn_f (i : Nat) : Nat := bn_fL.getD i 0
def bn_l (i : Nat) : Nat := bn_lL.getD i 0
def bn_p (i : Nat) : Nat := bn_pL.getD i 0
/-- a constructor -/
def bn_i (i : Nat) : Bool := i == 0 || i == 32 || i == 45 || i == 76
/-- field links: class, index, class of the object, place, its row -/
def bn_FL : List (Nat × Nat × Nat × Nat × Nat) := [(1, 9, 1, 0, 60), (1, 15, 1, 1, 61), (2, 44, 1, 1, 62), (1, 19, 1, 2, 63), (0, 9, 0, 0, 78), (2, 189, 0, 0, 79), (0, 15, 0, 1, 80), (1, 52, 0, 1, 81), (0, 18, 0, 2, 82), (0, 21, 0, 3, 83), (2, 174, 0, 3, 84), (0, 24, 0, 4, 85), (2, 55, 0, 4, 86), (0, 28, 0, 5, 87), (1, 49, 0, 5, 88), (2, 66, 0, 5, 89), (0, 31, 0, 6, 90), (2, 76, 0, 6, 91), (0, 35, 0, 7, 92), (2, 83, 0, 7, 93), (0, 39, 0, 8, 94), (2, 90, 0, 8, 95), (0, 42, 0, 9, 96), (2, 69, 0, 9, 97), (1, 59, 0, 9, 98), (0, 45, 0, 10, 99), (2, 96, 0, 10, 100), (0, 48, 0, 11, 101), (2, 99, 0, 11, 102), (0, 51, 0, 12, 103), (2, 102, 0, 12, 104), (0, 54, 0, 13, 105), (2, 108, 0, 13, 106), (0, 57, 0, 14, 107), (2, 111, 0, 14, 108), (2, 12, 2, 0, 142), (2, 19, 2, 1, 143), (2, 23, 2, 2, 144), (2, 26, 2, 3, 145), (2, 30, 2, 4, 146), (2, 34, 2, 5, 147), (2, 37, 2, 6, 148), (2, 40, 2, 7, 149), (3, 7, 3, 0, 488), (3, 84, 3, 1, 489), (3, 87, 3, 2, 490), (3, 90, 3, 3, 491), (3, 77, 3, 4, 492), (3, 74, 3, 5, 493), (3, 13, 3, 6, 494), (3, 103, 3, 7, 495), (3, 48, 3, 8, 496), (3, 52, 3, 9, 497), (3, 106, 3, 10, 498), (3, 109, 3, 11, 499), (3, 134, 3, 12, 500), (3, 16, 3, 13, 501), (3, 61, 3, 14, 502), (3, 69, 3, 15, 503), (3, 66, 3, 16, 504), (3, 112, 3, 17, 505), (3, 131, 3, 18, 506), (3, 19, 3, 19, 507), (3, 22, 3, 20, 508), (3, 26, 3, 21, 509), (3, 172, 3, 22, 510), (3, 29, 3, 23, 511), (3, 33, 3, 24, 512), (3, 36, 3, 25, 513), (3, 39, 3, 26, 514), (3, 42, 3, 27, 515), (3, 45, 3, 28, 516)]
/-- method links: class, index, kind (0 virtual, 1 static, 2 constructor, 3 a nest mate's, 4 of Object, 5 arraycopy, 6 Math.max, 7 Math.min), the method, its row -/
def bn_ML : List (Nat × Nat × Nat × Nat × Nat) := [(4, 9, 2, 45, 48), (2, 3, 4, 0, 51), (2, 11, 3, 32, 56), (1, 3, 4, 0, 59), (2, 18, 3, 0, 74), (0, 3, 4, 0, 77), (4, 15, 0, 46, 167), (2, 47, 0, 33, 171), (4, 20, 0, 47, 175), (4, 25, 0, 48, 179), (2, 51, 0, 34, 183), (1, 22, 0, 35, 187), (1, 36, 0, 41, 191), (1, 26, 0, 42, 195), (1, 39, 0, 43, 199), (1, 69, 0, 44, 203), (1, 43, 0, 1, 207), (1, 30, 0, 36, 211), (1, 55, 0, 2, 215), (1, 33, 0, 37, 219), (1, 62, 0, 38, 223), (1, 73, 1, 39, 227), (1, 77, 1, 40, 230), (1, 80, 0, 19, 233), (1, 66, 0, 3, 237), (4, 29, 0, 49, 241), (2, 59, 0, 4, 245), (0, 60, 5, 0, 249), (2, 63, 0, 70, 252), (4, 33, 0, 50, 256), (2, 72, 0, 5, 260), (2, 80, 0, 7, 264), (2, 86, 0, 13, 268), (4, 38, 0, 51, 272), (2, 93, 0, 6, 276), (2, 105, 0, 8, 280), (4, 42, 0, 52, 284), (2, 114, 0, 22, 288), (0, 66, 0, 7, 292), (0, 87, 0, 8, 293), (0, 102, 0, 23, 294), (0, 80, 0, 9, 298), (4, 46, 0, 53, 302), (2, 118, 0, 69, 306), (2, 121, 0, 24, 310), (4, 50, 0, 54, 314), (4, 54, 0, 55, 318), (2, 125, 1, 72, 322), (2, 128, 1, 73, 325), (4, 59, 0, 56, 328), (2, 131, 0, 25, 332), (0, 105, 0, 26, 336), (0, 109, 7, 0, 340), (4, 63, 0, 57, 343), (2, 135, 0, 11, 347), (0, 70, 0, 10, 351), (0, 74, 1, 129, 355), (2, 142, 0, 12, 363), (2, 145, 0, 15, 367), (0, 83, 0, 14, 371), (2, 148, 0, 16, 375), (4, 67, 0, 58, 379), (4, 71, 0, 59, 383), (4, 76, 0, 60, 387), (2, 152, 0, 71, 391), (2, 192, 0, 27, 395), (0, 112, 0, 28, 399), (0, 119, 0, 22, 403), (0, 115, 0, 24, 404), (4, 80, 0, 61, 405), (4, 84, 0, 62, 409), (2, 155, 0, 29, 413), (0, 90, 6, 0, 417), (0, 122, 0, 30, 420), (0, 125, 0, 31, 424), (4, 88, 0, 63, 428), (2, 158, 0, 20, 432), (2, 161, 0, 19, 436), (4, 92, 0, 64, 437), (2, 164, 1, 74, 441), (2, 195, 1, 75, 444), (4, 97, 0, 65, 448), (4, 102, 0, 66, 455), (4, 106, 0, 67, 459), (4, 110, 0, 68, 463), (2, 177, 0, 10, 467), (2, 180, 0, 17, 468), (2, 183, 0, 18, 472), (2, 186, 0, 21, 476), (0, 96, 0, 20, 480), (0, 99, 0, 19, 481), (4, 12, 2, 76, 484), (3, 1, 4, 0, 487), (4, 19, 0, 78, 577), (3, 57, 1, 77, 582), (4, 24, 0, 79, 586), (4, 28, 0, 84, 590), (3, 99, 0, 82, 594), (3, 80, 0, 80, 598), (3, 93, 0, 83, 603), (3, 96, 0, 81, 607), (4, 32, 0, 85, 611), (4, 37, 0, 92, 615), (3, 118, 0, 86, 619), (3, 122, 0, 91, 623), (3, 115, 0, 89, 627), (4, 41, 0, 93, 631), (3, 125, 0, 87, 635), (3, 128, 0, 90, 639), (4, 45, 0, 96, 643), (3, 141, 0, 95, 647), (3, 138, 0, 88, 651), (4, 49, 0, 98, 655), (3, 145, 0, 94, 659), (3, 148, 0, 97, 663), (4, 53, 0, 99, 667), (4, 58, 0, 101, 671), (3, 152, 1, 100, 675), (4, 62, 0, 103, 678), (3, 155, 0, 102, 682), (4, 66, 0, 107, 686), (3, 158, 0, 104, 690), (3, 165, 1, 105, 696), (3, 168, 1, 106, 699), (4, 70, 0, 108, 702), (4, 75, 0, 109, 706), (4, 79, 0, 112, 710), (3, 178, 0, 111, 714), (3, 175, 0, 110, 718), (4, 83, 0, 113, 722), (4, 87, 0, 117, 726), (3, 184, 0, 114, 730), (3, 181, 1, 115, 734), (3, 187, 0, 118, 737), (3, 191, 0, 116, 741), (4, 91, 0, 121, 745), (3, 195, 0, 119, 749), (3, 198, 0, 120, 753), (4, 96, 0, 123, 757), (3, 205, 1, 122, 763), (4, 101, 0, 125, 766), (3, 212, 1, 124, 772), (4, 105, 0, 126, 775), (4, 109, 0, 127, 779), (4, 113, 0, 128, 783)]
/-- of a method the rows of its code, of instance or static, of selects, of its class -/
def bn_MR : List (Nat × Nat × Nat × Nat) := [(76, 75, 0, 41), (210, 208, 209, 41), (218, 216, 217, 41), (240, 238, 239, 41), (248, 246, 247, 41), (263, 261, 262, 41), (279, 277, 278, 41), (267, 265, 266, 41), (283, 281, 282, 41), (301, 299, 300, 41), (354, 352, 353, 41), (350, 348, 349, 41), (366, 364, 365, 41), (271, 269, 270, 41), (374, 372, 373, 41), (370, 368, 369, 41), (378, 376, 377, 41), (471, 469, 470, 41), (475, 473, 474, 41), (236, 234, 235, 41), (435, 433, 434, 41), (479, 477, 478, 41), (291, 289, 290, 41), (297, 296, 9, 41), (313, 311, 312, 41), (335, 333, 334, 41), (339, 338, 11, 41), (398, 396, 397, 41), (402, 401, 13, 41), (416, 414, 415, 41), (423, 422, 14, 41), (427, 426, 15, 41), (58, 57, 0, 40), (174, 172, 173, 40), (186, 184, 185, 40), (190, 189, 0, 40), (214, 213, 5, 40), (222, 221, 6, 40), (226, 225, 7, 40), (229, 228, 0, 40), (232, 231, 0, 40), (194, 193, 1, 40), (198, 197, 2, 40), (202, 201, 3, 40), (206, 205, 4, 40), (50, 49, 0, 39), (170, 168, 169, 39), (178, 176, 177, 39), (182, 180, 181, 39), (244, 242, 243, 39), (259, 257, 258, 39), (275, 273, 274, 39), (287, 285, 286, 39), (305, 303, 304, 39), (317, 315, 316, 39), (321, 319, 320, 39), (331, 329, 330, 39), (346, 344, 345, 39), (382, 380, 381, 39), (386, 384, 385, 39), (390, 388, 389, 39), (408, 406, 407, 39), (412, 410, 411, 39), (431, 429, 430, 39), (440, 438, 439, 39), (451, 449, 450, 39), (458, 456, 457, 39), (462, 460, 461, 39), (466, 464, 465, 39), (309, 308, 10, 39), (255, 254, 8, 39), (394, 393, 12, 39), (324, 323, 0, 39), (327, 326, 0, 39), (443, 442, 0, 39), (446, 445, 0, 39), (486, 485, 0, 42), (584, 583, 0, 42), (580, 578, 579, 42), (589, 587, 588, 42), (601, 600, 17, 42), (610, 609, 19, 42), (597, 596, 16, 42), (606, 605, 18, 42), (593, 591, 592, 42), (614, 612, 613, 42), (622, 621, 20, 42), (638, 637, 23, 42), (654, 653, 26, 42), (630, 629, 22, 42), (642, 641, 24, 42), (626, 625, 21, 42), (618, 616, 617, 42), (634, 632, 633, 42), (662, 661, 27, 42), (650, 649, 25, 42), (646, 644, 645, 42), (666, 665, 28, 42), (658, 656, 657, 42), (670, 668, 669, 42), (677, 676, 0, 42), (674, 672, 673, 42), (685, 684, 29, 42), (681, 679, 680, 42), (693, 692, 30, 42), (698, 697, 0, 42), (701, 700, 0, 42), (689, 687, 688, 42), (705, 703, 704, 42), (709, 707, 708, 42), (721, 720, 32, 42), (717, 716, 31, 42), (713, 711, 712, 42), (725, 723, 724, 42), (733, 732, 33, 42), (736, 735, 0, 42), (744, 743, 35, 42), (729, 727, 728, 42), (740, 739, 34, 42), (752, 751, 36, 42), (756, 755, 37, 42), (748, 746, 747, 42), (765, 764, 0, 42), (760, 758, 759, 42), (774, 773, 0, 42), (769, 767, 768, 42), (778, 776, 777, 42), (782, 780, 781, 42), (786, 784, 785, 42), (357, 356, 0, 45), (419, 418, 0, 44), (342, 341, 0, 44), (0, 0, 0, 0)]
def bn_KI : List (Nat × Nat × Int32 × Nat) := [(5, 265, (1431655765), 358), (5, 266, (858993459), 359), (5, 267, (252645135), 360)]
def bn_KL : List (Nat × Nat × Int64 × Nat) := [(2, 138, (6364136223846793005), 361), (2, 140, (1442695040888963407), 362), (2, 199, (-9), 447), (2, 168, (-2), 452), (2, 170, (-3), 453), (2, 172, (10), 454), (3, 55, (8), 581), (3, 64, (255), 585), (3, 72, (9), 602), (3, 161, (6364136223846793005), 694), (3, 163, (1442695040888963407), 695), (3, 201, (99), 761), (3, 203, (10), 762), (3, 208, (-2), 770), (3, 210, (-3), 771), (4, 13, (4294967295), 787)]
/-- class links: class, index, the class, its row -/
def bn_CK : List (Nat × Nat × Nat × Nat) := [(4, 7, 2, 46), (2, 9, 1, 54), (2, 16, 0, 72), (4, 10, 3, 482)]
end
section
/-! THE WALK AS A FUNCTION: the bytecode over numbered cells. A cell is an array (its kind: 0 int, 1 boolean, 2 long, 3 Siege) or an object (its class's number, its fields); a reference is the cell's number; the script is .retAddr 0. -/
abbrev bn_E : Type := (Nat × vp_A) ⊕ (Nat × List Value)
/-- script (length, ints), number of cells, slots used, the cells -/
abbrev bn_H : Type := (Nat × (Nat → Int32)) × Nat × Nat × (Nat → bn_E)
abbrev bn_L : Type := List (Option Value)
abbrev bn_R : Type := Option (Option Value × bn_H)
def bn_g (h : bn_H) (p : Nat) : Option bn_E := if p < h.2.1 then some (h.2.2.2 p) else none
def bn_u (h : bn_H) (p : Nat) (e : bn_E) : bn_H := (h.1, h.2.1, h.2.2.1, va_up h.2.2.2 p e)
def bn_n (h : bn_H) (e : bn_E) (z : Nat) : bn_H := (h.1, h.2.1 + 1, h.2.2.1 + z, va_up h.2.2.2 h.2.1 e)
def bn_T (c : Nat) : u_T := match c with
  | 0 => TX0
  | 1 => TX1
  | 2 => TX2
  | _ => TX3
def bn_N (c : Nat) : Nat := match c with
  | 0 => 15
  | 1 => 3
  | 2 => 8
  | _ => 29
def bn_ty (c : Nat) : Nat → FieldType := match c with
  | 0 => tyX0
  | 1 => tyX1
  | 2 => tyX2
  | _ => tyX3
/-- a field: class, place -/
def bn_fl (c idx : Nat) : Option (Nat × Nat) := (bn_FL.find? (fun r => r.1 == c && r.2.1 == idx)).map (fun r => (r.2.2.1, r.2.2.2.1))
/-- a method: kind, number -/
def bn_ml (c idx : Nat) : Option (Nat × Nat) := (bn_ML.find? (fun r => r.1 == c && r.2.1 == idx)).map (fun r => (r.2.2.1, r.2.2.2.1))
def bn_ki (c idx : Nat) : Option Int32 := (bn_KI.find? (fun r => r.1 == c && r.2.1 == idx)).map (fun r => r.2.2.1)
def bn_kl (c idx : Nat) : Option Int64 := (bn_KL.find? (fun r => r.1 == c && r.2.1 == idx)).map (fun r => r.2.2.1)
def bn_ck (c idx : Nat) : Option Nat := (bn_CK.find? (fun r => r.1 == c && r.2.1 == idx)).map (fun r => r.2.2.1)
def bn_get (ls : bn_L) (i : Nat) : Option Value := (ls[i]?).getD none
/-- storing at i ends a long that begins at i - 1 -/
def bn_kil (ls : bn_L) (i : Nat) : bn_L := match i with
  | 0 => ls
  | j + 1 => match bn_get ls j with
    | some (.long _) => ls.set j none
    | some (.double _) => ls.set j none
    | _ => ls
def bn_st1 (ls : bn_L) (i : Nat) (v : Value) : bn_L := (bn_kil ls i).set i (some v)
def bn_st2 (ls : bn_L) (i : Nat) (v : Value) : bn_L := ((bn_kil ls i).set i (some v)).set (i + 1) none
def bn_tg (pc : Nat) (off : Int) : Option Nat := if 0 ≤ (pc : Int) + off then some ((pc : Int) + off).toNat else none
def bn_cm (c : ClassFile.Cond) (x y : Int32) : Bool := match c with
  | .eq => decide (x = y)
  | .ne => !decide (x = y)
  | .lt => decide (x < y)
  | .ge => decide (y ≤ x)
  | .gt => decide (y < x)
  | .le => decide (x ≤ y)
def bn_ct (st : List Value) : Nat := (st.map fun v => v.category).sum
/-- the length that the rows of the kit say -/
def bn_ln (i : Instr) (len : Nat) : Nat := match i with
  | .aload _ | .iload _ | .lload _ | .istore _ | .lstore _ | .astore _ | .bipush _ | .newarray _ | .ldc _ => 2
  | .getfield _ | .putfield _ | .goto _ | .if_icmp _ _ | .ifCond _ _ | .iinc _ _ | .sipush _ | .ldc_w _ | .ldc2_w _ | .invokespecial _ | .invokestatic _ | .invokevirtual _ | .new _ | .anewarray _ => 3
  | .tableswitch _ _ _ _ => len
  | _ => 1
def bn_i1 (ls : bn_L) (k i : Nat) (st : List Value) (h : bn_H) : Option (Nat × bn_L × List Value × bn_H) := match bn_get ls i with
  | some (.int x) => some (k, ls, .int x :: st, h)
  | _ => none
def bn_l1 (ls : bn_L) (k i : Nat) (st : List Value) (h : bn_H) : Option (Nat × bn_L × List Value × bn_H) := match bn_get ls i with
  | some (.long x) => some (k, ls, .long x :: st, h)
  | _ => none
def bn_a1 (ls : bn_L) (k i : Nat) (st : List Value) (h : bn_H) : Option (Nat × bn_L × List Value × bn_H) := match bn_get ls i with
  | some (.ref x) => some (k, ls, .ref x :: st, h)
  | some (.retAddr x) => some (k, ls, .retAddr x :: st, h)
  | _ => none
def bn_iso (ls : bn_L) (k i nL : Nat) (st : List Value) (h : bn_H) : Option (Nat × bn_L × List Value × bn_H) := match st with
  | .int x :: r => if i < nL then some (k, bn_st1 ls i (.int x), r, h) else none
  | _ => none
def bn_lst (ls : bn_L) (k i nL : Nat) (st : List Value) (h : bn_H) : Option (Nat × bn_L × List Value × bn_H) := match st with
  | .long x :: r => if i + 1 < nL then some (k, bn_st2 ls i (.long x), r, h) else none
  | _ => none
def bn_as (ls : bn_L) (k i nL : Nat) (st : List Value) (h : bn_H) : Option (Nat × bn_L × List Value × bn_H) := match st with
  | .ref x :: r => if i < nL then some (k, bn_st1 ls i (.ref x), r, h) else none
  | _ => none
def bn_ii (f : Int32 → Int32 → Int32) (ls : bn_L) (k : Nat) (st : List Value) (h : bn_H) : Option (Nat × bn_L × List Value × bn_H) := match st with
  | .int y :: .int x :: r => some (k, ls, .int (f x y) :: r, h)
  | _ => none
def bn_ll (f : Int64 → Int64 → Int64) (ls : bn_L) (k : Nat) (st : List Value) (h : bn_H) : Option (Nat × bn_L × List Value × bn_H) := match st with
  | .long y :: .long x :: r => some (k, ls, .long (f x y) :: r, h)
  | _ => none
def bn_li (f : Int64 → Int32 → Int64) (ls : bn_L) (k : Nat) (st : List Value) (h : bn_H) : Option (Nat × bn_L × List Value × bn_H) := match st with
  | .int y :: .long x :: r => some (k, ls, .long (f x y) :: r, h)
  | _ => none
def bn_idv (f : Int32 → Int32 → Int32) (ls : bn_L) (k : Nat) (st : List Value) (h : bn_H) : Option (Nat × bn_L × List Value × bn_H) := match st with
  | .int y :: .int x :: r => if y = 0 then none else some (k, ls, .int (f x y) :: r, h)
  | _ => none
def bn_ldv (f : Int64 → Int64 → Int64) (ls : bn_L) (k : Nat) (st : List Value) (h : bn_H) : Option (Nat × bn_L × List Value × bn_H) := match st with
  | .long y :: .long x :: r => if y = 0 then none else some (k, ls, .long (f x y) :: r, h)
  | _ => none
def bn_shl (x y : Int32) : Int32 := x <<< (y &&& 31)
def bn_shr (x y : Int32) : Int32 := x >>> (y &&& 31)
def bn_ushr (x y : Int32) : Int32 := (x.toUInt32 >>> (y.toUInt32 &&& Int32.toUInt32 31)).toInt32
def bn_rem (x y : Int32) : Int32 := x - x / y * y
def bn_lrem (x y : Int64) : Int64 := x - x / y * y
def bn_lushr (x : Int64) (y : Int32) : Int64 := (x.toUInt64 >>> (y.toInt64.toUInt64 &&& Int64.toUInt64 63)).toInt64
def bn_lshl (x : Int64) (y : Int32) : Int64 := x <<< (y.toInt64 &&& 63)
def bn_lshr (x : Int64) (y : Int32) : Int64 := x >>> (y.toInt64 &&& 63)
/-- getfield -/
def bn_gf (h : bn_H) (p ci k : Nat) : Option Value := match bn_g h p with
  | some (.inr o) => if o.1 = ci then o.2[k]? else none
  | _ => none
/-- putfield -/
def bn_pf (h : bn_H) (p ci k : Nat) (v : Value) : Option bn_H := match bn_g h p with
  | some (.inr o) => if o.1 = ci ∧ k < o.2.length then some (bn_u h p (.inr (ci, o.2.set k v))) else none
  | _ => none
/-- an array of ints (of the kind t) -/
def bn_ai (h : bn_H) (p t : Nat) : Option (Nat × (Nat → Int32)) := match bn_g h p with
  | some (.inl (u, n, .inl f)) => if u = t then some (n, f) else none
  | _ => none
def bn_al (h : bn_H) (p : Nat) : Option (Nat × (Nat → Int64)) := match bn_g h p with
  | some (.inl (u, n, .inr (.inl f))) => if u = 2 then some (n, f) else none
  | _ => none
def bn_ar (h : bn_H) (p : Nat) : Option (Nat × (Nat → Option Nat)) := match bn_g h p with
  | some (.inl (u, n, .inr (.inr (.inr (.inr f))))) => if u = 3 then some (n, f) else none
  | _ => none
/-- a load out of an array of ints, booleans -/
def bn_ld (h : bn_H) (p t : Nat) (i : Int32) : Option Int32 := (bn_ai h p t).bind fun a => if i < 0 ∨ a.1 ≤ i.toNatClampNeg then none else some (a.2 i.toNatClampNeg)
def bn_sd (h : bn_H) (p t : Nat) (i x : Int32) : Option bn_H := (bn_ai h p t).bind fun a => if i < 0 ∨ a.1 ≤ i.toNatClampNeg then none else some (bn_u h p (.inl (t, a.1, .inl (upd a.2 i.toNatClampNeg x))))
def bn_lld (h : bn_H) (p : Nat) (i : Int32) : Option Int64 := (bn_al h p).bind fun a => if i < 0 ∨ a.1 ≤ i.toNatClampNeg then none else some (a.2 i.toNatClampNeg)
def bn_lsd (h : bn_H) (p : Nat) (i : Int32) (x : Int64) : Option bn_H := (bn_al h p).bind fun a => if i < 0 ∨ a.1 ≤ i.toNatClampNeg then none else some (bn_u h p (.inl (2, a.1, .inr (.inl (vp_updL a.2 i.toNatClampNeg x)))))
def bn_rld (h : bn_H) (p : Nat) (i : Int32) : Option Nat := (bn_ar h p).bind fun a => if i < 0 ∨ a.1 ≤ i.toNatClampNeg then none else a.2 i.toNatClampNeg
def bn_isC (h : bn_H) (p c : Nat) : Bool := match bn_g h p with
  | some (.inr o) => o.1 == c
  | _ => false
def bn_rsd (h : bn_H) (p : Nat) (i : Int32) (q : Nat) : Option bn_H := (bn_ar h p).bind fun a => if (i < 0 ∨ a.1 ≤ i.toNatClampNeg) ∨ bn_isC h q 0 = false then none else some (bn_u h p (.inl (3, a.1, .inr (.inr (.inr (.inr (va_up a.2 i.toNatClampNeg (some q))))))))
/-- arraycopy of ints -/
def bn_cp (h : bn_H) (p : Nat) (sp : Int32) (q : Nat) (dp n : Int32) : Option bn_H := (bn_ai h p 0).bind fun a => (bn_ai h q 0).bind fun b =>
  if (sp < 0 ∨ dp < 0 ∨ n < 0) ∨ (a.1 < sp.toNatClampNeg + n.toNatClampNeg ∨ b.1 < dp.toNatClampNeg + n.toNatClampNeg) then none else some (bn_u h q (.inl (0, b.1, .inl (va_cpy a.2 b.2 sp.toNatClampNeg dp.toNatClampNeg n.toNatClampNeg))))
def bn_dv (ty : FieldType) : Value := defaultValue ty
def bn_ts (dflt lo hi : Int) (offs : Array Int) (x : Int32) : Option Int := if x.toInt < lo ∨ hi < x.toInt then some dflt else offs[(x.toInt - lo).toNat]?
def bn_okr (t : Option FieldType) (r : Option Value) : Bool := match t, r with
  | none, none => true
  | some .int, some (.int _) => true
  | some .boolean, some (.int _) => true
  | some .long, some (.long _) => true
  | _, _ => false
/-- a field's kind -/
def bn_okg (t : FieldType) (v : Value) : Bool := match t, v with
  | .int, .int _ => true
  | .long, .long _ => true
  | .array _, .ref _ => true
  | .object _, .ref _ => true
  | _, _ => false
/-- an instruction that neither calls nor returns -/
def bn_x (mi : Nat) (i : Instr) (pc : Nat) (ls : bn_L) (st : List Value) (h : bn_H) : Option (Nat × bn_L × List Value × bn_H) := match i with
  | .iconst n => some (pc + 1, ls, .int (Int32.ofInt n) :: st, h)
  | .bipush n => some (pc + 2, ls, .int (Int8.ofInt n).toInt32 :: st, h)
  | .sipush n => some (pc + 3, ls, .int (Int16.ofInt n).toInt32 :: st, h)
  | .lconst n => some (pc + 1, ls, .long (Int64.ofNat (n : Nat)) :: st, h)
  | .ldc_w k => (bn_ki (bn_c mi) k).map fun v => (pc + 3, ls, .int v :: st, h)
  | .ldc2_w k => (bn_kl (bn_c mi) k).map fun v => (pc + 3, ls, .long v :: st, h)
  | .iload_n k => bn_i1 ls (pc + 1) k st h
  | .iload k => bn_i1 ls (pc + 2) k st h
  | .lload_n k => bn_l1 ls (pc + 1) k st h
  | .lload k => bn_l1 ls (pc + 2) k st h
  | .aload_n k => bn_a1 ls (pc + 1) k st h
  | .aload k => bn_a1 ls (pc + 2) k st h
  | .istore_n k => bn_iso ls (pc + 1) k (bn_m mi) st h
  | .istore k => bn_iso ls (pc + 2) k (bn_m mi) st h
  | .lstore_n k => bn_lst ls (pc + 1) k (bn_m mi) st h
  | .lstore k => bn_lst ls (pc + 2) k (bn_m mi) st h
  | .astore_n k => bn_as ls (pc + 1) k (bn_m mi) st h
  | .astore k => bn_as ls (pc + 2) k (bn_m mi) st h
  | .iinc k n => match bn_get ls k with
    | some (.int x) => if k < bn_m mi then some (pc + 3, bn_st1 ls k (.int (x + Int32.ofInt n)), st, h) else none
    | _ => none
  | .iadd => bn_ii (· + ·) ls (pc + 1) st h
  | .isub => bn_ii (· - ·) ls (pc + 1) st h
  | .imul => bn_ii (· * ·) ls (pc + 1) st h
  | .iand => bn_ii (· &&& ·) ls (pc + 1) st h
  | .ior => bn_ii (· ||| ·) ls (pc + 1) st h
  | .ixor => bn_ii (· ^^^ ·) ls (pc + 1) st h
  | .ishl => bn_ii bn_shl ls (pc + 1) st h
  | .ishr => bn_ii bn_shr ls (pc + 1) st h
  | .iushr => bn_ii bn_ushr ls (pc + 1) st h
  | .idiv => bn_idv (· / ·) ls (pc + 1) st h
  | .irem => bn_idv bn_rem ls (pc + 1) st h
  | .ladd => bn_ll (· + ·) ls (pc + 1) st h
  | .lsub => bn_ll (· - ·) ls (pc + 1) st h
  | .lmul => bn_ll (· * ·) ls (pc + 1) st h
  | .land => bn_ll (· &&& ·) ls (pc + 1) st h
  | .lor => bn_ll (· ||| ·) ls (pc + 1) st h
  | .ldiv => bn_ldv (· / ·) ls (pc + 1) st h
  | .lrem => bn_ldv bn_lrem ls (pc + 1) st h
  | .lshl => bn_li bn_lshl ls (pc + 1) st h
  | .lshr => bn_li bn_lshr ls (pc + 1) st h
  | .lushr => bn_li bn_lushr ls (pc + 1) st h
  | .i2l => match st with
    | .int x :: r => some (pc + 1, ls, .long x.toInt64 :: r, h)
    | _ => none
  | .l2i => match st with
    | .long x :: r => some (pc + 1, ls, .int x.toInt32 :: r, h)
    | _ => none
  | .lcmp => match st with
    | .long y :: .long x :: r => some (pc + 1, ls, .int (lg_cmp x y) :: r, h)
    | _ => none
  | .dup => match st with
    | v :: r => if v.category = 1 then some (pc + 1, ls, v :: v :: r, h) else none
    | _ => none
  | .dup2 => match st with
    | v :: w :: r => if v.category = 1 ∧ w.category = 1 then some (pc + 1, ls, v :: w :: v :: w :: r, h) else none
    | _ => none
  | .pop => match st with
    | v :: r => if v.category = 1 then some (pc + 1, ls, r, h) else none
    | _ => none
  | .goto off => (bn_tg pc off).map fun t => (t, ls, st, h)
  | .if_icmp c off => match st with
    | .int y :: .int x :: r => (bn_tg pc off).map fun t => (if bn_cm c x y = true then t else pc + 3, ls, r, h)
    | _ => none
  | .ifCond c off => match st with
    | .int x :: r => (bn_tg pc off).map fun t => (if bn_cm c x 0 = true then t else pc + 3, ls, r, h)
    | _ => none
  | .tableswitch dflt lo hi offs => match st with
    | .int x :: r => (bn_ts dflt lo hi offs x).bind fun off => (bn_tg pc off).map fun t => (t, ls, r, h)
    | _ => none
  | .getfield k => match st with
    | .ref p :: r => (bn_fl (bn_c mi) k).bind fun q => (bn_gf h p q.1 q.2).bind fun v => if bn_okg (bn_ty q.1 q.2) v = true then some (pc + 3, ls, v :: r, h) else none
    | _ => none
  | .putfield k => match st with
    | v :: .ref p :: r => (bn_fl (bn_c mi) k).bind fun q =>
      if narrow (bn_ty q.1 q.2) v = v ∧ fits (bn_ty q.1 q.2) v = true ∧ ((bn_T q.1 q.2).2.2.2 = false ∨ (bn_i mi = true ∧ (bn_T q.1 q.2).1 = bn_cn (bn_c mi))) then (bn_pf h p q.1 q.2 v).map fun h' => (pc + 3, ls, r, h') else none
    | _ => none
  | .iaload => match st with
    | .int i :: .ref p :: r => (bn_ld h p 0 i).map fun v => (pc + 1, ls, .int v :: r, h)
    | .int i :: .retAddr _ :: r => if i < 0 ∨ h.1.1 ≤ i.toNatClampNeg then none else some (pc + 1, ls, .int (h.1.2 i.toNatClampNeg) :: r, h)
    | _ => none
  | .baload => match st with
    | .int i :: .ref p :: r => (bn_ld h p 1 i).map fun v => (pc + 1, ls, .int v :: r, h)
    | _ => none
  | .laload => match st with
    | .int i :: .ref p :: r => (bn_lld h p i).map fun v => (pc + 1, ls, .long v :: r, h)
    | _ => none
  | .aaload => match st with
    | .int i :: .ref p :: r => (bn_rld h p i).map fun v => (pc + 1, ls, .ref v :: r, h)
    | _ => none
  | .iastore => match st with
    | .int x :: .int i :: .ref p :: r => (bn_sd h p 0 i x).map fun h' => (pc + 1, ls, r, h')
    | _ => none
  | .bastore => match st with
    | .int x :: .int i :: .ref p :: r => (bn_sd h p 1 i (vp_nar .boolean x)).map fun h' => (pc + 1, ls, r, h')
    | _ => none
  | .lastore => match st with
    | .long x :: .int i :: .ref p :: r => (bn_lsd h p i x).map fun h' => (pc + 1, ls, r, h')
    | _ => none
  | .aastore => match st with
    | .ref x :: .int i :: .ref p :: r => (bn_rsd h p i x).map fun h' => (pc + 1, ls, r, h')
    | _ => none
  | .arraylength => match st with
    | .retAddr _ :: r => some (pc + 1, ls, .int (Int32.ofNat h.1.1) :: r, h)
    | _ => none
  | .new k => (bn_ck (bn_c mi) k).map fun c => (pc + 3, ls, .ref h.2.1 :: st, bn_n h (.inr (c, (List.range (bn_N c)).map (fun j => bn_dv (bn_ty c j)))) (bn_N c))
  | .newarray .int => match st with
    | .int n :: r => if n < 0 ∨ 100000 < n.toNatClampNeg then none else some (pc + 2, ls, .ref h.2.1 :: r, bn_n h (.inl (0, n.toNatClampNeg, .inl (fun _ => 0))) n.toNatClampNeg)
    | _ => none
  | .newarray .boolean => match st with
    | .int n :: r => if n < 0 ∨ 100000 < n.toNatClampNeg then none else some (pc + 2, ls, .ref h.2.1 :: r, bn_n h (.inl (1, n.toNatClampNeg, .inl (fun _ => 0))) n.toNatClampNeg)
    | _ => none
  | .newarray .long => match st with
    | .int n :: r => if n < 0 ∨ 100000 < n.toNatClampNeg then none else some (pc + 2, ls, .ref h.2.1 :: r, bn_n h (.inl (2, n.toNatClampNeg, .inr (.inl (fun _ => 0)))) n.toNatClampNeg)
    | _ => none
  | .anewarray k => match st with
    | .int n :: r => if (n < 0 ∨ 100000 < n.toNatClampNeg) ∨ ¬ bn_ck (bn_c mi) k = some 0 then none else some (pc + 3, ls, .ref h.2.1 :: r, bn_n h (.inl (3, n.toNatClampNeg, .inr (.inr (.inr (.inr (fun _ => none)))))) n.toNatClampNeg)
    | _ => none
  | .invokespecial k => match st with
    | .ref _ :: r => if bn_ml (bn_c mi) k = some (4, 0) ∧ bn_ct r ≤ 8 ∧ 1 ≤ bn_f mi ∧ 26 ≤ bn_l mi then some (pc + 3, ls, r, h) else none
    | _ => none
  | .invokestatic k => match bn_ml (bn_c mi) k with
    | some (5, _) => match st with
      | .int n :: .int dp :: .ref q :: .int sp :: .ref p :: r => if bn_ct r ≤ 8 ∧ 1 ≤ bn_f mi ∧ 26 ≤ bn_l mi then (bn_cp h p sp q dp n).map fun h' => (pc + 3, ls, r, h') else none
      | _ => none
    | some (6, _) => match st with
      | .int y :: .int x :: r => if bn_ct r ≤ 8 ∧ 1 ≤ bn_f mi ∧ 26 ≤ bn_l mi then some (pc + 3, ls, .int (if x < y then y else x) :: r, h) else none
      | _ => none
    | some (7, _) => match st with
      | .int y :: .int x :: r => if bn_ct r ≤ 8 ∧ 1 ≤ bn_f mi ∧ 26 ≤ bn_l mi then some (pc + 3, ls, .int (if y < x then y else x) :: r, h) else none
      | _ => none
    | _ => none
  | _ => none
def bn_sl (vs : List Value) : bn_L := vs.flatMap fun v => if v.category = 2 then [some v, none] else [some v]
def bn_en (mj : Nat) (vs : List Value) : bn_L := bn_sl vs ++ List.replicate (bn_m mj - (bn_sl vs).length) none
/-- a return -/
def bn_rt (mi : Nat) (i : Instr) (st : List Value) : Option (Option Value) := match i with
  | .return_ => match st with
    | [] => if bn_r mi = none then some none else none
    | _ => none
  | .ireturn => match st with
    | [.int v] => if bn_r mi = some .int ∨ (bn_r mi = some .boolean ∧ (v = 0 ∨ v = 1)) then some (some (.int v)) else none
    | _ => none
  | .lreturn => match st with
    | [.long v] => if bn_r mi = some .long then some (some (.long v)) else none
    | _ => none
  | _ => none
/-- a call: the method, its arguments, the rest of the stack -/
def bn_k (mi : Nat) (i : Instr) (st : List Value) (h : bn_H) : Option (Nat × List Value × List Value) := match i with
  | .invokevirtual k => (bn_ml (bn_c mi) k).bind fun q => match st.drop (bn_p q.2) with
    | .ref b :: r => if q.1 = 0 ∧ (st.take (bn_p q.2)).length = bn_p q.2 ∧ bn_isC h b (bn_c q.2) = true ∧ bn_ct r ≤ 8 ∧ (bn_sl (.ref b :: (st.take (bn_p q.2)).reverse)).length ≤ bn_m q.2 ∧ bn_f q.2 + 1 ≤ bn_f mi ∧ 8 + (bn_m q.2 + 11) + bn_l q.2 ≤ bn_l mi then some (q.2, .ref b :: (st.take (bn_p q.2)).reverse, r) else none
    | _ => none
  | .invokespecial k => (bn_ml (bn_c mi) k).bind fun q => match st.drop (bn_p q.2) with
    | .ref b :: r => if (q.1 = 2 ∨ q.1 = 3) ∧ (st.take (bn_p q.2)).length = bn_p q.2 ∧ bn_ct r ≤ 8 ∧ (bn_sl (.ref b :: (st.take (bn_p q.2)).reverse)).length ≤ bn_m q.2 ∧ bn_f q.2 + 1 ≤ bn_f mi ∧ 8 + (bn_m q.2 + 11) + bn_l q.2 ≤ bn_l mi then some (q.2, .ref b :: (st.take (bn_p q.2)).reverse, r) else none
    | _ => none
  | .invokestatic k => (bn_ml (bn_c mi) k).bind fun q =>
      if q.1 = 1 ∧ (st.take (bn_p q.2)).length = bn_p q.2 ∧ bn_ct (st.drop (bn_p q.2)) ≤ 8 ∧ (bn_sl (st.take (bn_p q.2)).reverse).length ≤ bn_m q.2 ∧ bn_f q.2 + 1 ≤ bn_f mi ∧ 8 + (bn_m q.2 + 11) + bn_l q.2 ≤ bn_l mi then some (q.2, (st.take (bn_p q.2)).reverse, st.drop (bn_p q.2)) else none
  | _ => none
/-- one instruction, what follows by k -/
def bn_F (k : Nat → Nat → bn_L → List Value → bn_H → bn_R) (mi pc : Nat) (ls : bn_L) (st : List Value) (h : bn_H) : bn_R := match decode (bn_b mi) pc with
  | .error _ => none
  | .ok (i, len) => if len = bn_ln i len then
      match bn_rt mi i st with
      | some r => some (r, h)
      | none => match bn_k mi i st h with
        | some (mj, as, r) => (k mj 0 (bn_en mj as) [] h).bind fun a => if bn_okr (bn_r mj) a.1 = true then k mi (pc + 3) ls (a.1.toList ++ r) a.2 else none
        | none => (bn_x mi i pc ls st h).bind fun a => k mi a.1 a.2.1 a.2.2.1 a.2.2.2
    else none
def bn_go : Nat → Nat → Nat → bn_L → List Value → bn_H → bn_R
  | 0, _, _, _, _, _ => none
  | n + 1, mi, pc, ls, st, h => bn_F (bn_go n) mi pc ls st h
theorem bn_F_mono {k k' : Nat → Nat → bn_L → List Value → bn_H → bn_R} (hk : ∀ mi pc ls st h x, k mi pc ls st h = some x → k' mi pc ls st h = some x) {mi pc : Nat} {ls : bn_L} {st : List Value} {h : bn_H} {x : Option Value × bn_H} (e : bn_F k mi pc ls st h = some x) : bn_F k' mi pc ls st h = some x := by
  unfold bn_F at e ⊢
  split at e
  · cases e
  · split at e
    · rename_i hl
      rw [if_pos hl]
      split at e
      · exact e
      · split at e
        · obtain ⟨a, h1, h2⟩ := Option.bind_eq_some_iff.mp e
          rw [hk _ _ _ _ _ _ h1]
          split at h2
          · rename_i ho
            show (if bn_okr _ a.1 = true then _ else _) = _
            rw [if_pos ho]
            exact hk _ _ _ _ _ _ h2
          · cases h2
        · obtain ⟨a, h1, h2⟩ := Option.bind_eq_some_iff.mp e
          rw [h1]
          exact hk _ _ _ _ _ _ h2
    · cases e
theorem bn_go_1 (n : Nat) : ∀ mi pc ls st h x, bn_go n mi pc ls st h = some x → bn_go (n + 1) mi pc ls st h = some x := by
  induction n with
  | zero => intro mi pc ls st h x e; cases e
  | succ n ih => intro mi pc ls st h x e; exact bn_F_mono ih e
theorem bn_go_le {n k : Nat} (hn : n ≤ k) {mi pc : Nat} {ls : bn_L} {st : List Value} {h : bn_H} {x : Option Value × bn_H} (e : bn_go n mi pc ls st h = some x) : bn_go k mi pc ls st h = some x := by
  obtain ⟨d, rfl⟩ := Nat.exists_eq_add_of_le hn
  induction d with
  | zero => exact e
  | succ d ih => exact bn_go_1 _ _ _ _ _ _ _ (ih (by omega))
/-- the value of the walk, where it ends -/
noncomputable def bn_ev (mi pc : Nat) (ls : bn_L) (st : List Value) (h : bn_H) : bn_R := @dite _ (∃ x, ∃ n, bn_go n mi pc ls st h = some x) (Classical.propDecidable _) (fun e => some (Classical.choose e)) (fun _ => none)
theorem bn_ev_of {n mi pc : Nat} {ls : bn_L} {st : List Value} {h : bn_H} {x : Option Value × bn_H} (e : bn_go n mi pc ls st h = some x) : bn_ev mi pc ls st h = some x := by
  have hx : ∃ x, ∃ n, bn_go n mi pc ls st h = some x := ⟨x, n, e⟩
  unfold bn_ev
  rw [dif_pos hx]
  obtain ⟨k, hk⟩ := Classical.choose_spec hx
  have h1 := bn_go_le (Nat.le_add_right n k) e
  have h2 := bn_go_le (Nat.le_add_left k n) hk
  rw [h1] at h2
  exact h2.symm
theorem bn_ev_go {mi pc : Nat} {ls : bn_L} {st : List Value} {h : bn_H} {x : Option Value × bn_H} (e : bn_ev mi pc ls st h = some x) : ∃ n, bn_go n mi pc ls st h = some x := by
  unfold bn_ev at e
  split at e
  · rename_i hx
    rw [← Option.some.inj e]
    exact Classical.choose_spec hx
  · cases e
theorem bn_ev_eq (mi pc : Nat) (ls : bn_L) (st : List Value) (h : bn_H) : bn_ev mi pc ls st h = bn_F bn_ev mi pc ls st h := by
  apply Option.ext
  intro x
  constructor
  · intro e
    obtain ⟨n, hn⟩ := bn_ev_go e
    cases n with
    | zero => cases hn
    | succ n => exact bn_F_mono (fun _ _ _ _ _ _ h => bn_ev_of h) hn
  · intro e
    have key : ∃ n, bn_F (bn_go n) mi pc ls st h = some x := by
      unfold bn_F at e ⊢
      split at e
      · cases e
      · split at e
        · rename_i hl
          simp only [if_pos hl]
          split at e
          · exact ⟨0, e⟩
          · split at e
            · obtain ⟨a, h1, h2⟩ := Option.bind_eq_some_iff.mp e
              obtain ⟨n1, h1⟩ := bn_ev_go h1
              split at h2
              · rename_i ho
                obtain ⟨n2, h2⟩ := bn_ev_go h2
                refine ⟨n1 + n2, ?_⟩
                rw [bn_go_le (Nat.le_add_right n1 n2) h1]
                show (if bn_okr _ a.1 = true then _ else _) = _
                rw [if_pos ho]
                exact bn_go_le (Nat.le_add_left n2 n1) h2
              · cases h2
            · obtain ⟨a, h1, h2⟩ := Option.bind_eq_some_iff.mp e
              obtain ⟨n2, h2⟩ := bn_ev_go h2
              refine ⟨n2, ?_⟩
              rw [h1]
              exact h2
        · cases e
    obtain ⟨n, hn⟩ := key
    exact bn_ev_of (n := n + 1) hn
end
section
/-! THE WALK'S WORLD: cell k lies at the address G.1 + k -/
abbrev bn_G : Type := Nat × Nat × va_G × (Nat → ClassId)
def bn_cv (G : bn_G) (v : Value) : Value := match v with
  | .ref k => .ref (G.1 + k)
  | .retAddr _ => .ref G.2.1
  | v => v
def bn_ca (G : bn_G) (a : vp_A) : vp_A := match a with
  | (n, .inr (.inr (.inr (.inr f)))) => (n, .inr (.inr (.inr (.inr (fun j => (f j).map (fun k => G.1 + k))))))
  | a => a
def bn_ce (G : bn_G) (e : bn_E) : va_E := match e with
  | .inl a => .inl (G.2.2.2 a.1, bn_ca G a.2)
  | .inr o => .inr (o.1, o.2.map (bn_cv G))
def bn_wl (G : bn_G) (h : bn_H) : va_W := (List.range h.2.1).map (fun k => (G.1 + k, bn_ce G (h.2.2.2 k)))
def bn_A (G : bn_G) : Nat → Prop := fun q => G.1 ≤ q
def bn_W (s : State) (G : bn_G) (h : bn_H) (H : Heap) (locs : List Loc) : Prop := va_P G.2.2.1 bn_cl (bn_wl G h) H ∧ va_D (bn_A G) (bn_wl G h) ∧ va_S (bn_A G) s.heap H locs
def bn_tys (G : bn_G) : List (ClassId × FieldType) := [(G.2.2.2 0, .int), (G.2.2.2 1, .boolean), (G.2.2.2 2, .long), (G.2.2.2 3, .object RX0)]
/-- what the tables say that isn't a word of every list: nest mates' constructors, the array class of Siege -/
def bn_NL : List (String × Nat × MethodName) := [(RX2, 11, yX1_init), (RX2, 18, yX0_init)]
def bn_X (U : State) : Prop := va_AO RX0 U ∧ ∀ q ∈ bn_NL, va_Nw (.methodLinkNest q.1 q.2.1 q.2.2 "BreadNumbered") U
def bn_TT : List Cond := lw_tbl.filter goodWord
def bn_Cx (p : Program) (R : Room) (s : State) (m : MethodId) (args : Array Value) (meth : Method) (c : Code) (mi : Nat) (G : bn_G) (sc : Nat × (Nat → Int32)) : Prop :=
  p.tables.exec = Jvm.exec ∧ c.code = bn_b mi ∧ c.maxLocals = bn_m mi ∧ s.vm.findClass (bn_cn (bn_c mi)) = some m.cls ∧ (∀ w ∈ bn_TT, w.before args s = true) ∧ (bn_i mi = true → meth.name = "<init>") ∧ bn_f mi ≤ R.frames ∧ bn_l mi ≤ R.locals ∧ va_K G.2.2.1 bn_cl (bn_tys G) s ∧ bn_X s ∧ va_X G.2.1 sc.1 sc.2 s s.heap ∧ G.2.1 < G.1 ∧ G.1 ≤ s.heap.size
def bn_LV (G : bn_G) (nL : Nat) (A : Array Slot) (ls : bn_L) : Prop := A.size = nL ∧ lv_wf A ∧ ∀ (i : Nat) (v : Value), bn_get ls i = some v → A[i]? = some (.val (bn_cv G v))
theorem bn_cv_cat (G : bn_G) (v : Value) : (bn_cv G v).category = v.category := by cases v <;> rfl
theorem bn_ct_cv (G : bn_G) (st : List Value) : ((st.map (bn_cv G)).map fun v => v.category).sum = bn_ct st := by
  unfold bn_ct
  rw [List.map_map]
  congr 1
  exact List.map_congr_left (fun v _ => bn_cv_cat G v)
theorem bn_wl_get {G : bn_G} {h : bn_H} {p : Nat} {e : bn_E} (hg : bn_g h p = some e) : (bn_wl G h)[p]? = some (G.1 + p, bn_ce G e) := by
  unfold bn_g at hg
  split at hg
  · rename_i hp
    cases hg
    unfold bn_wl
    rw [List.getElem?_map, List.getElem?_range hp]
    rfl
  · cases hg
theorem bn_wl_set {G : bn_G} {h : bn_H} {p : Nat} {e0 e : bn_E} (hg : bn_g h p = some e0) : (bn_wl G h).set p (G.1 + p, bn_ce G e) = bn_wl G (bn_u h p e) := by
  have hp : p < h.2.1 := by
    unfold bn_g at hg
    split at hg
    · assumption
    · cases hg
  apply List.ext_getElem?
  intro i
  unfold bn_wl bn_u
  rw [List.getElem?_set]
  by_cases hi : i < h.2.1
  · by_cases hpi : p = i
    · subst hpi
      simp [hi, va_up]
    · have hip : ¬ i = p := fun q => hpi q.symm
      simp [hi, va_up, hpi, hip]
  · have h1 : p ≠ i := fun q => hi (q ▸ hp)
    simp [hi, h1]
theorem bn_wl_app {G : bn_G} {h : bn_H} {e : bn_E} {z : Nat} : bn_wl G h ++ [(G.1 + h.2.1, bn_ce G e)] = bn_wl G (bn_n h e z) := by
  unfold bn_wl bn_n
  rw [List.range_succ, List.map_append]
  congr 1
  · exact List.map_congr_left (fun k hk => by
      have := List.mem_range.mp hk
      simp [va_up, Nat.ne_of_lt this])
  · simp [va_up]
theorem bn_low {s : State} {G : bn_G} {h : bn_H} {H : Heap} {locs : List Loc} {n0 : Nat} (hW : bn_W s G h H locs) (hs : s.heap.size = G.1 + n0) (hn : n0 ≤ h.2.1) : G.1 + h.2.1 ≤ H.size := by
  rcases Nat.lt_or_ge n0 h.2.1 with h1 | h1
  · have hg : bn_g h (h.2.1 - 1) = some (h.2.2.2 (h.2.1 - 1)) := by
      unfold bn_g
      rw [if_pos (by omega)]
    have := (hW.1 _ _ (bn_wl_get (G := G) hg)).lt
    dsimp only at this
    omega
  · have := hW.2.2.1
    omega
theorem bn_TT_mem {i : Nat} {w : Cond} (h : lw_tbl[i]? = some w) (hg : goodWord w = true) : w ∈ bn_TT := List.mem_filter.mpr ⟨List.mem_of_getElem? h, hg⟩
theorem bn_TT_good : ∀ w ∈ bn_TT, goodWord w = true := fun w h => (List.mem_filter.mp h).2
/-! the tables -/
def bn_okF (r : Nat × Nat × Nat × Nat × Nat) : Bool := decide (lw_tbl[r.2.2.2.2]? = some (.fieldLink (bn_cn r.1) r.2.1 (bn_cn r.2.2.1) (bn_T r.2.2.1 r.2.2.2.1).2.1 (bn_T r.2.2.1 r.2.2.2.1).2.2.1)) && (goodWord (.fieldLink (bn_cn r.1) r.2.1 (bn_cn r.2.2.1) (bn_T r.2.2.1 r.2.2.2.1).2.1 (bn_T r.2.2.1 r.2.2.2.1).2.2.1) && (decide (r.2.2.2.1 < bn_N r.2.2.1) && (decide ((bn_T r.2.2.1 r.2.2.2.1).1 = bn_cn r.2.2.1) && decide (r.2.2.1 < 4))))
set_option maxRecDepth 100000 in
theorem bn_FL_ok : bn_FL.all bn_okF = true := by decide +kernel
theorem bn_fl_ok {c idx : Nat} {q : Nat × Nat} (h : bn_fl c idx = some q) : .fieldLink (bn_cn c) idx (bn_cn q.1) (bn_T q.1 q.2).2.1 (bn_T q.1 q.2).2.2.1 ∈ bn_TT ∧ q.2 < bn_N q.1 ∧ (bn_T q.1 q.2).1 = bn_cn q.1 ∧ q.1 < 4 := by
  unfold bn_fl at h
  obtain ⟨r, h1, rfl⟩ := Option.map_eq_some_iff.mp h
  have h2 := List.find?_some h1
  have h3 := List.all_eq_true.mp bn_FL_ok r (List.mem_of_find?_eq_some h1)
  simp only [Bool.and_eq_true, beq_iff_eq] at h2
  obtain ⟨rfl, rfl⟩ := h2
  simp only [bn_okF, Bool.and_eq_true, decide_eq_true_eq] at h3
  exact ⟨bn_TT_mem h3.1 h3.2.1, h3.2.2.1, h3.2.2.2.1, h3.2.2.2.2⟩
/-- of a called method: its code, its class, its parameters -/
def bn_PY (j : Nat) : Prop := Cond.code (bn_y j) (bn_b j) (bn_m j) (bn_r j) ∈ lw_tbl ∧ Cond.initialized (bn_y j).cls ∈ lw_tbl ∧ (bn_y j).cls = bn_cn (bn_c j) ∧ (parseMethodDescriptor (bn_y j).desc).map (fun d => d.parameters.length) = some (bn_p j) ∧ bn_c j < 6
set_option maxRecDepth 100000 in
theorem bn_Y_0 : bn_PY 0 := ⟨List.mem_of_getElem? (i := 76) rfl, List.mem_of_getElem? (i := 41) rfl, rfl, by decide +kernel, by decide⟩
set_option maxRecDepth 100000 in
theorem bn_Y_1 : bn_PY 1 := ⟨List.mem_of_getElem? (i := 210) rfl, List.mem_of_getElem? (i := 41) rfl, rfl, by decide +kernel, by decide⟩
set_option maxRecDepth 100000 in
theorem bn_Y_2 : bn_PY 2 := ⟨List.mem_of_getElem? (i := 218) rfl, List.mem_of_getElem? (i := 41) rfl, rfl, by decide +kernel, by decide⟩
set_option maxRecDepth 100000 in
theorem bn_Y_3 : bn_PY 3 := ⟨List.mem_of_getElem? (i := 240) rfl, List.mem_of_getElem? (i := 41) rfl, rfl, by decide +kernel, by decide⟩
set_option maxRecDepth 100000 in
theorem bn_Y_4 : bn_PY 4 := ⟨List.mem_of_getElem? (i := 248) rfl, List.mem_of_getElem? (i := 41) rfl, rfl, by decide +kernel, by decide⟩
set_option maxRecDepth 100000 in
theorem bn_Y_5 : bn_PY 5 := ⟨List.mem_of_getElem? (i := 263) rfl, List.mem_of_getElem? (i := 41) rfl, rfl, by decide +kernel, by decide⟩
set_option maxRecDepth 100000 in
theorem bn_Y_6 : bn_PY 6 := ⟨List.mem_of_getElem? (i := 279) rfl, List.mem_of_getElem? (i := 41) rfl, rfl, by decide +kernel, by decide⟩
set_option maxRecDepth 100000 in
theorem bn_Y_7 : bn_PY 7 := ⟨List.mem_of_getElem? (i := 267) rfl, List.mem_of_getElem? (i := 41) rfl, rfl, by decide +kernel, by decide⟩
set_option maxRecDepth 100000 in
theorem bn_Y_8 : bn_PY 8 := ⟨List.mem_of_getElem? (i := 283) rfl, List.mem_of_getElem? (i := 41) rfl, rfl, by decide +kernel, by decide⟩
set_option maxRecDepth 100000 in
theorem bn_Y_9 : bn_PY 9 := ⟨List.mem_of_getElem? (i := 301) rfl, List.mem_of_getElem? (i := 41) rfl, rfl, by decide +kernel, by decide⟩
set_option maxRecDepth 100000 in
theorem bn_Y_10 : bn_PY 10 := ⟨List.mem_of_getElem? (i := 354) rfl, List.mem_of_getElem? (i := 41) rfl, rfl, by decide +kernel, by decide⟩
set_option maxRecDepth 100000 in
theorem bn_Y_11 : bn_PY 11 := ⟨List.mem_of_getElem? (i := 350) rfl, List.mem_of_getElem? (i := 41) rfl, rfl, by decide +kernel, by decide⟩
set_option maxRecDepth 100000 in
theorem bn_Y_12 : bn_PY 12 := ⟨List.mem_of_getElem? (i := 366) rfl, List.mem_of_getElem? (i := 41) rfl, rfl, by decide +kernel, by decide⟩
set_option maxRecDepth 100000 in
theorem bn_Y_13 : bn_PY 13 := ⟨List.mem_of_getElem? (i := 271) rfl, List.mem_of_getElem? (i := 41) rfl, rfl, by decide +kernel, by decide⟩
set_option maxRecDepth 100000 in
theorem bn_Y_14 : bn_PY 14 := ⟨List.mem_of_getElem? (i := 374) rfl, List.mem_of_getElem? (i := 41) rfl, rfl, by decide +kernel, by decide⟩
set_option maxRecDepth 100000 in
theorem bn_Y_15 : bn_PY 15 := ⟨List.mem_of_getElem? (i := 370) rfl, List.mem_of_getElem? (i := 41) rfl, rfl, by decide +kernel, by decide⟩
set_option maxRecDepth 100000 in
theorem bn_Y_16 : bn_PY 16 := ⟨List.mem_of_getElem? (i := 378) rfl, List.mem_of_getElem? (i := 41) rfl, rfl, by decide +kernel, by decide⟩
set_option maxRecDepth 100000 in
theorem bn_Y_17 : bn_PY 17 := ⟨List.mem_of_getElem? (i := 471) rfl, List.mem_of_getElem? (i := 41) rfl, rfl, by decide +kernel, by decide⟩
set_option maxRecDepth 100000 in
theorem bn_Y_18 : bn_PY 18 := ⟨List.mem_of_getElem? (i := 475) rfl, List.mem_of_getElem? (i := 41) rfl, rfl, by decide +kernel, by decide⟩
set_option maxRecDepth 100000 in
theorem bn_Y_19 : bn_PY 19 := ⟨List.mem_of_getElem? (i := 236) rfl, List.mem_of_getElem? (i := 41) rfl, rfl, by decide +kernel, by decide⟩
set_option maxRecDepth 100000 in
theorem bn_Y_20 : bn_PY 20 := ⟨List.mem_of_getElem? (i := 435) rfl, List.mem_of_getElem? (i := 41) rfl, rfl, by decide +kernel, by decide⟩
set_option maxRecDepth 100000 in
theorem bn_Y_21 : bn_PY 21 := ⟨List.mem_of_getElem? (i := 479) rfl, List.mem_of_getElem? (i := 41) rfl, rfl, by decide +kernel, by decide⟩
set_option maxRecDepth 100000 in
theorem bn_Y_22 : bn_PY 22 := ⟨List.mem_of_getElem? (i := 291) rfl, List.mem_of_getElem? (i := 41) rfl, rfl, by decide +kernel, by decide⟩
set_option maxRecDepth 100000 in
theorem bn_Y_23 : bn_PY 23 := ⟨List.mem_of_getElem? (i := 297) rfl, List.mem_of_getElem? (i := 41) rfl, rfl, by decide +kernel, by decide⟩
set_option maxRecDepth 100000 in
theorem bn_Y_24 : bn_PY 24 := ⟨List.mem_of_getElem? (i := 313) rfl, List.mem_of_getElem? (i := 41) rfl, rfl, by decide +kernel, by decide⟩
set_option maxRecDepth 100000 in
theorem bn_Y_25 : bn_PY 25 := ⟨List.mem_of_getElem? (i := 335) rfl, List.mem_of_getElem? (i := 41) rfl, rfl, by decide +kernel, by decide⟩
set_option maxRecDepth 100000 in
theorem bn_Y_26 : bn_PY 26 := ⟨List.mem_of_getElem? (i := 339) rfl, List.mem_of_getElem? (i := 41) rfl, rfl, by decide +kernel, by decide⟩
set_option maxRecDepth 100000 in
theorem bn_Y_27 : bn_PY 27 := ⟨List.mem_of_getElem? (i := 398) rfl, List.mem_of_getElem? (i := 41) rfl, rfl, by decide +kernel, by decide⟩
set_option maxRecDepth 100000 in
theorem bn_Y_28 : bn_PY 28 := ⟨List.mem_of_getElem? (i := 402) rfl, List.mem_of_getElem? (i := 41) rfl, rfl, by decide +kernel, by decide⟩
set_option maxRecDepth 100000 in
theorem bn_Y_29 : bn_PY 29 := ⟨List.mem_of_getElem? (i := 416) rfl, List.mem_of_getElem? (i := 41) rfl, rfl, by decide +kernel, by decide⟩
set_option maxRecDepth 100000 in
theorem bn_Y_30 : bn_PY 30 := ⟨List.mem_of_getElem? (i := 423) rfl, List.mem_of_getElem? (i := 41) rfl, rfl, by decide +kernel, by decide⟩
set_option maxRecDepth 100000 in
theorem bn_Y_31 : bn_PY 31 := ⟨List.mem_of_getElem? (i := 427) rfl, List.mem_of_getElem? (i := 41) rfl, rfl, by decide +kernel, by decide⟩
set_option maxRecDepth 100000 in
theorem bn_Y_32 : bn_PY 32 := ⟨List.mem_of_getElem? (i := 58) rfl, List.mem_of_getElem? (i := 40) rfl, rfl, by decide +kernel, by decide⟩
set_option maxRecDepth 100000 in
theorem bn_Y_33 : bn_PY 33 := ⟨List.mem_of_getElem? (i := 174) rfl, List.mem_of_getElem? (i := 40) rfl, rfl, by decide +kernel, by decide⟩
set_option maxRecDepth 100000 in
theorem bn_Y_34 : bn_PY 34 := ⟨List.mem_of_getElem? (i := 186) rfl, List.mem_of_getElem? (i := 40) rfl, rfl, by decide +kernel, by decide⟩
set_option maxRecDepth 100000 in
theorem bn_Y_35 : bn_PY 35 := ⟨List.mem_of_getElem? (i := 190) rfl, List.mem_of_getElem? (i := 40) rfl, rfl, by decide +kernel, by decide⟩
set_option maxRecDepth 100000 in
theorem bn_Y_36 : bn_PY 36 := ⟨List.mem_of_getElem? (i := 214) rfl, List.mem_of_getElem? (i := 40) rfl, rfl, by decide +kernel, by decide⟩
set_option maxRecDepth 100000 in
theorem bn_Y_37 : bn_PY 37 := ⟨List.mem_of_getElem? (i := 222) rfl, List.mem_of_getElem? (i := 40) rfl, rfl, by decide +kernel, by decide⟩
set_option maxRecDepth 100000 in
theorem bn_Y_38 : bn_PY 38 := ⟨List.mem_of_getElem? (i := 226) rfl, List.mem_of_getElem? (i := 40) rfl, rfl, by decide +kernel, by decide⟩
set_option maxRecDepth 100000 in
theorem bn_Y_39 : bn_PY 39 := ⟨List.mem_of_getElem? (i := 229) rfl, List.mem_of_getElem? (i := 40) rfl, rfl, by decide +kernel, by decide⟩
set_option maxRecDepth 100000 in
theorem bn_Y_40 : bn_PY 40 := ⟨List.mem_of_getElem? (i := 232) rfl, List.mem_of_getElem? (i := 40) rfl, rfl, by decide +kernel, by decide⟩
set_option maxRecDepth 100000 in
theorem bn_Y_41 : bn_PY 41 := ⟨List.mem_of_getElem? (i := 194) rfl, List.mem_of_getElem? (i := 40) rfl, rfl, by decide +kernel, by decide⟩
set_option maxRecDepth 100000 in
theorem bn_Y_42 : bn_PY 42 := ⟨List.mem_of_getElem? (i := 198) rfl, List.mem_of_getElem? (i := 40) rfl, rfl, by decide +kernel, by decide⟩
set_option maxRecDepth 100000 in
theorem bn_Y_43 : bn_PY 43 := ⟨List.mem_of_getElem? (i := 202) rfl, List.mem_of_getElem? (i := 40) rfl, rfl, by decide +kernel, by decide⟩
set_option maxRecDepth 100000 in
theorem bn_Y_44 : bn_PY 44 := ⟨List.mem_of_getElem? (i := 206) rfl, List.mem_of_getElem? (i := 40) rfl, rfl, by decide +kernel, by decide⟩
set_option maxRecDepth 100000 in
theorem bn_Y_45 : bn_PY 45 := ⟨List.mem_of_getElem? (i := 50) rfl, List.mem_of_getElem? (i := 39) rfl, rfl, by decide +kernel, by decide⟩
set_option maxRecDepth 100000 in
theorem bn_Y_46 : bn_PY 46 := ⟨List.mem_of_getElem? (i := 170) rfl, List.mem_of_getElem? (i := 39) rfl, rfl, by decide +kernel, by decide⟩
set_option maxRecDepth 100000 in
theorem bn_Y_47 : bn_PY 47 := ⟨List.mem_of_getElem? (i := 178) rfl, List.mem_of_getElem? (i := 39) rfl, rfl, by decide +kernel, by decide⟩
set_option maxRecDepth 100000 in
theorem bn_Y_48 : bn_PY 48 := ⟨List.mem_of_getElem? (i := 182) rfl, List.mem_of_getElem? (i := 39) rfl, rfl, by decide +kernel, by decide⟩
set_option maxRecDepth 100000 in
theorem bn_Y_49 : bn_PY 49 := ⟨List.mem_of_getElem? (i := 244) rfl, List.mem_of_getElem? (i := 39) rfl, rfl, by decide +kernel, by decide⟩
set_option maxRecDepth 100000 in
theorem bn_Y_50 : bn_PY 50 := ⟨List.mem_of_getElem? (i := 259) rfl, List.mem_of_getElem? (i := 39) rfl, rfl, by decide +kernel, by decide⟩
set_option maxRecDepth 100000 in
theorem bn_Y_51 : bn_PY 51 := ⟨List.mem_of_getElem? (i := 275) rfl, List.mem_of_getElem? (i := 39) rfl, rfl, by decide +kernel, by decide⟩
set_option maxRecDepth 100000 in
theorem bn_Y_52 : bn_PY 52 := ⟨List.mem_of_getElem? (i := 287) rfl, List.mem_of_getElem? (i := 39) rfl, rfl, by decide +kernel, by decide⟩
set_option maxRecDepth 100000 in
theorem bn_Y_53 : bn_PY 53 := ⟨List.mem_of_getElem? (i := 305) rfl, List.mem_of_getElem? (i := 39) rfl, rfl, by decide +kernel, by decide⟩
set_option maxRecDepth 100000 in
theorem bn_Y_54 : bn_PY 54 := ⟨List.mem_of_getElem? (i := 317) rfl, List.mem_of_getElem? (i := 39) rfl, rfl, by decide +kernel, by decide⟩
set_option maxRecDepth 100000 in
theorem bn_Y_55 : bn_PY 55 := ⟨List.mem_of_getElem? (i := 321) rfl, List.mem_of_getElem? (i := 39) rfl, rfl, by decide +kernel, by decide⟩
set_option maxRecDepth 100000 in
theorem bn_Y_56 : bn_PY 56 := ⟨List.mem_of_getElem? (i := 331) rfl, List.mem_of_getElem? (i := 39) rfl, rfl, by decide +kernel, by decide⟩
set_option maxRecDepth 100000 in
theorem bn_Y_57 : bn_PY 57 := ⟨List.mem_of_getElem? (i := 346) rfl, List.mem_of_getElem? (i := 39) rfl, rfl, by decide +kernel, by decide⟩
set_option maxRecDepth 100000 in
theorem bn_Y_58 : bn_PY 58 := ⟨List.mem_of_getElem? (i := 382) rfl, List.mem_of_getElem? (i := 39) rfl, rfl, by decide +kernel, by decide⟩
set_option maxRecDepth 100000 in
theorem bn_Y_59 : bn_PY 59 := ⟨List.mem_of_getElem? (i := 386) rfl, List.mem_of_getElem? (i := 39) rfl, rfl, by decide +kernel, by decide⟩
set_option maxRecDepth 100000 in
theorem bn_Y_60 : bn_PY 60 := ⟨List.mem_of_getElem? (i := 390) rfl, List.mem_of_getElem? (i := 39) rfl, rfl, by decide +kernel, by decide⟩
set_option maxRecDepth 100000 in
theorem bn_Y_61 : bn_PY 61 := ⟨List.mem_of_getElem? (i := 408) rfl, List.mem_of_getElem? (i := 39) rfl, rfl, by decide +kernel, by decide⟩
set_option maxRecDepth 100000 in
theorem bn_Y_62 : bn_PY 62 := ⟨List.mem_of_getElem? (i := 412) rfl, List.mem_of_getElem? (i := 39) rfl, rfl, by decide +kernel, by decide⟩
set_option maxRecDepth 100000 in
theorem bn_Y_63 : bn_PY 63 := ⟨List.mem_of_getElem? (i := 431) rfl, List.mem_of_getElem? (i := 39) rfl, rfl, by decide +kernel, by decide⟩
set_option maxRecDepth 100000 in
theorem bn_Y_64 : bn_PY 64 := ⟨List.mem_of_getElem? (i := 440) rfl, List.mem_of_getElem? (i := 39) rfl, rfl, by decide +kernel, by decide⟩
set_option maxRecDepth 100000 in
theorem bn_Y_65 : bn_PY 65 := ⟨List.mem_of_getElem? (i := 451) rfl, List.mem_of_getElem? (i := 39) rfl, rfl, by decide +kernel, by decide⟩
set_option maxRecDepth 100000 in
theorem bn_Y_66 : bn_PY 66 := ⟨List.mem_of_getElem? (i := 458) rfl, List.mem_of_getElem? (i := 39) rfl, rfl, by decide +kernel, by decide⟩
set_option maxRecDepth 100000 in
theorem bn_Y_67 : bn_PY 67 := ⟨List.mem_of_getElem? (i := 462) rfl, List.mem_of_getElem? (i := 39) rfl, rfl, by decide +kernel, by decide⟩
set_option maxRecDepth 100000 in
theorem bn_Y_68 : bn_PY 68 := ⟨List.mem_of_getElem? (i := 466) rfl, List.mem_of_getElem? (i := 39) rfl, rfl, by decide +kernel, by decide⟩
set_option maxRecDepth 100000 in
theorem bn_Y_69 : bn_PY 69 := ⟨List.mem_of_getElem? (i := 309) rfl, List.mem_of_getElem? (i := 39) rfl, rfl, by decide +kernel, by decide⟩
set_option maxRecDepth 100000 in
theorem bn_Y_70 : bn_PY 70 := ⟨List.mem_of_getElem? (i := 255) rfl, List.mem_of_getElem? (i := 39) rfl, rfl, by decide +kernel, by decide⟩
set_option maxRecDepth 100000 in
theorem bn_Y_71 : bn_PY 71 := ⟨List.mem_of_getElem? (i := 394) rfl, List.mem_of_getElem? (i := 39) rfl, rfl, by decide +kernel, by decide⟩
set_option maxRecDepth 100000 in
theorem bn_Y_72 : bn_PY 72 := ⟨List.mem_of_getElem? (i := 324) rfl, List.mem_of_getElem? (i := 39) rfl, rfl, by decide +kernel, by decide⟩
set_option maxRecDepth 100000 in
theorem bn_Y_73 : bn_PY 73 := ⟨List.mem_of_getElem? (i := 327) rfl, List.mem_of_getElem? (i := 39) rfl, rfl, by decide +kernel, by decide⟩
set_option maxRecDepth 100000 in
theorem bn_Y_74 : bn_PY 74 := ⟨List.mem_of_getElem? (i := 443) rfl, List.mem_of_getElem? (i := 39) rfl, rfl, by decide +kernel, by decide⟩
set_option maxRecDepth 100000 in
theorem bn_Y_75 : bn_PY 75 := ⟨List.mem_of_getElem? (i := 446) rfl, List.mem_of_getElem? (i := 39) rfl, rfl, by decide +kernel, by decide⟩
set_option maxRecDepth 100000 in
theorem bn_Y_76 : bn_PY 76 := ⟨List.mem_of_getElem? (i := 486) rfl, List.mem_of_getElem? (i := 42) rfl, rfl, by decide +kernel, by decide⟩
set_option maxRecDepth 100000 in
theorem bn_Y_77 : bn_PY 77 := ⟨List.mem_of_getElem? (i := 584) rfl, List.mem_of_getElem? (i := 42) rfl, rfl, by decide +kernel, by decide⟩
set_option maxRecDepth 100000 in
theorem bn_Y_78 : bn_PY 78 := ⟨List.mem_of_getElem? (i := 580) rfl, List.mem_of_getElem? (i := 42) rfl, rfl, by decide +kernel, by decide⟩
set_option maxRecDepth 100000 in
theorem bn_Y_79 : bn_PY 79 := ⟨List.mem_of_getElem? (i := 589) rfl, List.mem_of_getElem? (i := 42) rfl, rfl, by decide +kernel, by decide⟩
set_option maxRecDepth 100000 in
theorem bn_Y_80 : bn_PY 80 := ⟨List.mem_of_getElem? (i := 601) rfl, List.mem_of_getElem? (i := 42) rfl, rfl, by decide +kernel, by decide⟩
set_option maxRecDepth 100000 in
theorem bn_Y_81 : bn_PY 81 := ⟨List.mem_of_getElem? (i := 610) rfl, List.mem_of_getElem? (i := 42) rfl, rfl, by decide +kernel, by decide⟩
set_option maxRecDepth 100000 in
theorem bn_Y_82 : bn_PY 82 := ⟨List.mem_of_getElem? (i := 597) rfl, List.mem_of_getElem? (i := 42) rfl, rfl, by decide +kernel, by decide⟩
set_option maxRecDepth 100000 in
theorem bn_Y_83 : bn_PY 83 := ⟨List.mem_of_getElem? (i := 606) rfl, List.mem_of_getElem? (i := 42) rfl, rfl, by decide +kernel, by decide⟩
set_option maxRecDepth 100000 in
theorem bn_Y_84 : bn_PY 84 := ⟨List.mem_of_getElem? (i := 593) rfl, List.mem_of_getElem? (i := 42) rfl, rfl, by decide +kernel, by decide⟩
set_option maxRecDepth 100000 in
theorem bn_Y_85 : bn_PY 85 := ⟨List.mem_of_getElem? (i := 614) rfl, List.mem_of_getElem? (i := 42) rfl, rfl, by decide +kernel, by decide⟩
set_option maxRecDepth 100000 in
theorem bn_Y_86 : bn_PY 86 := ⟨List.mem_of_getElem? (i := 622) rfl, List.mem_of_getElem? (i := 42) rfl, rfl, by decide +kernel, by decide⟩
set_option maxRecDepth 100000 in
theorem bn_Y_87 : bn_PY 87 := ⟨List.mem_of_getElem? (i := 638) rfl, List.mem_of_getElem? (i := 42) rfl, rfl, by decide +kernel, by decide⟩
set_option maxRecDepth 100000 in
theorem bn_Y_88 : bn_PY 88 := ⟨List.mem_of_getElem? (i := 654) rfl, List.mem_of_getElem? (i := 42) rfl, rfl, by decide +kernel, by decide⟩
set_option maxRecDepth 100000 in
theorem bn_Y_89 : bn_PY 89 := ⟨List.mem_of_getElem? (i := 630) rfl, List.mem_of_getElem? (i := 42) rfl, rfl, by decide +kernel, by decide⟩
set_option maxRecDepth 100000 in
theorem bn_Y_90 : bn_PY 90 := ⟨List.mem_of_getElem? (i := 642) rfl, List.mem_of_getElem? (i := 42) rfl, rfl, by decide +kernel, by decide⟩
set_option maxRecDepth 100000 in
theorem bn_Y_91 : bn_PY 91 := ⟨List.mem_of_getElem? (i := 626) rfl, List.mem_of_getElem? (i := 42) rfl, rfl, by decide +kernel, by decide⟩
set_option maxRecDepth 100000 in
theorem bn_Y_92 : bn_PY 92 := ⟨List.mem_of_getElem? (i := 618) rfl, List.mem_of_getElem? (i := 42) rfl, rfl, by decide +kernel, by decide⟩
set_option maxRecDepth 100000 in
theorem bn_Y_93 : bn_PY 93 := ⟨List.mem_of_getElem? (i := 634) rfl, List.mem_of_getElem? (i := 42) rfl, rfl, by decide +kernel, by decide⟩
set_option maxRecDepth 100000 in
theorem bn_Y_94 : bn_PY 94 := ⟨List.mem_of_getElem? (i := 662) rfl, List.mem_of_getElem? (i := 42) rfl, rfl, by decide +kernel, by decide⟩
set_option maxRecDepth 100000 in
theorem bn_Y_95 : bn_PY 95 := ⟨List.mem_of_getElem? (i := 650) rfl, List.mem_of_getElem? (i := 42) rfl, rfl, by decide +kernel, by decide⟩
set_option maxRecDepth 100000 in
theorem bn_Y_96 : bn_PY 96 := ⟨List.mem_of_getElem? (i := 646) rfl, List.mem_of_getElem? (i := 42) rfl, rfl, by decide +kernel, by decide⟩
set_option maxRecDepth 100000 in
theorem bn_Y_97 : bn_PY 97 := ⟨List.mem_of_getElem? (i := 666) rfl, List.mem_of_getElem? (i := 42) rfl, rfl, by decide +kernel, by decide⟩
set_option maxRecDepth 100000 in
theorem bn_Y_98 : bn_PY 98 := ⟨List.mem_of_getElem? (i := 658) rfl, List.mem_of_getElem? (i := 42) rfl, rfl, by decide +kernel, by decide⟩
set_option maxRecDepth 100000 in
theorem bn_Y_99 : bn_PY 99 := ⟨List.mem_of_getElem? (i := 670) rfl, List.mem_of_getElem? (i := 42) rfl, rfl, by decide +kernel, by decide⟩
set_option maxRecDepth 100000 in
theorem bn_Y_100 : bn_PY 100 := ⟨List.mem_of_getElem? (i := 677) rfl, List.mem_of_getElem? (i := 42) rfl, rfl, by decide +kernel, by decide⟩
set_option maxRecDepth 100000 in
theorem bn_Y_101 : bn_PY 101 := ⟨List.mem_of_getElem? (i := 674) rfl, List.mem_of_getElem? (i := 42) rfl, rfl, by decide +kernel, by decide⟩
set_option maxRecDepth 100000 in
theorem bn_Y_102 : bn_PY 102 := ⟨List.mem_of_getElem? (i := 685) rfl, List.mem_of_getElem? (i := 42) rfl, rfl, by decide +kernel, by decide⟩
set_option maxRecDepth 100000 in
theorem bn_Y_103 : bn_PY 103 := ⟨List.mem_of_getElem? (i := 681) rfl, List.mem_of_getElem? (i := 42) rfl, rfl, by decide +kernel, by decide⟩
set_option maxRecDepth 100000 in
theorem bn_Y_104 : bn_PY 104 := ⟨List.mem_of_getElem? (i := 693) rfl, List.mem_of_getElem? (i := 42) rfl, rfl, by decide +kernel, by decide⟩
set_option maxRecDepth 100000 in
theorem bn_Y_105 : bn_PY 105 := ⟨List.mem_of_getElem? (i := 698) rfl, List.mem_of_getElem? (i := 42) rfl, rfl, by decide +kernel, by decide⟩
set_option maxRecDepth 100000 in
theorem bn_Y_106 : bn_PY 106 := ⟨List.mem_of_getElem? (i := 701) rfl, List.mem_of_getElem? (i := 42) rfl, rfl, by decide +kernel, by decide⟩
set_option maxRecDepth 100000 in
theorem bn_Y_107 : bn_PY 107 := ⟨List.mem_of_getElem? (i := 689) rfl, List.mem_of_getElem? (i := 42) rfl, rfl, by decide +kernel, by decide⟩
set_option maxRecDepth 100000 in
theorem bn_Y_108 : bn_PY 108 := ⟨List.mem_of_getElem? (i := 705) rfl, List.mem_of_getElem? (i := 42) rfl, rfl, by decide +kernel, by decide⟩
set_option maxRecDepth 100000 in
theorem bn_Y_109 : bn_PY 109 := ⟨List.mem_of_getElem? (i := 709) rfl, List.mem_of_getElem? (i := 42) rfl, rfl, by decide +kernel, by decide⟩
set_option maxRecDepth 100000 in
theorem bn_Y_110 : bn_PY 110 := ⟨List.mem_of_getElem? (i := 721) rfl, List.mem_of_getElem? (i := 42) rfl, rfl, by decide +kernel, by decide⟩
set_option maxRecDepth 100000 in
theorem bn_Y_111 : bn_PY 111 := ⟨List.mem_of_getElem? (i := 717) rfl, List.mem_of_getElem? (i := 42) rfl, rfl, by decide +kernel, by decide⟩
set_option maxRecDepth 100000 in
theorem bn_Y_112 : bn_PY 112 := ⟨List.mem_of_getElem? (i := 713) rfl, List.mem_of_getElem? (i := 42) rfl, rfl, by decide +kernel, by decide⟩
set_option maxRecDepth 100000 in
theorem bn_Y_113 : bn_PY 113 := ⟨List.mem_of_getElem? (i := 725) rfl, List.mem_of_getElem? (i := 42) rfl, rfl, by decide +kernel, by decide⟩
set_option maxRecDepth 100000 in
theorem bn_Y_114 : bn_PY 114 := ⟨List.mem_of_getElem? (i := 733) rfl, List.mem_of_getElem? (i := 42) rfl, rfl, by decide +kernel, by decide⟩
set_option maxRecDepth 100000 in
theorem bn_Y_115 : bn_PY 115 := ⟨List.mem_of_getElem? (i := 736) rfl, List.mem_of_getElem? (i := 42) rfl, rfl, by decide +kernel, by decide⟩
set_option maxRecDepth 100000 in
theorem bn_Y_116 : bn_PY 116 := ⟨List.mem_of_getElem? (i := 744) rfl, List.mem_of_getElem? (i := 42) rfl, rfl, by decide +kernel, by decide⟩
set_option maxRecDepth 100000 in
theorem bn_Y_117 : bn_PY 117 := ⟨List.mem_of_getElem? (i := 729) rfl, List.mem_of_getElem? (i := 42) rfl, rfl, by decide +kernel, by decide⟩
set_option maxRecDepth 100000 in
theorem bn_Y_118 : bn_PY 118 := ⟨List.mem_of_getElem? (i := 740) rfl, List.mem_of_getElem? (i := 42) rfl, rfl, by decide +kernel, by decide⟩
set_option maxRecDepth 100000 in
theorem bn_Y_119 : bn_PY 119 := ⟨List.mem_of_getElem? (i := 752) rfl, List.mem_of_getElem? (i := 42) rfl, rfl, by decide +kernel, by decide⟩
set_option maxRecDepth 100000 in
theorem bn_Y_120 : bn_PY 120 := ⟨List.mem_of_getElem? (i := 756) rfl, List.mem_of_getElem? (i := 42) rfl, rfl, by decide +kernel, by decide⟩
set_option maxRecDepth 100000 in
theorem bn_Y_121 : bn_PY 121 := ⟨List.mem_of_getElem? (i := 748) rfl, List.mem_of_getElem? (i := 42) rfl, rfl, by decide +kernel, by decide⟩
set_option maxRecDepth 100000 in
theorem bn_Y_122 : bn_PY 122 := ⟨List.mem_of_getElem? (i := 765) rfl, List.mem_of_getElem? (i := 42) rfl, rfl, by decide +kernel, by decide⟩
set_option maxRecDepth 100000 in
theorem bn_Y_123 : bn_PY 123 := ⟨List.mem_of_getElem? (i := 760) rfl, List.mem_of_getElem? (i := 42) rfl, rfl, by decide +kernel, by decide⟩
set_option maxRecDepth 100000 in
theorem bn_Y_124 : bn_PY 124 := ⟨List.mem_of_getElem? (i := 774) rfl, List.mem_of_getElem? (i := 42) rfl, rfl, by decide +kernel, by decide⟩
set_option maxRecDepth 100000 in
theorem bn_Y_125 : bn_PY 125 := ⟨List.mem_of_getElem? (i := 769) rfl, List.mem_of_getElem? (i := 42) rfl, rfl, by decide +kernel, by decide⟩
set_option maxRecDepth 100000 in
theorem bn_Y_126 : bn_PY 126 := ⟨List.mem_of_getElem? (i := 778) rfl, List.mem_of_getElem? (i := 42) rfl, rfl, by decide +kernel, by decide⟩
set_option maxRecDepth 100000 in
theorem bn_Y_127 : bn_PY 127 := ⟨List.mem_of_getElem? (i := 782) rfl, List.mem_of_getElem? (i := 42) rfl, rfl, by decide +kernel, by decide⟩
set_option maxRecDepth 100000 in
theorem bn_Y_128 : bn_PY 128 := ⟨List.mem_of_getElem? (i := 786) rfl, List.mem_of_getElem? (i := 42) rfl, rfl, by decide +kernel, by decide⟩
set_option maxRecDepth 100000 in
theorem bn_Y_129 : bn_PY 129 := ⟨List.mem_of_getElem? (i := 357) rfl, List.mem_of_getElem? (i := 45) rfl, rfl, by decide +kernel, by decide⟩
def bn_PM (r : Nat × Nat × Nat × Nat × Nat) : Prop := match r with
  | (c, idx, 0, j, _) => bn_PY j ∧ Cond.methodLink (bn_cn c) idx (bn_y j) ∈ lw_tbl ∧ Cond.instanceMethod (bn_y j) ∈ lw_tbl ∧ Cond.selects (bn_y j).cls (bn_y j) (bn_y j) ∈ lw_tbl ∧ bn_c j < 4
  | (c, idx, 1, j, _) => bn_PY j ∧ Cond.methodLink (bn_cn c) idx (bn_y j) ∈ lw_tbl ∧ Cond.static (bn_y j) ∈ lw_tbl
  | (c, idx, 2, j, _) => bn_PY j ∧ Cond.methodLink (bn_cn c) idx (bn_y j) ∈ lw_tbl ∧ Cond.instanceMethod (bn_y j) ∈ lw_tbl ∧ (bn_y j).name = "<init>" ∧ bn_r j = none
  | (c, idx, 3, j, _) => bn_PY j ∧ (bn_cn c, idx, bn_y j) ∈ bn_NL ∧ Cond.instanceMethod (bn_y j) ∈ lw_tbl ∧ (bn_y j).name = "<init>" ∧ bn_r j = none
  | (c, idx, 4, _, _) => Cond.methodLink (bn_cn c) idx Lib.objectInit ∈ lw_tbl
  | (c, idx, 5, _, _) => Cond.methodLink (bn_cn c) idx arraycopyName ∈ lw_tbl
  | (c, idx, 6, _, _) => Cond.methodLink (bn_cn c) idx Lib.Math.max.name ∈ lw_tbl
  | (c, idx, 7, _, _) => Cond.methodLink (bn_cn c) idx Lib.Math.min.name ∈ lw_tbl
  | _ => False
set_option maxRecDepth 100000 in
theorem bn_M_0 : bn_PM (4, 9, 2, 45, 48) := ⟨bn_Y_45, List.mem_of_getElem? (i := 48) rfl, List.mem_of_getElem? (i := 49) rfl, rfl, rfl⟩
set_option maxRecDepth 100000 in
theorem bn_M_1 : bn_PM (2, 3, 4, 0, 51) := List.mem_of_getElem? (i := 51) rfl
set_option maxRecDepth 100000 in
theorem bn_M_2 : bn_PM (2, 11, 3, 32, 56) := ⟨bn_Y_32, List.mem_of_getElem? (i := 0) rfl, List.mem_of_getElem? (i := 57) rfl, rfl, rfl⟩
set_option maxRecDepth 100000 in
theorem bn_M_3 : bn_PM (1, 3, 4, 0, 59) := List.mem_of_getElem? (i := 59) rfl
set_option maxRecDepth 100000 in
theorem bn_M_4 : bn_PM (2, 18, 3, 0, 74) := ⟨bn_Y_0, List.mem_of_getElem? (i := 1) rfl, List.mem_of_getElem? (i := 75) rfl, rfl, rfl⟩
set_option maxRecDepth 100000 in
theorem bn_M_5 : bn_PM (0, 3, 4, 0, 77) := List.mem_of_getElem? (i := 77) rfl
set_option maxRecDepth 100000 in
theorem bn_M_6 : bn_PM (4, 15, 0, 46, 167) := ⟨bn_Y_46, List.mem_of_getElem? (i := 167) rfl, List.mem_of_getElem? (i := 168) rfl, List.mem_of_getElem? (i := 169) rfl, by decide⟩
set_option maxRecDepth 100000 in
theorem bn_M_7 : bn_PM (2, 47, 0, 33, 171) := ⟨bn_Y_33, List.mem_of_getElem? (i := 171) rfl, List.mem_of_getElem? (i := 172) rfl, List.mem_of_getElem? (i := 173) rfl, by decide⟩
set_option maxRecDepth 100000 in
theorem bn_M_8 : bn_PM (4, 20, 0, 47, 175) := ⟨bn_Y_47, List.mem_of_getElem? (i := 175) rfl, List.mem_of_getElem? (i := 176) rfl, List.mem_of_getElem? (i := 177) rfl, by decide⟩
set_option maxRecDepth 100000 in
theorem bn_M_9 : bn_PM (4, 25, 0, 48, 179) := ⟨bn_Y_48, List.mem_of_getElem? (i := 179) rfl, List.mem_of_getElem? (i := 180) rfl, List.mem_of_getElem? (i := 181) rfl, by decide⟩
set_option maxRecDepth 100000 in
theorem bn_M_10 : bn_PM (2, 51, 0, 34, 183) := ⟨bn_Y_34, List.mem_of_getElem? (i := 183) rfl, List.mem_of_getElem? (i := 184) rfl, List.mem_of_getElem? (i := 185) rfl, by decide⟩
set_option maxRecDepth 100000 in
theorem bn_M_11 : bn_PM (1, 22, 0, 35, 187) := ⟨bn_Y_35, List.mem_of_getElem? (i := 187) rfl, List.mem_of_getElem? (i := 189) rfl, List.mem_of_getElem? (i := 0) rfl, by decide⟩
set_option maxRecDepth 100000 in
theorem bn_M_12 : bn_PM (1, 36, 0, 41, 191) := ⟨bn_Y_41, List.mem_of_getElem? (i := 191) rfl, List.mem_of_getElem? (i := 193) rfl, List.mem_of_getElem? (i := 1) rfl, by decide⟩
set_option maxRecDepth 100000 in
theorem bn_M_13 : bn_PM (1, 26, 0, 42, 195) := ⟨bn_Y_42, List.mem_of_getElem? (i := 195) rfl, List.mem_of_getElem? (i := 197) rfl, List.mem_of_getElem? (i := 2) rfl, by decide⟩
set_option maxRecDepth 100000 in
theorem bn_M_14 : bn_PM (1, 39, 0, 43, 199) := ⟨bn_Y_43, List.mem_of_getElem? (i := 199) rfl, List.mem_of_getElem? (i := 201) rfl, List.mem_of_getElem? (i := 3) rfl, by decide⟩
set_option maxRecDepth 100000 in
theorem bn_M_15 : bn_PM (1, 69, 0, 44, 203) := ⟨bn_Y_44, List.mem_of_getElem? (i := 203) rfl, List.mem_of_getElem? (i := 205) rfl, List.mem_of_getElem? (i := 4) rfl, by decide⟩
set_option maxRecDepth 100000 in
theorem bn_M_16 : bn_PM (1, 43, 0, 1, 207) := ⟨bn_Y_1, List.mem_of_getElem? (i := 207) rfl, List.mem_of_getElem? (i := 208) rfl, List.mem_of_getElem? (i := 209) rfl, by decide⟩
set_option maxRecDepth 100000 in
theorem bn_M_17 : bn_PM (1, 30, 0, 36, 211) := ⟨bn_Y_36, List.mem_of_getElem? (i := 211) rfl, List.mem_of_getElem? (i := 213) rfl, List.mem_of_getElem? (i := 5) rfl, by decide⟩
set_option maxRecDepth 100000 in
theorem bn_M_18 : bn_PM (1, 55, 0, 2, 215) := ⟨bn_Y_2, List.mem_of_getElem? (i := 215) rfl, List.mem_of_getElem? (i := 216) rfl, List.mem_of_getElem? (i := 217) rfl, by decide⟩
set_option maxRecDepth 100000 in
theorem bn_M_19 : bn_PM (1, 33, 0, 37, 219) := ⟨bn_Y_37, List.mem_of_getElem? (i := 219) rfl, List.mem_of_getElem? (i := 221) rfl, List.mem_of_getElem? (i := 6) rfl, by decide⟩
set_option maxRecDepth 100000 in
theorem bn_M_20 : bn_PM (1, 62, 0, 38, 223) := ⟨bn_Y_38, List.mem_of_getElem? (i := 223) rfl, List.mem_of_getElem? (i := 225) rfl, List.mem_of_getElem? (i := 7) rfl, by decide⟩
set_option maxRecDepth 100000 in
theorem bn_M_21 : bn_PM (1, 73, 1, 39, 227) := ⟨bn_Y_39, List.mem_of_getElem? (i := 227) rfl, List.mem_of_getElem? (i := 228) rfl⟩
set_option maxRecDepth 100000 in
theorem bn_M_22 : bn_PM (1, 77, 1, 40, 230) := ⟨bn_Y_40, List.mem_of_getElem? (i := 230) rfl, List.mem_of_getElem? (i := 231) rfl⟩
set_option maxRecDepth 100000 in
theorem bn_M_23 : bn_PM (1, 80, 0, 19, 233) := ⟨bn_Y_19, List.mem_of_getElem? (i := 233) rfl, List.mem_of_getElem? (i := 234) rfl, List.mem_of_getElem? (i := 235) rfl, by decide⟩
set_option maxRecDepth 100000 in
theorem bn_M_24 : bn_PM (1, 66, 0, 3, 237) := ⟨bn_Y_3, List.mem_of_getElem? (i := 237) rfl, List.mem_of_getElem? (i := 238) rfl, List.mem_of_getElem? (i := 239) rfl, by decide⟩
set_option maxRecDepth 100000 in
theorem bn_M_25 : bn_PM (4, 29, 0, 49, 241) := ⟨bn_Y_49, List.mem_of_getElem? (i := 241) rfl, List.mem_of_getElem? (i := 242) rfl, List.mem_of_getElem? (i := 243) rfl, by decide⟩
set_option maxRecDepth 100000 in
theorem bn_M_26 : bn_PM (2, 59, 0, 4, 245) := ⟨bn_Y_4, List.mem_of_getElem? (i := 245) rfl, List.mem_of_getElem? (i := 246) rfl, List.mem_of_getElem? (i := 247) rfl, by decide⟩
set_option maxRecDepth 100000 in
theorem bn_M_27 : bn_PM (0, 60, 5, 0, 249) := List.mem_of_getElem? (i := 249) rfl
set_option maxRecDepth 100000 in
theorem bn_M_28 : bn_PM (2, 63, 0, 70, 252) := ⟨bn_Y_70, List.mem_of_getElem? (i := 252) rfl, List.mem_of_getElem? (i := 254) rfl, List.mem_of_getElem? (i := 8) rfl, by decide⟩
set_option maxRecDepth 100000 in
theorem bn_M_29 : bn_PM (4, 33, 0, 50, 256) := ⟨bn_Y_50, List.mem_of_getElem? (i := 256) rfl, List.mem_of_getElem? (i := 257) rfl, List.mem_of_getElem? (i := 258) rfl, by decide⟩
set_option maxRecDepth 100000 in
theorem bn_M_30 : bn_PM (2, 72, 0, 5, 260) := ⟨bn_Y_5, List.mem_of_getElem? (i := 260) rfl, List.mem_of_getElem? (i := 261) rfl, List.mem_of_getElem? (i := 262) rfl, by decide⟩
set_option maxRecDepth 100000 in
theorem bn_M_31 : bn_PM (2, 80, 0, 7, 264) := ⟨bn_Y_7, List.mem_of_getElem? (i := 264) rfl, List.mem_of_getElem? (i := 265) rfl, List.mem_of_getElem? (i := 266) rfl, by decide⟩
set_option maxRecDepth 100000 in
theorem bn_M_32 : bn_PM (2, 86, 0, 13, 268) := ⟨bn_Y_13, List.mem_of_getElem? (i := 268) rfl, List.mem_of_getElem? (i := 269) rfl, List.mem_of_getElem? (i := 270) rfl, by decide⟩
set_option maxRecDepth 100000 in
theorem bn_M_33 : bn_PM (4, 38, 0, 51, 272) := ⟨bn_Y_51, List.mem_of_getElem? (i := 272) rfl, List.mem_of_getElem? (i := 273) rfl, List.mem_of_getElem? (i := 274) rfl, by decide⟩
set_option maxRecDepth 100000 in
theorem bn_M_34 : bn_PM (2, 93, 0, 6, 276) := ⟨bn_Y_6, List.mem_of_getElem? (i := 276) rfl, List.mem_of_getElem? (i := 277) rfl, List.mem_of_getElem? (i := 278) rfl, by decide⟩
set_option maxRecDepth 100000 in
theorem bn_M_35 : bn_PM (2, 105, 0, 8, 280) := ⟨bn_Y_8, List.mem_of_getElem? (i := 280) rfl, List.mem_of_getElem? (i := 281) rfl, List.mem_of_getElem? (i := 282) rfl, by decide⟩
set_option maxRecDepth 100000 in
theorem bn_M_36 : bn_PM (4, 42, 0, 52, 284) := ⟨bn_Y_52, List.mem_of_getElem? (i := 284) rfl, List.mem_of_getElem? (i := 285) rfl, List.mem_of_getElem? (i := 286) rfl, by decide⟩
set_option maxRecDepth 100000 in
theorem bn_M_37 : bn_PM (2, 114, 0, 22, 288) := ⟨bn_Y_22, List.mem_of_getElem? (i := 288) rfl, List.mem_of_getElem? (i := 289) rfl, List.mem_of_getElem? (i := 290) rfl, by decide⟩
set_option maxRecDepth 100000 in
theorem bn_M_38 : bn_PM (0, 66, 0, 7, 292) := ⟨bn_Y_7, List.mem_of_getElem? (i := 292) rfl, List.mem_of_getElem? (i := 265) rfl, List.mem_of_getElem? (i := 266) rfl, by decide⟩
set_option maxRecDepth 100000 in
theorem bn_M_39 : bn_PM (0, 87, 0, 8, 293) := ⟨bn_Y_8, List.mem_of_getElem? (i := 293) rfl, List.mem_of_getElem? (i := 281) rfl, List.mem_of_getElem? (i := 282) rfl, by decide⟩
set_option maxRecDepth 100000 in
theorem bn_M_40 : bn_PM (0, 102, 0, 23, 294) := ⟨bn_Y_23, List.mem_of_getElem? (i := 294) rfl, List.mem_of_getElem? (i := 296) rfl, List.mem_of_getElem? (i := 9) rfl, by decide⟩
set_option maxRecDepth 100000 in
theorem bn_M_41 : bn_PM (0, 80, 0, 9, 298) := ⟨bn_Y_9, List.mem_of_getElem? (i := 298) rfl, List.mem_of_getElem? (i := 299) rfl, List.mem_of_getElem? (i := 300) rfl, by decide⟩
set_option maxRecDepth 100000 in
theorem bn_M_42 : bn_PM (4, 46, 0, 53, 302) := ⟨bn_Y_53, List.mem_of_getElem? (i := 302) rfl, List.mem_of_getElem? (i := 303) rfl, List.mem_of_getElem? (i := 304) rfl, by decide⟩
set_option maxRecDepth 100000 in
theorem bn_M_43 : bn_PM (2, 118, 0, 69, 306) := ⟨bn_Y_69, List.mem_of_getElem? (i := 306) rfl, List.mem_of_getElem? (i := 308) rfl, List.mem_of_getElem? (i := 10) rfl, by decide⟩
set_option maxRecDepth 100000 in
theorem bn_M_44 : bn_PM (2, 121, 0, 24, 310) := ⟨bn_Y_24, List.mem_of_getElem? (i := 310) rfl, List.mem_of_getElem? (i := 311) rfl, List.mem_of_getElem? (i := 312) rfl, by decide⟩
set_option maxRecDepth 100000 in
theorem bn_M_45 : bn_PM (4, 50, 0, 54, 314) := ⟨bn_Y_54, List.mem_of_getElem? (i := 314) rfl, List.mem_of_getElem? (i := 315) rfl, List.mem_of_getElem? (i := 316) rfl, by decide⟩
set_option maxRecDepth 100000 in
theorem bn_M_46 : bn_PM (4, 54, 0, 55, 318) := ⟨bn_Y_55, List.mem_of_getElem? (i := 318) rfl, List.mem_of_getElem? (i := 319) rfl, List.mem_of_getElem? (i := 320) rfl, by decide⟩
set_option maxRecDepth 100000 in
theorem bn_M_47 : bn_PM (2, 125, 1, 72, 322) := ⟨bn_Y_72, List.mem_of_getElem? (i := 322) rfl, List.mem_of_getElem? (i := 323) rfl⟩
set_option maxRecDepth 100000 in
theorem bn_M_48 : bn_PM (2, 128, 1, 73, 325) := ⟨bn_Y_73, List.mem_of_getElem? (i := 325) rfl, List.mem_of_getElem? (i := 326) rfl⟩
set_option maxRecDepth 100000 in
theorem bn_M_49 : bn_PM (4, 59, 0, 56, 328) := ⟨bn_Y_56, List.mem_of_getElem? (i := 328) rfl, List.mem_of_getElem? (i := 329) rfl, List.mem_of_getElem? (i := 330) rfl, by decide⟩
set_option maxRecDepth 100000 in
theorem bn_M_50 : bn_PM (2, 131, 0, 25, 332) := ⟨bn_Y_25, List.mem_of_getElem? (i := 332) rfl, List.mem_of_getElem? (i := 333) rfl, List.mem_of_getElem? (i := 334) rfl, by decide⟩
set_option maxRecDepth 100000 in
theorem bn_M_51 : bn_PM (0, 105, 0, 26, 336) := ⟨bn_Y_26, List.mem_of_getElem? (i := 336) rfl, List.mem_of_getElem? (i := 338) rfl, List.mem_of_getElem? (i := 11) rfl, by decide⟩
set_option maxRecDepth 100000 in
theorem bn_M_52 : bn_PM (0, 109, 7, 0, 340) := List.mem_of_getElem? (i := 340) rfl
set_option maxRecDepth 100000 in
theorem bn_M_53 : bn_PM (4, 63, 0, 57, 343) := ⟨bn_Y_57, List.mem_of_getElem? (i := 343) rfl, List.mem_of_getElem? (i := 344) rfl, List.mem_of_getElem? (i := 345) rfl, by decide⟩
set_option maxRecDepth 100000 in
theorem bn_M_54 : bn_PM (2, 135, 0, 11, 347) := ⟨bn_Y_11, List.mem_of_getElem? (i := 347) rfl, List.mem_of_getElem? (i := 348) rfl, List.mem_of_getElem? (i := 349) rfl, by decide⟩
set_option maxRecDepth 100000 in
theorem bn_M_55 : bn_PM (0, 70, 0, 10, 351) := ⟨bn_Y_10, List.mem_of_getElem? (i := 351) rfl, List.mem_of_getElem? (i := 352) rfl, List.mem_of_getElem? (i := 353) rfl, by decide⟩
set_option maxRecDepth 100000 in
theorem bn_M_56 : bn_PM (0, 74, 1, 129, 355) := ⟨bn_Y_129, List.mem_of_getElem? (i := 355) rfl, List.mem_of_getElem? (i := 356) rfl⟩
set_option maxRecDepth 100000 in
theorem bn_M_57 : bn_PM (2, 142, 0, 12, 363) := ⟨bn_Y_12, List.mem_of_getElem? (i := 363) rfl, List.mem_of_getElem? (i := 364) rfl, List.mem_of_getElem? (i := 365) rfl, by decide⟩
set_option maxRecDepth 100000 in
theorem bn_M_58 : bn_PM (2, 145, 0, 15, 367) := ⟨bn_Y_15, List.mem_of_getElem? (i := 367) rfl, List.mem_of_getElem? (i := 368) rfl, List.mem_of_getElem? (i := 369) rfl, by decide⟩
set_option maxRecDepth 100000 in
theorem bn_M_59 : bn_PM (0, 83, 0, 14, 371) := ⟨bn_Y_14, List.mem_of_getElem? (i := 371) rfl, List.mem_of_getElem? (i := 372) rfl, List.mem_of_getElem? (i := 373) rfl, by decide⟩
set_option maxRecDepth 100000 in
theorem bn_M_60 : bn_PM (2, 148, 0, 16, 375) := ⟨bn_Y_16, List.mem_of_getElem? (i := 375) rfl, List.mem_of_getElem? (i := 376) rfl, List.mem_of_getElem? (i := 377) rfl, by decide⟩
set_option maxRecDepth 100000 in
theorem bn_M_61 : bn_PM (4, 67, 0, 58, 379) := ⟨bn_Y_58, List.mem_of_getElem? (i := 379) rfl, List.mem_of_getElem? (i := 380) rfl, List.mem_of_getElem? (i := 381) rfl, by decide⟩
set_option maxRecDepth 100000 in
theorem bn_M_62 : bn_PM (4, 71, 0, 59, 383) := ⟨bn_Y_59, List.mem_of_getElem? (i := 383) rfl, List.mem_of_getElem? (i := 384) rfl, List.mem_of_getElem? (i := 385) rfl, by decide⟩
set_option maxRecDepth 100000 in
theorem bn_M_63 : bn_PM (4, 76, 0, 60, 387) := ⟨bn_Y_60, List.mem_of_getElem? (i := 387) rfl, List.mem_of_getElem? (i := 388) rfl, List.mem_of_getElem? (i := 389) rfl, by decide⟩
set_option maxRecDepth 100000 in
theorem bn_M_64 : bn_PM (2, 152, 0, 71, 391) := ⟨bn_Y_71, List.mem_of_getElem? (i := 391) rfl, List.mem_of_getElem? (i := 393) rfl, List.mem_of_getElem? (i := 12) rfl, by decide⟩
set_option maxRecDepth 100000 in
theorem bn_M_65 : bn_PM (2, 192, 0, 27, 395) := ⟨bn_Y_27, List.mem_of_getElem? (i := 395) rfl, List.mem_of_getElem? (i := 396) rfl, List.mem_of_getElem? (i := 397) rfl, by decide⟩
set_option maxRecDepth 100000 in
theorem bn_M_66 : bn_PM (0, 112, 0, 28, 399) := ⟨bn_Y_28, List.mem_of_getElem? (i := 399) rfl, List.mem_of_getElem? (i := 401) rfl, List.mem_of_getElem? (i := 13) rfl, by decide⟩
set_option maxRecDepth 100000 in
theorem bn_M_67 : bn_PM (0, 119, 0, 22, 403) := ⟨bn_Y_22, List.mem_of_getElem? (i := 403) rfl, List.mem_of_getElem? (i := 289) rfl, List.mem_of_getElem? (i := 290) rfl, by decide⟩
set_option maxRecDepth 100000 in
theorem bn_M_68 : bn_PM (0, 115, 0, 24, 404) := ⟨bn_Y_24, List.mem_of_getElem? (i := 404) rfl, List.mem_of_getElem? (i := 311) rfl, List.mem_of_getElem? (i := 312) rfl, by decide⟩
set_option maxRecDepth 100000 in
theorem bn_M_69 : bn_PM (4, 80, 0, 61, 405) := ⟨bn_Y_61, List.mem_of_getElem? (i := 405) rfl, List.mem_of_getElem? (i := 406) rfl, List.mem_of_getElem? (i := 407) rfl, by decide⟩
set_option maxRecDepth 100000 in
theorem bn_M_70 : bn_PM (4, 84, 0, 62, 409) := ⟨bn_Y_62, List.mem_of_getElem? (i := 409) rfl, List.mem_of_getElem? (i := 410) rfl, List.mem_of_getElem? (i := 411) rfl, by decide⟩
set_option maxRecDepth 100000 in
theorem bn_M_71 : bn_PM (2, 155, 0, 29, 413) := ⟨bn_Y_29, List.mem_of_getElem? (i := 413) rfl, List.mem_of_getElem? (i := 414) rfl, List.mem_of_getElem? (i := 415) rfl, by decide⟩
set_option maxRecDepth 100000 in
theorem bn_M_72 : bn_PM (0, 90, 6, 0, 417) := List.mem_of_getElem? (i := 417) rfl
set_option maxRecDepth 100000 in
theorem bn_M_73 : bn_PM (0, 122, 0, 30, 420) := ⟨bn_Y_30, List.mem_of_getElem? (i := 420) rfl, List.mem_of_getElem? (i := 422) rfl, List.mem_of_getElem? (i := 14) rfl, by decide⟩
set_option maxRecDepth 100000 in
theorem bn_M_74 : bn_PM (0, 125, 0, 31, 424) := ⟨bn_Y_31, List.mem_of_getElem? (i := 424) rfl, List.mem_of_getElem? (i := 426) rfl, List.mem_of_getElem? (i := 15) rfl, by decide⟩
set_option maxRecDepth 100000 in
theorem bn_M_75 : bn_PM (4, 88, 0, 63, 428) := ⟨bn_Y_63, List.mem_of_getElem? (i := 428) rfl, List.mem_of_getElem? (i := 429) rfl, List.mem_of_getElem? (i := 430) rfl, by decide⟩
set_option maxRecDepth 100000 in
theorem bn_M_76 : bn_PM (2, 158, 0, 20, 432) := ⟨bn_Y_20, List.mem_of_getElem? (i := 432) rfl, List.mem_of_getElem? (i := 433) rfl, List.mem_of_getElem? (i := 434) rfl, by decide⟩
set_option maxRecDepth 100000 in
theorem bn_M_77 : bn_PM (2, 161, 0, 19, 436) := ⟨bn_Y_19, List.mem_of_getElem? (i := 436) rfl, List.mem_of_getElem? (i := 234) rfl, List.mem_of_getElem? (i := 235) rfl, by decide⟩
set_option maxRecDepth 100000 in
theorem bn_M_78 : bn_PM (4, 92, 0, 64, 437) := ⟨bn_Y_64, List.mem_of_getElem? (i := 437) rfl, List.mem_of_getElem? (i := 438) rfl, List.mem_of_getElem? (i := 439) rfl, by decide⟩
set_option maxRecDepth 100000 in
theorem bn_M_79 : bn_PM (2, 164, 1, 74, 441) := ⟨bn_Y_74, List.mem_of_getElem? (i := 441) rfl, List.mem_of_getElem? (i := 442) rfl⟩
set_option maxRecDepth 100000 in
theorem bn_M_80 : bn_PM (2, 195, 1, 75, 444) := ⟨bn_Y_75, List.mem_of_getElem? (i := 444) rfl, List.mem_of_getElem? (i := 445) rfl⟩
set_option maxRecDepth 100000 in
theorem bn_M_81 : bn_PM (4, 97, 0, 65, 448) := ⟨bn_Y_65, List.mem_of_getElem? (i := 448) rfl, List.mem_of_getElem? (i := 449) rfl, List.mem_of_getElem? (i := 450) rfl, by decide⟩
set_option maxRecDepth 100000 in
theorem bn_M_82 : bn_PM (4, 102, 0, 66, 455) := ⟨bn_Y_66, List.mem_of_getElem? (i := 455) rfl, List.mem_of_getElem? (i := 456) rfl, List.mem_of_getElem? (i := 457) rfl, by decide⟩
set_option maxRecDepth 100000 in
theorem bn_M_83 : bn_PM (4, 106, 0, 67, 459) := ⟨bn_Y_67, List.mem_of_getElem? (i := 459) rfl, List.mem_of_getElem? (i := 460) rfl, List.mem_of_getElem? (i := 461) rfl, by decide⟩
set_option maxRecDepth 100000 in
theorem bn_M_84 : bn_PM (4, 110, 0, 68, 463) := ⟨bn_Y_68, List.mem_of_getElem? (i := 463) rfl, List.mem_of_getElem? (i := 464) rfl, List.mem_of_getElem? (i := 465) rfl, by decide⟩
set_option maxRecDepth 100000 in
theorem bn_M_85 : bn_PM (2, 177, 0, 10, 467) := ⟨bn_Y_10, List.mem_of_getElem? (i := 467) rfl, List.mem_of_getElem? (i := 352) rfl, List.mem_of_getElem? (i := 353) rfl, by decide⟩
set_option maxRecDepth 100000 in
theorem bn_M_86 : bn_PM (2, 180, 0, 17, 468) := ⟨bn_Y_17, List.mem_of_getElem? (i := 468) rfl, List.mem_of_getElem? (i := 469) rfl, List.mem_of_getElem? (i := 470) rfl, by decide⟩
set_option maxRecDepth 100000 in
theorem bn_M_87 : bn_PM (2, 183, 0, 18, 472) := ⟨bn_Y_18, List.mem_of_getElem? (i := 472) rfl, List.mem_of_getElem? (i := 473) rfl, List.mem_of_getElem? (i := 474) rfl, by decide⟩
set_option maxRecDepth 100000 in
theorem bn_M_88 : bn_PM (2, 186, 0, 21, 476) := ⟨bn_Y_21, List.mem_of_getElem? (i := 476) rfl, List.mem_of_getElem? (i := 477) rfl, List.mem_of_getElem? (i := 478) rfl, by decide⟩
set_option maxRecDepth 100000 in
theorem bn_M_89 : bn_PM (0, 96, 0, 20, 480) := ⟨bn_Y_20, List.mem_of_getElem? (i := 480) rfl, List.mem_of_getElem? (i := 433) rfl, List.mem_of_getElem? (i := 434) rfl, by decide⟩
set_option maxRecDepth 100000 in
theorem bn_M_90 : bn_PM (0, 99, 0, 19, 481) := ⟨bn_Y_19, List.mem_of_getElem? (i := 481) rfl, List.mem_of_getElem? (i := 234) rfl, List.mem_of_getElem? (i := 235) rfl, by decide⟩
set_option maxRecDepth 100000 in
theorem bn_M_91 : bn_PM (4, 12, 2, 76, 484) := ⟨bn_Y_76, List.mem_of_getElem? (i := 484) rfl, List.mem_of_getElem? (i := 485) rfl, rfl, rfl⟩
set_option maxRecDepth 100000 in
theorem bn_M_92 : bn_PM (3, 1, 4, 0, 487) := List.mem_of_getElem? (i := 487) rfl
set_option maxRecDepth 100000 in
theorem bn_M_93 : bn_PM (4, 19, 0, 78, 577) := ⟨bn_Y_78, List.mem_of_getElem? (i := 577) rfl, List.mem_of_getElem? (i := 578) rfl, List.mem_of_getElem? (i := 579) rfl, by decide⟩
set_option maxRecDepth 100000 in
theorem bn_M_94 : bn_PM (3, 57, 1, 77, 582) := ⟨bn_Y_77, List.mem_of_getElem? (i := 582) rfl, List.mem_of_getElem? (i := 583) rfl⟩
set_option maxRecDepth 100000 in
theorem bn_M_95 : bn_PM (4, 24, 0, 79, 586) := ⟨bn_Y_79, List.mem_of_getElem? (i := 586) rfl, List.mem_of_getElem? (i := 587) rfl, List.mem_of_getElem? (i := 588) rfl, by decide⟩
set_option maxRecDepth 100000 in
theorem bn_M_96 : bn_PM (4, 28, 0, 84, 590) := ⟨bn_Y_84, List.mem_of_getElem? (i := 590) rfl, List.mem_of_getElem? (i := 591) rfl, List.mem_of_getElem? (i := 592) rfl, by decide⟩
set_option maxRecDepth 100000 in
theorem bn_M_97 : bn_PM (3, 99, 0, 82, 594) := ⟨bn_Y_82, List.mem_of_getElem? (i := 594) rfl, List.mem_of_getElem? (i := 596) rfl, List.mem_of_getElem? (i := 16) rfl, by decide⟩
set_option maxRecDepth 100000 in
theorem bn_M_98 : bn_PM (3, 80, 0, 80, 598) := ⟨bn_Y_80, List.mem_of_getElem? (i := 598) rfl, List.mem_of_getElem? (i := 600) rfl, List.mem_of_getElem? (i := 17) rfl, by decide⟩
set_option maxRecDepth 100000 in
theorem bn_M_99 : bn_PM (3, 93, 0, 83, 603) := ⟨bn_Y_83, List.mem_of_getElem? (i := 603) rfl, List.mem_of_getElem? (i := 605) rfl, List.mem_of_getElem? (i := 18) rfl, by decide⟩
set_option maxRecDepth 100000 in
theorem bn_M_100 : bn_PM (3, 96, 0, 81, 607) := ⟨bn_Y_81, List.mem_of_getElem? (i := 607) rfl, List.mem_of_getElem? (i := 609) rfl, List.mem_of_getElem? (i := 19) rfl, by decide⟩
set_option maxRecDepth 100000 in
theorem bn_M_101 : bn_PM (4, 32, 0, 85, 611) := ⟨bn_Y_85, List.mem_of_getElem? (i := 611) rfl, List.mem_of_getElem? (i := 612) rfl, List.mem_of_getElem? (i := 613) rfl, by decide⟩
set_option maxRecDepth 100000 in
theorem bn_M_102 : bn_PM (4, 37, 0, 92, 615) := ⟨bn_Y_92, List.mem_of_getElem? (i := 615) rfl, List.mem_of_getElem? (i := 616) rfl, List.mem_of_getElem? (i := 617) rfl, by decide⟩
set_option maxRecDepth 100000 in
theorem bn_M_103 : bn_PM (3, 118, 0, 86, 619) := ⟨bn_Y_86, List.mem_of_getElem? (i := 619) rfl, List.mem_of_getElem? (i := 621) rfl, List.mem_of_getElem? (i := 20) rfl, by decide⟩
set_option maxRecDepth 100000 in
theorem bn_M_104 : bn_PM (3, 122, 0, 91, 623) := ⟨bn_Y_91, List.mem_of_getElem? (i := 623) rfl, List.mem_of_getElem? (i := 625) rfl, List.mem_of_getElem? (i := 21) rfl, by decide⟩
set_option maxRecDepth 100000 in
theorem bn_M_105 : bn_PM (3, 115, 0, 89, 627) := ⟨bn_Y_89, List.mem_of_getElem? (i := 627) rfl, List.mem_of_getElem? (i := 629) rfl, List.mem_of_getElem? (i := 22) rfl, by decide⟩
set_option maxRecDepth 100000 in
theorem bn_M_106 : bn_PM (4, 41, 0, 93, 631) := ⟨bn_Y_93, List.mem_of_getElem? (i := 631) rfl, List.mem_of_getElem? (i := 632) rfl, List.mem_of_getElem? (i := 633) rfl, by decide⟩
set_option maxRecDepth 100000 in
theorem bn_M_107 : bn_PM (3, 125, 0, 87, 635) := ⟨bn_Y_87, List.mem_of_getElem? (i := 635) rfl, List.mem_of_getElem? (i := 637) rfl, List.mem_of_getElem? (i := 23) rfl, by decide⟩
set_option maxRecDepth 100000 in
theorem bn_M_108 : bn_PM (3, 128, 0, 90, 639) := ⟨bn_Y_90, List.mem_of_getElem? (i := 639) rfl, List.mem_of_getElem? (i := 641) rfl, List.mem_of_getElem? (i := 24) rfl, by decide⟩
set_option maxRecDepth 100000 in
theorem bn_M_109 : bn_PM (4, 45, 0, 96, 643) := ⟨bn_Y_96, List.mem_of_getElem? (i := 643) rfl, List.mem_of_getElem? (i := 644) rfl, List.mem_of_getElem? (i := 645) rfl, by decide⟩
set_option maxRecDepth 100000 in
theorem bn_M_110 : bn_PM (3, 141, 0, 95, 647) := ⟨bn_Y_95, List.mem_of_getElem? (i := 647) rfl, List.mem_of_getElem? (i := 649) rfl, List.mem_of_getElem? (i := 25) rfl, by decide⟩
set_option maxRecDepth 100000 in
theorem bn_M_111 : bn_PM (3, 138, 0, 88, 651) := ⟨bn_Y_88, List.mem_of_getElem? (i := 651) rfl, List.mem_of_getElem? (i := 653) rfl, List.mem_of_getElem? (i := 26) rfl, by decide⟩
set_option maxRecDepth 100000 in
theorem bn_M_112 : bn_PM (4, 49, 0, 98, 655) := ⟨bn_Y_98, List.mem_of_getElem? (i := 655) rfl, List.mem_of_getElem? (i := 656) rfl, List.mem_of_getElem? (i := 657) rfl, by decide⟩
set_option maxRecDepth 100000 in
theorem bn_M_113 : bn_PM (3, 145, 0, 94, 659) := ⟨bn_Y_94, List.mem_of_getElem? (i := 659) rfl, List.mem_of_getElem? (i := 661) rfl, List.mem_of_getElem? (i := 27) rfl, by decide⟩
set_option maxRecDepth 100000 in
theorem bn_M_114 : bn_PM (3, 148, 0, 97, 663) := ⟨bn_Y_97, List.mem_of_getElem? (i := 663) rfl, List.mem_of_getElem? (i := 665) rfl, List.mem_of_getElem? (i := 28) rfl, by decide⟩
set_option maxRecDepth 100000 in
theorem bn_M_115 : bn_PM (4, 53, 0, 99, 667) := ⟨bn_Y_99, List.mem_of_getElem? (i := 667) rfl, List.mem_of_getElem? (i := 668) rfl, List.mem_of_getElem? (i := 669) rfl, by decide⟩
set_option maxRecDepth 100000 in
theorem bn_M_116 : bn_PM (4, 58, 0, 101, 671) := ⟨bn_Y_101, List.mem_of_getElem? (i := 671) rfl, List.mem_of_getElem? (i := 672) rfl, List.mem_of_getElem? (i := 673) rfl, by decide⟩
set_option maxRecDepth 100000 in
theorem bn_M_117 : bn_PM (3, 152, 1, 100, 675) := ⟨bn_Y_100, List.mem_of_getElem? (i := 675) rfl, List.mem_of_getElem? (i := 676) rfl⟩
set_option maxRecDepth 100000 in
theorem bn_M_118 : bn_PM (4, 62, 0, 103, 678) := ⟨bn_Y_103, List.mem_of_getElem? (i := 678) rfl, List.mem_of_getElem? (i := 679) rfl, List.mem_of_getElem? (i := 680) rfl, by decide⟩
set_option maxRecDepth 100000 in
theorem bn_M_119 : bn_PM (3, 155, 0, 102, 682) := ⟨bn_Y_102, List.mem_of_getElem? (i := 682) rfl, List.mem_of_getElem? (i := 684) rfl, List.mem_of_getElem? (i := 29) rfl, by decide⟩
set_option maxRecDepth 100000 in
theorem bn_M_120 : bn_PM (4, 66, 0, 107, 686) := ⟨bn_Y_107, List.mem_of_getElem? (i := 686) rfl, List.mem_of_getElem? (i := 687) rfl, List.mem_of_getElem? (i := 688) rfl, by decide⟩
set_option maxRecDepth 100000 in
theorem bn_M_121 : bn_PM (3, 158, 0, 104, 690) := ⟨bn_Y_104, List.mem_of_getElem? (i := 690) rfl, List.mem_of_getElem? (i := 692) rfl, List.mem_of_getElem? (i := 30) rfl, by decide⟩
set_option maxRecDepth 100000 in
theorem bn_M_122 : bn_PM (3, 165, 1, 105, 696) := ⟨bn_Y_105, List.mem_of_getElem? (i := 696) rfl, List.mem_of_getElem? (i := 697) rfl⟩
set_option maxRecDepth 100000 in
theorem bn_M_123 : bn_PM (3, 168, 1, 106, 699) := ⟨bn_Y_106, List.mem_of_getElem? (i := 699) rfl, List.mem_of_getElem? (i := 700) rfl⟩
set_option maxRecDepth 100000 in
theorem bn_M_124 : bn_PM (4, 70, 0, 108, 702) := ⟨bn_Y_108, List.mem_of_getElem? (i := 702) rfl, List.mem_of_getElem? (i := 703) rfl, List.mem_of_getElem? (i := 704) rfl, by decide⟩
set_option maxRecDepth 100000 in
theorem bn_M_125 : bn_PM (4, 75, 0, 109, 706) := ⟨bn_Y_109, List.mem_of_getElem? (i := 706) rfl, List.mem_of_getElem? (i := 707) rfl, List.mem_of_getElem? (i := 708) rfl, by decide⟩
set_option maxRecDepth 100000 in
theorem bn_M_126 : bn_PM (4, 79, 0, 112, 710) := ⟨bn_Y_112, List.mem_of_getElem? (i := 710) rfl, List.mem_of_getElem? (i := 711) rfl, List.mem_of_getElem? (i := 712) rfl, by decide⟩
set_option maxRecDepth 100000 in
theorem bn_M_127 : bn_PM (3, 178, 0, 111, 714) := ⟨bn_Y_111, List.mem_of_getElem? (i := 714) rfl, List.mem_of_getElem? (i := 716) rfl, List.mem_of_getElem? (i := 31) rfl, by decide⟩
set_option maxRecDepth 100000 in
theorem bn_M_128 : bn_PM (3, 175, 0, 110, 718) := ⟨bn_Y_110, List.mem_of_getElem? (i := 718) rfl, List.mem_of_getElem? (i := 720) rfl, List.mem_of_getElem? (i := 32) rfl, by decide⟩
set_option maxRecDepth 100000 in
theorem bn_M_129 : bn_PM (4, 83, 0, 113, 722) := ⟨bn_Y_113, List.mem_of_getElem? (i := 722) rfl, List.mem_of_getElem? (i := 723) rfl, List.mem_of_getElem? (i := 724) rfl, by decide⟩
set_option maxRecDepth 100000 in
theorem bn_M_130 : bn_PM (4, 87, 0, 117, 726) := ⟨bn_Y_117, List.mem_of_getElem? (i := 726) rfl, List.mem_of_getElem? (i := 727) rfl, List.mem_of_getElem? (i := 728) rfl, by decide⟩
set_option maxRecDepth 100000 in
theorem bn_M_131 : bn_PM (3, 184, 0, 114, 730) := ⟨bn_Y_114, List.mem_of_getElem? (i := 730) rfl, List.mem_of_getElem? (i := 732) rfl, List.mem_of_getElem? (i := 33) rfl, by decide⟩
set_option maxRecDepth 100000 in
theorem bn_M_132 : bn_PM (3, 181, 1, 115, 734) := ⟨bn_Y_115, List.mem_of_getElem? (i := 734) rfl, List.mem_of_getElem? (i := 735) rfl⟩
set_option maxRecDepth 100000 in
theorem bn_M_133 : bn_PM (3, 187, 0, 118, 737) := ⟨bn_Y_118, List.mem_of_getElem? (i := 737) rfl, List.mem_of_getElem? (i := 739) rfl, List.mem_of_getElem? (i := 34) rfl, by decide⟩
set_option maxRecDepth 100000 in
theorem bn_M_134 : bn_PM (3, 191, 0, 116, 741) := ⟨bn_Y_116, List.mem_of_getElem? (i := 741) rfl, List.mem_of_getElem? (i := 743) rfl, List.mem_of_getElem? (i := 35) rfl, by decide⟩
set_option maxRecDepth 100000 in
theorem bn_M_135 : bn_PM (4, 91, 0, 121, 745) := ⟨bn_Y_121, List.mem_of_getElem? (i := 745) rfl, List.mem_of_getElem? (i := 746) rfl, List.mem_of_getElem? (i := 747) rfl, by decide⟩
set_option maxRecDepth 100000 in
theorem bn_M_136 : bn_PM (3, 195, 0, 119, 749) := ⟨bn_Y_119, List.mem_of_getElem? (i := 749) rfl, List.mem_of_getElem? (i := 751) rfl, List.mem_of_getElem? (i := 36) rfl, by decide⟩
set_option maxRecDepth 100000 in
theorem bn_M_137 : bn_PM (3, 198, 0, 120, 753) := ⟨bn_Y_120, List.mem_of_getElem? (i := 753) rfl, List.mem_of_getElem? (i := 755) rfl, List.mem_of_getElem? (i := 37) rfl, by decide⟩
set_option maxRecDepth 100000 in
theorem bn_M_138 : bn_PM (4, 96, 0, 123, 757) := ⟨bn_Y_123, List.mem_of_getElem? (i := 757) rfl, List.mem_of_getElem? (i := 758) rfl, List.mem_of_getElem? (i := 759) rfl, by decide⟩
set_option maxRecDepth 100000 in
theorem bn_M_139 : bn_PM (3, 205, 1, 122, 763) := ⟨bn_Y_122, List.mem_of_getElem? (i := 763) rfl, List.mem_of_getElem? (i := 764) rfl⟩
set_option maxRecDepth 100000 in
theorem bn_M_140 : bn_PM (4, 101, 0, 125, 766) := ⟨bn_Y_125, List.mem_of_getElem? (i := 766) rfl, List.mem_of_getElem? (i := 767) rfl, List.mem_of_getElem? (i := 768) rfl, by decide⟩
set_option maxRecDepth 100000 in
theorem bn_M_141 : bn_PM (3, 212, 1, 124, 772) := ⟨bn_Y_124, List.mem_of_getElem? (i := 772) rfl, List.mem_of_getElem? (i := 773) rfl⟩
set_option maxRecDepth 100000 in
theorem bn_M_142 : bn_PM (4, 105, 0, 126, 775) := ⟨bn_Y_126, List.mem_of_getElem? (i := 775) rfl, List.mem_of_getElem? (i := 776) rfl, List.mem_of_getElem? (i := 777) rfl, by decide⟩
set_option maxRecDepth 100000 in
theorem bn_M_143 : bn_PM (4, 109, 0, 127, 779) := ⟨bn_Y_127, List.mem_of_getElem? (i := 779) rfl, List.mem_of_getElem? (i := 780) rfl, List.mem_of_getElem? (i := 781) rfl, by decide⟩
set_option maxRecDepth 100000 in
theorem bn_M_144 : bn_PM (4, 113, 0, 128, 783) := ⟨bn_Y_128, List.mem_of_getElem? (i := 783) rfl, List.mem_of_getElem? (i := 784) rfl, List.mem_of_getElem? (i := 785) rfl, by decide⟩
def bn_ML_0 : List (Nat × Nat × Nat × Nat × Nat) := [(4, 9, 2, 45, 48), (2, 3, 4, 0, 51), (2, 11, 3, 32, 56), (1, 3, 4, 0, 59), (2, 18, 3, 0, 74), (0, 3, 4, 0, 77), (4, 15, 0, 46, 167), (2, 47, 0, 33, 171), (4, 20, 0, 47, 175), (4, 25, 0, 48, 179), (2, 51, 0, 34, 183), (1, 22, 0, 35, 187), (1, 36, 0, 41, 191), (1, 26, 0, 42, 195), (1, 39, 0, 43, 199)]
theorem bn_MC_0 : ∀ r ∈ bn_ML_0, bn_PM r := List.forall_mem_cons.mpr ⟨bn_M_0, List.forall_mem_cons.mpr ⟨bn_M_1, List.forall_mem_cons.mpr ⟨bn_M_2, List.forall_mem_cons.mpr ⟨bn_M_3, List.forall_mem_cons.mpr ⟨bn_M_4, List.forall_mem_cons.mpr ⟨bn_M_5, List.forall_mem_cons.mpr ⟨bn_M_6, List.forall_mem_cons.mpr ⟨bn_M_7, List.forall_mem_cons.mpr ⟨bn_M_8, List.forall_mem_cons.mpr ⟨bn_M_9, List.forall_mem_cons.mpr ⟨bn_M_10, List.forall_mem_cons.mpr ⟨bn_M_11, List.forall_mem_cons.mpr ⟨bn_M_12, List.forall_mem_cons.mpr ⟨bn_M_13, List.forall_mem_cons.mpr ⟨bn_M_14, fun _ h => absurd h List.not_mem_nil⟩⟩⟩⟩⟩⟩⟩⟩⟩⟩⟩⟩⟩⟩⟩
def bn_ML_1 : List (Nat × Nat × Nat × Nat × Nat) := [(1, 69, 0, 44, 203), (1, 43, 0, 1, 207), (1, 30, 0, 36, 211), (1, 55, 0, 2, 215), (1, 33, 0, 37, 219), (1, 62, 0, 38, 223), (1, 73, 1, 39, 227), (1, 77, 1, 40, 230), (1, 80, 0, 19, 233), (1, 66, 0, 3, 237), (4, 29, 0, 49, 241), (2, 59, 0, 4, 245), (0, 60, 5, 0, 249), (2, 63, 0, 70, 252), (4, 33, 0, 50, 256)]
theorem bn_MC_1 : ∀ r ∈ bn_ML_1, bn_PM r := List.forall_mem_cons.mpr ⟨bn_M_15, List.forall_mem_cons.mpr ⟨bn_M_16, List.forall_mem_cons.mpr ⟨bn_M_17, List.forall_mem_cons.mpr ⟨bn_M_18, List.forall_mem_cons.mpr ⟨bn_M_19, List.forall_mem_cons.mpr ⟨bn_M_20, List.forall_mem_cons.mpr ⟨bn_M_21, List.forall_mem_cons.mpr ⟨bn_M_22, List.forall_mem_cons.mpr ⟨bn_M_23, List.forall_mem_cons.mpr ⟨bn_M_24, List.forall_mem_cons.mpr ⟨bn_M_25, List.forall_mem_cons.mpr ⟨bn_M_26, List.forall_mem_cons.mpr ⟨bn_M_27, List.forall_mem_cons.mpr ⟨bn_M_28, List.forall_mem_cons.mpr ⟨bn_M_29, fun _ h => absurd h List.not_mem_nil⟩⟩⟩⟩⟩⟩⟩⟩⟩⟩⟩⟩⟩⟩⟩
def bn_ML_2 : List (Nat × Nat × Nat × Nat × Nat) := [(2, 72, 0, 5, 260), (2, 80, 0, 7, 264), (2, 86, 0, 13, 268), (4, 38, 0, 51, 272), (2, 93, 0, 6, 276), (2, 105, 0, 8, 280), (4, 42, 0, 52, 284), (2, 114, 0, 22, 288), (0, 66, 0, 7, 292), (0, 87, 0, 8, 293), (0, 102, 0, 23, 294), (0, 80, 0, 9, 298), (4, 46, 0, 53, 302), (2, 118, 0, 69, 306), (2, 121, 0, 24, 310)]
theorem bn_MC_2 : ∀ r ∈ bn_ML_2, bn_PM r := List.forall_mem_cons.mpr ⟨bn_M_30, List.forall_mem_cons.mpr ⟨bn_M_31, List.forall_mem_cons.mpr ⟨bn_M_32, List.forall_mem_cons.mpr ⟨bn_M_33, List.forall_mem_cons.mpr ⟨bn_M_34, List.forall_mem_cons.mpr ⟨bn_M_35, List.forall_mem_cons.mpr ⟨bn_M_36, List.forall_mem_cons.mpr ⟨bn_M_37, List.forall_mem_cons.mpr ⟨bn_M_38, List.forall_mem_cons.mpr ⟨bn_M_39, List.forall_mem_cons.mpr ⟨bn_M_40, List.forall_mem_cons.mpr ⟨bn_M_41, List.forall_mem_cons.mpr ⟨bn_M_42, List.forall_mem_cons.mpr ⟨bn_M_43, List.forall_mem_cons.mpr ⟨bn_M_44, fun _ h => absurd h List.not_mem_nil⟩⟩⟩⟩⟩⟩⟩⟩⟩⟩⟩⟩⟩⟩⟩
def bn_ML_3 : List (Nat × Nat × Nat × Nat × Nat) := [(4, 50, 0, 54, 314), (4, 54, 0, 55, 318), (2, 125, 1, 72, 322), (2, 128, 1, 73, 325), (4, 59, 0, 56, 328), (2, 131, 0, 25, 332), (0, 105, 0, 26, 336), (0, 109, 7, 0, 340), (4, 63, 0, 57, 343), (2, 135, 0, 11, 347), (0, 70, 0, 10, 351), (0, 74, 1, 129, 355), (2, 142, 0, 12, 363), (2, 145, 0, 15, 367), (0, 83, 0, 14, 371)]
theorem bn_MC_3 : ∀ r ∈ bn_ML_3, bn_PM r := List.forall_mem_cons.mpr ⟨bn_M_45, List.forall_mem_cons.mpr ⟨bn_M_46, List.forall_mem_cons.mpr ⟨bn_M_47, List.forall_mem_cons.mpr ⟨bn_M_48, List.forall_mem_cons.mpr ⟨bn_M_49, List.forall_mem_cons.mpr ⟨bn_M_50, List.forall_mem_cons.mpr ⟨bn_M_51, List.forall_mem_cons.mpr ⟨bn_M_52, List.forall_mem_cons.mpr ⟨bn_M_53, List.forall_mem_cons.mpr ⟨bn_M_54, List.forall_mem_cons.mpr ⟨bn_M_55, List.forall_mem_cons.mpr ⟨bn_M_56, List.forall_mem_cons.mpr ⟨bn_M_57, List.forall_mem_cons.mpr ⟨bn_M_58, List.forall_mem_cons.mpr ⟨bn_M_59, fun _ h => absurd h List.not_mem_nil⟩⟩⟩⟩⟩⟩⟩⟩⟩⟩⟩⟩⟩⟩⟩
def bn_ML_4 : List (Nat × Nat × Nat × Nat × Nat) := [(2, 148, 0, 16, 375), (4, 67, 0, 58, 379), (4, 71, 0, 59, 383), (4, 76, 0, 60, 387), (2, 152, 0, 71, 391), (2, 192, 0, 27, 395), (0, 112, 0, 28, 399), (0, 119, 0, 22, 403), (0, 115, 0, 24, 404), (4, 80, 0, 61, 405), (4, 84, 0, 62, 409), (2, 155, 0, 29, 413), (0, 90, 6, 0, 417), (0, 122, 0, 30, 420), (0, 125, 0, 31, 424)]
theorem bn_MC_4 : ∀ r ∈ bn_ML_4, bn_PM r := List.forall_mem_cons.mpr ⟨bn_M_60, List.forall_mem_cons.mpr ⟨bn_M_61, List.forall_mem_cons.mpr ⟨bn_M_62, List.forall_mem_cons.mpr ⟨bn_M_63, List.forall_mem_cons.mpr ⟨bn_M_64, List.forall_mem_cons.mpr ⟨bn_M_65, List.forall_mem_cons.mpr ⟨bn_M_66, List.forall_mem_cons.mpr ⟨bn_M_67, List.forall_mem_cons.mpr ⟨bn_M_68, List.forall_mem_cons.mpr ⟨bn_M_69, List.forall_mem_cons.mpr ⟨bn_M_70, List.forall_mem_cons.mpr ⟨bn_M_71, List.forall_mem_cons.mpr ⟨bn_M_72, List.forall_mem_cons.mpr ⟨bn_M_73, List.forall_mem_cons.mpr ⟨bn_M_74, fun _ h => absurd h List.not_mem_nil⟩⟩⟩⟩⟩⟩⟩⟩⟩⟩⟩⟩⟩⟩⟩
def bn_ML_5 : List (Nat × Nat × Nat × Nat × Nat) := [(4, 88, 0, 63, 428), (2, 158, 0, 20, 432), (2, 161, 0, 19, 436), (4, 92, 0, 64, 437), (2, 164, 1, 74, 441), (2, 195, 1, 75, 444), (4, 97, 0, 65, 448), (4, 102, 0, 66, 455), (4, 106, 0, 67, 459), (4, 110, 0, 68, 463), (2, 177, 0, 10, 467), (2, 180, 0, 17, 468), (2, 183, 0, 18, 472), (2, 186, 0, 21, 476), (0, 96, 0, 20, 480)]
theorem bn_MC_5 : ∀ r ∈ bn_ML_5, bn_PM r := List.forall_mem_cons.mpr ⟨bn_M_75, List.forall_mem_cons.mpr ⟨bn_M_76, List.forall_mem_cons.mpr ⟨bn_M_77, List.forall_mem_cons.mpr ⟨bn_M_78, List.forall_mem_cons.mpr ⟨bn_M_79, List.forall_mem_cons.mpr ⟨bn_M_80, List.forall_mem_cons.mpr ⟨bn_M_81, List.forall_mem_cons.mpr ⟨bn_M_82, List.forall_mem_cons.mpr ⟨bn_M_83, List.forall_mem_cons.mpr ⟨bn_M_84, List.forall_mem_cons.mpr ⟨bn_M_85, List.forall_mem_cons.mpr ⟨bn_M_86, List.forall_mem_cons.mpr ⟨bn_M_87, List.forall_mem_cons.mpr ⟨bn_M_88, List.forall_mem_cons.mpr ⟨bn_M_89, fun _ h => absurd h List.not_mem_nil⟩⟩⟩⟩⟩⟩⟩⟩⟩⟩⟩⟩⟩⟩⟩
def bn_ML_6 : List (Nat × Nat × Nat × Nat × Nat) := [(0, 99, 0, 19, 481), (4, 12, 2, 76, 484), (3, 1, 4, 0, 487), (4, 19, 0, 78, 577), (3, 57, 1, 77, 582), (4, 24, 0, 79, 586), (4, 28, 0, 84, 590), (3, 99, 0, 82, 594), (3, 80, 0, 80, 598), (3, 93, 0, 83, 603), (3, 96, 0, 81, 607), (4, 32, 0, 85, 611), (4, 37, 0, 92, 615), (3, 118, 0, 86, 619), (3, 122, 0, 91, 623)]
theorem bn_MC_6 : ∀ r ∈ bn_ML_6, bn_PM r := List.forall_mem_cons.mpr ⟨bn_M_90, List.forall_mem_cons.mpr ⟨bn_M_91, List.forall_mem_cons.mpr ⟨bn_M_92, List.forall_mem_cons.mpr ⟨bn_M_93, List.forall_mem_cons.mpr ⟨bn_M_94, List.forall_mem_cons.mpr ⟨bn_M_95, List.forall_mem_cons.mpr ⟨bn_M_96, List.forall_mem_cons.mpr ⟨bn_M_97, List.forall_mem_cons.mpr ⟨bn_M_98, List.forall_mem_cons.mpr ⟨bn_M_99, List.forall_mem_cons.mpr ⟨bn_M_100, List.forall_mem_cons.mpr ⟨bn_M_101, List.forall_mem_cons.mpr ⟨bn_M_102, List.forall_mem_cons.mpr ⟨bn_M_103, List.forall_mem_cons.mpr ⟨bn_M_104, fun _ h => absurd h List.not_mem_nil⟩⟩⟩⟩⟩⟩⟩⟩⟩⟩⟩⟩⟩⟩⟩
def bn_ML_7 : List (Nat × Nat × Nat × Nat × Nat) := [(3, 115, 0, 89, 627), (4, 41, 0, 93, 631), (3, 125, 0, 87, 635), (3, 128, 0, 90, 639), (4, 45, 0, 96, 643), (3, 141, 0, 95, 647), (3, 138, 0, 88, 651), (4, 49, 0, 98, 655), (3, 145, 0, 94, 659), (3, 148, 0, 97, 663), (4, 53, 0, 99, 667), (4, 58, 0, 101, 671), (3, 152, 1, 100, 675), (4, 62, 0, 103, 678), (3, 155, 0, 102, 682)]
theorem bn_MC_7 : ∀ r ∈ bn_ML_7, bn_PM r := List.forall_mem_cons.mpr ⟨bn_M_105, List.forall_mem_cons.mpr ⟨bn_M_106, List.forall_mem_cons.mpr ⟨bn_M_107, List.forall_mem_cons.mpr ⟨bn_M_108, List.forall_mem_cons.mpr ⟨bn_M_109, List.forall_mem_cons.mpr ⟨bn_M_110, List.forall_mem_cons.mpr ⟨bn_M_111, List.forall_mem_cons.mpr ⟨bn_M_112, List.forall_mem_cons.mpr ⟨bn_M_113, List.forall_mem_cons.mpr ⟨bn_M_114, List.forall_mem_cons.mpr ⟨bn_M_115, List.forall_mem_cons.mpr ⟨bn_M_116, List.forall_mem_cons.mpr ⟨bn_M_117, List.forall_mem_cons.mpr ⟨bn_M_118, List.forall_mem_cons.mpr ⟨bn_M_119, fun _ h => absurd h List.not_mem_nil⟩⟩⟩⟩⟩⟩⟩⟩⟩⟩⟩⟩⟩⟩⟩
def bn_ML_8 : List (Nat × Nat × Nat × Nat × Nat) := [(4, 66, 0, 107, 686), (3, 158, 0, 104, 690), (3, 165, 1, 105, 696), (3, 168, 1, 106, 699), (4, 70, 0, 108, 702), (4, 75, 0, 109, 706), (4, 79, 0, 112, 710), (3, 178, 0, 111, 714), (3, 175, 0, 110, 718), (4, 83, 0, 113, 722), (4, 87, 0, 117, 726), (3, 184, 0, 114, 730), (3, 181, 1, 115, 734), (3, 187, 0, 118, 737), (3, 191, 0, 116, 741)]
theorem bn_MC_8 : ∀ r ∈ bn_ML_8, bn_PM r := List.forall_mem_cons.mpr ⟨bn_M_120, List.forall_mem_cons.mpr ⟨bn_M_121, List.forall_mem_cons.mpr ⟨bn_M_122, List.forall_mem_cons.mpr ⟨bn_M_123, List.forall_mem_cons.mpr ⟨bn_M_124, List.forall_mem_cons.mpr ⟨bn_M_125, List.forall_mem_cons.mpr ⟨bn_M_126, List.forall_mem_cons.mpr ⟨bn_M_127, List.forall_mem_cons.mpr ⟨bn_M_128, List.forall_mem_cons.mpr ⟨bn_M_129, List.forall_mem_cons.mpr ⟨bn_M_130, List.forall_mem_cons.mpr ⟨bn_M_131, List.forall_mem_cons.mpr ⟨bn_M_132, List.forall_mem_cons.mpr ⟨bn_M_133, List.forall_mem_cons.mpr ⟨bn_M_134, fun _ h => absurd h List.not_mem_nil⟩⟩⟩⟩⟩⟩⟩⟩⟩⟩⟩⟩⟩⟩⟩
def bn_ML_9 : List (Nat × Nat × Nat × Nat × Nat) := [(4, 91, 0, 121, 745), (3, 195, 0, 119, 749), (3, 198, 0, 120, 753), (4, 96, 0, 123, 757), (3, 205, 1, 122, 763), (4, 101, 0, 125, 766), (3, 212, 1, 124, 772), (4, 105, 0, 126, 775), (4, 109, 0, 127, 779), (4, 113, 0, 128, 783)]
theorem bn_MC_9 : ∀ r ∈ bn_ML_9, bn_PM r := List.forall_mem_cons.mpr ⟨bn_M_135, List.forall_mem_cons.mpr ⟨bn_M_136, List.forall_mem_cons.mpr ⟨bn_M_137, List.forall_mem_cons.mpr ⟨bn_M_138, List.forall_mem_cons.mpr ⟨bn_M_139, List.forall_mem_cons.mpr ⟨bn_M_140, List.forall_mem_cons.mpr ⟨bn_M_141, List.forall_mem_cons.mpr ⟨bn_M_142, List.forall_mem_cons.mpr ⟨bn_M_143, List.forall_mem_cons.mpr ⟨bn_M_144, fun _ h => absurd h List.not_mem_nil⟩⟩⟩⟩⟩⟩⟩⟩⟩⟩
theorem bn_ML_ok : ∀ r ∈ bn_ML, bn_PM r := by
  show ∀ r ∈ bn_ML_0 ++ (bn_ML_1 ++ (bn_ML_2 ++ (bn_ML_3 ++ (bn_ML_4 ++ (bn_ML_5 ++ (bn_ML_6 ++ (bn_ML_7 ++ (bn_ML_8 ++ (bn_ML_9))))))))), bn_PM r
  exact List.forall_mem_append.mpr ⟨bn_MC_0, List.forall_mem_append.mpr ⟨bn_MC_1, List.forall_mem_append.mpr ⟨bn_MC_2, List.forall_mem_append.mpr ⟨bn_MC_3, List.forall_mem_append.mpr ⟨bn_MC_4, List.forall_mem_append.mpr ⟨bn_MC_5, List.forall_mem_append.mpr ⟨bn_MC_6, List.forall_mem_append.mpr ⟨bn_MC_7, List.forall_mem_append.mpr ⟨bn_MC_8, bn_MC_9⟩⟩⟩⟩⟩⟩⟩⟩⟩
theorem bn_ml_ok {c idx : Nat} {q : Nat × Nat} (h : bn_ml c idx = some q) : ∃ i, bn_PM (c, idx, q.1, q.2, i) := by
  unfold bn_ml at h
  obtain ⟨r, h1, rfl⟩ := Option.map_eq_some_iff.mp h
  have h2 := List.find?_some h1
  have h3 := bn_ML_ok r (List.mem_of_find?_eq_some h1)
  simp only [Bool.and_eq_true, beq_iff_eq] at h2
  obtain ⟨rfl, rfl⟩ := h2
  exact ⟨r.2.2.2.2, h3⟩
theorem bn_TT_in {w : Cond} (h : w ∈ lw_tbl) (hg : goodWord w = true) : w ∈ bn_TT := List.mem_filter.mpr ⟨h, hg⟩
theorem bn_cnX {c : Nat} (h : c < 6) : bn_cn c ≠ "java/lang/invoke/MethodHandle" ∧ bn_cn c ≠ "java/lang/invoke/VarHandle" ∧ plainName (bn_cn c) = true := by
  have h6 : c = 0 ∨ c = 1 ∨ c = 2 ∨ c = 3 ∨ c = 4 ∨ c = 5 := by omega
  rcases h6 with rfl | rfl | rfl | rfl | rfl | rfl <;> decide +kernel
theorem bn_inX {ci : Nat} (h : ci < 4) : ∀ w ∈ u_ws (bn_cn ci) (bn_T ci) (bn_N ci), w ∈ bn_TT := by
  have h4 : ci = 0 ∨ ci = 1 ∨ ci = 2 ∨ ci = 3 := by omega
  rcases h4 with rfl | rfl | rfl | rfl <;> decide +kernel
theorem bn_tyX {ci : Nat} (h : ci < 4) : ∀ k, k < bn_N ci → parseFieldDescriptor (bn_T ci k).2.2.1 = some (bn_ty ci k) := by
  have h4 : ci = 0 ∨ ci = 1 ∨ ci = 2 ∨ ci = 3 := by omega
  rcases h4 with rfl | rfl | rfl | rfl
  · exact tyX0_ok
  · exact tyX1_ok
  · exact tyX2_ok
  · exact tyX3_ok
theorem bn_nmX {ci : Nat} (h : ci < 4) : ∀ a, a < bn_N ci → ∀ b, b < bn_N ci → a ≠ b → (bn_T ci a).2.1 ≠ (bn_T ci b).2.1 := by
  have h4 : ci = 0 ∨ ci = 1 ∨ ci = 2 ∨ ci = 3 := by omega
  rcases h4 with rfl | rfl | rfl | rfl
  · exact nmX0
  · exact nmX1
  · exact nmX2
  · exact nmX3
theorem bn_clX {ci : Nat} (h : ci < 4) : bn_cl[ci]? = some (bn_cn ci, bn_T ci, bn_N ci) := by
  have h4 : ci = 0 ∨ ci = 1 ∨ ci = 2 ∨ ci = 3 := by omega
  rcases h4 with rfl | rfl | rfl | rfl <;> rfl
def bn_is (i : Nat) (w : Cond) : Bool := decide (lw_tbl[i]? = some w) && goodWord w
theorem bn_is_mem {i : Nat} {w : Cond} (h : bn_is i w = true) : w ∈ bn_TT := by
  simp only [bn_is, Bool.and_eq_true, decide_eq_true_eq] at h
  exact bn_TT_mem h.1 h.2
def bn_okK (r : Nat × Nat × Nat × Nat) : Bool := bn_is r.2.2.2 (.classLink (bn_cn r.1) r.2.1 (bn_cn r.2.2.1)) && (decide (.instantiable (bn_cn r.2.2.1) (bn_N r.2.2.1) ∈ bn_TT) && (decide (.initialized (bn_cn r.2.2.1) ∈ bn_TT) && decide (r.2.2.1 < 4)))
set_option maxRecDepth 100000 in
theorem bn_CK_ok : bn_CK.all bn_okK = true := by decide +kernel
theorem bn_ck_ok {c idx ci : Nat} (h : bn_ck c idx = some ci) : .classLink (bn_cn c) idx (bn_cn ci) ∈ bn_TT ∧ .instantiable (bn_cn ci) (bn_N ci) ∈ bn_TT ∧ .initialized (bn_cn ci) ∈ bn_TT ∧ ci < 4 := by
  unfold bn_ck at h
  obtain ⟨r, h1, rfl⟩ := Option.map_eq_some_iff.mp h
  have h2 := List.find?_some h1
  have h3 := List.all_eq_true.mp bn_CK_ok r (List.mem_of_find?_eq_some h1)
  simp only [Bool.and_eq_true, beq_iff_eq] at h2
  obtain ⟨rfl, rfl⟩ := h2
  simp only [bn_okK, Bool.and_eq_true, decide_eq_true_eq] at h3
  exact ⟨bn_is_mem h3.1, h3.2.1, h3.2.2.1, h3.2.2.2⟩
set_option maxRecDepth 100000 in
theorem bn_KI_ok : bn_KI.all (fun r => bn_is r.2.2.2 (.constant (bn_cn r.1) r.2.1 r.2.2.1)) = true := by decide +kernel
set_option maxRecDepth 100000 in
theorem bn_KL_ok : bn_KL.all (fun r => bn_is r.2.2.2 (.constantLong (bn_cn r.1) r.2.1 r.2.2.1)) = true := by decide +kernel
theorem bn_ki_ok {c idx : Nat} {v : Int32} (h : bn_ki c idx = some v) : .constant (bn_cn c) idx v ∈ bn_TT := by
  unfold bn_ki at h
  obtain ⟨r, h1, rfl⟩ := Option.map_eq_some_iff.mp h
  have h2 := List.find?_some h1
  have h3 := List.all_eq_true.mp bn_KI_ok r (List.mem_of_find?_eq_some h1)
  simp only [Bool.and_eq_true, beq_iff_eq] at h2
  obtain ⟨rfl, rfl⟩ := h2
  exact bn_is_mem h3
theorem bn_kl_ok {c idx : Nat} {v : Int64} (h : bn_kl c idx = some v) : .constantLong (bn_cn c) idx v ∈ bn_TT := by
  unfold bn_kl at h
  obtain ⟨r, h1, rfl⟩ := Option.map_eq_some_iff.mp h
  have h2 := List.find?_some h1
  have h3 := List.all_eq_true.mp bn_KL_ok r (List.mem_of_find?_eq_some h1)
  simp only [Bool.and_eq_true, beq_iff_eq] at h2
  obtain ⟨rfl, rfl⟩ := h2
  exact bn_is_mem h3
theorem bn_w_nat : Cond.native arraycopyName ∈ bn_TT := by decide +kernel
theorem bn_w_sta : Cond.static arraycopyName ∈ bn_TT := by decide +kernel
theorem bn_w_sys : Cond.initialized "java/lang/System" ∈ bn_TT := by decide +kernel
theorem bn_w_oin : Cond.instanceMethod Lib.objectInit ∈ bn_TT := by decide +kernel
theorem bn_w_oco : Cond.code Lib.objectInit ⟨#[0xb1]⟩ 1 none ∈ bn_TT := by decide +kernel
theorem bn_w_ai : Cond.arrayClass .int ∈ bn_TT := by decide +kernel
theorem bn_w_az : Cond.arrayClass .boolean ∈ bn_TT := by decide +kernel
theorem bn_w_al : Cond.arrayClass .long ∈ bn_TT := by decide +kernel
theorem bn_w_mxs : Cond.static Lib.Math.max.name ∈ bn_TT := by decide +kernel
theorem bn_w_mns : Cond.static Lib.Math.min.name ∈ bn_TT := by decide +kernel
theorem bn_w_mth : Cond.initialized "java/lang/Math" ∈ bn_TT := by decide +kernel
theorem bn_w_mxc : Cond.code Lib.Math.max.name Lib.Math.max.code 2 (some .int) ∈ bn_TT := by decide +kernel
theorem bn_w_mnc : Cond.code Lib.Math.min.name Lib.Math.min.code 2 (some .int) ∈ bn_TT := by decide +kernel
def bn_okI (j : Nat) : Bool := bn_i j == decide ((bn_y j).name = "<init>")
theorem bn_init {j : Nat} (h : bn_i j = true) : (bn_y j).name = "<init>" := by
  simp only [bn_i, Bool.or_eq_true, beq_iff_eq] at h
  rcases h with ((rfl | rfl) | rfl) | rfl <;> decide +kernel
end
section
/-! ONE INSTRUCTION OF THE WALK IS ONE OF THE MACHINE -/
def bn_lp (G : bn_G) (ls : bn_L) : List (Nat × Value) := (List.range ls.length).filterMap (fun i => (bn_get ls i).map (fun v => (i, bn_cv G v)))
theorem bn_get_lt {ls : bn_L} {i : Nat} {v : Value} (h : bn_get ls i = some v) : i < ls.length := by
  unfold bn_get at h
  rcases Nat.lt_or_ge i ls.length with q | q
  · exact q
  · rw [List.getElem?_eq_none q] at h
    cases h
theorem bn_lp_mem {G : bn_G} {ls : bn_L} {i : Nat} {v : Value} (h : bn_get ls i = some v) : (i, bn_cv G v) ∈ bn_lp G ls := List.mem_filterMap.mpr ⟨i, List.mem_range.mpr (bn_get_lt h), by rw [h]; rfl⟩
theorem bn_LV.has {G : bn_G} {nL : Nat} {A : Array Slot} {ls : bn_L} (h : bn_LV G nL A ls) : lv_has A nL (bn_lp G ls) := by
  refine ⟨h.1, h.2.1, fun q hq => ?_⟩
  obtain ⟨i, -, hi⟩ := List.mem_filterMap.mp hq
  obtain ⟨v, h1, rfl⟩ := Option.map_eq_some_iff.mp hi
  exact h.2.2 i v h1
theorem bn_LV.at {G : bn_G} {nL : Nat} {A : Array Slot} {ls : bn_L} (h : bn_LV G nL A ls) {i : Nat} {v : Value} (hg : bn_get ls i = some v) : A[i]? = some (.val (bn_cv G v)) := h.2.2 i v hg
theorem bn_get_set (ls : bn_L) (i j : Nat) (o : Option Value) : bn_get (ls.set i o) j = if i = j then (if i < ls.length then o else none) else bn_get ls j := by
  unfold bn_get
  rw [List.getElem?_set]
  split
  · split <;> rfl
  · rfl
theorem bn_kil_len (ls : bn_L) (i : Nat) : (bn_kil ls i).length = ls.length := by
  unfold bn_kil
  split
  · rfl
  · split <;> simp
theorem bn_kil_get {ls : bn_L} {i j : Nat} {v : Value} (h : bn_get (bn_kil ls i) j = some v) : bn_get ls j = some v ∧ ¬ (j + 1 = i ∧ v.category = 2) := by
  cases i with
  | zero => exact ⟨h, by omega⟩
  | succ k =>
    have key : ∀ x, bn_get ls k = some x → x.category = 2 → bn_kil ls (k + 1) = ls.set k none := by
      intro x hx hc
      unfold bn_kil
      simp only [hx]
      cases x <;> first | rfl | (simp [Value.category] at hc)
    by_cases hc : ∃ x, bn_get ls k = some x ∧ x.category = 2
    · obtain ⟨x, hx, hc⟩ := hc
      rw [key x hx hc, bn_get_set] at h
      split at h
      · rename_i hkj
        split at h <;> cases h
      · rename_i hkj
        exact ⟨h, by omega⟩
    · have h1 : bn_kil ls (k + 1) = ls := by
        unfold bn_kil
        dsimp only
        split
        · rename_i y hy
          exact absurd ⟨_, hy, rfl⟩ hc
        · rename_i y hy
          exact absurd ⟨_, hy, rfl⟩ hc
        · rfl
      rw [h1] at h
      refine ⟨h, fun q => hc ⟨v, ?_, q.2⟩⟩
      rw [← h]
      congr 1
      omega
theorem bn_LV.set1 {G : bn_G} {nL i : Nat} {A' : Array Slot} {ls : bn_L} {x : Value} (h' : lv_has A' nL ((i, bn_cv G x) :: (bn_lp G ls).filter (fun q => !(q.1 == i) && !(q.1 + 1 == i && q.2.category == 2)))) : bn_LV G nL A' (bn_st1 ls i x) := by
  refine ⟨h'.1, h'.2.1, fun j v hj => ?_⟩
  unfold bn_st1 at hj
  rw [bn_get_set] at hj
  split at hj
  · rename_i hij
    subst hij
    split at hj
    · cases hj
      exact h'.2.2 _ List.mem_cons_self
    · cases hj
  · rename_i hij
    obtain ⟨h1, h2⟩ := bn_kil_get hj
    refine h'.2.2 (j, bn_cv G v) (List.mem_cons_of_mem _ (List.mem_filter.mpr ⟨bn_lp_mem h1, ?_⟩))
    have h3 : ¬ j = i := fun q => hij q.symm
    simp only [bn_cv_cat]
    by_cases h4 : j + 1 = i
    · have h5 : ¬ v.category = 2 := fun q => h2 ⟨h4, q⟩
      simp [h3, h5]
    · simp [h3, h4]
theorem bn_LV.set2 {G : bn_G} {nL i : Nat} {A' : Array Slot} {ls : bn_L} {x : Value} (h' : lv_has A' nL ((i, bn_cv G x) :: (bn_lp G ls).filter (fun q => !(q.1 == i) && (!(q.1 == i + 1) && !(q.1 + 1 == i && q.2.category == 2))))) : bn_LV G nL A' (bn_st2 ls i x) := by
  refine ⟨h'.1, h'.2.1, fun j v hj => ?_⟩
  unfold bn_st2 at hj
  rw [bn_get_set] at hj
  split at hj
  · split at hj <;> cases hj
  rename_i hij1
  rw [bn_get_set] at hj
  split at hj
  · rename_i hij
    subst hij
    split at hj
    · cases hj
      exact h'.2.2 _ List.mem_cons_self
    · cases hj
  · rename_i hij
    obtain ⟨h1, h2⟩ := bn_kil_get hj
    refine h'.2.2 (j, bn_cv G v) (List.mem_cons_of_mem _ (List.mem_filter.mpr ⟨bn_lp_mem h1, ?_⟩))
    have h3 : ¬ j = i := fun q => hij q.symm
    have h6 : ¬ j = i + 1 := fun q => hij1 q.symm
    simp only [bn_cv_cat]
    by_cases h4 : j + 1 = i
    · have h5 : ¬ v.category = 2 := fun q => h2 ⟨h4, q⟩
      simp [h3, h5, h6]
    · simp [h3, h4, h6]
theorem bn_g_lt {h : bn_H} {p : Nat} {e : bn_E} (hg : bn_g h p = some e) : p < h.2.1 := by
  unfold bn_g at hg
  split at hg
  · assumption
  · cases hg
theorem bn_gf_inv {h : bn_H} {p ci k : Nat} {v : Value} (e : bn_gf h p ci k = some v) : ∃ fs, bn_g h p = some (.inr (ci, fs)) ∧ fs[k]? = some v := by
  unfold bn_gf at e
  split at e
  · rename_i o ho
    obtain ⟨c, fs⟩ := o
    dsimp only at e
    split at e
    · rename_i hc
      subst hc
      exact ⟨fs, ho, e⟩
    · cases e
  · cases e
theorem bn_pf_inv {h h' : bn_H} {p ci k : Nat} {v : Value} (e : bn_pf h p ci k v = some h') : ∃ fs, bn_g h p = some (.inr (ci, fs)) ∧ k < fs.length ∧ h' = bn_u h p (.inr (ci, fs.set k v)) := by
  unfold bn_pf at e
  split at e
  · rename_i o ho
    obtain ⟨c, fs⟩ := o
    dsimp only at e
    split at e
    · rename_i hc
      obtain ⟨rfl, hk⟩ := hc
      exact ⟨fs, ho, hk, (Option.some.inj e).symm⟩
    · cases e
  · cases e
theorem bn_ai_inv {h : bn_H} {p t : Nat} {a : Nat × (Nat → Int32)} (e : bn_ai h p t = some a) : bn_g h p = some (.inl (t, a.1, .inl a.2)) := by
  unfold bn_ai at e
  split at e
  · rename_i u n f hg
    split at e
    · rename_i ht
      subst ht
      cases e
      exact hg
    · cases e
  · cases e
theorem bn_al_inv {h : bn_H} {p : Nat} {a : Nat × (Nat → Int64)} (e : bn_al h p = some a) : bn_g h p = some (.inl (2, a.1, .inr (.inl a.2))) := by
  unfold bn_al at e
  split at e
  · rename_i u n f hg
    split at e
    · rename_i ht
      subst ht
      cases e
      exact hg
    · cases e
  · cases e
theorem bn_ar_inv {h : bn_H} {p : Nat} {a : Nat × (Nat → Option Nat)} (e : bn_ar h p = some a) : bn_g h p = some (.inl (3, a.1, .inr (.inr (.inr (.inr a.2))))) := by
  unfold bn_ar at e
  split at e
  · rename_i u n f hg
    split at e
    · rename_i ht
      subst ht
      cases e
      exact hg
    · cases e
  · cases e
theorem bn_isC_inv {h : bn_H} {p c : Nat} (e : bn_isC h p c = true) : ∃ fs, bn_g h p = some (.inr (c, fs)) := by
  unfold bn_isC at e
  split at e
  · rename_i o ho
    obtain ⟨d, fs⟩ := o
    simp only [beq_iff_eq] at e
    subst e
    exact ⟨fs, ho⟩
  · cases e
theorem bn_W.set {s : State} {G : bn_G} {h : bn_H} {H1 : Heap} {locs1 : List Loc} {p : Nat} {e0 e : bn_E} {x : va_E} (hg : bn_g h p = some e0) (hx : x = bn_ce G e) (h1 : va_P G.2.2.1 bn_cl ((bn_wl G h).set p (G.1 + p, x)) H1) (h2 : va_D (bn_A G) ((bn_wl G h).set p (G.1 + p, x))) (h3 : va_S (bn_A G) s.heap H1 locs1) : bn_W s G (bn_u h p e) H1 locs1 := by
  subst hx
  rw [bn_wl_set hg] at h1 h2
  exact ⟨h1, h2, h3⟩
theorem bn_W.app {s : State} {G : bn_G} {h : bn_H} {H1 : Heap} {locs1 : List Loc} {q z : Nat} {e : bn_E} {x : va_E} (hq : q = G.1 + h.2.1) (hx : x = bn_ce G e) (h1 : va_P G.2.2.1 bn_cl (bn_wl G h ++ [(q, x)]) H1) (h2 : va_D (bn_A G) (bn_wl G h ++ [(q, x)])) (h3 : va_S (bn_A G) s.heap H1 locs1) : bn_W s G (bn_n h e z) H1 locs1 := by
  subst hx
  subst hq
  rw [bn_wl_app (z := z)] at h1 h2
  exact ⟨h1, h2, h3⟩
end
section
/-! ONE INSTRUCTION OF THE WALK IS ONE OF THE MACHINE: all that neither call nor return -/
abbrev bn_Q : Type := Nat × bn_L × List Value × bn_H
def bn_XW (mi pc : Nat) (ls : bn_L) (st : List Value) (h : bn_H) (a : bn_Q) : Prop := (h.2.1 ≤ a.2.2.2.2.1 ∧ h.2.2.1 ≤ a.2.2.2.2.2.1 ∧ a.2.2.2.1 = h.1) ∧
  ∀ (p : Program) (l : Launch) (e : Env) (R : Room) (s : State) (m : MethodId) (args : Array Value) (below : List Frame) (meth : Method) (c : Code) (Q : State → Prop) (G : bn_G) (n0 z0 : Nat) (H : Heap) (locs : List Loc) (A : Array Slot),
    bn_Cx p R s m args meth c mi G h.1 → s.heap.size = G.1 + n0 → n0 ≤ h.2.1 → z0 ≤ h.2.2.1 → a.2.2.2.2.1 - n0 ≤ R.cells → a.2.2.2.2.2.1 - z0 ≤ R.slots → bn_W s G h H locs → bn_LV G (bn_m mi) A ls →
    (∀ (H' : Heap) (locs' : List Loc) (A' : Array Slot), bn_W s G a.2.2.2 H' locs' → bn_LV G (bn_m mi) A' a.2.1 → W p l e R s m args below meth c H' locs' (a.2.2.2.2.1 - n0) (a.2.2.2.2.2.1 - z0) Q (F0 m a.1 A' (a.2.2.1.map (bn_cv G)))) →
    W p l e R s m args below meth c H locs (h.2.1 - n0) (h.2.2.1 - z0) Q (F0 m pc A (st.map (bn_cv G)))
theorem bn_pure {mi pc pc' : Nat} {ls ls' : bn_L} {st st' : List Value} {h : bn_H} (k : ∀ {p : Program} {l : Launch} {e : Env} {R : Room} {s : State} {m : MethodId} {args : Array Value} {below : List Frame} {meth : Method} {c : Code} {Q : State → Prop} {G : bn_G} {H : Heap} {locs : List Loc} {cells slots : Nat} {A : Array Slot},
    bn_Cx p R s m args meth c mi G h.1 → bn_LV G (bn_m mi) A ls → cells ≤ R.cells → slots ≤ R.slots → (∀ A' : Array Slot, bn_LV G (bn_m mi) A' ls' → W p l e R s m args below meth c H locs cells slots Q (F0 m pc' A' (st'.map (bn_cv G)))) → W p l e R s m args below meth c H locs cells slots Q (F0 m pc A (st.map (bn_cv G)))) : bn_XW mi pc ls st h (pc', ls', st', h) :=
  ⟨⟨Nat.le_refl _, Nat.le_refl _, rfl⟩, fun p l e R s m args below meth c Q G n0 z0 H locs A C _ _ _ hc hz hW hl kk => k C hl hc hz (fun A' hl' => kk H locs A' hW hl')⟩
theorem bn_heap {mi pc pc' : Nat} {ls ls' : bn_L} {st st' : List Value} {h h' : bn_H} (hn : h'.2.1 = h.2.1) (hz : h'.2.2.1 = h.2.2.1) (hs : h'.1 = h.1) (k : ∀ {p : Program} {l : Launch} {e : Env} {R : Room} {s : State} {m : MethodId} {args : Array Value} {below : List Frame} {meth : Method} {c : Code} {Q : State → Prop} {G : bn_G} {H : Heap} {locs : List Loc} {cells slots : Nat} {A : Array Slot},
    bn_Cx p R s m args meth c mi G h.1 → bn_LV G (bn_m mi) A ls → bn_W s G h H locs → (∀ (H' : Heap) (locs' : List Loc) (A' : Array Slot), bn_W s G h' H' locs' → bn_LV G (bn_m mi) A' ls' → W p l e R s m args below meth c H' locs' cells slots Q (F0 m pc' A' (st'.map (bn_cv G)))) → W p l e R s m args below meth c H locs cells slots Q (F0 m pc A (st.map (bn_cv G)))) : bn_XW mi pc ls st h (pc', ls', st', h') :=
  ⟨⟨Nat.le_of_eq hn.symm, Nat.le_of_eq hz.symm, hs⟩, fun p l e R s m args below meth c Q G n0 z0 H locs A C _ _ _ _ _ hW hl kk => k C hl hW (fun H' locs' A' hW' hl' => by
    have := kk H' locs' A' hW' hl'
    dsimp only at this
    rw [hn, hz] at this
    exact this)⟩
theorem bn_size {p : Program} {l : Launch} {e : Env} {R : Room} {s : State} {m : MethodId} {args : Array Value} {below : List Frame} {meth : Method} {c : Code} {H : Heap} {locs : List Loc} {cells slots : Nat} {Q : State → Prop} {g : JFrame} (k : H.size ≤ s.heap.size + cells → W p l e R s m args below meth c H locs cells slots Q g) : W p l e R s m args below meth c H locs cells slots Q g := fun T hT X => k (by rw [← hT]; exact X.heapSize) T hT X
theorem bn_q_eq {G : bn_G} {h : bn_H} {q : Nat} {x : va_E} {H1 : Heap} (h1 : va_P G.2.2.1 bn_cl (bn_wl G h ++ [(q, x)]) H1) (h2 : va_D (bn_A G) (bn_wl G h ++ [(q, x)])) (hz : H1.size ≤ G.1 + h.2.1 + 1) : q = G.1 + h.2.1 := by
  have hlen : (bn_wl G h).length = h.2.1 := by simp [bn_wl]
  have hq : (bn_wl G h ++ [(q, x)])[h.2.1]? = some (q, x) := by rw [List.getElem?_append_right (by omega), hlen]; simp
  have a1 : q < H1.size := (h1 _ _ hq).lt
  have a2 : G.1 ≤ q := h2.2 _ _ hq
  rcases Nat.lt_or_ge q (G.1 + h.2.1) with a3 | a3
  · have hk : (bn_wl G h ++ [(q, x)])[q - G.1]? = some (G.1 + (q - G.1), bn_ce G (h.2.2.2 (q - G.1))) := by
      rw [List.getElem?_append_left (by omega)]
      exact bn_wl_get (by unfold bn_g; rw [if_pos (by omega)])
    have := h2.1 _ _ _ _ hk hq (by dsimp only; omega)
    omega
  · omega
theorem bn_newW {mi pc pc' z : Nat} {ls ls' : bn_L} {st st' : List Value} {h : bn_H} {e0 : bn_E} (k : ∀ {p : Program} {l : Launch} {e : Env} {R : Room} {s : State} {m : MethodId} {args : Array Value} {below : List Frame} {meth : Method} {c : Code} {Q : State → Prop} {G : bn_G} {H : Heap} {locs : List Loc} {cells slots : Nat} {A : Array Slot},
    bn_Cx p R s m args meth c mi G h.1 → bn_LV G (bn_m mi) A ls → bn_W s G h H locs → (∀ q : Nat, s.heap.size ≤ q → bn_A G q) → cells + 1 ≤ R.cells → slots + z ≤ R.slots → (∀ (q : Nat) (H' : Heap) (locs' : List Loc) (A' : Array Slot), va_P G.2.2.1 bn_cl (bn_wl G h ++ [(q, bn_ce G e0)]) H' → va_D (bn_A G) (bn_wl G h ++ [(q, bn_ce G e0)]) → va_S (bn_A G) s.heap H' locs' → bn_LV G (bn_m mi) A' ls' → W p l e R s m args below meth c H' locs' (cells + 1) (slots + z) Q (F0 m pc' A' (.ref q :: st'.map (bn_cv G)))) → W p l e R s m args below meth c H locs cells slots Q (F0 m pc A (st.map (bn_cv G)))) : bn_XW mi pc ls st h (pc', ls', .ref h.2.1 :: st', bn_n h e0 z) :=
  ⟨⟨Nat.le_succ _, Nat.le_add_right _ _, rfl⟩, fun p l e R s m args below meth c Q G n0 z0 H locs A C hs hn0 hz0 hc hz hW hl kk => by
    have d1 : (bn_n h e0 z).2.1 - n0 = h.2.1 - n0 + 1 := by show h.2.1 + 1 - n0 = _; omega
    have d2 : (bn_n h e0 z).2.2.1 - z0 = h.2.2.1 - z0 + z := by show h.2.2.1 + z - z0 = _; omega
    dsimp only at hc hz kk
    rw [d1] at hc
    rw [d2] at hz
    refine k C hl hW (fun q hq => ?_) hc hz (fun q H' locs' A' f1 f2 f3 f4 => ?_)
    · show G.1 ≤ q
      omega
    · refine bn_size (fun hsz => ?_)
      have hq := bn_q_eq f1 f2 (by omega)
      subst hq
      have := kk H' locs' A' (bn_W.app rfl rfl f1 f2 f3) f4
      rw [d1, d2] at this
      exact this⟩
theorem bn_tg_inv {pc t : Nat} {off : Int} (e : bn_tg pc off = some t) : (pc : Int) + off = (t : Int) := by
  unfold bn_tg at e
  split at e
  · rename_i hh
    cases e
    omega
  · cases e
theorem bn_i1_inv {ls : bn_L} {k i : Nat} {st : List Value} {h : bn_H} {a : bn_Q} (e : bn_i1 ls k i st h = some a) : ∃ x, bn_get ls i = some (.int x) ∧ a = (k, ls, .int x :: st, h) := by
  unfold bn_i1 at e
  split at e
  · rename_i x hx
    exact ⟨x, hx, (Option.some.inj e).symm⟩
  · cases e
theorem bn_l1_inv {ls : bn_L} {k i : Nat} {st : List Value} {h : bn_H} {a : bn_Q} (e : bn_l1 ls k i st h = some a) : ∃ x, bn_get ls i = some (.long x) ∧ a = (k, ls, .long x :: st, h) := by
  unfold bn_l1 at e
  split at e
  · rename_i x hx
    exact ⟨x, hx, (Option.some.inj e).symm⟩
  · cases e
theorem bn_a1_inv {ls : bn_L} {k i : Nat} {st : List Value} {h : bn_H} {a : bn_Q} (e : bn_a1 ls k i st h = some a) : ∃ v, bn_get ls i = some v ∧ (∀ G, ∃ x, bn_cv G v = .ref x) ∧ a = (k, ls, v :: st, h) := by
  unfold bn_a1 at e
  split at e
  · rename_i x hx
    exact ⟨_, hx, fun G => ⟨_, rfl⟩, (Option.some.inj e).symm⟩
  · rename_i x hx
    exact ⟨_, hx, fun G => ⟨_, rfl⟩, (Option.some.inj e).symm⟩
  · cases e
theorem bn_is_inv {ls : bn_L} {k i nL : Nat} {st : List Value} {h : bn_H} {a : bn_Q} (e : bn_iso ls k i nL st h = some a) : ∃ x r, st = .int x :: r ∧ i < nL ∧ a = (k, bn_st1 ls i (.int x), r, h) := by
  unfold bn_iso at e
  split at e
  · split at e
    · rename_i hi
      exact ⟨_, _, rfl, hi, (Option.some.inj e).symm⟩
    · cases e
  · cases e
theorem bn_lst_inv {ls : bn_L} {k i nL : Nat} {st : List Value} {h : bn_H} {a : bn_Q} (e : bn_lst ls k i nL st h = some a) : ∃ x r, st = .long x :: r ∧ i + 1 < nL ∧ a = (k, bn_st2 ls i (.long x), r, h) := by
  unfold bn_lst at e
  split at e
  · split at e
    · rename_i hi
      exact ⟨_, _, rfl, hi, (Option.some.inj e).symm⟩
    · cases e
  · cases e
theorem bn_as_inv {ls : bn_L} {k i nL : Nat} {st : List Value} {h : bn_H} {a : bn_Q} (e : bn_as ls k i nL st h = some a) : ∃ x r, st = .ref x :: r ∧ i < nL ∧ a = (k, bn_st1 ls i (.ref x), r, h) := by
  unfold bn_as at e
  split at e
  · split at e
    · rename_i hi
      exact ⟨_, _, rfl, hi, (Option.some.inj e).symm⟩
    · cases e
  · cases e
theorem bn_ii_inv {f : Int32 → Int32 → Int32} {ls : bn_L} {k : Nat} {st : List Value} {h : bn_H} {a : bn_Q} (e : bn_ii f ls k st h = some a) : ∃ x y r, st = .int y :: .int x :: r ∧ a = (k, ls, .int (f x y) :: r, h) := by
  unfold bn_ii at e
  split at e
  · exact ⟨_, _, _, rfl, (Option.some.inj e).symm⟩
  · cases e
theorem bn_ll_inv {f : Int64 → Int64 → Int64} {ls : bn_L} {k : Nat} {st : List Value} {h : bn_H} {a : bn_Q} (e : bn_ll f ls k st h = some a) : ∃ x y r, st = .long y :: .long x :: r ∧ a = (k, ls, .long (f x y) :: r, h) := by
  unfold bn_ll at e
  split at e
  · exact ⟨_, _, _, rfl, (Option.some.inj e).symm⟩
  · cases e
theorem bn_li_inv {f : Int64 → Int32 → Int64} {ls : bn_L} {k : Nat} {st : List Value} {h : bn_H} {a : bn_Q} (e : bn_li f ls k st h = some a) : ∃ x y r, st = .int y :: .long x :: r ∧ a = (k, ls, .long (f x y) :: r, h) := by
  unfold bn_li at e
  split at e
  · exact ⟨_, _, _, rfl, (Option.some.inj e).symm⟩
  · cases e
theorem bn_idv_inv {f : Int32 → Int32 → Int32} {ls : bn_L} {k : Nat} {st : List Value} {h : bn_H} {a : bn_Q} (e : bn_idv f ls k st h = some a) : ∃ x y r, st = .int y :: .int x :: r ∧ ¬ y = 0 ∧ a = (k, ls, .int (f x y) :: r, h) := by
  unfold bn_idv at e
  split at e
  · split at e
    · cases e
    · rename_i hy
      exact ⟨_, _, _, rfl, hy, (Option.some.inj e).symm⟩
  · cases e
theorem bn_ldv_inv {f : Int64 → Int64 → Int64} {ls : bn_L} {k : Nat} {st : List Value} {h : bn_H} {a : bn_Q} (e : bn_ldv f ls k st h = some a) : ∃ x y r, st = .long y :: .long x :: r ∧ ¬ y = 0 ∧ a = (k, ls, .long (f x y) :: r, h) := by
  unfold bn_ldv at e
  split at e
  · split at e
    · cases e
    · rename_i hy
      exact ⟨_, _, _, rfl, hy, (Option.some.inj e).symm⟩
  · cases e
theorem bn_cpos {a b : Nat} (h : b ≤ a) : b ≤ a := h
section XS
variable {mi pc len : Nat} {ls : bn_L} {st : List Value} {h : bn_H} {a : bn_Q}

theorem bn_s_iconst {n : Int} (hd : decode (bn_b mi) pc = .ok (.iconst n, len)) (hL : len = bn_ln (.iconst n) len) (e : bn_x mi (.iconst n) pc ls st h = some a) : bn_XW mi pc ls st h a := by
  have hL : len = 1 := hL
  subst hL
  cases e
  exact bn_pure fun C hl _ _ kk => lv_iconst C.1 C.2.1 hd rfl (kk _ hl)
theorem bn_s_bipush {n : Int} (hd : decode (bn_b mi) pc = .ok (.bipush n, len)) (hL : len = bn_ln (.bipush n) len) (e : bn_x mi (.bipush n) pc ls st h = some a) : bn_XW mi pc ls st h a := by
  have hL : len = 2 := hL
  subst hL
  cases e
  exact bn_pure fun C hl _ _ kk => lv_bipush C.1 C.2.1 hd rfl (kk _ hl)
theorem bn_s_sipush {n : Int} (hd : decode (bn_b mi) pc = .ok (.sipush n, len)) (hL : len = bn_ln (.sipush n) len) (e : bn_x mi (.sipush n) pc ls st h = some a) : bn_XW mi pc ls st h a := by
  have hL : len = 3 := hL
  subst hL
  cases e
  exact bn_pure fun C hl _ _ kk => lv_sipush C.1 C.2.1 hd rfl (kk _ hl)
theorem bn_s_lconst {n : Fin 2} (hd : decode (bn_b mi) pc = .ok (.lconst n, len)) (hL : len = bn_ln (.lconst n) len) (e : bn_x mi (.lconst n) pc ls st h = some a) : bn_XW mi pc ls st h a := by
  have hL : len = 1 := hL
  subst hL
  cases e
  exact bn_pure fun C hl _ _ kk => lv_lconst C.1 C.2.1 hd rfl (kk _ hl)
theorem bn_s_ldcw {n : Nat} (hd : decode (bn_b mi) pc = .ok (.ldc_w n, len)) (hL : len = bn_ln (.ldc_w n) len) (e : bn_x mi (.ldc_w n) pc ls st h = some a) : bn_XW mi pc ls st h a := by
  have hL : len = 3 := hL
  subst hL
  obtain ⟨v, hv, rfl⟩ := Option.map_eq_some_iff.mp e
  exact bn_pure fun C hl _ _ kk => lv_ldcw C.1 C.2.1 C.2.2.2.1 (C.2.2.2.2.1 _ (bn_ki_ok hv)) hd (kk _ hl)
theorem bn_s_ldc2w {n : Nat} (hd : decode (bn_b mi) pc = .ok (.ldc2_w n, len)) (hL : len = bn_ln (.ldc2_w n) len) (e : bn_x mi (.ldc2_w n) pc ls st h = some a) : bn_XW mi pc ls st h a := by
  have hL : len = 3 := hL
  subst hL
  obtain ⟨v, hv, rfl⟩ := Option.map_eq_some_iff.mp e
  exact bn_pure fun C hl _ _ kk => lv_ldc2 C.1 C.2.1 C.2.2.2.1 (C.2.2.2.2.1 _ (bn_kl_ok hv)) hd (kk _ hl)
theorem bn_s_iload_n {k : Fin 4} (hd : decode (bn_b mi) pc = .ok (.iload_n k, len)) (hL : len = bn_ln (.iload_n k) len) (e : bn_x mi (.iload_n k) pc ls st h = some a) : bn_XW mi pc ls st h a := by
  have hL : len = 1 := hL
  subst hL
  obtain ⟨x, hx, rfl⟩ := bn_i1_inv e
  exact bn_pure fun C hl _ _ kk => lv_iload_n C.1 C.2.1 hd rfl (hl.at hx) (kk _ hl)
theorem bn_s_iload {k : Nat} (hd : decode (bn_b mi) pc = .ok (.iload k, len)) (hL : len = bn_ln (.iload k) len) (e : bn_x mi (.iload k) pc ls st h = some a) : bn_XW mi pc ls st h a := by
  have hL : len = 2 := hL
  subst hL
  obtain ⟨x, hx, rfl⟩ := bn_i1_inv e
  exact bn_pure fun C hl _ _ kk => lv_iload C.1 C.2.1 hd (hl.at hx) (kk _ hl)
theorem bn_s_lload_n {k : Fin 4} (hd : decode (bn_b mi) pc = .ok (.lload_n k, len)) (hL : len = bn_ln (.lload_n k) len) (e : bn_x mi (.lload_n k) pc ls st h = some a) : bn_XW mi pc ls st h a := by
  have hL : len = 1 := hL
  subst hL
  obtain ⟨x, hx, rfl⟩ := bn_l1_inv e
  exact bn_pure fun C hl _ _ kk => lv_lload_n C.1 C.2.1 hd rfl (hl.at hx) (kk _ hl)
theorem bn_s_lload {k : Nat} (hd : decode (bn_b mi) pc = .ok (.lload k, len)) (hL : len = bn_ln (.lload k) len) (e : bn_x mi (.lload k) pc ls st h = some a) : bn_XW mi pc ls st h a := by
  have hL : len = 2 := hL
  subst hL
  obtain ⟨x, hx, rfl⟩ := bn_l1_inv e
  exact bn_pure fun C hl _ _ kk => lv_lload C.1 C.2.1 hd (hl.at hx) (kk _ hl)
theorem bn_s_aload_n {k : Fin 4} (hd : decode (bn_b mi) pc = .ok (.aload_n k, len)) (hL : len = bn_ln (.aload_n k) len) (e : bn_x mi (.aload_n k) pc ls st h = some a) : bn_XW mi pc ls st h a := by
  have hL : len = 1 := hL
  subst hL
  obtain ⟨v, hv, hG, rfl⟩ := bn_a1_inv e
  refine bn_pure fun {p l e R s m args below meth c Q G H locs cells slots A} C hl _ _ kk => ?_
  obtain ⟨x, hx⟩ := hG G
  have h1 := hl.at hv
  rw [hx] at h1
  have h2 := kk _ hl
  rw [List.map_cons, hx] at h2
  exact lv_aload_n C.1 C.2.1 hd rfl h1 h2
theorem bn_s_aload {k : Nat} (hd : decode (bn_b mi) pc = .ok (.aload k, len)) (hL : len = bn_ln (.aload k) len) (e : bn_x mi (.aload k) pc ls st h = some a) : bn_XW mi pc ls st h a := by
  have hL : len = 2 := hL
  subst hL
  obtain ⟨v, hv, hG, rfl⟩ := bn_a1_inv e
  refine bn_pure fun {p l e R s m args below meth c Q G H locs cells slots A} C hl _ _ kk => ?_
  obtain ⟨x, hx⟩ := hG G
  have h1 := hl.at hv
  rw [hx] at h1
  have h2 := kk _ hl
  rw [List.map_cons, hx] at h2
  exact lv_aload C.1 C.2.1 hd h1 h2
theorem bn_s_istore_n {k : Fin 4} (hd : decode (bn_b mi) pc = .ok (.istore_n k, len)) (hL : len = bn_ln (.istore_n k) len) (e : bn_x mi (.istore_n k) pc ls st h = some a) : bn_XW mi pc ls st h a := by
  have hL : len = 1 := hL
  subst hL
  obtain ⟨x, r, rfl, hi, rfl⟩ := bn_is_inv e
  exact bn_pure fun C hl _ _ kk => lv_istore_n C.1 C.2.1 hd rfl hl.has hi rfl (fun A2 hA2 => kk _ (bn_LV.set1 hA2))
theorem bn_s_istore {k : Nat} (hd : decode (bn_b mi) pc = .ok (.istore k, len)) (hL : len = bn_ln (.istore k) len) (e : bn_x mi (.istore k) pc ls st h = some a) : bn_XW mi pc ls st h a := by
  have hL : len = 2 := hL
  subst hL
  obtain ⟨x, r, rfl, hi, rfl⟩ := bn_is_inv e
  exact bn_pure fun C hl _ _ kk => lv_istore C.1 C.2.1 hd hl.has hi rfl (fun A2 hA2 => kk _ (bn_LV.set1 hA2))
theorem bn_s_lstore_n {k : Fin 4} (hd : decode (bn_b mi) pc = .ok (.lstore_n k, len)) (hL : len = bn_ln (.lstore_n k) len) (e : bn_x mi (.lstore_n k) pc ls st h = some a) : bn_XW mi pc ls st h a := by
  have hL : len = 1 := hL
  subst hL
  obtain ⟨x, r, rfl, hi, rfl⟩ := bn_lst_inv e
  exact bn_pure fun C hl _ _ kk => lv_lstore_n C.1 C.2.1 hd rfl hl.has hi rfl (fun A2 hA2 => kk _ (bn_LV.set2 hA2))
theorem bn_s_lstore {k : Nat} (hd : decode (bn_b mi) pc = .ok (.lstore k, len)) (hL : len = bn_ln (.lstore k) len) (e : bn_x mi (.lstore k) pc ls st h = some a) : bn_XW mi pc ls st h a := by
  have hL : len = 2 := hL
  subst hL
  obtain ⟨x, r, rfl, hi, rfl⟩ := bn_lst_inv e
  exact bn_pure fun C hl _ _ kk => lv_lstore C.1 C.2.1 hd hl.has hi rfl (fun A2 hA2 => kk _ (bn_LV.set2 hA2))
theorem bn_s_astore_n {k : Fin 4} (hd : decode (bn_b mi) pc = .ok (.astore_n k, len)) (hL : len = bn_ln (.astore_n k) len) (e : bn_x mi (.astore_n k) pc ls st h = some a) : bn_XW mi pc ls st h a := by
  have hL : len = 1 := hL
  subst hL
  obtain ⟨x, r, rfl, hi, rfl⟩ := bn_as_inv e
  exact bn_pure fun C hl _ _ kk => lv_astore_n C.1 C.2.1 hd rfl hl.has hi rfl (fun A2 hA2 => kk _ (bn_LV.set1 hA2))
theorem bn_s_astore {k : Nat} (hd : decode (bn_b mi) pc = .ok (.astore k, len)) (hL : len = bn_ln (.astore k) len) (e : bn_x mi (.astore k) pc ls st h = some a) : bn_XW mi pc ls st h a := by
  have hL : len = 2 := hL
  subst hL
  obtain ⟨x, r, rfl, hi, rfl⟩ := bn_as_inv e
  exact bn_pure fun C hl _ _ kk => lv_astore C.1 C.2.1 hd hl.has hi rfl (fun A2 hA2 => kk _ (bn_LV.set1 hA2))
theorem bn_s_iinc {k : Nat} {n : Int} (hd : decode (bn_b mi) pc = .ok (.iinc k n, len)) (hL : len = bn_ln (.iinc k n) len) (e : bn_x mi (.iinc k n) pc ls st h = some a) : bn_XW mi pc ls st h a := by
  have hL : len = 3 := hL
  subst hL
  simp only [bn_x] at e
  split at e
  · rename_i x hx
    split at e
    · rename_i hk
      cases e
      refine bn_pure fun {p l e R s m args below meth c Q G H locs cells slots A} C hl _ _ kk => ?_
      obtain ⟨j, hj⟩ := List.getElem?_of_mem (bn_lp_mem (G := G) hx)
      exact lv_iinc C.1 C.2.1 hd hl.has hj rfl hk rfl (fun A2 hA2 => kk _ (bn_LV.set1 (x := .int _) hA2))
    · cases e
  · cases e
theorem bn_s_iadd  (hd : decode (bn_b mi) pc = .ok (.iadd, len)) (hL : len = bn_ln (.iadd) len) (e : bn_x mi (.iadd) pc ls st h = some a) : bn_XW mi pc ls st h a := by
  have hL : len = 1 := hL
  subst hL
  obtain ⟨x, y, r, rfl, rfl⟩ := bn_ii_inv e
  exact bn_pure fun C hl _ _ kk => lv_iadd C.1 C.2.1 hd (kk _ hl)
theorem bn_s_isub  (hd : decode (bn_b mi) pc = .ok (.isub, len)) (hL : len = bn_ln (.isub) len) (e : bn_x mi (.isub) pc ls st h = some a) : bn_XW mi pc ls st h a := by
  have hL : len = 1 := hL
  subst hL
  obtain ⟨x, y, r, rfl, rfl⟩ := bn_ii_inv e
  exact bn_pure fun C hl _ _ kk => lv_isub C.1 C.2.1 hd (kk _ hl)
theorem bn_s_imul  (hd : decode (bn_b mi) pc = .ok (.imul, len)) (hL : len = bn_ln (.imul) len) (e : bn_x mi (.imul) pc ls st h = some a) : bn_XW mi pc ls st h a := by
  have hL : len = 1 := hL
  subst hL
  obtain ⟨x, y, r, rfl, rfl⟩ := bn_ii_inv e
  exact bn_pure fun C hl _ _ kk => lv_imul C.1 C.2.1 hd (kk _ hl)
theorem bn_s_iand  (hd : decode (bn_b mi) pc = .ok (.iand, len)) (hL : len = bn_ln (.iand) len) (e : bn_x mi (.iand) pc ls st h = some a) : bn_XW mi pc ls st h a := by
  have hL : len = 1 := hL
  subst hL
  obtain ⟨x, y, r, rfl, rfl⟩ := bn_ii_inv e
  exact bn_pure fun C hl _ _ kk => lv_iand C.1 C.2.1 hd (kk _ hl)
theorem bn_s_ior  (hd : decode (bn_b mi) pc = .ok (.ior, len)) (hL : len = bn_ln (.ior) len) (e : bn_x mi (.ior) pc ls st h = some a) : bn_XW mi pc ls st h a := by
  have hL : len = 1 := hL
  subst hL
  obtain ⟨x, y, r, rfl, rfl⟩ := bn_ii_inv e
  exact bn_pure fun C hl _ _ kk => lv_ior C.1 C.2.1 hd (kk _ hl)
theorem bn_s_ixor  (hd : decode (bn_b mi) pc = .ok (.ixor, len)) (hL : len = bn_ln (.ixor) len) (e : bn_x mi (.ixor) pc ls st h = some a) : bn_XW mi pc ls st h a := by
  have hL : len = 1 := hL
  subst hL
  obtain ⟨x, y, r, rfl, rfl⟩ := bn_ii_inv e
  exact bn_pure fun C hl _ _ kk => lv_ixor C.1 C.2.1 hd (kk _ hl)
theorem bn_s_ishl  (hd : decode (bn_b mi) pc = .ok (.ishl, len)) (hL : len = bn_ln (.ishl) len) (e : bn_x mi (.ishl) pc ls st h = some a) : bn_XW mi pc ls st h a := by
  have hL : len = 1 := hL
  subst hL
  obtain ⟨x, y, r, rfl, rfl⟩ := bn_ii_inv e
  exact bn_pure fun C hl _ _ kk => lv_ishl C.1 C.2.1 hd (kk _ hl)
theorem bn_s_ishr  (hd : decode (bn_b mi) pc = .ok (.ishr, len)) (hL : len = bn_ln (.ishr) len) (e : bn_x mi (.ishr) pc ls st h = some a) : bn_XW mi pc ls st h a := by
  have hL : len = 1 := hL
  subst hL
  obtain ⟨x, y, r, rfl, rfl⟩ := bn_ii_inv e
  exact bn_pure fun C hl _ _ kk => lv_ishr C.1 C.2.1 hd (kk _ hl)
theorem bn_s_iushr  (hd : decode (bn_b mi) pc = .ok (.iushr, len)) (hL : len = bn_ln (.iushr) len) (e : bn_x mi (.iushr) pc ls st h = some a) : bn_XW mi pc ls st h a := by
  have hL : len = 1 := hL
  subst hL
  obtain ⟨x, y, r, rfl, rfl⟩ := bn_ii_inv e
  exact bn_pure fun C hl _ _ kk => lv_iushr C.1 C.2.1 hd rfl (kk _ hl)
theorem bn_s_ladd  (hd : decode (bn_b mi) pc = .ok (.ladd, len)) (hL : len = bn_ln (.ladd) len) (e : bn_x mi (.ladd) pc ls st h = some a) : bn_XW mi pc ls st h a := by
  have hL : len = 1 := hL
  subst hL
  obtain ⟨x, y, r, rfl, rfl⟩ := bn_ll_inv e
  exact bn_pure fun C hl _ _ kk => lv_ladd C.1 C.2.1 hd (kk _ hl)
theorem bn_s_lsub  (hd : decode (bn_b mi) pc = .ok (.lsub, len)) (hL : len = bn_ln (.lsub) len) (e : bn_x mi (.lsub) pc ls st h = some a) : bn_XW mi pc ls st h a := by
  have hL : len = 1 := hL
  subst hL
  obtain ⟨x, y, r, rfl, rfl⟩ := bn_ll_inv e
  exact bn_pure fun C hl _ _ kk => lv_lsub C.1 C.2.1 hd (kk _ hl)
theorem bn_s_lmul  (hd : decode (bn_b mi) pc = .ok (.lmul, len)) (hL : len = bn_ln (.lmul) len) (e : bn_x mi (.lmul) pc ls st h = some a) : bn_XW mi pc ls st h a := by
  have hL : len = 1 := hL
  subst hL
  obtain ⟨x, y, r, rfl, rfl⟩ := bn_ll_inv e
  exact bn_pure fun C hl _ _ kk => lv_lmul C.1 C.2.1 hd (kk _ hl)
theorem bn_s_land  (hd : decode (bn_b mi) pc = .ok (.land, len)) (hL : len = bn_ln (.land) len) (e : bn_x mi (.land) pc ls st h = some a) : bn_XW mi pc ls st h a := by
  have hL : len = 1 := hL
  subst hL
  obtain ⟨x, y, r, rfl, rfl⟩ := bn_ll_inv e
  exact bn_pure fun C hl _ _ kk => lv_land C.1 C.2.1 hd (kk _ hl)
theorem bn_s_lor  (hd : decode (bn_b mi) pc = .ok (.lor, len)) (hL : len = bn_ln (.lor) len) (e : bn_x mi (.lor) pc ls st h = some a) : bn_XW mi pc ls st h a := by
  have hL : len = 1 := hL
  subst hL
  obtain ⟨x, y, r, rfl, rfl⟩ := bn_ll_inv e
  exact bn_pure fun C hl _ _ kk => lv_lor C.1 C.2.1 hd (kk _ hl)
theorem bn_s_lushr  (hd : decode (bn_b mi) pc = .ok (.lushr, len)) (hL : len = bn_ln (.lushr) len) (e : bn_x mi (.lushr) pc ls st h = some a) : bn_XW mi pc ls st h a := by
  have hL : len = 1 := hL
  subst hL
  obtain ⟨x, y, r, rfl, rfl⟩ := bn_li_inv e
  exact bn_pure fun C hl _ _ kk => lv_lushr C.1 C.2.1 hd rfl (kk _ hl)
theorem bn_s_lshl  (hd : decode (bn_b mi) pc = .ok (.lshl, len)) (hL : len = bn_ln (.lshl) len) (e : bn_x mi (.lshl) pc ls st h = some a) : bn_XW mi pc ls st h a := by
  have hL : len = 1 := hL
  subst hL
  obtain ⟨x, y, r, rfl, rfl⟩ := bn_li_inv e
  exact bn_pure fun C hl _ _ kk => lv_lshl C.1 C.2.1 hd rfl (kk _ hl)
theorem bn_s_lshr  (hd : decode (bn_b mi) pc = .ok (.lshr, len)) (hL : len = bn_ln (.lshr) len) (e : bn_x mi (.lshr) pc ls st h = some a) : bn_XW mi pc ls st h a := by
  have hL : len = 1 := hL
  subst hL
  obtain ⟨x, y, r, rfl, rfl⟩ := bn_li_inv e
  exact bn_pure fun C hl _ _ kk => lv_lshr C.1 C.2.1 hd rfl (kk _ hl)
theorem bn_s_idiv  (hd : decode (bn_b mi) pc = .ok (.idiv, len)) (hL : len = bn_ln (.idiv) len) (e : bn_x mi (.idiv) pc ls st h = some a) : bn_XW mi pc ls st h a := by
  have hL : len = 1 := hL
  subst hL
  obtain ⟨x, y, r, rfl, hy, rfl⟩ := bn_idv_inv e
  exact bn_pure fun C hl _ _ kk => lv_idiv C.1 C.2.1 hd hy (kk _ hl)
theorem bn_s_irem  (hd : decode (bn_b mi) pc = .ok (.irem, len)) (hL : len = bn_ln (.irem) len) (e : bn_x mi (.irem) pc ls st h = some a) : bn_XW mi pc ls st h a := by
  have hL : len = 1 := hL
  subst hL
  obtain ⟨x, y, r, rfl, hy, rfl⟩ := bn_idv_inv e
  exact bn_pure fun C hl _ _ kk => lv_irem C.1 C.2.1 hd hy (kk _ hl)
theorem bn_s_ldiv  (hd : decode (bn_b mi) pc = .ok (.ldiv, len)) (hL : len = bn_ln (.ldiv) len) (e : bn_x mi (.ldiv) pc ls st h = some a) : bn_XW mi pc ls st h a := by
  have hL : len = 1 := hL
  subst hL
  obtain ⟨x, y, r, rfl, hy, rfl⟩ := bn_ldv_inv e
  exact bn_pure fun C hl _ _ kk => lv_ldiv C.1 C.2.1 hd hy (kk _ hl)
theorem bn_s_lrem  (hd : decode (bn_b mi) pc = .ok (.lrem, len)) (hL : len = bn_ln (.lrem) len) (e : bn_x mi (.lrem) pc ls st h = some a) : bn_XW mi pc ls st h a := by
  have hL : len = 1 := hL
  subst hL
  obtain ⟨x, y, r, rfl, hy, rfl⟩ := bn_ldv_inv e
  exact bn_pure fun C hl _ _ kk => lv_lrem C.1 C.2.1 hd hy (kk _ hl)
theorem bn_s_i2l  (hd : decode (bn_b mi) pc = .ok (.i2l, len)) (hL : len = bn_ln (.i2l) len) (e : bn_x mi (.i2l) pc ls st h = some a) : bn_XW mi pc ls st h a := by
  have hL : len = 1 := hL
  subst hL
  simp only [bn_x] at e
  split at e
  · cases e
    exact bn_pure fun C hl _ _ kk => lv_i2l C.1 C.2.1 hd rfl (kk _ hl)
  · cases e
theorem bn_s_l2i  (hd : decode (bn_b mi) pc = .ok (.l2i, len)) (hL : len = bn_ln (.l2i) len) (e : bn_x mi (.l2i) pc ls st h = some a) : bn_XW mi pc ls st h a := by
  have hL : len = 1 := hL
  subst hL
  simp only [bn_x] at e
  split at e
  · cases e
    exact bn_pure fun C hl _ _ kk => lv_l2i C.1 C.2.1 hd rfl (kk _ hl)
  · cases e
theorem bn_s_lcmp  (hd : decode (bn_b mi) pc = .ok (.lcmp, len)) (hL : len = bn_ln (.lcmp) len) (e : bn_x mi (.lcmp) pc ls st h = some a) : bn_XW mi pc ls st h a := by
  have hL : len = 1 := hL
  subst hL
  simp only [bn_x] at e
  split at e
  · cases e
    exact bn_pure fun C hl _ _ kk => W.lcmp C.1 C.2.1 hd (kk _ hl)
  · cases e
theorem bn_s_dup  (hd : decode (bn_b mi) pc = .ok (.dup, len)) (hL : len = bn_ln (.dup) len) (e : bn_x mi (.dup) pc ls st h = some a) : bn_XW mi pc ls st h a := by
  have hL : len = 1 := hL
  subst hL
  simp only [bn_x] at e
  split at e
  · split at e
    · rename_i hc
      cases e
      exact bn_pure fun C hl _ _ kk => lv_dup C.1 C.2.1 hd (by rw [bn_cv_cat]; exact hc) (kk _ hl)
    · cases e
  · cases e
theorem bn_s_pop  (hd : decode (bn_b mi) pc = .ok (.pop, len)) (hL : len = bn_ln (.pop) len) (e : bn_x mi (.pop) pc ls st h = some a) : bn_XW mi pc ls st h a := by
  have hL : len = 1 := hL
  subst hL
  simp only [bn_x] at e
  split at e
  · split at e
    · rename_i hc
      cases e
      exact bn_pure fun C hl _ _ kk => lv_pop C.1 C.2.1 hd (by rw [bn_cv_cat]; exact hc) (kk _ hl)
    · cases e
  · cases e
theorem bn_s_dup2  (hd : decode (bn_b mi) pc = .ok (.dup2, len)) (hL : len = bn_ln (.dup2) len) (e : bn_x mi (.dup2) pc ls st h = some a) : bn_XW mi pc ls st h a := by
  have hL : len = 1 := hL
  subst hL
  simp only [bn_x] at e
  split at e
  · split at e
    · rename_i hc
      cases e
      exact bn_pure fun C hl _ _ kk => lv_dup2_11 C.1 C.2.1 hd (by rw [bn_cv_cat]; exact hc.1) (by rw [bn_cv_cat]; exact hc.2) (kk _ hl)
    · cases e
  · cases e
theorem bn_s_goto {off : Int} (hd : decode (bn_b mi) pc = .ok (.goto off, len)) (hL : len = bn_ln (.goto off) len) (e : bn_x mi (.goto off) pc ls st h = some a) : bn_XW mi pc ls st h a := by
  have hL : len = 3 := hL
  subst hL
  obtain ⟨t, ht, rfl⟩ := Option.map_eq_some_iff.mp e
  exact bn_pure fun C hl _ _ kk => lv_goto C.1 C.2.1 hd (bn_tg_inv ht) (kk _ hl)
theorem bn_s_icmp_eq {off : Int} (hd : decode (bn_b mi) pc = .ok (.if_icmp .eq off, len)) (hL : len = bn_ln (.if_icmp .eq off) len) (e : bn_x mi (.if_icmp .eq off) pc ls st h = some a) : bn_XW mi pc ls st h a := by
  have hL : len = 3 := hL
  subst hL
  simp only [bn_x] at e
  split at e
  · rename_i y x r
    obtain ⟨t, ht, rfl⟩ := Option.map_eq_some_iff.mp e
    refine bn_pure fun C hl _ _ kk => ?_
    simp only [bn_cm, decide_eq_true_eq, Bool.not_eq_true', decide_eq_false_iff_not] at kk
    refine lv_icmp_eq C.1 C.2.1 hd (bn_tg_inv ht) (fun q => ?_) (fun q => ?_)
    · have := kk _ hl
      rw [if_pos q] at this
      exact this
    · have := kk _ hl
      rw [if_neg (by simpa using q)] at this
      exact this
  · cases e
theorem bn_s_if_eq {off : Int} (hd : decode (bn_b mi) pc = .ok (.ifCond .eq off, len)) (hL : len = bn_ln (.ifCond .eq off) len) (e : bn_x mi (.ifCond .eq off) pc ls st h = some a) : bn_XW mi pc ls st h a := by
  have hL : len = 3 := hL
  subst hL
  simp only [bn_x] at e
  split at e
  · rename_i x r
    obtain ⟨t, ht, rfl⟩ := Option.map_eq_some_iff.mp e
    refine bn_pure fun C hl _ _ kk => ?_
    simp only [bn_cm, decide_eq_true_eq, Bool.not_eq_true', decide_eq_false_iff_not] at kk
    refine lv_if_eq C.1 C.2.1 hd (bn_tg_inv ht) (fun q => ?_) (fun q => ?_)
    · have := kk _ hl
      rw [if_pos q] at this
      exact this
    · have := kk _ hl
      rw [if_neg (by simpa using q)] at this
      exact this
  · cases e
theorem bn_s_icmp_ne {off : Int} (hd : decode (bn_b mi) pc = .ok (.if_icmp .ne off, len)) (hL : len = bn_ln (.if_icmp .ne off) len) (e : bn_x mi (.if_icmp .ne off) pc ls st h = some a) : bn_XW mi pc ls st h a := by
  have hL : len = 3 := hL
  subst hL
  simp only [bn_x] at e
  split at e
  · rename_i y x r
    obtain ⟨t, ht, rfl⟩ := Option.map_eq_some_iff.mp e
    refine bn_pure fun C hl _ _ kk => ?_
    simp only [bn_cm, decide_eq_true_eq, Bool.not_eq_true', decide_eq_false_iff_not] at kk
    refine lv_icmp_ne C.1 C.2.1 hd (bn_tg_inv ht) (fun q => ?_) (fun q => ?_)
    · have := kk _ hl
      rw [if_pos q] at this
      exact this
    · have := kk _ hl
      rw [if_neg (by simpa using q)] at this
      exact this
  · cases e
theorem bn_s_if_ne {off : Int} (hd : decode (bn_b mi) pc = .ok (.ifCond .ne off, len)) (hL : len = bn_ln (.ifCond .ne off) len) (e : bn_x mi (.ifCond .ne off) pc ls st h = some a) : bn_XW mi pc ls st h a := by
  have hL : len = 3 := hL
  subst hL
  simp only [bn_x] at e
  split at e
  · rename_i x r
    obtain ⟨t, ht, rfl⟩ := Option.map_eq_some_iff.mp e
    refine bn_pure fun C hl _ _ kk => ?_
    simp only [bn_cm, decide_eq_true_eq, Bool.not_eq_true', decide_eq_false_iff_not] at kk
    refine lv_if_ne C.1 C.2.1 hd (bn_tg_inv ht) (fun q => ?_) (fun q => ?_)
    · have := kk _ hl
      rw [if_pos q] at this
      exact this
    · have := kk _ hl
      rw [if_neg (by simpa using q)] at this
      exact this
  · cases e
theorem bn_s_icmp_lt {off : Int} (hd : decode (bn_b mi) pc = .ok (.if_icmp .lt off, len)) (hL : len = bn_ln (.if_icmp .lt off) len) (e : bn_x mi (.if_icmp .lt off) pc ls st h = some a) : bn_XW mi pc ls st h a := by
  have hL : len = 3 := hL
  subst hL
  simp only [bn_x] at e
  split at e
  · rename_i y x r
    obtain ⟨t, ht, rfl⟩ := Option.map_eq_some_iff.mp e
    refine bn_pure fun C hl _ _ kk => ?_
    simp only [bn_cm, decide_eq_true_eq, Bool.not_eq_true', decide_eq_false_iff_not] at kk
    refine lv_icmp_lt C.1 C.2.1 hd (bn_tg_inv ht) (fun q => ?_) (fun q => ?_)
    · have := kk _ hl
      rw [if_pos q] at this
      exact this
    · have := kk _ hl
      rw [if_neg (by simpa using q)] at this
      exact this
  · cases e
theorem bn_s_if_lt {off : Int} (hd : decode (bn_b mi) pc = .ok (.ifCond .lt off, len)) (hL : len = bn_ln (.ifCond .lt off) len) (e : bn_x mi (.ifCond .lt off) pc ls st h = some a) : bn_XW mi pc ls st h a := by
  have hL : len = 3 := hL
  subst hL
  simp only [bn_x] at e
  split at e
  · rename_i x r
    obtain ⟨t, ht, rfl⟩ := Option.map_eq_some_iff.mp e
    refine bn_pure fun C hl _ _ kk => ?_
    simp only [bn_cm, decide_eq_true_eq, Bool.not_eq_true', decide_eq_false_iff_not] at kk
    refine lv_if_lt C.1 C.2.1 hd (bn_tg_inv ht) (fun q => ?_) (fun q => ?_)
    · have := kk _ hl
      rw [if_pos q] at this
      exact this
    · have := kk _ hl
      rw [if_neg (by simpa using q)] at this
      exact this
  · cases e
theorem bn_s_icmp_ge {off : Int} (hd : decode (bn_b mi) pc = .ok (.if_icmp .ge off, len)) (hL : len = bn_ln (.if_icmp .ge off) len) (e : bn_x mi (.if_icmp .ge off) pc ls st h = some a) : bn_XW mi pc ls st h a := by
  have hL : len = 3 := hL
  subst hL
  simp only [bn_x] at e
  split at e
  · rename_i y x r
    obtain ⟨t, ht, rfl⟩ := Option.map_eq_some_iff.mp e
    refine bn_pure fun C hl _ _ kk => ?_
    simp only [bn_cm, decide_eq_true_eq, Bool.not_eq_true', decide_eq_false_iff_not] at kk
    refine lv_icmp_ge C.1 C.2.1 hd (bn_tg_inv ht) (fun q => ?_) (fun q => ?_)
    · have := kk _ hl
      rw [if_pos q] at this
      exact this
    · have := kk _ hl
      rw [if_neg (by simpa using q)] at this
      exact this
  · cases e
theorem bn_s_if_ge {off : Int} (hd : decode (bn_b mi) pc = .ok (.ifCond .ge off, len)) (hL : len = bn_ln (.ifCond .ge off) len) (e : bn_x mi (.ifCond .ge off) pc ls st h = some a) : bn_XW mi pc ls st h a := by
  have hL : len = 3 := hL
  subst hL
  simp only [bn_x] at e
  split at e
  · rename_i x r
    obtain ⟨t, ht, rfl⟩ := Option.map_eq_some_iff.mp e
    refine bn_pure fun C hl _ _ kk => ?_
    simp only [bn_cm, decide_eq_true_eq, Bool.not_eq_true', decide_eq_false_iff_not] at kk
    refine lv_if_ge C.1 C.2.1 hd (bn_tg_inv ht) (fun q => ?_) (fun q => ?_)
    · have := kk _ hl
      rw [if_pos q] at this
      exact this
    · have := kk _ hl
      rw [if_neg (by simpa using q)] at this
      exact this
  · cases e
theorem bn_s_icmp_gt {off : Int} (hd : decode (bn_b mi) pc = .ok (.if_icmp .gt off, len)) (hL : len = bn_ln (.if_icmp .gt off) len) (e : bn_x mi (.if_icmp .gt off) pc ls st h = some a) : bn_XW mi pc ls st h a := by
  have hL : len = 3 := hL
  subst hL
  simp only [bn_x] at e
  split at e
  · rename_i y x r
    obtain ⟨t, ht, rfl⟩ := Option.map_eq_some_iff.mp e
    refine bn_pure fun C hl _ _ kk => ?_
    simp only [bn_cm, decide_eq_true_eq, Bool.not_eq_true', decide_eq_false_iff_not] at kk
    refine lv_icmp_gt C.1 C.2.1 hd (bn_tg_inv ht) (fun q => ?_) (fun q => ?_)
    · have := kk _ hl
      rw [if_pos q] at this
      exact this
    · have := kk _ hl
      rw [if_neg (by simpa using q)] at this
      exact this
  · cases e
theorem bn_s_if_gt {off : Int} (hd : decode (bn_b mi) pc = .ok (.ifCond .gt off, len)) (hL : len = bn_ln (.ifCond .gt off) len) (e : bn_x mi (.ifCond .gt off) pc ls st h = some a) : bn_XW mi pc ls st h a := by
  have hL : len = 3 := hL
  subst hL
  simp only [bn_x] at e
  split at e
  · rename_i x r
    obtain ⟨t, ht, rfl⟩ := Option.map_eq_some_iff.mp e
    refine bn_pure fun C hl _ _ kk => ?_
    simp only [bn_cm, decide_eq_true_eq, Bool.not_eq_true', decide_eq_false_iff_not] at kk
    refine lv_if_gt C.1 C.2.1 hd (bn_tg_inv ht) (fun q => ?_) (fun q => ?_)
    · have := kk _ hl
      rw [if_pos q] at this
      exact this
    · have := kk _ hl
      rw [if_neg (by simpa using q)] at this
      exact this
  · cases e
theorem bn_s_icmp_le {off : Int} (hd : decode (bn_b mi) pc = .ok (.if_icmp .le off, len)) (hL : len = bn_ln (.if_icmp .le off) len) (e : bn_x mi (.if_icmp .le off) pc ls st h = some a) : bn_XW mi pc ls st h a := by
  have hL : len = 3 := hL
  subst hL
  simp only [bn_x] at e
  split at e
  · rename_i y x r
    obtain ⟨t, ht, rfl⟩ := Option.map_eq_some_iff.mp e
    refine bn_pure fun C hl _ _ kk => ?_
    simp only [bn_cm, decide_eq_true_eq, Bool.not_eq_true', decide_eq_false_iff_not] at kk
    refine lv_icmp_le C.1 C.2.1 hd (bn_tg_inv ht) (fun q => ?_) (fun q => ?_)
    · have := kk _ hl
      rw [if_pos q] at this
      exact this
    · have := kk _ hl
      rw [if_neg (by simpa using q)] at this
      exact this
  · cases e
theorem bn_s_if_le {off : Int} (hd : decode (bn_b mi) pc = .ok (.ifCond .le off, len)) (hL : len = bn_ln (.ifCond .le off) len) (e : bn_x mi (.ifCond .le off) pc ls st h = some a) : bn_XW mi pc ls st h a := by
  have hL : len = 3 := hL
  subst hL
  simp only [bn_x] at e
  split at e
  · rename_i x r
    obtain ⟨t, ht, rfl⟩ := Option.map_eq_some_iff.mp e
    refine bn_pure fun C hl _ _ kk => ?_
    simp only [bn_cm, decide_eq_true_eq, Bool.not_eq_true', decide_eq_false_iff_not] at kk
    refine lv_if_le C.1 C.2.1 hd (bn_tg_inv ht) (fun q => ?_) (fun q => ?_)
    · have := kk _ hl
      rw [if_pos q] at this
      exact this
    · have := kk _ hl
      rw [if_neg (by simpa using q)] at this
      exact this
  · cases e
end XS
end
section
/-! ONE INSTRUCTION OF THE WALK IS ONE OF THE MACHINE: cells -/
section XH
variable {mi pc len : Nat} {ls : bn_L} {st : List Value} {h : bn_H} {a : bn_Q}
theorem bn_fits (ty : FieldType) (G : bn_G) (v : Value) (h : fits ty v = true) : fits ty (bn_cv G v) = true := by
  cases v with
  | ref k => cases ty <;> first | rfl | (exact h) | (simp [fits] at h)
  | retAddr k => cases ty <;> simp [fits] at h
  | _ => exact h
theorem bn_narr (ty : FieldType) (G : bn_G) (v : Value) (h : narrow ty v = v) : narrow ty (bn_cv G v) = bn_cv G v := by
  cases v with
  | ref k => cases ty <;> rfl
  | retAddr k => cases ty <;> rfl
  | _ => exact h
theorem bn_s_getfield {k : Nat} (hd : decode (bn_b mi) pc = .ok (.getfield k, len)) (hL : len = bn_ln (.getfield k) len) (e : bn_x mi (.getfield k) pc ls st h = some a) : bn_XW mi pc ls st h a := by
  have hL : len = 3 := hL
  subst hL
  simp only [bn_x] at e
  split at e
  · obtain ⟨q, hq, e⟩ := Option.bind_eq_some_iff.mp e
    obtain ⟨v, hv, e⟩ := Option.bind_eq_some_iff.mp e
    split at e
    rotate_left
    · cases e
    cases e
    obtain ⟨fs, hg, hk⟩ := bn_gf_inv hv
    obtain ⟨f1, f2, f3, f4⟩ := bn_fl_ok hq
    refine bn_heap rfl rfl rfl fun C hl hW kk => ?_
    exact va_get C.1 C.2.1 C.2.2.2.2.1 (bn_inX f4) C.2.2.2.1 C.2.2.2.2.2.2.2.2.1 hW.1 _ (bn_wl_get hg) (bn_clX f4) q.2 f2 (C.2.2.2.2.1 _ f1) (fun x hx => by rw [f3] at hx; exact hx) (by rw [List.getElem?_map, hk]; rfl) hd (kk _ _ _ hW hl)
  · cases e
theorem bn_s_putfield {k : Nat} (hd : decode (bn_b mi) pc = .ok (.putfield k, len)) (hL : len = bn_ln (.putfield k) len) (e : bn_x mi (.putfield k) pc ls st h = some a) : bn_XW mi pc ls st h a := by
  have hL : len = 3 := hL
  subst hL
  simp only [bn_x] at e
  split at e
  · obtain ⟨q, hq, e⟩ := Option.bind_eq_some_iff.mp e
    split at e
    · rename_i hc
      obtain ⟨c1, c2, c3⟩ := hc
      obtain ⟨h', hp, rfl⟩ := Option.map_eq_some_iff.mp e
      obtain ⟨fs, hg, hk, rfl⟩ := bn_pf_inv hp
      obtain ⟨f1, f2, f3, f4⟩ := bn_fl_ok hq
      refine bn_heap rfl rfl rfl fun {_ _ _ _ _ _ _ _ _ _ _ G _ _ _ _ _} C hl hW kk => ?_
      have hn := bn_narr _ G _ c1
      have hf := bn_fits _ G _ c2
      by_cases hfin : (bn_T q.1 q.2).2.2.2 = false
      · have c3 := hfin
        exact va_put C.1 C.2.1 C.2.2.2.2.1 (bn_inX f4) (bn_ty q.1) (bn_tyX f4) (bn_nmX f4) C.2.2.2.1 C.2.2.2.2.2.2.2.2.1 hW.1 hW.2.1 hW.2.2 _ (bn_wl_get hg) (bn_clX f4) q.2 f2 (C.2.2.2.2.1 _ f1) (fun x hx => by rw [f3] at hx; exact hx) c3 (bn_tyX f4 _ f2) hn hf (by rw [List.length_map]; exact hk) hd (fun H1 locs1 g1 g2 g3 => kk _ _ _ (bn_W.set hg (by simp only [bn_ce, List.map_set]) g1 g2 g3) hl)
      rcases c3 with c3 | ⟨c4, c4'⟩
      · exact absurd c3 hfin
      · exact va_putF C.1 C.2.1 C.2.2.2.2.1 (bn_inX f4) (bn_ty q.1) (bn_tyX f4) (bn_nmX f4) C.2.2.2.1 C.2.2.2.2.2.2.2.2.1 hW.1 hW.2.1 hW.2.2 _ (bn_wl_get hg) (bn_clX f4) q.2 f2 (C.2.2.2.2.1 _ f1) (fun x hx => by rw [f3] at hx; exact hx) (by cases hfi : (bn_T q.1 q.2).2.2.2 with | true => rfl | false => exact absurd hfi hfin) (C.2.2.2.2.2.1 c4) c4' (bn_tyX f4 _ f2) hn hf (by rw [List.length_map]; exact hk) hd (fun H1 locs1 g1 g2 g3 => kk _ _ _ (bn_W.set hg (by simp only [bn_ce, List.map_set]) g1 g2 g3) hl)
    · cases e
  · cases e
theorem bn_s_iaload  (hd : decode (bn_b mi) pc = .ok (.iaload, len)) (hL : len = bn_ln (.iaload) len) (e : bn_x mi (.iaload) pc ls st h = some a) : bn_XW mi pc ls st h a := by
  have hL : len = 1 := hL
  subst hL
  simp only [bn_x] at e
  split at e
  · obtain ⟨v, hv, rfl⟩ := Option.map_eq_some_iff.mp e
    obtain ⟨b, hb, hv⟩ := Option.bind_eq_some_iff.mp hv
    split at hv
    · cases hv
    · rename_i hin
      cases hv
      exact bn_heap rfl rfl rfl fun C hl hW kk => va_iald C.1 C.2.1 C.2.2.2.2.2.2.2.2.1 hW.1 _ 0 (bn_wl_get (bn_ai_inv hb)) rfl hin hd (kk _ _ _ hW hl)
  · split at e
    · cases e
    · rename_i hin
      cases e
      exact bn_heap rfl rfl rfl fun {p l e R s m args below meth c Q G H locs cells slots A} C hl hW kk => va_sld C.1 C.2.1 C.2.2.2.2.2.2.2.2.2.2.1 (show G.2.1 < s.heap.size from Nat.lt_of_lt_of_le C.2.2.2.2.2.2.2.2.2.2.2.1 C.2.2.2.2.2.2.2.2.2.2.2.2) (Nat.not_le.mpr C.2.2.2.2.2.2.2.2.2.2.2.1) hW.2.2 hin hd (kk _ _ _ hW hl)
  · cases e
theorem bn_s_baload  (hd : decode (bn_b mi) pc = .ok (.baload, len)) (hL : len = bn_ln (.baload) len) (e : bn_x mi (.baload) pc ls st h = some a) : bn_XW mi pc ls st h a := by
  have hL : len = 1 := hL
  subst hL
  simp only [bn_x] at e
  split at e
  · obtain ⟨v, hv, rfl⟩ := Option.map_eq_some_iff.mp e
    obtain ⟨b, hb, hv⟩ := Option.bind_eq_some_iff.mp hv
    split at hv
    · cases hv
    · rename_i hin
      cases hv
      exact bn_heap rfl rfl rfl fun C hl hW kk => va_zald C.1 C.2.1 C.2.2.2.2.2.2.2.2.1 hW.1 _ 1 (bn_wl_get (bn_ai_inv hb)) rfl hin hd (kk _ _ _ hW hl)
  · cases e
theorem bn_s_laload  (hd : decode (bn_b mi) pc = .ok (.laload, len)) (hL : len = bn_ln (.laload) len) (e : bn_x mi (.laload) pc ls st h = some a) : bn_XW mi pc ls st h a := by
  have hL : len = 1 := hL
  subst hL
  simp only [bn_x] at e
  split at e
  · obtain ⟨v, hv, rfl⟩ := Option.map_eq_some_iff.mp e
    obtain ⟨b, hb, hv⟩ := Option.bind_eq_some_iff.mp hv
    split at hv
    · cases hv
    · rename_i hin
      cases hv
      exact bn_heap rfl rfl rfl fun C hl hW kk => va_lald C.1 C.2.1 C.2.2.2.2.2.2.2.2.1 hW.1 _ 2 (bn_wl_get (bn_al_inv hb)) rfl hin hd (kk _ _ _ hW hl)
  · cases e
theorem bn_s_aaload  (hd : decode (bn_b mi) pc = .ok (.aaload, len)) (hL : len = bn_ln (.aaload) len) (e : bn_x mi (.aaload) pc ls st h = some a) : bn_XW mi pc ls st h a := by
  have hL : len = 1 := hL
  subst hL
  simp only [bn_x] at e
  split at e
  · obtain ⟨v, hv, rfl⟩ := Option.map_eq_some_iff.mp e
    obtain ⟨b, hb, hv⟩ := Option.bind_eq_some_iff.mp hv
    split at hv
    · cases hv
    · rename_i hin
      refine bn_heap rfl rfl rfl fun C hl hW kk => va_aldq C.1 C.2.1 C.2.2.2.2.2.2.2.2.1 hW.1 _ 3 (bn_wl_get (bn_ar_inv hb)) rfl hin hd ?_
      have := kk _ _ _ hW hl
      simp only [hv]
      exact this
  · cases e
theorem bn_s_iastore  (hd : decode (bn_b mi) pc = .ok (.iastore, len)) (hL : len = bn_ln (.iastore) len) (e : bn_x mi (.iastore) pc ls st h = some a) : bn_XW mi pc ls st h a := by
  have hL : len = 1 := hL
  subst hL
  simp only [bn_x] at e
  split at e
  · obtain ⟨v, hv, rfl⟩ := Option.map_eq_some_iff.mp e
    obtain ⟨b, hb, hv⟩ := Option.bind_eq_some_iff.mp hv
    split at hv
    · cases hv
    · rename_i hin
      cases hv
      exact bn_heap rfl rfl rfl fun C hl hW kk => va_iast C.1 C.2.1 C.2.2.2.2.2.2.2.2.1 hW.1 hW.2.1 hW.2.2 _ 0 (bn_wl_get (bn_ai_inv hb)) rfl hin hd (fun H1 locs1 g1 g2 g3 => kk _ _ _ (bn_W.set (bn_ai_inv hb) rfl g1 g2 g3) hl)
  · cases e
theorem bn_s_bastore  (hd : decode (bn_b mi) pc = .ok (.bastore, len)) (hL : len = bn_ln (.bastore) len) (e : bn_x mi (.bastore) pc ls st h = some a) : bn_XW mi pc ls st h a := by
  have hL : len = 1 := hL
  subst hL
  simp only [bn_x] at e
  split at e
  · obtain ⟨v, hv, rfl⟩ := Option.map_eq_some_iff.mp e
    obtain ⟨b, hb, hv⟩ := Option.bind_eq_some_iff.mp hv
    split at hv
    · cases hv
    · rename_i hin
      cases hv
      exact bn_heap rfl rfl rfl fun C hl hW kk => va_zast C.1 C.2.1 C.2.2.2.2.2.2.2.2.1 hW.1 hW.2.1 hW.2.2 _ 1 (bn_wl_get (bn_ai_inv hb)) rfl hin hd (fun H1 locs1 g1 g2 g3 => kk _ _ _ (bn_W.set (bn_ai_inv hb) rfl g1 g2 g3) hl)
  · cases e
theorem bn_s_lastore  (hd : decode (bn_b mi) pc = .ok (.lastore, len)) (hL : len = bn_ln (.lastore) len) (e : bn_x mi (.lastore) pc ls st h = some a) : bn_XW mi pc ls st h a := by
  have hL : len = 1 := hL
  subst hL
  simp only [bn_x] at e
  split at e
  · obtain ⟨v, hv, rfl⟩ := Option.map_eq_some_iff.mp e
    obtain ⟨b, hb, hv⟩ := Option.bind_eq_some_iff.mp hv
    split at hv
    · cases hv
    · rename_i hin
      cases hv
      exact bn_heap rfl rfl rfl fun C hl hW kk => va_last C.1 C.2.1 C.2.2.2.2.2.2.2.2.1 hW.1 hW.2.1 hW.2.2 _ 2 (bn_wl_get (bn_al_inv hb)) rfl hin hd (fun H1 locs1 g1 g2 g3 => kk _ _ _ (bn_W.set (bn_al_inv hb) rfl g1 g2 g3) hl)
  · cases e
theorem bn_upR (G : bn_G) (f : Nat → Option Nat) (i x : Nat) : va_up (fun j => (f j).map (fun k => G.1 + k)) i (some (G.1 + x)) = fun j => (va_up f i (some x) j).map (fun k => G.1 + k) := by
  funext j
  simp only [va_up]
  split <;> rfl
theorem bn_s_aastore  (hd : decode (bn_b mi) pc = .ok (.aastore, len)) (hL : len = bn_ln (.aastore) len) (e : bn_x mi (.aastore) pc ls st h = some a) : bn_XW mi pc ls st h a := by
  have hL : len = 1 := hL
  subst hL
  simp only [bn_x] at e
  split at e
  · obtain ⟨v, hv, rfl⟩ := Option.map_eq_some_iff.mp e
    obtain ⟨b, hb, hv⟩ := Option.bind_eq_some_iff.mp hv
    split at hv
    · cases hv
    · rename_i hin
      cases hv
      have hC := (Bool.not_eq_false _).mp (not_or.mp hin).2
      obtain ⟨fs, hx⟩ := bn_isC_inv hC
      exact bn_heap rfl rfl rfl fun C hl hW kk => va_astq (r := (RX0, TX0, 15)) (ci := 0) C.1 C.2.1 C.2.2.2.2.2.2.2.2.1 hW.1 hW.2.1 hW.2.2 _ 3 _ (bn_wl_get (bn_ar_inv hb)) rfl (bn_wl_get hx) rfl (fun q => hin (Or.inl q)) hd (fun H1 locs1 g1 g2 g3 => kk _ _ _ (bn_W.set (bn_ar_inv hb) (by
        simp only [bn_ce, bn_ca]
        rw [bn_upR]) g1 g2 g3) hl)
  · cases e
theorem bn_s_arraylength  (hd : decode (bn_b mi) pc = .ok (.arraylength, len)) (hL : len = bn_ln (.arraylength) len) (e : bn_x mi (.arraylength) pc ls st h = some a) : bn_XW mi pc ls st h a := by
  have hL : len = 1 := hL
  subst hL
  simp only [bn_x] at e
  split at e
  · cases e
    exact bn_heap rfl rfl rfl fun {p l e R s m args below meth c Q G H locs cells slots A} C hl hW kk => va_slen C.1 C.2.1 C.2.2.2.2.2.2.2.2.2.2.1 (show G.2.1 < s.heap.size from Nat.lt_of_lt_of_le C.2.2.2.2.2.2.2.2.2.2.2.1 C.2.2.2.2.2.2.2.2.2.2.2.2) (Nat.not_le.mpr C.2.2.2.2.2.2.2.2.2.2.2.1) hW.2.2 hd (kk _ _ _ hW hl)
  · cases e
theorem bn_s_tableswitch {dflt lo hi : Int} {offs : Array Int} (hd : decode (bn_b mi) pc = .ok (.tableswitch dflt lo hi offs, len)) (hL : len = bn_ln (.tableswitch dflt lo hi offs) len) (e : bn_x mi (.tableswitch dflt lo hi offs) pc ls st h = some a) : bn_XW mi pc ls st h a := by
  have hL : len = len := hL
  clear hL
  simp only [bn_x] at e
  split at e
  · obtain ⟨off, ho, e⟩ := Option.bind_eq_some_iff.mp e
    obtain ⟨t, ht, rfl⟩ := Option.map_eq_some_iff.mp e
    unfold bn_ts at ho
    split at ho
    · rename_i hq
      cases ho
      exact bn_pure fun C hl _ _ kk => lv_tableOut C.1 C.2.1 hd hq (bn_tg_inv ht) (kk _ hl)
    · rename_i hq
      exact bn_pure fun C hl _ _ kk => lv_tableIn C.1 C.2.1 hd (fun q => hq (Or.inl q)) (fun q => hq (Or.inr q)) ho (bn_tg_inv ht) (kk _ hl)
  · cases e
theorem bn_df {ci : Nat} (hc : ci < 4) (G : bn_G) : ∀ j, j < bn_N ci → defaultValue (bn_ty ci j) = vp_V (((List.range (bn_N ci)).map (fun j => bn_dv (bn_ty ci j))).map (bn_cv G)) j := by
  intro j hj
  unfold vp_V
  rw [List.map_map, List.getD_eq_getElem?_getD, List.getElem?_map, List.getElem?_range hj]
  show _ = bn_cv G (defaultValue (bn_ty ci j))
  cases bn_ty ci j <;> rfl
theorem bn_s_new {k : Nat} (hd : decode (bn_b mi) pc = .ok (.new k, len)) (hL : len = bn_ln (.new k) len) (e : bn_x mi (.new k) pc ls st h = some a) : bn_XW mi pc ls st h a := by
  have hL : len = 3 := hL
  subst hL
  simp only [bn_x] at e
  obtain ⟨ci, hci, rfl⟩ := Option.map_eq_some_iff.mp e
  obtain ⟨f1, f2, f3, f4⟩ := bn_ck_ok hci
  exact bn_newW (st' := st) fun {p l e R s m args below meth c Q G H locs cells slots A} C hl hW hA hc hz kk => va_new C.1 C.2.1 C.2.2.2.2.1 (bn_inX f4) (bn_ty ci) (bn_tyX f4) C.2.2.2.1 (C.2.2.2.2.1 _ f1) (C.2.2.2.2.1 _ f2) (C.2.2.2.2.1 _ f3) C.2.2.2.2.2.2.2.2.1 hW.1 hW.2.1 hW.2.2 hA (bn_clX f4) (bn_df f4 G) hc hz hd (fun q H1 g1 g2 g3 => kk q H1 _ A g1 g2 g3 hl)
theorem bn_s_newarray_int  (hd : decode (bn_b mi) pc = .ok (.newarray .int, len)) (hL : len = bn_ln (.newarray .int) len) (e : bn_x mi (.newarray .int) pc ls st h = some a) : bn_XW mi pc ls st h a := by
  have hL : len = 2 := hL
  subst hL
  simp only [bn_x] at e
  split at e
  · split at e
    · cases e
    · rename_i n r hin
      cases e
      have h1 : ¬ n < 0 := fun q => hin (Or.inl q)
      have h2 : n.toNatClampNeg ≤ 100000 := by
        rcases Nat.lt_or_ge 100000 n.toNatClampNeg with q | q
        · exact absurd (Or.inr q) hin
        · exact q
      refine bn_newW (st' := r) fun {p l e R s m args below meth c Q G H locs cells slots A} C hl hW hA hc hz kk => va_newa (atype := .int) C.1 C.2.1 (C.2.2.2.2.1 _ bn_w_ai) rfl C.2.2.2.2.2.2.2.2.1 hW.1 hW.2.1 hW.2.2 hA (fun cA => vp_cell_i _ _ _) h1 rfl (Nat.le_trans (Nat.mul_le_mul_right _ h2) (Nat.le_of_ble_eq_true rfl)) hc hz hd (fun q cA H1 g0 g1 g2 g3 => ?_)
      have e1 := (g0.2 4 _ rfl).2
      have e2 := (C.2.2.2.2.2.2.2.2.1.2 0 _ rfl).2
      have e3 : cA = G.2.2.2 0 := Option.some.inj (e1.symm.trans e2)
      subst e3
      exact kk q H1 _ A g1 g2 g3 hl
  · cases e
theorem bn_s_newarray_boolean  (hd : decode (bn_b mi) pc = .ok (.newarray .boolean, len)) (hL : len = bn_ln (.newarray .boolean) len) (e : bn_x mi (.newarray .boolean) pc ls st h = some a) : bn_XW mi pc ls st h a := by
  have hL : len = 2 := hL
  subst hL
  simp only [bn_x] at e
  split at e
  · split at e
    · cases e
    · rename_i n r hin
      cases e
      have h1 : ¬ n < 0 := fun q => hin (Or.inl q)
      have h2 : n.toNatClampNeg ≤ 100000 := by
        rcases Nat.lt_or_ge 100000 n.toNatClampNeg with q | q
        · exact absurd (Or.inr q) hin
        · exact q
      refine bn_newW (st' := r) fun {p l e R s m args below meth c Q G H locs cells slots A} C hl hW hA hc hz kk => va_newa (atype := .boolean) C.1 C.2.1 (C.2.2.2.2.1 _ bn_w_az) rfl C.2.2.2.2.2.2.2.2.1 hW.1 hW.2.1 hW.2.2 hA (fun cA => vp_cell_i _ _ _) h1 rfl (Nat.le_trans (Nat.mul_le_mul_right _ h2) (Nat.le_of_ble_eq_true rfl)) hc hz hd (fun q cA H1 g0 g1 g2 g3 => ?_)
      have e1 := (g0.2 4 _ rfl).2
      have e2 := (C.2.2.2.2.2.2.2.2.1.2 1 _ rfl).2
      have e3 : cA = G.2.2.2 1 := Option.some.inj (e1.symm.trans e2)
      subst e3
      exact kk q H1 _ A g1 g2 g3 hl
  · cases e
theorem bn_s_newarray_long  (hd : decode (bn_b mi) pc = .ok (.newarray .long, len)) (hL : len = bn_ln (.newarray .long) len) (e : bn_x mi (.newarray .long) pc ls st h = some a) : bn_XW mi pc ls st h a := by
  have hL : len = 2 := hL
  subst hL
  simp only [bn_x] at e
  split at e
  · split at e
    · cases e
    · rename_i n r hin
      cases e
      have h1 : ¬ n < 0 := fun q => hin (Or.inl q)
      have h2 : n.toNatClampNeg ≤ 100000 := by
        rcases Nat.lt_or_ge 100000 n.toNatClampNeg with q | q
        · exact absurd (Or.inr q) hin
        · exact q
      refine bn_newW (st' := r) fun {p l e R s m args below meth c Q G H locs cells slots A} C hl hW hA hc hz kk => va_newa (atype := .long) C.1 C.2.1 (C.2.2.2.2.1 _ bn_w_al) rfl C.2.2.2.2.2.2.2.2.1 hW.1 hW.2.1 hW.2.2 hA (fun cA => vp_cell_l _ _ _) h1 rfl (Nat.le_trans (Nat.mul_le_mul_right _ h2) (Nat.le_of_ble_eq_true rfl)) hc hz hd (fun q cA H1 g0 g1 g2 g3 => ?_)
      have e1 := (g0.2 4 _ rfl).2
      have e2 := (C.2.2.2.2.2.2.2.2.1.2 2 _ rfl).2
      have e3 : cA = G.2.2.2 2 := Option.some.inj (e1.symm.trans e2)
      subst e3
      exact kk q H1 _ A g1 g2 g3 hl
  · cases e
theorem bn_s_anewarray {k : Nat} (hd : decode (bn_b mi) pc = .ok (.anewarray k, len)) (hL : len = bn_ln (.anewarray k) len) (e : bn_x mi (.anewarray k) pc ls st h = some a) : bn_XW mi pc ls st h a := by
  have hL : len = 3 := hL
  subst hL
  simp only [bn_x] at e
  split at e
  · split at e
    · cases e
    · rename_i n r hin
      cases e
      have h1 : ¬ n < 0 := fun q => hin (Or.inl (Or.inl q))
      have h2 : n.toNatClampNeg ≤ 100000 := by
        rcases Nat.lt_or_ge 100000 n.toNatClampNeg with q | q
        · exact absurd (Or.inl (Or.inr q)) hin
        · exact q
      have h3 : bn_ck (bn_c mi) k = some 0 := by
        by_cases q : bn_ck (bn_c mi) k = some 0
        · exact q
        · exact absurd (Or.inr q) hin
      obtain ⟨f1, f2, f3, f4⟩ := bn_ck_ok h3
      refine bn_newW (st' := r) fun {p l e R s m args below meth c Q G H locs cells slots A} C hl hW hA hc hz kk => va_newq (C := RX0) C.1 C.2.1 C.2.2.2.1 (C.2.2.2.2.1 _ f1) C.2.2.2.2.2.2.2.2.2.1.1 C.2.2.2.2.2.2.2.2.1 hW.1 hW.2.1 hW.2.2 hA h1 rfl (Nat.le_trans (Nat.mul_le_mul_right _ h2) (Nat.le_of_ble_eq_true rfl)) hc hz hd (fun q cA H1 g0 g1 g2 g3 => ?_)
      obtain ⟨_, _, _, _, _, e1⟩ := (g0.2 4 _ rfl).2
      obtain ⟨_, _, _, _, _, e2⟩ := (C.2.2.2.2.2.2.2.2.1.2 3 _ rfl).2
      have e3 : cA = G.2.2.2 3 := Option.some.inj (e1.symm.trans e2)
      subst e3
      exact kk q H1 _ A g1 g2 g3 hl
  · cases e
theorem bn_fr {mi : Nat} {idx : Nat} {q : Nat × Nat} (h : bn_ml (bn_c mi) idx = some q) : bn_ml (bn_c mi) idx = some q := h
def bn_okR (mi pc : Nat) : Bool := decide (1 ≤ bn_f mi) && decide (26 ≤ bn_l mi)
end XH
end
section
/-! ONE INSTRUCTION OF THE WALK IS ONE OF THE MACHINE: Object.<init>, arraycopy, Math.max, Math.min; all of them together -/
section XN
variable {mi pc len : Nat} {ls : bn_L} {st : List Value} {h : bn_H} {a : bn_Q}
theorem bn_s_objinit {k : Nat} (hd : decode (bn_b mi) pc = .ok (.invokespecial k, len)) (hL : len = bn_ln (.invokespecial k) len) (e : bn_x mi (.invokespecial k) pc ls st h = some a) : bn_XW mi pc ls st h a := by
  have hL : len = 3 := hL
  subst hL
  simp only [bn_x] at e
  split at e
  · split at e
    · rename_i p0 r hc
      obtain ⟨c1, c2, c3, c4⟩ := hc
      cases e
      obtain ⟨i, hM⟩ := bn_ml_ok c1
      refine bn_pure fun {p l e R s m args below meth c Q G H locs cells slots A} C hl _ _ kk => ?_
      have f1 := C.2.2.2.2.2.2.1
      have f2 := C.2.2.2.2.2.2.2.1
      have hct := bn_ct_cv G r
      exact W.objInit C.1 C.2.1 C.2.2.2.1 (C.2.2.2.2.1 _ (bn_TT_in hM rfl)) (C.2.2.2.2.1 _ bn_w_oin) (C.2.2.2.2.1 _ bn_w_oco) rfl (hl.1.trans C.2.2.1.symm) rfl hd (by omega) (by
        have : 2 * (F0 m pc A (List.map (bn_cv G) (.ref p0 :: r))).monitorRoom + ((r.map (bn_cv G)).map fun v => v.category).sum ≤ 8 := lv_room (by rw [hct]; exact c2)
        omega) (kk _ hl)
    · cases e
  · cases e
theorem bn_s_static {k : Nat} (hd : decode (bn_b mi) pc = .ok (.invokestatic k, len)) (hL : len = bn_ln (.invokestatic k) len) (e : bn_x mi (.invokestatic k) pc ls st h = some a) : bn_XW mi pc ls st h a := by
  have hL : len = 3 := hL
  subst hL
  simp only [bn_x] at e
  split at e
  · rename_i j hj
    obtain ⟨i, hM⟩ := bn_ml_ok hj
    split at e
    · split at e
      · rename_i n dp q sp p r hc
        obtain ⟨c2, c3, c4⟩ := hc
        obtain ⟨v, hv, rfl⟩ := Option.map_eq_some_iff.mp e
        obtain ⟨b0, hb0, hv⟩ := Option.bind_eq_some_iff.mp hv
        obtain ⟨b1, hb1, hv⟩ := Option.bind_eq_some_iff.mp hv
        split at hv
        · cases hv
        · rename_i hin
          cases hv
          obtain ⟨i1, i2⟩ := not_or.mp hin
          obtain ⟨i3, i4⟩ := not_or.mp i1
          obtain ⟨i5, i6⟩ := not_or.mp i4
          obtain ⟨i7, i8⟩ := not_or.mp i2
          refine bn_heap rfl rfl rfl fun {p l e R s m args below meth c Q G H locs cells slots A} C hl hW kk => ?_
          have f1 := C.2.2.2.2.2.2.1
          have f2 := C.2.2.2.2.2.2.2.1
          have hct := bn_ct_cv G r
          exact va_copyi C.1 C.2.1 (C.2.2.1.trans hl.1.symm) C.2.2.2.1 (C.2.2.2.2.1 _ (bn_TT_in hM rfl)) (C.2.2.2.2.1 _ bn_w_nat) (C.2.2.2.2.1 _ bn_w_sta) (C.2.2.2.2.1 _ bn_w_sys) C.2.2.2.2.2.2.2.2.1 hW.1 hW.2.1 hW.2.2 _ _ 0 0 (bn_wl_get (bn_ai_inv hb0)) (bn_wl_get (bn_ai_inv hb1)) rfl rfl rfl i3 i5 i6 (Nat.le_of_not_lt i7) (Nat.le_of_not_lt i8) (fun _ _ => rfl) (by omega) (by
            have : nativeFrameWords "java/lang/System" "arraycopy" 5 = 7 := by decide +kernel
            rw [this, hct]; omega) hd (fun H1 locs1 g1 g2 g3 => kk _ _ _ (bn_W.set (bn_ai_inv hb1) rfl g1 g2 g3) hl)
      · cases e
    · cases e
  · rename_i j hj
    obtain ⟨i, hM⟩ := bn_ml_ok hj
    split at e
    · split at e
      · rename_i y x r hc
        obtain ⟨c2, c3, c4⟩ := hc
        cases e
        refine bn_pure fun {p l e R s m args below meth c Q G H locs cells slots A} C hl h1 h2 kk => ?_
        have f1 := C.2.2.2.2.2.2.1
        have f2 := C.2.2.2.2.2.2.2.1
        have hct := bn_ct_cv G r
        exact va_mmax C.1 C.2.1 (C.2.2.1.trans hl.1.symm) C.2.2.2.1 (C.2.2.2.2.1 _ (bn_TT_in hM rfl)) (C.2.2.2.2.1 _ bn_w_mxs) (C.2.2.2.2.1 _ bn_w_mth) (C.2.2.2.2.1 _ bn_w_mxc) (by omega) (by rw [hct]; omega) h1 h2 hd (kk _ hl)
      · cases e
    · cases e
  · rename_i j hj
    obtain ⟨i, hM⟩ := bn_ml_ok hj
    split at e
    · split at e
      · rename_i y x r hc
        obtain ⟨c2, c3, c4⟩ := hc
        cases e
        refine bn_pure fun {p l e R s m args below meth c Q G H locs cells slots A} C hl h1 h2 kk => ?_
        have f1 := C.2.2.2.2.2.2.1
        have f2 := C.2.2.2.2.2.2.2.1
        have hct := bn_ct_cv G r
        exact va_mmin C.1 C.2.1 (C.2.2.1.trans hl.1.symm) C.2.2.2.1 (C.2.2.2.2.1 _ (bn_TT_in hM rfl)) (C.2.2.2.2.1 _ bn_w_mns) (C.2.2.2.2.1 _ bn_w_mth) (C.2.2.2.2.1 _ bn_w_mnc) (by omega) (by rw [hct]; omega) h1 h2 hd (kk _ hl)
      · cases e
    · cases e
  · cases e
theorem bn_xW {i : Instr} (hd : decode (bn_b mi) pc = .ok (i, len)) (hL : len = bn_ln i len) (e : bn_x mi i pc ls st h = some a) : bn_XW mi pc ls st h a := by
  cases i with
  | iconst n => exact bn_s_iconst hd hL e
  | bipush n => exact bn_s_bipush hd hL e
  | sipush n => exact bn_s_sipush hd hL e
  | lconst n => exact bn_s_lconst hd hL e
  | ldc_w n => exact bn_s_ldcw hd hL e
  | ldc2_w n => exact bn_s_ldc2w hd hL e
  | iload_n n => exact bn_s_iload_n hd hL e
  | iload n => exact bn_s_iload hd hL e
  | lload_n n => exact bn_s_lload_n hd hL e
  | lload n => exact bn_s_lload hd hL e
  | aload_n n => exact bn_s_aload_n hd hL e
  | aload n => exact bn_s_aload hd hL e
  | istore_n n => exact bn_s_istore_n hd hL e
  | istore n => exact bn_s_istore hd hL e
  | lstore_n n => exact bn_s_lstore_n hd hL e
  | lstore n => exact bn_s_lstore hd hL e
  | astore_n n => exact bn_s_astore_n hd hL e
  | astore n => exact bn_s_astore hd hL e
  | iinc n k => exact bn_s_iinc hd hL e
  | iadd => exact bn_s_iadd hd hL e
  | isub => exact bn_s_isub hd hL e
  | imul => exact bn_s_imul hd hL e
  | iand => exact bn_s_iand hd hL e
  | ior => exact bn_s_ior hd hL e
  | ixor => exact bn_s_ixor hd hL e
  | ishl => exact bn_s_ishl hd hL e
  | ishr => exact bn_s_ishr hd hL e
  | iushr => exact bn_s_iushr hd hL e
  | idiv => exact bn_s_idiv hd hL e
  | irem => exact bn_s_irem hd hL e
  | ladd => exact bn_s_ladd hd hL e
  | lsub => exact bn_s_lsub hd hL e
  | lmul => exact bn_s_lmul hd hL e
  | land => exact bn_s_land hd hL e
  | lor => exact bn_s_lor hd hL e
  | ldiv => exact bn_s_ldiv hd hL e
  | lrem => exact bn_s_lrem hd hL e
  | lshl => exact bn_s_lshl hd hL e
  | lshr => exact bn_s_lshr hd hL e
  | lushr => exact bn_s_lushr hd hL e
  | i2l => exact bn_s_i2l hd hL e
  | l2i => exact bn_s_l2i hd hL e
  | lcmp => exact bn_s_lcmp hd hL e
  | dup => exact bn_s_dup hd hL e
  | dup2 => exact bn_s_dup2 hd hL e
  | pop => exact bn_s_pop hd hL e
  | goto off => exact bn_s_goto hd hL e
  | if_icmp c off =>
    cases c with
    | eq => exact bn_s_icmp_eq hd hL e
    | ne => exact bn_s_icmp_ne hd hL e
    | lt => exact bn_s_icmp_lt hd hL e
    | ge => exact bn_s_icmp_ge hd hL e
    | gt => exact bn_s_icmp_gt hd hL e
    | le => exact bn_s_icmp_le hd hL e
  | ifCond c off =>
    cases c with
    | eq => exact bn_s_if_eq hd hL e
    | ne => exact bn_s_if_ne hd hL e
    | lt => exact bn_s_if_lt hd hL e
    | ge => exact bn_s_if_ge hd hL e
    | gt => exact bn_s_if_gt hd hL e
    | le => exact bn_s_if_le hd hL e
  | tableswitch d l u o => exact bn_s_tableswitch hd hL e
  | getfield k => exact bn_s_getfield hd hL e
  | putfield k => exact bn_s_putfield hd hL e
  | iaload => exact bn_s_iaload hd hL e
  | baload => exact bn_s_baload hd hL e
  | laload => exact bn_s_laload hd hL e
  | aaload => exact bn_s_aaload hd hL e
  | iastore => exact bn_s_iastore hd hL e
  | bastore => exact bn_s_bastore hd hL e
  | lastore => exact bn_s_lastore hd hL e
  | aastore => exact bn_s_aastore hd hL e
  | arraylength => exact bn_s_arraylength hd hL e
  | new k => exact bn_s_new hd hL e
  | newarray t =>
    cases t with
    | int => exact bn_s_newarray_int hd hL e
    | boolean => exact bn_s_newarray_boolean hd hL e
    | long => exact bn_s_newarray_long hd hL e
    | _ => cases e
  | anewarray k => exact bn_s_anewarray hd hL e
  | invokespecial k => exact bn_s_objinit hd hL e
  | invokestatic k => exact bn_s_static hd hL e
  | _ => cases e
end XN
end
section
/-! A WALK THAT ENDS IS A RUN OF THE MACHINE -/
def bn_Rt (mi pc : Nat) (r : Option Value) : Prop := match r with
  | none => decode (bn_b mi) pc = .ok (.return_, 1) ∧ bn_r mi = none
  | some (.int v) => decode (bn_b mi) pc = .ok (.ireturn, 1) ∧ (bn_r mi = some .int ∨ (bn_r mi = some .boolean ∧ (v = 0 ∨ v = 1)))
  | some (.long _) => decode (bn_b mi) pc = .ok (.lreturn, 1) ∧ bn_r mi = some .long
  | _ => False
def bn_S (n : Nat) : Prop := ∀ (mi pc : Nat) (ls : bn_L) (st : List Value) (h : bn_H) (r : Option Value) (h' : bn_H), bn_go n mi pc ls st h = some (r, h') →
  (h.2.1 ≤ h'.2.1 ∧ h.2.2.1 ≤ h'.2.2.1 ∧ h'.1 = h.1) ∧
  ∀ (p : Program) (l : Launch) (e : Env) (R : Room) (s : State) (m : MethodId) (args : Array Value) (below : List Frame) (meth : Method) (c : Code) (Q : State → Prop) (G : bn_G) (n0 z0 : Nat) (H : Heap) (locs : List Loc) (A : Array Slot),
    bn_Cx p R s m args meth c mi G h.1 → s.heap.size = G.1 + n0 → n0 ≤ h.2.1 → z0 ≤ h.2.2.1 → h'.2.1 - n0 ≤ R.cells → h'.2.2.1 - z0 ≤ R.slots → bn_W s G h H locs → bn_LV G (bn_m mi) A ls →
    (∀ (H' : Heap) (locs' : List Loc) (pc' : Nat) (A' : Array Slot), bn_W s G h' H' locs' → bn_Rt mi pc' r → W p l e R s m args below meth c H' locs' (h'.2.1 - n0) (h'.2.2.1 - z0) Q (F0 m pc' A' (r.map (bn_cv G)).toList)) →
    W p l e R s m args below meth c H locs (h.2.1 - n0) (h.2.2.1 - z0) Q (F0 m pc A (st.map (bn_cv G)))
/-- the words of a method -/
def bn_ws (mi : Nat) : List Cond := .code (bn_y mi) (bn_b mi) (bn_m mi) (bn_r mi) :: bn_TT
def bn_rm (mi mc ms : Nat) : Room := { frames := bn_f mi, cells := mc, slots := ms, locals := bn_l mi }
/-- the world at a call -/
def bn_B (G : bn_G) (h : bn_H) (U : State) : Prop := U.heap.size = G.1 + h.2.1 ∧ va_P G.2.2.1 bn_cl (bn_wl G h) U.heap ∧ va_D (bn_A G) (bn_wl G h) ∧ va_K G.2.2.1 bn_cl (bn_tys G) U ∧ bn_X U ∧ va_X G.2.1 h.1.1 h.1.2 U U.heap ∧ G.2.1 < G.1
def bn_Pc (G : bn_G) (h : bn_H) (vs : List Value) : Array Value → State → Prop := fun a U => a = (vs.map (bn_cv G)).toArray ∧ bn_B G h U
def bn_Qc (G : bn_G) (r : Option Value) (h' : bn_H) : Array Value → State → Outcome → State → Prop := fun _ st o t => o = .returned (r.map (bn_cv G)) ∧ va_P G.2.2.1 bn_cl (bn_wl G h') t.heap ∧ va_D (bn_A G) (bn_wl G h') ∧ va_F (bn_A G) st t
theorem bn_X.moved {s U : State} (hW : s.WarmedH U.vm) (h : bn_X s) : bn_X U := ⟨va_AO.moved hW.alike h.1, fun q hq => va_Nw.warmM hW (h.2 q hq)⟩
theorem bn_X.calling {U : State} (g : JFrame) (mk : MethodId) (a : Array Value) (h : bn_X U) : bn_X (U.calling g mk a) := ⟨va_AO.moved (u := U) (Vm.Alike.refl U.vm) h.1, fun q hq => va_Nw.same rfl (u := U) rfl (h.2 q hq)⟩
theorem bn_blind (G : bn_G) (h : bn_H) (vs : List Value) : FrameBlind (bn_Pc G h vs) := fun a U g mk q => ⟨q.1, q.2.1, q.2.2.1, q.2.2.2.1, va_K.moved (u := U) (U := U.calling g mk a) (Vm.Alike.refl U.vm) q.2.2.2.2.1, bn_X.calling g mk a q.2.2.2.2.2.1, va_X.moved (u := U) (U := U.calling g mk a) (Vm.Alike.refl U.vm) q.2.2.2.2.2.2.1, q.2.2.2.2.2.2.2⟩
theorem bn_sl_get (G : bn_G) : ∀ (vs : List Value) (i : Nat) (v : Value), bn_get (bn_sl vs) i = some v → (lg_sl (vs.map (bn_cv G)))[i]? = some (.val (bn_cv G v)) := by
  intro vs
  induction vs with
  | nil => intro i v h; simp [bn_sl, bn_get] at h
  | cons w vs ih =>
    intro i v h
    have e1 : bn_sl (w :: vs) = (if w.category = 2 then [some w, none] else [some w]) ++ bn_sl vs := rfl
    have e2 : lg_sl ((w :: vs).map (bn_cv G)) = (if w.category = 2 then [.val (bn_cv G w), .second] else [.val (bn_cv G w)]) ++ lg_sl (vs.map (bn_cv G)) := by
      show (if (bn_cv G w).category = 2 then [Slot.val (bn_cv G w), .second] else [.val (bn_cv G w)]) ++ lg_sl (vs.map (bn_cv G)) = _
      rw [bn_cv_cat]
    rw [e1] at h
    rw [e2]
    by_cases hc : w.category = 2
    · rw [if_pos hc] at h ⊢
      match i, h with
      | 0, h => cases h; rfl
      | 1, h => cases h
      | i + 2, h => exact ih i v h
    · rw [if_neg hc] at h ⊢
      match i, h with
      | 0, h => cases h; rfl
      | i + 1, h => exact ih i v h
theorem bn_sl_len (G : bn_G) (vs : List Value) : (lg_sl (vs.map (bn_cv G))).length = (bn_sl vs).length := by
  induction vs with
  | nil => rfl
  | cons w vs ih =>
    have e1 : bn_sl (w :: vs) = (if w.category = 2 then [some w, none] else [some w]) ++ bn_sl vs := rfl
    have e2 : lg_sl ((w :: vs).map (bn_cv G)) = (if w.category = 2 then [.val (bn_cv G w), .second] else [.val (bn_cv G w)]) ++ lg_sl (vs.map (bn_cv G)) := by
      show (if (bn_cv G w).category = 2 then [Slot.val (bn_cv G w), .second] else [.val (bn_cv G w)]) ++ lg_sl (vs.map (bn_cv G)) = _
      rw [bn_cv_cat]
    rw [e1, e2, List.length_append, List.length_append, ih]
    split <;> rfl
theorem bn_entry (G : bn_G) (mj : Nat) (vs : List Value) (hl : (bn_sl vs).length ≤ bn_m mj) : bn_LV G (bn_m mj) ((lg_sl (vs.map (bn_cv G)) ++ List.replicate (bn_m mj - (lg_sl (vs.map (bn_cv G))).length) Slot.unset).toArray) (bn_en mj vs) := by
  have h0 := lv_entry (vs.map (bn_cv G)) (n := bn_m mj) (by rw [bn_sl_len]; exact hl)
  refine ⟨h0.1, h0.2.1, fun i v h => ?_⟩
  unfold bn_en at h
  rw [List.getElem?_toArray]
  have hi : i < (bn_sl vs).length := by
    rcases Nat.lt_or_ge i (bn_sl vs).length with q | q
    · exact q
    · unfold bn_get at h
      rw [List.getElem?_append_right q, List.getElem?_replicate] at h
      split at h <;> cases h
  rw [List.getElem?_append_left (by rw [bn_sl_len]; exact hi)]
  refine bn_sl_get G vs i v ?_
  unfold bn_get at h ⊢
  rwa [List.getElem?_append_left hi] at h
/-- the contract of a walk that ends -/
theorem bn_met {n : Nat} (hS : bn_S n) (l : Launch) {mj : Nat} {vs : List Value} {h h' : bn_H} {r : Option Value} (e : bn_go n mj 0 (bn_en mj vs) [] h = some (r, h')) (hl : (bn_sl vs).length ≤ bn_m mj) (hY : bn_PY mj) (G : bn_G) :
    Met l (bn_y mj) (bn_ws mj) (bn_rm mj (h'.2.1 - h.2.1) (h'.2.2.1 - h.2.2.1)) (bn_Pc G h vs) (bn_Qc G r h') (h'.2.1 - h.2.1) (h'.2.2.1 - h.2.2.1) (bn_A G) := by
  obtain ⟨⟨m1, m2, m3⟩, hgo⟩ := hS _ _ _ _ _ _ _ e
  obtain ⟨y1, y2, y3, y4, y5⟩ := hY
  have hp : plainName (bn_y mj).cls = true := by rw [y3]; exact (bn_cnX y5).2.2
  refine Met.ofW (cc := bn_b mj) (maxL := bn_m mj) (ret := bn_r mj) hp rfl ?_
  intro p e s m args below meth c s₁ B hml hv
  obtain ⟨rfl, hsz, hP, hD, hK, hX, hsc, hb⟩ := hv
  have hts := atoms_spec (ws := bn_ws mj) B.pre
  have hown : s.vm.findClass (bn_cn (bn_c mj)) = some m.cls := by rw [← y3]; exact findClass_of_methodNamed B.named
  have hlocks := B.notSynchronized
  have hr := B.returns
  have hname := (name_of_methodNamed B.named B.method).1
  have hS0 : va_S (bn_A G) s.heap s.heap [] := va_S.rf
  rw [lg_entry_eq]
  have hC : bn_Cx p (bn_rm mj (h'.2.1 - h.2.1) (h'.2.2.1 - h.2.2.1)) s m (vs.map (bn_cv G)).toArray meth c mj G h.1 := ⟨B.exec, B.bytes, hml, hown, fun w hw => hts w (List.mem_cons_of_mem _ hw), fun hi => hname.trans (bn_init hi), Nat.le_refl _, Nat.le_refl _, hK, hX, hsc, hb, by omega⟩
  have := hgo p l e (bn_rm mj (h'.2.1 - h.2.1) (h'.2.2.1 - h.2.2.1)) s m _ below meth c (MQ below (bn_Qc G r h') (vs.map (bn_cv G)).toArray s (h'.2.1 - h.2.1) (h'.2.2.1 - h.2.2.1) (bn_A G)) G h.2.1 h.2.2.1 s.heap [] _ hC hsz (Nat.le_refl _) (Nat.le_refl _) (Nat.le_refl _) (Nat.le_refl _) ⟨hP, hD, hS0⟩ (bn_entry G mj vs hl) (fun H' locs' pc' A' hW hR => ?_)
  · rw [Nat.sub_self, Nat.sub_self] at this
    exact this
  · have hq : ∀ t : State, t.heap = H' → s.WarmedH t.vm → bn_Qc G r h' (vs.map (bn_cv G)).toArray s (.returned (r.map (bn_cv G))) t := fun t ht _ => ⟨rfl, by rw [ht]; exact hW.1, hW.2.1, hW.2.2.F ht⟩
    match r, hR, hq with
    | none, hR, hq => exact W.vret B.exec B.bytes (hr.trans hR.2) hq hW.2.2.2.2 hR.1
    | some (.int v), hR, hq =>
      rcases hR.2 with h1 | ⟨h1, h2⟩
      · exact W.iret B.exec B.bytes (hr.trans h1) hq hW.2.2.2.2 hR.1
      · exact W.zret B.exec B.bytes (hr.trans h1) (by rcases h2 with rfl | rfl <;> rfl) hq hW.2.2.2.2 hR.1
    | some (.long v), hR, hq => exact W.lret B.exec B.bytes (hr.trans hR.2) hq hW.2.2.2.2 hR.1
    | some (.float v), hR, hq => exact hR.elim
    | some (.double v), hR, hq => exact hR.elim
    | some .null, hR, hq => exact hR.elim
    | some (.ref v), hR, hq => exact hR.elim
    | some (.retAddr v), hR, hq => exact hR.elim
theorem bn_after {p : Program} {l : Launch} {e : Env} {R : Room} {s : State} {m : MethodId} {args : Array Value} {below : List Frame} {meth : Method} {c : Code} {H : Heap} {locs : List Loc} {cells slots mc ms pc : Nat} {ls : Array Slot} {st0 rest : List Value} {Q : State → Prop} {G : bn_G} {Qa : State → Outcome → State → Prop}
    (hr : va_Run p l e R s m args below meth c H locs cells slots mc ms (F0 m pc ls st0) rest Qa (bn_A G)) (hL : ∀ q ∈ locs, bn_A G q.base)
    (kk : ∀ (v : Option Value) (st₀ t : State) (H1 : Heap) (locs1 : List Loc), st₀.heap = H → t.heap = H1 → Qa st₀ (.returned v) t → (∀ q ∈ locs1, bn_A G q.base) → W p l e R s m args below meth c H1 locs1 (cells + mc) (slots + ms) Q (F0 m (pc + 3) ls (v.toList ++ rest))) : W p l e R s m args below meth c H locs cells slots Q (F0 m pc ls st0) := by
  intro T hT X
  obtain ⟨v, st₀, t, T', L, h0, X', hq, e1, e2, hQ, st⟩ := hr T hT X
  obtain ⟨t2, a1, b1⟩ := kk v st₀ t T'.heap (locs ++ L) h0 e1.symm hQ (fun q hq2 => (List.mem_append.mp hq2).elim (hL q) (hq q)) T' rfl X'
  exact ⟨t2, st t2 a1, b1⟩
theorem bn_good (mj : Nat) (hY : bn_PY mj) : GoodIn bn_TT (bn_ws mj) := by
  intro w hw
  have hm : w ∈ bn_TT := (List.mem_cons.mp hw).elim (fun q => by rw [q]; exact bn_TT_in hY.1 rfl) id
  exact ⟨hm, good_of_word (bn_TT_good w hm)⟩
end
section
/-! CALLS; and all together: a walk that ends is a run of the machine -/
theorem bn_rt_inv {mi pc len : Nat} {i : Instr} {st : List Value} {r : Option Value} (hd : decode (bn_b mi) pc = .ok (i, len)) (hL : len = bn_ln i len) (e : bn_rt mi i st = some r) : st = r.toList ∧ bn_Rt mi pc r := by
  cases i with
  | return_ =>
    have hL : len = 1 := hL
    subst hL
    simp only [bn_rt] at e
    split at e
    · split at e
      · rename_i hr
        cases e
        exact ⟨rfl, hd, hr⟩
      · cases e
    · cases e
  | ireturn =>
    have hL : len = 1 := hL
    subst hL
    simp only [bn_rt] at e
    split at e
    · split at e
      · rename_i hr
        cases e
        exact ⟨rfl, hd, hr⟩
      · cases e
    · cases e
  | lreturn =>
    have hL : len = 1 := hL
    subst hL
    simp only [bn_rt] at e
    split at e
    · split at e
      · rename_i hr
        cases e
        exact ⟨rfl, hd, hr⟩
      · cases e
    · cases e
  | _ => cases e
theorem bn_callW {n : Nat} (hS : bn_S n) {mi pc len mj : Nat} {i : Instr} {ls : bn_L} {st as rr : List Value} {h h1 : bn_H} {v : Option Value} (hd : decode (bn_b mi) pc = .ok (i, len)) (hL : len = bn_ln i len) (hk : bn_k mi i st h = some (mj, as, rr)) (he : bn_go n mj 0 (bn_en mj as) [] h = some (v, h1))
    {p : Program} {l : Launch} {e : Env} {R : Room} {s : State} {m : MethodId} {args : Array Value} {below : List Frame} {meth : Method} {c : Code} {Q : State → Prop} {G : bn_G} {n0 z0 : Nat} {H : Heap} {locs : List Loc} {A : Array Slot}
    (C : bn_Cx p R s m args meth c mi G h.1) (hs : s.heap.size = G.1 + n0) (hn0 : n0 ≤ h.2.1) (hz0 : z0 ≤ h.2.2.1) (hc : h1.2.1 - n0 ≤ R.cells) (hz : h1.2.2.1 - z0 ≤ R.slots) (hW : bn_W s G h H locs) (hl : bn_LV G (bn_m mi) A ls)
    (kk : ∀ (H' : Heap) (locs' : List Loc), bn_W s G h1 H' locs' → W p l e R s m args below meth c H' locs' (h1.2.1 - n0) (h1.2.2.1 - z0) Q (F0 m (pc + 3) A ((v.map (bn_cv G)).toList ++ rr.map (bn_cv G)))) :
    W p l e R s m args below meth c H locs (h.2.1 - n0) (h.2.2.1 - z0) Q (F0 m pc A (st.map (bn_cv G))) := by
  obtain ⟨⟨m1, m2, m3⟩, -⟩ := hS _ _ _ _ _ _ _ he
  refine bn_size (fun hsz => ?_)
  have hHs : H.size = G.1 + h.2.1 := Nat.le_antisymm (by omega) (bn_low hW hs hn0)
  have d1 : h.2.1 - n0 + (h1.2.1 - h.2.1) = h1.2.1 - n0 := by omega
  have d2 : h.2.2.1 - z0 + (h1.2.2.1 - h.2.2.1) = h1.2.2.1 - z0 := by omega
  have hts := C.2.2.2.2.1
  have hF : CallFix p m c (bn_b mi) (bn_m mi) s args bn_TT (bn_cn (bn_c mi)) := ⟨C.1, C.2.1, C.2.2.1, C.2.2.2.1, hts⟩
  have hB : ∀ U : State, U.heap = H → s.WarmedH U.vm → bn_B G h U := fun U hU hWm => ⟨by rw [hU, hHs], by rw [hU]; exact hW.1, hW.2.1, va_K.moved hWm.alike C.2.2.2.2.2.2.2.2.1, bn_X.moved hWm C.2.2.2.2.2.2.2.2.2.1, by
    rw [hU]
    have hbl : G.2.1 < s.heap.size := Nat.lt_of_lt_of_le C.2.2.2.2.2.2.2.2.2.2.2.1 C.2.2.2.2.2.2.2.2.2.2.2.2
    exact va_X.moved hWm.alike (va_X.kept C.2.2.2.2.2.2.2.2.2.2.1 (hW.2.2.2.1 _ hbl (Nat.not_le.mpr C.2.2.2.2.2.2.2.2.2.2.2.1))), C.2.2.2.2.2.2.2.2.2.2.2.1⟩
  have fin : ∀ (a0 : Array Value) (v' : Option Value) (st₀ t : State) (H1 : Heap) (locs1 : List Loc), st₀.heap = H → t.heap = H1 → bn_Qc G v h1 a0 st₀ (.returned v') t → (∀ q ∈ locs1, bn_A G q.base) → W p l e R s m args below meth c H1 locs1 (h.2.1 - n0 + (h1.2.1 - h.2.1)) (h.2.2.1 - z0 + (h1.2.2.1 - h.2.2.1)) Q (F0 m (pc + 3) A (v'.toList ++ rr.map (bn_cv G))) := by
    intro a0 v' st₀ t H1 locs1 g1 g2 g3 g4
    obtain ⟨q1, q2, q3, q4⟩ := g3
    have q1 : v' = v.map (bn_cv G) := by injection q1
    subst q1
    rw [d1, d2]
    rw [g2] at q2
    refine kk H1 locs1 ⟨q2, q3, ?_, fun q h1 h2 => ?_, g4⟩
    · have h3 := q4.1
      rw [g1, g2] at h3
      exact Nat.le_trans hW.2.2.1 h3
    · have h3 := q4.2 q (by rw [g1]; exact Nat.lt_of_lt_of_le h1 hW.2.2.1) h2
      rw [g1, g2] at h3
      exact h3.trans (hW.2.2.2.1 q h1 h2)
  cases i with
  | invokevirtual k =>
    have hL : len = 3 := hL
    subst hL
    simp only [bn_k] at hk
    obtain ⟨q, hq, hk⟩ := Option.bind_eq_some_iff.mp hk
    split at hk
    · rename_i b0 r0 hdrop
      split at hk
      · rename_i hg
        obtain ⟨g1, g2, g3, g4, g5, g6, g7⟩ := hg
        obtain ⟨qk, qm⟩ := q
        dsimp only at g1 g2 g3 g4 g5 g6 g7 hk hdrop
        subst g1
        simp only [Option.some.injEq, Prod.mk.injEq] at hk
        obtain ⟨e1, e2, e3⟩ := hk
        subst e1
        subst e2
        subst e3
        obtain ⟨i, hM⟩ := bn_ml_ok hq
        obtain ⟨w0, w1, w2, w3, w4⟩ := hM
        have hY := w0
        obtain ⟨y1, y2, y3, y4, y5⟩ := w0
        have hne := bn_cnX y5
        rw [← y3] at hne
        obtain ⟨fs, hfs⟩ := bn_isC_inv g3
        have hct := bn_ct_cv G r0
        have hrun := va_runV (l := l) (e := e) (below := below) (meth := meth) (H := H) (locs := locs) (g := F0 m pc A (st.map (bn_cv G))) (As := ((st.take (bn_p qm)).reverse).map (bn_cv G)) (b := G.1 + b0) (rest := r0.map (bn_cv G)) (cells := h.2.1 - n0) (slots := h.2.2.1 - z0) hF (bn_met hS l he g5 hY G)
          (⟨callB_of (bn_p qm) hts (bn_good qm hY) rfl rfl rfl (hts _ (bn_TT_in y2 rfl)) (hts _ (bn_TT_in w1 rfl)) ⟨hne.1, hne.2.1, y4⟩ ⟨Nat.le_trans g6 C.2.2.2.2.2.2.1, Nat.le_trans g7 C.2.2.2.2.2.2.2.1⟩, hts _ (bn_TT_in w2 rfl), hts _ (bn_TT_in w3 rfl)⟩)
          (⟨bn_blind _ _ _, by rw [y3]; exact va_recv C.2.2.2.2.2.2.2.2.1 hW.1 (bn_clX w4) (bn_wl_get hfs), fun U hU hWm => ⟨rfl, hB U hU hWm⟩⟩)
          rfl (by rw [List.length_map, List.length_reverse]; exact g2) hl.1 (by
            show st.map (bn_cv G) = _
            rw [← List.map_reverse, List.reverse_reverse]
            conv => lhs; rw [← List.take_append_drop (bn_p qm) st, hdrop, List.map_append]
            rfl) (lv_room (by rw [hct]; exact g4)) hd ⟨by omega, by omega⟩
        exact bn_after hrun hW.2.2.2.2 (fin _)
      · cases hk
    · cases hk
  | invokespecial k =>
    have hL : len = 3 := hL
    subst hL
    simp only [bn_k] at hk
    obtain ⟨q, hq, hk⟩ := Option.bind_eq_some_iff.mp hk
    split at hk
    · rename_i b0 r0 hdrop
      split at hk
      · rename_i hg
        obtain ⟨g1, g2, g4, g5, g6, g7⟩ := hg
        obtain ⟨qk, qm⟩ := q
        dsimp only at g1 g2 g4 g5 g6 g7 hk hdrop
        simp only [Option.some.injEq, Prod.mk.injEq] at hk
        obtain ⟨e1, e2, e3⟩ := hk
        subst e1
        subst e2
        subst e3
        obtain ⟨i, hM⟩ := bn_ml_ok hq
        have hct := bn_ct_cv G r0
        have hst : st.map (bn_cv G) = (((st.take (bn_p qm)).reverse).map (bn_cv G)).reverse ++ .ref (G.1 + b0) :: r0.map (bn_cv G) := by
          rw [← List.map_reverse, List.reverse_reverse]
          conv => lhs; rw [← List.take_append_drop (bn_p qm) st, hdrop, List.map_append]
          rfl
        rcases g1 with g1 | g1
        · subst g1
          obtain ⟨w0, w1, w2, w3, w4⟩ := hM
          have hY := w0
          obtain ⟨y1, y2, y3, y4, y5⟩ := w0
          have hne := bn_cnX y5
          rw [← y3] at hne
          have hrun := va_runI (l := l) (e := e) (below := below) (meth := meth) (H := H) (locs := locs) (g := F0 m pc A (st.map (bn_cv G))) (As := ((st.take (bn_p qm)).reverse).map (bn_cv G)) (b := G.1 + b0) (rest := r0.map (bn_cv G)) (cells := h.2.1 - n0) (slots := h.2.2.1 - z0) hF (bn_met hS l he g5 hY G)
            (⟨callB_of (bn_p qm) hts (bn_good qm hY) (by unfold bn_ws; rw [w4]) rfl rfl (hts _ (bn_TT_in y2 rfl)) (hts _ (bn_TT_in w1 rfl)) ⟨hne.1, hne.2.1, y4⟩ ⟨Nat.le_trans g6 C.2.2.2.2.2.2.1, Nat.le_trans g7 C.2.2.2.2.2.2.2.1⟩, w3, hts _ (bn_TT_in w2 rfl)⟩)
            (⟨bn_blind _ _ _, fun U hU hWm => ⟨rfl, hB U hU hWm⟩⟩)
            rfl (by rw [List.length_map, List.length_reverse]; exact g2) hl.1 hst (lv_room (by rw [hct]; exact g4)) hd ⟨by omega, by omega⟩
          exact bn_after hrun hW.2.2.2.2 (fin _)
        · subst g1
          obtain ⟨w0, w1, w2, w3, w4⟩ := hM
          have hY := w0
          obtain ⟨y1, y2, y3, y4, y5⟩ := w0
          have hne := bn_cnX y5
          rw [← y3] at hne
          have hrun := va_runIN (l := l) (e := e) (below := below) (meth := meth) (H := H) (locs := locs) (g := F0 m pc A (st.map (bn_cv G))) (As := ((st.take (bn_p qm)).reverse).map (bn_cv G)) (b := G.1 + b0) (rest := r0.map (bn_cv G)) (cells := h.2.1 - n0) (slots := h.2.2.1 - z0) hF (bn_met hS l he g5 hY G)
            (⟨va_cnB (bn_p qm) hts (bn_good qm hY) (by unfold bn_ws; rw [w4]) rfl rfl (C.2.2.2.2.2.2.2.2.2.1.2 _ w1) (hts _ (bn_TT_in y2 rfl)) ⟨hne.1, hne.2.1, y4⟩ ⟨Nat.le_trans g6 C.2.2.2.2.2.2.1, Nat.le_trans g7 C.2.2.2.2.2.2.2.1⟩, w3, hts _ (bn_TT_in w2 rfl)⟩)
            (⟨bn_blind _ _ _, fun U hU hWm => ⟨rfl, hB U hU hWm⟩⟩)
            rfl (by rw [List.length_map, List.length_reverse]; exact g2) hl.1 hst (lv_room (by rw [hct]; exact g4)) hd ⟨by omega, by omega⟩
          exact bn_after hrun hW.2.2.2.2 (fin _)
      · cases hk
    · cases hk
  | invokestatic k =>
    have hL : len = 3 := hL
    subst hL
    simp only [bn_k] at hk
    obtain ⟨q, hq, hk⟩ := Option.bind_eq_some_iff.mp hk
    split at hk
    · rename_i hg
      obtain ⟨g1, g2, g4, g5, g6, g7⟩ := hg
      obtain ⟨qk, qm⟩ := q
      dsimp only at g1 g2 g4 g5 g6 g7 hk
      subst g1
      simp only [Option.some.injEq, Prod.mk.injEq] at hk
      obtain ⟨e1, e2, e3⟩ := hk
      subst e1
      subst e2
      subst e3
      obtain ⟨i, hM⟩ := bn_ml_ok hq
      obtain ⟨w0, w1, w2⟩ := hM
      have hY := w0
      obtain ⟨y1, y2, y3, y4, y5⟩ := w0
      have hne := bn_cnX y5
      rw [← y3] at hne
      have hct := bn_ct_cv G (st.drop (bn_p qm))
      have hrun := va_runS (l := l) (e := e) (below := below) (meth := meth) (H := H) (locs := locs) (g := F0 m pc A (st.map (bn_cv G))) (As := ((st.take (bn_p qm)).reverse).map (bn_cv G)) (rest := (st.drop (bn_p qm)).map (bn_cv G)) (cells := h.2.1 - n0) (slots := h.2.2.1 - z0) hF (bn_met hS l he g5 hY G)
        (⟨callB_of (bn_p qm) hts (bn_good qm hY) rfl rfl rfl (hts _ (bn_TT_in y2 rfl)) (hts _ (bn_TT_in w1 rfl)) ⟨hne.1, hne.2.1, y4⟩ ⟨Nat.le_trans g6 C.2.2.2.2.2.2.1, Nat.le_trans g7 C.2.2.2.2.2.2.2.1⟩, hts _ (bn_TT_in w2 rfl)⟩)
        (⟨bn_blind _ _ _, fun U hU hWm => ⟨rfl, hB U hU hWm⟩⟩)
        rfl (by rw [List.length_map, List.length_reverse]; exact g2) hl.1 (by
          show st.map (bn_cv G) = _
          rw [← List.map_reverse, List.reverse_reverse, ← List.map_append, List.take_append_drop]) (lv_room (by rw [hct]; exact g4)) hd ⟨by omega, by omega⟩
      exact bn_after hrun hW.2.2.2.2 (fin _)
    · cases hk
  | _ => cases hk
theorem bn_sound : ∀ n, bn_S n := by
  intro n
  induction n with
  | zero => intro mi pc ls st h r h' e; cases e
  | succ n ih =>
    intro mi pc ls st h r h' e
    have e : bn_F (bn_go n) mi pc ls st h = some (r, h') := e
    unfold bn_F at e
    split at e
    · cases e
    · rename_i i len hd
      split at e
      · rename_i hL
        split at e
        · rename_i r0 hr0
          cases e
          obtain ⟨rfl, hR⟩ := bn_rt_inv hd hL hr0
          refine ⟨⟨Nat.le_refl _, Nat.le_refl _, rfl⟩, fun p l e R s m args below meth c Q G n0 z0 H locs A C hs hn hz hc hzz hW hl kk => ?_⟩
          have := kk H locs pc A hW hR
          cases r <;> exact this
        · split at e
          · rename_i mj as rr hk
            obtain ⟨a, h1, h2⟩ := Option.bind_eq_some_iff.mp e
            obtain ⟨v, hv⟩ := a
            split at h2
            rotate_left
            · cases h2
            obtain ⟨⟨x1, x2, x3⟩, -⟩ := ih _ _ _ _ _ _ _ h1
            obtain ⟨⟨y1, y2, y3⟩, hg⟩ := ih _ _ _ _ _ _ _ h2
            dsimp only at y1 y2 y3 hg
            refine ⟨⟨by omega, by omega, y3.trans x3⟩, fun p l e R s m args below meth c Q G n0 z0 H locs A C hs hn hz hc hzz hW hl kk => ?_⟩
            refine bn_callW ih hd hL hk h1 C hs hn hz (by omega) (by omega) hW hl (fun H' locs' hW' => ?_)
            have := hg p l e R s m args below meth c Q G n0 z0 H' locs' A (by rw [x3]; exact C) hs (by omega) (by omega) hc hzz hW' hl kk
            rw [List.map_append] at this
            cases v <;> exact this
          · obtain ⟨a, h1, h2⟩ := Option.bind_eq_some_iff.mp e
            obtain ⟨⟨x1, x2, x3⟩, hx⟩ := bn_xW hd hL h1
            obtain ⟨⟨y1, y2, y3⟩, hg⟩ := ih _ _ _ _ _ _ _ h2
            refine ⟨⟨by omega, by omega, y3.trans x3⟩, fun p l e R s m args below meth c Q G n0 z0 H locs A C hs hn hz hc hzz hW hl kk => ?_⟩
            refine hx p l e R s m args below meth c Q G n0 z0 H locs A C hs hn hz (by omega) (by omega) hW hl (fun H' locs' A' hW' hl' => ?_)
            exact hg p l e R s m args below meth c Q G n0 z0 H' locs' A' (by rw [x3]; exact C) hs (by omega) (by omega) hc hzz hW' hl' kk
      · cases e
end
