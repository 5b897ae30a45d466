section
-- ===== PART A: goes FIRST, ahead of the names: the tables' words, and 'selects' of the private methods out of them =====
/-- a private method of a class that the tables say can be made, by its rows of tables_1 -/
def lw_okq (q : MethodName × Nat) : Prop := (q.1.cls ≠ "java/lang/invoke/MethodHandle" ∧ q.1.cls ≠ "java/lang/invoke/VarHandle") ∧ Cond.instantiable q.1.cls q.2 ∈ tables_1 ∧ Cond.privateMethod q.1 ∈ tables_1 ∧ Cond.instanceMethod q.1 ∈ tables_1
theorem lw_p0 : lw_okq (⟨"LockLoom$Body", "closeBlock", "(II)I"⟩, 6) := ⟨⟨by decide +kernel, by decide +kernel⟩, List.mem_of_getElem? (i := 29) (by decide +kernel), List.mem_of_getElem? (i := 232) (by decide +kernel), List.mem_of_getElem? (i := 233) (by decide +kernel)⟩
theorem lw_p1 : lw_okq (⟨"LockLoom$Shelf", "isRight", "(LLockLoom$Body;I)Z"⟩, 4) := ⟨⟨by decide +kernel, by decide +kernel⟩, List.mem_of_getElem? (i := 22) (by decide +kernel), List.mem_of_getElem? (i := 260) (by decide +kernel), List.mem_of_getElem? (i := 261) (by decide +kernel)⟩
theorem lw_p2 : lw_okq (⟨"LockLoom$Shelf", "guardHeld", "(II)Z"⟩, 4) := ⟨⟨by decide +kernel, by decide +kernel⟩, List.mem_of_getElem? (i := 22) (by decide +kernel), List.mem_of_getElem? (i := 264) (by decide +kernel), List.mem_of_getElem? (i := 265) (by decide +kernel)⟩
theorem lw_p3 : lw_okq (⟨"LockLoom$Run", "leaveEnded", "(LLockLoom$Strand;)V"⟩, 7) := ⟨⟨by decide +kernel, by decide +kernel⟩, List.mem_of_getElem? (i := 81) (by decide +kernel), List.mem_of_getElem? (i := 309) (by decide +kernel), List.mem_of_getElem? (i := 310) (by decide +kernel)⟩
theorem lw_p4 : lw_okq (⟨"LockLoom$Run", "bodyOf", "(LLockLoom$Strand;)LLockLoom$Body;"⟩, 7) := ⟨⟨by decide +kernel, by decide +kernel⟩, List.mem_of_getElem? (i := 81) (by decide +kernel), List.mem_of_getElem? (i := 316) (by decide +kernel), List.mem_of_getElem? (i := 317) (by decide +kernel)⟩
theorem lw_p5 : lw_okq (⟨"LockLoom$Run", "wouldWait", "(LLockLoom$Strand;)Z"⟩, 7) := ⟨⟨by decide +kernel, by decide +kernel⟩, List.mem_of_getElem? (i := 81) (by decide +kernel), List.mem_of_getElem? (i := 333) (by decide +kernel), List.mem_of_getElem? (i := 334) (by decide +kernel)⟩
theorem lw_p6 : lw_okq (⟨"LockLoom$Run", "perform", "(LLockLoom$Strand;)V"⟩, 7) := ⟨⟨by decide +kernel, by decide +kernel⟩, List.mem_of_getElem? (i := 81) (by decide +kernel), List.mem_of_getElem? (i := 341) (by decide +kernel), List.mem_of_getElem? (i := 342) (by decide +kernel)⟩
theorem lw_p7 : lw_okq (⟨"LockLoom$Run", "readCell", "(LLockLoom$Strand;I)V"⟩, 7) := ⟨⟨by decide +kernel, by decide +kernel⟩, List.mem_of_getElem? (i := 81) (by decide +kernel), List.mem_of_getElem? (i := 349) (by decide +kernel), List.mem_of_getElem? (i := 350) (by decide +kernel)⟩
theorem lw_p8 : lw_okq (⟨"LockLoom$Run", "noteRace", "(LLockLoom$Strand;IZ)V"⟩, 7) := ⟨⟨by decide +kernel, by decide +kernel⟩, List.mem_of_getElem? (i := 81) (by decide +kernel), List.mem_of_getElem? (i := 353) (by decide +kernel), List.mem_of_getElem? (i := 354) (by decide +kernel)⟩
theorem lw_p9 : lw_okq (⟨"LockLoom$Run", "writeCell", "(LLockLoom$Strand;I)V"⟩, 7) := ⟨⟨by decide +kernel, by decide +kernel⟩, List.mem_of_getElem? (i := 81) (by decide +kernel), List.mem_of_getElem? (i := 365) (by decide +kernel), List.mem_of_getElem? (i := 366) (by decide +kernel)⟩
theorem lw_p10 : lw_okq (⟨"LockLoom$Run", "endBlock", "(LLockLoom$Strand;LLockLoom$Body;I)V"⟩, 7) := ⟨⟨by decide +kernel, by decide +kernel⟩, List.mem_of_getElem? (i := 81) (by decide +kernel), List.mem_of_getElem? (i := 380) (by decide +kernel), List.mem_of_getElem? (i := 381) (by decide +kernel)⟩
theorem lw_p11 : lw_okq (⟨"LockLoom$Run", "fork", "(LLockLoom$Strand;I)V"⟩, 7) := ⟨⟨by decide +kernel, by decide +kernel⟩, List.mem_of_getElem? (i := 81) (by decide +kernel), List.mem_of_getElem? (i := 391) (by decide +kernel), List.mem_of_getElem? (i := 392) (by decide +kernel)⟩
theorem lw_p12 : lw_okq (⟨"LockLoomModel", "isWhole", "()Z"⟩, 24) := ⟨⟨by decide +kernel, by decide +kernel⟩, List.mem_of_getElem? (i := 463) (by decide +kernel), List.mem_of_getElem? (i := 554) (by decide +kernel), List.mem_of_getElem? (i := 555) (by decide +kernel)⟩
theorem lw_p13 : lw_okq (⟨"LockLoomModel", "kindAt", "(II)I"⟩, 24) := ⟨⟨by decide +kernel, by decide +kernel⟩, List.mem_of_getElem? (i := 463) (by decide +kernel), List.mem_of_getElem? (i := 558) (by decide +kernel), List.mem_of_getElem? (i := 559) (by decide +kernel)⟩
theorem lw_p14 : lw_okq (⟨"LockLoomModel", "openerOf", "(II)I"⟩, 24) := ⟨⟨by decide +kernel, by decide +kernel⟩, List.mem_of_getElem? (i := 463) (by decide +kernel), List.mem_of_getElem? (i := 562) (by decide +kernel), List.mem_of_getElem? (i := 563) (by decide +kernel)⟩
theorem lw_p15 : lw_okq (⟨"LockLoomModel", "closerOf", "(IIZ)I"⟩, 24) := ⟨⟨by decide +kernel, by decide +kernel⟩, List.mem_of_getElem? (i := 463) (by decide +kernel), List.mem_of_getElem? (i := 569) (by decide +kernel), List.mem_of_getElem? (i := 570) (by decide +kernel)⟩
def lw_privs_1 : List (MethodName × Nat) := [(⟨"LockLoom$Body", "closeBlock", "(II)I"⟩, 6), (⟨"LockLoom$Shelf", "isRight", "(LLockLoom$Body;I)Z"⟩, 4), (⟨"LockLoom$Shelf", "guardHeld", "(II)Z"⟩, 4), (⟨"LockLoom$Run", "leaveEnded", "(LLockLoom$Strand;)V"⟩, 7), (⟨"LockLoom$Run", "bodyOf", "(LLockLoom$Strand;)LLockLoom$Body;"⟩, 7), (⟨"LockLoom$Run", "wouldWait", "(LLockLoom$Strand;)Z"⟩, 7), (⟨"LockLoom$Run", "perform", "(LLockLoom$Strand;)V"⟩, 7), (⟨"LockLoom$Run", "readCell", "(LLockLoom$Strand;I)V"⟩, 7), (⟨"LockLoom$Run", "noteRace", "(LLockLoom$Strand;IZ)V"⟩, 7), (⟨"LockLoom$Run", "writeCell", "(LLockLoom$Strand;I)V"⟩, 7), (⟨"LockLoom$Run", "endBlock", "(LLockLoom$Strand;LLockLoom$Body;I)V"⟩, 7), (⟨"LockLoom$Run", "fork", "(LLockLoom$Strand;I)V"⟩, 7), (⟨"LockLoomModel", "isWhole", "()Z"⟩, 24), (⟨"LockLoomModel", "kindAt", "(II)I"⟩, 24), (⟨"LockLoomModel", "openerOf", "(II)I"⟩, 24), (⟨"LockLoomModel", "closerOf", "(IIZ)I"⟩, 24)]
theorem lw_r1 : ∀ q ∈ lw_privs_1, lw_okq q := List.forall_mem_cons.mpr ⟨lw_p0, List.forall_mem_cons.mpr ⟨lw_p1, List.forall_mem_cons.mpr ⟨lw_p2, List.forall_mem_cons.mpr ⟨lw_p3, List.forall_mem_cons.mpr ⟨lw_p4, List.forall_mem_cons.mpr ⟨lw_p5, List.forall_mem_cons.mpr ⟨lw_p6, List.forall_mem_cons.mpr ⟨lw_p7, List.forall_mem_cons.mpr ⟨lw_p8, List.forall_mem_cons.mpr ⟨lw_p9, List.forall_mem_cons.mpr ⟨lw_p10, List.forall_mem_cons.mpr ⟨lw_p11, List.forall_mem_cons.mpr ⟨lw_p12, List.forall_mem_cons.mpr ⟨lw_p13, List.forall_mem_cons.mpr ⟨lw_p14, List.forall_mem_cons.mpr ⟨lw_p15, fun _ h => absurd h List.not_mem_nil⟩⟩⟩⟩⟩⟩⟩⟩⟩⟩⟩⟩⟩⟩⟩⟩
theorem lw_p16 : lw_okq (⟨"LockLoomModel", "numberAt", "(II)I"⟩, 24) := ⟨⟨by decide +kernel, by decide +kernel⟩, List.mem_of_getElem? (i := 463) (by decide +kernel), List.mem_of_getElem? (i := 573) (by decide +kernel), List.mem_of_getElem? (i := 574) (by decide +kernel)⟩
theorem lw_p17 : lw_okq (⟨"LockLoomModel", "isRight", "(II)Z"⟩, 24) := ⟨⟨by decide +kernel, by decide +kernel⟩, List.mem_of_getElem? (i := 463) (by decide +kernel), List.mem_of_getElem? (i := 585) (by decide +kernel), List.mem_of_getElem? (i := 586) (by decide +kernel)⟩
theorem lw_p18 : lw_okq (⟨"LockLoomModel", "heldAt", "(II)I"⟩, 24) := ⟨⟨by decide +kernel, by decide +kernel⟩, List.mem_of_getElem? (i := 463) (by decide +kernel), List.mem_of_getElem? (i := 589) (by decide +kernel), List.mem_of_getElem? (i := 590) (by decide +kernel)⟩
theorem lw_p19 : lw_okq (⟨"LockLoomModel", "begin", "(III)V"⟩, 24) := ⟨⟨by decide +kernel, by decide +kernel⟩, List.mem_of_getElem? (i := 463) (by decide +kernel), List.mem_of_getElem? (i := 602) (by decide +kernel), List.mem_of_getElem? (i := 603) (by decide +kernel)⟩
theorem lw_p20 : lw_okq (⟨"LockLoomModel", "enter", "(II)V"⟩, 24) := ⟨⟨by decide +kernel, by decide +kernel⟩, List.mem_of_getElem? (i := 463) (by decide +kernel), List.mem_of_getElem? (i := 606) (by decide +kernel), List.mem_of_getElem? (i := 607) (by decide +kernel)⟩
theorem lw_p21 : lw_okq (⟨"LockLoomModel", "leave", "(I)V"⟩, 24) := ⟨⟨by decide +kernel, by decide +kernel⟩, List.mem_of_getElem? (i := 463) (by decide +kernel), List.mem_of_getElem? (i := 610) (by decide +kernel), List.mem_of_getElem? (i := 611) (by decide +kernel)⟩
theorem lw_p22 : lw_okq (⟨"LockLoomModel", "isThread", "(I)Z"⟩, 24) := ⟨⟨by decide +kernel, by decide +kernel⟩, List.mem_of_getElem? (i := 463) (by decide +kernel), List.mem_of_getElem? (i := 618) (by decide +kernel), List.mem_of_getElem? (i := 619) (by decide +kernel)⟩
theorem lw_p23 : lw_okq (⟨"LockLoomModel", "waitsFor", "(I)I"⟩, 24) := ⟨⟨by decide +kernel, by decide +kernel⟩, List.mem_of_getElem? (i := 463) (by decide +kernel), List.mem_of_getElem? (i := 622) (by decide +kernel), List.mem_of_getElem? (i := 623) (by decide +kernel)⟩
theorem lw_p24 : lw_okq (⟨"LockLoomModel", "does", "(III)V"⟩, 24) := ⟨⟨by decide +kernel, by decide +kernel⟩, List.mem_of_getElem? (i := 463) (by decide +kernel), List.mem_of_getElem? (i := 626) (by decide +kernel), List.mem_of_getElem? (i := 627) (by decide +kernel)⟩
theorem lw_p25 : lw_okq (⟨"LockLoomModel", "meets", "(III)V"⟩, 24) := ⟨⟨by decide +kernel, by decide +kernel⟩, List.mem_of_getElem? (i := 463) (by decide +kernel), List.mem_of_getElem? (i := 630) (by decide +kernel), List.mem_of_getElem? (i := 631) (by decide +kernel)⟩
theorem lw_p26 : lw_okq (⟨"LockLoomModel", "mark", "()V"⟩, 24) := ⟨⟨by decide +kernel, by decide +kernel⟩, List.mem_of_getElem? (i := 463) (by decide +kernel), List.mem_of_getElem? (i := 634) (by decide +kernel), List.mem_of_getElem? (i := 635) (by decide +kernel)⟩
theorem lw_p27 : lw_okq (⟨"LockLoomModel", "takes", "(II)V"⟩, 24) := ⟨⟨by decide +kernel, by decide +kernel⟩, List.mem_of_getElem? (i := 463) (by decide +kernel), List.mem_of_getElem? (i := 638) (by decide +kernel), List.mem_of_getElem? (i := 639) (by decide +kernel)⟩
theorem lw_p28 : lw_okq (⟨"LockLoomModel", "ends", "(III)V"⟩, 24) := ⟨⟨by decide +kernel, by decide +kernel⟩, List.mem_of_getElem? (i := 463) (by decide +kernel), List.mem_of_getElem? (i := 642) (by decide +kernel), List.mem_of_getElem? (i := 643) (by decide +kernel)⟩
def lw_privs_2 : List (MethodName × Nat) := [(⟨"LockLoomModel", "numberAt", "(II)I"⟩, 24), (⟨"LockLoomModel", "isRight", "(II)Z"⟩, 24), (⟨"LockLoomModel", "heldAt", "(II)I"⟩, 24), (⟨"LockLoomModel", "begin", "(III)V"⟩, 24), (⟨"LockLoomModel", "enter", "(II)V"⟩, 24), (⟨"LockLoomModel", "leave", "(I)V"⟩, 24), (⟨"LockLoomModel", "isThread", "(I)Z"⟩, 24), (⟨"LockLoomModel", "waitsFor", "(I)I"⟩, 24), (⟨"LockLoomModel", "does", "(III)V"⟩, 24), (⟨"LockLoomModel", "meets", "(III)V"⟩, 24), (⟨"LockLoomModel", "mark", "()V"⟩, 24), (⟨"LockLoomModel", "takes", "(II)V"⟩, 24), (⟨"LockLoomModel", "ends", "(III)V"⟩, 24)]
theorem lw_r2 : ∀ q ∈ lw_privs_2, lw_okq q := List.forall_mem_cons.mpr ⟨lw_p16, List.forall_mem_cons.mpr ⟨lw_p17, List.forall_mem_cons.mpr ⟨lw_p18, List.forall_mem_cons.mpr ⟨lw_p19, List.forall_mem_cons.mpr ⟨lw_p20, List.forall_mem_cons.mpr ⟨lw_p21, List.forall_mem_cons.mpr ⟨lw_p22, List.forall_mem_cons.mpr ⟨lw_p23, List.forall_mem_cons.mpr ⟨lw_p24, List.forall_mem_cons.mpr ⟨lw_p25, List.forall_mem_cons.mpr ⟨lw_p26, List.forall_mem_cons.mpr ⟨lw_p27, List.forall_mem_cons.mpr ⟨lw_p28, fun _ h => absurd h List.not_mem_nil⟩⟩⟩⟩⟩⟩⟩⟩⟩⟩⟩⟩⟩
def lw_privs : List (MethodName × Nat) := lw_privs_1 ++ (lw_privs_2)
def lw_tbl : List Cond := k2_sels lw_privs ++ tables_1
theorem lw_privs_ok : ∀ q ∈ lw_privs, lw_okq q := by
  show ∀ q ∈ lw_privs_1 ++ (lw_privs_2), lw_okq q
  exact List.forall_mem_append.mpr ⟨lw_r1, lw_r2⟩
end
section
theorem pm_in1 {w : Cond} (h : w ∈ tables_1_1 ++ (tables_1_2 ++ tables_1_3)) : w ∈ lw_tbl := List.mem_append_right _ h
theorem pm_in0 {w : Cond} (h : w ∈ k2_sels lw_privs) : w ∈ lw_tbl := List.mem_append_left _ h
def pm_gd (w : Cond) : Bool := w.onTables && w.keepsH
abbrev R_Lo : String := "LockLoom"
abbrev R_Sh : String := "LockLoom$Shelf"
abbrev R_Bo : String := "LockLoom$Body"
abbrev R_Ru : String := "LockLoom$Run"
abbrev R_Rl : String := "LockLoom$RaceLog"
abbrev R_Sd : String := "LockLoom$Strand"
abbrev R_Lk : String := "LockLoom$Lock"
abbrev R_Ce : String := "LockLoom$Cell"
abbrev R_Mo : String := "LockLoomModel"
abbrev R_Ar : String := "java/util/Arrays"
abbrev R_Law : String := "LockLoomLaw"
def T_Lo : u_T := fun k => match k with
  | 0 => ("LockLoom", "shelf", "LLockLoom$Shelf;", true)
  | _ => ("LockLoom", "run", "LLockLoom$Run;", true)
def T_Sh : u_T := fun k => match k with
  | 0 => ("LockLoom$Shelf", "bodies", "[LLockLoom$Body;", true)
  | 1 => ("LockLoom$Shelf", "guards", "[I", true)
  | 2 => ("LockLoom$Shelf", "text", "LLockLoom$Body;", false)
  | _ => ("LockLoom$Shelf", "bodyCount", "I", false)
def T_Bo : u_T := fun k => match k with
  | 0 => ("LockLoom$Body", "kinds", "[I", true)
  | 1 => ("LockLoom$Body", "numbers", "[I", true)
  | 2 => ("LockLoom$Body", "partners", "[I", true)
  | 3 => ("LockLoom$Body", "held", "[I", true)
  | 4 => ("LockLoom$Body", "size", "I", false)
  | _ => ("LockLoom$Body", "requires", "I", false)
def T_Ru : u_T := fun k => match k with
  | 0 => ("LockLoom$Run", "shelf", "LLockLoom$Shelf;", true)
  | 1 => ("LockLoom$Run", "strands", "[LLockLoom$Strand;", true)
  | 2 => ("LockLoom$Run", "locks", "[LLockLoom$Lock;", true)
  | 3 => ("LockLoom$Run", "cells", "[LLockLoom$Cell;", true)
  | 4 => ("LockLoom$Run", "raceLog", "LLockLoom$RaceLog;", true)
  | 5 => ("LockLoom$Run", "strandCount", "I", false)
  | _ => ("LockLoom$Run", "steps", "I", false)
def T_Rl : u_T := fun k => match k with
  | 0 => ("LockLoom$RaceLog", "parts", "[I", true)
  | _ => ("LockLoom$RaceLog", "total", "I", false)
def T_Sd : u_T := fun k => match k with
  | 0 => ("LockLoom$Strand", "number", "I", true)
  | 1 => ("LockLoom$Strand", "bodies", "[I", true)
  | 2 => ("LockLoom$Strand", "places", "[I", true)
  | 3 => ("LockLoom$Strand", "clock", "[I", true)
  | 4 => ("LockLoom$Strand", "depth", "I", false)
  | _ => ("LockLoom$Strand", "value", "I", false)
def T_Lk : u_T := fun k => match k with
  | 0 => ("LockLoom$Lock", "clock", "[I", true)
  | 1 => ("LockLoom$Lock", "holder", "I", false)
  | _ => ("LockLoom$Lock", "times", "I", false)
def T_Ce : u_T := fun k => match k with
  | 0 => ("LockLoom$Cell", "reads", "[I", true)
  | 1 => ("LockLoom$Cell", "writes", "[I", true)
  | _ => ("LockLoom$Cell", "value", "I", false)
def T_Mo : u_T := fun k => match k with
  | 0 => ("LockLoomModel", "kinds", "[I", true)
  | 1 => ("LockLoomModel", "numbers", "[I", true)
  | 2 => ("LockLoomModel", "sizes", "[I", true)
  | 3 => ("LockLoomModel", "required", "[I", true)
  | 4 => ("LockLoomModel", "bodies", "I", false)
  | 5 => ("LockLoomModel", "guards", "[I", true)
  | 6 => ("LockLoomModel", "runs", "Z", false)
  | 7 => ("LockLoomModel", "cells", "[I", true)
  | 8 => ("LockLoomModel", "owner", "[I", true)
  | 9 => ("LockLoomModel", "times", "[I", true)
  | 10 => ("LockLoomModel", "freed", "[I", true)
  | 11 => ("LockLoomModel", "threads", "I", false)
  | 12 => ("LockLoomModel", "has", "[I", true)
  | 13 => ("LockLoomModel", "depth", "[I", true)
  | 14 => ("LockLoomModel", "inBody", "[I", true)
  | 15 => ("LockLoomModel", "places", "[I", true)
  | 16 => ("LockLoomModel", "latest", "[I", true)
  | 17 => ("LockLoomModel", "steps", "I", false)
  | 18 => ("LockLoomModel", "ahead", "[I", true)
  | 19 => ("LockLoomModel", "other", "[I", true)
  | 20 => ("LockLoomModel", "access", "[I", true)
  | 21 => ("LockLoomModel", "before", "[Z", true)
  | 22 => ("LockLoomModel", "races", "I", false)
  | _ => ("LockLoomModel", "racing", "[I", true)
/-- the types of an array's elements, of an object's fields -/
def pm_ft (t : Nat) : Nat → FieldType := match t with
  | 0 => fun _ => .int
  | 1 => fun _ => .boolean
  | 2 => fun _ => .object "LockLoom$Body"
  | 3 => fun _ => .object "LockLoom$Strand"
  | 4 => fun _ => .object "LockLoom$Lock"
  | 5 => fun _ => .object "LockLoom$Cell"
  | 16 => fun k => match k with
    | 0 => .object "LockLoom$Shelf"
    | _ => .object "LockLoom$Run"
  | 17 => fun k => match k with
    | 0 => .array (.object "LockLoom$Body")
    | 1 => .array (.int)
    | 2 => .object "LockLoom$Body"
    | _ => .int
  | 18 => fun k => match k with
    | 0 => .array (.int)
    | 1 => .array (.int)
    | 2 => .array (.int)
    | 3 => .array (.int)
    | 4 => .int
    | _ => .int
  | 19 => fun k => match k with
    | 0 => .object "LockLoom$Shelf"
    | 1 => .array (.object "LockLoom$Strand")
    | 2 => .array (.object "LockLoom$Lock")
    | 3 => .array (.object "LockLoom$Cell")
    | 4 => .object "LockLoom$RaceLog"
    | 5 => .int
    | _ => .int
  | 20 => fun k => match k with
    | 0 => .array (.int)
    | _ => .int
  | 21 => fun k => match k with
    | 0 => .int
    | 1 => .array (.int)
    | 2 => .array (.int)
    | 3 => .array (.int)
    | 4 => .int
    | _ => .int
  | 22 => fun k => match k with
    | 0 => .array (.int)
    | 1 => .int
    | _ => .int
  | 23 => fun k => match k with
    | 0 => .array (.int)
    | 1 => .array (.int)
    | _ => .int
  | 24 => fun k => match k with
    | 0 => .array (.int)
    | 1 => .array (.int)
    | 2 => .array (.int)
    | 3 => .array (.int)
    | 4 => .int
    | 5 => .array (.int)
    | 6 => .boolean
    | 7 => .array (.int)
    | 8 => .array (.int)
    | 9 => .array (.int)
    | 10 => .array (.int)
    | 11 => .int
    | 12 => .array (.int)
    | 13 => .array (.int)
    | 14 => .array (.int)
    | 15 => .array (.int)
    | 16 => .array (.int)
    | 17 => .int
    | 18 => .array (.int)
    | 19 => .array (.int)
    | 20 => .array (.int)
    | 21 => .array (.boolean)
    | 22 => .int
    | _ => .array (.int)
  | _ => fun _ => .int
def pm_tg : List FieldType := [.int, .boolean, .object "LockLoom$Body", .object "LockLoom$Strand", .object "LockLoom$Lock", .object "LockLoom$Cell"]
abbrev vwCl : List vw_C := [(R_Lo, T_Lo, 2), (R_Sh, T_Sh, 4), (R_Bo, T_Bo, 6), (R_Ru, T_Ru, 7), (R_Rl, T_Rl, 2), (R_Sd, T_Sd, 6), (R_Lk, T_Lk, 3), (R_Ce, T_Ce, 3), (R_Mo, T_Mo, 24)]
theorem lay_Lo_0 : u_lay R_Lo T_Lo 0 ∈ lw_tbl ∧ pm_gd (u_lay R_Lo T_Lo 0) = true := ⟨pm_in1 (List.mem_append_left _ (List.mem_of_getElem? (i := 196) rfl)), rfl⟩
theorem lay_Lo_1 : u_lay R_Lo T_Lo 1 ∈ lw_tbl ∧ pm_gd (u_lay R_Lo T_Lo 1) = true := ⟨pm_in1 (List.mem_append_left _ (List.mem_of_getElem? (i := 198) rfl)), rfl⟩
theorem lay_Sh_0 : u_lay R_Sh T_Sh 0 ∈ lw_tbl ∧ pm_gd (u_lay R_Sh T_Sh 0) = true := ⟨pm_in1 (List.mem_append_left _ (List.mem_of_getElem? (i := 71) rfl)), rfl⟩
theorem lay_Sh_1 : u_lay R_Sh T_Sh 1 ∈ lw_tbl ∧ pm_gd (u_lay R_Sh T_Sh 1) = true := ⟨pm_in1 (List.mem_append_left _ (List.mem_of_getElem? (i := 73) rfl)), rfl⟩
theorem lay_Sh_2 : u_lay R_Sh T_Sh 2 ∈ lw_tbl ∧ pm_gd (u_lay R_Sh T_Sh 2) = true := ⟨pm_in1 (List.mem_append_left _ (List.mem_of_getElem? (i := 75) rfl)), rfl⟩
theorem lay_Sh_3 : u_lay R_Sh T_Sh 3 ∈ lw_tbl ∧ pm_gd (u_lay R_Sh T_Sh 3) = true := ⟨pm_in1 (List.mem_append_left _ (List.mem_of_getElem? (i := 77) rfl)), rfl⟩
theorem lay_Bo_0 : u_lay R_Bo T_Bo 0 ∈ lw_tbl ∧ pm_gd (u_lay R_Bo T_Bo 0) = true := ⟨pm_in1 (List.mem_append_left _ (List.mem_of_getElem? (i := 49) rfl)), rfl⟩
theorem lay_Bo_1 : u_lay R_Bo T_Bo 1 ∈ lw_tbl ∧ pm_gd (u_lay R_Bo T_Bo 1) = true := ⟨pm_in1 (List.mem_append_left _ (List.mem_of_getElem? (i := 51) rfl)), rfl⟩
theorem lay_Bo_2 : u_lay R_Bo T_Bo 2 ∈ lw_tbl ∧ pm_gd (u_lay R_Bo T_Bo 2) = true := ⟨pm_in1 (List.mem_append_left _ (List.mem_of_getElem? (i := 53) rfl)), rfl⟩
theorem lay_Bo_3 : u_lay R_Bo T_Bo 3 ∈ lw_tbl ∧ pm_gd (u_lay R_Bo T_Bo 3) = true := ⟨pm_in1 (List.mem_append_left _ (List.mem_of_getElem? (i := 55) rfl)), rfl⟩
theorem lay_Bo_4 : u_lay R_Bo T_Bo 4 ∈ lw_tbl ∧ pm_gd (u_lay R_Bo T_Bo 4) = true := ⟨pm_in1 (List.mem_append_left _ (List.mem_of_getElem? (i := 57) rfl)), rfl⟩
theorem lay_Bo_5 : u_lay R_Bo T_Bo 5 ∈ lw_tbl ∧ pm_gd (u_lay R_Bo T_Bo 5) = true := ⟨pm_in1 (List.mem_append_left _ (List.mem_of_getElem? (i := 59) rfl)), rfl⟩
theorem lay_Ru_0 : u_lay R_Ru T_Ru 0 ∈ lw_tbl ∧ pm_gd (u_lay R_Ru T_Ru 0) = true := ⟨pm_in1 (List.mem_append_left _ (List.mem_of_getElem? (i := 179) rfl)), rfl⟩
theorem lay_Ru_1 : u_lay R_Ru T_Ru 1 ∈ lw_tbl ∧ pm_gd (u_lay R_Ru T_Ru 1) = true := ⟨pm_in1 (List.mem_append_left _ (List.mem_of_getElem? (i := 181) rfl)), rfl⟩
theorem lay_Ru_2 : u_lay R_Ru T_Ru 2 ∈ lw_tbl ∧ pm_gd (u_lay R_Ru T_Ru 2) = true := ⟨pm_in1 (List.mem_append_left _ (List.mem_of_getElem? (i := 183) rfl)), rfl⟩
theorem lay_Ru_3 : u_lay R_Ru T_Ru 3 ∈ lw_tbl ∧ pm_gd (u_lay R_Ru T_Ru 3) = true := ⟨pm_in1 (List.mem_append_left _ (List.mem_of_getElem? (i := 185) rfl)), rfl⟩
theorem lay_Ru_4 : u_lay R_Ru T_Ru 4 ∈ lw_tbl ∧ pm_gd (u_lay R_Ru T_Ru 4) = true := ⟨pm_in1 (List.mem_append_left _ (List.mem_of_getElem? (i := 187) rfl)), rfl⟩
theorem lay_Ru_5 : u_lay R_Ru T_Ru 5 ∈ lw_tbl ∧ pm_gd (u_lay R_Ru T_Ru 5) = true := ⟨pm_in1 (List.mem_append_left _ (List.mem_of_getElem? (i := 189) rfl)), rfl⟩
theorem lay_Ru_6 : u_lay R_Ru T_Ru 6 ∈ lw_tbl ∧ pm_gd (u_lay R_Ru T_Ru 6) = true := ⟨pm_in1 (List.mem_append_left _ (List.mem_of_getElem? (i := 191) rfl)), rfl⟩
theorem lay_Rl_0 : u_lay R_Rl T_Rl 0 ∈ lw_tbl ∧ pm_gd (u_lay R_Rl T_Rl 0) = true := ⟨pm_in1 (List.mem_append_left _ (List.mem_of_getElem? (i := 101) rfl)), rfl⟩
theorem lay_Rl_1 : u_lay R_Rl T_Rl 1 ∈ lw_tbl ∧ pm_gd (u_lay R_Rl T_Rl 1) = true := ⟨pm_in1 (List.mem_append_left _ (List.mem_of_getElem? (i := 103) rfl)), rfl⟩
theorem lay_Sd_0 : u_lay R_Sd T_Sd 0 ∈ lw_tbl ∧ pm_gd (u_lay R_Sd T_Sd 0) = true := ⟨pm_in1 (List.mem_append_left _ (List.mem_of_getElem? (i := 125) rfl)), rfl⟩
theorem lay_Sd_1 : u_lay R_Sd T_Sd 1 ∈ lw_tbl ∧ pm_gd (u_lay R_Sd T_Sd 1) = true := ⟨pm_in1 (List.mem_append_left _ (List.mem_of_getElem? (i := 127) rfl)), rfl⟩
theorem lay_Sd_2 : u_lay R_Sd T_Sd 2 ∈ lw_tbl ∧ pm_gd (u_lay R_Sd T_Sd 2) = true := ⟨pm_in1 (List.mem_append_left _ (List.mem_of_getElem? (i := 129) rfl)), rfl⟩
theorem lay_Sd_3 : u_lay R_Sd T_Sd 3 ∈ lw_tbl ∧ pm_gd (u_lay R_Sd T_Sd 3) = true := ⟨pm_in1 (List.mem_append_left _ (List.mem_of_getElem? (i := 131) rfl)), rfl⟩
theorem lay_Sd_4 : u_lay R_Sd T_Sd 4 ∈ lw_tbl ∧ pm_gd (u_lay R_Sd T_Sd 4) = true := ⟨pm_in1 (List.mem_append_left _ (List.mem_of_getElem? (i := 133) rfl)), rfl⟩
theorem lay_Sd_5 : u_lay R_Sd T_Sd 5 ∈ lw_tbl ∧ pm_gd (u_lay R_Sd T_Sd 5) = true := ⟨pm_in1 (List.mem_append_left _ (List.mem_of_getElem? (i := 135) rfl)), rfl⟩
theorem lay_Lk_0 : u_lay R_Lk T_Lk 0 ∈ lw_tbl ∧ pm_gd (u_lay R_Lk T_Lk 0) = true := ⟨pm_in1 (List.mem_append_left _ (List.mem_of_getElem? (i := 147) rfl)), rfl⟩
theorem lay_Lk_1 : u_lay R_Lk T_Lk 1 ∈ lw_tbl ∧ pm_gd (u_lay R_Lk T_Lk 1) = true := ⟨pm_in1 (List.mem_append_left _ (List.mem_of_getElem? (i := 149) rfl)), rfl⟩
theorem lay_Lk_2 : u_lay R_Lk T_Lk 2 ∈ lw_tbl ∧ pm_gd (u_lay R_Lk T_Lk 2) = true := ⟨pm_in1 (List.mem_append_left _ (List.mem_of_getElem? (i := 151) rfl)), rfl⟩
theorem lay_Ce_0 : u_lay R_Ce T_Ce 0 ∈ lw_tbl ∧ pm_gd (u_lay R_Ce T_Ce 0) = true := ⟨pm_in1 (List.mem_append_left _ (List.mem_of_getElem? (i := 165) rfl)), rfl⟩
theorem lay_Ce_1 : u_lay R_Ce T_Ce 1 ∈ lw_tbl ∧ pm_gd (u_lay R_Ce T_Ce 1) = true := ⟨pm_in1 (List.mem_append_left _ (List.mem_of_getElem? (i := 167) rfl)), rfl⟩
theorem lay_Ce_2 : u_lay R_Ce T_Ce 2 ∈ lw_tbl ∧ pm_gd (u_lay R_Ce T_Ce 2) = true := ⟨pm_in1 (List.mem_append_left _ (List.mem_of_getElem? (i := 169) rfl)), rfl⟩
theorem lay_Mo_0 : u_lay R_Mo T_Mo 0 ∈ lw_tbl ∧ pm_gd (u_lay R_Mo T_Mo 0) = true := ⟨pm_in1 (List.mem_append_right _ (List.mem_append_right _ (List.mem_of_getElem? (i := 12) rfl))), rfl⟩
theorem lay_Mo_1 : u_lay R_Mo T_Mo 1 ∈ lw_tbl ∧ pm_gd (u_lay R_Mo T_Mo 1) = true := ⟨pm_in1 (List.mem_append_right _ (List.mem_append_right _ (List.mem_of_getElem? (i := 14) rfl))), rfl⟩
theorem lay_Mo_2 : u_lay R_Mo T_Mo 2 ∈ lw_tbl ∧ pm_gd (u_lay R_Mo T_Mo 2) = true := ⟨pm_in1 (List.mem_append_right _ (List.mem_append_right _ (List.mem_of_getElem? (i := 16) rfl))), rfl⟩
theorem lay_Mo_3 : u_lay R_Mo T_Mo 3 ∈ lw_tbl ∧ pm_gd (u_lay R_Mo T_Mo 3) = true := ⟨pm_in1 (List.mem_append_right _ (List.mem_append_right _ (List.mem_of_getElem? (i := 18) rfl))), rfl⟩
theorem lay_Mo_4 : u_lay R_Mo T_Mo 4 ∈ lw_tbl ∧ pm_gd (u_lay R_Mo T_Mo 4) = true := ⟨pm_in1 (List.mem_append_right _ (List.mem_append_right _ (List.mem_of_getElem? (i := 20) rfl))), rfl⟩
theorem lay_Mo_5 : u_lay R_Mo T_Mo 5 ∈ lw_tbl ∧ pm_gd (u_lay R_Mo T_Mo 5) = true := ⟨pm_in1 (List.mem_append_right _ (List.mem_append_right _ (List.mem_of_getElem? (i := 22) rfl))), rfl⟩
theorem lay_Mo_6 : u_lay R_Mo T_Mo 6 ∈ lw_tbl ∧ pm_gd (u_lay R_Mo T_Mo 6) = true := ⟨pm_in1 (List.mem_append_right _ (List.mem_append_right _ (List.mem_of_getElem? (i := 24) rfl))), rfl⟩
theorem lay_Mo_7 : u_lay R_Mo T_Mo 7 ∈ lw_tbl ∧ pm_gd (u_lay R_Mo T_Mo 7) = true := ⟨pm_in1 (List.mem_append_right _ (List.mem_append_right _ (List.mem_of_getElem? (i := 26) rfl))), rfl⟩
theorem lay_Mo_8 : u_lay R_Mo T_Mo 8 ∈ lw_tbl ∧ pm_gd (u_lay R_Mo T_Mo 8) = true := ⟨pm_in1 (List.mem_append_right _ (List.mem_append_right _ (List.mem_of_getElem? (i := 28) rfl))), rfl⟩
theorem lay_Mo_9 : u_lay R_Mo T_Mo 9 ∈ lw_tbl ∧ pm_gd (u_lay R_Mo T_Mo 9) = true := ⟨pm_in1 (List.mem_append_right _ (List.mem_append_right _ (List.mem_of_getElem? (i := 30) rfl))), rfl⟩
theorem lay_Mo_10 : u_lay R_Mo T_Mo 10 ∈ lw_tbl ∧ pm_gd (u_lay R_Mo T_Mo 10) = true := ⟨pm_in1 (List.mem_append_right _ (List.mem_append_right _ (List.mem_of_getElem? (i := 32) rfl))), rfl⟩
theorem lay_Mo_11 : u_lay R_Mo T_Mo 11 ∈ lw_tbl ∧ pm_gd (u_lay R_Mo T_Mo 11) = true := ⟨pm_in1 (List.mem_append_right _ (List.mem_append_right _ (List.mem_of_getElem? (i := 34) rfl))), rfl⟩
theorem lay_Mo_12 : u_lay R_Mo T_Mo 12 ∈ lw_tbl ∧ pm_gd (u_lay R_Mo T_Mo 12) = true := ⟨pm_in1 (List.mem_append_right _ (List.mem_append_right _ (List.mem_of_getElem? (i := 36) rfl))), rfl⟩
theorem lay_Mo_13 : u_lay R_Mo T_Mo 13 ∈ lw_tbl ∧ pm_gd (u_lay R_Mo T_Mo 13) = true := ⟨pm_in1 (List.mem_append_right _ (List.mem_append_right _ (List.mem_of_getElem? (i := 38) rfl))), rfl⟩
theorem lay_Mo_14 : u_lay R_Mo T_Mo 14 ∈ lw_tbl ∧ pm_gd (u_lay R_Mo T_Mo 14) = true := ⟨pm_in1 (List.mem_append_right _ (List.mem_append_right _ (List.mem_of_getElem? (i := 40) rfl))), rfl⟩
theorem lay_Mo_15 : u_lay R_Mo T_Mo 15 ∈ lw_tbl ∧ pm_gd (u_lay R_Mo T_Mo 15) = true := ⟨pm_in1 (List.mem_append_right _ (List.mem_append_right _ (List.mem_of_getElem? (i := 42) rfl))), rfl⟩
theorem lay_Mo_16 : u_lay R_Mo T_Mo 16 ∈ lw_tbl ∧ pm_gd (u_lay R_Mo T_Mo 16) = true := ⟨pm_in1 (List.mem_append_right _ (List.mem_append_right _ (List.mem_of_getElem? (i := 44) rfl))), rfl⟩
theorem lay_Mo_17 : u_lay R_Mo T_Mo 17 ∈ lw_tbl ∧ pm_gd (u_lay R_Mo T_Mo 17) = true := ⟨pm_in1 (List.mem_append_right _ (List.mem_append_right _ (List.mem_of_getElem? (i := 46) rfl))), rfl⟩
theorem lay_Mo_18 : u_lay R_Mo T_Mo 18 ∈ lw_tbl ∧ pm_gd (u_lay R_Mo T_Mo 18) = true := ⟨pm_in1 (List.mem_append_right _ (List.mem_append_right _ (List.mem_of_getElem? (i := 48) rfl))), rfl⟩
theorem lay_Mo_19 : u_lay R_Mo T_Mo 19 ∈ lw_tbl ∧ pm_gd (u_lay R_Mo T_Mo 19) = true := ⟨pm_in1 (List.mem_append_right _ (List.mem_append_right _ (List.mem_of_getElem? (i := 50) rfl))), rfl⟩
theorem lay_Mo_20 : u_lay R_Mo T_Mo 20 ∈ lw_tbl ∧ pm_gd (u_lay R_Mo T_Mo 20) = true := ⟨pm_in1 (List.mem_append_right _ (List.mem_append_right _ (List.mem_of_getElem? (i := 52) rfl))), rfl⟩
theorem lay_Mo_21 : u_lay R_Mo T_Mo 21 ∈ lw_tbl ∧ pm_gd (u_lay R_Mo T_Mo 21) = true := ⟨pm_in1 (List.mem_append_right _ (List.mem_append_right _ (List.mem_of_getElem? (i := 54) rfl))), rfl⟩
theorem lay_Mo_22 : u_lay R_Mo T_Mo 22 ∈ lw_tbl ∧ pm_gd (u_lay R_Mo T_Mo 22) = true := ⟨pm_in1 (List.mem_append_right _ (List.mem_append_right _ (List.mem_of_getElem? (i := 56) rfl))), rfl⟩
theorem lay_Mo_23 : u_lay R_Mo T_Mo 23 ∈ lw_tbl ∧ pm_gd (u_lay R_Mo T_Mo 23) = true := ⟨pm_in1 (List.mem_append_right _ (List.mem_append_right _ (List.mem_of_getElem? (i := 58) rfl))), rfl⟩
theorem cF_Lo : ∀ w ∈ u_ws R_Lo T_Lo 2, w ∈ lw_tbl ∧ pm_gd w = true := by
  intro w hw
  obtain ⟨k, hk, rfl⟩ := List.mem_map.mp hw
  have hk := List.mem_range.mp hk
  match k, hk with
  | 0, _ => exact lay_Lo_0
  | 1, _ => exact lay_Lo_1
  | _ + 2, hk => exact absurd hk (by omega)
theorem cT_Lo : ∀ k, k < 2 → parseFieldDescriptor (T_Lo k).2.2.1 = some (pm_ft 16 k) := by decide +kernel
theorem cN_Lo : ∀ a, a < 2 → ∀ b, b < 2 → a ≠ b → (T_Lo a).2.1 ≠ (T_Lo b).2.1 := by decide +kernel
theorem cF_Sh : ∀ w ∈ u_ws R_Sh T_Sh 4, w ∈ lw_tbl ∧ pm_gd w = true := by
  intro w hw
  obtain ⟨k, hk, rfl⟩ := List.mem_map.mp hw
  have hk := List.mem_range.mp hk
  match k, hk with
  | 0, _ => exact lay_Sh_0
  | 1, _ => exact lay_Sh_1
  | 2, _ => exact lay_Sh_2
  | 3, _ => exact lay_Sh_3
  | _ + 4, hk => exact absurd hk (by omega)
theorem cT_Sh : ∀ k, k < 4 → parseFieldDescriptor (T_Sh k).2.2.1 = some (pm_ft 17 k) := by decide +kernel
theorem cN_Sh : ∀ a, a < 4 → ∀ b, b < 4 → a ≠ b → (T_Sh a).2.1 ≠ (T_Sh b).2.1 := by decide +kernel
theorem cF_Bo : ∀ w ∈ u_ws R_Bo T_Bo 6, w ∈ lw_tbl ∧ pm_gd w = true := by
  intro w hw
  obtain ⟨k, hk, rfl⟩ := List.mem_map.mp hw
  have hk := List.mem_range.mp hk
  match k, hk with
  | 0, _ => exact lay_Bo_0
  | 1, _ => exact lay_Bo_1
  | 2, _ => exact lay_Bo_2
  | 3, _ => exact lay_Bo_3
  | 4, _ => exact lay_Bo_4
  | 5, _ => exact lay_Bo_5
  | _ + 6, hk => exact absurd hk (by omega)
theorem cT_Bo : ∀ k, k < 6 → parseFieldDescriptor (T_Bo k).2.2.1 = some (pm_ft 18 k) := by decide +kernel
theorem cN_Bo : ∀ a, a < 6 → ∀ b, b < 6 → a ≠ b → (T_Bo a).2.1 ≠ (T_Bo b).2.1 := by decide +kernel
theorem cF_Ru : ∀ w ∈ u_ws R_Ru T_Ru 7, w ∈ lw_tbl ∧ pm_gd w = true := by
  intro w hw
  obtain ⟨k, hk, rfl⟩ := List.mem_map.mp hw
  have hk := List.mem_range.mp hk
  match k, hk with
  | 0, _ => exact lay_Ru_0
  | 1, _ => exact lay_Ru_1
  | 2, _ => exact lay_Ru_2
  | 3, _ => exact lay_Ru_3
  | 4, _ => exact lay_Ru_4
  | 5, _ => exact lay_Ru_5
  | 6, _ => exact lay_Ru_6
  | _ + 7, hk => exact absurd hk (by omega)
theorem cT_Ru : ∀ k, k < 7 → parseFieldDescriptor (T_Ru k).2.2.1 = some (pm_ft 19 k) := by decide +kernel
theorem cN_Ru : ∀ a, a < 7 → ∀ b, b < 7 → a ≠ b → (T_Ru a).2.1 ≠ (T_Ru b).2.1 := by decide +kernel
theorem cF_Rl : ∀ w ∈ u_ws R_Rl T_Rl 2, w ∈ lw_tbl ∧ pm_gd w = true := by
  intro w hw
  obtain ⟨k, hk, rfl⟩ := List.mem_map.mp hw
  have hk := List.mem_range.mp hk
  match k, hk with
  | 0, _ => exact lay_Rl_0
  | 1, _ => exact lay_Rl_1
  | _ + 2, hk => exact absurd hk (by omega)
theorem cT_Rl : ∀ k, k < 2 → parseFieldDescriptor (T_Rl k).2.2.1 = some (pm_ft 20 k) := by decide +kernel
theorem cN_Rl : ∀ a, a < 2 → ∀ b, b < 2 → a ≠ b → (T_Rl a).2.1 ≠ (T_Rl b).2.1 := by decide +kernel
theorem cF_Sd : ∀ w ∈ u_ws R_Sd T_Sd 6, w ∈ lw_tbl ∧ pm_gd w = true := by
  intro w hw
  obtain ⟨k, hk, rfl⟩ := List.mem_map.mp hw
  have hk := List.mem_range.mp hk
  match k, hk with
  | 0, _ => exact lay_Sd_0
  | 1, _ => exact lay_Sd_1
  | 2, _ => exact lay_Sd_2
  | 3, _ => exact lay_Sd_3
  | 4, _ => exact lay_Sd_4
  | 5, _ => exact lay_Sd_5
  | _ + 6, hk => exact absurd hk (by omega)
theorem cT_Sd : ∀ k, k < 6 → parseFieldDescriptor (T_Sd k).2.2.1 = some (pm_ft 21 k) := by decide +kernel
theorem cN_Sd : ∀ a, a < 6 → ∀ b, b < 6 → a ≠ b → (T_Sd a).2.1 ≠ (T_Sd b).2.1 := by decide +kernel
theorem cF_Lk : ∀ w ∈ u_ws R_Lk T_Lk 3, w ∈ lw_tbl ∧ pm_gd w = true := by
  intro w hw
  obtain ⟨k, hk, rfl⟩ := List.mem_map.mp hw
  have hk := List.mem_range.mp hk
  match k, hk with
  | 0, _ => exact lay_Lk_0
  | 1, _ => exact lay_Lk_1
  | 2, _ => exact lay_Lk_2
  | _ + 3, hk => exact absurd hk (by omega)
theorem cT_Lk : ∀ k, k < 3 → parseFieldDescriptor (T_Lk k).2.2.1 = some (pm_ft 22 k) := by decide +kernel
theorem cN_Lk : ∀ a, a < 3 → ∀ b, b < 3 → a ≠ b → (T_Lk a).2.1 ≠ (T_Lk b).2.1 := by decide +kernel
theorem cF_Ce : ∀ w ∈ u_ws R_Ce T_Ce 3, w ∈ lw_tbl ∧ pm_gd w = true := by
  intro w hw
  obtain ⟨k, hk, rfl⟩ := List.mem_map.mp hw
  have hk := List.mem_range.mp hk
  match k, hk with
  | 0, _ => exact lay_Ce_0
  | 1, _ => exact lay_Ce_1
  | 2, _ => exact lay_Ce_2
  | _ + 3, hk => exact absurd hk (by omega)
theorem cT_Ce : ∀ k, k < 3 → parseFieldDescriptor (T_Ce k).2.2.1 = some (pm_ft 23 k) := by decide +kernel
theorem cN_Ce : ∀ a, a < 3 → ∀ b, b < 3 → a ≠ b → (T_Ce a).2.1 ≠ (T_Ce b).2.1 := by decide +kernel
theorem cF_Mo : ∀ w ∈ u_ws R_Mo T_Mo 24, w ∈ lw_tbl ∧ pm_gd w = true := by
  intro w hw
  obtain ⟨k, hk, rfl⟩ := List.mem_map.mp hw
  have hk := List.mem_range.mp hk
  match k, hk with
  | 0, _ => exact lay_Mo_0
  | 1, _ => exact lay_Mo_1
  | 2, _ => exact lay_Mo_2
  | 3, _ => exact lay_Mo_3
  | 4, _ => exact lay_Mo_4
  | 5, _ => exact lay_Mo_5
  | 6, _ => exact lay_Mo_6
  | 7, _ => exact lay_Mo_7
  | 8, _ => exact lay_Mo_8
  | 9, _ => exact lay_Mo_9
  | 10, _ => exact lay_Mo_10
  | 11, _ => exact lay_Mo_11
  | 12, _ => exact lay_Mo_12
  | 13, _ => exact lay_Mo_13
  | 14, _ => exact lay_Mo_14
  | 15, _ => exact lay_Mo_15
  | 16, _ => exact lay_Mo_16
  | 17, _ => exact lay_Mo_17
  | 18, _ => exact lay_Mo_18
  | 19, _ => exact lay_Mo_19
  | 20, _ => exact lay_Mo_20
  | 21, _ => exact lay_Mo_21
  | 22, _ => exact lay_Mo_22
  | 23, _ => exact lay_Mo_23
  | _ + 24, hk => exact absurd hk (by omega)
theorem cT_Mo : ∀ k, k < 24 → parseFieldDescriptor (T_Mo k).2.2.1 = some (pm_ft 24 k) := by decide +kernel
theorem cN_Mo : ∀ a, a < 24 → ∀ b, b < 24 → a ≠ b → (T_Mo a).2.1 ≠ (T_Mo b).2.1 := by decide +kernel
theorem pm_cF : ∀ (ci : Nat) (q : vw_C), vwCl[ci]? = some q → ∀ w ∈ u_ws q.1 q.2.1 q.2.2, w ∈ lw_tbl ∧ pm_gd w = true := by
  intro ci q hq
  match ci, hq with
  | 0, hq => cases hq; exact cF_Lo
  | 1, hq => cases hq; exact cF_Sh
  | 2, hq => cases hq; exact cF_Bo
  | 3, hq => cases hq; exact cF_Ru
  | 4, hq => cases hq; exact cF_Rl
  | 5, hq => cases hq; exact cF_Sd
  | 6, hq => cases hq; exact cF_Lk
  | 7, hq => cases hq; exact cF_Ce
  | 8, hq => cases hq; exact cF_Mo
  | n + 9, hq => cases hq
theorem pm_cT : ∀ (ci : Nat) (q : vw_C), vwCl[ci]? = some q → ∀ k, k < q.2.2 → parseFieldDescriptor (q.2.1 k).2.2.1 = some (pm_ft (16 + ci) k) := by
  intro ci q hq
  match ci, hq with
  | 0, hq => cases hq; exact cT_Lo
  | 1, hq => cases hq; exact cT_Sh
  | 2, hq => cases hq; exact cT_Bo
  | 3, hq => cases hq; exact cT_Ru
  | 4, hq => cases hq; exact cT_Rl
  | 5, hq => cases hq; exact cT_Sd
  | 6, hq => cases hq; exact cT_Lk
  | 7, hq => cases hq; exact cT_Ce
  | 8, hq => cases hq; exact cT_Mo
  | n + 9, hq => cases hq
theorem pm_cN : ∀ (ci : Nat) (q : vw_C), vwCl[ci]? = some q → ∀ a, a < q.2.2 → ∀ b, b < q.2.2 → a ≠ b → (q.2.1 a).2.1 ≠ (q.2.1 b).2.1 := by
  intro ci q hq
  match ci, hq with
  | 0, hq => cases hq; exact cN_Lo
  | 1, hq => cases hq; exact cN_Sh
  | 2, hq => cases hq; exact cN_Bo
  | 3, hq => cases hq; exact cN_Ru
  | 4, hq => cases hq; exact cN_Rl
  | 5, hq => cases hq; exact cN_Sd
  | 6, hq => cases hq; exact cN_Lk
  | 7, hq => cases hq; exact cN_Ce
  | 8, hq => cases hq; exact cN_Mo
  | n + 9, hq => cases hq
end
section
/-! The pure machine: a heap of numbered cells (h.1 cells, h.2.1 slots in all; h.2.2.1 c: the kind and the length of cell c, kinds below 16 are arrays, 16 + ci objects of class ci; h.2.2.2.1 c j: the int at place j; h.2.2.2.2 c j: the reference there), a list of locals, a list of operands. An instruction is a function. -/
abbrev pm_H : Type := Nat × Nat × (Nat → Nat × Nat) × (Nat → Nat → Int32) × (Nat → Nat → Option Nat)
abbrev pm_R : Type := pm_H × Option Value
abbrev pm_C : Type := Nat × List Value × List Value × pm_H
abbrev pm_O : Type := pm_R ⊕ (pm_C ⊕ (Nat × List Value × pm_C))
abbrev pm_I : Type := List Value → List Value → pm_H → Option pm_O
def pm_u {α : Type} (f : Nat → Nat → α) (c i : Nat) (x : α) : Nat → Nat → α := fun a b => if a = c ∧ b = i then x else f a b
def pm_row {α : Type} (f : Nat → Nat → α) (c : Nat) (g : Nat → α) : Nat → Nat → α := fun a b => if a = c then g b else f a b
def pm_sA (h : pm_H) (c i : Nat) (x : Int32) : pm_H := (h.1, h.2.1, h.2.2.1, pm_u h.2.2.2.1 c i x, h.2.2.2.2)
def pm_sP (h : pm_H) (c i : Nat) (x : Option Nat) : pm_H := (h.1, h.2.1, h.2.2.1, h.2.2.2.1, pm_u h.2.2.2.2 c i x)
def pm_new (h : pm_H) (t n : Nat) : pm_H := (h.1 + 1, h.2.1 + n, va_up h.2.2.1 h.1 (t, n), pm_row h.2.2.2.1 h.1 (fun _ => 0), pm_row h.2.2.2.2 h.1 (fun _ => none))
def pm_rf : FieldType → Bool
  | .object _ => true
  | .array _ => true
  | _ => false
def pm_nx (x : Nat) (lc st : List Value) (h : pm_H) : Option pm_O := some (.inr (.inl (x, lc, st, h)))
-- the instructions; x is the number of the next one
def pm_const (x : Nat) (v : Int32) : pm_I := fun lc st h => pm_nx x lc (.int v :: st) h
def pm_iload (x a : Nat) : pm_I := fun lc st h => match lc[a]? with
  | some (.int v) => pm_nx x lc (.int v :: st) h
  | _ => none
def pm_aload (x a : Nat) : pm_I := fun lc st h => match lc[a]? with
  | some (.ref v) => pm_nx x lc (.ref v :: st) h
  | some (.retAddr v) => pm_nx x lc (.retAddr v :: st) h
  | _ => none
def pm_istore (x a : Nat) : pm_I := fun lc st h => match st with
  | .int v :: st => pm_nx x (lc.set a (.int v)) st h
  | _ => none
def pm_astore (x a : Nat) : pm_I := fun lc st h => match st with
  | .ref v :: st => pm_nx x (lc.set a (.ref v)) st h
  | _ => none
def pm_iinc (x a : Nat) (v : Int32) : pm_I := fun lc st h => match lc[a]? with
  | some (.int w) => pm_nx x (lc.set a (.int (w + v))) st h
  | _ => none
def pm_bin (x : Nat) (f : Int32 → Int32 → Int32) : pm_I := fun lc st h => match st with
  | .int b :: .int a :: st => pm_nx x lc (.int (f a b) :: st) h
  | _ => none
def pm_div (x : Nat) (f : Int32 → Int32 → Int32) : pm_I := fun lc st h => match st with
  | .int b :: .int a :: st => if b = 0 then none else pm_nx x lc (.int (f a b) :: st) h
  | _ => none
def pm_ok (v : Value) : Bool := match v with
  | .int _ => true
  | .ref _ => true
  | .retAddr _ => true
  | _ => false
def pm_dup (x : Nat) : pm_I := fun lc st h => match st with
  | v :: st => if pm_ok v then pm_nx x lc (v :: v :: st) h else none
  | _ => none
def pm_dupx1 (x : Nat) : pm_I := fun lc st h => match st with
  | v :: w :: st => if pm_ok v && pm_ok w then pm_nx x lc (v :: w :: v :: st) h else none
  | _ => none
def pm_dup2 (x : Nat) : pm_I := fun lc st h => match st with
  | v :: w :: st => if pm_ok v && pm_ok w then pm_nx x lc (v :: w :: v :: w :: st) h else none
  | _ => none
def pm_pop (x : Nat) : pm_I := fun lc st h => match st with
  | v :: st => if pm_ok v then pm_nx x lc st h else none
  | _ => none
/-- t: where to, if so; x: where to, if not -/
def pm_if (t x : Nat) (q : Int32 → Bool) : pm_I := fun lc st h => match st with
  | .int a :: st => if q a then pm_nx t lc st h else pm_nx x lc st h
  | _ => none
def pm_icmp (t x : Nat) (q : Int32 → Int32 → Bool) : pm_I := fun lc st h => match st with
  | .int b :: .int a :: st => if q a b then pm_nx t lc st h else pm_nx x lc st h
  | _ => none
def pm_goto (t : Nat) : pm_I := fun lc st h => pm_nx t lc st h
def pm_swt (ps : List (Int32 × Nat)) (d : Nat) (v : Int32) (k : Nat → Option pm_O) : Option pm_O := match ps with
  | [] => k d
  | (a, t) :: ps => if v = a then k t else pm_swt ps d v k
def pm_sw (ps : List (Int32 × Nat)) (d : Nat) : pm_I := fun lc st h => match st with
  | .int v :: st => pm_swt ps d v (fun t => pm_nx t lc st h)
  | _ => none
def pm_obj (h : pm_H) (c ci k : Nat) : Bool := decide (c < h.1) && ((h.2.2.1 c).1 == 16 + ci) && decide (k < (h.2.2.1 c).2)
def pm_arr (h : pm_H) (c t : Nat) (i : Int32) : Bool := decide (c < h.1) && ((h.2.2.1 c).1 == t) && !(decide (i < 0) || decide ((h.2.2.1 c).2 ≤ i.toNatClampNeg))
def pm_geti (x ci k : Nat) : pm_I := fun lc st h => match st with
  | .ref c :: st => if pm_obj h c ci k then pm_nx x lc (.int (h.2.2.2.1 c k) :: st) h else none
  | _ => none
def pm_getr (x ci k : Nat) : pm_I := fun lc st h => match st with
  | .ref c :: st => if pm_obj h c ci k then (match h.2.2.2.2 c k with
    | some r => pm_nx x lc (.ref r :: st) h
    | none => none) else none
  | _ => none
def pm_puti (x ci k : Nat) : pm_I := fun lc st h => match st with
  | .int v :: .ref c :: st => if pm_obj h c ci k then pm_nx x lc st (pm_sA h c k v) else none
  | _ => none
def pm_putz (x ci k : Nat) : pm_I := fun lc st h => match st with
  | .int v :: .ref c :: st => if pm_obj h c ci k && (v == 0 || v == 1) then pm_nx x lc st (pm_sA h c k v) else none
  | _ => none
def pm_putr (x ci k : Nat) : pm_I := fun lc st h => match st with
  | .ref r :: .ref c :: st => if pm_obj h c ci k then pm_nx x lc st (pm_sP h c k (some r)) else none
  | _ => none
def pm_iald (x t : Nat) : pm_I := fun lc st h => match st with
  | .int i :: .ref c :: st => if pm_arr h c t i then pm_nx x lc (.int (h.2.2.2.1 c i.toNatClampNeg) :: st) h else none
  | _ => none
def pm_iast (x : Nat) : pm_I := fun lc st h => match st with
  | .int v :: .int i :: .ref c :: st => if pm_arr h c 0 i then pm_nx x lc st (pm_sA h c i.toNatClampNeg v) else none
  | _ => none
def pm_zast (x : Nat) : pm_I := fun lc st h => match st with
  | .int v :: .int i :: .ref c :: st => if pm_arr h c 1 i then pm_nx x lc st (pm_sA h c i.toNatClampNeg (v &&& 1)) else none
  | _ => none
def pm_aald (x t : Nat) : pm_I := fun lc st h => match st with
  | .int i :: .ref c :: st => if pm_arr h c t i then (match h.2.2.2.2 c i.toNatClampNeg with
    | some r => pm_nx x lc (.ref r :: st) h
    | none => none) else none
  | _ => none
/-- t: the array's kind, ci: the class that its elements have -/
def pm_aast (x t ci : Nat) : pm_I := fun lc st h => match st with
  | .ref r :: .int i :: .ref c :: st => if pm_arr h c t i && (decide (r < h.1) && ((h.2.2.1 r).1 == 16 + ci)) then pm_nx x lc st (pm_sP h c i.toNatClampNeg (some r)) else none
  | _ => none
def pm_alen (x t : Nat) : pm_I := fun lc st h => match st with
  | .ref c :: st => if decide (c < h.1) && ((h.2.2.1 c).1 == t) then pm_nx x lc (.int (Int32.ofNat (h.2.2.1 c).2) :: st) h else none
  | _ => none
def pm_sld (x L : Nat) (xs : Nat → Int32) : pm_I := fun lc st h => match st with
  | .int i :: .retAddr _ :: st => if !(decide (i < 0) || decide (L ≤ i.toNatClampNeg)) then pm_nx x lc (.int (xs i.toNatClampNeg) :: st) h else none
  | _ => none
def pm_slen (x L : Nat) : pm_I := fun lc st h => match st with
  | .retAddr _ :: st => pm_nx x lc (.int (Int32.ofNat L) :: st) h
  | _ => none
def pm_newo (x ci N : Nat) : pm_I := fun lc st h => pm_nx x lc (.ref h.1 :: st) (pm_new h (16 + ci) N)
def pm_newa (x t : Nat) : pm_I := fun lc st h => match st with
  | .int i :: st => if decide (i < 0) || decide (100000000 < i.toNatClampNeg) then none else pm_nx x lc (.ref h.1 :: st) (pm_new h t i.toNatClampNeg)
  | _ => none
def pm_cat (st : List Value) : Nat := (st.map fun v => v.category).sum
/-- n values of the stack go along; ci: the receiver's class, where there is one -/
def pm_calls (x mid n : Nat) : pm_I := fun lc st h => if decide (n ≤ st.length) && decide (pm_cat (st.drop n) ≤ 8) then some (.inr (.inr (mid, (st.take n).reverse, (x, lc, st.drop n, h)))) else none
def pm_callv (x mid n ci : Nat) : pm_I := fun lc st h => match (st.take n).reverse with
  | .ref c :: _ => if decide (c < h.1) && ((h.2.2.1 c).1 == 16 + ci) then pm_calls x mid n lc st h else none
  | _ => none
def pm_callc (x mid n : Nat) : pm_I := fun lc st h => match (st.take n).reverse with
  | .ref _ :: _ => pm_calls x mid n lc st h
  | _ => none
def pm_oinit (x : Nat) : pm_I := fun lc st h => match st with
  | .ref _ :: st => if pm_cat st ≤ 8 then pm_nx x lc st h else none
  | _ => none
def pm_max (x : Nat) : pm_I := fun lc st h => match st with
  | .int b :: .int a :: st => if pm_cat st ≤ 8 then pm_nx x lc (.int (if a < b then b else a) :: st) h else none
  | _ => none
def pm_min (x : Nat) : pm_I := fun lc st h => match st with
  | .int b :: .int a :: st => if pm_cat st ≤ 8 then pm_nx x lc (.int (if b < a then b else a) :: st) h else none
  | _ => none
def pm_copy (x : Nat) : pm_I := fun lc st h => match st with
  | .int n :: .int dp :: .ref d :: .int sp :: .ref c :: st =>
    if (decide (c < h.1) && ((h.2.2.1 c).1 == 0)) && (decide (d < h.1) && ((h.2.2.1 d).1 == 0)) && !(decide (sp < 0) || (decide (dp < 0) || decide (n < 0))) && (decide (sp.toNatClampNeg + n.toNatClampNeg ≤ (h.2.2.1 c).2) && decide (dp.toNatClampNeg + n.toNatClampNeg ≤ (h.2.2.1 d).2)) && decide (pm_cat st ≤ 8) then
      pm_nx x lc st (h.1, h.2.1, h.2.2.1, pm_row h.2.2.2.1 d (va_cpy (h.2.2.2.1 c) (h.2.2.2.1 d) sp.toNatClampNeg dp.toNatClampNeg n.toNatClampNeg), h.2.2.2.2)
    else none
  | _ => none
def pm_vret : pm_I := fun _ st h => match st with
  | [] => some (.inl (h, none))
  | _ => none
def pm_iret : pm_I := fun _ st h => match st with
  | [.int v] => some (.inl (h, some (.int v)))
  | _ => none
def pm_zret : pm_I := fun _ st h => match st with
  | [.int v] => if v == 0 || v == 1 then some (.inl (h, some (.int v))) else none
  | _ => none
def pm_aret : pm_I := fun _ st h => match st with
  | [.ref v] => some (.inl (h, some (.ref v)))
  | _ => none
/-- n steps of a method with the instructions T -/
def pm_ex (call : Nat → List Value → pm_H → Option pm_R) (T : Nat → Option pm_I) : Nat → pm_C → Option pm_R
  | 0, _ => none
  | n + 1, c => match T c.1 with
    | none => none
    | some f => match f c.2.1 c.2.2.1 c.2.2.2 with
      | none => none
      | some (.inl r) => some r
      | some (.inr (.inl q)) => pm_ex call T n q
      | some (.inr (.inr q)) => match call q.1 q.2.1 q.2.2.2.2.2 with
        | none => none
        | some r => pm_ex call T n (q.2.2.1, q.2.2.2.1, r.2.toList ++ q.2.2.2.2.1, r.1)
theorem pm_ex_mono {call call' : Nat → List Value → pm_H → Option pm_R} {T : Nat → Option pm_I} (hc : ∀ m a h r, call m a h = some r → call' m a h = some r) : ∀ (n n' : Nat) (c : pm_C) (r : pm_R), n ≤ n' → pm_ex call T n c = some r → pm_ex call' T n' c = some r := by
  intro n
  induction n with
  | zero => intro n' c r _ h; cases h
  | succ n ih =>
    intro n' c r hn h
    obtain ⟨n', rfl⟩ : ∃ k, n' = k + 1 := ⟨n' - 1, by omega⟩
    have hn : n ≤ n' := by omega
    cases hf : T c.1 with
    | none => simp [pm_ex, hf] at h
    | some f =>
      cases hw : f c.2.1 c.2.2.1 c.2.2.2 with
      | none => simp [pm_ex, hf, hw] at h
      | some o =>
        rcases o with w | w | w
        · simp only [pm_ex, hf, hw] at h ⊢
          exact h
        · simp only [pm_ex, hf, hw] at h ⊢
          exact ih _ _ _ hn h
        · simp only [pm_ex, hf, hw] at h ⊢
          cases hr : call w.1 w.2.1 w.2.2.2.2.2 with
          | none => simp [hr] at h
          | some r' =>
            simp only [hr] at h
            simp only [hc _ _ _ _ hr]
            exact ih _ _ _ hn h
end
section
/-! What the machine's heap holds, when the pure heap is h: cell c stands at the address z + c. -/
def pm_t (z bS : Nat) (v : Value) : Value := match v with
  | .ref a => .ref (z + a)
  | .retAddr _ => .ref bS
  | w => w
def pm_v (z : Nat) (h : pm_H) (k j : Nat) : Value := if pm_rf (pm_ft (h.2.2.1 k).1 j) then va_rf ((h.2.2.2.2 k j).map (fun a => z + a)) else .int (h.2.2.2.1 k j)
def pm_at (D : va_G) (aC : Nat → ClassId) (z : Nat) (h : pm_H) (H : Heap) (k : Nat) : Prop :=
  ((h.2.2.1 k).1 < 16 → H[z + k]? = some (arrV (aC (h.2.2.1 k).1) (h.2.2.1 k).2 (pm_v z h k))) ∧
  ∀ ci : Nat, (h.2.2.1 k).1 = 16 + ci → ∃ r : vw_C, vwCl[ci]? = some r ∧ r.2.2 = (h.2.2.1 k).2 ∧ t_OB (z + k) (D.1 ci) r.2.2 (D.2 ci) H (pm_v z h k)
def pm_W (D : va_G) (aC : Nat → ClassId) (z : Nat) (h : pm_H) (H : Heap) : Prop := H.size = z + h.1 ∧ ∀ k, k < h.1 → pm_at D aC z h H k
def pm_mk (ty : FieldType) (U : State) : Prop := match ty with
  | .object C => va_AO C U
  | t => (Cond.arrayClass t).before #[] U = true
def pm_G (D : va_G) (aC : Nat → ClassId) (U : State) : Prop :=
  (∀ w ∈ lw_tbl, pm_gd w = true → va_Nw w U) ∧ (∀ (ci : Nat) (q : vw_C), vwCl[ci]? = some q → u_Kn U q.1 q.2.1 q.2.2 (D.1 ci) (D.2 ci)) ∧
  ∀ (t : Nat) (ty : FieldType), pm_tg[t]? = some ty → ArrOfT U (aC t) ty ∧ va_RA U (aC t) ty ∧ pm_mk ty U
theorem pm_mk.moved {s U : State} (hW : s.WarmedH U.vm) {ty : FieldType} (h : pm_mk ty s) : pm_mk ty U := by
  cases ty with
  | object C => exact va_AO.moved hW.alike h
  | _ => exact word_at hW (Or.inr ⟨_, rfl⟩) h
theorem pm_G.moved {D : va_G} {aC : Nat → ClassId} {s U : State} (hW : s.WarmedH U.vm) (h : pm_G D aC s) : pm_G D aC U := by
  refine ⟨fun w h1 h2 => ?_, fun ci q hq => u_Kn_moved hW.alike (h.2.1 ci q hq), fun t ty ht => ?_⟩
  · have h3 := h.1 w h1 h2
    simp only [pm_gd, Bool.and_eq_true] at h2
    exact va_tabs h2.1 (rfl : (s.setVm U.vm).vm = U.vm) (Cond.onTables_warmH (T := s) (args' := #[]) hW h2.1 h2.2 h3)
  · obtain ⟨a1, a2, a3⟩ := h.2.2 t ty ht
    exact ⟨arrOfT_moved hW.alike a1, a2.moved hW.alike, a3.moved hW⟩
theorem pm_word {D : va_G} {aC : Nat → ClassId} {s : State} {args : Array Value} (h : pm_G D aC s) {w : Cond} (h1 : w ∈ lw_tbl) (h2 : pm_gd w = true) : w.before args s = true := by
  have h3 := h.1 w h1 h2
  simp only [pm_gd, Bool.and_eq_true] at h2
  exact va_Nw.use h2.1 h3
-- the locals
def pm_V (z bS : Nat) (ls : Array Slot) (nL : Nat) (lc : List Value) : Prop := ls.size = nL ∧ lv_wf ls ∧ lc.length = nL ∧ ∀ (j : Nat) (w : Value), lc[j]? = some w → pm_ok w = true → ls[j]? = some (.val (pm_t z bS w))
def pm_ll (z bS : Nat) : Nat → List Value → List (Nat × Value)
  | _, [] => []
  | i, v :: l => if pm_ok v then (i, pm_t z bS v) :: pm_ll z bS (i + 1) l else pm_ll z bS (i + 1) l
theorem pm_ll_mem {z bS : Nat} {q : Nat × Value} : ∀ (l : List Value) (i : Nat), q ∈ pm_ll z bS i l ↔ ∃ (j : Nat) (w : Value), l[j]? = some w ∧ pm_ok w = true ∧ q = (i + j, pm_t z bS w) := by
  intro l
  induction l with
  | nil => intro i; simp [pm_ll]
  | cons v l ih =>
    intro i
    have key : (∃ (j : Nat) (w : Value), (v :: l)[j]? = some w ∧ pm_ok w = true ∧ q = (i + j, pm_t z bS w)) ↔ (pm_ok v = true ∧ q = (i, pm_t z bS v)) ∨ ∃ (j : Nat) (w : Value), l[j]? = some w ∧ pm_ok w = true ∧ q = (i + 1 + j, pm_t z bS w) := by
      constructor
      · rintro ⟨j, w, h1, h2, h3⟩
        cases j with
        | zero =>
          simp at h1
          subst h1
          exact Or.inl ⟨h2, by simpa using h3⟩
        | succ j => exact Or.inr ⟨j, w, by simpa using h1, h2, by rw [h3]; congr 1; omega⟩
      · rintro (⟨h1, h2⟩ | ⟨j, w, h1, h2, h3⟩)
        · exact ⟨0, v, by simp, h1, by simpa using h2⟩
        · exact ⟨j + 1, w, by simpa using h1, h2, by rw [h3]; congr 1; omega⟩
    rw [key]
    simp only [pm_ll]
    split
    · rename_i hv
      simp [ih, hv]
    · rename_i hv
      simp [ih, hv]
theorem pm_V.has {z bS nL : Nat} {ls : Array Slot} {lc : List Value} (h : pm_V z bS ls nL lc) : lv_has ls nL (pm_ll z bS 0 lc) := by
  refine ⟨h.1, h.2.1, fun q hq => ?_⟩
  obtain ⟨j, w, h1, h2, h3⟩ := (pm_ll_mem lc 0).mp hq
  rw [h3]
  simpa using h.2.2.2 j w h1 h2
theorem pm_t_cat {z bS : Nat} {w : Value} (h : pm_ok w = true) : (pm_t z bS w).category = 1 := by
  cases w <;> first | rfl | cases h
theorem pm_V.set {z bS nL i : Nat} {ls ls' : Array Slot} {lc : List Value} {v : Value} (h : pm_V z bS ls nL lc) (hv : pm_ok v = true) (h' : lv_has ls' nL ((i, pm_t z bS v) :: (pm_ll z bS 0 lc).filter (fun q => !(q.1 == i) && !(q.1 + 1 == i && q.2.category == 2)))) : pm_V z bS ls' nL (lc.set i v) := by
  refine ⟨h'.1, h'.2.1, by rw [List.length_set]; exact h.2.2.1, fun j w hj hw => ?_⟩
  by_cases hji : j = i
  · subst hji
    have hl : j < lc.length := by
      have := (List.getElem?_eq_some_iff.mp hj).1
      simpa using this
    rw [List.getElem?_set_self hl] at hj
    cases hj
    exact h'.2.2 (j, pm_t z bS v) List.mem_cons_self
  · rw [List.getElem?_set_ne (Ne.symm hji)] at hj
    refine h'.2.2 (j, pm_t z bS w) (List.mem_cons_of_mem _ (List.mem_filter.mpr ⟨(pm_ll_mem lc 0).mpr ⟨j, w, hj, hw, by simp⟩, ?_⟩))
    simp [hji, pm_t_cat hw]
def pm_L (s : State) (D : va_G) (aC : Nat → ClassId) (z bS nL : Nat) (lc : List Value) (h : pm_H) (H : Heap) (locs : List Loc) (ls : Array Slot) : Prop := pm_W D aC z h H ∧ va_S (fun q => z ≤ q) s.heap H locs ∧ pm_V z bS ls nL lc
/-- what holds in a whole activation of a method: its code cc with nL locals, of class own, its name nm -/
def pm_X (p : Program) (R : Room) (s : State) (m : MethodId) (meth : Method) (c : Code) (cc : ByteArray) (nL : Nat) (own nm : String) (D : va_G) (aC : Nat → ClassId) (z : Nat) : Prop :=
  p.tables.exec = Jvm.exec ∧ c.code = cc ∧ c.maxLocals = nL ∧ s.vm.findClass own = some m.cls ∧ pm_G D aC s ∧ z ≤ s.heap.size ∧ 1 ≤ R.frames ∧ 40 ≤ R.locals ∧ meth.name = nm
/-- a method's contract: from the pure heap h with the values a it comes to h' with the answer v -/
def pm_Pc (D : va_G) (aC : Nat → ClassId) (z bS : Nat) (a : List Value) (h : pm_H) : Array Value → State → Prop := va_Pc (a.map (pm_t z bS)) (fun U => pm_W D aC z h U.heap ∧ pm_G D aC U)
def pm_Qc (D : va_G) (aC : Nat → ClassId) (z bS : Nat) (h : pm_H) (v : Option Value) : Array Value → State → Outcome → State → Prop := fun _ st oc t => oc = .returned (v.map (pm_t z bS)) ∧ pm_W D aC z h t.heap ∧ va_F (fun q => z ≤ q) st t
abbrev pm_N : Type := MethodName × ByteArray × Nat × Option FieldType
def pm_rm (d mc ms : Nat) : Room := { frames := d + 1, cells := mc, slots := ms, locals := 40 + 30 * d }
def pm_M (l : Launch) (D : va_G) (aC : Nat → ClassId) (z bS d : Nat) (y : pm_N) (a : List Value) (h h' : pm_H) (v : Option Value) : Prop :=
  (h.1 ≤ h'.1 ∧ h.2.1 ≤ h'.2.1) ∧ Met l y.1 [Cond.code y.1 y.2.1 y.2.2.1 y.2.2.2] (pm_rm d (h'.1 - h.1) (h'.2.1 - h.2.1)) (pm_Pc D aC z bS a h) (pm_Qc D aC z bS h' v) (h'.1 - h.1) (h'.2.1 - h.2.1) (fun q => z ≤ q)
/-- an end: which instruction may stand there -/
def pm_rd (cc : ByteArray) (pc : Nat) (ret : Option FieldType) (v : Option Value) : Prop := match v with
  | none => decode cc pc = .ok (.return_, 1) ∧ ret = none
  | some (.int w) => decode cc pc = .ok (.ireturn, 1) ∧ ∃ ty, ret = some ty ∧ narrow ty (.int w) = .int w
  | some (.ref _) => decode cc pc = .ok (.areturn, 1) ∧ ∃ C, ret = some (.object C)
  | _ => False
section SND
variable (p : Program) (l : Launch) (e : Env) (R : Room) (s : State) (m : MethodId) (args : Array Value) (below : List Frame) (meth : Method) (c : Code) (Q : State → Prop) (D : va_G) (aC : Nat → ClassId) (z bS nL : Nat) (b : Nat → Nat) (i : Nat)
def pm_SN (lc st : List Value) (h : pm_H) (q : pm_C) : Prop :=
  (h.1 ≤ q.2.2.2.1 ∧ h.2.1 ≤ q.2.2.2.2.1) ∧ ∀ (H : Heap) (locs : List Loc) (ls : Array Slot) (kc ks : Nat), pm_L s D aC z bS nL lc h H locs ls → kc + (q.2.2.2.1 - h.1) ≤ R.cells → ks + (q.2.2.2.2.1 - h.2.1) ≤ R.slots →
    (∀ (H' : Heap) (locs' : List Loc) (ls' : Array Slot), pm_L s D aC z bS nL q.2.1 q.2.2.2 H' locs' ls' → W p l e R s m args below meth c H' locs' (kc + (q.2.2.2.1 - h.1)) (ks + (q.2.2.2.2.1 - h.2.1)) Q (F0 m (b q.1) ls' (q.2.2.1.map (pm_t z bS)))) →
    W p l e R s m args below meth c H locs kc ks Q (F0 m (b i) ls (st.map (pm_t z bS)))
def pm_SC (Y : Nat → pm_N) (lc st : List Value) (h : pm_H) (q : Nat × List Value × pm_C) : Prop :=
  q.2.2.2.2.2 = h ∧ ∀ (d : Nat) (h' : pm_H) (v : Option Value), d + 2 ≤ R.frames → 70 + 30 * d ≤ R.locals → pm_M l D aC z bS d (Y q.1) q.2.1 h h' v → ∀ (H : Heap) (locs : List Loc) (ls : Array Slot) (kc ks : Nat), pm_L s D aC z bS nL lc h H locs ls → kc + (h'.1 - h.1) ≤ R.cells → ks + (h'.2.1 - h.2.1) ≤ R.slots →
    (∀ (H' : Heap) (locs' : List Loc), pm_L s D aC z bS nL q.2.2.2.1 h' H' locs' ls → W p l e R s m args below meth c H' locs' (kc + (h'.1 - h.1)) (ks + (h'.2.1 - h.2.1)) Q (F0 m (b q.2.2.1) ls ((v.toList ++ q.2.2.2.2.1).map (pm_t z bS)))) →
    W p l e R s m args below meth c H locs kc ks Q (F0 m (b i) ls (st.map (pm_t z bS)))
def pm_SR (cc : ByteArray) (ret : Option FieldType) (st : List Value) (h : pm_H) (q : pm_R) : Prop :=
  q.1 = h ∧ st = q.2.toList ∧ pm_rd cc (b i) ret q.2
def pm_Sm (cc : ByteArray) (ret : Option FieldType) (Y : Nat → pm_N) (lc st : List Value) (h : pm_H) (o : pm_O) : Prop := match o with
  | .inl q => pm_SR b i cc ret st h q
  | .inr (.inl q) => pm_SN p l e R s m args below meth c Q D aC z bS nL b i lc st h q
  | .inr (.inr q) => pm_SC p l e R s m args below meth c Q D aC z bS nL b i Y lc st h q
end SND
/-- an instruction f at number i is what stands in the code at b i -/
def pm_S (cc : ByteArray) (nL : Nat) (own nm : String) (ret : Option FieldType) (Y : Nat → pm_N) (b : Nat → Nat) (i : Nat) (f : pm_I) : Prop :=
  ∀ (p : Program) (l : Launch) (e : Env) (R : Room) (s : State) (m : MethodId) (args : Array Value) (below : List Frame) (meth : Method) (c : Code) (Q : State → Prop) (D : va_G) (aC : Nat → ClassId) (z bS : Nat), pm_X p R s m meth c cc nL own nm D aC z →
    ∀ (lc st : List Value) (h : pm_H) (o : pm_O), f lc st h = some o → pm_Sm p l e R s m args below meth c Q D aC z bS nL b i cc ret Y lc st h o
theorem pm_keep {p : Program} {l : Launch} {e : Env} {R : Room} {s : State} {m : MethodId} {args : Array Value} {below : List Frame} {meth : Method} {c : Code} {Q : State → Prop} {D : va_G} {aC : Nat → ClassId} {z bS nL : Nat} {b : Nat → Nat} {i x : Nat} {lc lc' st st' : List Value} {h : pm_H}
    (k : ∀ (H : Heap) (locs : List Loc) (ls : Array Slot) (kc ks : Nat), pm_L s D aC z bS nL lc h H locs ls → kc ≤ R.cells → ks ≤ R.slots → (∀ ls' : Array Slot, pm_V z bS ls' nL lc' → W p l e R s m args below meth c H locs kc ks Q (F0 m (b x) ls' (st'.map (pm_t z bS)))) → W p l e R s m args below meth c H locs kc ks Q (F0 m (b i) ls (st.map (pm_t z bS)))) :
    pm_SN p l e R s m args below meth c Q D aC z bS nL b i lc st h (x, lc', st', h) := by
  refine ⟨⟨Nat.le_refl _, Nat.le_refl _⟩, fun H locs ls kc ks hL h1 h2 kk => ?_⟩
  simp only [Nat.sub_self, Nat.add_zero] at h1 h2 kk
  exact k H locs ls kc ks hL h1 h2 (fun ls' hV => kk H locs ls' ⟨hL.1, hL.2.1, hV⟩)
/-- an instruction that changes one cell, and makes none -/
theorem pm_put {p : Program} {l : Launch} {e : Env} {R : Room} {s : State} {m : MethodId} {args : Array Value} {below : List Frame} {meth : Method} {c : Code} {Q : State → Prop} {D : va_G} {aC : Nat → ClassId} {z bS nL : Nat} {b : Nat → Nat} {i x : Nat} {lc st st' : List Value} {h h' : pm_H} (h1 : h'.1 = h.1) (h2 : h'.2.1 = h.2.1)
    (k : ∀ (H : Heap) (locs : List Loc) (ls : Array Slot) (kc ks : Nat), pm_L s D aC z bS nL lc h H locs ls → (∀ (H' : Heap) (locs' : List Loc), pm_W D aC z h' H' → va_S (fun q => z ≤ q) s.heap H' locs' → W p l e R s m args below meth c H' locs' kc ks Q (F0 m (b x) ls (st'.map (pm_t z bS)))) → W p l e R s m args below meth c H locs kc ks Q (F0 m (b i) ls (st.map (pm_t z bS)))) :
    pm_SN p l e R s m args below meth c Q D aC z bS nL b i lc st h (x, lc, st', h') := by
  refine ⟨⟨Nat.le_of_eq h1.symm, Nat.le_of_eq h2.symm⟩, fun H locs ls kc ks hL g1 g2 kk => ?_⟩
  simp only [h1, h2, Nat.sub_self, Nat.add_zero] at kk
  exact k H locs ls kc ks hL (fun H' locs' hW hS => kk H' locs' ls ⟨hW, hS, hL.2.2⟩)
theorem pm_W.set {D : va_G} {aC : Nat → ClassId} {z : Nat} {h h' : pm_H} {H H1 : Heap} {k : Nat} (hW : pm_W D aC z h H) (h1 : h'.1 = h.1) (h2 : h'.2.2.1 = h.2.2.1) (ho : ∀ a, a ≠ k → pm_v z h' a = pm_v z h a) (hz : H1.size = H.size) (oq : ∀ q : Nat, q ≠ z + k → H1[q]? = H[q]?) (hc : pm_at D aC z h' H1 k) : pm_W D aC z h' H1 := by
  refine ⟨by rw [hz, h1]; exact hW.1, fun a ha => ?_⟩
  by_cases hak : a = k
  · rw [hak]; exact hc
  · have hat := hW.2 a (by rw [← h1]; exact ha)
    have hq : H1[z + a]? = H[z + a]? := oq _ (by omega)
    refine ⟨fun hl => ?_, fun ci hci => ?_⟩
    · rw [hq, h2, ho a hak]
      exact hat.1 (by rw [← h2]; exact hl)
    · obtain ⟨r, g1, g2, g3⟩ := hat.2 ci (by rw [← h2]; exact hci)
      exact ⟨r, g1, by rw [h2]; exact g2, by rw [ho a hak]; exact g3.kept hq⟩
end
section
section OPS
variable {cc : ByteArray} {nL : Nat} {own nm : String} {ret : Option FieldType} {Y : Nat → pm_N} {b : Nat → Nat} {i x : Nat}
theorem so_const1 {n : Int} {v : Int32} (hd : decode cc (b i) = .ok (.iconst n, 1)) (hv : Int32.ofInt n = v) (hx : b x = b i + 1) : pm_S cc nL own nm ret Y b i (pm_const x v) := by
  intro p l e R s m args below meth c Q D aC z bS X lc st h o ho
  cases ho
  refine pm_keep fun H locs ls kc ks hL hkc hks k => ?_
  have k := k ls hL.2.2
  rw [hx] at k
  exact lv_iconst X.1 X.2.1 hd hv k
theorem so_const2 {n : Int} {v : Int32} (hd : decode cc (b i) = .ok (.bipush n, 2)) (hv : (Int8.ofInt n).toInt32 = v) (hx : b x = b i + 2) : pm_S cc nL own nm ret Y b i (pm_const x v) := by
  intro p l e R s m args below meth c Q D aC z bS X lc st h o ho
  cases ho
  refine pm_keep fun H locs ls kc ks hL hkc hks k => ?_
  have k := k ls hL.2.2
  rw [hx] at k
  exact lv_bipush X.1 X.2.1 hd hv k
theorem so_const3 {n : Int} {v : Int32} (hd : decode cc (b i) = .ok (.sipush n, 3)) (hv : (Int16.ofInt n).toInt32 = v) (hx : b x = b i + 3) : pm_S cc nL own nm ret Y b i (pm_const x v) := by
  intro p l e R s m args below meth c Q D aC z bS X lc st h o ho
  cases ho
  refine pm_keep fun H locs ls kc ks hL hkc hks k => ?_
  have k := k ls hL.2.2
  rw [hx] at k
  exact lv_sipush X.1 X.2.1 hd hv k
theorem so_iload {a : Nat} (hd : decode cc (b i) = .ok (.iload a, 2)) (hx : b x = b i + 2) : pm_S cc nL own nm ret Y b i (pm_iload x a) := by
  intro p l e R s m args below meth c Q D aC z bS X lc st h o ho
  unfold pm_iload at ho
  split at ho
  · rename_i v hv
    cases ho
    refine pm_keep fun H locs ls kc ks hL hkc hks k => ?_
    have k := k ls hL.2.2
    rw [hx] at k
    exact lv_iload X.1 X.2.1 hd (hL.2.2.2.2.2 _ _ hv rfl) k
  · cases ho
theorem so_iloadn {a : Nat} {n : Fin 4} (hd : decode cc (b i) = .ok (.iload_n n, 1)) (hn : (n : Nat) = a) (hx : b x = b i + 1) : pm_S cc nL own nm ret Y b i (pm_iload x a) := by
  intro p l e R s m args below meth c Q D aC z bS X lc st h o ho
  unfold pm_iload at ho
  split at ho
  · rename_i v hv
    cases ho
    refine pm_keep fun H locs ls kc ks hL hkc hks k => ?_
    have k := k ls hL.2.2
    rw [hx] at k
    exact lv_iload_n X.1 X.2.1 hd hn (hL.2.2.2.2.2 _ _ hv rfl) k
  · cases ho
theorem so_aload {a : Nat} (hd : decode cc (b i) = .ok (.aload a, 2)) (hx : b x = b i + 2) : pm_S cc nL own nm ret Y b i (pm_aload x a) := by
  intro p l e R s m args below meth c Q D aC z bS X lc st h o ho
  unfold pm_aload at ho
  split at ho
  · rename_i v hv
    cases ho
    refine pm_keep fun H locs ls kc ks hL hkc hks k => ?_
    have k := k ls hL.2.2
    rw [hx] at k
    exact lv_aload X.1 X.2.1 hd (hL.2.2.2.2.2 _ _ hv rfl) k
  · rename_i v hv
    cases ho
    refine pm_keep fun H locs ls kc ks hL hkc hks k => ?_
    have k := k ls hL.2.2
    rw [hx] at k
    exact lv_aload X.1 X.2.1 hd (hL.2.2.2.2.2 _ _ hv rfl) k
  · cases ho
theorem so_aloadn {a : Nat} {n : Fin 4} (hd : decode cc (b i) = .ok (.aload_n n, 1)) (hn : (n : Nat) = a) (hx : b x = b i + 1) : pm_S cc nL own nm ret Y b i (pm_aload x a) := by
  intro p l e R s m args below meth c Q D aC z bS X lc st h o ho
  unfold pm_aload at ho
  split at ho
  · rename_i v hv
    cases ho
    refine pm_keep fun H locs ls kc ks hL hkc hks k => ?_
    have k := k ls hL.2.2
    rw [hx] at k
    exact lv_aload_n X.1 X.2.1 hd hn (hL.2.2.2.2.2 _ _ hv rfl) k
  · rename_i v hv
    cases ho
    refine pm_keep fun H locs ls kc ks hL hkc hks k => ?_
    have k := k ls hL.2.2
    rw [hx] at k
    exact lv_aload_n X.1 X.2.1 hd hn (hL.2.2.2.2.2 _ _ hv rfl) k
  · cases ho
theorem so_istore {a : Nat} (hd : decode cc (b i) = .ok (.istore a, 2)) (ha : a < nL) (hx : b x = b i + 2) : pm_S cc nL own nm ret Y b i (pm_istore x a) := by
  intro p l e R s m args below meth c Q D aC z bS X lc st h o ho
  unfold pm_istore at ho
  split at ho
  · rename_i v st'
    cases ho
    refine pm_keep fun H locs ls kc ks hL hkc hks k => ?_
    refine lv_istore X.1 X.2.1 hd hL.2.2.has ha rfl (fun ls' h' => ?_)
    have k := k ls' (hL.2.2.set rfl h')
    rw [hx] at k
    exact k
  · cases ho
theorem so_istoren {a : Nat} {n : Fin 4} (hd : decode cc (b i) = .ok (.istore_n n, 1)) (hn : (n : Nat) = a) (ha : a < nL) (hx : b x = b i + 1) : pm_S cc nL own nm ret Y b i (pm_istore x a) := by
  intro p l e R s m args below meth c Q D aC z bS X lc st h o ho
  unfold pm_istore at ho
  split at ho
  · rename_i v st'
    cases ho
    refine pm_keep fun H locs ls kc ks hL hkc hks k => ?_
    refine lv_istore_n X.1 X.2.1 hd hn hL.2.2.has ha rfl (fun ls' h' => ?_)
    have k := k ls' (hL.2.2.set rfl h')
    rw [hx] at k
    exact k
  · cases ho
theorem so_astore {a : Nat} (hd : decode cc (b i) = .ok (.astore a, 2)) (ha : a < nL) (hx : b x = b i + 2) : pm_S cc nL own nm ret Y b i (pm_astore x a) := by
  intro p l e R s m args below meth c Q D aC z bS X lc st h o ho
  unfold pm_astore at ho
  split at ho
  · rename_i v st'
    cases ho
    refine pm_keep fun H locs ls kc ks hL hkc hks k => ?_
    refine lv_astore X.1 X.2.1 hd hL.2.2.has ha rfl (fun ls' h' => ?_)
    have k := k ls' (hL.2.2.set rfl h')
    rw [hx] at k
    exact k
  · cases ho
theorem so_astoren {a : Nat} {n : Fin 4} (hd : decode cc (b i) = .ok (.astore_n n, 1)) (hn : (n : Nat) = a) (ha : a < nL) (hx : b x = b i + 1) : pm_S cc nL own nm ret Y b i (pm_astore x a) := by
  intro p l e R s m args below meth c Q D aC z bS X lc st h o ho
  unfold pm_astore at ho
  split at ho
  · rename_i v st'
    cases ho
    refine pm_keep fun H locs ls kc ks hL hkc hks k => ?_
    refine lv_astore_n X.1 X.2.1 hd hn hL.2.2.has ha rfl (fun ls' h' => ?_)
    have k := k ls' (hL.2.2.set rfl h')
    rw [hx] at k
    exact k
  · cases ho
theorem so_iinc {a : Nat} {n : Int} {v : Int32} (hd : decode cc (b i) = .ok (.iinc a n, 3)) (hv : Int32.ofInt n = v) (ha : a < nL) (hx : b x = b i + 3) : pm_S cc nL own nm ret Y b i (pm_iinc x a v) := by
  intro p l e R s m args below meth c Q D aC z bS X lc st h o ho
  unfold pm_iinc at ho
  split at ho
  · rename_i w hw
    cases ho
    refine pm_keep fun H locs ls kc ks hL hkc hks k => ?_
    obtain ⟨j, hj⟩ := List.getElem?_of_mem ((pm_ll_mem (z := z) (bS := bS) lc 0).mpr ⟨a, .int w, hw, rfl, rfl⟩)
    rw [Nat.zero_add] at hj
    refine lv_iinc X.1 X.2.1 hd hL.2.2.has hj (by rw [hv]) ha rfl (fun ls' h' => ?_)
    have k := k ls' (hL.2.2.set (v := .int (w + v)) rfl h')
    rw [hx] at k
    exact k
  · cases ho
theorem so_iadd (hd : decode cc (b i) = .ok (.iadd, 1)) (hx : b x = b i + 1) : pm_S cc nL own nm ret Y b i (pm_bin x (fun a b => a + b)) := by
  intro p l e R s m args below meth c Q D aC z bS X lc st h o ho
  unfold pm_bin at ho
  split at ho
  · cases ho
    refine pm_keep fun H locs ls kc ks hL hkc hks k => ?_
    have k := k ls hL.2.2
    rw [hx] at k
    exact lv_iadd X.1 X.2.1 hd k
  · cases ho
theorem so_isub (hd : decode cc (b i) = .ok (.isub, 1)) (hx : b x = b i + 1) : pm_S cc nL own nm ret Y b i (pm_bin x (fun a b => a - b)) := by
  intro p l e R s m args below meth c Q D aC z bS X lc st h o ho
  unfold pm_bin at ho
  split at ho
  · cases ho
    refine pm_keep fun H locs ls kc ks hL hkc hks k => ?_
    have k := k ls hL.2.2
    rw [hx] at k
    exact lv_isub X.1 X.2.1 hd k
  · cases ho
theorem so_imul (hd : decode cc (b i) = .ok (.imul, 1)) (hx : b x = b i + 1) : pm_S cc nL own nm ret Y b i (pm_bin x (fun a b => a * b)) := by
  intro p l e R s m args below meth c Q D aC z bS X lc st h o ho
  unfold pm_bin at ho
  split at ho
  · cases ho
    refine pm_keep fun H locs ls kc ks hL hkc hks k => ?_
    have k := k ls hL.2.2
    rw [hx] at k
    exact lv_imul X.1 X.2.1 hd k
  · cases ho
theorem so_iand (hd : decode cc (b i) = .ok (.iand, 1)) (hx : b x = b i + 1) : pm_S cc nL own nm ret Y b i (pm_bin x (fun a b => a &&& b)) := by
  intro p l e R s m args below meth c Q D aC z bS X lc st h o ho
  unfold pm_bin at ho
  split at ho
  · cases ho
    refine pm_keep fun H locs ls kc ks hL hkc hks k => ?_
    have k := k ls hL.2.2
    rw [hx] at k
    exact lv_iand X.1 X.2.1 hd k
  · cases ho
theorem so_ior (hd : decode cc (b i) = .ok (.ior, 1)) (hx : b x = b i + 1) : pm_S cc nL own nm ret Y b i (pm_bin x (fun a b => a ||| b)) := by
  intro p l e R s m args below meth c Q D aC z bS X lc st h o ho
  unfold pm_bin at ho
  split at ho
  · cases ho
    refine pm_keep fun H locs ls kc ks hL hkc hks k => ?_
    have k := k ls hL.2.2
    rw [hx] at k
    exact lv_ior X.1 X.2.1 hd k
  · cases ho
theorem so_ixor (hd : decode cc (b i) = .ok (.ixor, 1)) (hx : b x = b i + 1) : pm_S cc nL own nm ret Y b i (pm_bin x (fun a b => a ^^^ b)) := by
  intro p l e R s m args below meth c Q D aC z bS X lc st h o ho
  unfold pm_bin at ho
  split at ho
  · cases ho
    refine pm_keep fun H locs ls kc ks hL hkc hks k => ?_
    have k := k ls hL.2.2
    rw [hx] at k
    exact lv_ixor X.1 X.2.1 hd k
  · cases ho
theorem so_ishl (hd : decode cc (b i) = .ok (.ishl, 1)) (hx : b x = b i + 1) : pm_S cc nL own nm ret Y b i (pm_bin x (fun a b => a <<< (b &&& 31))) := by
  intro p l e R s m args below meth c Q D aC z bS X lc st h o ho
  unfold pm_bin at ho
  split at ho
  · cases ho
    refine pm_keep fun H locs ls kc ks hL hkc hks k => ?_
    have k := k ls hL.2.2
    rw [hx] at k
    exact lv_ishl X.1 X.2.1 hd k
  · cases ho
theorem so_ishr (hd : decode cc (b i) = .ok (.ishr, 1)) (hx : b x = b i + 1) : pm_S cc nL own nm ret Y b i (pm_bin x (fun a b => a >>> (b &&& 31))) := by
  intro p l e R s m args below meth c Q D aC z bS X lc st h o ho
  unfold pm_bin at ho
  split at ho
  · cases ho
    refine pm_keep fun H locs ls kc ks hL hkc hks k => ?_
    have k := k ls hL.2.2
    rw [hx] at k
    exact lv_ishr X.1 X.2.1 hd k
  · cases ho
theorem so_idiv (hd : decode cc (b i) = .ok (.idiv, 1)) (hx : b x = b i + 1) : pm_S cc nL own nm ret Y b i (pm_div x (fun a b => a / b)) := by
  intro p l e R s m args below meth c Q D aC z bS X lc st h o ho
  unfold pm_div at ho
  split at ho
  · split at ho
    · cases ho
    · rename_i hne
      cases ho
      refine pm_keep fun H locs ls kc ks hL hkc hks k => ?_
      have k := k ls hL.2.2
      rw [hx] at k
      exact lv_idiv X.1 X.2.1 hd hne k
  · cases ho
theorem so_irem (hd : decode cc (b i) = .ok (.irem, 1)) (hx : b x = b i + 1) : pm_S cc nL own nm ret Y b i (pm_div x (fun a b => a - a / b * b)) := by
  intro p l e R s m args below meth c Q D aC z bS X lc st h o ho
  unfold pm_div at ho
  split at ho
  · split at ho
    · cases ho
    · rename_i hne
      cases ho
      refine pm_keep fun H locs ls kc ks hL hkc hks k => ?_
      have k := k ls hL.2.2
      rw [hx] at k
      exact lv_irem X.1 X.2.1 hd hne k
  · cases ho
theorem so_dup (hd : decode cc (b i) = .ok (.dup, 1)) (hx : b x = b i + 1) : pm_S cc nL own nm ret Y b i (pm_dup x) := by
  intro p l e R s m args below meth c Q D aC z bS X lc st h o ho
  unfold pm_dup at ho
  split at ho
  · split at ho
    · rename_i hv
      cases ho
      refine pm_keep fun H locs ls kc ks hL hkc hks k => ?_
      have k := k ls hL.2.2
      rw [hx] at k
      exact lv_dup X.1 X.2.1 hd (pm_t_cat hv) k
    · cases ho
  · cases ho
theorem so_dupx1 (hd : decode cc (b i) = .ok (.dup_x1, 1)) (hx : b x = b i + 1) : pm_S cc nL own nm ret Y b i (pm_dupx1 x) := by
  intro p l e R s m args below meth c Q D aC z bS X lc st h o ho
  unfold pm_dupx1 at ho
  split at ho
  · split at ho
    · rename_i hv
      cases ho
      simp only [Bool.and_eq_true] at hv
      refine pm_keep fun H locs ls kc ks hL hkc hks k => ?_
      have k := k ls hL.2.2
      rw [hx] at k
      exact lv_dup_x1 X.1 X.2.1 hd (pm_t_cat hv.1) (pm_t_cat hv.2) k
    · cases ho
  · cases ho
theorem so_dup2 (hd : decode cc (b i) = .ok (.dup2, 1)) (hx : b x = b i + 1) : pm_S cc nL own nm ret Y b i (pm_dup2 x) := by
  intro p l e R s m args below meth c Q D aC z bS X lc st h o ho
  unfold pm_dup2 at ho
  split at ho
  · split at ho
    · rename_i hv
      cases ho
      simp only [Bool.and_eq_true] at hv
      refine pm_keep fun H locs ls kc ks hL hkc hks k => ?_
      have k := k ls hL.2.2
      rw [hx] at k
      exact lv_dup2_11 X.1 X.2.1 hd (pm_t_cat hv.1) (pm_t_cat hv.2) k
    · cases ho
  · cases ho
theorem so_pop (hd : decode cc (b i) = .ok (.pop, 1)) (hx : b x = b i + 1) : pm_S cc nL own nm ret Y b i (pm_pop x) := by
  intro p l e R s m args below meth c Q D aC z bS X lc st h o ho
  unfold pm_pop at ho
  split at ho
  · split at ho
    · rename_i hv
      cases ho
      refine pm_keep fun H locs ls kc ks hL hkc hks k => ?_
      have k := k ls hL.2.2
      rw [hx] at k
      exact lv_pop X.1 X.2.1 hd (pm_t_cat hv) k
    · cases ho
  · cases ho
theorem so_if_eq {t : Nat} {off : Int} (hd : decode cc (b i) = .ok (.ifCond .eq off, 3)) (ht : ((b i : Nat) : Int) + off = ((b t : Nat) : Int)) (hx : b x = b i + 3) : pm_S cc nL own nm ret Y b i (pm_if t x (fun a => decide (a = 0))) := by
  intro p l e R s m args below meth c Q D aC z bS X lc st h o ho
  unfold pm_if at ho
  split at ho
  · split at ho
    · rename_i hq
      cases ho
      rw [decide_eq_true_eq] at hq
      refine pm_keep fun H locs ls kc ks hL hkc hks k => ?_
      exact lv_if_eq X.1 X.2.1 hd ht (fun _ => k ls hL.2.2) (fun g => absurd hq g)
    · rename_i hq
      cases ho
      rw [decide_eq_true_eq] at hq
      refine pm_keep fun H locs ls kc ks hL hkc hks k => ?_
      have k := k ls hL.2.2
      rw [hx] at k
      exact lv_if_eq X.1 X.2.1 hd ht (fun g => absurd g hq) (fun _ => k)
  · cases ho
theorem so_icmp_eq {t : Nat} {off : Int} (hd : decode cc (b i) = .ok (.if_icmp .eq off, 3)) (ht : ((b i : Nat) : Int) + off = ((b t : Nat) : Int)) (hx : b x = b i + 3) : pm_S cc nL own nm ret Y b i (pm_icmp t x (fun a b => decide (a = b))) := by
  intro p l e R s m args below meth c Q D aC z bS X lc st h o ho
  unfold pm_icmp at ho
  split at ho
  · split at ho
    · rename_i hq
      cases ho
      rw [decide_eq_true_eq] at hq
      refine pm_keep fun H locs ls kc ks hL hkc hks k => ?_
      exact lv_icmp_eq X.1 X.2.1 hd ht (fun _ => k ls hL.2.2) (fun g => absurd hq g)
    · rename_i hq
      cases ho
      rw [decide_eq_true_eq] at hq
      refine pm_keep fun H locs ls kc ks hL hkc hks k => ?_
      have k := k ls hL.2.2
      rw [hx] at k
      exact lv_icmp_eq X.1 X.2.1 hd ht (fun g => absurd g hq) (fun _ => k)
  · cases ho
theorem so_if_ne {t : Nat} {off : Int} (hd : decode cc (b i) = .ok (.ifCond .ne off, 3)) (ht : ((b i : Nat) : Int) + off = ((b t : Nat) : Int)) (hx : b x = b i + 3) : pm_S cc nL own nm ret Y b i (pm_if t x (fun a => decide (a ≠ 0))) := by
  intro p l e R s m args below meth c Q D aC z bS X lc st h o ho
  unfold pm_if at ho
  split at ho
  · split at ho
    · rename_i hq
      cases ho
      rw [decide_eq_true_eq] at hq
      refine pm_keep fun H locs ls kc ks hL hkc hks k => ?_
      exact lv_if_ne X.1 X.2.1 hd ht (fun _ => k ls hL.2.2) (fun g => absurd g hq)
    · rename_i hq
      cases ho
      rw [decide_eq_true_eq] at hq
      refine pm_keep fun H locs ls kc ks hL hkc hks k => ?_
      have k := k ls hL.2.2
      rw [hx] at k
      exact lv_if_ne X.1 X.2.1 hd ht (fun g => absurd g hq) (fun _ => k)
  · cases ho
theorem so_icmp_ne {t : Nat} {off : Int} (hd : decode cc (b i) = .ok (.if_icmp .ne off, 3)) (ht : ((b i : Nat) : Int) + off = ((b t : Nat) : Int)) (hx : b x = b i + 3) : pm_S cc nL own nm ret Y b i (pm_icmp t x (fun a b => decide (a ≠ b))) := by
  intro p l e R s m args below meth c Q D aC z bS X lc st h o ho
  unfold pm_icmp at ho
  split at ho
  · split at ho
    · rename_i hq
      cases ho
      rw [decide_eq_true_eq] at hq
      refine pm_keep fun H locs ls kc ks hL hkc hks k => ?_
      exact lv_icmp_ne X.1 X.2.1 hd ht (fun _ => k ls hL.2.2) (fun g => absurd g hq)
    · rename_i hq
      cases ho
      rw [decide_eq_true_eq] at hq
      refine pm_keep fun H locs ls kc ks hL hkc hks k => ?_
      have k := k ls hL.2.2
      rw [hx] at k
      exact lv_icmp_ne X.1 X.2.1 hd ht (fun g => absurd g hq) (fun _ => k)
  · cases ho
theorem so_if_lt {t : Nat} {off : Int} (hd : decode cc (b i) = .ok (.ifCond .lt off, 3)) (ht : ((b i : Nat) : Int) + off = ((b t : Nat) : Int)) (hx : b x = b i + 3) : pm_S cc nL own nm ret Y b i (pm_if t x (fun a => decide (a < 0))) := by
  intro p l e R s m args below meth c Q D aC z bS X lc st h o ho
  unfold pm_if at ho
  split at ho
  · split at ho
    · rename_i hq
      cases ho
      rw [decide_eq_true_eq] at hq
      refine pm_keep fun H locs ls kc ks hL hkc hks k => ?_
      exact lv_if_lt X.1 X.2.1 hd ht (fun _ => k ls hL.2.2) (fun g => absurd hq g)
    · rename_i hq
      cases ho
      rw [decide_eq_true_eq] at hq
      refine pm_keep fun H locs ls kc ks hL hkc hks k => ?_
      have k := k ls hL.2.2
      rw [hx] at k
      exact lv_if_lt X.1 X.2.1 hd ht (fun g => absurd g hq) (fun _ => k)
  · cases ho
theorem so_icmp_lt {t : Nat} {off : Int} (hd : decode cc (b i) = .ok (.if_icmp .lt off, 3)) (ht : ((b i : Nat) : Int) + off = ((b t : Nat) : Int)) (hx : b x = b i + 3) : pm_S cc nL own nm ret Y b i (pm_icmp t x (fun a b => decide (a < b))) := by
  intro p l e R s m args below meth c Q D aC z bS X lc st h o ho
  unfold pm_icmp at ho
  split at ho
  · split at ho
    · rename_i hq
      cases ho
      rw [decide_eq_true_eq] at hq
      refine pm_keep fun H locs ls kc ks hL hkc hks k => ?_
      exact lv_icmp_lt X.1 X.2.1 hd ht (fun _ => k ls hL.2.2) (fun g => absurd hq g)
    · rename_i hq
      cases ho
      rw [decide_eq_true_eq] at hq
      refine pm_keep fun H locs ls kc ks hL hkc hks k => ?_
      have k := k ls hL.2.2
      rw [hx] at k
      exact lv_icmp_lt X.1 X.2.1 hd ht (fun g => absurd g hq) (fun _ => k)
  · cases ho
theorem so_if_ge {t : Nat} {off : Int} (hd : decode cc (b i) = .ok (.ifCond .ge off, 3)) (ht : ((b i : Nat) : Int) + off = ((b t : Nat) : Int)) (hx : b x = b i + 3) : pm_S cc nL own nm ret Y b i (pm_if t x (fun a => decide (0 ≤ a))) := by
  intro p l e R s m args below meth c Q D aC z bS X lc st h o ho
  unfold pm_if at ho
  split at ho
  · split at ho
    · rename_i hq
      cases ho
      rw [decide_eq_true_eq] at hq
      refine pm_keep fun H locs ls kc ks hL hkc hks k => ?_
      exact lv_if_ge X.1 X.2.1 hd ht (fun _ => k ls hL.2.2) (fun g => absurd hq g)
    · rename_i hq
      cases ho
      rw [decide_eq_true_eq] at hq
      refine pm_keep fun H locs ls kc ks hL hkc hks k => ?_
      have k := k ls hL.2.2
      rw [hx] at k
      exact lv_if_ge X.1 X.2.1 hd ht (fun g => absurd g hq) (fun _ => k)
  · cases ho
theorem so_icmp_ge {t : Nat} {off : Int} (hd : decode cc (b i) = .ok (.if_icmp .ge off, 3)) (ht : ((b i : Nat) : Int) + off = ((b t : Nat) : Int)) (hx : b x = b i + 3) : pm_S cc nL own nm ret Y b i (pm_icmp t x (fun a b => decide (b ≤ a))) := by
  intro p l e R s m args below meth c Q D aC z bS X lc st h o ho
  unfold pm_icmp at ho
  split at ho
  · split at ho
    · rename_i hq
      cases ho
      rw [decide_eq_true_eq] at hq
      refine pm_keep fun H locs ls kc ks hL hkc hks k => ?_
      exact lv_icmp_ge X.1 X.2.1 hd ht (fun _ => k ls hL.2.2) (fun g => absurd hq g)
    · rename_i hq
      cases ho
      rw [decide_eq_true_eq] at hq
      refine pm_keep fun H locs ls kc ks hL hkc hks k => ?_
      have k := k ls hL.2.2
      rw [hx] at k
      exact lv_icmp_ge X.1 X.2.1 hd ht (fun g => absurd g hq) (fun _ => k)
  · cases ho
theorem so_if_gt {t : Nat} {off : Int} (hd : decode cc (b i) = .ok (.ifCond .gt off, 3)) (ht : ((b i : Nat) : Int) + off = ((b t : Nat) : Int)) (hx : b x = b i + 3) : pm_S cc nL own nm ret Y b i (pm_if t x (fun a => decide (0 < a))) := by
  intro p l e R s m args below meth c Q D aC z bS X lc st h o ho
  unfold pm_if at ho
  split at ho
  · split at ho
    · rename_i hq
      cases ho
      rw [decide_eq_true_eq] at hq
      refine pm_keep fun H locs ls kc ks hL hkc hks k => ?_
      exact lv_if_gt X.1 X.2.1 hd ht (fun _ => k ls hL.2.2) (fun g => absurd hq g)
    · rename_i hq
      cases ho
      rw [decide_eq_true_eq] at hq
      refine pm_keep fun H locs ls kc ks hL hkc hks k => ?_
      have k := k ls hL.2.2
      rw [hx] at k
      exact lv_if_gt X.1 X.2.1 hd ht (fun g => absurd g hq) (fun _ => k)
  · cases ho
theorem so_icmp_gt {t : Nat} {off : Int} (hd : decode cc (b i) = .ok (.if_icmp .gt off, 3)) (ht : ((b i : Nat) : Int) + off = ((b t : Nat) : Int)) (hx : b x = b i + 3) : pm_S cc nL own nm ret Y b i (pm_icmp t x (fun a b => decide (b < a))) := by
  intro p l e R s m args below meth c Q D aC z bS X lc st h o ho
  unfold pm_icmp at ho
  split at ho
  · split at ho
    · rename_i hq
      cases ho
      rw [decide_eq_true_eq] at hq
      refine pm_keep fun H locs ls kc ks hL hkc hks k => ?_
      exact lv_icmp_gt X.1 X.2.1 hd ht (fun _ => k ls hL.2.2) (fun g => absurd hq g)
    · rename_i hq
      cases ho
      rw [decide_eq_true_eq] at hq
      refine pm_keep fun H locs ls kc ks hL hkc hks k => ?_
      have k := k ls hL.2.2
      rw [hx] at k
      exact lv_icmp_gt X.1 X.2.1 hd ht (fun g => absurd g hq) (fun _ => k)
  · cases ho
theorem so_if_le {t : Nat} {off : Int} (hd : decode cc (b i) = .ok (.ifCond .le off, 3)) (ht : ((b i : Nat) : Int) + off = ((b t : Nat) : Int)) (hx : b x = b i + 3) : pm_S cc nL own nm ret Y b i (pm_if t x (fun a => decide (a ≤ 0))) := by
  intro p l e R s m args below meth c Q D aC z bS X lc st h o ho
  unfold pm_if at ho
  split at ho
  · split at ho
    · rename_i hq
      cases ho
      rw [decide_eq_true_eq] at hq
      refine pm_keep fun H locs ls kc ks hL hkc hks k => ?_
      exact lv_if_le X.1 X.2.1 hd ht (fun _ => k ls hL.2.2) (fun g => absurd hq g)
    · rename_i hq
      cases ho
      rw [decide_eq_true_eq] at hq
      refine pm_keep fun H locs ls kc ks hL hkc hks k => ?_
      have k := k ls hL.2.2
      rw [hx] at k
      exact lv_if_le X.1 X.2.1 hd ht (fun g => absurd g hq) (fun _ => k)
  · cases ho
theorem so_icmp_le {t : Nat} {off : Int} (hd : decode cc (b i) = .ok (.if_icmp .le off, 3)) (ht : ((b i : Nat) : Int) + off = ((b t : Nat) : Int)) (hx : b x = b i + 3) : pm_S cc nL own nm ret Y b i (pm_icmp t x (fun a b => decide (a ≤ b))) := by
  intro p l e R s m args below meth c Q D aC z bS X lc st h o ho
  unfold pm_icmp at ho
  split at ho
  · split at ho
    · rename_i hq
      cases ho
      rw [decide_eq_true_eq] at hq
      refine pm_keep fun H locs ls kc ks hL hkc hks k => ?_
      exact lv_icmp_le X.1 X.2.1 hd ht (fun _ => k ls hL.2.2) (fun g => absurd hq g)
    · rename_i hq
      cases ho
      rw [decide_eq_true_eq] at hq
      refine pm_keep fun H locs ls kc ks hL hkc hks k => ?_
      have k := k ls hL.2.2
      rw [hx] at k
      exact lv_icmp_le X.1 X.2.1 hd ht (fun g => absurd g hq) (fun _ => k)
  · cases ho
theorem so_goto {t : Nat} {off : Int} (hd : decode cc (b i) = .ok (.goto off, 3)) (ht : ((b i : Nat) : Int) + off = ((b t : Nat) : Int)) : pm_S cc nL own nm ret Y b i (pm_goto t) := by
  intro p l e R s m args below meth c Q D aC z bS X lc st h o ho
  cases ho
  refine pm_keep fun H locs ls kc ks hL hkc hks k => ?_
  exact lv_goto X.1 X.2.1 hd ht (k ls hL.2.2)
theorem so_vret (hd : decode cc (b i) = .ok (.return_, 1)) (hr : ret = none) : pm_S cc nL own nm ret Y b i (pm_vret) := by
  intro p l e R s m args below meth c Q D aC z bS X lc st h o ho
  unfold pm_vret at ho
  split at ho
  · cases ho
    exact ⟨rfl, rfl, hd, hr⟩
  · cases ho
theorem so_iret (hd : decode cc (b i) = .ok (.ireturn, 1)) (hr : ret = some .int) : pm_S cc nL own nm ret Y b i (pm_iret) := by
  intro p l e R s m args below meth c Q D aC z bS X lc st h o ho
  unfold pm_iret at ho
  split at ho
  · cases ho
    exact ⟨rfl, rfl, hd, .int, hr, rfl⟩
  · cases ho
theorem so_zret (hd : decode cc (b i) = .ok (.ireturn, 1)) (hr : ret = some .boolean) : pm_S cc nL own nm ret Y b i (pm_zret) := by
  intro p l e R s m args below meth c Q D aC z bS X lc st h o ho
  unfold pm_zret at ho
  split at ho
  · split at ho
    · rename_i hv
      cases ho
      refine ⟨rfl, rfl, hd, .boolean, hr, ?_⟩
      simp only [Bool.or_eq_true, beq_iff_eq] at hv
      rcases hv with rfl | rfl <;> rfl
    · cases ho
  · cases ho
theorem so_aret {C : String} (hd : decode cc (b i) = .ok (.areturn, 1)) (hr : ret = some (.object C)) : pm_S cc nL own nm ret Y b i (pm_aret) := by
  intro p l e R s m args below meth c Q D aC z bS X lc st h o ho
  unfold pm_aret at ho
  split at ho
  · cases ho
    exact ⟨rfl, rfl, hd, C, hr⟩
  · cases ho
end OPS
end
section
-- ===== fields =====
theorem pm_v_i {z : Nat} {h : pm_H} {k j : Nat} (h0 : pm_rf (pm_ft (h.2.2.1 k).1 j) = false) : pm_v z h k j = .int (h.2.2.2.1 k j) := by
  unfold pm_v
  rw [h0]
  rfl
theorem pm_v_r {z : Nat} {h : pm_H} {k j r : Nat} (h0 : pm_rf (pm_ft (h.2.2.1 k).1 j) = true) (hr : h.2.2.2.2 k j = some r) : pm_v z h k j = .ref (z + r) := by
  unfold pm_v
  rw [h0, hr]
  rfl
theorem pm_obj_spec {h : pm_H} {k ci j : Nat} (hq : pm_obj h k ci j = true) : k < h.1 ∧ (h.2.2.1 k).1 = 16 + ci ∧ j < (h.2.2.1 k).2 := by
  simp only [pm_obj, Bool.and_eq_true, decide_eq_true_eq, beq_iff_eq] at hq
  exact ⟨hq.1.1, hq.1.2, hq.2⟩
theorem pm_arr_spec {h : pm_H} {k t : Nat} {i : Int32} (hq : pm_arr h k t i = true) : k < h.1 ∧ (h.2.2.1 k).1 = t ∧ ¬ (i < 0 ∨ (h.2.2.1 k).2 ≤ i.toNatClampNeg) := by
  simp only [pm_arr, Bool.and_eq_true, decide_eq_true_eq, beq_iff_eq, Bool.not_eq_true', Bool.or_eq_false_iff, decide_eq_false_iff_not] at hq
  exact ⟨hq.1.1, hq.1.2, fun g => g.elim hq.2.1 hq.2.2⟩
section FLD
variable {p : Program} {l : Launch} {e : Env} {R : Room} {s : State} {m : MethodId} {args : Array Value} {below : List Frame} {meth : Method} {c : Code} {H : Heap} {locs : List Loc} {cells slots : Nat} {Q : State → Prop}
variable {cc : ByteArray} {nL : Nat} {own nm : String} {D : va_G} {aC : Nat → ClassId} {z : Nat} {pc : Nat} {ls : Array Slot} {rest : List Value}
def pm_fl (own : String) (idx : Nat) (C n d : String) : Prop := Cond.fieldLink own idx C n d ∈ lw_tbl ∨ ∃ host, Cond.fieldLinkNest own idx C n d host ∈ lw_tbl
theorem pm_Wget (X : pm_X p R s m meth c cc nL own nm D aC z) {ci k idx N a : Nat} {C : String} {T : u_T} (hq : vwCl[ci]? = some (C, T, N)) (hk : k < N) (ho : (T k).1 = C) (hl : pm_fl own idx C (T k).2.1 (T k).2.2.1) {V : Nat → Value} (hob : t_OB a (D.1 ci) N (D.2 ci) H V) (hdg : decode cc pc = .ok (.getfield idx, 3))
    (kk : W p l e R s m args below meth c H locs cells slots Q (F0 m (pc + 3) ls (V k :: rest))) : W p l e R s m args below meth c H locs cells slots Q (F0 m pc ls (.ref a :: rest)) := by
  obtain ⟨hexec, hb, -, hown, hG, -⟩ := X
  obtain ⟨cell, q1, q2, q3, q4⟩ := hob
  obtain ⟨hS, hfc, kC, hkC, hkind⟩ := hG.2.1 ci _ hq
  obtain ⟨cf, kf, fi, f, hi, hsl⟩ := hS k hk
  have hts : ∀ w ∈ u_ws C T N, w.before args s = true := fun w hw => pm_word hG (pm_cF ci _ hq w hw).1 (pm_cF ci _ hq w hw).2
  have hst := (u_facts hfc hkC (u_lays hts (fun _ h => h) hk) hi).1
  have hi' : s.fieldFound? C (T k).2.1 (T k).2.2.1 = some (cf, kf, fi, f) := by rw [← hi]; exact congrArg (fun o => s.fieldFound? o (T k).2.1 (T k).2.2.1) ho.symm
  rcases hl with hl | ⟨host, hl⟩
  · exact W.getf hexec hb hown (pm_word hG hl rfl) hi' hst q1 (by rw [q3]; exact fun h => by cases h) (v := V k) (by rw [hsl]; exact q4 k hk) rfl rfl hdg kk
  · exact va_Wgetf hexec hb hown (pm_word hG hl rfl) hi' hst q1 (by rw [q3]; exact fun h => by cases h) (v := V k) (by rw [hsl]; exact q4 k hk) rfl rfl hdg kk
/-- which fields may be written: those that aren't final, and final ones in their own constructor -/
def pm_fw (own nm : String) (idx : Nat) (C : String) (q : String × String × String × Bool) : Prop := (q.2.2.2 = false ∧ pm_fl own idx C q.2.1 q.2.2.1) ∨ (q.2.2.2 = true ∧ nm = "<init>" ∧ q.1 = own ∧ Cond.fieldLink own idx C q.2.1 q.2.2.1 ∈ lw_tbl)
theorem pm_Wput (X : pm_X p R s m meth c cc nL own nm D aC z) {ci k idx N a : Nat} {C : String} {T : u_T} (hq : vwCl[ci]? = some (C, T, N)) (hk : k < N) (ho : (T k).1 = C) (hl : pm_fw own nm idx C (T k)) {V : Nat → Value} (hob : t_OB a (D.1 ci) N (D.2 ci) H V) {v : Value} (hn : narrow (pm_ft (16 + ci) k) v = v) (hfit : fits (pm_ft (16 + ci) k) v = true) (hdg : decode cc pc = .ok (.putfield idx, 3))
    (kk : ∀ (H1 : Heap) (locs1 : List Loc), t_OB a (D.1 ci) N (D.2 ci) H1 (updV V k v) → H1.size = H.size → (∀ q : Nat, q ≠ a → H1[q]? = H[q]?) → (∃ w, locs1 = locs ++ [⟨a, w⟩]) → W p l e R s m args below meth c H1 locs1 cells slots Q (F0 m (pc + 3) ls rest)) : W p l e R s m args below meth c H locs cells slots Q (F0 m pc ls (v :: .ref a :: rest)) := by
  obtain ⟨hexec, hb, -, hown, hG, -, -, -, hnm⟩ := X
  obtain ⟨cell, q1, q2, q3, q4⟩ := hob
  obtain ⟨hS, hfc, kC, hkC, hkind⟩ := hG.2.1 ci _ hq
  have hts : ∀ w ∈ u_ws C T N, w.before args s = true := fun w hw => pm_word hG (pm_cF ci _ hq w hw).1 (pm_cF ci _ hq w hw).2
  have hap : ∀ x y, x < N → y < N → x ≠ y → (D.2 ci) x ≠ (D.2 ci) y := by
    intro x y hx hy hne
    obtain ⟨_, _, _, fa, hia, ea⟩ := hS x hx
    obtain ⟨_, _, _, fb, hib, eb⟩ := hS y hy
    rw [← ea, ← eb]
    refine u_apart (u_lays hts (fun _ h => h) hx) (u_lays hts (fun _ h => h) hy) hia hib ?_
    rw [(State.fieldFound?_type hia (pm_cT ci _ hq x hx)).1, (State.fieldFound?_type hib (pm_cT ci _ hq y hy)).1]
    exact pm_cN ci _ hq x hx y hy hne
  obtain ⟨cf, kf, fi, f, hi, hsl⟩ := hS k hk
  have hst := (u_facts hfc hkC (u_lays hts (fun _ h => h) hk) hi).1
  have hi' : s.fieldFound? C (T k).2.1 (T k).2.2.1 = some (cf, kf, fi, f) := by rw [← hi]; exact congrArg (fun o => s.fieldFound? o (T k).2.1 (T k).2.2.1) ho.symm
  have hlay := hts _ (u_in_lay hk)
  unfold u_lay at hlay
  have hd := pm_cT ci _ hq k hk
  rcases hl with ⟨hfin, hl⟩ | ⟨hfin, hini, hdecl, hl⟩
  · rw [if_neg (by rw [hfin]; decide)] at hlay
    have h6 := u_store hfc hkC hkind hlay hi hd hn hfit
    rcases hl with hl | ⟨host, hl⟩
    · refine W.putK hexec hb (f := f) ⟨hown, pm_word hG hl rfl, ⟨_, _, _, hi'⟩, hst⟩ (by rw [q2]; exact h6) q1 q3 (by rw [hsl]; exact k2_hasslot (q4 k hk)) rfl rfl hdg fun H' e1 e2 e3 => ?_
      rw [hsl] at e1 ⊢
      exact kk H' _ ⟨_, e1, q2, q3, t_set q4 hap hk v⟩ e2 e3 ⟨_, rfl⟩
    · refine va_WputK hexec hb (f := f) hown (pm_word hG hl rfl) hi' hst (by rw [q2]; exact h6) q1 q3 (by rw [hsl]; exact k2_hasslot (q4 k hk)) rfl rfl hdg fun H' e1 e2 e3 => ?_
      rw [hsl] at e1 ⊢
      exact kk H' _ ⟨_, e1, q2, q3, t_set q4 hap hk v⟩ e2 e3 ⟨_, rfl⟩
  · rw [if_pos hfin] at hlay
    have hcf : m.cls = cf := by
      obtain ⟨_, _, c', _, _, _, -, -, hf', -, -, -, hown2, -⟩ := Cond.laysFinal_spec hlay
      have e1 : c' = cf := by have := hi.symm.trans hf'; simp at this; exact this.1.symm
      rw [hdecl] at hown2
      rw [← e1]; exact Option.some.inj (hown.symm.trans hown2)
    have h6 := u_fits hfc hkC hkind (Or.inr hlay) hi hd hn hfit
    refine W.putFinK hexec hb hown (pm_word hG hl rfl) hi' hst hcf (hnm.trans hini) (by rw [q2]; exact h6) q1 q3 (by rw [hsl]; exact k2_hasslot (q4 k hk)) rfl rfl hdg fun H' e1 e2 e3 => ?_
    rw [hsl] at e1 ⊢
    exact kk H' _ ⟨_, e1, q2, q3, t_set q4 hap hk v⟩ e2 e3 ⟨_, rfl⟩
end FLD
theorem pm_at_obj {D : va_G} {aC : Nat → ClassId} {z : Nat} {h : pm_H} {H : Heap} {k ci : Nat} {C : String} {T : u_T} {N : Nat} (hq : vwCl[ci]? = some (C, T, N)) (h1 : (h.2.2.1 k).1 = 16 + ci) : pm_at D aC z h H k ↔ (N = (h.2.2.1 k).2 ∧ t_OB (z + k) (D.1 ci) N (D.2 ci) H (pm_v z h k)) := by
  constructor
  · intro g
    obtain ⟨r, g1, g2, g3⟩ := g.2 ci h1
    rw [hq] at g1
    cases g1
    exact ⟨g2, g3⟩
  · intro g
    refine ⟨fun hl => absurd hl (by omega), fun ci' h' => ?_⟩
    have : ci' = ci := by omega
    subst this
    exact ⟨_, hq, g.1, g.2⟩
theorem pm_at_arr {D : va_G} {aC : Nat → ClassId} {z : Nat} {h : pm_H} {H : Heap} {k t : Nat} (ht : t < 16) (h1 : (h.2.2.1 k).1 = t) : pm_at D aC z h H k ↔ H[z + k]? = some (arrV (aC t) (h.2.2.1 k).2 (pm_v z h k)) := by
  constructor
  · intro g
    have := g.1 (by omega)
    rw [h1] at this
    exact this
  · intro g
    exact ⟨fun _ => by rw [h1]; exact g, fun ci h' => by omega⟩
section OPF
variable {cc : ByteArray} {nL : Nat} {own nm : String} {ret : Option FieldType} {Y : Nat → pm_N} {b : Nat → Nat} {i x : Nat}
theorem so_geti {ci k idx N : Nat} {C : String} {T : u_T} (hq : vwCl[ci]? = some (C, T, N)) (hk : k < N) (ho : (T k).1 = C) (hr : pm_rf (pm_ft (16 + ci) k) = false) (hl : pm_fl own idx C (T k).2.1 (T k).2.2.1) (hd : decode cc (b i) = .ok (.getfield idx, 3)) (hx : b x = b i + 3) : pm_S cc nL own nm ret Y b i (pm_geti x ci k) := by
  intro p l e R s m args below meth c Q D aC z bS X lc st h o ho'
  unfold pm_geti at ho'
  split at ho'
  · split at ho'
    · rename_i a st' hobj
      cases ho'
      obtain ⟨g1, g2, g3⟩ := pm_obj_spec hobj
      refine pm_keep fun H locs ls kc ks hL hkc hks kk => ?_
      have kk := kk ls hL.2.2
      rw [hx] at kk
      have hat := ((pm_at_obj hq g2).mp (hL.1.2 a g1)).2
      refine pm_Wget X hq hk ho hl hat hd ?_
      rw [pm_v_i (by rw [g2]; exact hr)]
      exact kk
    · cases ho'
  · cases ho'
theorem so_getr {ci k idx N : Nat} {C : String} {T : u_T} (hq : vwCl[ci]? = some (C, T, N)) (hk : k < N) (ho : (T k).1 = C) (hr : pm_rf (pm_ft (16 + ci) k) = true) (hl : pm_fl own idx C (T k).2.1 (T k).2.2.1) (hd : decode cc (b i) = .ok (.getfield idx, 3)) (hx : b x = b i + 3) : pm_S cc nL own nm ret Y b i (pm_getr x ci k) := by
  intro p l e R s m args below meth c Q D aC z bS X lc st h o ho'
  unfold pm_getr at ho'
  split at ho'
  · split at ho'
    · rename_i a st' hobj
      split at ho'
      · rename_i r hrr
        cases ho'
        obtain ⟨g1, g2, g3⟩ := pm_obj_spec hobj
        refine pm_keep fun H locs ls kc ks hL hkc hks kk => ?_
        have kk := kk ls hL.2.2
        rw [hx] at kk
        have hat := ((pm_at_obj hq g2).mp (hL.1.2 a g1)).2
        refine pm_Wget X hq hk ho hl hat hd ?_
        rw [pm_v_r (by rw [g2]; exact hr) hrr]
        exact kk
      · cases ho'
    · cases ho'
  · cases ho'
theorem pm_puts {p : Program} {l : Launch} {e : Env} {R : Room} {s : State} {m : MethodId} {args : Array Value} {below : List Frame} {meth : Method} {c : Code} {Q : State → Prop} {D : va_G} {aC : Nat → ClassId} {z bS : Nat} (X : pm_X p R s m meth c cc nL own nm D aC z) {ci k idx N : Nat} {C : String} {T : u_T} (hq : vwCl[ci]? = some (C, T, N)) (hk : k < N) (ho : (T k).1 = C) (hl : pm_fw own nm idx C (T k)) (hd : decode cc (b i) = .ok (.putfield idx, 3)) (hx : b x = b i + 3)
    {lc st : List Value} {h h' : pm_H} {a : Nat} {v : Value} (g1 : a < h.1) (g2 : (h.2.2.1 a).1 = 16 + ci) (h1 : h'.1 = h.1) (h2 : h'.2.1 = h.2.1) (h3 : h'.2.2.1 = h.2.2.1) (hn : narrow (pm_ft (16 + ci) k) (pm_t z bS v) = pm_t z bS v) (hfit : fits (pm_ft (16 + ci) k) (pm_t z bS v) = true) (hv : ∀ j, j ≠ a → pm_v z h' j = pm_v z h j) (hu : updV (pm_v z h a) k (pm_t z bS v) = pm_v z h' a) : pm_SN p l e R s m args below meth c Q D aC z bS nL b i lc (v :: .ref a :: st) h (x, lc, st, h') := by
  refine pm_put h1 h2 fun H locs ls kc ks hL kk => ?_
  rw [hx] at kk
  obtain ⟨hN, hat⟩ := (pm_at_obj hq g2).mp (hL.1.2 a g1)
  refine pm_Wput X hq hk ho hl hat hn hfit hd (fun H1 locs1 hob hz oq hlo => ?_)
  obtain ⟨w, rfl⟩ := hlo
  refine kk H1 _ (hL.1.set h1 h3 hv hz oq ?_) (hL.2.1.put hz oq (Nat.le_add_right z a))
  refine (pm_at_obj hq (by rw [h3]; exact g2)).mpr ⟨by rw [h3]; exact hN, ?_⟩
  rw [← hu]
  exact hob
theorem pm_v_sA {z : Nat} {h : pm_H} {a k : Nat} {v : Int32} : (∀ j, j ≠ a → pm_v z (pm_sA h a k v) j = pm_v z h j) ∧ (pm_rf (pm_ft (h.2.2.1 a).1 k) = false → updV (pm_v z h a) k (.int v) = pm_v z (pm_sA h a k v) a) := by
  refine ⟨fun j hj => ?_, fun h0 => ?_⟩
  · funext q
    simp [pm_v, pm_sA, pm_u, hj]
  · funext q
    by_cases hqk : q = k
    · subst hqk
      simp [updV, pm_v, pm_sA, pm_u, h0]
    · simp [updV, pm_v, pm_sA, pm_u, hqk]
theorem pm_v_sP {z : Nat} {h : pm_H} {a k r : Nat} : (∀ j, j ≠ a → pm_v z (pm_sP h a k (some r)) j = pm_v z h j) ∧ (pm_rf (pm_ft (h.2.2.1 a).1 k) = true → updV (pm_v z h a) k (.ref (z + r)) = pm_v z (pm_sP h a k (some r)) a) := by
  refine ⟨fun j hj => ?_, fun h0 => ?_⟩
  · funext q
    simp [pm_v, pm_sP, pm_u, hj]
  · funext q
    by_cases hqk : q = k
    · subst hqk
      simp [updV, pm_v, pm_sP, pm_u, h0, va_rf]
    · simp [updV, pm_v, pm_sP, pm_u, hqk]
theorem so_puti {ci k idx N : Nat} {C : String} {T : u_T} (hq : vwCl[ci]? = some (C, T, N)) (hk : k < N) (ho : (T k).1 = C) (hr : pm_ft (16 + ci) k = .int) (hl : pm_fw own nm idx C (T k)) (hd : decode cc (b i) = .ok (.putfield idx, 3)) (hx : b x = b i + 3) : pm_S cc nL own nm ret Y b i (pm_puti x ci k) := by
  intro p l e R s m args below meth c Q D aC z bS X lc st h o ho'
  unfold pm_puti at ho'
  split at ho'
  · split at ho'
    · rename_i v a st' hobj
      cases ho'
      obtain ⟨g1, g2, g3⟩ := pm_obj_spec hobj
      exact pm_puts X hq hk ho hl hd hx g1 g2 rfl rfl rfl (by rw [hr]; rfl) (by rw [hr]; rfl) pm_v_sA.1 (pm_v_sA.2 (by rw [g2, hr]; rfl))
    · cases ho'
  · cases ho'
theorem so_putz {ci k idx N : Nat} {C : String} {T : u_T} (hq : vwCl[ci]? = some (C, T, N)) (hk : k < N) (ho : (T k).1 = C) (hr : pm_ft (16 + ci) k = .boolean) (hl : pm_fw own nm idx C (T k)) (hd : decode cc (b i) = .ok (.putfield idx, 3)) (hx : b x = b i + 3) : pm_S cc nL own nm ret Y b i (pm_putz x ci k) := by
  intro p l e R s m args below meth c Q D aC z bS X lc st h o ho'
  unfold pm_putz at ho'
  split at ho'
  · split at ho'
    · rename_i v a st' hobj
      cases ho'
      rw [Bool.and_eq_true] at hobj
      obtain ⟨g1, g2, g3⟩ := pm_obj_spec hobj.1
      have hv := hobj.2
      simp only [Bool.or_eq_true, beq_iff_eq] at hv
      exact pm_puts X hq hk ho hl hd hx g1 g2 rfl rfl rfl (by rw [hr]; rcases hv with rfl | rfl <;> rfl) (by rw [hr]; rcases hv with rfl | rfl <;> rfl) pm_v_sA.1 (pm_v_sA.2 (by rw [g2, hr]; rfl))
    · cases ho'
  · cases ho'
theorem so_putr {ci k idx N : Nat} {C : String} {T : u_T} (hq : vwCl[ci]? = some (C, T, N)) (hk : k < N) (ho : (T k).1 = C) (hr : pm_rf (pm_ft (16 + ci) k) = true) (hl : pm_fw own nm idx C (T k)) (hd : decode cc (b i) = .ok (.putfield idx, 3)) (hx : b x = b i + 3) : pm_S cc nL own nm ret Y b i (pm_putr x ci k) := by
  intro p l e R s m args below meth c Q D aC z bS X lc st h o ho'
  unfold pm_putr at ho'
  split at ho'
  · split at ho'
    · rename_i r a st' hobj
      cases ho'
      obtain ⟨g1, g2, g3⟩ := pm_obj_spec hobj
      have hn : narrow (pm_ft (16 + ci) k) (.ref (z + r)) = .ref (z + r) := by
        revert hr; cases pm_ft (16 + ci) k <;> intro hr <;> first | rfl | cases hr
      have hfit : fits (pm_ft (16 + ci) k) (.ref (z + r)) = true := by
        revert hr; cases pm_ft (16 + ci) k <;> intro hr <;> first | rfl | cases hr
      exact pm_puts X hq hk ho hl hd hx g1 g2 rfl rfl rfl hn hfit pm_v_sP.1 (pm_v_sP.2 (by rw [g2]; exact hr))
    · cases ho'
  · cases ho'
-- ===== arrays =====
theorem so_iald (hd : decode cc (b i) = .ok (.iaload, 1)) (hx : b x = b i + 1) : pm_S cc nL own nm ret Y b i (pm_iald x 0) := by
  intro p l e R s m args below meth c Q D aC z bS X lc st h o ho'
  unfold pm_iald at ho'
  split at ho'
  · split at ho'
    · rename_i j a st' harr
      cases ho'
      obtain ⟨g1, g2, g3⟩ := pm_arr_spec harr
      refine pm_keep fun H locs ls kc ks hL hkc hks kk => ?_
      have kk := kk ls hL.2.2
      rw [hx] at kk
      have hat := (pm_at_arr (by omega) g2).mp (hL.1.2 a g1)
      have hlt : j.toNatClampNeg < (h.2.2.1 a).2 := Nat.not_le.mp fun q => g3 (Or.inr q)
      exact W.iald (v := .int (h.2.2.2.1 a j.toNatClampNeg)) X.1 X.2.1 hat ((X.2.2.2.2.1.2.2 0 .int rfl).1 _ _) (fun q => by cases q) (by rw [arrV_size]; exact g3) (by rw [arrV_read _ _ hlt, pm_v_i (by rw [g2]; rfl)]) rfl rfl hd kk
    · cases ho'
  · cases ho'
theorem so_zald (hd : decode cc (b i) = .ok (.baload, 1)) (hx : b x = b i + 1) : pm_S cc nL own nm ret Y b i (pm_iald x 1) := by
  intro p l e R s m args below meth c Q D aC z bS X lc st h o ho'
  unfold pm_iald at ho'
  split at ho'
  · split at ho'
    · rename_i j a st' harr
      cases ho'
      obtain ⟨g1, g2, g3⟩ := pm_arr_spec harr
      refine pm_keep fun H locs ls kc ks hL hkc hks kk => ?_
      have kk := kk ls hL.2.2
      rw [hx] at kk
      have hat := (pm_at_arr (by omega) g2).mp (hL.1.2 a g1)
      have hlt : j.toNatClampNeg < (h.2.2.1 a).2 := Nat.not_le.mp fun q => g3 (Or.inr q)
      exact W.zald (v := .int (h.2.2.2.1 a j.toNatClampNeg)) X.1 X.2.1 hat ((X.2.2.2.2.1.2.2 1 .boolean rfl).1 _ _) (fun q => by cases q) (by rw [arrV_size]; exact g3) (by rw [arrV_read _ _ hlt, pm_v_i (by rw [g2]; rfl)]) rfl rfl hd kk
    · cases ho'
  · cases ho'
theorem so_iast (hd : decode cc (b i) = .ok (.iastore, 1)) (hx : b x = b i + 1) : pm_S cc nL own nm ret Y b i (pm_iast x) := by
  intro p l e R s m args below meth c Q D aC z bS X lc st h o ho'
  unfold pm_iast at ho'
  split at ho'
  · split at ho'
    · rename_i v j a st' harr
      cases ho'
      obtain ⟨g1, g2, g3⟩ := pm_arr_spec harr
      refine pm_put rfl rfl fun H locs ls kc ks hL kk => ?_
      rw [hx] at kk
      have hat := (pm_at_arr (by omega) g2).mp (hL.1.2 a g1)
      refine W.iast X.1 X.2.1 hat ((X.2.2.2.2.1.2.2 0 .int rfl).1 _ _) (fun q => by cases q) (by rw [arrV_size]; exact g3) rfl rfl hd fun H1 e1 hz oq => ?_
      refine kk H1 _ (hL.1.set rfl rfl pm_v_sA.1 hz oq ((pm_at_arr (h := pm_sA h a j.toNatClampNeg v) (t := 0) (by omega) g2).mpr ?_)) (hL.2.1.put hz oq (Nat.le_add_right z a))
      rw [e1, arrV_store, pm_v_sA.2 (by rw [g2]; rfl)]
      rfl
    · cases ho'
  · cases ho'
theorem so_zast (hd : decode cc (b i) = .ok (.bastore, 1)) (hx : b x = b i + 1) : pm_S cc nL own nm ret Y b i (pm_zast x) := by
  intro p l e R s m args below meth c Q D aC z bS X lc st h o ho'
  unfold pm_zast at ho'
  split at ho'
  · split at ho'
    · rename_i v j a st' harr
      cases ho'
      obtain ⟨g1, g2, g3⟩ := pm_arr_spec harr
      refine pm_put rfl rfl fun H locs ls kc ks hL kk => ?_
      rw [hx] at kk
      have hat := (pm_at_arr (by omega) g2).mp (hL.1.2 a g1)
      refine W.zast X.1 X.2.1 hat ((X.2.2.2.2.1.2.2 1 .boolean rfl).1 _ _) (fun q => by cases q) (by rw [arrV_size]; exact g3) rfl rfl hd fun H1 e1 hz oq => ?_
      refine kk H1 _ (hL.1.set rfl rfl pm_v_sA.1 hz oq ((pm_at_arr (h := pm_sA h a j.toNatClampNeg (v &&& 1)) (t := 1) (by omega) g2).mpr ?_)) (hL.2.1.put hz oq (Nat.le_add_right z a))
      rw [e1, arrV_store, show narrow .boolean (.int v) = .int (v &&& 1) from rfl, pm_v_sA.2 (by rw [g2]; rfl)]
      rfl
    · cases ho'
  · cases ho'
theorem so_aald {t : Nat} {C : String} (ht : pm_tg[t]? = some (.object C)) (h16 : t < 16) (hr : ∀ j, pm_rf (pm_ft t j) = true) (hd : decode cc (b i) = .ok (.aaload, 1)) (hx : b x = b i + 1) : pm_S cc nL own nm ret Y b i (pm_aald x t) := by
  intro p l e R s m args below meth c Q D aC z bS X lc st h o ho'
  unfold pm_aald at ho'
  split at ho'
  · split at ho'
    · rename_i j a st' harr
      split at ho'
      · rename_i r hrr
        cases ho'
        obtain ⟨g1, g2, g3⟩ := pm_arr_spec harr
        refine pm_keep fun H locs ls kc ks hL hkc hks kk => ?_
        have kk := kk ls hL.2.2
        rw [hx] at kk
        have hat := (pm_at_arr h16 g2).mp (hL.1.2 a g1)
        have hlt : j.toNatClampNeg < (h.2.2.1 a).2 := Nat.not_le.mp fun q => g3 (Or.inr q)
        exact W.aald (v := .ref (z + r)) (ty := .object C) X.1 X.2.1 hat ((X.2.2.2.2.1.2.2 t _ ht).1 _ _) rfl (fun q => by cases q) (by rw [arrV_size]; exact g3) (by rw [arrV_read _ _ hlt, pm_v_r (by rw [g2]; exact hr _) hrr]) rfl rfl hd kk
      · cases ho'
    · cases ho'
  · cases ho'
theorem so_aast {t ci N : Nat} {C : String} {T : u_T} (ht : pm_tg[t]? = some (.object C)) (hq : vwCl[ci]? = some (C, T, N)) (h16 : t < 16) (hr : ∀ j, pm_rf (pm_ft t j) = true) (hd : decode cc (b i) = .ok (.aastore, 1)) (hx : b x = b i + 1) : pm_S cc nL own nm ret Y b i (pm_aast x t ci) := by
  intro p l e R s m args below meth c Q D aC z bS X lc st h o ho'
  unfold pm_aast at ho'
  split at ho'
  · split at ho'
    · rename_i r j a st' harr
      cases ho'
      simp only [Bool.and_eq_true, decide_eq_true_eq, beq_iff_eq] at harr
      obtain ⟨harr, hr1, hr2⟩ := harr
      obtain ⟨g1, g2, g3⟩ := pm_arr_spec harr
      refine pm_put rfl rfl fun H locs ls kc ks hL kk => ?_
      rw [hx] at kk
      have hat := (pm_at_arr h16 g2).mp (hL.1.2 a g1)
      have hlt : j.toNatClampNeg < (h.2.2.1 a).2 := Nat.not_le.mp fun q => g3 (Or.inr q)
      obtain ⟨-, cellV, v1, v2, v3, -⟩ := (pm_at_obj hq hr2).mp (hL.1.2 r hr1)
      have hG := X.2.2.2.2.1
      have hcls := (hG.2.1 ci _ hq).2
      obtain ⟨hAr, ⟨kA, comp, k1, k2, k3, -⟩, -⟩ := hG.2.2 t _ ht
      have hcomp : comp = D.1 ci := Option.some.inj (k3.symm.trans hcls.1)
      subst hcomp
      obtain ⟨kC, hkC, -⟩ := hcls.2
      refine W.aast X.1 X.2.1 hat (fun q h => by cases h) (fun h => by cases h) k1 k2 rfl hkC ⟨fun q => g3 (Or.inl q), by rw [arrV_size]; exact hlt⟩ v1 (fun q h => by rw [v3] at h; cases h) (by rw [v2]; exact hkC) (by rw [v2]; exact va_assign hcls) rfl rfl hd fun H1 e1 hz oq => ?_
      refine kk H1 _ (hL.1.set rfl rfl pm_v_sP.1 hz oq ((pm_at_arr (h := pm_sP h a j.toNatClampNeg (some r)) (t := t) h16 g2).mpr ?_)) (hL.2.1.put hz oq (Nat.le_add_right z a))
      rw [e1, arrV_store, pm_v_sP.2 (by rw [g2]; exact hr _)]
      rfl
    · cases ho'
  · cases ho'
theorem so_alen {t : Nat} {ty : FieldType} (ht : pm_tg[t]? = some ty) (h16 : t < 16) (hd : decode cc (b i) = .ok (.arraylength, 1)) (hx : b x = b i + 1) : pm_S cc nL own nm ret Y b i (pm_alen x t) := by
  intro p l e R s m args below meth c Q D aC z bS X lc st h o ho'
  unfold pm_alen at ho'
  split at ho'
  · split at ho'
    · rename_i a st' harr
      cases ho'
      simp only [Bool.and_eq_true, decide_eq_true_eq, beq_iff_eq] at harr
      obtain ⟨g1, g2⟩ := harr
      refine pm_keep fun H locs ls kc ks hL hkc hks kk => ?_
      have kk := kk ls hL.2.2
      rw [hx] at kk
      have hat := (pm_at_arr h16 g2).mp (hL.1.2 a g1)
      exact W.alen (n := Int32.ofNat (h.2.2.1 a).2) X.1 X.2.1 hat ((X.2.2.2.2.1.2.2 t _ ht).1 _ _) (by rw [arrV_size] <;> rfl) rfl rfl hd kk
    · cases ho'
  · cases ho'
end OPF
end
section
-- ===== new cells =====
theorem pm_W.push {D : va_G} {aC : Nat → ClassId} {z : Nat} {h : pm_H} {H H1 : Heap} {t n : Nat} (hW : pm_W D aC z h H) (hz : H1.size = H.size + 1) (o1 : ∀ q : Nat, q < H.size → H1[q]? = H[q]?) (hc : pm_at D aC z (pm_new h t n) H1 h.1) : pm_W D aC z (pm_new h t n) H1 := by
  refine ⟨by rw [hz, hW.1]; show z + h.1 + 1 = z + (h.1 + 1); omega, fun k hk => ?_⟩
  by_cases hkn : k = h.1
  · rw [hkn]; exact hc
  · have hk' : k < h.1 := by
      have : k < h.1 + 1 := hk
      omega
    have hat := hW.2 k hk'
    have hq : H1[z + k]? = H[z + k]? := o1 _ (by rw [hW.1]; omega)
    have e1 : (pm_new h t n).2.2.1 k = h.2.2.1 k := by simp [pm_new, va_up, hkn]
    have e2 : pm_v z (pm_new h t n) k = pm_v z h k := by
      funext j
      simp [pm_v, pm_new, va_up, pm_row, hkn]
    refine ⟨fun hl => ?_, fun ci hci => ?_⟩
    · rw [hq, e1, e2]
      exact hat.1 (by rw [← e1]; exact hl)
    · obtain ⟨r, g1, g2, g3⟩ := hat.2 ci (by rw [← e1]; exact hci)
      exact ⟨r, g1, by rw [e1]; exact g2, by rw [e2]; exact g3.kept hq⟩
theorem pm_S_push {z : Nat} {s : State} {H H1 : Heap} {locs : List Loc} (hS : va_S (fun q => z ≤ q) s.heap H locs) (hz : H1.size = H.size + 1) (o1 : ∀ q : Nat, q < H.size → H1[q]? = H[q]?) : va_S (fun q => z ≤ q) s.heap H1 locs := ⟨Nat.le_trans hS.1 (by omega), fun q h1 h2 => (o1 q (Nat.lt_of_lt_of_le h1 hS.1)).trans (hS.2.1 q h1 h2), hS.2.2⟩
theorem pm_newk {h : pm_H} {t n : Nat} : (pm_new h t n).2.2.1 h.1 = (t, n) := by simp [pm_new, va_up]
theorem pm_newv {z : Nat} {h : pm_H} {t n j : Nat} : pm_v z (pm_new h t n) h.1 j = if pm_rf (pm_ft t j) then .null else .int 0 := by
  simp [pm_v, pm_new, va_up, pm_row, va_rf]
section OPN
variable {cc : ByteArray} {nL : Nat} {own nm : String} {ret : Option FieldType} {Y : Nat → pm_N} {b : Nat → Nat} {i x : Nat}
theorem pm_mkn {p : Program} {l : Launch} {e : Env} {R : Room} {s : State} {m : MethodId} {args : Array Value} {below : List Frame} {meth : Method} {c : Code} {Q : State → Prop} {D : va_G} {aC : Nat → ClassId} {z bS : Nat} {lc st st' : List Value} {h : pm_H} {t n : Nat}
    (k : ∀ (H : Heap) (locs : List Loc) (ls : Array Slot) (kc ks : Nat), pm_W D aC z h H → kc + 1 ≤ R.cells → ks + n ≤ R.slots → (∀ H1 : Heap, H1.size = H.size + 1 → (∀ q : Nat, q < H.size → H1[q]? = H[q]?) → pm_at D aC z (pm_new h t n) H1 h.1 → W p l e R s m args below meth c H1 locs (kc + 1) (ks + n) Q (F0 m (b x) ls (st'.map (pm_t z bS)))) → W p l e R s m args below meth c H locs kc ks Q (F0 m (b i) ls (st.map (pm_t z bS)))) :
    pm_SN p l e R s m args below meth c Q D aC z bS nL b i lc st h (x, lc, st', pm_new h t n) := by
  have e1 : (pm_new h t n).1 - h.1 = 1 := by show h.1 + 1 - h.1 = 1; omega
  have e2 : (pm_new h t n).2.1 - h.2.1 = n := by show h.2.1 + n - h.2.1 = n; omega
  refine ⟨⟨by show h.1 ≤ h.1 + 1; omega, by show h.2.1 ≤ h.2.1 + n; omega⟩, fun H locs ls kc ks hL g1 g2 kk => ?_⟩
  simp only [e1, e2] at g1 g2 kk
  exact k H locs ls kc ks hL.1 g1 g2 (fun H1 hz o1 hat => kk H1 locs ls ⟨hL.1.push hz o1 hat, pm_S_push hL.2.1 hz o1, hL.2.2⟩)
theorem so_newo {ci idx N : Nat} {C : String} {T : u_T} (hq : vwCl[ci]? = some (C, T, N)) (hdf : ∀ k, k < N → defaultValue (pm_ft (16 + ci) k) = if pm_rf (pm_ft (16 + ci) k) then .null else .int 0) (hcl : Cond.classLink own idx C ∈ lw_tbl) (hin : Cond.instantiable C N ∈ lw_tbl) (hini : Cond.initialized C ∈ lw_tbl) (hd : decode cc (b i) = .ok (.new idx, 3)) (hx : b x = b i + 3) : pm_S cc nL own nm ret Y b i (pm_newo x ci N) := by
  intro p l e R s m args below meth c Q D aC z bS X lc st h o ho'
  cases ho'
  refine pm_mkn fun H locs ls kc ks hW hkc hks kk => ?_
  rw [hx] at kk
  have hG := X.2.2.2.2.1
  have hKn := hG.2.1 ci _ hq
  have hts : ∀ w ∈ u_ws C T N, w.before args s = true := fun w hw => pm_word hG (pm_cF ci _ hq w hw).1 (pm_cF ci _ hq w hw).2
  refine W.newcK X.1 X.2.1 X.2.2.2.1 (pm_word hG hcl rfl) (pm_word hG hin rfl) (pm_word hG hini rfl) rfl hd hkc hks hKn.2.1 hW.1 fun H1 kC hkC e1 z1 o1 => ?_
  refine kk H1 (by rw [z1, hW.1]) (fun q hq' => o1 q (by rw [← hW.1]; exact hq')) ((pm_at_obj hq (by rw [pm_newk])).mpr ⟨by rw [pm_newk], ?_⟩)
  exact (u_born (pm_ft (16 + ci)) hts (fun _ h => h) hKn hkC e1 (fun k hk => pm_cT ci _ hq k hk)).to (fun k hk => by rw [pm_newv]; exact hdf k hk)
theorem pm_newprim {ty : FieldType} {atype : ArrayType} {t : Nat} (hty : newarray.typeOf atype = ty) (ht : pm_tg[t]? = some ty) (h16 : t < 16) (hft : ∀ j, pm_ft t j = ty) (hra : ∀ (U : State) (cA : ClassId), va_RA U cA ty → U.vm.findClass ("[" ++ ty.toString) = some cA) (hmk : ∀ U : State, pm_mk ty U → (Cond.arrayClass ty).before #[] U = true) (hdv : defaultValue ty = if pm_rf ty then .null else .int 0) (hbt : componentBytes ty ≤ 4) (hd : decode cc (b i) = .ok (.newarray atype, 2)) (hx : b x = b i + 2) : pm_S cc nL own nm ret Y b i (pm_newa x t) := by
  subst hty
  intro p l e R s m args below meth c Q D aC z bS X lc st h o ho'
  unfold pm_newa at ho'
  split at ho'
  · split at ho'
    · cases ho'
    · rename_i n st' hn
      cases ho'
      simp only [Bool.or_eq_true, decide_eq_true_eq, not_or] at hn
      refine pm_mkn fun H locs ls kc ks hW hkc hks kk => ?_
      rw [hx] at kk
      obtain ⟨a1, a2, a3⟩ := X.2.2.2.2.1.2.2 t _ ht
      refine va_newaK X.1 X.2.1 (word_at (State.WarmedH.refl s) (Or.inr ⟨_, rfl⟩) (hmk s a3)) rfl hd rfl hn.1 rfl ?_ hkc hks hW.1 fun H1 cA e1 z1 o1 _ hNm => ?_
      · have h1 := hn.2
        have h2 := Nat.mul_le_mul (Nat.not_lt.mp h1) hbt
        omega
      · have hcA : cA = aC t := Option.some.inj (hNm.symm.trans (hra _ _ a2))
        subst hcA
        refine kk H1 (by rw [z1, hW.1]) (fun q hq' => o1 q (by rw [← hW.1]; exact hq')) ((pm_at_arr (t := t) h16 (by rw [pm_newk])).mpr ?_)
        rw [e1, pm_newk]
        congr 2
        funext j
        rw [pm_newv, hft, hdv]
  · cases ho'
theorem so_newi (hd : decode cc (b i) = .ok (.newarray .int, 2)) (hx : b x = b i + 2) : pm_S cc nL own nm ret Y b i (pm_newa x 0) := pm_newprim (ty := .int) rfl rfl (by decide) (fun _ => rfl) (fun _ _ h => h) (fun _ h => h) rfl (by decide) hd hx
theorem so_newz (hd : decode cc (b i) = .ok (.newarray .boolean, 2)) (hx : b x = b i + 2) : pm_S cc nL own nm ret Y b i (pm_newa x 1) := pm_newprim (ty := .boolean) rfl rfl (by decide) (fun _ => rfl) (fun _ _ h => h) (fun _ h => h) rfl (by decide) hd hx
theorem so_anew {t idx : Nat} {C : String} (ht : pm_tg[t]? = some (.object C)) (h16 : t < 16) (hft : ∀ j, pm_ft t j = .object C) (hcl : Cond.classLink own idx C ∈ lw_tbl) (hd : decode cc (b i) = .ok (.anewarray idx, 3)) (hx : b x = b i + 3) : pm_S cc nL own nm ret Y b i (pm_newa x t) := by
  intro p l e R s m args below meth c Q D aC z bS X lc st h o ho'
  unfold pm_newa at ho'
  split at ho'
  · split at ho'
    · cases ho'
    · rename_i n st' hn
      cases ho'
      simp only [Bool.or_eq_true, decide_eq_true_eq, not_or] at hn
      refine pm_mkn fun H locs ls kc ks hW hkc hks kk => ?_
      rw [hx] at kk
      obtain ⟨a1, a2, a3⟩ := X.2.2.2.2.1.2.2 t _ ht
      refine W.anew X.1 X.2.1 X.2.2.2.1 (pm_word X.2.2.2.2.1 hcl rfl) (va_AO.use a3) rfl hd rfl hn.1 (by omega) hkc hks fun cA kA comp f1 f2 f3 f4 => ?_
      obtain ⟨kA', comp', -, -, -, k4⟩ := a2
      have hcA : cA = aC t := Option.some.inj (f1.symm.trans k4)
      subst hcA
      rw [hW.1]
      refine kk _ (by rw [Array.size_push]) (fun q hq' => by rw [Array.getElem?_push, if_neg (Nat.ne_of_lt hq')]) ((pm_at_arr (t := t) h16 (by rw [pm_newk])).mpr ?_)
      rw [← hW.1, Array.getElem?_push_size, arrV_new, pm_newk]
      congr 2
      funext j
      rw [pm_newv, hft]
      rfl
  · cases ho'
end OPN
-- ===== calls =====
theorem pm_blind {D : va_G} {aC : Nat → ClassId} {z bS : Nat} {a : List Value} {h : pm_H} : FrameBlind (pm_Pc D aC z bS a h) := by
  intro v U g mk q
  obtain ⟨q0, q1, q2⟩ := q
  exact ⟨q0, q1, q2.moved (U := U.calling g mk v) (State.WarmedH.refl U)⟩
theorem pm_pre {D : va_G} {aC : Nat → ClassId} {z bS : Nat} {a : List Value} {h : pm_H} {s : State} {H : Heap} (hG : pm_G D aC s) (hW : pm_W D aC z h H) : ∀ U : State, U.heap = H → s.WarmedH U.vm → pm_Pc D aC z bS a h (a.map (pm_t z bS)).toArray U := fun U hU hw => ⟨rfl, by rw [hU]; exact hW, hG.moved hw⟩
theorem pm_cat_t {z bS : Nat} (st : List Value) : ((st.map (pm_t z bS)).map fun v => v.category).sum = pm_cat st := by
  unfold pm_cat
  rw [List.map_map]
  congr 1
  apply List.map_congr_left
  intro v _
  cases v <;> rfl
section RUN
variable {p : Program} {l : Launch} {e : Env} {R : Room} {s : State} {m : MethodId} {args : Array Value} {below : List Frame} {meth : Method} {c : Code} {H : Heap} {locs : List Loc} {cells slots : Nat} {Q : State → Prop}
theorem pm_back {D : va_G} {aC : Nat → ClassId} {z bS mc ms pc : Nat} {ls : Array Slot} {st0 rest : List Value} {h' : pm_H} {v : Option Value} {a0 : Array Value} (hr : va_Run p l e R s m args below meth c H locs cells slots mc ms (F0 m pc ls st0) rest (pm_Qc D aC z bS h' v a0) (fun q => z ≤ q)) (hS : va_S (fun q => z ≤ q) s.heap H locs)
    (kk : ∀ (H' : Heap) (locs' : List Loc), pm_W D aC z h' H' → va_S (fun q => z ≤ q) s.heap H' locs' → W p l e R s m args below meth c H' locs' (cells + mc) (slots + ms) Q (F0 m (pc + 3) ls ((v.map (pm_t z bS)).toList ++ rest))) : W p l e R s m args below meth c H locs cells slots Q (F0 m pc ls st0) := by
  intro T hT X
  obtain ⟨v', st₀, t, T', L, h0, X', hL, e1, e2, ⟨hv, hw, hz, hk⟩, st⟩ := hr T hT X
  cases hv
  rw [h0] at hz hk
  obtain ⟨t2, a1, b1⟩ := kk T'.heap (locs ++ L) (by rw [e1]; exact hw)
    ⟨Nat.le_trans hS.1 (by rw [e1]; exact hz), fun q h1 h2 => by rw [e1, hk q (Nat.lt_of_lt_of_le h1 hS.1) h2]; exact hS.2.1 q h1 h2, fun q hq => by
      rcases List.mem_append.mp hq with h | h
      · exact hS.2.2 q h
      · exact hL q h⟩ T' rfl X'
  exact ⟨t2, st t2 a1, b1⟩
end RUN
def pm_ml (own : String) (idx : Nat) (y : MethodName) : Prop := Cond.methodLink own idx y ∈ lw_tbl ∨ ∃ host, Cond.methodLinkNest own idx y host ∈ lw_tbl
def pm_yd (y : MethodName) (n : Nat) : Prop := y.cls ≠ "java/lang/invoke/MethodHandle" ∧ y.cls ≠ "java/lang/invoke/VarHandle" ∧ (parseMethodDescriptor y.desc).map (fun d => d.parameters.length) = some n
theorem pm_calls_spec {x mid n : Nat} {lc st : List Value} {h : pm_H} {o : pm_O} (ho : pm_calls x mid n lc st h = some o) : o = .inr (.inr (mid, (st.take n).reverse, (x, lc, st.drop n, h))) ∧ n ≤ st.length ∧ pm_cat (st.drop n) ≤ 8 := by
  unfold pm_calls at ho
  split at ho
  · rename_i hq
    cases ho
    simp only [Bool.and_eq_true, decide_eq_true_eq] at hq
    exact ⟨rfl, hq.1, hq.2⟩
  · cases ho
section OPC
variable {cc : ByteArray} {nL : Nat} {own nm : String} {ret : Option FieldType} {Y : Nat → pm_N} {b : Nat → Nat} {i x : Nat}
theorem so_callv {mid n ci idx mL N : Nat} {y : MethodName} {bytes : ByteArray} {rt : Option FieldType} {T : u_T} (hY : Y mid = (y, bytes, mL, rt)) (hq : vwCl[ci]? = some (y.cls, T, N)) (hcode : Cond.code y bytes mL rt ∈ lw_tbl) (hini : Cond.initialized y.cls ∈ lw_tbl) (hins : Cond.instanceMethod y ∈ lw_tbl) (hsel : Cond.selects y.cls y y ∈ lw_tbl) (hl : pm_ml own idx y) (hyd : pm_yd y n) (hm : mL ≤ 11) (hd : decode cc (b i) = .ok (.invokevirtual idx, 3)) (hx : b x = b i + 3) : pm_S cc nL own nm ret Y b i (pm_callv x mid (n + 1) ci) := by
  intro p l e R s m args below meth c Q D aC z bS X lc st h o ho
  unfold pm_callv at ho
  split at ho
  · rename_i k As hargs
    split at ho
    · rename_i hk
      simp only [Bool.and_eq_true, decide_eq_true_eq, beq_iff_eq] at hk
      obtain ⟨rfl, hlen, hcat⟩ := pm_calls_spec ho
      refine ⟨rfl, fun d h' v hf hlo hM H locs ls kc ks hL hc hs kk => ?_⟩
      rw [hY] at hM
      dsimp only at hM hc hs kk
      rw [hargs] at hM
      rw [hx] at kk
      have hst : st = As.reverse ++ .ref k :: st.drop (n + 1) := by
        have h1 : st.take (n + 1) = As.reverse ++ [.ref k] := by rw [← List.reverse_reverse (st.take (n + 1)), hargs, List.reverse_cons]
        have h2 : st = st.take (n + 1) ++ st.drop (n + 1) := (List.take_append_drop _ _).symm
        rw [h1] at h2
        simpa using h2
      have hAs : (As.map (pm_t z bS)).length = n := by
        have h1 := congrArg List.length hargs
        simp only [List.length_reverse, List.length_take, List.length_cons] at h1
        rw [List.length_map]
        omega
      have hG := X.2.2.2.2.1
      obtain ⟨-, cellB, v1, v2, v3, -⟩ := (pm_at_obj hq hk.2).mp (hL.1.2 k hk.1)
      have hrec : ∃ cellB : Cell, H[z + k]? = some cellB ∧ cellB.vm.isStatics = false ∧ s.vm.findClass y.cls = some cellB.cls := ⟨cellB, v1, by rw [v3]; rfl, by rw [v2]; exact (hG.2.1 ci _ hq).2.1⟩
      have hpre := pm_pre (bS := bS) (a := .ref k :: As) hG hL.1
      have ht : ∀ w ∈ [Cond.code y bytes mL rt], w.before args s = true := fun w hw => by rw [List.mem_singleton.mp hw]; exact pm_word hG hcode rfl
      have hGi : GoodIn [Cond.code y bytes mL rt] [Cond.code y bytes mL rt] := fun w hw => ⟨hw, by rw [List.mem_singleton.mp hw]; exact Or.inl rfl⟩
      have hroom : (pm_rm d (h'.1 - h.1) (h'.2.1 - h.2.1)).frames + 1 ≤ R.frames ∧ 8 + (mL + 11) + (pm_rm d (h'.1 - h.1) (h'.2.1 - h.2.1)).locals ≤ R.locals := by
        simp only [pm_rm]
        omega
      have hcat' : ((((st.drop (n + 1)).map (pm_t z bS)).map fun v => v.category).sum) ≤ 8 := by rw [pm_cat_t]; exact hcat
      have hgo : va_Run p l e R s m args below meth c H locs kc ks (h'.1 - h.1) (h'.2.1 - h.2.1) (F0 m (b i) ls (st.map (pm_t z bS))) ((st.drop (n + 1)).map (pm_t z bS)) (pm_Qc D aC z bS h' v (Value.ref (z + k) :: As.map (pm_t z bS)).toArray) (fun q => z ≤ q) := by
        have hstk : st.map (pm_t z bS) = (As.map (pm_t z bS)).reverse ++ .ref (z + k) :: (st.drop (n + 1)).map (pm_t z bS) := by
          conv => lhs; rw [hst]
          rw [List.map_append, List.map_reverse]
          rfl
        rcases hl with hl | ⟨host, hl⟩
        · exact va_runV (C := y.cls) ⟨X.1, X.2.1, X.2.2.1, X.2.2.2.1, ht⟩ hM.2 ⟨callB_of n ht hGi rfl rfl rfl (pm_word hG hini rfl) (pm_word hG hl rfl) hyd hroom, pm_word hG hins rfl, pm_word hG hsel rfl⟩ ⟨pm_blind, hrec, hpre⟩ rfl hAs hL.2.2.1 hstk (lv_room hcat') hd ⟨hc, hs⟩
        · exact va_runVN (C := y.cls) ⟨X.1, X.2.1, X.2.2.1, X.2.2.2.1, ht⟩ hM.2 ⟨va_cnB n ht hGi rfl rfl rfl (hG.1 _ hl rfl) (pm_word hG hini rfl) hyd hroom, pm_word hG hins rfl, pm_word hG hsel rfl⟩ ⟨pm_blind, hrec, hpre⟩ rfl hAs hL.2.2.1 hstk (lv_room hcat') hd ⟨hc, hs⟩
      refine pm_back hgo hL.2.1 (fun H' locs' hW hS => ?_)
      have k2 := kk H' locs' ⟨hW, hS, hL.2.2⟩
      rw [List.map_append] at k2
      cases v <;> exact k2
    · cases ho
  · cases ho
theorem so_callc {mid n idx mL : Nat} {y : MethodName} {bytes : ByteArray} (hY : Y mid = (y, bytes, mL, none)) (hyn : y.name = "<init>") (hcode : Cond.code y bytes mL none ∈ lw_tbl) (hini : Cond.initialized y.cls ∈ lw_tbl) (hins : Cond.instanceMethod y ∈ lw_tbl) (hl : pm_ml own idx y) (hyd : pm_yd y n) (hm : mL ≤ 11) (hd : decode cc (b i) = .ok (.invokespecial idx, 3)) (hx : b x = b i + 3) : pm_S cc nL own nm ret Y b i (pm_callc x mid (n + 1)) := by
  intro p l e R s m args below meth c Q D aC z bS X lc st h o ho
  unfold pm_callc at ho
  split at ho
  · rename_i k As hargs
    obtain ⟨rfl, hlen, hcat⟩ := pm_calls_spec ho
    refine ⟨rfl, fun d h' v hf hlo hM H locs ls kc ks hL hc hs kk => ?_⟩
    rw [hY] at hM
    dsimp only at hM hc hs kk
    rw [hargs] at hM
    rw [hx] at kk
    have hst : st = As.reverse ++ .ref k :: st.drop (n + 1) := by
      have h1 : st.take (n + 1) = As.reverse ++ [.ref k] := by rw [← List.reverse_reverse (st.take (n + 1)), hargs, List.reverse_cons]
      have h2 : st = st.take (n + 1) ++ st.drop (n + 1) := (List.take_append_drop _ _).symm
      rw [h1] at h2
      simpa using h2
    have hAs : (As.map (pm_t z bS)).length = n := by
      have h1 := congrArg List.length hargs
      simp only [List.length_reverse, List.length_take, List.length_cons] at h1
      rw [List.length_map]
      omega
    have hG := X.2.2.2.2.1
    have hpre := pm_pre (bS := bS) (a := .ref k :: As) hG hL.1
    have ht : ∀ w ∈ [Cond.code y bytes mL none], w.before args s = true := fun w hw => by rw [List.mem_singleton.mp hw]; exact pm_word hG hcode rfl
    have hGi : GoodIn [Cond.code y bytes mL none] [Cond.code y bytes mL none] := fun w hw => ⟨hw, by rw [List.mem_singleton.mp hw]; exact Or.inl rfl⟩
    have hroom : (pm_rm d (h'.1 - h.1) (h'.2.1 - h.2.1)).frames + 1 ≤ R.frames ∧ 8 + (mL + 11) + (pm_rm d (h'.1 - h.1) (h'.2.1 - h.2.1)).locals ≤ R.locals := by
      simp only [pm_rm]
      omega
    have hcat' : ((((st.drop (n + 1)).map (pm_t z bS)).map fun v => v.category).sum) ≤ 8 := by rw [pm_cat_t]; exact hcat
    have hgo : va_Run p l e R s m args below meth c H locs kc ks (h'.1 - h.1) (h'.2.1 - h.2.1) (F0 m (b i) ls (st.map (pm_t z bS))) ((st.drop (n + 1)).map (pm_t z bS)) (pm_Qc D aC z bS h' v (Value.ref (z + k) :: As.map (pm_t z bS)).toArray) (fun q => z ≤ q) := by
      have hstk : st.map (pm_t z bS) = (As.map (pm_t z bS)).reverse ++ .ref (z + k) :: (st.drop (n + 1)).map (pm_t z bS) := by
        conv => lhs; rw [hst]
        rw [List.map_append, List.map_reverse]
        rfl
      rcases hl with hl | ⟨host, hl⟩
      · exact va_runI ⟨X.1, X.2.1, X.2.2.1, X.2.2.2.1, ht⟩ hM.2 ⟨callB_of n ht hGi rfl rfl rfl (pm_word hG hini rfl) (pm_word hG hl rfl) hyd hroom, hyn, pm_word hG hins rfl⟩ ⟨pm_blind, hpre⟩ rfl hAs hL.2.2.1 hstk (lv_room hcat') hd ⟨hc, hs⟩
      · exact va_runIN ⟨X.1, X.2.1, X.2.2.1, X.2.2.2.1, ht⟩ hM.2 ⟨va_cnB n ht hGi rfl rfl rfl (hG.1 _ hl rfl) (pm_word hG hini rfl) hyd hroom, hyn, pm_word hG hins rfl⟩ ⟨pm_blind, hpre⟩ rfl hAs hL.2.2.1 hstk (lv_room hcat') hd ⟨hc, hs⟩
    refine pm_back hgo hL.2.1 (fun H' locs' hW hS => ?_)
    have k2 := kk H' locs' ⟨hW, hS, hL.2.2⟩
    rw [List.map_append] at k2
    cases v <;> exact k2
  · cases ho
theorem so_calls {mid n idx mL : Nat} {y : MethodName} {bytes : ByteArray} {rt : Option FieldType} (hY : Y mid = (y, bytes, mL, rt)) (hcode : Cond.code y bytes mL rt ∈ lw_tbl) (hini : Cond.initialized y.cls ∈ lw_tbl) (hstt : Cond.static y ∈ lw_tbl) (hl : pm_ml own idx y) (hyd : pm_yd y n) (hm : mL ≤ 11) (hd : decode cc (b i) = .ok (.invokestatic idx, 3)) (hx : b x = b i + 3) : pm_S cc nL own nm ret Y b i (pm_calls x mid n) := by
  intro p l e R s m args below meth c Q D aC z bS X lc st h o ho
  obtain ⟨rfl, hlen, hcat⟩ := pm_calls_spec ho
  refine ⟨rfl, fun d h' v hf hlo hM H locs ls kc ks hL hc hs kk => ?_⟩
  rw [hY] at hM
  dsimp only at hM hc hs kk
  rw [hx] at kk
  have hAs : (((st.take n).reverse).map (pm_t z bS)).length = n := by
    simp only [List.length_map, List.length_reverse, List.length_take]
    omega
  have hG := X.2.2.2.2.1
  have hpre := pm_pre (bS := bS) (a := (st.take n).reverse) hG hL.1
  have ht : ∀ w ∈ [Cond.code y bytes mL rt], w.before args s = true := fun w hw => by rw [List.mem_singleton.mp hw]; exact pm_word hG hcode rfl
  have hGi : GoodIn [Cond.code y bytes mL rt] [Cond.code y bytes mL rt] := fun w hw => ⟨hw, by rw [List.mem_singleton.mp hw]; exact Or.inl rfl⟩
  have hroom : (pm_rm d (h'.1 - h.1) (h'.2.1 - h.2.1)).frames + 1 ≤ R.frames ∧ 8 + (mL + 11) + (pm_rm d (h'.1 - h.1) (h'.2.1 - h.2.1)).locals ≤ R.locals := by
    simp only [pm_rm]
    omega
  have hcat' : ((((st.drop n).map (pm_t z bS)).map fun v => v.category).sum) ≤ 8 := by rw [pm_cat_t]; exact hcat
  have hgo : va_Run p l e R s m args below meth c H locs kc ks (h'.1 - h.1) (h'.2.1 - h.2.1) (F0 m (b i) ls (st.map (pm_t z bS))) ((st.drop n).map (pm_t z bS)) (pm_Qc D aC z bS h' v (((st.take n).reverse).map (pm_t z bS)).toArray) (fun q => z ≤ q) := by
    have hstk : st.map (pm_t z bS) = (((st.take n).reverse).map (pm_t z bS)).reverse ++ (st.drop n).map (pm_t z bS) := by
      rw [← List.map_reverse, List.reverse_reverse, ← List.map_append, List.take_append_drop]
    rcases hl with hl | ⟨host, hl⟩
    · exact va_runS ⟨X.1, X.2.1, X.2.2.1, X.2.2.2.1, ht⟩ hM.2 ⟨callB_of n ht hGi rfl rfl rfl (pm_word hG hini rfl) (pm_word hG hl rfl) hyd hroom, pm_word hG hstt rfl⟩ ⟨pm_blind, hpre⟩ rfl hAs hL.2.2.1 hstk (lv_room hcat') hd ⟨hc, hs⟩
    · exact va_runSN ⟨X.1, X.2.1, X.2.2.1, X.2.2.2.1, ht⟩ hM.2 ⟨va_cnB n ht hGi rfl rfl rfl (hG.1 _ hl rfl) (pm_word hG hini rfl) hyd hroom, pm_word hG hstt rfl, trivial⟩ ⟨pm_blind, hpre⟩ rfl hAs hL.2.2.1 hstk (lv_room hcat') hd ⟨hc, hs⟩
  refine pm_back hgo hL.2.1 (fun H' locs' hW hS => ?_)
  have k2 := kk H' locs' ⟨hW, hS, hL.2.2⟩
  rw [List.map_append] at k2
  cases v <;> exact k2
end OPC
end
section
section OPM
variable {cc : ByteArray} {nL : Nat} {own nm : String} {ret : Option FieldType} {Y : Nat → pm_N} {b : Nat → Nat} {i x : Nat}
theorem so_oinit {idx : Nat} (hl : Cond.methodLink own idx objectInit ∈ lw_tbl) (hin : Cond.instanceMethod objectInit ∈ lw_tbl) (hcode : Cond.code objectInit ⟨#[0xb1]⟩ 1 none ∈ lw_tbl) (hd : decode cc (b i) = .ok (.invokespecial idx, 3)) (hx : b x = b i + 3) : pm_S cc nL own nm ret Y b i (pm_oinit x) := by
  intro p l e R s m args below meth c Q D aC z bS X lc st h o ho
  unfold pm_oinit at ho
  split at ho
  · split at ho
    · rename_i a st' hcat
      cases ho
      refine pm_keep fun H locs ls kc ks hL hkc hks k => ?_
      have k := k ls hL.2.2
      rw [hx] at k
      have hG := X.2.2.2.2.1
      refine W.objInit X.1 X.2.1 X.2.2.2.1 (pm_word hG hl rfl) (pm_word hG hin rfl) (pm_word hG hcode rfl) rfl (by rw [X.2.2.1]; exact hL.2.2.1) rfl hd X.2.2.2.2.2.2.1 ?_ k
      have h40 := X.2.2.2.2.2.2.2.1
      show 2 * 0 + _ + 12 ≤ R.locals
      rw [pm_cat_t]
      omega
    · cases ho
  · cases ho
theorem so_max {idx : Nat} (hl : Cond.methodLink own idx Lib.Math.max.name ∈ lw_tbl) (hs : Cond.static Lib.Math.max.name ∈ lw_tbl) (hi : Cond.initialized "java/lang/Math" ∈ lw_tbl) (hcode : Cond.code Lib.Math.max.name Lib.Math.max.code 2 (some .int) ∈ lw_tbl) (hd : decode cc (b i) = .ok (.invokestatic idx, 3)) (hx : b x = b i + 3) : pm_S cc nL own nm ret Y b i (pm_max x) := by
  intro p l e R s m args below meth c Q D aC z bS X lc st h o ho
  unfold pm_max at ho
  split at ho
  · split at ho
    · rename_i v w st' hcat
      cases ho
      refine pm_keep fun H locs ls kc ks hL hkc hks k => ?_
      have k := k ls hL.2.2
      rw [hx] at k
      have hG := X.2.2.2.2.1
      refine va_mmax X.1 X.2.1 (by rw [X.2.2.1]; exact hL.2.2.1.symm) X.2.2.2.1 (pm_word hG hl rfl) (pm_word hG hs rfl) (pm_word hG hi rfl) (pm_word hG hcode rfl) X.2.2.2.2.2.2.1 ?_ hkc hks hd k
      have h40 := X.2.2.2.2.2.2.2.1
      rw [pm_cat_t]
      omega
    · cases ho
  · cases ho
theorem so_min {idx : Nat} (hl : Cond.methodLink own idx Lib.Math.min.name ∈ lw_tbl) (hs : Cond.static Lib.Math.min.name ∈ lw_tbl) (hi : Cond.initialized "java/lang/Math" ∈ lw_tbl) (hcode : Cond.code Lib.Math.min.name Lib.Math.min.code 2 (some .int) ∈ lw_tbl) (hd : decode cc (b i) = .ok (.invokestatic idx, 3)) (hx : b x = b i + 3) : pm_S cc nL own nm ret Y b i (pm_min x) := by
  intro p l e R s m args below meth c Q D aC z bS X lc st h o ho
  unfold pm_min at ho
  split at ho
  · split at ho
    · rename_i v w st' hcat
      cases ho
      refine pm_keep fun H locs ls kc ks hL hkc hks k => ?_
      have k := k ls hL.2.2
      rw [hx] at k
      have hG := X.2.2.2.2.1
      refine va_mmin X.1 X.2.1 (by rw [X.2.2.1]; exact hL.2.2.1.symm) X.2.2.2.1 (pm_word hG hl rfl) (pm_word hG hs rfl) (pm_word hG hi rfl) (pm_word hG hcode rfl) X.2.2.2.2.2.2.1 ?_ hkc hks hd k
      have h40 := X.2.2.2.2.2.2.2.1
      rw [pm_cat_t]
      omega
    · cases ho
  · cases ho
theorem pm_nn {w : Int32} (hw : ¬ w < 0) : w.toInt = (w.toNatClampNeg : Int) := by
  have hz0 : (0 : Int) ≤ w.toInt := by
    have := Int32.not_lt.mp hw
    simpa using Int32.le_iff_toInt_le.mp this
  show w.toInt = ((w.toInt.toNat : Nat) : Int)
  omega
theorem so_copy {idx : Nat} (hl : Cond.methodLink own idx arraycopyName ∈ lw_tbl) (hnat : Cond.native arraycopyName ∈ lw_tbl) (hstat : Cond.static arraycopyName ∈ lw_tbl) (hini : Cond.initialized "java/lang/System" ∈ lw_tbl) (hd : decode cc (b i) = .ok (.invokestatic idx, 3)) (hx : b x = b i + 3) : pm_S cc nL own nm ret Y b i (pm_copy x) := by
  intro p l e R s m args below meth c Q D aC z bS X lc st h o ho
  unfold pm_copy at ho
  split at ho
  · split at ho
    · rename_i n dp a sp a0 st' hq
      cases ho
      simp only [Bool.and_eq_true, decide_eq_true_eq, beq_iff_eq, Bool.not_eq_true', Bool.or_eq_false_iff, decide_eq_false_iff_not] at hq
      obtain ⟨⟨⟨⟨⟨c1, c2⟩, d1, d2⟩, s1, s2, s3⟩, l1, l2⟩, hcat⟩ := hq
      refine pm_put rfl rfl fun H locs ls kc ks hL kk => ?_
      rw [hx] at kk
      have hG := X.2.2.2.2.1
      have hA := (hG.2.2 0 .int rfl).1
      have hf : ∀ k, (h.2.2.1 k).1 = 0 → pm_v z h k = fun j => .int (h.2.2.2.1 k j) := fun k hk => by
        funext j
        exact pm_v_i (by rw [hk]; rfl)
      have hc0 := (pm_at_arr (by omega) c2).mp (hL.1.2 a0 c1)
      have hc1 := (pm_at_arr (by omega) d2).mp (hL.1.2 a d1)
      rw [hf a0 c2] at hc0
      rw [hf a d2] at hc1
      intro T hT XX
      obtain ⟨-, k0, hk0, cm0, hkk0⟩ := hA (h.2.2.1 a0).2 (fun j => .int (h.2.2.2.1 a0 j))
      obtain ⟨-, k1, hk1, cm1, hkk1⟩ := hA (h.2.2.1 a).2 (fun j => .int (h.2.2.2.1 a j))
      obtain ⟨vm', X', step⟩ := XX.arraycopy X.1 X.2.2.2.1 (pm_word hG hl rfl) (pm_word hG hnat rfl) (pm_word hG hstat rfl) (pm_word hG hini rfl) (src := z + a0) (dst := z + a) (srcPos := sp) (destPos := dp) (n := n) (by rw [hT]; exact hc0) (by rw [hT]; exact hc1)
        (fun _ h => by cases h) (fun _ h => by cases h) (fun h => by cases h) (fun h => by cases h) hk0 hk1 hkk0 hkk1 (by simp [refKind]) s1 s2 s3
        (by rw [pm_nn s1, pm_nn s3, arrV_size]; omega)
        (by rw [pm_nn s2, pm_nn s3, arrV_size]; omega)
        (fun vm₁ _ j hj => by
          have e1 : (arrV (aC 0) (h.2.2.1 a0).2 (fun j => Value.int (h.2.2.2.1 a0 j))).slots.getD (sp.toNatClampNeg + j) .null = .int (h.2.2.2.1 a0 (sp.toNatClampNeg + j)) := by
            rw [Array.getD_eq_getD_getElem?, arrV_read _ _ (by omega)]
            rfl
          refine ⟨?_, ?_⟩
          · rw [e1]
            rfl
          · rw [e1]
            exact trivial)
        (g := F0 m (b i) ls ((Value.int n :: .int dp :: .ref a :: .int sp :: .ref a0 :: st').map (pm_t z bS))) rfl (by rw [X.2.2.1]; exact hL.2.2.1) (rest := st'.map (pm_t z bS)) rfl (by rw [X.2.1]; exact hd) X.2.2.2.2.2.2.1 (by
          have h40 := X.2.2.2.2.2.2.2.1
          have e3 : nativeFrameWords "java/lang/System" "arraycopy" 5 + 11 ≤ 32 := by decide +kernel
          show 2 * 0 + _ + _ ≤ _
          rw [pm_cat_t]
          omega)
      have e1 : copied (arrV (aC 0) (h.2.2.1 a0).2 (fun j => Value.int (h.2.2.2.1 a0 j))) (arrV (aC 0) (h.2.2.1 a).2 (fun j => Value.int (h.2.2.2.1 a j))) sp dp n = arrV (aC 0) (h.2.2.1 a).2 (fun j => Value.int (va_cpy (h.2.2.2.1 a0) (h.2.2.2.1 a) sp.toNatClampNeg dp.toNatClampNeg n.toNatClampNeg j)) := va_copied (fun w => .int w) (aC 0) (aC 0) (h.2.2.2.1 a0) (h.2.2.2.1 a) l1
      rw [e1] at X' step
      have hlt : z + a < H.size := (Array.getElem?_eq_some_iff.mp hc1).1
      generalize hcell : arrV (aC 0) (h.2.2.1 a).2 (fun j => Value.int (va_cpy (h.2.2.2.1 a0) (h.2.2.2.1 a) sp.toNatClampNeg dp.toNatClampNeg n.toNatClampNeg j)) = cell at X' step
      have hheap : ((T.setVm vm').setCell (z + a) cell).heap = H.setIfInBounds (z + a) cell := by rw [← hT]; rfl
      have oq : ∀ q : Nat, q ≠ z + a → (H.setIfInBounds (z + a) cell)[q]? = H[q]? := fun q hq => by simp [Array.getElem?_setIfInBounds, Ne.symm hq]
      obtain ⟨t, a1, b1⟩ := kk _ _ (hL.1.set (k := a) rfl rfl (fun j hj => by funext q; simp [pm_v, pm_row, hj]) (by simp) oq ((pm_at_arr (h := (h.1, h.2.1, h.2.2.1, pm_row h.2.2.2.1 a (va_cpy (h.2.2.2.1 a0) (h.2.2.2.1 a) sp.toNatClampNeg dp.toNatClampNeg n.toNatClampNeg), h.2.2.2.2)) (t := 0) (by omega) d2).mpr (by
          rw [show (H.setIfInBounds (z + a) cell)[z + a]? = some cell by simp [Array.getElem?_setIfInBounds, hlt], ← hcell]
          congr 2
          funext q
          rw [pm_v_i (by show pm_rf (pm_ft (h.2.2.1 a).1 q) = false; rw [d2]; rfl)]
          simp [pm_row]))) ⟨by simp; exact hL.2.1.1, fun q g1 g2 => by
          rw [oq q (fun e => g2 (by rw [e]; exact Nat.le_add_right z a))]
          exact hL.2.1.2.1 q g1 g2, fun q hq => by
          rcases List.mem_append.mp hq with h | h
          · exact hL.2.1.2.2 q h
          · obtain ⟨w, -, hw⟩ := List.mem_map.mp h
            rw [← hw]
            exact Nat.le_add_right z a⟩ _ hheap X'
      exact ⟨t, step t a1, b1⟩
    · cases ho
  · cases ho
-- ===== switches =====
def pm_twc (b : Nat → Nat) (pc : Nat) : Int → List Int → List (Int32 × Nat) → Bool
  | _, [], [] => true
  | lo, o :: os, q :: ps => (q.1.toInt == lo) && (((pc : Nat) : Int) + o == ((b q.2 : Nat) : Int)) && pm_twc b pc (lo + 1) os ps
  | _, _, _ => false
theorem pm_tw {pc d : Nat} {v : Int32} {k : Nat → Option pm_O} : ∀ (os : List Int) (ps : List (Int32 × Nat)) (lo : Int), pm_twc b pc lo os ps = true → (∃ (j t : Nat) (o : Int), os[j]? = some o ∧ v.toInt = lo + j ∧ ((pc : Nat) : Int) + o = ((b t : Nat) : Int) ∧ pm_swt ps d v k = k t) ∨ ((v.toInt < lo ∨ lo + os.length ≤ v.toInt) ∧ pm_swt ps d v k = k d) := by
  intro os
  induction os with
  | nil =>
    intro ps lo h
    cases ps with
    | nil => exact Or.inr ⟨by simp only [List.length_nil]; omega, rfl⟩
    | cons q ps => cases h
  | cons o os ih =>
    intro ps lo h
    cases ps with
    | nil => cases h
    | cons q ps =>
      obtain ⟨a, t⟩ := q
      simp only [pm_twc, Bool.and_eq_true, beq_iff_eq] at h
      obtain ⟨⟨h1, h2⟩, h3⟩ := h
      by_cases hv : v = a
      · refine Or.inl ⟨0, t, o, rfl, by rw [hv, h1]; simp, h2, by simp [pm_swt, hv]⟩
      · have hne : v.toInt ≠ lo := fun g => hv (Int32.toInt_inj.mp (by rw [h1]; exact g))
        have e1 : pm_swt ((a, t) :: ps) d v k = pm_swt ps d v k := by simp [pm_swt, hv]
        rcases ih ps (lo + 1) h3 with ⟨j, t', o', g1, g2, g3, g4⟩ | ⟨g1, g2⟩
        · exact Or.inl ⟨j + 1, t', o', by simpa using g1, by rw [g2]; push_cast; omega, g3, by rw [e1]; exact g4⟩
        · refine Or.inr ⟨?_, by rw [e1]; exact g2⟩
          simp only [List.length_cons] at g1 ⊢
          push_cast at g1 ⊢
          omega
theorem so_tsw {ps : List (Int32 × Nat)} {d len : Nat} {df lo hi : Int} {offs : Array Int} (hd : decode cc (b i) = .ok (.tableswitch df lo hi offs, len)) (hw : pm_twc b (b i) lo offs.toList ps = true) (hh : lo + (offs.toList.length : Int) = hi + 1) (hdf : ((b i : Nat) : Int) + df = ((b d : Nat) : Int)) : pm_S cc nL own nm ret Y b i (pm_sw ps d) := by
  intro p l e R s m args below meth c Q D aC z bS X lc st h o ho
  unfold pm_sw at ho
  split at ho
  · rename_i v st'
    rcases pm_tw (b := b) (d := d) (v := v) (k := fun t => pm_nx t lc st' h) offs.toList ps lo hw with ⟨j, t, o', g1, g2, g3, g4⟩ | ⟨g1, g2⟩
    · rw [g4] at ho
      cases ho
      have hj := (List.getElem?_eq_some_iff.mp g1).1
      refine pm_keep fun H locs ls kc ks hL hkc hks k => ?_
      refine lv_tableIn X.1 X.2.1 hd (by omega) (by omega) (off := o') ?_ g3 (k ls hL.2.2)
      rw [show (v.toInt - lo).toNat = j by omega, ← Array.getElem?_toList]
      exact g1
    · rw [g2] at ho
      cases ho
      refine pm_keep fun H locs ls kc ks hL hkc hks k => ?_
      exact lv_tableOut X.1 X.2.1 hd (by omega) hdf (k ls hL.2.2)
  · cases ho
def pm_lwc (b : Nat → Nat) (pc : Nat) : List (Int × Int) → List (Int32 × Nat) → Bool
  | [], [] => true
  | o :: os, q :: ps => (q.1.toInt == o.1) && (((pc : Nat) : Int) + o.2 == ((b q.2 : Nat) : Int)) && pm_lwc b pc os ps
  | _, _ => false
theorem pm_lw {pc d : Nat} {df : Int} {v : Int32} {k : Nat → Option pm_O} (hdf : ((pc : Nat) : Int) + df = ((b d : Nat) : Int)) : ∀ (os : List (Int × Int)) (ps : List (Int32 × Nat)), pm_lwc b pc os ps = true → ∃ t : Nat, ((pc : Nat) : Int) + Op.lookupswitch.offset os df v.toInt = ((b t : Nat) : Int) ∧ pm_swt ps d v k = k t := by
  intro os
  induction os with
  | nil =>
    intro ps h
    cases ps with
    | nil => exact ⟨d, hdf, rfl⟩
    | cons q ps => cases h
  | cons o os ih =>
    intro ps h
    cases ps with
    | nil => cases h
    | cons q ps =>
      obtain ⟨a, t⟩ := q
      obtain ⟨o1, o2⟩ := o
      simp only [pm_lwc, Bool.and_eq_true, beq_iff_eq] at h
      obtain ⟨⟨h1, h2⟩, h3⟩ := h
      by_cases hv : v = a
      · subst hv
        refine ⟨t, ?_, by simp [pm_swt]⟩
        rw [Op.lookupswitch.offset_cons, if_pos h1.symm]
        exact h2
      · obtain ⟨t', g1, g2⟩ := ih ps h3
        exact ⟨t', by rw [lv_osw hv h1]; exact g1, by simp only [pm_swt, if_neg hv]; exact g2⟩
theorem so_lsw {ps : List (Int32 × Nat)} {d len : Nat} {df : Int} {prs : Array (Int × Int)} (hd : decode cc (b i) = .ok (.lookupswitch df prs, len)) (hsr : (prs.toList.zip (prs.toList.drop 1)).all (fun (a, next) => a.1 < next.1) = true) (hw : pm_lwc b (b i) prs.toList ps = true) (hdf : ((b i : Nat) : Int) + df = ((b d : Nat) : Int)) : pm_S cc nL own nm ret Y b i (pm_sw ps d) := by
  intro p l e R s m args below meth c Q D aC z bS X lc st h o ho
  unfold pm_sw at ho
  split at ho
  · rename_i v st'
    obtain ⟨t, g1, g2⟩ := pm_lw (b := b) (v := v) (k := fun t => pm_nx t lc st' h) hdf prs.toList ps hw
    rw [g2] at ho
    cases ho
    refine pm_keep fun H locs ls kc ks hL hkc hks k => ?_
    exact lv_lookup X.1 X.2.1 hd hsr rfl g1 (k ls hL.2.2)
  · cases ho
end OPM
-- ===== a whole activation =====
section SIM
variable {p : Program} {l : Launch} {e : Env} {R : Room} {s : State} {m : MethodId} {args : Array Value} {below : List Frame} {meth : Method} {c : Code} {Q : State → Prop} {D : va_G} {aC : Nat → ClassId} {z bS : Nat} {cc : ByteArray} {nL : Nat} {own nm : String} {ret : Option FieldType} {Y : Nat → pm_N} {b : Nat → Nat} {T : Nat → Option pm_I} {call : Nat → List Value → pm_H → Option pm_R}
theorem pm_simC (hT : ∀ j f, T j = some f → ∀ lc st h o, f lc st h = some o → pm_Sm p l e R s m args below meth c Q D aC z bS nL b j cc ret Y lc st h o) (hcall : ∀ mid a g r, call mid a g = some r → ∃ d, d + 2 ≤ R.frames ∧ 70 + 30 * d ≤ R.locals ∧ pm_M l D aC z bS d (Y mid) a g r.1 r.2) : ∀ (n : Nat) (q : pm_C) (r : pm_R), pm_ex call T n q = some r →
    (q.2.2.2.1 ≤ r.1.1 ∧ q.2.2.2.2.1 ≤ r.1.2.1) ∧ ∀ (H : Heap) (locs : List Loc) (ls : Array Slot) (kc ks : Nat), pm_L s D aC z bS nL q.2.1 q.2.2.2 H locs ls → kc + (r.1.1 - q.2.2.2.1) ≤ R.cells → ks + (r.1.2.1 - q.2.2.2.2.1) ≤ R.slots →
      (∀ (H' : Heap) (locs' : List Loc) (ls' : Array Slot) (pc : Nat), pm_W D aC z r.1 H' → va_S (fun q => z ≤ q) s.heap H' locs' → pm_rd cc pc ret r.2 → W p l e R s m args below meth c H' locs' (kc + (r.1.1 - q.2.2.2.1)) (ks + (r.1.2.1 - q.2.2.2.2.1)) Q (F0 m pc ls' (r.2.toList.map (pm_t z bS)))) →
      W p l e R s m args below meth c H locs kc ks Q (F0 m (b q.1) ls (q.2.2.1.map (pm_t z bS))) := by
  intro n
  induction n with
  | zero => intro q r h; cases h
  | succ n ih =>
    intro q r h
    obtain ⟨i, lc, st, h0⟩ := q
    cases hf : T i with
    | none => simp [pm_ex, hf] at h
    | some f =>
      have hS := hT _ _ hf lc st h0
      cases hw : f lc st h0 with
      | none => simp [pm_ex, hf, hw] at h
      | some o =>
        rcases o with w | w | w
        · simp only [pm_ex, hf, hw, Option.some.injEq] at h
          subst h
          obtain ⟨g1, g2, g3⟩ := hS _ hw
          obtain ⟨r1, r2⟩ := w
          dsimp only at g1 g2 g3
          subst g1
          subst g2
          refine ⟨⟨Nat.le_refl _, Nat.le_refl _⟩, fun H locs ls kc ks hL _ _ kk => ?_⟩
          simp only [Nat.sub_self, Nat.add_zero] at kk
          exact kk H locs ls _ hL.1 hL.2.1 g3
        · simp only [pm_ex, hf, hw] at h
          obtain ⟨g1, g2⟩ := hS _ hw
          obtain ⟨i1, i2⟩ := ih w r h
          dsimp only at g1 g2 i1 i2 ⊢
          refine ⟨⟨Nat.le_trans g1.1 i1.1, Nat.le_trans g1.2 i1.2⟩, fun H locs ls kc ks hL hc hs kk => ?_⟩
          refine g2 H locs ls kc ks hL (by omega) (by omega) (fun H' locs' ls' hL' => i2 H' locs' ls' _ _ hL' (by omega) (by omega) (fun H'' locs'' ls'' pc a1 a2 a3 => ?_))
          have k2 := kk H'' locs'' ls'' pc a1 a2 a3
          refine W.cs ?_ ?_ k2 <;> omega
        · simp only [pm_ex, hf, hw] at h
          obtain ⟨g1, g2⟩ := hS _ hw
          cases hr' : call w.1 w.2.1 w.2.2.2.2.2 with
          | none => simp [hr'] at h
          | some r' =>
            simp only [hr'] at h
            obtain ⟨d, d1, d2, hM⟩ := hcall _ _ _ _ hr'
            rw [g1] at hM
            obtain ⟨i1, i2⟩ := ih _ r h
            have m1 := hM.1
            dsimp only at g1 g2 i1 i2 m1 ⊢
            refine ⟨⟨Nat.le_trans m1.1 i1.1, Nat.le_trans m1.2 i1.2⟩, fun H locs ls kc ks hL hc hs kk => ?_⟩
            refine g2 d r'.1 r'.2 d1 d2 hM H locs ls kc ks hL (by omega) (by omega) (fun H' locs' hL' => i2 H' locs' ls _ _ hL' (by omega) (by omega) (fun H'' locs'' ls'' pc a1 a2 a3 => ?_))
            have k2 := kk H'' locs'' ls'' pc a1 a2 a3
            refine W.cs ?_ ?_ k2 <;> omega
theorem pm_sim (hT : ∀ j f, T j = some f → pm_S cc nL own nm ret Y b j f) (X : pm_X p R s m meth c cc nL own nm D aC z) (hcall : ∀ mid a g r, call mid a g = some r → ∃ d, d + 2 ≤ R.frames ∧ 70 + 30 * d ≤ R.locals ∧ pm_M l D aC z bS d (Y mid) a g r.1 r.2) : ∀ (n : Nat) (q : pm_C) (r : pm_R), pm_ex call T n q = some r →
    (q.2.2.2.1 ≤ r.1.1 ∧ q.2.2.2.2.1 ≤ r.1.2.1) ∧ ∀ (H : Heap) (locs : List Loc) (ls : Array Slot) (kc ks : Nat), pm_L s D aC z bS nL q.2.1 q.2.2.2 H locs ls → kc + (r.1.1 - q.2.2.2.1) ≤ R.cells → ks + (r.1.2.1 - q.2.2.2.2.1) ≤ R.slots →
      (∀ (H' : Heap) (locs' : List Loc) (ls' : Array Slot) (pc : Nat), pm_W D aC z r.1 H' → va_S (fun q => z ≤ q) s.heap H' locs' → pm_rd cc pc ret r.2 → W p l e R s m args below meth c H' locs' (kc + (r.1.1 - q.2.2.2.1)) (ks + (r.1.2.1 - q.2.2.2.2.1)) Q (F0 m pc ls' (r.2.toList.map (pm_t z bS)))) →
      W p l e R s m args below meth c H locs kc ks Q (F0 m (b q.1) ls (q.2.2.1.map (pm_t z bS))) := pm_simC (fun j f hf lc st h o ho => hT j f hf p l e R s m args below meth c Q D aC z bS X lc st h o ho) hcall
end SIM
theorem pm_V_entry {z bS nL : Nat} {a : List Value} (ha : a.all pm_ok = true) (hl : a.length ≤ nL) : pm_V z bS ((lg_sl (a.map (pm_t z bS)) ++ List.replicate (nL - (lg_sl (a.map (pm_t z bS))).length) Slot.unset).toArray) nL (a ++ List.replicate (nL - a.length) .null) := by
  have hcat : ∀ v ∈ a.map (pm_t z bS), v.category = 1 := by
    intro v hv
    obtain ⟨w, hw, rfl⟩ := List.mem_map.mp hv
    exact pm_t_cat (List.all_eq_true.mp ha w hw)
  have hsl : ∀ vs : List Value, (∀ v ∈ vs, v.category = 1) → lg_sl vs = vs.map Slot.val := by
    intro vs
    induction vs with
    | nil => intro _; rfl
    | cons v vs ih =>
      intro h
      have h1 := h v List.mem_cons_self
      have h2 := ih (fun w hw => h w (List.mem_cons_of_mem _ hw))
      simp only [lg_sl, List.flatMap_cons, List.map_cons] at h2 ⊢
      rw [h2, h1]
      rfl
  have hlen : (lg_sl (a.map (pm_t z bS))).length ≤ nL := by rw [hsl _ hcat]; simpa using hl
  have hh := lv_entry (a.map (pm_t z bS)) (n := nL) hlen
  refine ⟨hh.1, hh.2.1, by simp; omega, fun j w hj hw => ?_⟩
  have hja : j < a.length := by
    rcases Nat.lt_or_ge j a.length with h | h
    · exact h
    · rw [List.getElem?_append_right h] at hj
      have := List.eq_of_mem_replicate (List.mem_of_getElem? hj)
      subst this
      cases hw
  rw [List.getElem?_append_left hja] at hj
  rw [hsl _ hcat]
  have e1 : a[j] = w := (List.getElem?_eq_some_iff.mp hj).2
  simp [hja, List.getElem?_append_left, e1]
/-- a method's contract, out of a run of the pure machine -/
theorem pm_met {d : Nat} {y : MethodName} {cc : ByteArray} {nL : Nat} {ret : Option FieldType} {Y : Nat → pm_N} {b : Nat → Nat} {T : Nat → Option pm_I} {call : Nat → List Value → pm_H → Option pm_R} {n : Nat} {a : List Value} {h : pm_H} {r : pm_R} (hpl : plainName y.cls = true) (hb0 : b 0 = 0) (hT : ∀ j f, T j = some f → pm_S cc nL y.cls y.name ret Y b j f) (l : Launch) (D : va_G) (aC : Nat → ClassId) (z bS : Nat)
    (hcall : ∀ mid a g r, call mid a g = some r → ∃ d', d' + 1 ≤ d ∧ pm_M l D aC z bS d' (Y mid) a g r.1 r.2) (ha : a.all pm_ok = true) (hl : a.length ≤ nL) (hex : pm_ex call T n (0, a ++ List.replicate (nL - a.length) .null, [], h) = some r) (hmono : h.1 ≤ r.1.1 ∧ h.2.1 ≤ r.1.2.1) : pm_M l D aC z bS d (y, cc, nL, ret) a h r.1 r.2 := by
  refine ⟨hmono, Met.ofW (cc := cc) (maxL := nL) (ret := ret) hpl rfl ?_⟩
  intro p e s m args below meth c s₁ B hml hv
  obtain ⟨rfl, hW, hG⟩ := hv
  have hx := B.exec
  have hb := B.bytes
  have hr := B.returns
  have hown : s.vm.findClass y.cls = some m.cls := findClass_of_methodNamed B.named
  have hlocks := B.notSynchronized
  have hnm : meth.name = y.name := (name_of_methodNamed B.named B.method).1
  have X : pm_X p (pm_rm d (r.1.1 - h.1) (r.1.2.1 - h.2.1)) s m meth c cc nL y.cls y.name D aC z := ⟨hx, hb, hml, hown, hG, by rw [hW.1]; omega, by show 1 ≤ d + 1; omega, by show 40 ≤ 40 + 30 * d; omega, hnm⟩
  rw [lg_entry_eq]
  have sim := (pm_sim (l := l) (e := e) (args := (a.map (pm_t z bS)).toArray) (below := below) (Q := MQ below (pm_Qc D aC z bS r.1 r.2) (a.map (pm_t z bS)).toArray s (r.1.1 - h.1) (r.1.2.1 - h.2.1) (fun q => z ≤ q)) (bS := bS) hT X (fun mid a' g r' hr' => by
    obtain ⟨d', e1, e2⟩ := hcall mid a' g r' hr'
    exact ⟨d', by show d' + 2 ≤ d + 1; omega, by show 70 + 30 * d' ≤ 40 + 30 * d; omega, e2⟩) n _ _ hex).2 s.heap [] _ 0 0 ⟨hW, va_S.rf, pm_V_entry ha hl⟩ (by show 0 + (r.1.1 - h.1) ≤ r.1.1 - h.1; omega) (by show 0 + (r.1.2.1 - h.2.1) ≤ r.1.2.1 - h.2.1; omega) (fun H' locs' ls' pc a1 a2 a3 => ?_)
  · dsimp only at sim
    rw [hb0] at sim
    exact sim
  · obtain ⟨r1, r2⟩ := r
    refine W.cs (Nat.zero_add _) (Nat.zero_add _) ?_
    dsimp only at a1 a3 ⊢
    cases r2 with
    | none =>
      obtain ⟨c1, c2⟩ := a3
      exact W.vret hx hb (hr.trans c2) (fun t ht hW' => ⟨rfl, by rw [ht]; exact a1, a2.F ht⟩) a2.2.2 c1
    | some v =>
      cases v with
      | int w =>
        obtain ⟨c1, ty, c2, c3⟩ := a3
        exact W.zret hx hb (hr.trans c2) c3 (fun t ht hW' => ⟨rfl, by rw [ht]; exact a1, a2.F ht⟩) a2.2.2 c1
      | ref w =>
        obtain ⟨c1, C, c2⟩ := a3
        exact W.aret (v := .ref (z + w)) hx hb (hr.trans c2) (Or.inl ⟨C, rfl⟩) (Or.inr ⟨_, rfl⟩) (fun t ht hW' => ⟨rfl, by rw [ht]; exact a1, a2.F ht⟩) a2.2.2 c1
      | _ => exact a3.elim
def pm_go (Y : Nat → pm_N) (T : Nat → Nat → Option pm_I) (N : Nat) (call : Nat → List Value → pm_H → Option pm_R) (mid : Nat) (a : List Value) (h : pm_H) : Option pm_R :=
  if a.all pm_ok && decide (a.length ≤ (Y mid).2.2.1) then (match pm_ex call (T mid) N (0, a ++ List.replicate ((Y mid).2.2.1 - a.length) .null, [], h) with
    | some r => if decide (h.1 ≤ r.1.1) && decide (h.2.1 ≤ r.1.2.1) then some r else none
    | none => none) else none
theorem pm_go_spec {Y : Nat → pm_N} {T : Nat → Nat → Option pm_I} {N : Nat} {call : Nat → List Value → pm_H → Option pm_R} {mid : Nat} {a : List Value} {h : pm_H} {r : pm_R} (hr : pm_go Y T N call mid a h = some r) :
    a.all pm_ok = true ∧ a.length ≤ (Y mid).2.2.1 ∧ pm_ex call (T mid) N (0, a ++ List.replicate ((Y mid).2.2.1 - a.length) .null, [], h) = some r ∧ h.1 ≤ r.1.1 ∧ h.2.1 ≤ r.1.2.1 := by
  unfold pm_go at hr
  split at hr
  · rename_i hq
    simp only [Bool.and_eq_true, decide_eq_true_eq] at hq
    split at hr
    · rename_i r' hx
      split at hr
      · rename_i hm
        cases hr
        simp only [Bool.and_eq_true, decide_eq_true_eq] at hm
        exact ⟨hq.1, hq.2, hx, hm.1, hm.2⟩
      · cases hr
    · cases hr
  · cases hr
/-- method mid with the values a on the heap h, calls d deep, N steps a method -/
def pm_run (Y : Nat → pm_N) (T : Nat → Nat → Option pm_I) (N : Nat) : Nat → Nat → List Value → pm_H → Option pm_R
  | 0 => pm_go Y T N (fun _ _ _ => none)
  | d + 1 => pm_go Y T N (pm_run Y T N d)
theorem pm_runs {Y : Nat → pm_N} {T : Nat → Nat → Option pm_I} {B : Nat → Nat → Nat} (hpl : ∀ mid, plainName (Y mid).1.cls = true) (hb0 : ∀ mid, B mid 0 = 0) (hT : ∀ mid j f, T mid j = some f → pm_S (Y mid).2.1 (Y mid).2.2.1 (Y mid).1.cls (Y mid).1.name (Y mid).2.2.2 Y (B mid) j f) (l : Launch) (D : va_G) (aC : Nat → ClassId) (z bS N : Nat) :
    ∀ (d mid : Nat) (a : List Value) (h : pm_H) (r : pm_R), pm_run Y T N d mid a h = some r → pm_M l D aC z bS d (Y mid) a h r.1 r.2 := by
  intro d
  induction d with
  | zero =>
    intro mid a h r hr
    obtain ⟨h1, h2, h3, h4⟩ := pm_go_spec hr
    exact pm_met (hpl mid) (hb0 mid) (hT mid) l D aC z bS (fun _ _ _ _ q => by cases q) h1 h2 h3 h4
  | succ d ih =>
    intro mid a h r hr
    obtain ⟨h1, h2, h3, h4⟩ := pm_go_spec hr
    exact pm_met (hpl mid) (hb0 mid) (hT mid) l D aC z bS (fun mid' a' g r' q => ⟨d, Nat.le_refl _, ih mid' a' g r' q⟩) h1 h2 h3 h4
/-- a method's instructions one after the other, each as the code has it -/
def pm_Sl (cc : ByteArray) (nL : Nat) (own nm : String) (ret : Option FieldType) (Y : Nat → pm_N) (b : Nat → Nat) : Nat → List pm_I → Prop
  | _, [] => True
  | i, f :: l => pm_S cc nL own nm ret Y b i f ∧ pm_Sl cc nL own nm ret Y b (i + 1) l
theorem pm_Sl_at {cc : ByteArray} {nL : Nat} {own nm : String} {ret : Option FieldType} {Y : Nat → pm_N} {b : Nat → Nat} : ∀ (l : List pm_I) (i : Nat), pm_Sl cc nL own nm ret Y b i l → ∀ (j : Nat) (f : pm_I), l[j]? = some f → pm_S cc nL own nm ret Y b (i + j) f := by
  intro l
  induction l with
  | nil => intro i _ j f h; cases h
  | cons g l ih =>
    intro i h j f hj
    cases j with
    | zero => cases hj; exact h.1
    | succ j =>
      have := ih (i + 1) h.2 j f (by simpa using hj)
      rw [show i + (j + 1) = i + 1 + j by omega]
      exact this
def pm_b (l : List Nat) (i : Nat) : Nat := l.getD i 0
theorem so_none {cc : ByteArray} {nL : Nat} {own nm : String} {ret : Option FieldType} {Y : Nat → pm_N} {b : Nat → Nat} {i : Nat} : pm_S cc nL own nm ret Y b i (fun _ _ _ => none) := by
  intro p l e R s m args below meth c Q D aC z bS X lc st h o ho
  cases ho
end
section
theorem fl_Lo_10 : pm_fl R_Lo 10 R_Lo (T_Lo 0).2.1 (T_Lo 0).2.2.1 := Or.inl (pm_in1 (List.mem_append_left _ (List.mem_of_getElem? (i := 194) rfl)))
theorem fl_Lo_21 : pm_fl R_Lo 21 R_Lo (T_Lo 1).2.1 (T_Lo 1).2.2.1 := Or.inl (pm_in1 (List.mem_append_left _ (List.mem_of_getElem? (i := 195) rfl)))
theorem fl_Sh_11 : pm_fl R_Sh 11 R_Sh (T_Sh 0).2.1 (T_Sh 0).2.2.1 := Or.inl (pm_in1 (List.mem_append_left _ (List.mem_of_getElem? (i := 66) rfl)))
theorem fl_Sh_17 : pm_fl R_Sh 17 R_Sh (T_Sh 1).2.1 (T_Sh 1).2.2.1 := Or.inl (pm_in1 (List.mem_append_left _ (List.mem_of_getElem? (i := 68) rfl)))
theorem fl_Sh_22 : pm_fl R_Sh 22 R_Sh (T_Sh 2).2.1 (T_Sh 2).2.2.1 := Or.inl (pm_in1 (List.mem_append_left _ (List.mem_of_getElem? (i := 69) rfl)))
theorem fl_Sh_32 : pm_fl R_Sh 32 R_Sh (T_Sh 3).2.1 (T_Sh 3).2.2.1 := Or.inl (pm_in1 (List.mem_append_left _ (List.mem_of_getElem? (i := 70) rfl)))
theorem fl_Sh_54 : pm_fl R_Sh 54 R_Bo (T_Bo 4).2.1 (T_Bo 4).2.2.1 := Or.inr ⟨_, pm_in1 (List.mem_append_left _ (List.mem_of_getElem? (i := 46) rfl))⟩
theorem fl_Sh_65 : pm_fl R_Sh 65 R_Bo (T_Bo 1).2.1 (T_Bo 1).2.2.1 := Or.inr ⟨_, pm_in1 (List.mem_append_left _ (List.mem_of_getElem? (i := 39) rfl))⟩
theorem fl_Sh_68 : pm_fl R_Sh 68 R_Bo (T_Bo 3).2.1 (T_Bo 3).2.2.1 := Or.inr ⟨_, pm_in1 (List.mem_append_left _ (List.mem_of_getElem? (i := 43) rfl))⟩
theorem fl_Sh_71 : pm_fl R_Sh 71 R_Bo (T_Bo 0).2.1 (T_Bo 0).2.2.1 := Or.inr ⟨_, pm_in1 (List.mem_append_left _ (List.mem_of_getElem? (i := 36) rfl))⟩
theorem fl_Sh_80 : pm_fl R_Sh 80 R_Bo (T_Bo 5).2.1 (T_Bo 5).2.2.1 := Or.inr ⟨_, pm_in1 (List.mem_append_left _ (List.mem_of_getElem? (i := 48) rfl))⟩
theorem fl_Bo_9 : pm_fl R_Bo 9 R_Bo (T_Bo 0).2.1 (T_Bo 0).2.2.1 := Or.inl (pm_in1 (List.mem_append_left _ (List.mem_of_getElem? (i := 34) rfl)))
theorem fl_Bo_15 : pm_fl R_Bo 15 R_Bo (T_Bo 1).2.1 (T_Bo 1).2.2.1 := Or.inl (pm_in1 (List.mem_append_left _ (List.mem_of_getElem? (i := 37) rfl)))
theorem fl_Bo_18 : pm_fl R_Bo 18 R_Bo (T_Bo 2).2.1 (T_Bo 2).2.2.1 := Or.inl (pm_in1 (List.mem_append_left _ (List.mem_of_getElem? (i := 40) rfl)))
theorem fl_Bo_21 : pm_fl R_Bo 21 R_Bo (T_Bo 3).2.1 (T_Bo 3).2.2.1 := Or.inl (pm_in1 (List.mem_append_left _ (List.mem_of_getElem? (i := 42) rfl)))
theorem fl_Bo_24 : pm_fl R_Bo 24 R_Bo (T_Bo 4).2.1 (T_Bo 4).2.2.1 := Or.inl (pm_in1 (List.mem_append_left _ (List.mem_of_getElem? (i := 44) rfl)))
theorem fl_Bo_28 : pm_fl R_Bo 28 R_Bo (T_Bo 5).2.1 (T_Bo 5).2.2.1 := Or.inl (pm_in1 (List.mem_append_left _ (List.mem_of_getElem? (i := 47) rfl)))
theorem fl_Ru_11 : pm_fl R_Ru 11 R_Ru (T_Ru 1).2.1 (T_Ru 1).2.2.1 := Or.inl (pm_in1 (List.mem_append_left _ (List.mem_of_getElem? (i := 173) rfl)))
theorem fl_Ru_19 : pm_fl R_Ru 19 R_Ru (T_Ru 2).2.1 (T_Ru 2).2.2.1 := Or.inl (pm_in1 (List.mem_append_left _ (List.mem_of_getElem? (i := 174) rfl)))
theorem fl_Ru_25 : pm_fl R_Ru 25 R_Ru (T_Ru 3).2.1 (T_Ru 3).2.2.1 := Or.inl (pm_in1 (List.mem_append_left _ (List.mem_of_getElem? (i := 175) rfl)))
theorem fl_Ru_32 : pm_fl R_Ru 32 R_Ru (T_Ru 4).2.1 (T_Ru 4).2.2.1 := Or.inl (pm_in1 (List.mem_append_left _ (List.mem_of_getElem? (i := 176) rfl)))
theorem fl_Ru_36 : pm_fl R_Ru 36 R_Ru (T_Ru 0).2.1 (T_Ru 0).2.2.1 := Or.inl (pm_in1 (List.mem_append_left _ (List.mem_of_getElem? (i := 172) rfl)))
theorem fl_Ru_50 : pm_fl R_Ru 50 R_Ru (T_Ru 6).2.1 (T_Ru 6).2.2.1 := Or.inl (pm_in1 (List.mem_append_left _ (List.mem_of_getElem? (i := 178) rfl)))
theorem fl_Ru_54 : pm_fl R_Ru 54 R_Ru (T_Ru 5).2.1 (T_Ru 5).2.2.1 := Or.inl (pm_in1 (List.mem_append_left _ (List.mem_of_getElem? (i := 177) rfl)))
theorem fl_Ru_57 : pm_fl R_Ru 57 R_Sd (T_Sd 3).2.1 (T_Sd 3).2.2.1 := Or.inr ⟨_, pm_in1 (List.mem_append_left _ (List.mem_of_getElem? (i := 119) rfl))⟩
theorem fl_Ru_98 : pm_fl R_Ru 98 R_Sd (T_Sd 4).2.1 (T_Sd 4).2.2.1 := Or.inr ⟨_, pm_in1 (List.mem_append_left _ (List.mem_of_getElem? (i := 122) rfl))⟩
theorem fl_Ru_112 : pm_fl R_Ru 112 R_Bo (T_Bo 4).2.1 (T_Bo 4).2.2.1 := Or.inr ⟨_, pm_in1 (List.mem_append_left _ (List.mem_of_getElem? (i := 45) rfl))⟩
theorem fl_Ru_101 : pm_fl R_Ru 101 R_Sd (T_Sd 2).2.1 (T_Sd 2).2.2.1 := Or.inr ⟨_, pm_in1 (List.mem_append_left _ (List.mem_of_getElem? (i := 117) rfl))⟩
theorem fl_Ru_90 : pm_fl R_Ru 90 R_Sh (T_Sh 0).2.1 (T_Sh 0).2.2.1 := Or.inr ⟨_, pm_in1 (List.mem_append_left _ (List.mem_of_getElem? (i := 67) rfl))⟩
theorem fl_Ru_96 : pm_fl R_Ru 96 R_Sd (T_Sd 1).2.1 (T_Sd 1).2.2.1 := Or.inr ⟨_, pm_in1 (List.mem_append_left _ (List.mem_of_getElem? (i := 115) rfl))⟩
theorem fl_Ru_117 : pm_fl R_Ru 117 R_Bo (T_Bo 0).2.1 (T_Bo 0).2.2.1 := Or.inr ⟨_, pm_in1 (List.mem_append_left _ (List.mem_of_getElem? (i := 35) rfl))⟩
theorem fl_Ru_120 : pm_fl R_Ru 120 R_Bo (T_Bo 1).2.1 (T_Bo 1).2.2.1 := Or.inr ⟨_, pm_in1 (List.mem_append_left _ (List.mem_of_getElem? (i := 38) rfl))⟩
theorem fl_Ru_136 : pm_fl R_Ru 136 R_Sd (T_Sd 5).2.1 (T_Sd 5).2.2.1 := Or.inr ⟨_, pm_in1 (List.mem_append_left _ (List.mem_of_getElem? (i := 124) rfl))⟩
theorem fl_Ru_142 : pm_fl R_Ru 142 R_Bo (T_Bo 2).2.1 (T_Bo 2).2.2.1 := Or.inr ⟨_, pm_in1 (List.mem_append_left _ (List.mem_of_getElem? (i := 41) rfl))⟩
theorem fl_Ru_163 : pm_fl R_Ru 163 R_Ce (T_Ce 0).2.1 (T_Ce 0).2.2.1 := Or.inr ⟨_, pm_in1 (List.mem_append_left _ (List.mem_of_getElem? (i := 160) rfl))⟩
theorem fl_Ru_166 : pm_fl R_Ru 166 R_Sd (T_Sd 0).2.1 (T_Sd 0).2.2.1 := Or.inr ⟨_, pm_in1 (List.mem_append_left _ (List.mem_of_getElem? (i := 113) rfl))⟩
theorem fl_Ru_169 : pm_fl R_Ru 169 R_Ce (T_Ce 2).2.1 (T_Ce 2).2.2.1 := Or.inr ⟨_, pm_in1 (List.mem_append_left _ (List.mem_of_getElem? (i := 164) rfl))⟩
theorem fl_Ru_170 : pm_fl R_Ru 170 R_Ce (T_Ce 1).2.1 (T_Ce 1).2.2.1 := Or.inr ⟨_, pm_in1 (List.mem_append_left _ (List.mem_of_getElem? (i := 162) rfl))⟩
theorem fl_Ru_190 : pm_fl R_Ru 190 R_Lk (T_Lk 1).2.1 (T_Lk 1).2.2.1 := Or.inr ⟨_, pm_in1 (List.mem_append_left _ (List.mem_of_getElem? (i := 145) rfl))⟩
theorem fl_Ru_193 : pm_fl R_Ru 193 R_Rl (T_Rl 1).2.1 (T_Rl 1).2.2.1 := Or.inr ⟨_, pm_in1 (List.mem_append_left _ (List.mem_of_getElem? (i := 100) rfl))⟩
theorem fl_Rl_9 : pm_fl R_Rl 9 R_Rl (T_Rl 0).2.1 (T_Rl 0).2.2.1 := Or.inl (pm_in1 (List.mem_append_left _ (List.mem_of_getElem? (i := 98) rfl)))
theorem fl_Rl_15 : pm_fl R_Rl 15 R_Rl (T_Rl 1).2.1 (T_Rl 1).2.2.1 := Or.inl (pm_in1 (List.mem_append_left _ (List.mem_of_getElem? (i := 99) rfl)))
theorem fl_Sd_9 : pm_fl R_Sd 9 R_Sd (T_Sd 1).2.1 (T_Sd 1).2.2.1 := Or.inl (pm_in1 (List.mem_append_left _ (List.mem_of_getElem? (i := 114) rfl)))
theorem fl_Sd_15 : pm_fl R_Sd 15 R_Sd (T_Sd 2).2.1 (T_Sd 2).2.2.1 := Or.inl (pm_in1 (List.mem_append_left _ (List.mem_of_getElem? (i := 116) rfl)))
theorem fl_Sd_18 : pm_fl R_Sd 18 R_Sd (T_Sd 3).2.1 (T_Sd 3).2.2.1 := Or.inl (pm_in1 (List.mem_append_left _ (List.mem_of_getElem? (i := 118) rfl)))
theorem fl_Sd_21 : pm_fl R_Sd 21 R_Sd (T_Sd 0).2.1 (T_Sd 0).2.2.1 := Or.inl (pm_in1 (List.mem_append_left _ (List.mem_of_getElem? (i := 111) rfl)))
theorem fl_Sd_25 : pm_fl R_Sd 25 R_Sd (T_Sd 5).2.1 (T_Sd 5).2.2.1 := Or.inl (pm_in1 (List.mem_append_left _ (List.mem_of_getElem? (i := 123) rfl)))
theorem fl_Sd_28 : pm_fl R_Sd 28 R_Sd (T_Sd 4).2.1 (T_Sd 4).2.2.1 := Or.inl (pm_in1 (List.mem_append_left _ (List.mem_of_getElem? (i := 121) rfl)))
theorem fl_Lk_9 : pm_fl R_Lk 9 R_Lk (T_Lk 0).2.1 (T_Lk 0).2.2.1 := Or.inl (pm_in1 (List.mem_append_left _ (List.mem_of_getElem? (i := 143) rfl)))
theorem fl_Lk_15 : pm_fl R_Lk 15 R_Lk (T_Lk 1).2.1 (T_Lk 1).2.2.1 := Or.inl (pm_in1 (List.mem_append_left _ (List.mem_of_getElem? (i := 144) rfl)))
theorem fl_Lk_25 : pm_fl R_Lk 25 R_Lk (T_Lk 2).2.1 (T_Lk 2).2.2.1 := Or.inl (pm_in1 (List.mem_append_left _ (List.mem_of_getElem? (i := 146) rfl)))
theorem fl_Lk_28 : pm_fl R_Lk 28 R_Sd (T_Sd 0).2.1 (T_Sd 0).2.2.1 := Or.inr ⟨_, pm_in1 (List.mem_append_left _ (List.mem_of_getElem? (i := 112) rfl))⟩
theorem fl_Lk_37 : pm_fl R_Lk 37 R_Sd (T_Sd 3).2.1 (T_Sd 3).2.2.1 := Or.inr ⟨_, pm_in1 (List.mem_append_left _ (List.mem_of_getElem? (i := 120) rfl))⟩
theorem fl_Ce_9 : pm_fl R_Ce 9 R_Ce (T_Ce 0).2.1 (T_Ce 0).2.2.1 := Or.inl (pm_in1 (List.mem_append_left _ (List.mem_of_getElem? (i := 159) rfl)))
theorem fl_Ce_15 : pm_fl R_Ce 15 R_Ce (T_Ce 1).2.1 (T_Ce 1).2.2.1 := Or.inl (pm_in1 (List.mem_append_left _ (List.mem_of_getElem? (i := 161) rfl)))
theorem fl_Ce_24 : pm_fl R_Ce 24 R_Ce (T_Ce 2).2.1 (T_Ce 2).2.2.1 := Or.inl (pm_in1 (List.mem_append_left _ (List.mem_of_getElem? (i := 163) rfl)))
theorem fl_Mo_7 : pm_fl R_Mo 7 R_Mo (T_Mo 0).2.1 (T_Mo 0).2.2.1 := Or.inl (pm_in1 (List.mem_append_right _ (List.mem_append_left _ (List.mem_of_getElem? (i := 228) rfl))))
theorem fl_Mo_13 : pm_fl R_Mo 13 R_Mo (T_Mo 1).2.1 (T_Mo 1).2.2.1 := Or.inl (pm_in1 (List.mem_append_right _ (List.mem_append_left _ (List.mem_of_getElem? (i := 229) rfl))))
theorem fl_Mo_16 : pm_fl R_Mo 16 R_Mo (T_Mo 2).2.1 (T_Mo 2).2.2.1 := Or.inl (pm_in1 (List.mem_append_right _ (List.mem_append_left _ (List.mem_of_getElem? (i := 230) rfl))))
theorem fl_Mo_19 : pm_fl R_Mo 19 R_Mo (T_Mo 3).2.1 (T_Mo 3).2.2.1 := Or.inl (pm_in1 (List.mem_append_right _ (List.mem_append_left _ (List.mem_of_getElem? (i := 231) rfl))))
theorem fl_Mo_22 : pm_fl R_Mo 22 R_Mo (T_Mo 5).2.1 (T_Mo 5).2.2.1 := Or.inl (pm_in1 (List.mem_append_right _ (List.mem_append_left _ (List.mem_of_getElem? (i := 233) rfl))))
theorem fl_Mo_25 : pm_fl R_Mo 25 R_Mo (T_Mo 7).2.1 (T_Mo 7).2.2.1 := Or.inl (pm_in1 (List.mem_append_right _ (List.mem_append_left _ (List.mem_of_getElem? (i := 235) rfl))))
theorem fl_Mo_28 : pm_fl R_Mo 28 R_Mo (T_Mo 8).2.1 (T_Mo 8).2.2.1 := Or.inl (pm_in1 (List.mem_append_right _ (List.mem_append_left _ (List.mem_of_getElem? (i := 236) rfl))))
theorem fl_Mo_31 : pm_fl R_Mo 31 R_Mo (T_Mo 9).2.1 (T_Mo 9).2.2.1 := Or.inl (pm_in1 (List.mem_append_right _ (List.mem_append_left _ (List.mem_of_getElem? (i := 237) rfl))))
theorem fl_Mo_34 : pm_fl R_Mo 34 R_Mo (T_Mo 10).2.1 (T_Mo 10).2.2.1 := Or.inl (pm_in1 (List.mem_append_right _ (List.mem_append_left _ (List.mem_of_getElem? (i := 238) rfl))))
theorem fl_Mo_37 : pm_fl R_Mo 37 R_Mo (T_Mo 12).2.1 (T_Mo 12).2.2.1 := Or.inl (pm_in1 (List.mem_append_right _ (List.mem_append_right _ (List.mem_of_getElem? (i := 0) rfl))))
theorem fl_Mo_40 : pm_fl R_Mo 40 R_Mo (T_Mo 13).2.1 (T_Mo 13).2.2.1 := Or.inl (pm_in1 (List.mem_append_right _ (List.mem_append_right _ (List.mem_of_getElem? (i := 1) rfl))))
theorem fl_Mo_43 : pm_fl R_Mo 43 R_Mo (T_Mo 14).2.1 (T_Mo 14).2.2.1 := Or.inl (pm_in1 (List.mem_append_right _ (List.mem_append_right _ (List.mem_of_getElem? (i := 2) rfl))))
theorem fl_Mo_46 : pm_fl R_Mo 46 R_Mo (T_Mo 15).2.1 (T_Mo 15).2.2.1 := Or.inl (pm_in1 (List.mem_append_right _ (List.mem_append_right _ (List.mem_of_getElem? (i := 3) rfl))))
theorem fl_Mo_49 : pm_fl R_Mo 49 R_Mo (T_Mo 16).2.1 (T_Mo 16).2.2.1 := Or.inl (pm_in1 (List.mem_append_right _ (List.mem_append_right _ (List.mem_of_getElem? (i := 4) rfl))))
theorem fl_Mo_52 : pm_fl R_Mo 52 R_Mo (T_Mo 18).2.1 (T_Mo 18).2.2.1 := Or.inl (pm_in1 (List.mem_append_right _ (List.mem_append_right _ (List.mem_of_getElem? (i := 6) rfl))))
theorem fl_Mo_55 : pm_fl R_Mo 55 R_Mo (T_Mo 19).2.1 (T_Mo 19).2.2.1 := Or.inl (pm_in1 (List.mem_append_right _ (List.mem_append_right _ (List.mem_of_getElem? (i := 7) rfl))))
theorem fl_Mo_58 : pm_fl R_Mo 58 R_Mo (T_Mo 20).2.1 (T_Mo 20).2.2.1 := Or.inl (pm_in1 (List.mem_append_right _ (List.mem_append_right _ (List.mem_of_getElem? (i := 8) rfl))))
theorem fl_Mo_61 : pm_fl R_Mo 61 R_Mo (T_Mo 21).2.1 (T_Mo 21).2.2.1 := Or.inl (pm_in1 (List.mem_append_right _ (List.mem_append_right _ (List.mem_of_getElem? (i := 9) rfl))))
theorem fl_Mo_65 : pm_fl R_Mo 65 R_Mo (T_Mo 23).2.1 (T_Mo 23).2.2.1 := Or.inl (pm_in1 (List.mem_append_right _ (List.mem_append_right _ (List.mem_of_getElem? (i := 11) rfl))))
theorem fl_Mo_87 : pm_fl R_Mo 87 R_Mo (T_Mo 4).2.1 (T_Mo 4).2.2.1 := Or.inl (pm_in1 (List.mem_append_right _ (List.mem_append_left _ (List.mem_of_getElem? (i := 232) rfl))))
theorem fl_Mo_119 : pm_fl R_Mo 119 R_Mo (T_Mo 6).2.1 (T_Mo 6).2.2.1 := Or.inl (pm_in1 (List.mem_append_right _ (List.mem_append_left _ (List.mem_of_getElem? (i := 234) rfl))))
theorem fl_Mo_108 : pm_fl R_Mo 108 R_Mo (T_Mo 11).2.1 (T_Mo 11).2.2.1 := Or.inl (pm_in1 (List.mem_append_right _ (List.mem_append_left _ (List.mem_of_getElem? (i := 239) rfl))))
theorem fl_Mo_123 : pm_fl R_Mo 123 R_Mo (T_Mo 17).2.1 (T_Mo 17).2.2.1 := Or.inl (pm_in1 (List.mem_append_right _ (List.mem_append_right _ (List.mem_of_getElem? (i := 5) rfl))))
theorem fl_Mo_126 : pm_fl R_Mo 126 R_Mo (T_Mo 22).2.1 (T_Mo 22).2.2.1 := Or.inl (pm_in1 (List.mem_append_right _ (List.mem_append_right _ (List.mem_of_getElem? (i := 10) rfl))))
abbrev y_Lo_init : MethodName := ⟨R_Lo, "<init>", "()V"⟩
theorem mc_Lo_init : Cond.code y_Lo_init prog_1_method_1_code 1 (none) ∈ lw_tbl := pm_in1 (List.mem_append_left _ (List.mem_of_getElem? (i := 17) rfl))
theorem yd_Lo_init : pm_yd y_Lo_init 0 := ⟨by decide +kernel, by decide +kernel, by decide +kernel⟩
theorem mj_Lo_init : Cond.instanceMethod y_Lo_init ∈ lw_tbl := pm_in1 (List.mem_append_left _ (List.mem_of_getElem? (i := 16) rfl))
abbrev y_Lo_statement : MethodName := ⟨R_Lo, "statement", "(II)I"⟩
theorem mc_Lo_statement : Cond.code y_Lo_statement prog_1_method_2_code 3 (some .int) ∈ lw_tbl := pm_in1 (List.mem_append_left _ (List.mem_of_getElem? (i := 204) rfl))
theorem yd_Lo_statement : pm_yd y_Lo_statement 2 := ⟨by decide +kernel, by decide +kernel, by decide +kernel⟩
theorem mj_Lo_statement : Cond.instanceMethod y_Lo_statement ∈ lw_tbl := pm_in1 (List.mem_append_left _ (List.mem_of_getElem? (i := 202) rfl))
theorem ms_Lo_statement : Cond.selects R_Lo y_Lo_statement y_Lo_statement ∈ lw_tbl := pm_in1 (List.mem_append_left _ (List.mem_of_getElem? (i := 203) rfl))
abbrev y_Lo_isBelow : MethodName := ⟨R_Lo, "isBelow", "(II)Z"⟩
theorem mc_Lo_isBelow : Cond.code y_Lo_isBelow prog_1_method_16_code 2 (some .boolean) ∈ lw_tbl := pm_in1 (List.mem_append_left _ (List.mem_of_getElem? (i := 214) rfl))
theorem yd_Lo_isBelow : pm_yd y_Lo_isBelow 2 := ⟨by decide +kernel, by decide +kernel, by decide +kernel⟩
theorem mt_Lo_isBelow : Cond.static y_Lo_isBelow ∈ lw_tbl := pm_in1 (List.mem_append_left _ (List.mem_of_getElem? (i := 213) rfl))
abbrev y_Lo_body : MethodName := ⟨R_Lo, "body", "(I)I"⟩
theorem mc_Lo_body : Cond.code y_Lo_body prog_1_method_3_code 2 (some .int) ∈ lw_tbl := pm_in1 (List.mem_append_left _ (List.mem_of_getElem? (i := 222) rfl))
theorem yd_Lo_body : pm_yd y_Lo_body 1 := ⟨by decide +kernel, by decide +kernel, by decide +kernel⟩
theorem mj_Lo_body : Cond.instanceMethod y_Lo_body ∈ lw_tbl := pm_in1 (List.mem_append_left _ (List.mem_of_getElem? (i := 220) rfl))
theorem ms_Lo_body : Cond.selects R_Lo y_Lo_body y_Lo_body ∈ lw_tbl := pm_in1 (List.mem_append_left _ (List.mem_of_getElem? (i := 221) rfl))
abbrev y_Lo_guard : MethodName := ⟨R_Lo, "guard", "(II)Z"⟩
theorem mc_Lo_guard : Cond.code y_Lo_guard prog_1_method_4_code 3 (some .boolean) ∈ lw_tbl := pm_in1 (List.mem_append_right _ (List.mem_append_left _ (List.mem_of_getElem? (i := 2) rfl)))
theorem yd_Lo_guard : pm_yd y_Lo_guard 2 := ⟨by decide +kernel, by decide +kernel, by decide +kernel⟩
theorem mj_Lo_guard : Cond.instanceMethod y_Lo_guard ∈ lw_tbl := pm_in1 (List.mem_append_right _ (List.mem_append_left _ (List.mem_of_getElem? (i := 0) rfl)))
theorem ms_Lo_guard : Cond.selects R_Lo y_Lo_guard y_Lo_guard ∈ lw_tbl := pm_in1 (List.mem_append_right _ (List.mem_append_left _ (List.mem_of_getElem? (i := 1) rfl)))
abbrev y_Lo_check : MethodName := ⟨R_Lo, "check", "(I)I"⟩
theorem mc_Lo_check : Cond.code y_Lo_check prog_1_method_5_code 2 (some .int) ∈ lw_tbl := pm_in1 (List.mem_append_right _ (List.mem_append_left _ (List.mem_of_getElem? (i := 10) rfl)))
theorem yd_Lo_check : pm_yd y_Lo_check 1 := ⟨by decide +kernel, by decide +kernel, by decide +kernel⟩
theorem mj_Lo_check : Cond.instanceMethod y_Lo_check ∈ lw_tbl := pm_in1 (List.mem_append_right _ (List.mem_append_left _ (List.mem_of_getElem? (i := 8) rfl)))
theorem ms_Lo_check : Cond.selects R_Lo y_Lo_check y_Lo_check ∈ lw_tbl := pm_in1 (List.mem_append_right _ (List.mem_append_left _ (List.mem_of_getElem? (i := 9) rfl)))
abbrev y_Lo_sound : MethodName := ⟨R_Lo, "sound", "()Z"⟩
theorem mc_Lo_sound : Cond.code y_Lo_sound prog_1_method_6_code 1 (some .boolean) ∈ lw_tbl := pm_in1 (List.mem_append_right _ (List.mem_append_left _ (List.mem_of_getElem? (i := 31) rfl)))
theorem yd_Lo_sound : pm_yd y_Lo_sound 0 := ⟨by decide +kernel, by decide +kernel, by decide +kernel⟩
theorem mj_Lo_sound : Cond.instanceMethod y_Lo_sound ∈ lw_tbl := pm_in1 (List.mem_append_right _ (List.mem_append_left _ (List.mem_of_getElem? (i := 29) rfl)))
theorem ms_Lo_sound : Cond.selects R_Lo y_Lo_sound y_Lo_sound ∈ lw_tbl := pm_in1 (List.mem_append_right _ (List.mem_append_left _ (List.mem_of_getElem? (i := 30) rfl)))
abbrev y_Lo_start : MethodName := ⟨R_Lo, "start", "(II)Z"⟩
theorem mc_Lo_start : Cond.code y_Lo_start prog_1_method_7_code 3 (some .boolean) ∈ lw_tbl := pm_in1 (List.mem_append_right _ (List.mem_append_left _ (List.mem_of_getElem? (i := 40) rfl)))
theorem yd_Lo_start : pm_yd y_Lo_start 2 := ⟨by decide +kernel, by decide +kernel, by decide +kernel⟩
theorem mj_Lo_start : Cond.instanceMethod y_Lo_start ∈ lw_tbl := pm_in1 (List.mem_append_right _ (List.mem_append_left _ (List.mem_of_getElem? (i := 38) rfl)))
theorem ms_Lo_start : Cond.selects R_Lo y_Lo_start y_Lo_start ∈ lw_tbl := pm_in1 (List.mem_append_right _ (List.mem_append_left _ (List.mem_of_getElem? (i := 39) rfl)))
abbrev y_Lo_step : MethodName := ⟨R_Lo, "step", "(I)I"⟩
theorem mc_Lo_step : Cond.code y_Lo_step prog_1_method_8_code 2 (some .int) ∈ lw_tbl := pm_in1 (List.mem_append_right _ (List.mem_append_left _ (List.mem_of_getElem? (i := 82) rfl)))
theorem yd_Lo_step : pm_yd y_Lo_step 1 := ⟨by decide +kernel, by decide +kernel, by decide +kernel⟩
theorem mj_Lo_step : Cond.instanceMethod y_Lo_step ∈ lw_tbl := pm_in1 (List.mem_append_right _ (List.mem_append_left _ (List.mem_of_getElem? (i := 80) rfl)))
theorem ms_Lo_step : Cond.selects R_Lo y_Lo_step y_Lo_step ∈ lw_tbl := pm_in1 (List.mem_append_right _ (List.mem_append_left _ (List.mem_of_getElem? (i := 81) rfl)))
abbrev y_Lo_has : MethodName := ⟨R_Lo, "has", "(I)I"⟩
theorem mc_Lo_has : Cond.code y_Lo_has prog_1_method_9_code 2 (some .int) ∈ lw_tbl := pm_in1 (List.mem_append_right _ (List.mem_append_left _ (List.mem_of_getElem? (i := 160) rfl)))
theorem yd_Lo_has : pm_yd y_Lo_has 1 := ⟨by decide +kernel, by decide +kernel, by decide +kernel⟩
theorem mj_Lo_has : Cond.instanceMethod y_Lo_has ∈ lw_tbl := pm_in1 (List.mem_append_right _ (List.mem_append_left _ (List.mem_of_getElem? (i := 158) rfl)))
theorem ms_Lo_has : Cond.selects R_Lo y_Lo_has y_Lo_has ∈ lw_tbl := pm_in1 (List.mem_append_right _ (List.mem_append_left _ (List.mem_of_getElem? (i := 159) rfl)))
abbrev y_Lo_cell : MethodName := ⟨R_Lo, "cell", "(I)I"⟩
theorem mc_Lo_cell : Cond.code y_Lo_cell prog_1_method_10_code 2 (some .int) ∈ lw_tbl := pm_in1 (List.mem_append_right _ (List.mem_append_left _ (List.mem_of_getElem? (i := 168) rfl)))
theorem yd_Lo_cell : pm_yd y_Lo_cell 1 := ⟨by decide +kernel, by decide +kernel, by decide +kernel⟩
theorem mj_Lo_cell : Cond.instanceMethod y_Lo_cell ∈ lw_tbl := pm_in1 (List.mem_append_right _ (List.mem_append_left _ (List.mem_of_getElem? (i := 166) rfl)))
theorem ms_Lo_cell : Cond.selects R_Lo y_Lo_cell y_Lo_cell ∈ lw_tbl := pm_in1 (List.mem_append_right _ (List.mem_append_left _ (List.mem_of_getElem? (i := 167) rfl)))
abbrev y_Lo_holder : MethodName := ⟨R_Lo, "holder", "(I)I"⟩
theorem mc_Lo_holder : Cond.code y_Lo_holder prog_1_method_11_code 2 (some .int) ∈ lw_tbl := pm_in1 (List.mem_append_right _ (List.mem_append_left _ (List.mem_of_getElem? (i := 176) rfl)))
theorem yd_Lo_holder : pm_yd y_Lo_holder 1 := ⟨by decide +kernel, by decide +kernel, by decide +kernel⟩
theorem mj_Lo_holder : Cond.instanceMethod y_Lo_holder ∈ lw_tbl := pm_in1 (List.mem_append_right _ (List.mem_append_left _ (List.mem_of_getElem? (i := 174) rfl)))
theorem ms_Lo_holder : Cond.selects R_Lo y_Lo_holder y_Lo_holder ∈ lw_tbl := pm_in1 (List.mem_append_right _ (List.mem_append_left _ (List.mem_of_getElem? (i := 175) rfl)))
abbrev y_Lo_state : MethodName := ⟨R_Lo, "state", "(I)I"⟩
theorem mc_Lo_state : Cond.code y_Lo_state prog_1_method_12_code 2 (some .int) ∈ lw_tbl := pm_in1 (List.mem_append_right _ (List.mem_append_left _ (List.mem_of_getElem? (i := 184) rfl)))
theorem yd_Lo_state : pm_yd y_Lo_state 1 := ⟨by decide +kernel, by decide +kernel, by decide +kernel⟩
theorem mj_Lo_state : Cond.instanceMethod y_Lo_state ∈ lw_tbl := pm_in1 (List.mem_append_right _ (List.mem_append_left _ (List.mem_of_getElem? (i := 182) rfl)))
theorem ms_Lo_state : Cond.selects R_Lo y_Lo_state y_Lo_state ∈ lw_tbl := pm_in1 (List.mem_append_right _ (List.mem_append_left _ (List.mem_of_getElem? (i := 183) rfl)))
abbrev y_Lo_count : MethodName := ⟨R_Lo, "count", "(I)I"⟩
theorem mc_Lo_count : Cond.code y_Lo_count prog_1_method_13_code 2 (some .int) ∈ lw_tbl := pm_in1 (List.mem_append_right _ (List.mem_append_left _ (List.mem_of_getElem? (i := 192) rfl)))
theorem yd_Lo_count : pm_yd y_Lo_count 1 := ⟨by decide +kernel, by decide +kernel, by decide +kernel⟩
theorem mj_Lo_count : Cond.instanceMethod y_Lo_count ∈ lw_tbl := pm_in1 (List.mem_append_right _ (List.mem_append_left _ (List.mem_of_getElem? (i := 190) rfl)))
theorem ms_Lo_count : Cond.selects R_Lo y_Lo_count y_Lo_count ∈ lw_tbl := pm_in1 (List.mem_append_right _ (List.mem_append_left _ (List.mem_of_getElem? (i := 191) rfl)))
abbrev y_Lo_race : MethodName := ⟨R_Lo, "race", "(II)I"⟩
theorem mc_Lo_race : Cond.code y_Lo_race prog_1_method_14_code 3 (some .int) ∈ lw_tbl := pm_in1 (List.mem_append_right _ (List.mem_append_left _ (List.mem_of_getElem? (i := 200) rfl)))
theorem yd_Lo_race : pm_yd y_Lo_race 2 := ⟨by decide +kernel, by decide +kernel, by decide +kernel⟩
theorem mj_Lo_race : Cond.instanceMethod y_Lo_race ∈ lw_tbl := pm_in1 (List.mem_append_right _ (List.mem_append_left _ (List.mem_of_getElem? (i := 198) rfl)))
theorem ms_Lo_race : Cond.selects R_Lo y_Lo_race y_Lo_race ∈ lw_tbl := pm_in1 (List.mem_append_right _ (List.mem_append_left _ (List.mem_of_getElem? (i := 199) rfl)))
abbrev y_Lo_stuck : MethodName := ⟨R_Lo, "stuck", "()Z"⟩
theorem mc_Lo_stuck : Cond.code y_Lo_stuck prog_1_method_15_code 1 (some .boolean) ∈ lw_tbl := pm_in1 (List.mem_append_right _ (List.mem_append_left _ (List.mem_of_getElem? (i := 216) rfl)))
theorem yd_Lo_stuck : pm_yd y_Lo_stuck 0 := ⟨by decide +kernel, by decide +kernel, by decide +kernel⟩
theorem mj_Lo_stuck : Cond.instanceMethod y_Lo_stuck ∈ lw_tbl := pm_in1 (List.mem_append_right _ (List.mem_append_left _ (List.mem_of_getElem? (i := 214) rfl)))
theorem ms_Lo_stuck : Cond.selects R_Lo y_Lo_stuck y_Lo_stuck ∈ lw_tbl := pm_in1 (List.mem_append_right _ (List.mem_append_left _ (List.mem_of_getElem? (i := 215) rfl)))
abbrev y_Sh_init : MethodName := ⟨R_Sh, "<init>", "()V"⟩
theorem mc_Sh_init : Cond.code y_Sh_init prog_7_method_1_code 2 (none) ∈ lw_tbl := pm_in1 (List.mem_append_left _ (List.mem_of_getElem? (i := 25) rfl))
theorem yd_Sh_init : pm_yd y_Sh_init 0 := ⟨by decide +kernel, by decide +kernel, by decide +kernel⟩
theorem mj_Sh_init : Cond.instanceMethod y_Sh_init ∈ lw_tbl := pm_in1 (List.mem_append_left _ (List.mem_of_getElem? (i := 24) rfl))
abbrev y_Sh_addStatement : MethodName := ⟨R_Sh, "addStatement", "(II)I"⟩
theorem mc_Sh_addStatement : Cond.code y_Sh_addStatement prog_7_method_3_code 3 (some .int) ∈ lw_tbl := pm_in1 (List.mem_append_left _ (List.mem_of_getElem? (i := 208) rfl))
theorem yd_Sh_addStatement : pm_yd y_Sh_addStatement 2 := ⟨by decide +kernel, by decide +kernel, by decide +kernel⟩
theorem mj_Sh_addStatement : Cond.instanceMethod y_Sh_addStatement ∈ lw_tbl := pm_in1 (List.mem_append_left _ (List.mem_of_getElem? (i := 206) rfl))
theorem ms_Sh_addStatement : Cond.selects R_Sh y_Sh_addStatement y_Sh_addStatement ∈ lw_tbl := pm_in1 (List.mem_append_left _ (List.mem_of_getElem? (i := 207) rfl))
abbrev y_Sh_fits : MethodName := ⟨R_Sh, "fits", "(II)Z"⟩
theorem mc_Sh_fits : Cond.code y_Sh_fits prog_7_method_4_code 2 (some .boolean) ∈ lw_tbl := pm_in1 (List.mem_append_left _ (List.mem_of_getElem? (i := 211) rfl))
theorem yd_Sh_fits : pm_yd y_Sh_fits 2 := ⟨by decide +kernel, by decide +kernel, by decide +kernel⟩
theorem mt_Sh_fits : Cond.static y_Sh_fits ∈ lw_tbl := pm_in1 (List.mem_append_left _ (List.mem_of_getElem? (i := 210) rfl))
abbrev y_Sh_closeText : MethodName := ⟨R_Sh, "closeText", "(I)I"⟩
theorem mc_Sh_closeText : Cond.code y_Sh_closeText prog_7_method_5_code 3 (some .int) ∈ lw_tbl := pm_in1 (List.mem_append_left _ (List.mem_of_getElem? (i := 226) rfl))
theorem yd_Sh_closeText : pm_yd y_Sh_closeText 1 := ⟨by decide +kernel, by decide +kernel, by decide +kernel⟩
theorem mj_Sh_closeText : Cond.instanceMethod y_Sh_closeText ∈ lw_tbl := pm_in1 (List.mem_append_left _ (List.mem_of_getElem? (i := 224) rfl))
theorem ms_Sh_closeText : Cond.selects R_Sh y_Sh_closeText y_Sh_closeText ∈ lw_tbl := pm_in1 (List.mem_append_left _ (List.mem_of_getElem? (i := 225) rfl))
abbrev y_Sh_setGuard : MethodName := ⟨R_Sh, "setGuard", "(II)Z"⟩
theorem mc_Sh_setGuard : Cond.code y_Sh_setGuard prog_7_method_6_code 3 (some .boolean) ∈ lw_tbl := pm_in1 (List.mem_append_right _ (List.mem_append_left _ (List.mem_of_getElem? (i := 6) rfl)))
theorem yd_Sh_setGuard : pm_yd y_Sh_setGuard 2 := ⟨by decide +kernel, by decide +kernel, by decide +kernel⟩
theorem mj_Sh_setGuard : Cond.instanceMethod y_Sh_setGuard ∈ lw_tbl := pm_in1 (List.mem_append_right _ (List.mem_append_left _ (List.mem_of_getElem? (i := 4) rfl)))
theorem ms_Sh_setGuard : Cond.selects R_Sh y_Sh_setGuard y_Sh_setGuard ∈ lw_tbl := pm_in1 (List.mem_append_right _ (List.mem_append_left _ (List.mem_of_getElem? (i := 5) rfl)))
abbrev y_Sh_contains : MethodName := ⟨R_Sh, "contains", "(I)Z"⟩
theorem mc_Sh_contains : Cond.code y_Sh_contains prog_7_method_2_code 2 (some .boolean) ∈ lw_tbl := pm_in1 (List.mem_append_right _ (List.mem_append_left _ (List.mem_of_getElem? (i := 14) rfl)))
theorem yd_Sh_contains : pm_yd y_Sh_contains 1 := ⟨by decide +kernel, by decide +kernel, by decide +kernel⟩
theorem mj_Sh_contains : Cond.instanceMethod y_Sh_contains ∈ lw_tbl := pm_in1 (List.mem_append_right _ (List.mem_append_left _ (List.mem_of_getElem? (i := 12) rfl)))
theorem ms_Sh_contains : Cond.selects R_Sh y_Sh_contains y_Sh_contains ∈ lw_tbl := pm_in1 (List.mem_append_right _ (List.mem_append_left _ (List.mem_of_getElem? (i := 13) rfl)))
abbrev y_Sh_firstWrong : MethodName := ⟨R_Sh, "firstWrong", "(I)I"⟩
theorem mc_Sh_firstWrong : Cond.code y_Sh_firstWrong prog_7_method_7_code 4 (some .int) ∈ lw_tbl := pm_in1 (List.mem_append_right _ (List.mem_append_left _ (List.mem_of_getElem? (i := 18) rfl)))
theorem yd_Sh_firstWrong : pm_yd y_Sh_firstWrong 1 := ⟨by decide +kernel, by decide +kernel, by decide +kernel⟩
theorem mj_Sh_firstWrong : Cond.instanceMethod y_Sh_firstWrong ∈ lw_tbl := pm_in1 (List.mem_append_right _ (List.mem_append_left _ (List.mem_of_getElem? (i := 16) rfl)))
theorem ms_Sh_firstWrong : Cond.selects R_Sh y_Sh_firstWrong y_Sh_firstWrong ∈ lw_tbl := pm_in1 (List.mem_append_right _ (List.mem_append_left _ (List.mem_of_getElem? (i := 17) rfl)))
abbrev y_Sh_isRight : MethodName := ⟨R_Sh, "isRight", "(LLockLoom$Body;I)Z"⟩
theorem mc_Sh_isRight : Cond.code y_Sh_isRight prog_7_method_9_code 5 (some .boolean) ∈ lw_tbl := pm_in1 (List.mem_append_right _ (List.mem_append_left _ (List.mem_of_getElem? (i := 22) rfl)))
theorem yd_Sh_isRight : pm_yd y_Sh_isRight 2 := ⟨by decide +kernel, by decide +kernel, by decide +kernel⟩
theorem mj_Sh_isRight : Cond.instanceMethod y_Sh_isRight ∈ lw_tbl := pm_in1 (List.mem_append_right _ (List.mem_append_left _ (List.mem_of_getElem? (i := 21) rfl)))
theorem ms_Sh_isRight : Cond.selects R_Sh y_Sh_isRight y_Sh_isRight ∈ lw_tbl := pm_in0 (List.mem_of_getElem? (i := 1) rfl)
abbrev y_Sh_guardHeld : MethodName := ⟨R_Sh, "guardHeld", "(II)Z"⟩
theorem mc_Sh_guardHeld : Cond.code y_Sh_guardHeld prog_7_method_10_code 3 (some .boolean) ∈ lw_tbl := pm_in1 (List.mem_append_right _ (List.mem_append_left _ (List.mem_of_getElem? (i := 26) rfl)))
theorem yd_Sh_guardHeld : pm_yd y_Sh_guardHeld 2 := ⟨by decide +kernel, by decide +kernel, by decide +kernel⟩
theorem mj_Sh_guardHeld : Cond.instanceMethod y_Sh_guardHeld ∈ lw_tbl := pm_in1 (List.mem_append_right _ (List.mem_append_left _ (List.mem_of_getElem? (i := 25) rfl)))
theorem ms_Sh_guardHeld : Cond.selects R_Sh y_Sh_guardHeld y_Sh_guardHeld ∈ lw_tbl := pm_in0 (List.mem_of_getElem? (i := 2) rfl)
abbrev y_Sh_allRight : MethodName := ⟨R_Sh, "allRight", "()Z"⟩
theorem mc_Sh_allRight : Cond.code y_Sh_allRight prog_7_method_8_code 2 (some .boolean) ∈ lw_tbl := pm_in1 (List.mem_append_right _ (List.mem_append_left _ (List.mem_of_getElem? (i := 35) rfl)))
theorem yd_Sh_allRight : pm_yd y_Sh_allRight 0 := ⟨by decide +kernel, by decide +kernel, by decide +kernel⟩
theorem mj_Sh_allRight : Cond.instanceMethod y_Sh_allRight ∈ lw_tbl := pm_in1 (List.mem_append_right _ (List.mem_append_left _ (List.mem_of_getElem? (i := 33) rfl)))
theorem ms_Sh_allRight : Cond.selects R_Sh y_Sh_allRight y_Sh_allRight ∈ lw_tbl := pm_in1 (List.mem_append_right _ (List.mem_append_left _ (List.mem_of_getElem? (i := 34) rfl)))
abbrev y_Bo_init : MethodName := ⟨R_Bo, "<init>", "()V"⟩
theorem mc_Bo_init : Cond.code y_Bo_init prog_2_method_1_code 1 (none) ∈ lw_tbl := pm_in1 (List.mem_append_left _ (List.mem_of_getElem? (i := 32) rfl))
theorem yd_Bo_init : pm_yd y_Bo_init 0 := ⟨by decide +kernel, by decide +kernel, by decide +kernel⟩
theorem mj_Bo_init : Cond.instanceMethod y_Bo_init ∈ lw_tbl := pm_in1 (List.mem_append_left _ (List.mem_of_getElem? (i := 31) rfl))
abbrev y_Bo_append : MethodName := ⟨R_Bo, "append", "(II)I"⟩
theorem mc_Bo_append : Cond.code y_Bo_append prog_2_method_3_code 3 (some .int) ∈ lw_tbl := pm_in1 (List.mem_append_left _ (List.mem_of_getElem? (i := 218) rfl))
theorem yd_Bo_append : pm_yd y_Bo_append 2 := ⟨by decide +kernel, by decide +kernel, by decide +kernel⟩
theorem mj_Bo_append : Cond.instanceMethod y_Bo_append ∈ lw_tbl := pm_in1 (List.mem_append_left _ (List.mem_of_getElem? (i := 216) rfl))
theorem ms_Bo_append : Cond.selects R_Bo y_Bo_append y_Bo_append ∈ lw_tbl := pm_in1 (List.mem_append_left _ (List.mem_of_getElem? (i := 217) rfl))
abbrev y_Bo_joinBlocks : MethodName := ⟨R_Bo, "joinBlocks", "(I)Z"⟩
theorem mc_Bo_joinBlocks : Cond.code y_Bo_joinBlocks prog_2_method_4_code 5 (some .boolean) ∈ lw_tbl := pm_in1 (List.mem_append_left _ (List.mem_of_getElem? (i := 230) rfl))
theorem yd_Bo_joinBlocks : pm_yd y_Bo_joinBlocks 1 := ⟨by decide +kernel, by decide +kernel, by decide +kernel⟩
theorem mj_Bo_joinBlocks : Cond.instanceMethod y_Bo_joinBlocks ∈ lw_tbl := pm_in1 (List.mem_append_left _ (List.mem_of_getElem? (i := 228) rfl))
theorem ms_Bo_joinBlocks : Cond.selects R_Bo y_Bo_joinBlocks y_Bo_joinBlocks ∈ lw_tbl := pm_in1 (List.mem_append_left _ (List.mem_of_getElem? (i := 229) rfl))
abbrev y_Bo_closeBlock : MethodName := ⟨R_Bo, "closeBlock", "(II)I"⟩
theorem mc_Bo_closeBlock : Cond.code y_Bo_closeBlock prog_2_method_5_code 4 (some .int) ∈ lw_tbl := pm_in1 (List.mem_append_left _ (List.mem_of_getElem? (i := 234) rfl))
theorem yd_Bo_closeBlock : pm_yd y_Bo_closeBlock 2 := ⟨by decide +kernel, by decide +kernel, by decide +kernel⟩
theorem mj_Bo_closeBlock : Cond.instanceMethod y_Bo_closeBlock ∈ lw_tbl := pm_in1 (List.mem_append_left _ (List.mem_of_getElem? (i := 233) rfl))
theorem ms_Bo_closeBlock : Cond.selects R_Bo y_Bo_closeBlock y_Bo_closeBlock ∈ lw_tbl := pm_in0 (List.mem_of_getElem? (i := 0) rfl)
abbrev y_Bo_clear : MethodName := ⟨R_Bo, "clear", "()V"⟩
theorem mc_Bo_clear : Cond.code y_Bo_clear prog_2_method_2_code 1 (none) ∈ lw_tbl := pm_in1 (List.mem_append_left _ (List.mem_of_getElem? (i := 238) rfl))
theorem yd_Bo_clear : pm_yd y_Bo_clear 0 := ⟨by decide +kernel, by decide +kernel, by decide +kernel⟩
theorem mj_Bo_clear : Cond.instanceMethod y_Bo_clear ∈ lw_tbl := pm_in1 (List.mem_append_left _ (List.mem_of_getElem? (i := 236) rfl))
theorem ms_Bo_clear : Cond.selects R_Bo y_Bo_clear y_Bo_clear ∈ lw_tbl := pm_in1 (List.mem_append_left _ (List.mem_of_getElem? (i := 237) rfl))
abbrev y_Ru_init : MethodName := ⟨R_Ru, "<init>", "(LLockLoom$Shelf;)V"⟩
theorem mc_Ru_init : Cond.code y_Ru_init prog_6_method_1_code 3 (none) ∈ lw_tbl := pm_in1 (List.mem_append_left _ (List.mem_of_getElem? (i := 84) rfl))
theorem yd_Ru_init : pm_yd y_Ru_init 1 := ⟨by decide +kernel, by decide +kernel, by decide +kernel⟩
theorem mj_Ru_init : Cond.instanceMethod y_Ru_init ∈ lw_tbl := pm_in1 (List.mem_append_left _ (List.mem_of_getElem? (i := 83) rfl))
abbrev y_Ru_begin : MethodName := ⟨R_Ru, "begin", "(II)V"⟩
theorem mc_Ru_begin : Cond.code y_Ru_begin prog_6_method_2_code 4 (none) ∈ lw_tbl := pm_in1 (List.mem_append_right _ (List.mem_append_left _ (List.mem_of_getElem? (i := 44) rfl)))
theorem yd_Ru_begin : pm_yd y_Ru_begin 2 := ⟨by decide +kernel, by decide +kernel, by decide +kernel⟩
theorem mj_Ru_begin : Cond.instanceMethod y_Ru_begin ∈ lw_tbl := pm_in1 (List.mem_append_right _ (List.mem_append_left _ (List.mem_of_getElem? (i := 42) rfl)))
theorem ms_Ru_begin : Cond.selects R_Ru y_Ru_begin y_Ru_begin ∈ lw_tbl := pm_in1 (List.mem_append_right _ (List.mem_append_left _ (List.mem_of_getElem? (i := 43) rfl)))
abbrev y_Ru_leaveEnded : MethodName := ⟨R_Ru, "leaveEnded", "(LLockLoom$Strand;)V"⟩
theorem mc_Ru_leaveEnded : Cond.code y_Ru_leaveEnded prog_6_method_6_code 2 (none) ∈ lw_tbl := pm_in1 (List.mem_append_right _ (List.mem_append_left _ (List.mem_of_getElem? (i := 71) rfl)))
theorem yd_Ru_leaveEnded : pm_yd y_Ru_leaveEnded 1 := ⟨by decide +kernel, by decide +kernel, by decide +kernel⟩
theorem mj_Ru_leaveEnded : Cond.instanceMethod y_Ru_leaveEnded ∈ lw_tbl := pm_in1 (List.mem_append_right _ (List.mem_append_left _ (List.mem_of_getElem? (i := 70) rfl)))
theorem ms_Ru_leaveEnded : Cond.selects R_Ru y_Ru_leaveEnded y_Ru_leaveEnded ∈ lw_tbl := pm_in0 (List.mem_of_getElem? (i := 3) rfl)
abbrev y_Ru_placeOf : MethodName := ⟨R_Ru, "placeOf", "(LLockLoom$Strand;)I"⟩
theorem mc_Ru_placeOf : Cond.code y_Ru_placeOf prog_6_method_5_code 1 (some .int) ∈ lw_tbl := pm_in1 (List.mem_append_right _ (List.mem_append_left _ (List.mem_of_getElem? (i := 74) rfl)))
theorem yd_Ru_placeOf : pm_yd y_Ru_placeOf 1 := ⟨by decide +kernel, by decide +kernel, by decide +kernel⟩
theorem mt_Ru_placeOf : Cond.static y_Ru_placeOf ∈ lw_tbl := pm_in1 (List.mem_append_right _ (List.mem_append_left _ (List.mem_of_getElem? (i := 73) rfl)))
abbrev y_Ru_bodyOf : MethodName := ⟨R_Ru, "bodyOf", "(LLockLoom$Strand;)LLockLoom$Body;"⟩
theorem mc_Ru_bodyOf : Cond.code y_Ru_bodyOf prog_6_method_4_code 2 (some (.object "LockLoom$Body")) ∈ lw_tbl := pm_in1 (List.mem_append_right _ (List.mem_append_left _ (List.mem_of_getElem? (i := 78) rfl)))
theorem yd_Ru_bodyOf : pm_yd y_Ru_bodyOf 1 := ⟨by decide +kernel, by decide +kernel, by decide +kernel⟩
theorem mj_Ru_bodyOf : Cond.instanceMethod y_Ru_bodyOf ∈ lw_tbl := pm_in1 (List.mem_append_right _ (List.mem_append_left _ (List.mem_of_getElem? (i := 77) rfl)))
theorem ms_Ru_bodyOf : Cond.selects R_Ru y_Ru_bodyOf y_Ru_bodyOf ∈ lw_tbl := pm_in0 (List.mem_of_getElem? (i := 4) rfl)
abbrev y_Ru_advance : MethodName := ⟨R_Ru, "advance", "(I)I"⟩
theorem mc_Ru_advance : Cond.code y_Ru_advance prog_6_method_3_code 3 (some .int) ∈ lw_tbl := pm_in1 (List.mem_append_right _ (List.mem_append_left _ (List.mem_of_getElem? (i := 86) rfl)))
theorem yd_Ru_advance : pm_yd y_Ru_advance 1 := ⟨by decide +kernel, by decide +kernel, by decide +kernel⟩
theorem mj_Ru_advance : Cond.instanceMethod y_Ru_advance ∈ lw_tbl := pm_in1 (List.mem_append_right _ (List.mem_append_left _ (List.mem_of_getElem? (i := 84) rfl)))
theorem ms_Ru_advance : Cond.selects R_Ru y_Ru_advance y_Ru_advance ∈ lw_tbl := pm_in1 (List.mem_append_right _ (List.mem_append_left _ (List.mem_of_getElem? (i := 85) rfl)))
abbrev y_Ru_wouldWait : MethodName := ⟨R_Ru, "wouldWait", "(LLockLoom$Strand;)Z"⟩
theorem mc_Ru_wouldWait : Cond.code y_Ru_wouldWait prog_6_method_7_code 4 (some .boolean) ∈ lw_tbl := pm_in1 (List.mem_append_right _ (List.mem_append_left _ (List.mem_of_getElem? (i := 95) rfl)))
theorem yd_Ru_wouldWait : pm_yd y_Ru_wouldWait 1 := ⟨by decide +kernel, by decide +kernel, by decide +kernel⟩
theorem mj_Ru_wouldWait : Cond.instanceMethod y_Ru_wouldWait ∈ lw_tbl := pm_in1 (List.mem_append_right _ (List.mem_append_left _ (List.mem_of_getElem? (i := 94) rfl)))
theorem ms_Ru_wouldWait : Cond.selects R_Ru y_Ru_wouldWait y_Ru_wouldWait ∈ lw_tbl := pm_in0 (List.mem_of_getElem? (i := 5) rfl)
abbrev y_Ru_perform : MethodName := ⟨R_Ru, "perform", "(LLockLoom$Strand;)V"⟩
theorem mc_Ru_perform : Cond.code y_Ru_perform prog_6_method_8_code 5 (none) ∈ lw_tbl := pm_in1 (List.mem_append_right _ (List.mem_append_left _ (List.mem_of_getElem? (i := 103) rfl)))
theorem yd_Ru_perform : pm_yd y_Ru_perform 1 := ⟨by decide +kernel, by decide +kernel, by decide +kernel⟩
theorem mj_Ru_perform : Cond.instanceMethod y_Ru_perform ∈ lw_tbl := pm_in1 (List.mem_append_right _ (List.mem_append_left _ (List.mem_of_getElem? (i := 102) rfl)))
theorem ms_Ru_perform : Cond.selects R_Ru y_Ru_perform y_Ru_perform ∈ lw_tbl := pm_in0 (List.mem_of_getElem? (i := 6) rfl)
abbrev y_Ru_readCell : MethodName := ⟨R_Ru, "readCell", "(LLockLoom$Strand;I)V"⟩
theorem mc_Ru_readCell : Cond.code y_Ru_readCell prog_6_method_9_code 3 (none) ∈ lw_tbl := pm_in1 (List.mem_append_right _ (List.mem_append_left _ (List.mem_of_getElem? (i := 111) rfl)))
theorem yd_Ru_readCell : pm_yd y_Ru_readCell 2 := ⟨by decide +kernel, by decide +kernel, by decide +kernel⟩
theorem mj_Ru_readCell : Cond.instanceMethod y_Ru_readCell ∈ lw_tbl := pm_in1 (List.mem_append_right _ (List.mem_append_left _ (List.mem_of_getElem? (i := 110) rfl)))
theorem ms_Ru_readCell : Cond.selects R_Ru y_Ru_readCell y_Ru_readCell ∈ lw_tbl := pm_in0 (List.mem_of_getElem? (i := 7) rfl)
abbrev y_Ru_noteRace : MethodName := ⟨R_Ru, "noteRace", "(LLockLoom$Strand;IZ)V"⟩
theorem mc_Ru_noteRace : Cond.code y_Ru_noteRace prog_6_method_11_code 4 (none) ∈ lw_tbl := pm_in1 (List.mem_append_right _ (List.mem_append_left _ (List.mem_of_getElem? (i := 115) rfl)))
theorem yd_Ru_noteRace : pm_yd y_Ru_noteRace 3 := ⟨by decide +kernel, by decide +kernel, by decide +kernel⟩
theorem mj_Ru_noteRace : Cond.instanceMethod y_Ru_noteRace ∈ lw_tbl := pm_in1 (List.mem_append_right _ (List.mem_append_left _ (List.mem_of_getElem? (i := 114) rfl)))
theorem ms_Ru_noteRace : Cond.selects R_Ru y_Ru_noteRace y_Ru_noteRace ∈ lw_tbl := pm_in0 (List.mem_of_getElem? (i := 8) rfl)
abbrev y_Ru_writeCell : MethodName := ⟨R_Ru, "writeCell", "(LLockLoom$Strand;I)V"⟩
theorem mc_Ru_writeCell : Cond.code y_Ru_writeCell prog_6_method_10_code 3 (none) ∈ lw_tbl := pm_in1 (List.mem_append_right _ (List.mem_append_left _ (List.mem_of_getElem? (i := 127) rfl)))
theorem yd_Ru_writeCell : pm_yd y_Ru_writeCell 2 := ⟨by decide +kernel, by decide +kernel, by decide +kernel⟩
theorem mj_Ru_writeCell : Cond.instanceMethod y_Ru_writeCell ∈ lw_tbl := pm_in1 (List.mem_append_right _ (List.mem_append_left _ (List.mem_of_getElem? (i := 126) rfl)))
theorem ms_Ru_writeCell : Cond.selects R_Ru y_Ru_writeCell y_Ru_writeCell ∈ lw_tbl := pm_in0 (List.mem_of_getElem? (i := 9) rfl)
abbrev y_Ru_endBlock : MethodName := ⟨R_Ru, "endBlock", "(LLockLoom$Strand;LLockLoom$Body;I)V"⟩
theorem mc_Ru_endBlock : Cond.code y_Ru_endBlock prog_6_method_12_code 4 (none) ∈ lw_tbl := pm_in1 (List.mem_append_right _ (List.mem_append_left _ (List.mem_of_getElem? (i := 142) rfl)))
theorem yd_Ru_endBlock : pm_yd y_Ru_endBlock 3 := ⟨by decide +kernel, by decide +kernel, by decide +kernel⟩
theorem mj_Ru_endBlock : Cond.instanceMethod y_Ru_endBlock ∈ lw_tbl := pm_in1 (List.mem_append_right _ (List.mem_append_left _ (List.mem_of_getElem? (i := 141) rfl)))
theorem ms_Ru_endBlock : Cond.selects R_Ru y_Ru_endBlock y_Ru_endBlock ∈ lw_tbl := pm_in0 (List.mem_of_getElem? (i := 10) rfl)
abbrev y_Ru_fork : MethodName := ⟨R_Ru, "fork", "(LLockLoom$Strand;I)V"⟩
theorem mc_Ru_fork : Cond.code y_Ru_fork prog_6_method_13_code 4 (none) ∈ lw_tbl := pm_in1 (List.mem_append_right _ (List.mem_append_left _ (List.mem_of_getElem? (i := 153) rfl)))
theorem yd_Ru_fork : pm_yd y_Ru_fork 2 := ⟨by decide +kernel, by decide +kernel, by decide +kernel⟩
theorem mj_Ru_fork : Cond.instanceMethod y_Ru_fork ∈ lw_tbl := pm_in1 (List.mem_append_right _ (List.mem_append_left _ (List.mem_of_getElem? (i := 152) rfl)))
theorem ms_Ru_fork : Cond.selects R_Ru y_Ru_fork y_Ru_fork ∈ lw_tbl := pm_in0 (List.mem_of_getElem? (i := 11) rfl)
abbrev y_Ru_valueOf : MethodName := ⟨R_Ru, "valueOf", "(I)I"⟩
theorem mc_Ru_valueOf : Cond.code y_Ru_valueOf prog_6_method_14_code 2 (some .int) ∈ lw_tbl := pm_in1 (List.mem_append_right _ (List.mem_append_left _ (List.mem_of_getElem? (i := 164) rfl)))
theorem yd_Ru_valueOf : pm_yd y_Ru_valueOf 1 := ⟨by decide +kernel, by decide +kernel, by decide +kernel⟩
theorem mj_Ru_valueOf : Cond.instanceMethod y_Ru_valueOf ∈ lw_tbl := pm_in1 (List.mem_append_right _ (List.mem_append_left _ (List.mem_of_getElem? (i := 162) rfl)))
theorem ms_Ru_valueOf : Cond.selects R_Ru y_Ru_valueOf y_Ru_valueOf ∈ lw_tbl := pm_in1 (List.mem_append_right _ (List.mem_append_left _ (List.mem_of_getElem? (i := 163) rfl)))
abbrev y_Ru_contentOf : MethodName := ⟨R_Ru, "contentOf", "(I)I"⟩
theorem mc_Ru_contentOf : Cond.code y_Ru_contentOf prog_6_method_15_code 2 (some .int) ∈ lw_tbl := pm_in1 (List.mem_append_right _ (List.mem_append_left _ (List.mem_of_getElem? (i := 172) rfl)))
theorem yd_Ru_contentOf : pm_yd y_Ru_contentOf 1 := ⟨by decide +kernel, by decide +kernel, by decide +kernel⟩
theorem mj_Ru_contentOf : Cond.instanceMethod y_Ru_contentOf ∈ lw_tbl := pm_in1 (List.mem_append_right _ (List.mem_append_left _ (List.mem_of_getElem? (i := 170) rfl)))
theorem ms_Ru_contentOf : Cond.selects R_Ru y_Ru_contentOf y_Ru_contentOf ∈ lw_tbl := pm_in1 (List.mem_append_right _ (List.mem_append_left _ (List.mem_of_getElem? (i := 171) rfl)))
abbrev y_Ru_holderOf : MethodName := ⟨R_Ru, "holderOf", "(I)I"⟩
theorem mc_Ru_holderOf : Cond.code y_Ru_holderOf prog_6_method_16_code 2 (some .int) ∈ lw_tbl := pm_in1 (List.mem_append_right _ (List.mem_append_left _ (List.mem_of_getElem? (i := 180) rfl)))
theorem yd_Ru_holderOf : pm_yd y_Ru_holderOf 1 := ⟨by decide +kernel, by decide +kernel, by decide +kernel⟩
theorem mj_Ru_holderOf : Cond.instanceMethod y_Ru_holderOf ∈ lw_tbl := pm_in1 (List.mem_append_right _ (List.mem_append_left _ (List.mem_of_getElem? (i := 178) rfl)))
theorem ms_Ru_holderOf : Cond.selects R_Ru y_Ru_holderOf y_Ru_holderOf ∈ lw_tbl := pm_in1 (List.mem_append_right _ (List.mem_append_left _ (List.mem_of_getElem? (i := 179) rfl)))
abbrev y_Ru_stateOf : MethodName := ⟨R_Ru, "stateOf", "(I)I"⟩
theorem mc_Ru_stateOf : Cond.code y_Ru_stateOf prog_6_method_17_code 2 (some .int) ∈ lw_tbl := pm_in1 (List.mem_append_right _ (List.mem_append_left _ (List.mem_of_getElem? (i := 188) rfl)))
theorem yd_Ru_stateOf : pm_yd y_Ru_stateOf 1 := ⟨by decide +kernel, by decide +kernel, by decide +kernel⟩
theorem mj_Ru_stateOf : Cond.instanceMethod y_Ru_stateOf ∈ lw_tbl := pm_in1 (List.mem_append_right _ (List.mem_append_left _ (List.mem_of_getElem? (i := 186) rfl)))
theorem ms_Ru_stateOf : Cond.selects R_Ru y_Ru_stateOf y_Ru_stateOf ∈ lw_tbl := pm_in1 (List.mem_append_right _ (List.mem_append_left _ (List.mem_of_getElem? (i := 187) rfl)))
abbrev y_Ru_countOf : MethodName := ⟨R_Ru, "countOf", "(I)I"⟩
theorem mc_Ru_countOf : Cond.code y_Ru_countOf prog_6_method_18_code 2 (some .int) ∈ lw_tbl := pm_in1 (List.mem_append_right _ (List.mem_append_left _ (List.mem_of_getElem? (i := 196) rfl)))
theorem yd_Ru_countOf : pm_yd y_Ru_countOf 1 := ⟨by decide +kernel, by decide +kernel, by decide +kernel⟩
theorem mj_Ru_countOf : Cond.instanceMethod y_Ru_countOf ∈ lw_tbl := pm_in1 (List.mem_append_right _ (List.mem_append_left _ (List.mem_of_getElem? (i := 194) rfl)))
theorem ms_Ru_countOf : Cond.selects R_Ru y_Ru_countOf y_Ru_countOf ∈ lw_tbl := pm_in1 (List.mem_append_right _ (List.mem_append_left _ (List.mem_of_getElem? (i := 195) rfl)))
abbrev y_Ru_racePart : MethodName := ⟨R_Ru, "racePart", "(II)I"⟩
theorem mc_Ru_racePart : Cond.code y_Ru_racePart prog_6_method_19_code 3 (some .int) ∈ lw_tbl := pm_in1 (List.mem_append_right _ (List.mem_append_left _ (List.mem_of_getElem? (i := 204) rfl)))
theorem yd_Ru_racePart : pm_yd y_Ru_racePart 2 := ⟨by decide +kernel, by decide +kernel, by decide +kernel⟩
theorem mj_Ru_racePart : Cond.instanceMethod y_Ru_racePart ∈ lw_tbl := pm_in1 (List.mem_append_right _ (List.mem_append_left _ (List.mem_of_getElem? (i := 202) rfl)))
theorem ms_Ru_racePart : Cond.selects R_Ru y_Ru_racePart y_Ru_racePart ∈ lw_tbl := pm_in1 (List.mem_append_right _ (List.mem_append_left _ (List.mem_of_getElem? (i := 203) rfl)))
abbrev y_Ru_isStuck : MethodName := ⟨R_Ru, "isStuck", "()Z"⟩
theorem mc_Ru_isStuck : Cond.code y_Ru_isStuck prog_6_method_20_code 4 (some .boolean) ∈ lw_tbl := pm_in1 (List.mem_append_right _ (List.mem_append_left _ (List.mem_of_getElem? (i := 220) rfl)))
theorem yd_Ru_isStuck : pm_yd y_Ru_isStuck 0 := ⟨by decide +kernel, by decide +kernel, by decide +kernel⟩
theorem mj_Ru_isStuck : Cond.instanceMethod y_Ru_isStuck ∈ lw_tbl := pm_in1 (List.mem_append_right _ (List.mem_append_left _ (List.mem_of_getElem? (i := 218) rfl)))
theorem ms_Ru_isStuck : Cond.selects R_Ru y_Ru_isStuck y_Ru_isStuck ∈ lw_tbl := pm_in1 (List.mem_append_right _ (List.mem_append_left _ (List.mem_of_getElem? (i := 219) rfl)))
abbrev y_Rl_init : MethodName := ⟨R_Rl, "<init>", "()V"⟩
theorem mc_Rl_init : Cond.code y_Rl_init prog_5_method_1_code 1 (none) ∈ lw_tbl := pm_in1 (List.mem_append_left _ (List.mem_of_getElem? (i := 96) rfl))
theorem yd_Rl_init : pm_yd y_Rl_init 0 := ⟨by decide +kernel, by decide +kernel, by decide +kernel⟩
theorem mj_Rl_init : Cond.instanceMethod y_Rl_init ∈ lw_tbl := pm_in1 (List.mem_append_left _ (List.mem_of_getElem? (i := 95) rfl))
abbrev y_Rl_clear : MethodName := ⟨R_Rl, "clear", "()V"⟩
theorem mc_Rl_clear : Cond.code y_Rl_clear prog_5_method_2_code 1 (none) ∈ lw_tbl := pm_in1 (List.mem_append_right _ (List.mem_append_left _ (List.mem_of_getElem? (i := 58) rfl)))
theorem yd_Rl_clear : pm_yd y_Rl_clear 0 := ⟨by decide +kernel, by decide +kernel, by decide +kernel⟩
theorem mj_Rl_clear : Cond.instanceMethod y_Rl_clear ∈ lw_tbl := pm_in1 (List.mem_append_right _ (List.mem_append_left _ (List.mem_of_getElem? (i := 56) rfl)))
theorem ms_Rl_clear : Cond.selects R_Rl y_Rl_clear y_Rl_clear ∈ lw_tbl := pm_in1 (List.mem_append_right _ (List.mem_append_left _ (List.mem_of_getElem? (i := 57) rfl)))
abbrev y_Rl_add : MethodName := ⟨R_Rl, "add", "(IIIZ)V"⟩
theorem mc_Rl_add : Cond.code y_Rl_add prog_5_method_3_code 6 (none) ∈ lw_tbl := pm_in1 (List.mem_append_right _ (List.mem_append_left _ (List.mem_of_getElem? (i := 123) rfl)))
theorem yd_Rl_add : pm_yd y_Rl_add 4 := ⟨by decide +kernel, by decide +kernel, by decide +kernel⟩
theorem mj_Rl_add : Cond.instanceMethod y_Rl_add ∈ lw_tbl := pm_in1 (List.mem_append_right _ (List.mem_append_left _ (List.mem_of_getElem? (i := 121) rfl)))
theorem ms_Rl_add : Cond.selects R_Rl y_Rl_add y_Rl_add ∈ lw_tbl := pm_in1 (List.mem_append_right _ (List.mem_append_left _ (List.mem_of_getElem? (i := 122) rfl)))
abbrev y_Rl_part : MethodName := ⟨R_Rl, "part", "(II)I"⟩
theorem mc_Rl_part : Cond.code y_Rl_part prog_5_method_4_code 4 (some .int) ∈ lw_tbl := pm_in1 (List.mem_append_right _ (List.mem_append_left _ (List.mem_of_getElem? (i := 208) rfl)))
theorem yd_Rl_part : pm_yd y_Rl_part 2 := ⟨by decide +kernel, by decide +kernel, by decide +kernel⟩
theorem mj_Rl_part : Cond.instanceMethod y_Rl_part ∈ lw_tbl := pm_in1 (List.mem_append_right _ (List.mem_append_left _ (List.mem_of_getElem? (i := 206) rfl)))
theorem ms_Rl_part : Cond.selects R_Rl y_Rl_part y_Rl_part ∈ lw_tbl := pm_in1 (List.mem_append_right _ (List.mem_append_left _ (List.mem_of_getElem? (i := 207) rfl)))
abbrev y_Sd_init : MethodName := ⟨R_Sd, "<init>", "(I)V"⟩
theorem mc_Sd_init : Cond.code y_Sd_init prog_8_method_1_code 2 (none) ∈ lw_tbl := pm_in1 (List.mem_append_left _ (List.mem_of_getElem? (i := 109) rfl))
theorem yd_Sd_init : pm_yd y_Sd_init 1 := ⟨by decide +kernel, by decide +kernel, by decide +kernel⟩
theorem mj_Sd_init : Cond.instanceMethod y_Sd_init ∈ lw_tbl := pm_in1 (List.mem_append_left _ (List.mem_of_getElem? (i := 108) rfl))
abbrev y_Sd_begin : MethodName := ⟨R_Sd, "begin", "(II)V"⟩
theorem mc_Sd_begin : Cond.code y_Sd_begin prog_8_method_2_code 3 (none) ∈ lw_tbl := pm_in1 (List.mem_append_right _ (List.mem_append_left _ (List.mem_of_getElem? (i := 63) rfl)))
theorem yd_Sd_begin : pm_yd y_Sd_begin 2 := ⟨by decide +kernel, by decide +kernel, by decide +kernel⟩
theorem mj_Sd_begin : Cond.instanceMethod y_Sd_begin ∈ lw_tbl := pm_in1 (List.mem_append_right _ (List.mem_append_left _ (List.mem_of_getElem? (i := 61) rfl)))
theorem ms_Sd_begin : Cond.selects R_Sd y_Sd_begin y_Sd_begin ∈ lw_tbl := pm_in1 (List.mem_append_right _ (List.mem_append_left _ (List.mem_of_getElem? (i := 62) rfl)))
abbrev y_Sd_enter : MethodName := ⟨R_Sd, "enter", "(I)V"⟩
theorem mc_Sd_enter : Cond.code y_Sd_enter prog_8_method_3_code 2 (none) ∈ lw_tbl := pm_in1 (List.mem_append_right _ (List.mem_append_left _ (List.mem_of_getElem? (i := 67) rfl)))
theorem yd_Sd_enter : pm_yd y_Sd_enter 1 := ⟨by decide +kernel, by decide +kernel, by decide +kernel⟩
theorem mj_Sd_enter : Cond.instanceMethod y_Sd_enter ∈ lw_tbl := pm_in1 (List.mem_append_right _ (List.mem_append_left _ (List.mem_of_getElem? (i := 65) rfl)))
theorem ms_Sd_enter : Cond.selects R_Sd y_Sd_enter y_Sd_enter ∈ lw_tbl := pm_in1 (List.mem_append_right _ (List.mem_append_left _ (List.mem_of_getElem? (i := 66) rfl)))
abbrev y_Sd_isDone : MethodName := ⟨R_Sd, "isDone", "()Z"⟩
theorem mc_Sd_isDone : Cond.code y_Sd_isDone prog_8_method_4_code 1 (some .boolean) ∈ lw_tbl := pm_in1 (List.mem_append_right _ (List.mem_append_left _ (List.mem_of_getElem? (i := 91) rfl)))
theorem yd_Sd_isDone : pm_yd y_Sd_isDone 0 := ⟨by decide +kernel, by decide +kernel, by decide +kernel⟩
theorem mj_Sd_isDone : Cond.instanceMethod y_Sd_isDone ∈ lw_tbl := pm_in1 (List.mem_append_right _ (List.mem_append_left _ (List.mem_of_getElem? (i := 89) rfl)))
theorem ms_Sd_isDone : Cond.selects R_Sd y_Sd_isDone y_Sd_isDone ∈ lw_tbl := pm_in1 (List.mem_append_right _ (List.mem_append_left _ (List.mem_of_getElem? (i := 90) rfl)))
abbrev y_Sd_moveTo : MethodName := ⟨R_Sd, "moveTo", "(I)V"⟩
theorem mc_Sd_moveTo : Cond.code y_Sd_moveTo prog_8_method_5_code 2 (none) ∈ lw_tbl := pm_in1 (List.mem_append_right _ (List.mem_append_left _ (List.mem_of_getElem? (i := 107) rfl)))
theorem yd_Sd_moveTo : pm_yd y_Sd_moveTo 1 := ⟨by decide +kernel, by decide +kernel, by decide +kernel⟩
theorem mj_Sd_moveTo : Cond.instanceMethod y_Sd_moveTo ∈ lw_tbl := pm_in1 (List.mem_append_right _ (List.mem_append_left _ (List.mem_of_getElem? (i := 105) rfl)))
theorem ms_Sd_moveTo : Cond.selects R_Sd y_Sd_moveTo y_Sd_moveTo ∈ lw_tbl := pm_in1 (List.mem_append_right _ (List.mem_append_left _ (List.mem_of_getElem? (i := 106) rfl)))
abbrev y_Sd_learn : MethodName := ⟨R_Sd, "learn", "([I)V"⟩
theorem mc_Sd_learn : Cond.code y_Sd_learn prog_8_method_6_code 3 (none) ∈ lw_tbl := pm_in1 (List.mem_append_right _ (List.mem_append_left _ (List.mem_of_getElem? (i := 135) rfl)))
theorem yd_Sd_learn : pm_yd y_Sd_learn 1 := ⟨by decide +kernel, by decide +kernel, by decide +kernel⟩
theorem mj_Sd_learn : Cond.instanceMethod y_Sd_learn ∈ lw_tbl := pm_in1 (List.mem_append_right _ (List.mem_append_left _ (List.mem_of_getElem? (i := 133) rfl)))
theorem ms_Sd_learn : Cond.selects R_Sd y_Sd_learn y_Sd_learn ∈ lw_tbl := pm_in1 (List.mem_append_right _ (List.mem_append_left _ (List.mem_of_getElem? (i := 134) rfl)))
abbrev y_Lk_init : MethodName := ⟨R_Lk, "<init>", "()V"⟩
theorem mc_Lk_init : Cond.code y_Lk_init prog_4_method_1_code 1 (none) ∈ lw_tbl := pm_in1 (List.mem_append_left _ (List.mem_of_getElem? (i := 141) rfl))
theorem yd_Lk_init : pm_yd y_Lk_init 0 := ⟨by decide +kernel, by decide +kernel, by decide +kernel⟩
theorem mj_Lk_init : Cond.instanceMethod y_Lk_init ∈ lw_tbl := pm_in1 (List.mem_append_left _ (List.mem_of_getElem? (i := 140) rfl))
abbrev y_Lk_clear : MethodName := ⟨R_Lk, "clear", "()V"⟩
theorem mc_Lk_clear : Cond.code y_Lk_clear prog_4_method_2_code 1 (none) ∈ lw_tbl := pm_in1 (List.mem_append_right _ (List.mem_append_left _ (List.mem_of_getElem? (i := 48) rfl)))
theorem yd_Lk_clear : pm_yd y_Lk_clear 0 := ⟨by decide +kernel, by decide +kernel, by decide +kernel⟩
theorem mj_Lk_clear : Cond.instanceMethod y_Lk_clear ∈ lw_tbl := pm_in1 (List.mem_append_right _ (List.mem_append_left _ (List.mem_of_getElem? (i := 46) rfl)))
theorem ms_Lk_clear : Cond.selects R_Lk y_Lk_clear y_Lk_clear ∈ lw_tbl := pm_in1 (List.mem_append_right _ (List.mem_append_left _ (List.mem_of_getElem? (i := 47) rfl)))
abbrev y_Lk_refuses : MethodName := ⟨R_Lk, "refuses", "(LLockLoom$Strand;)Z"⟩
theorem mc_Lk_refuses : Cond.code y_Lk_refuses prog_4_method_3_code 2 (some .boolean) ∈ lw_tbl := pm_in1 (List.mem_append_right _ (List.mem_append_left _ (List.mem_of_getElem? (i := 99) rfl)))
theorem yd_Lk_refuses : pm_yd y_Lk_refuses 1 := ⟨by decide +kernel, by decide +kernel, by decide +kernel⟩
theorem mj_Lk_refuses : Cond.instanceMethod y_Lk_refuses ∈ lw_tbl := pm_in1 (List.mem_append_right _ (List.mem_append_left _ (List.mem_of_getElem? (i := 97) rfl)))
theorem ms_Lk_refuses : Cond.selects R_Lk y_Lk_refuses y_Lk_refuses ∈ lw_tbl := pm_in1 (List.mem_append_right _ (List.mem_append_left _ (List.mem_of_getElem? (i := 98) rfl)))
abbrev y_Lk_take : MethodName := ⟨R_Lk, "take", "(LLockLoom$Strand;)V"⟩
theorem mc_Lk_take : Cond.code y_Lk_take prog_4_method_4_code 2 (none) ∈ lw_tbl := pm_in1 (List.mem_append_right _ (List.mem_append_left _ (List.mem_of_getElem? (i := 131) rfl)))
theorem yd_Lk_take : pm_yd y_Lk_take 1 := ⟨by decide +kernel, by decide +kernel, by decide +kernel⟩
theorem mj_Lk_take : Cond.instanceMethod y_Lk_take ∈ lw_tbl := pm_in1 (List.mem_append_right _ (List.mem_append_left _ (List.mem_of_getElem? (i := 129) rfl)))
theorem ms_Lk_take : Cond.selects R_Lk y_Lk_take y_Lk_take ∈ lw_tbl := pm_in1 (List.mem_append_right _ (List.mem_append_left _ (List.mem_of_getElem? (i := 130) rfl)))
abbrev y_Lk_release : MethodName := ⟨R_Lk, "release", "(LLockLoom$Strand;)V"⟩
theorem mc_Lk_release : Cond.code y_Lk_release prog_4_method_5_code 2 (none) ∈ lw_tbl := pm_in1 (List.mem_append_right _ (List.mem_append_left _ (List.mem_of_getElem? (i := 146) rfl)))
theorem yd_Lk_release : pm_yd y_Lk_release 1 := ⟨by decide +kernel, by decide +kernel, by decide +kernel⟩
theorem mj_Lk_release : Cond.instanceMethod y_Lk_release ∈ lw_tbl := pm_in1 (List.mem_append_right _ (List.mem_append_left _ (List.mem_of_getElem? (i := 144) rfl)))
theorem ms_Lk_release : Cond.selects R_Lk y_Lk_release y_Lk_release ∈ lw_tbl := pm_in1 (List.mem_append_right _ (List.mem_append_left _ (List.mem_of_getElem? (i := 145) rfl)))
abbrev y_Ce_init : MethodName := ⟨R_Ce, "<init>", "()V"⟩
theorem mc_Ce_init : Cond.code y_Ce_init prog_3_method_1_code 1 (none) ∈ lw_tbl := pm_in1 (List.mem_append_left _ (List.mem_of_getElem? (i := 157) rfl))
theorem yd_Ce_init : pm_yd y_Ce_init 0 := ⟨by decide +kernel, by decide +kernel, by decide +kernel⟩
theorem mj_Ce_init : Cond.instanceMethod y_Ce_init ∈ lw_tbl := pm_in1 (List.mem_append_left _ (List.mem_of_getElem? (i := 156) rfl))
abbrev y_Ce_clear : MethodName := ⟨R_Ce, "clear", "()V"⟩
theorem mc_Ce_clear : Cond.code y_Ce_clear prog_3_method_2_code 1 (none) ∈ lw_tbl := pm_in1 (List.mem_append_right _ (List.mem_append_left _ (List.mem_of_getElem? (i := 53) rfl)))
theorem yd_Ce_clear : pm_yd y_Ce_clear 0 := ⟨by decide +kernel, by decide +kernel, by decide +kernel⟩
theorem mj_Ce_clear : Cond.instanceMethod y_Ce_clear ∈ lw_tbl := pm_in1 (List.mem_append_right _ (List.mem_append_left _ (List.mem_of_getElem? (i := 51) rfl)))
theorem ms_Ce_clear : Cond.selects R_Ce y_Ce_clear y_Ce_clear ∈ lw_tbl := pm_in1 (List.mem_append_right _ (List.mem_append_left _ (List.mem_of_getElem? (i := 52) rfl)))
abbrev y_Ce_races : MethodName := ⟨R_Ce, "races", "([IZ)Z"⟩
theorem mc_Ce_races : Cond.code y_Ce_races prog_3_method_3_code 4 (some .boolean) ∈ lw_tbl := pm_in1 (List.mem_append_right _ (List.mem_append_left _ (List.mem_of_getElem? (i := 119) rfl)))
theorem yd_Ce_races : pm_yd y_Ce_races 2 := ⟨by decide +kernel, by decide +kernel, by decide +kernel⟩
theorem mj_Ce_races : Cond.instanceMethod y_Ce_races ∈ lw_tbl := pm_in1 (List.mem_append_right _ (List.mem_append_left _ (List.mem_of_getElem? (i := 117) rfl)))
theorem ms_Ce_races : Cond.selects R_Ce y_Ce_races y_Ce_races ∈ lw_tbl := pm_in1 (List.mem_append_right _ (List.mem_append_left _ (List.mem_of_getElem? (i := 118) rfl)))
abbrev y_Mo_init : MethodName := ⟨R_Mo, "<init>", "()V"⟩
theorem mc_Mo_init : Cond.code y_Mo_init prog_10_method_1_code 2 (none) ∈ lw_tbl := pm_in1 (List.mem_append_right _ (List.mem_append_left _ (List.mem_of_getElem? (i := 226) rfl)))
theorem yd_Mo_init : pm_yd y_Mo_init 0 := ⟨by decide +kernel, by decide +kernel, by decide +kernel⟩
theorem mj_Mo_init : Cond.instanceMethod y_Mo_init ∈ lw_tbl := pm_in1 (List.mem_append_right _ (List.mem_append_left _ (List.mem_of_getElem? (i := 225) rfl)))
abbrev y_Mo_statement : MethodName := ⟨R_Mo, "statement", "(II)I"⟩
theorem mc_Mo_statement : Cond.code y_Mo_statement prog_10_method_3_code 4 (some .int) ∈ lw_tbl := pm_in1 (List.mem_append_right _ (List.mem_append_right _ (List.mem_of_getElem? (i := 65) rfl)))
theorem yd_Mo_statement : pm_yd y_Mo_statement 2 := ⟨by decide +kernel, by decide +kernel, by decide +kernel⟩
theorem mj_Mo_statement : Cond.instanceMethod y_Mo_statement ∈ lw_tbl := pm_in1 (List.mem_append_right _ (List.mem_append_right _ (List.mem_of_getElem? (i := 63) rfl)))
theorem ms_Mo_statement : Cond.selects R_Mo y_Mo_statement y_Mo_statement ∈ lw_tbl := pm_in1 (List.mem_append_right _ (List.mem_append_right _ (List.mem_of_getElem? (i := 64) rfl)))
abbrev y_Mo_isIn : MethodName := ⟨R_Mo, "isIn", "(II)Z"⟩
theorem mc_Mo_isIn : Cond.code y_Mo_isIn prog_10_method_2_code 2 (some .boolean) ∈ lw_tbl := pm_in1 (List.mem_append_right _ (List.mem_append_right _ (List.mem_of_getElem? (i := 68) rfl)))
theorem yd_Mo_isIn : pm_yd y_Mo_isIn 2 := ⟨by decide +kernel, by decide +kernel, by decide +kernel⟩
theorem mt_Mo_isIn : Cond.static y_Mo_isIn ∈ lw_tbl := pm_in1 (List.mem_append_right _ (List.mem_append_right _ (List.mem_of_getElem? (i := 67) rfl)))
abbrev y_Mo_body : MethodName := ⟨R_Mo, "body", "(I)I"⟩
theorem mc_Mo_body : Cond.code y_Mo_body prog_10_method_10_code 4 (some .int) ∈ lw_tbl := pm_in1 (List.mem_append_right _ (List.mem_append_right _ (List.mem_of_getElem? (i := 72) rfl)))
theorem yd_Mo_body : pm_yd y_Mo_body 1 := ⟨by decide +kernel, by decide +kernel, by decide +kernel⟩
theorem mj_Mo_body : Cond.instanceMethod y_Mo_body ∈ lw_tbl := pm_in1 (List.mem_append_right _ (List.mem_append_right _ (List.mem_of_getElem? (i := 70) rfl)))
theorem ms_Mo_body : Cond.selects R_Mo y_Mo_body y_Mo_body ∈ lw_tbl := pm_in1 (List.mem_append_right _ (List.mem_append_right _ (List.mem_of_getElem? (i := 71) rfl)))
abbrev y_Mo_isWhole : MethodName := ⟨R_Mo, "isWhole", "()Z"⟩
theorem mc_Mo_isWhole : Cond.code y_Mo_isWhole prog_10_method_9_code 5 (some .boolean) ∈ lw_tbl := pm_in1 (List.mem_append_right _ (List.mem_append_right _ (List.mem_of_getElem? (i := 76) rfl)))
theorem yd_Mo_isWhole : pm_yd y_Mo_isWhole 0 := ⟨by decide +kernel, by decide +kernel, by decide +kernel⟩
theorem mj_Mo_isWhole : Cond.instanceMethod y_Mo_isWhole ∈ lw_tbl := pm_in1 (List.mem_append_right _ (List.mem_append_right _ (List.mem_of_getElem? (i := 75) rfl)))
theorem ms_Mo_isWhole : Cond.selects R_Mo y_Mo_isWhole y_Mo_isWhole ∈ lw_tbl := pm_in0 (List.mem_of_getElem? (i := 12) rfl)
abbrev y_Mo_kindAt : MethodName := ⟨R_Mo, "kindAt", "(II)I"⟩
theorem mc_Mo_kindAt : Cond.code y_Mo_kindAt prog_10_method_4_code 3 (some .int) ∈ lw_tbl := pm_in1 (List.mem_append_right _ (List.mem_append_right _ (List.mem_of_getElem? (i := 80) rfl)))
theorem yd_Mo_kindAt : pm_yd y_Mo_kindAt 2 := ⟨by decide +kernel, by decide +kernel, by decide +kernel⟩
theorem mj_Mo_kindAt : Cond.instanceMethod y_Mo_kindAt ∈ lw_tbl := pm_in1 (List.mem_append_right _ (List.mem_append_right _ (List.mem_of_getElem? (i := 79) rfl)))
theorem ms_Mo_kindAt : Cond.selects R_Mo y_Mo_kindAt y_Mo_kindAt ∈ lw_tbl := pm_in0 (List.mem_of_getElem? (i := 13) rfl)
abbrev y_Mo_openerOf : MethodName := ⟨R_Mo, "openerOf", "(II)I"⟩
theorem mc_Mo_openerOf : Cond.code y_Mo_openerOf prog_10_method_7_code 5 (some .int) ∈ lw_tbl := pm_in1 (List.mem_append_right _ (List.mem_append_right _ (List.mem_of_getElem? (i := 84) rfl)))
theorem yd_Mo_openerOf : pm_yd y_Mo_openerOf 2 := ⟨by decide +kernel, by decide +kernel, by decide +kernel⟩
theorem mj_Mo_openerOf : Cond.instanceMethod y_Mo_openerOf ∈ lw_tbl := pm_in1 (List.mem_append_right _ (List.mem_append_right _ (List.mem_of_getElem? (i := 83) rfl)))
theorem ms_Mo_openerOf : Cond.selects R_Mo y_Mo_openerOf y_Mo_openerOf ∈ lw_tbl := pm_in0 (List.mem_of_getElem? (i := 14) rfl)
abbrev y_Mo_opens : MethodName := ⟨R_Mo, "opens", "(I)Z"⟩
theorem mc_Mo_opens : Cond.code y_Mo_opens prog_10_method_6_code 1 (some .boolean) ∈ lw_tbl := pm_in1 (List.mem_append_right _ (List.mem_append_right _ (List.mem_of_getElem? (i := 87) rfl)))
theorem yd_Mo_opens : pm_yd y_Mo_opens 1 := ⟨by decide +kernel, by decide +kernel, by decide +kernel⟩
theorem mt_Mo_opens : Cond.static y_Mo_opens ∈ lw_tbl := pm_in1 (List.mem_append_right _ (List.mem_append_right _ (List.mem_of_getElem? (i := 86) rfl)))
abbrev y_Mo_closerOf : MethodName := ⟨R_Mo, "closerOf", "(IIZ)I"⟩
theorem mc_Mo_closerOf : Cond.code y_Mo_closerOf prog_10_method_8_code 7 (some .int) ∈ lw_tbl := pm_in1 (List.mem_append_right _ (List.mem_append_right _ (List.mem_of_getElem? (i := 91) rfl)))
theorem yd_Mo_closerOf : pm_yd y_Mo_closerOf 3 := ⟨by decide +kernel, by decide +kernel, by decide +kernel⟩
theorem mj_Mo_closerOf : Cond.instanceMethod y_Mo_closerOf ∈ lw_tbl := pm_in1 (List.mem_append_right _ (List.mem_append_right _ (List.mem_of_getElem? (i := 90) rfl)))
theorem ms_Mo_closerOf : Cond.selects R_Mo y_Mo_closerOf y_Mo_closerOf ∈ lw_tbl := pm_in0 (List.mem_of_getElem? (i := 15) rfl)
abbrev y_Mo_numberAt : MethodName := ⟨R_Mo, "numberAt", "(II)I"⟩
theorem mc_Mo_numberAt : Cond.code y_Mo_numberAt prog_10_method_5_code 3 (some .int) ∈ lw_tbl := pm_in1 (List.mem_append_right _ (List.mem_append_right _ (List.mem_of_getElem? (i := 95) rfl)))
theorem yd_Mo_numberAt : pm_yd y_Mo_numberAt 2 := ⟨by decide +kernel, by decide +kernel, by decide +kernel⟩
theorem mj_Mo_numberAt : Cond.instanceMethod y_Mo_numberAt ∈ lw_tbl := pm_in1 (List.mem_append_right _ (List.mem_append_right _ (List.mem_of_getElem? (i := 94) rfl)))
theorem ms_Mo_numberAt : Cond.selects R_Mo y_Mo_numberAt y_Mo_numberAt ∈ lw_tbl := pm_in0 (List.mem_of_getElem? (i := 16) rfl)
abbrev y_Mo_guard : MethodName := ⟨R_Mo, "guard", "(II)Z"⟩
theorem mc_Mo_guard : Cond.code y_Mo_guard prog_10_method_11_code 3 (some .boolean) ∈ lw_tbl := pm_in1 (List.mem_append_right _ (List.mem_append_right _ (List.mem_of_getElem? (i := 99) rfl)))
theorem yd_Mo_guard : pm_yd y_Mo_guard 2 := ⟨by decide +kernel, by decide +kernel, by decide +kernel⟩
theorem mj_Mo_guard : Cond.instanceMethod y_Mo_guard ∈ lw_tbl := pm_in1 (List.mem_append_right _ (List.mem_append_right _ (List.mem_of_getElem? (i := 97) rfl)))
theorem ms_Mo_guard : Cond.selects R_Mo y_Mo_guard y_Mo_guard ∈ lw_tbl := pm_in1 (List.mem_append_right _ (List.mem_append_right _ (List.mem_of_getElem? (i := 98) rfl)))
abbrev y_Mo_check : MethodName := ⟨R_Mo, "check", "(I)I"⟩
theorem mc_Mo_check : Cond.code y_Mo_check prog_10_method_14_code 3 (some .int) ∈ lw_tbl := pm_in1 (List.mem_append_right _ (List.mem_append_right _ (List.mem_of_getElem? (i := 103) rfl)))
theorem yd_Mo_check : pm_yd y_Mo_check 1 := ⟨by decide +kernel, by decide +kernel, by decide +kernel⟩
theorem mj_Mo_check : Cond.instanceMethod y_Mo_check ∈ lw_tbl := pm_in1 (List.mem_append_right _ (List.mem_append_right _ (List.mem_of_getElem? (i := 101) rfl)))
theorem ms_Mo_check : Cond.selects R_Mo y_Mo_check y_Mo_check ∈ lw_tbl := pm_in1 (List.mem_append_right _ (List.mem_append_right _ (List.mem_of_getElem? (i := 102) rfl)))
abbrev y_Mo_isRight : MethodName := ⟨R_Mo, "isRight", "(II)Z"⟩
theorem mc_Mo_isRight : Cond.code y_Mo_isRight prog_10_method_13_code 6 (some .boolean) ∈ lw_tbl := pm_in1 (List.mem_append_right _ (List.mem_append_right _ (List.mem_of_getElem? (i := 107) rfl)))
theorem yd_Mo_isRight : pm_yd y_Mo_isRight 2 := ⟨by decide +kernel, by decide +kernel, by decide +kernel⟩
theorem mj_Mo_isRight : Cond.instanceMethod y_Mo_isRight ∈ lw_tbl := pm_in1 (List.mem_append_right _ (List.mem_append_right _ (List.mem_of_getElem? (i := 106) rfl)))
theorem ms_Mo_isRight : Cond.selects R_Mo y_Mo_isRight y_Mo_isRight ∈ lw_tbl := pm_in0 (List.mem_of_getElem? (i := 17) rfl)
abbrev y_Mo_heldAt : MethodName := ⟨R_Mo, "heldAt", "(II)I"⟩
theorem mc_Mo_heldAt : Cond.code y_Mo_heldAt prog_10_method_12_code 5 (some .int) ∈ lw_tbl := pm_in1 (List.mem_append_right _ (List.mem_append_right _ (List.mem_of_getElem? (i := 111) rfl)))
theorem yd_Mo_heldAt : pm_yd y_Mo_heldAt 2 := ⟨by decide +kernel, by decide +kernel, by decide +kernel⟩
theorem mj_Mo_heldAt : Cond.instanceMethod y_Mo_heldAt ∈ lw_tbl := pm_in1 (List.mem_append_right _ (List.mem_append_right _ (List.mem_of_getElem? (i := 110) rfl)))
theorem ms_Mo_heldAt : Cond.selects R_Mo y_Mo_heldAt y_Mo_heldAt ∈ lw_tbl := pm_in0 (List.mem_of_getElem? (i := 18) rfl)
abbrev y_Mo_sound : MethodName := ⟨R_Mo, "sound", "()Z"⟩
theorem mc_Mo_sound : Cond.code y_Mo_sound prog_10_method_15_code 2 (some .boolean) ∈ lw_tbl := pm_in1 (List.mem_append_right _ (List.mem_append_right _ (List.mem_of_getElem? (i := 115) rfl)))
theorem yd_Mo_sound : pm_yd y_Mo_sound 0 := ⟨by decide +kernel, by decide +kernel, by decide +kernel⟩
theorem mj_Mo_sound : Cond.instanceMethod y_Mo_sound ∈ lw_tbl := pm_in1 (List.mem_append_right _ (List.mem_append_right _ (List.mem_of_getElem? (i := 113) rfl)))
theorem ms_Mo_sound : Cond.selects R_Mo y_Mo_sound y_Mo_sound ∈ lw_tbl := pm_in1 (List.mem_append_right _ (List.mem_append_right _ (List.mem_of_getElem? (i := 114) rfl)))
abbrev y_Mo_start : MethodName := ⟨R_Mo, "start", "(II)Z"⟩
theorem mc_Mo_start : Cond.code y_Mo_start prog_10_method_19_code 4 (some .boolean) ∈ lw_tbl := pm_in1 (List.mem_append_right _ (List.mem_append_right _ (List.mem_of_getElem? (i := 120) rfl)))
theorem yd_Mo_start : pm_yd y_Mo_start 2 := ⟨by decide +kernel, by decide +kernel, by decide +kernel⟩
theorem mj_Mo_start : Cond.instanceMethod y_Mo_start ∈ lw_tbl := pm_in1 (List.mem_append_right _ (List.mem_append_right _ (List.mem_of_getElem? (i := 118) rfl)))
theorem ms_Mo_start : Cond.selects R_Mo y_Mo_start y_Mo_start ∈ lw_tbl := pm_in1 (List.mem_append_right _ (List.mem_append_right _ (List.mem_of_getElem? (i := 119) rfl)))
abbrev y_Mo_begin : MethodName := ⟨R_Mo, "begin", "(III)V"⟩
theorem mc_Mo_begin : Cond.code y_Mo_begin prog_10_method_18_code 4 (none) ∈ lw_tbl := pm_in1 (List.mem_append_right _ (List.mem_append_right _ (List.mem_of_getElem? (i := 124) rfl)))
theorem yd_Mo_begin : pm_yd y_Mo_begin 3 := ⟨by decide +kernel, by decide +kernel, by decide +kernel⟩
theorem mj_Mo_begin : Cond.instanceMethod y_Mo_begin ∈ lw_tbl := pm_in1 (List.mem_append_right _ (List.mem_append_right _ (List.mem_of_getElem? (i := 123) rfl)))
theorem ms_Mo_begin : Cond.selects R_Mo y_Mo_begin y_Mo_begin ∈ lw_tbl := pm_in0 (List.mem_of_getElem? (i := 19) rfl)
abbrev y_Mo_enter : MethodName := ⟨R_Mo, "enter", "(II)V"⟩
theorem mc_Mo_enter : Cond.code y_Mo_enter prog_10_method_16_code 3 (none) ∈ lw_tbl := pm_in1 (List.mem_append_right _ (List.mem_append_right _ (List.mem_of_getElem? (i := 128) rfl)))
theorem yd_Mo_enter : pm_yd y_Mo_enter 2 := ⟨by decide +kernel, by decide +kernel, by decide +kernel⟩
theorem mj_Mo_enter : Cond.instanceMethod y_Mo_enter ∈ lw_tbl := pm_in1 (List.mem_append_right _ (List.mem_append_right _ (List.mem_of_getElem? (i := 127) rfl)))
theorem ms_Mo_enter : Cond.selects R_Mo y_Mo_enter y_Mo_enter ∈ lw_tbl := pm_in0 (List.mem_of_getElem? (i := 20) rfl)
abbrev y_Mo_leave : MethodName := ⟨R_Mo, "leave", "(I)V"⟩
theorem mc_Mo_leave : Cond.code y_Mo_leave prog_10_method_17_code 3 (none) ∈ lw_tbl := pm_in1 (List.mem_append_right _ (List.mem_append_right _ (List.mem_of_getElem? (i := 132) rfl)))
theorem yd_Mo_leave : pm_yd y_Mo_leave 1 := ⟨by decide +kernel, by decide +kernel, by decide +kernel⟩
theorem mj_Mo_leave : Cond.instanceMethod y_Mo_leave ∈ lw_tbl := pm_in1 (List.mem_append_right _ (List.mem_append_right _ (List.mem_of_getElem? (i := 131) rfl)))
theorem ms_Mo_leave : Cond.selects R_Mo y_Mo_leave y_Mo_leave ∈ lw_tbl := pm_in0 (List.mem_of_getElem? (i := 21) rfl)
abbrev y_Mo_step : MethodName := ⟨R_Mo, "step", "(I)I"⟩
theorem mc_Mo_step : Cond.code y_Mo_step prog_10_method_22_code 4 (some .int) ∈ lw_tbl := pm_in1 (List.mem_append_right _ (List.mem_append_right _ (List.mem_of_getElem? (i := 136) rfl)))
theorem yd_Mo_step : pm_yd y_Mo_step 1 := ⟨by decide +kernel, by decide +kernel, by decide +kernel⟩
theorem mj_Mo_step : Cond.instanceMethod y_Mo_step ∈ lw_tbl := pm_in1 (List.mem_append_right _ (List.mem_append_right _ (List.mem_of_getElem? (i := 134) rfl)))
theorem ms_Mo_step : Cond.selects R_Mo y_Mo_step y_Mo_step ∈ lw_tbl := pm_in1 (List.mem_append_right _ (List.mem_append_right _ (List.mem_of_getElem? (i := 135) rfl)))
abbrev y_Mo_isThread : MethodName := ⟨R_Mo, "isThread", "(I)Z"⟩
theorem mc_Mo_isThread : Cond.code y_Mo_isThread prog_10_method_20_code 2 (some .boolean) ∈ lw_tbl := pm_in1 (List.mem_append_right _ (List.mem_append_right _ (List.mem_of_getElem? (i := 140) rfl)))
theorem yd_Mo_isThread : pm_yd y_Mo_isThread 1 := ⟨by decide +kernel, by decide +kernel, by decide +kernel⟩
theorem mj_Mo_isThread : Cond.instanceMethod y_Mo_isThread ∈ lw_tbl := pm_in1 (List.mem_append_right _ (List.mem_append_right _ (List.mem_of_getElem? (i := 139) rfl)))
theorem ms_Mo_isThread : Cond.selects R_Mo y_Mo_isThread y_Mo_isThread ∈ lw_tbl := pm_in0 (List.mem_of_getElem? (i := 22) rfl)
abbrev y_Mo_waitsFor : MethodName := ⟨R_Mo, "waitsFor", "(I)I"⟩
theorem mc_Mo_waitsFor : Cond.code y_Mo_waitsFor prog_10_method_21_code 4 (some .int) ∈ lw_tbl := pm_in1 (List.mem_append_right _ (List.mem_append_right _ (List.mem_of_getElem? (i := 144) rfl)))
theorem yd_Mo_waitsFor : pm_yd y_Mo_waitsFor 1 := ⟨by decide +kernel, by decide +kernel, by decide +kernel⟩
theorem mj_Mo_waitsFor : Cond.instanceMethod y_Mo_waitsFor ∈ lw_tbl := pm_in1 (List.mem_append_right _ (List.mem_append_right _ (List.mem_of_getElem? (i := 143) rfl)))
theorem ms_Mo_waitsFor : Cond.selects R_Mo y_Mo_waitsFor y_Mo_waitsFor ∈ lw_tbl := pm_in0 (List.mem_of_getElem? (i := 23) rfl)
abbrev y_Mo_does : MethodName := ⟨R_Mo, "does", "(III)V"⟩
theorem mc_Mo_does : Cond.code y_Mo_does prog_10_method_23_code 6 (none) ∈ lw_tbl := pm_in1 (List.mem_append_right _ (List.mem_append_right _ (List.mem_of_getElem? (i := 148) rfl)))
theorem yd_Mo_does : pm_yd y_Mo_does 3 := ⟨by decide +kernel, by decide +kernel, by decide +kernel⟩
theorem mj_Mo_does : Cond.instanceMethod y_Mo_does ∈ lw_tbl := pm_in1 (List.mem_append_right _ (List.mem_append_right _ (List.mem_of_getElem? (i := 147) rfl)))
theorem ms_Mo_does : Cond.selects R_Mo y_Mo_does y_Mo_does ∈ lw_tbl := pm_in0 (List.mem_of_getElem? (i := 24) rfl)
abbrev y_Mo_meets : MethodName := ⟨R_Mo, "meets", "(III)V"⟩
theorem mc_Mo_meets : Cond.code y_Mo_meets prog_10_method_27_code 7 (none) ∈ lw_tbl := pm_in1 (List.mem_append_right _ (List.mem_append_right _ (List.mem_of_getElem? (i := 152) rfl)))
theorem yd_Mo_meets : pm_yd y_Mo_meets 3 := ⟨by decide +kernel, by decide +kernel, by decide +kernel⟩
theorem mj_Mo_meets : Cond.instanceMethod y_Mo_meets ∈ lw_tbl := pm_in1 (List.mem_append_right _ (List.mem_append_right _ (List.mem_of_getElem? (i := 151) rfl)))
theorem ms_Mo_meets : Cond.selects R_Mo y_Mo_meets y_Mo_meets ∈ lw_tbl := pm_in0 (List.mem_of_getElem? (i := 25) rfl)
abbrev y_Mo_mark : MethodName := ⟨R_Mo, "mark", "()V"⟩
theorem mc_Mo_mark : Cond.code y_Mo_mark prog_10_method_26_code 2 (none) ∈ lw_tbl := pm_in1 (List.mem_append_right _ (List.mem_append_right _ (List.mem_of_getElem? (i := 156) rfl)))
theorem yd_Mo_mark : pm_yd y_Mo_mark 0 := ⟨by decide +kernel, by decide +kernel, by decide +kernel⟩
theorem mj_Mo_mark : Cond.instanceMethod y_Mo_mark ∈ lw_tbl := pm_in1 (List.mem_append_right _ (List.mem_append_right _ (List.mem_of_getElem? (i := 155) rfl)))
theorem ms_Mo_mark : Cond.selects R_Mo y_Mo_mark y_Mo_mark ∈ lw_tbl := pm_in0 (List.mem_of_getElem? (i := 26) rfl)
abbrev y_Mo_takes : MethodName := ⟨R_Mo, "takes", "(II)V"⟩
theorem mc_Mo_takes : Cond.code y_Mo_takes prog_10_method_24_code 3 (none) ∈ lw_tbl := pm_in1 (List.mem_append_right _ (List.mem_append_right _ (List.mem_of_getElem? (i := 160) rfl)))
theorem yd_Mo_takes : pm_yd y_Mo_takes 2 := ⟨by decide +kernel, by decide +kernel, by decide +kernel⟩
theorem mj_Mo_takes : Cond.instanceMethod y_Mo_takes ∈ lw_tbl := pm_in1 (List.mem_append_right _ (List.mem_append_right _ (List.mem_of_getElem? (i := 159) rfl)))
theorem ms_Mo_takes : Cond.selects R_Mo y_Mo_takes y_Mo_takes ∈ lw_tbl := pm_in0 (List.mem_of_getElem? (i := 27) rfl)
abbrev y_Mo_ends : MethodName := ⟨R_Mo, "ends", "(III)V"⟩
theorem mc_Mo_ends : Cond.code y_Mo_ends prog_10_method_25_code 6 (none) ∈ lw_tbl := pm_in1 (List.mem_append_right _ (List.mem_append_right _ (List.mem_of_getElem? (i := 164) rfl)))
theorem yd_Mo_ends : pm_yd y_Mo_ends 3 := ⟨by decide +kernel, by decide +kernel, by decide +kernel⟩
theorem mj_Mo_ends : Cond.instanceMethod y_Mo_ends ∈ lw_tbl := pm_in1 (List.mem_append_right _ (List.mem_append_right _ (List.mem_of_getElem? (i := 163) rfl)))
theorem ms_Mo_ends : Cond.selects R_Mo y_Mo_ends y_Mo_ends ∈ lw_tbl := pm_in0 (List.mem_of_getElem? (i := 28) rfl)
abbrev y_Mo_has : MethodName := ⟨R_Mo, "has", "(I)I"⟩
theorem mc_Mo_has : Cond.code y_Mo_has prog_10_method_28_code 2 (some .int) ∈ lw_tbl := pm_in1 (List.mem_append_right _ (List.mem_append_right _ (List.mem_of_getElem? (i := 168) rfl)))
theorem yd_Mo_has : pm_yd y_Mo_has 1 := ⟨by decide +kernel, by decide +kernel, by decide +kernel⟩
theorem mj_Mo_has : Cond.instanceMethod y_Mo_has ∈ lw_tbl := pm_in1 (List.mem_append_right _ (List.mem_append_right _ (List.mem_of_getElem? (i := 166) rfl)))
theorem ms_Mo_has : Cond.selects R_Mo y_Mo_has y_Mo_has ∈ lw_tbl := pm_in1 (List.mem_append_right _ (List.mem_append_right _ (List.mem_of_getElem? (i := 167) rfl)))
abbrev y_Mo_cell : MethodName := ⟨R_Mo, "cell", "(I)I"⟩
theorem mc_Mo_cell : Cond.code y_Mo_cell prog_10_method_29_code 2 (some .int) ∈ lw_tbl := pm_in1 (List.mem_append_right _ (List.mem_append_right _ (List.mem_of_getElem? (i := 172) rfl)))
theorem yd_Mo_cell : pm_yd y_Mo_cell 1 := ⟨by decide +kernel, by decide +kernel, by decide +kernel⟩
theorem mj_Mo_cell : Cond.instanceMethod y_Mo_cell ∈ lw_tbl := pm_in1 (List.mem_append_right _ (List.mem_append_right _ (List.mem_of_getElem? (i := 170) rfl)))
theorem ms_Mo_cell : Cond.selects R_Mo y_Mo_cell y_Mo_cell ∈ lw_tbl := pm_in1 (List.mem_append_right _ (List.mem_append_right _ (List.mem_of_getElem? (i := 171) rfl)))
abbrev y_Mo_holder : MethodName := ⟨R_Mo, "holder", "(I)I"⟩
theorem mc_Mo_holder : Cond.code y_Mo_holder prog_10_method_30_code 2 (some .int) ∈ lw_tbl := pm_in1 (List.mem_append_right _ (List.mem_append_right _ (List.mem_of_getElem? (i := 176) rfl)))
theorem yd_Mo_holder : pm_yd y_Mo_holder 1 := ⟨by decide +kernel, by decide +kernel, by decide +kernel⟩
theorem mj_Mo_holder : Cond.instanceMethod y_Mo_holder ∈ lw_tbl := pm_in1 (List.mem_append_right _ (List.mem_append_right _ (List.mem_of_getElem? (i := 174) rfl)))
theorem ms_Mo_holder : Cond.selects R_Mo y_Mo_holder y_Mo_holder ∈ lw_tbl := pm_in1 (List.mem_append_right _ (List.mem_append_right _ (List.mem_of_getElem? (i := 175) rfl)))
abbrev y_Mo_state : MethodName := ⟨R_Mo, "state", "(I)I"⟩
theorem mc_Mo_state : Cond.code y_Mo_state prog_10_method_31_code 2 (some .int) ∈ lw_tbl := pm_in1 (List.mem_append_right _ (List.mem_append_right _ (List.mem_of_getElem? (i := 180) rfl)))
theorem yd_Mo_state : pm_yd y_Mo_state 1 := ⟨by decide +kernel, by decide +kernel, by decide +kernel⟩
theorem mj_Mo_state : Cond.instanceMethod y_Mo_state ∈ lw_tbl := pm_in1 (List.mem_append_right _ (List.mem_append_right _ (List.mem_of_getElem? (i := 178) rfl)))
theorem ms_Mo_state : Cond.selects R_Mo y_Mo_state y_Mo_state ∈ lw_tbl := pm_in1 (List.mem_append_right _ (List.mem_append_right _ (List.mem_of_getElem? (i := 179) rfl)))
abbrev y_Mo_count : MethodName := ⟨R_Mo, "count", "(I)I"⟩
theorem mc_Mo_count : Cond.code y_Mo_count prog_10_method_32_code 2 (some .int) ∈ lw_tbl := pm_in1 (List.mem_append_right _ (List.mem_append_right _ (List.mem_of_getElem? (i := 184) rfl)))
theorem yd_Mo_count : pm_yd y_Mo_count 1 := ⟨by decide +kernel, by decide +kernel, by decide +kernel⟩
theorem mj_Mo_count : Cond.instanceMethod y_Mo_count ∈ lw_tbl := pm_in1 (List.mem_append_right _ (List.mem_append_right _ (List.mem_of_getElem? (i := 182) rfl)))
theorem ms_Mo_count : Cond.selects R_Mo y_Mo_count y_Mo_count ∈ lw_tbl := pm_in1 (List.mem_append_right _ (List.mem_append_right _ (List.mem_of_getElem? (i := 183) rfl)))
abbrev y_Mo_race : MethodName := ⟨R_Mo, "race", "(II)I"⟩
theorem mc_Mo_race : Cond.code y_Mo_race prog_10_method_33_code 4 (some .int) ∈ lw_tbl := pm_in1 (List.mem_append_right _ (List.mem_append_right _ (List.mem_of_getElem? (i := 188) rfl)))
theorem yd_Mo_race : pm_yd y_Mo_race 2 := ⟨by decide +kernel, by decide +kernel, by decide +kernel⟩
theorem mj_Mo_race : Cond.instanceMethod y_Mo_race ∈ lw_tbl := pm_in1 (List.mem_append_right _ (List.mem_append_right _ (List.mem_of_getElem? (i := 186) rfl)))
theorem ms_Mo_race : Cond.selects R_Mo y_Mo_race y_Mo_race ∈ lw_tbl := pm_in1 (List.mem_append_right _ (List.mem_append_right _ (List.mem_of_getElem? (i := 187) rfl)))
abbrev y_Mo_stuck : MethodName := ⟨R_Mo, "stuck", "()Z"⟩
theorem mc_Mo_stuck : Cond.code y_Mo_stuck prog_10_method_34_code 3 (some .boolean) ∈ lw_tbl := pm_in1 (List.mem_append_right _ (List.mem_append_right _ (List.mem_of_getElem? (i := 192) rfl)))
theorem yd_Mo_stuck : pm_yd y_Mo_stuck 0 := ⟨by decide +kernel, by decide +kernel, by decide +kernel⟩
theorem mj_Mo_stuck : Cond.instanceMethod y_Mo_stuck ∈ lw_tbl := pm_in1 (List.mem_append_right _ (List.mem_append_right _ (List.mem_of_getElem? (i := 190) rfl)))
theorem ms_Mo_stuck : Cond.selects R_Mo y_Mo_stuck y_Mo_stuck ∈ lw_tbl := pm_in1 (List.mem_append_right _ (List.mem_append_right _ (List.mem_of_getElem? (i := 191) rfl)))
abbrev y_Ar_fill : MethodName := ⟨R_Ar, "fill", "([II)V"⟩
theorem mc_Ar_fill : Cond.code y_Ar_fill prog_13_method_103_code 4 (none) ∈ lw_tbl := pm_in1 (List.mem_append_left _ (List.mem_of_getElem? (i := 65) rfl))
theorem yd_Ar_fill : pm_yd y_Ar_fill 2 := ⟨by decide +kernel, by decide +kernel, by decide +kernel⟩
theorem mt_Ar_fill : Cond.static y_Ar_fill ∈ lw_tbl := pm_in1 (List.mem_append_left _ (List.mem_of_getElem? (i := 64) rfl))
theorem mi_Lo : Cond.initialized R_Lo ∈ lw_tbl := pm_in1 (List.mem_append_left _ (List.mem_of_getElem? (i := 1) rfl))
theorem mi_Sh : Cond.initialized R_Sh ∈ lw_tbl := pm_in1 (List.mem_append_left _ (List.mem_of_getElem? (i := 2) rfl))
theorem mi_Bo : Cond.initialized R_Bo ∈ lw_tbl := pm_in1 (List.mem_append_left _ (List.mem_of_getElem? (i := 3) rfl))
theorem mi_Ru : Cond.initialized R_Ru ∈ lw_tbl := pm_in1 (List.mem_append_left _ (List.mem_of_getElem? (i := 5) rfl))
theorem mi_Rl : Cond.initialized R_Rl ∈ lw_tbl := pm_in1 (List.mem_append_left _ (List.mem_of_getElem? (i := 6) rfl))
theorem mi_Sd : Cond.initialized R_Sd ∈ lw_tbl := pm_in1 (List.mem_append_left _ (List.mem_of_getElem? (i := 7) rfl))
theorem mi_Lk : Cond.initialized R_Lk ∈ lw_tbl := pm_in1 (List.mem_append_left _ (List.mem_of_getElem? (i := 8) rfl))
theorem mi_Ce : Cond.initialized R_Ce ∈ lw_tbl := pm_in1 (List.mem_append_left _ (List.mem_of_getElem? (i := 9) rfl))
theorem mi_Mo : Cond.initialized R_Mo ∈ lw_tbl := pm_in1 (List.mem_append_left _ (List.mem_of_getElem? (i := 10) rfl))
theorem mi_Ar : Cond.initialized R_Ar ∈ lw_tbl := pm_in1 (List.mem_append_left _ (List.mem_of_getElem? (i := 4) rfl))
def pm_Y (k : Nat) : pm_N := match k with
  | 0 => (y_Lo_init, prog_1_method_1_code, 1, none)
  | 1 => (y_Lo_statement, prog_1_method_2_code, 3, some .int)
  | 2 => (y_Lo_isBelow, prog_1_method_16_code, 2, some .boolean)
  | 3 => (y_Lo_body, prog_1_method_3_code, 2, some .int)
  | 4 => (y_Lo_guard, prog_1_method_4_code, 3, some .boolean)
  | 5 => (y_Lo_check, prog_1_method_5_code, 2, some .int)
  | 6 => (y_Lo_sound, prog_1_method_6_code, 1, some .boolean)
  | 7 => (y_Lo_start, prog_1_method_7_code, 3, some .boolean)
  | 8 => (y_Lo_step, prog_1_method_8_code, 2, some .int)
  | 9 => (y_Lo_has, prog_1_method_9_code, 2, some .int)
  | 10 => (y_Lo_cell, prog_1_method_10_code, 2, some .int)
  | 11 => (y_Lo_holder, prog_1_method_11_code, 2, some .int)
  | 12 => (y_Lo_state, prog_1_method_12_code, 2, some .int)
  | 13 => (y_Lo_count, prog_1_method_13_code, 2, some .int)
  | 14 => (y_Lo_race, prog_1_method_14_code, 3, some .int)
  | 15 => (y_Lo_stuck, prog_1_method_15_code, 1, some .boolean)
  | 16 => (y_Sh_init, prog_7_method_1_code, 2, none)
  | 17 => (y_Sh_addStatement, prog_7_method_3_code, 3, some .int)
  | 18 => (y_Sh_fits, prog_7_method_4_code, 2, some .boolean)
  | 19 => (y_Sh_closeText, prog_7_method_5_code, 3, some .int)
  | 20 => (y_Sh_setGuard, prog_7_method_6_code, 3, some .boolean)
  | 21 => (y_Sh_contains, prog_7_method_2_code, 2, some .boolean)
  | 22 => (y_Sh_firstWrong, prog_7_method_7_code, 4, some .int)
  | 23 => (y_Sh_isRight, prog_7_method_9_code, 5, some .boolean)
  | 24 => (y_Sh_guardHeld, prog_7_method_10_code, 3, some .boolean)
  | 25 => (y_Sh_allRight, prog_7_method_8_code, 2, some .boolean)
  | 26 => (y_Bo_init, prog_2_method_1_code, 1, none)
  | 27 => (y_Bo_append, prog_2_method_3_code, 3, some .int)
  | 28 => (y_Bo_joinBlocks, prog_2_method_4_code, 5, some .boolean)
  | 29 => (y_Bo_closeBlock, prog_2_method_5_code, 4, some .int)
  | 30 => (y_Bo_clear, prog_2_method_2_code, 1, none)
  | 31 => (y_Ru_init, prog_6_method_1_code, 3, none)
  | 32 => (y_Ru_begin, prog_6_method_2_code, 4, none)
  | 33 => (y_Ru_leaveEnded, prog_6_method_6_code, 2, none)
  | 34 => (y_Ru_placeOf, prog_6_method_5_code, 1, some .int)
  | 35 => (y_Ru_bodyOf, prog_6_method_4_code, 2, some (.object "LockLoom$Body"))
  | 36 => (y_Ru_advance, prog_6_method_3_code, 3, some .int)
  | 37 => (y_Ru_wouldWait, prog_6_method_7_code, 4, some .boolean)
  | 38 => (y_Ru_perform, prog_6_method_8_code, 5, none)
  | 39 => (y_Ru_readCell, prog_6_method_9_code, 3, none)
  | 40 => (y_Ru_noteRace, prog_6_method_11_code, 4, none)
  | 41 => (y_Ru_writeCell, prog_6_method_10_code, 3, none)
  | 42 => (y_Ru_endBlock, prog_6_method_12_code, 4, none)
  | 43 => (y_Ru_fork, prog_6_method_13_code, 4, none)
  | 44 => (y_Ru_valueOf, prog_6_method_14_code, 2, some .int)
  | 45 => (y_Ru_contentOf, prog_6_method_15_code, 2, some .int)
  | 46 => (y_Ru_holderOf, prog_6_method_16_code, 2, some .int)
  | 47 => (y_Ru_stateOf, prog_6_method_17_code, 2, some .int)
  | 48 => (y_Ru_countOf, prog_6_method_18_code, 2, some .int)
  | 49 => (y_Ru_racePart, prog_6_method_19_code, 3, some .int)
  | 50 => (y_Ru_isStuck, prog_6_method_20_code, 4, some .boolean)
  | 51 => (y_Rl_init, prog_5_method_1_code, 1, none)
  | 52 => (y_Rl_clear, prog_5_method_2_code, 1, none)
  | 53 => (y_Rl_add, prog_5_method_3_code, 6, none)
  | 54 => (y_Rl_part, prog_5_method_4_code, 4, some .int)
  | 55 => (y_Sd_init, prog_8_method_1_code, 2, none)
  | 56 => (y_Sd_begin, prog_8_method_2_code, 3, none)
  | 57 => (y_Sd_enter, prog_8_method_3_code, 2, none)
  | 58 => (y_Sd_isDone, prog_8_method_4_code, 1, some .boolean)
  | 59 => (y_Sd_moveTo, prog_8_method_5_code, 2, none)
  | 60 => (y_Sd_learn, prog_8_method_6_code, 3, none)
  | 61 => (y_Lk_init, prog_4_method_1_code, 1, none)
  | 62 => (y_Lk_clear, prog_4_method_2_code, 1, none)
  | 63 => (y_Lk_refuses, prog_4_method_3_code, 2, some .boolean)
  | 64 => (y_Lk_take, prog_4_method_4_code, 2, none)
  | 65 => (y_Lk_release, prog_4_method_5_code, 2, none)
  | 66 => (y_Ce_init, prog_3_method_1_code, 1, none)
  | 67 => (y_Ce_clear, prog_3_method_2_code, 1, none)
  | 68 => (y_Ce_races, prog_3_method_3_code, 4, some .boolean)
  | 69 => (y_Mo_init, prog_10_method_1_code, 2, none)
  | 70 => (y_Mo_statement, prog_10_method_3_code, 4, some .int)
  | 71 => (y_Mo_isIn, prog_10_method_2_code, 2, some .boolean)
  | 72 => (y_Mo_body, prog_10_method_10_code, 4, some .int)
  | 73 => (y_Mo_isWhole, prog_10_method_9_code, 5, some .boolean)
  | 74 => (y_Mo_kindAt, prog_10_method_4_code, 3, some .int)
  | 75 => (y_Mo_openerOf, prog_10_method_7_code, 5, some .int)
  | 76 => (y_Mo_opens, prog_10_method_6_code, 1, some .boolean)
  | 77 => (y_Mo_closerOf, prog_10_method_8_code, 7, some .int)
  | 78 => (y_Mo_numberAt, prog_10_method_5_code, 3, some .int)
  | 79 => (y_Mo_guard, prog_10_method_11_code, 3, some .boolean)
  | 80 => (y_Mo_check, prog_10_method_14_code, 3, some .int)
  | 81 => (y_Mo_isRight, prog_10_method_13_code, 6, some .boolean)
  | 82 => (y_Mo_heldAt, prog_10_method_12_code, 5, some .int)
  | 83 => (y_Mo_sound, prog_10_method_15_code, 2, some .boolean)
  | 84 => (y_Mo_start, prog_10_method_19_code, 4, some .boolean)
  | 85 => (y_Mo_begin, prog_10_method_18_code, 4, none)
  | 86 => (y_Mo_enter, prog_10_method_16_code, 3, none)
  | 87 => (y_Mo_leave, prog_10_method_17_code, 3, none)
  | 88 => (y_Mo_step, prog_10_method_22_code, 4, some .int)
  | 89 => (y_Mo_isThread, prog_10_method_20_code, 2, some .boolean)
  | 90 => (y_Mo_waitsFor, prog_10_method_21_code, 4, some .int)
  | 91 => (y_Mo_does, prog_10_method_23_code, 6, none)
  | 92 => (y_Mo_meets, prog_10_method_27_code, 7, none)
  | 93 => (y_Mo_mark, prog_10_method_26_code, 2, none)
  | 94 => (y_Mo_takes, prog_10_method_24_code, 3, none)
  | 95 => (y_Mo_ends, prog_10_method_25_code, 6, none)
  | 96 => (y_Mo_has, prog_10_method_28_code, 2, some .int)
  | 97 => (y_Mo_cell, prog_10_method_29_code, 2, some .int)
  | 98 => (y_Mo_holder, prog_10_method_30_code, 2, some .int)
  | 99 => (y_Mo_state, prog_10_method_31_code, 2, some .int)
  | 100 => (y_Mo_count, prog_10_method_32_code, 2, some .int)
  | 101 => (y_Mo_race, prog_10_method_33_code, 4, some .int)
  | 102 => (y_Mo_stuck, prog_10_method_34_code, 3, some .boolean)
  | 103 => (y_Ar_fill, prog_13_method_103_code, 4, none)
  | _ => (y_Lo_init, prog_1_method_1_code, 1, none)
abbrev M_Lo_init : Nat := 0
abbrev M_Lo_statement : Nat := 1
abbrev M_Lo_isBelow : Nat := 2
abbrev M_Lo_body : Nat := 3
abbrev M_Lo_guard : Nat := 4
abbrev M_Lo_check : Nat := 5
abbrev M_Lo_sound : Nat := 6
abbrev M_Lo_start : Nat := 7
abbrev M_Lo_step : Nat := 8
abbrev M_Lo_has : Nat := 9
abbrev M_Lo_cell : Nat := 10
abbrev M_Lo_holder : Nat := 11
abbrev M_Lo_state : Nat := 12
abbrev M_Lo_count : Nat := 13
abbrev M_Lo_race : Nat := 14
abbrev M_Lo_stuck : Nat := 15
abbrev M_Sh_init : Nat := 16
abbrev M_Sh_addStatement : Nat := 17
abbrev M_Sh_fits : Nat := 18
abbrev M_Sh_closeText : Nat := 19
abbrev M_Sh_setGuard : Nat := 20
abbrev M_Sh_contains : Nat := 21
abbrev M_Sh_firstWrong : Nat := 22
abbrev M_Sh_isRight : Nat := 23
abbrev M_Sh_guardHeld : Nat := 24
abbrev M_Sh_allRight : Nat := 25
abbrev M_Bo_init : Nat := 26
abbrev M_Bo_append : Nat := 27
abbrev M_Bo_joinBlocks : Nat := 28
abbrev M_Bo_closeBlock : Nat := 29
abbrev M_Bo_clear : Nat := 30
abbrev M_Ru_init : Nat := 31
abbrev M_Ru_begin : Nat := 32
abbrev M_Ru_leaveEnded : Nat := 33
abbrev M_Ru_placeOf : Nat := 34
abbrev M_Ru_bodyOf : Nat := 35
abbrev M_Ru_advance : Nat := 36
abbrev M_Ru_wouldWait : Nat := 37
abbrev M_Ru_perform : Nat := 38
abbrev M_Ru_readCell : Nat := 39
abbrev M_Ru_noteRace : Nat := 40
abbrev M_Ru_writeCell : Nat := 41
abbrev M_Ru_endBlock : Nat := 42
abbrev M_Ru_fork : Nat := 43
abbrev M_Ru_valueOf : Nat := 44
abbrev M_Ru_contentOf : Nat := 45
abbrev M_Ru_holderOf : Nat := 46
abbrev M_Ru_stateOf : Nat := 47
abbrev M_Ru_countOf : Nat := 48
abbrev M_Ru_racePart : Nat := 49
abbrev M_Ru_isStuck : Nat := 50
abbrev M_Rl_init : Nat := 51
abbrev M_Rl_clear : Nat := 52
abbrev M_Rl_add : Nat := 53
abbrev M_Rl_part : Nat := 54
abbrev M_Sd_init : Nat := 55
abbrev M_Sd_begin : Nat := 56
abbrev M_Sd_enter : Nat := 57
abbrev M_Sd_isDone : Nat := 58
abbrev M_Sd_moveTo : Nat := 59
abbrev M_Sd_learn : Nat := 60
abbrev M_Lk_init : Nat := 61
abbrev M_Lk_clear : Nat := 62
abbrev M_Lk_refuses : Nat := 63
abbrev M_Lk_take : Nat := 64
abbrev M_Lk_release : Nat := 65
abbrev M_Ce_init : Nat := 66
abbrev M_Ce_clear : Nat := 67
abbrev M_Ce_races : Nat := 68
abbrev M_Mo_init : Nat := 69
abbrev M_Mo_statement : Nat := 70
abbrev M_Mo_isIn : Nat := 71
abbrev M_Mo_body : Nat := 72
abbrev M_Mo_isWhole : Nat := 73
abbrev M_Mo_kindAt : Nat := 74
abbrev M_Mo_openerOf : Nat := 75
abbrev M_Mo_opens : Nat := 76
abbrev M_Mo_closerOf : Nat := 77
abbrev M_Mo_numberAt : Nat := 78
abbrev M_Mo_guard : Nat := 79
abbrev M_Mo_check : Nat := 80
abbrev M_Mo_isRight : Nat := 81
abbrev M_Mo_heldAt : Nat := 82
abbrev M_Mo_sound : Nat := 83
abbrev M_Mo_start : Nat := 84
abbrev M_Mo_begin : Nat := 85
abbrev M_Mo_enter : Nat := 86
abbrev M_Mo_leave : Nat := 87
abbrev M_Mo_step : Nat := 88
abbrev M_Mo_isThread : Nat := 89
abbrev M_Mo_waitsFor : Nat := 90
abbrev M_Mo_does : Nat := 91
abbrev M_Mo_meets : Nat := 92
abbrev M_Mo_mark : Nat := 93
abbrev M_Mo_takes : Nat := 94
abbrev M_Mo_ends : Nat := 95
abbrev M_Mo_has : Nat := 96
abbrev M_Mo_cell : Nat := 97
abbrev M_Mo_holder : Nat := 98
abbrev M_Mo_state : Nat := 99
abbrev M_Mo_count : Nat := 100
abbrev M_Mo_race : Nat := 101
abbrev M_Mo_stuck : Nat := 102
abbrev M_Ar_fill : Nat := 103
theorem ml_Lo_9 : pm_ml R_Lo 9 y_Sh_init := Or.inl (pm_in1 (List.mem_append_left _ (List.mem_of_getElem? (i := 23) rfl)))
theorem ml_Lo_18 : pm_ml R_Lo 18 y_Ru_init := Or.inl (pm_in1 (List.mem_append_left _ (List.mem_of_getElem? (i := 82) rfl)))
theorem ml_Lo_25 : pm_ml R_Lo 25 y_Sh_addStatement := Or.inl (pm_in1 (List.mem_append_left _ (List.mem_of_getElem? (i := 205) rfl)))
theorem ml_Lo_29 : pm_ml R_Lo 29 y_Sh_closeText := Or.inl (pm_in1 (List.mem_append_left _ (List.mem_of_getElem? (i := 223) rfl)))
theorem ml_Lo_33 : pm_ml R_Lo 33 y_Sh_setGuard := Or.inl (pm_in1 (List.mem_append_right _ (List.mem_append_left _ (List.mem_of_getElem? (i := 3) rfl))))
theorem ml_Lo_37 : pm_ml R_Lo 37 y_Sh_contains := Or.inl (pm_in1 (List.mem_append_right _ (List.mem_append_left _ (List.mem_of_getElem? (i := 11) rfl))))
theorem ml_Lo_41 : pm_ml R_Lo 41 y_Sh_firstWrong := Or.inl (pm_in1 (List.mem_append_right _ (List.mem_append_left _ (List.mem_of_getElem? (i := 15) rfl))))
theorem ml_Lo_44 : pm_ml R_Lo 44 y_Sh_allRight := Or.inl (pm_in1 (List.mem_append_right _ (List.mem_append_left _ (List.mem_of_getElem? (i := 32) rfl))))
theorem ml_Lo_48 : pm_ml R_Lo 48 y_Ru_begin := Or.inl (pm_in1 (List.mem_append_right _ (List.mem_append_left _ (List.mem_of_getElem? (i := 41) rfl))))
theorem ml_Lo_52 : pm_ml R_Lo 52 y_Ru_advance := Or.inl (pm_in1 (List.mem_append_right _ (List.mem_append_left _ (List.mem_of_getElem? (i := 83) rfl))))
theorem ml_Lo_55 : pm_ml R_Lo 55 y_Ru_valueOf := Or.inl (pm_in1 (List.mem_append_right _ (List.mem_append_left _ (List.mem_of_getElem? (i := 161) rfl))))
theorem ml_Lo_58 : pm_ml R_Lo 58 y_Ru_contentOf := Or.inl (pm_in1 (List.mem_append_right _ (List.mem_append_left _ (List.mem_of_getElem? (i := 169) rfl))))
theorem ml_Lo_61 : pm_ml R_Lo 61 y_Ru_holderOf := Or.inl (pm_in1 (List.mem_append_right _ (List.mem_append_left _ (List.mem_of_getElem? (i := 177) rfl))))
theorem ml_Lo_64 : pm_ml R_Lo 64 y_Ru_stateOf := Or.inl (pm_in1 (List.mem_append_right _ (List.mem_append_left _ (List.mem_of_getElem? (i := 185) rfl))))
theorem ml_Lo_67 : pm_ml R_Lo 67 y_Ru_countOf := Or.inl (pm_in1 (List.mem_append_right _ (List.mem_append_left _ (List.mem_of_getElem? (i := 193) rfl))))
theorem ml_Lo_70 : pm_ml R_Lo 70 y_Ru_racePart := Or.inl (pm_in1 (List.mem_append_right _ (List.mem_append_left _ (List.mem_of_getElem? (i := 201) rfl))))
theorem ml_Lo_73 : pm_ml R_Lo 73 y_Ru_isStuck := Or.inl (pm_in1 (List.mem_append_right _ (List.mem_append_left _ (List.mem_of_getElem? (i := 217) rfl))))
theorem ml_Sh_21 : pm_ml R_Sh 21 y_Bo_init := Or.inr ⟨_, pm_in1 (List.mem_append_left _ (List.mem_of_getElem? (i := 30) rfl))⟩
theorem ml_Sh_26 : pm_ml R_Sh 26 y_Ar_fill := Or.inl (pm_in1 (List.mem_append_left _ (List.mem_of_getElem? (i := 63) rfl)))
theorem ml_Sh_40 : pm_ml R_Sh 40 y_Sh_fits := Or.inl (pm_in1 (List.mem_append_left _ (List.mem_of_getElem? (i := 209) rfl)))
theorem ml_Sh_43 : pm_ml R_Sh 43 y_Bo_append := Or.inl (pm_in1 (List.mem_append_left _ (List.mem_of_getElem? (i := 215) rfl)))
theorem ml_Sh_36 : pm_ml R_Sh 36 y_Lo_isBelow := Or.inr ⟨_, pm_in1 (List.mem_append_left _ (List.mem_of_getElem? (i := 212) rfl))⟩
theorem ml_Sh_47 : pm_ml R_Sh 47 y_Bo_joinBlocks := Or.inl (pm_in1 (List.mem_append_left _ (List.mem_of_getElem? (i := 227) rfl)))
theorem ml_Sh_51 : pm_ml R_Sh 51 y_Bo_clear := Or.inl (pm_in1 (List.mem_append_left _ (List.mem_of_getElem? (i := 235) rfl)))
theorem ml_Sh_57 : pm_ml R_Sh 57 y_Sh_isRight := Or.inl (pm_in1 (List.mem_append_right _ (List.mem_append_left _ (List.mem_of_getElem? (i := 19) rfl))))
theorem ml_Sh_74 : pm_ml R_Sh 74 y_Sh_guardHeld := Or.inl (pm_in1 (List.mem_append_right _ (List.mem_append_left _ (List.mem_of_getElem? (i := 23) rfl))))
theorem ml_Sh_77 : pm_ml R_Sh 77 y_Sh_contains := Or.inl (pm_in1 (List.mem_append_right _ (List.mem_append_left _ (List.mem_of_getElem? (i := 27) rfl))))
theorem ml_Sh_61 : pm_ml R_Sh 61 y_Sh_firstWrong := Or.inl (pm_in1 (List.mem_append_right _ (List.mem_append_left _ (List.mem_of_getElem? (i := 36) rfl))))
theorem ml_Bo_31 : pm_ml R_Bo 31 y_Bo_closeBlock := Or.inl (pm_in1 (List.mem_append_left _ (List.mem_of_getElem? (i := 231) rfl)))
theorem ml_Ru_31 : pm_ml R_Ru 31 y_Rl_init := Or.inr ⟨_, pm_in1 (List.mem_append_left _ (List.mem_of_getElem? (i := 94) rfl))⟩
theorem ml_Ru_40 : pm_ml R_Ru 40 y_Sd_init := Or.inl (pm_in1 (List.mem_append_left _ (List.mem_of_getElem? (i := 107) rfl)))
theorem ml_Ru_43 : pm_ml R_Ru 43 y_Lk_init := Or.inr ⟨_, pm_in1 (List.mem_append_left _ (List.mem_of_getElem? (i := 139) rfl))⟩
theorem ml_Ru_44 : pm_ml R_Ru 44 y_Ce_init := Or.inr ⟨_, pm_in1 (List.mem_append_left _ (List.mem_of_getElem? (i := 155) rfl))⟩
theorem ml_Ru_45 : pm_ml R_Ru 45 y_Lk_clear := Or.inl (pm_in1 (List.mem_append_right _ (List.mem_append_left _ (List.mem_of_getElem? (i := 45) rfl))))
theorem ml_Ru_48 : pm_ml R_Ru 48 y_Ce_clear := Or.inl (pm_in1 (List.mem_append_right _ (List.mem_append_left _ (List.mem_of_getElem? (i := 50) rfl))))
theorem ml_Ru_49 : pm_ml R_Ru 49 y_Rl_clear := Or.inl (pm_in1 (List.mem_append_right _ (List.mem_append_left _ (List.mem_of_getElem? (i := 55) rfl))))
theorem ml_Ru_61 : pm_ml R_Ru 61 y_Ar_fill := Or.inl (pm_in1 (List.mem_append_right _ (List.mem_append_left _ (List.mem_of_getElem? (i := 59) rfl))))
theorem ml_Ru_67 : pm_ml R_Ru 67 y_Sd_begin := Or.inl (pm_in1 (List.mem_append_right _ (List.mem_append_left _ (List.mem_of_getElem? (i := 60) rfl))))
theorem ml_Ru_71 : pm_ml R_Ru 71 y_Ru_leaveEnded := Or.inl (pm_in1 (List.mem_append_right _ (List.mem_append_left _ (List.mem_of_getElem? (i := 68) rfl))))
theorem ml_Ru_104 : pm_ml R_Ru 104 y_Ru_placeOf := Or.inl (pm_in1 (List.mem_append_right _ (List.mem_append_left _ (List.mem_of_getElem? (i := 72) rfl))))
theorem ml_Ru_108 : pm_ml R_Ru 108 y_Ru_bodyOf := Or.inl (pm_in1 (List.mem_append_right _ (List.mem_append_left _ (List.mem_of_getElem? (i := 75) rfl))))
theorem ml_Ru_75 : pm_ml R_Ru 75 y_Lo_isBelow := Or.inr ⟨_, pm_in1 (List.mem_append_right _ (List.mem_append_left _ (List.mem_of_getElem? (i := 87) rfl)))⟩
theorem ml_Ru_79 : pm_ml R_Ru 79 y_Sd_isDone := Or.inl (pm_in1 (List.mem_append_right _ (List.mem_append_left _ (List.mem_of_getElem? (i := 88) rfl))))
theorem ml_Ru_83 : pm_ml R_Ru 83 y_Ru_wouldWait := Or.inl (pm_in1 (List.mem_append_right _ (List.mem_append_left _ (List.mem_of_getElem? (i := 92) rfl))))
theorem ml_Ru_87 : pm_ml R_Ru 87 y_Ru_perform := Or.inl (pm_in1 (List.mem_append_right _ (List.mem_append_left _ (List.mem_of_getElem? (i := 100) rfl))))
theorem ml_Ru_123 : pm_ml R_Ru 123 y_Lk_refuses := Or.inl (pm_in1 (List.mem_append_right _ (List.mem_append_left _ (List.mem_of_getElem? (i := 96) rfl))))
theorem ml_Ru_126 : pm_ml R_Ru 126 y_Sd_moveTo := Or.inl (pm_in1 (List.mem_append_right _ (List.mem_append_left _ (List.mem_of_getElem? (i := 104) rfl))))
theorem ml_Ru_129 : pm_ml R_Ru 129 y_Ru_readCell := Or.inl (pm_in1 (List.mem_append_right _ (List.mem_append_left _ (List.mem_of_getElem? (i := 108) rfl))))
theorem ml_Ru_133 : pm_ml R_Ru 133 y_Ru_writeCell := Or.inl (pm_in1 (List.mem_append_right _ (List.mem_append_left _ (List.mem_of_getElem? (i := 124) rfl))))
theorem ml_Ru_139 : pm_ml R_Ru 139 y_Lk_take := Or.inl (pm_in1 (List.mem_append_right _ (List.mem_append_left _ (List.mem_of_getElem? (i := 128) rfl))))
theorem ml_Ru_145 : pm_ml R_Ru 145 y_Ru_endBlock := Or.inl (pm_in1 (List.mem_append_right _ (List.mem_append_left _ (List.mem_of_getElem? (i := 139) rfl))))
theorem ml_Ru_149 : pm_ml R_Ru 149 y_Ru_fork := Or.inl (pm_in1 (List.mem_append_right _ (List.mem_append_left _ (List.mem_of_getElem? (i := 150) rfl))))
theorem ml_Ru_152 : pm_ml R_Ru 152 y_Sh_contains := Or.inl (pm_in1 (List.mem_append_right _ (List.mem_append_left _ (List.mem_of_getElem? (i := 154) rfl))))
theorem ml_Ru_156 : pm_ml R_Ru 156 y_Sd_enter := Or.inl (pm_in1 (List.mem_append_right _ (List.mem_append_left _ (List.mem_of_getElem? (i := 156) rfl))))
theorem ml_Ru_159 : pm_ml R_Ru 159 y_Ru_noteRace := Or.inl (pm_in1 (List.mem_append_right _ (List.mem_append_left _ (List.mem_of_getElem? (i := 112) rfl))))
theorem ml_Ru_173 : pm_ml R_Ru 173 y_Ce_races := Or.inl (pm_in1 (List.mem_append_right _ (List.mem_append_left _ (List.mem_of_getElem? (i := 116) rfl))))
theorem ml_Ru_177 : pm_ml R_Ru 177 y_Rl_add := Or.inl (pm_in1 (List.mem_append_right _ (List.mem_append_left _ (List.mem_of_getElem? (i := 120) rfl))))
theorem ml_Ru_181 : pm_ml R_Ru 181 y_Lk_release := Or.inl (pm_in1 (List.mem_append_right _ (List.mem_append_left _ (List.mem_of_getElem? (i := 143) rfl))))
theorem ml_Ru_196 : pm_ml R_Ru 196 y_Rl_part := Or.inl (pm_in1 (List.mem_append_right _ (List.mem_append_left _ (List.mem_of_getElem? (i := 205) rfl))))
theorem ml_Ru_200 : pm_ml R_Ru 200 y_Ru_stateOf := Or.inl (pm_in1 (List.mem_append_right _ (List.mem_append_left _ (List.mem_of_getElem? (i := 221) rfl))))
theorem ml_Rl_25 : pm_ml R_Rl 25 y_Lo_isBelow := Or.inr ⟨_, pm_in1 (List.mem_append_right _ (List.mem_append_left _ (List.mem_of_getElem? (i := 212) rfl)))⟩
theorem ml_Sd_31 : pm_ml R_Sd 31 y_Sd_enter := Or.inl (pm_in1 (List.mem_append_right _ (List.mem_append_left _ (List.mem_of_getElem? (i := 64) rfl))))
theorem ml_Lk_19 : pm_ml R_Lk 19 y_Ar_fill := Or.inl (pm_in1 (List.mem_append_right _ (List.mem_append_left _ (List.mem_of_getElem? (i := 49) rfl))))
theorem ml_Lk_33 : pm_ml R_Lk 33 y_Sd_learn := Or.inl (pm_in1 (List.mem_append_right _ (List.mem_append_left _ (List.mem_of_getElem? (i := 132) rfl))))
theorem ml_Ce_18 : pm_ml R_Ce 18 y_Ar_fill := Or.inl (pm_in1 (List.mem_append_right _ (List.mem_append_left _ (List.mem_of_getElem? (i := 54) rfl))))
theorem ml_Mo_68 : pm_ml R_Mo 68 y_Mo_isIn := Or.inl (pm_in1 (List.mem_append_right _ (List.mem_append_right _ (List.mem_of_getElem? (i := 66) rfl))))
theorem ml_Mo_91 : pm_ml R_Mo 91 y_Mo_isWhole := Or.inl (pm_in1 (List.mem_append_right _ (List.mem_append_right _ (List.mem_of_getElem? (i := 73) rfl))))
theorem ml_Mo_72 : pm_ml R_Mo 72 y_Mo_kindAt := Or.inl (pm_in1 (List.mem_append_right _ (List.mem_append_right _ (List.mem_of_getElem? (i := 77) rfl))))
theorem ml_Mo_95 : pm_ml R_Mo 95 y_Mo_numberAt := Or.inl (pm_in1 (List.mem_append_right _ (List.mem_append_right _ (List.mem_of_getElem? (i := 92) rfl))))
theorem ml_Mo_80 : pm_ml R_Mo 80 y_Mo_openerOf := Or.inl (pm_in1 (List.mem_append_right _ (List.mem_append_right _ (List.mem_of_getElem? (i := 81) rfl))))
theorem ml_Mo_76 : pm_ml R_Mo 76 y_Mo_opens := Or.inl (pm_in1 (List.mem_append_right _ (List.mem_append_right _ (List.mem_of_getElem? (i := 85) rfl))))
theorem ml_Mo_83 : pm_ml R_Mo 83 y_Mo_closerOf := Or.inl (pm_in1 (List.mem_append_right _ (List.mem_append_right _ (List.mem_of_getElem? (i := 88) rfl))))
theorem ml_Mo_101 : pm_ml R_Mo 101 y_Mo_isRight := Or.inl (pm_in1 (List.mem_append_right _ (List.mem_append_right _ (List.mem_of_getElem? (i := 104) rfl))))
theorem ml_Mo_98 : pm_ml R_Mo 98 y_Mo_heldAt := Or.inl (pm_in1 (List.mem_append_right _ (List.mem_append_right _ (List.mem_of_getElem? (i := 108) rfl))))
theorem ml_Mo_104 : pm_ml R_Mo 104 y_Mo_check := Or.inl (pm_in1 (List.mem_append_right _ (List.mem_append_right _ (List.mem_of_getElem? (i := 116) rfl))))
theorem ml_Mo_129 : pm_ml R_Mo 129 y_Mo_begin := Or.inl (pm_in1 (List.mem_append_right _ (List.mem_append_right _ (List.mem_of_getElem? (i := 121) rfl))))
theorem ml_Mo_111 : pm_ml R_Mo 111 y_Mo_enter := Or.inl (pm_in1 (List.mem_append_right _ (List.mem_append_right _ (List.mem_of_getElem? (i := 125) rfl))))
theorem ml_Mo_115 : pm_ml R_Mo 115 y_Mo_leave := Or.inl (pm_in1 (List.mem_append_right _ (List.mem_append_right _ (List.mem_of_getElem? (i := 129) rfl))))
theorem ml_Mo_133 : pm_ml R_Mo 133 y_Mo_isThread := Or.inl (pm_in1 (List.mem_append_right _ (List.mem_append_right _ (List.mem_of_getElem? (i := 137) rfl))))
theorem ml_Mo_136 : pm_ml R_Mo 136 y_Mo_waitsFor := Or.inl (pm_in1 (List.mem_append_right _ (List.mem_append_right _ (List.mem_of_getElem? (i := 141) rfl))))
theorem ml_Mo_139 : pm_ml R_Mo 139 y_Mo_does := Or.inl (pm_in1 (List.mem_append_right _ (List.mem_append_right _ (List.mem_of_getElem? (i := 145) rfl))))
theorem ml_Mo_142 : pm_ml R_Mo 142 y_Mo_meets := Or.inl (pm_in1 (List.mem_append_right _ (List.mem_append_right _ (List.mem_of_getElem? (i := 149) rfl))))
theorem ml_Mo_145 : pm_ml R_Mo 145 y_Mo_takes := Or.inl (pm_in1 (List.mem_append_right _ (List.mem_append_right _ (List.mem_of_getElem? (i := 157) rfl))))
theorem ml_Mo_148 : pm_ml R_Mo 148 y_Mo_ends := Or.inl (pm_in1 (List.mem_append_right _ (List.mem_append_right _ (List.mem_of_getElem? (i := 161) rfl))))
theorem ml_Mo_151 : pm_ml R_Mo 151 y_Mo_mark := Or.inl (pm_in1 (List.mem_append_right _ (List.mem_append_right _ (List.mem_of_getElem? (i := 153) rfl))))
theorem ml_Mo_154 : pm_ml R_Mo 154 y_Mo_state := Or.inl (pm_in1 (List.mem_append_right _ (List.mem_append_right _ (List.mem_of_getElem? (i := 193) rfl))))
theorem ml_Law_9 : pm_ml R_Law 9 y_Lo_init := Or.inl (pm_in1 (List.mem_append_left _ (List.mem_of_getElem? (i := 15) rfl)))
theorem ml_Law_12 : pm_ml R_Law 12 y_Mo_init := Or.inl (pm_in1 (List.mem_append_right _ (List.mem_append_left _ (List.mem_of_getElem? (i := 224) rfl))))
theorem ml_Law_13 : pm_ml R_Law 13 y_Lo_statement := Or.inl (pm_in1 (List.mem_append_left _ (List.mem_of_getElem? (i := 201) rfl)))
theorem ml_Law_17 : pm_ml R_Law 17 y_Mo_statement := Or.inl (pm_in1 (List.mem_append_right _ (List.mem_append_right _ (List.mem_of_getElem? (i := 62) rfl))))
theorem ml_Law_18 : pm_ml R_Law 18 y_Lo_body := Or.inl (pm_in1 (List.mem_append_left _ (List.mem_of_getElem? (i := 219) rfl)))
theorem ml_Law_22 : pm_ml R_Law 22 y_Mo_body := Or.inl (pm_in1 (List.mem_append_right _ (List.mem_append_right _ (List.mem_of_getElem? (i := 69) rfl))))
theorem ml_Law_23 : pm_ml R_Law 23 y_Lo_guard := Or.inl (pm_in1 (List.mem_append_left _ (List.mem_of_getElem? (i := 239) rfl)))
theorem ml_Law_27 : pm_ml R_Law 27 y_Mo_guard := Or.inl (pm_in1 (List.mem_append_right _ (List.mem_append_right _ (List.mem_of_getElem? (i := 96) rfl))))
theorem ml_Law_28 : pm_ml R_Law 28 y_Lo_check := Or.inl (pm_in1 (List.mem_append_right _ (List.mem_append_left _ (List.mem_of_getElem? (i := 7) rfl))))
theorem ml_Law_31 : pm_ml R_Law 31 y_Mo_check := Or.inl (pm_in1 (List.mem_append_right _ (List.mem_append_right _ (List.mem_of_getElem? (i := 100) rfl))))
theorem ml_Law_32 : pm_ml R_Law 32 y_Lo_sound := Or.inl (pm_in1 (List.mem_append_right _ (List.mem_append_left _ (List.mem_of_getElem? (i := 28) rfl))))
theorem ml_Law_36 : pm_ml R_Law 36 y_Mo_sound := Or.inl (pm_in1 (List.mem_append_right _ (List.mem_append_right _ (List.mem_of_getElem? (i := 112) rfl))))
theorem ml_Law_37 : pm_ml R_Law 37 y_Lo_start := Or.inl (pm_in1 (List.mem_append_right _ (List.mem_append_left _ (List.mem_of_getElem? (i := 37) rfl))))
theorem ml_Law_40 : pm_ml R_Law 40 y_Mo_start := Or.inl (pm_in1 (List.mem_append_right _ (List.mem_append_right _ (List.mem_of_getElem? (i := 117) rfl))))
theorem ml_Law_41 : pm_ml R_Law 41 y_Lo_step := Or.inl (pm_in1 (List.mem_append_right _ (List.mem_append_left _ (List.mem_of_getElem? (i := 79) rfl))))
theorem ml_Law_44 : pm_ml R_Law 44 y_Mo_step := Or.inl (pm_in1 (List.mem_append_right _ (List.mem_append_right _ (List.mem_of_getElem? (i := 133) rfl))))
theorem ml_Law_45 : pm_ml R_Law 45 y_Lo_has := Or.inl (pm_in1 (List.mem_append_right _ (List.mem_append_left _ (List.mem_of_getElem? (i := 157) rfl))))
theorem ml_Law_48 : pm_ml R_Law 48 y_Mo_has := Or.inl (pm_in1 (List.mem_append_right _ (List.mem_append_right _ (List.mem_of_getElem? (i := 165) rfl))))
theorem ml_Law_49 : pm_ml R_Law 49 y_Lo_cell := Or.inl (pm_in1 (List.mem_append_right _ (List.mem_append_left _ (List.mem_of_getElem? (i := 165) rfl))))
theorem ml_Law_52 : pm_ml R_Law 52 y_Mo_cell := Or.inl (pm_in1 (List.mem_append_right _ (List.mem_append_right _ (List.mem_of_getElem? (i := 169) rfl))))
theorem ml_Law_53 : pm_ml R_Law 53 y_Lo_holder := Or.inl (pm_in1 (List.mem_append_right _ (List.mem_append_left _ (List.mem_of_getElem? (i := 173) rfl))))
theorem ml_Law_56 : pm_ml R_Law 56 y_Mo_holder := Or.inl (pm_in1 (List.mem_append_right _ (List.mem_append_right _ (List.mem_of_getElem? (i := 173) rfl))))
theorem ml_Law_57 : pm_ml R_Law 57 y_Lo_state := Or.inl (pm_in1 (List.mem_append_right _ (List.mem_append_left _ (List.mem_of_getElem? (i := 181) rfl))))
theorem ml_Law_60 : pm_ml R_Law 60 y_Mo_state := Or.inl (pm_in1 (List.mem_append_right _ (List.mem_append_right _ (List.mem_of_getElem? (i := 177) rfl))))
theorem ml_Law_61 : pm_ml R_Law 61 y_Lo_count := Or.inl (pm_in1 (List.mem_append_right _ (List.mem_append_left _ (List.mem_of_getElem? (i := 189) rfl))))
theorem ml_Law_64 : pm_ml R_Law 64 y_Mo_count := Or.inl (pm_in1 (List.mem_append_right _ (List.mem_append_right _ (List.mem_of_getElem? (i := 181) rfl))))
theorem ml_Law_65 : pm_ml R_Law 65 y_Lo_race := Or.inl (pm_in1 (List.mem_append_right _ (List.mem_append_left _ (List.mem_of_getElem? (i := 197) rfl))))
theorem ml_Law_68 : pm_ml R_Law 68 y_Mo_race := Or.inl (pm_in1 (List.mem_append_right _ (List.mem_append_right _ (List.mem_of_getElem? (i := 185) rfl))))
theorem ml_Law_69 : pm_ml R_Law 69 y_Lo_stuck := Or.inl (pm_in1 (List.mem_append_right _ (List.mem_append_left _ (List.mem_of_getElem? (i := 213) rfl))))
theorem ml_Law_72 : pm_ml R_Law 72 y_Mo_stuck := Or.inl (pm_in1 (List.mem_append_right _ (List.mem_append_right _ (List.mem_of_getElem? (i := 189) rfl))))
end
section
theorem d_Lo_init_0 : decode prog_1_method_1_code 0 = .ok (.aload_n 0, 1) := by decide +kernel
theorem d_Lo_init_1 : decode prog_1_method_1_code 1 = .ok (.invokespecial 1, 3) := by decide +kernel
theorem d_Lo_init_4 : decode prog_1_method_1_code 4 = .ok (.aload_n 0, 1) := by decide +kernel
theorem d_Lo_init_5 : decode prog_1_method_1_code 5 = .ok (.new 7, 3) := by decide +kernel
theorem d_Lo_init_8 : decode prog_1_method_1_code 8 = .ok (.dup, 1) := by decide +kernel
theorem d_Lo_init_9 : decode prog_1_method_1_code 9 = .ok (.invokespecial 9, 3) := by decide +kernel
theorem d_Lo_init_12 : decode prog_1_method_1_code 12 = .ok (.putfield 10, 3) := by decide +kernel
theorem d_Lo_init_15 : decode prog_1_method_1_code 15 = .ok (.aload_n 0, 1) := by decide +kernel
theorem d_Lo_init_16 : decode prog_1_method_1_code 16 = .ok (.new 16, 3) := by decide +kernel
theorem d_Lo_init_19 : decode prog_1_method_1_code 19 = .ok (.dup, 1) := by decide +kernel
theorem d_Lo_init_20 : decode prog_1_method_1_code 20 = .ok (.aload_n 0, 1) := by decide +kernel
theorem d_Lo_init_21 : decode prog_1_method_1_code 21 = .ok (.getfield 10, 3) := by decide +kernel
theorem d_Lo_init_24 : decode prog_1_method_1_code 24 = .ok (.invokespecial 18, 3) := by decide +kernel
theorem d_Lo_init_27 : decode prog_1_method_1_code 27 = .ok (.putfield 21, 3) := by decide +kernel
theorem d_Lo_init_30 : decode prog_1_method_1_code 30 = .ok (.return_, 1) := by decide +kernel
def tb_Lo_init : List pm_I := [
  pm_aload 1 0,
  pm_oinit 2,
  pm_aload 3 0,
  pm_newo 4 1 4,
  pm_dup 5,
  pm_callc 6 16 1,
  pm_putr 7 0 0,
  pm_aload 8 0,
  pm_newo 9 3 7,
  pm_dup 10,
  pm_aload 11 0,
  pm_getr 12 0 0,
  pm_callc 13 31 2,
  pm_putr 14 0 1,
  pm_vret]
def bp_Lo_init : List Nat := [0, 1, 4, 5, 8, 9, 12, 15, 16, 19, 20, 21, 24, 27, 30]
set_option maxRecDepth 100000 in
theorem sd_Lo_init : pm_Sl prog_1_method_1_code 1 R_Lo "<init>" (none) pm_Y (pm_b bp_Lo_init) 0 tb_Lo_init := by
  refine ⟨so_aloadn d_Lo_init_0 rfl rfl, ?_⟩
  refine ⟨so_oinit (pm_in1 (List.mem_append_left _ (List.mem_of_getElem? (i := 18) rfl))) (pm_in1 (List.mem_append_left _ (List.mem_of_getElem? (i := 19) rfl))) (pm_in1 (List.mem_append_left _ (List.mem_of_getElem? (i := 20) rfl))) d_Lo_init_1 rfl, ?_⟩
  refine ⟨so_aloadn d_Lo_init_4 rfl rfl, ?_⟩
  refine ⟨so_newo (ci := 1) rfl (by decide +kernel) (pm_in1 (List.mem_append_left _ (List.mem_of_getElem? (i := 21) rfl))) (pm_in1 (List.mem_append_left _ (List.mem_of_getElem? (i := 22) rfl))) (pm_in1 (List.mem_append_left _ (List.mem_of_getElem? (i := 2) rfl))) d_Lo_init_5 rfl, ?_⟩
  refine ⟨so_dup d_Lo_init_8 rfl, ?_⟩
  refine ⟨so_callc rfl rfl mc_Sh_init mi_Sh mj_Sh_init ml_Lo_9 yd_Sh_init (by decide) d_Lo_init_9 rfl, ?_⟩
  refine ⟨so_putr (ci := 0) (k := 0) rfl (by decide) rfl rfl (Or.inr ⟨rfl, rfl, rfl, pm_in1 (List.mem_append_left _ (List.mem_of_getElem? (i := 194) rfl))⟩) d_Lo_init_12 rfl, ?_⟩
  refine ⟨so_aloadn d_Lo_init_15 rfl rfl, ?_⟩
  refine ⟨so_newo (ci := 3) rfl (by decide +kernel) (pm_in1 (List.mem_append_left _ (List.mem_of_getElem? (i := 80) rfl))) (pm_in1 (List.mem_append_left _ (List.mem_of_getElem? (i := 81) rfl))) (pm_in1 (List.mem_append_left _ (List.mem_of_getElem? (i := 5) rfl))) d_Lo_init_16 rfl, ?_⟩
  refine ⟨so_dup d_Lo_init_19 rfl, ?_⟩
  refine ⟨so_aloadn d_Lo_init_20 rfl rfl, ?_⟩
  refine ⟨so_getr (ci := 0) (k := 0) rfl (by decide) rfl rfl fl_Lo_10 d_Lo_init_21 rfl, ?_⟩
  refine ⟨so_callc rfl rfl mc_Ru_init mi_Ru mj_Ru_init ml_Lo_18 yd_Ru_init (by decide) d_Lo_init_24 rfl, ?_⟩
  refine ⟨so_putr (ci := 0) (k := 1) rfl (by decide) rfl rfl (Or.inr ⟨rfl, rfl, rfl, pm_in1 (List.mem_append_left _ (List.mem_of_getElem? (i := 195) rfl))⟩) d_Lo_init_27 rfl, ?_⟩
  refine ⟨so_vret d_Lo_init_30 rfl, ?_⟩
  exact trivial
theorem d_Lo_statement_0 : decode prog_1_method_2_code 0 = .ok (.aload_n 0, 1) := by decide +kernel
theorem d_Lo_statement_1 : decode prog_1_method_2_code 1 = .ok (.getfield 10, 3) := by decide +kernel
theorem d_Lo_statement_4 : decode prog_1_method_2_code 4 = .ok (.iload_n 1, 1) := by decide +kernel
theorem d_Lo_statement_5 : decode prog_1_method_2_code 5 = .ok (.iload_n 2, 1) := by decide +kernel
theorem d_Lo_statement_6 : decode prog_1_method_2_code 6 = .ok (.invokevirtual 25, 3) := by decide +kernel
theorem d_Lo_statement_9 : decode prog_1_method_2_code 9 = .ok (.ireturn, 1) := by decide +kernel
def tb_Lo_statement : List pm_I := [
  pm_aload 1 0,
  pm_getr 2 0 0,
  pm_iload 3 1,
  pm_iload 4 2,
  pm_callv 5 17 3 1,
  pm_iret]
def bp_Lo_statement : List Nat := [0, 1, 4, 5, 6, 9]
set_option maxRecDepth 100000 in
theorem sd_Lo_statement : pm_Sl prog_1_method_2_code 3 R_Lo "statement" (some .int) pm_Y (pm_b bp_Lo_statement) 0 tb_Lo_statement := by
  refine ⟨so_aloadn d_Lo_statement_0 rfl rfl, ?_⟩
  refine ⟨so_getr (ci := 0) (k := 0) rfl (by decide) rfl rfl fl_Lo_10 d_Lo_statement_1 rfl, ?_⟩
  refine ⟨so_iloadn d_Lo_statement_4 rfl rfl, ?_⟩
  refine ⟨so_iloadn d_Lo_statement_5 rfl rfl, ?_⟩
  refine ⟨so_callv (ci := 1) rfl rfl mc_Sh_addStatement mi_Sh mj_Sh_addStatement ms_Sh_addStatement ml_Lo_25 yd_Sh_addStatement (by decide) d_Lo_statement_6 rfl, ?_⟩
  refine ⟨so_iret d_Lo_statement_9 rfl, ?_⟩
  exact trivial
theorem d_Lo_isBelow_0 : decode prog_1_method_16_code 0 = .ok (.iload_n 0, 1) := by decide +kernel
theorem d_Lo_isBelow_1 : decode prog_1_method_16_code 1 = .ok (.ifCond .lt 12, 3) := by decide +kernel
theorem d_Lo_isBelow_4 : decode prog_1_method_16_code 4 = .ok (.iload_n 0, 1) := by decide +kernel
theorem d_Lo_isBelow_5 : decode prog_1_method_16_code 5 = .ok (.iload_n 1, 1) := by decide +kernel
theorem d_Lo_isBelow_6 : decode prog_1_method_16_code 6 = .ok (.if_icmp .ge 7, 3) := by decide +kernel
theorem d_Lo_isBelow_9 : decode prog_1_method_16_code 9 = .ok (.iconst 1, 1) := by decide +kernel
theorem d_Lo_isBelow_10 : decode prog_1_method_16_code 10 = .ok (.goto 4, 3) := by decide +kernel
theorem d_Lo_isBelow_13 : decode prog_1_method_16_code 13 = .ok (.iconst 0, 1) := by decide +kernel
theorem d_Lo_isBelow_14 : decode prog_1_method_16_code 14 = .ok (.ireturn, 1) := by decide +kernel
def tb_Lo_isBelow : List pm_I := [
  pm_iload 1 0,
  pm_if 7 2 (fun a => decide (a < 0)),
  pm_iload 3 0,
  pm_iload 4 1,
  pm_icmp 7 5 (fun a b => decide (b ≤ a)),
  pm_const 6 1,
  pm_goto 8,
  pm_const 8 0,
  pm_zret]
def bp_Lo_isBelow : List Nat := [0, 1, 4, 5, 6, 9, 10, 13, 14]
set_option maxRecDepth 100000 in
theorem sd_Lo_isBelow : pm_Sl prog_1_method_16_code 2 R_Lo "isBelow" (some .boolean) pm_Y (pm_b bp_Lo_isBelow) 0 tb_Lo_isBelow := by
  refine ⟨so_iloadn d_Lo_isBelow_0 rfl rfl, ?_⟩
  refine ⟨so_if_lt d_Lo_isBelow_1 rfl rfl, ?_⟩
  refine ⟨so_iloadn d_Lo_isBelow_4 rfl rfl, ?_⟩
  refine ⟨so_iloadn d_Lo_isBelow_5 rfl rfl, ?_⟩
  refine ⟨so_icmp_ge d_Lo_isBelow_6 rfl rfl, ?_⟩
  refine ⟨so_const1 d_Lo_isBelow_9 (by decide) rfl, ?_⟩
  refine ⟨so_goto d_Lo_isBelow_10 rfl, ?_⟩
  refine ⟨so_const1 d_Lo_isBelow_13 (by decide) rfl, ?_⟩
  refine ⟨so_zret d_Lo_isBelow_14 rfl, ?_⟩
  exact trivial
theorem d_Lo_body_0 : decode prog_1_method_3_code 0 = .ok (.aload_n 0, 1) := by decide +kernel
theorem d_Lo_body_1 : decode prog_1_method_3_code 1 = .ok (.getfield 10, 3) := by decide +kernel
theorem d_Lo_body_4 : decode prog_1_method_3_code 4 = .ok (.iload_n 1, 1) := by decide +kernel
theorem d_Lo_body_5 : decode prog_1_method_3_code 5 = .ok (.bipush 15, 2) := by decide +kernel
theorem d_Lo_body_7 : decode prog_1_method_3_code 7 = .ok (.iand, 1) := by decide +kernel
theorem d_Lo_body_8 : decode prog_1_method_3_code 8 = .ok (.invokevirtual 29, 3) := by decide +kernel
theorem d_Lo_body_11 : decode prog_1_method_3_code 11 = .ok (.ireturn, 1) := by decide +kernel
def tb_Lo_body : List pm_I := [
  pm_aload 1 0,
  pm_getr 2 0 0,
  pm_iload 3 1,
  pm_const 4 15,
  pm_bin 5 (fun a b => a &&& b),
  pm_callv 6 19 2 1,
  pm_iret]
def bp_Lo_body : List Nat := [0, 1, 4, 5, 7, 8, 11]
set_option maxRecDepth 100000 in
theorem sd_Lo_body : pm_Sl prog_1_method_3_code 2 R_Lo "body" (some .int) pm_Y (pm_b bp_Lo_body) 0 tb_Lo_body := by
  refine ⟨so_aloadn d_Lo_body_0 rfl rfl, ?_⟩
  refine ⟨so_getr (ci := 0) (k := 0) rfl (by decide) rfl rfl fl_Lo_10 d_Lo_body_1 rfl, ?_⟩
  refine ⟨so_iloadn d_Lo_body_4 rfl rfl, ?_⟩
  refine ⟨so_const2 d_Lo_body_5 (by decide) rfl, ?_⟩
  refine ⟨so_iand d_Lo_body_7 rfl, ?_⟩
  refine ⟨so_callv (ci := 1) rfl rfl mc_Sh_closeText mi_Sh mj_Sh_closeText ms_Sh_closeText ml_Lo_29 yd_Sh_closeText (by decide) d_Lo_body_8 rfl, ?_⟩
  refine ⟨so_iret d_Lo_body_11 rfl, ?_⟩
  exact trivial
theorem d_Lo_guard_0 : decode prog_1_method_4_code 0 = .ok (.aload_n 0, 1) := by decide +kernel
theorem d_Lo_guard_1 : decode prog_1_method_4_code 1 = .ok (.getfield 10, 3) := by decide +kernel
theorem d_Lo_guard_4 : decode prog_1_method_4_code 4 = .ok (.iload_n 1, 1) := by decide +kernel
theorem d_Lo_guard_5 : decode prog_1_method_4_code 5 = .ok (.iload_n 2, 1) := by decide +kernel
theorem d_Lo_guard_6 : decode prog_1_method_4_code 6 = .ok (.invokevirtual 33, 3) := by decide +kernel
theorem d_Lo_guard_9 : decode prog_1_method_4_code 9 = .ok (.ireturn, 1) := by decide +kernel
def tb_Lo_guard : List pm_I := [
  pm_aload 1 0,
  pm_getr 2 0 0,
  pm_iload 3 1,
  pm_iload 4 2,
  pm_callv 5 20 3 1,
  pm_zret]
def bp_Lo_guard : List Nat := [0, 1, 4, 5, 6, 9]
set_option maxRecDepth 100000 in
theorem sd_Lo_guard : pm_Sl prog_1_method_4_code 3 R_Lo "guard" (some .boolean) pm_Y (pm_b bp_Lo_guard) 0 tb_Lo_guard := by
  refine ⟨so_aloadn d_Lo_guard_0 rfl rfl, ?_⟩
  refine ⟨so_getr (ci := 0) (k := 0) rfl (by decide) rfl rfl fl_Lo_10 d_Lo_guard_1 rfl, ?_⟩
  refine ⟨so_iloadn d_Lo_guard_4 rfl rfl, ?_⟩
  refine ⟨so_iloadn d_Lo_guard_5 rfl rfl, ?_⟩
  refine ⟨so_callv (ci := 1) rfl rfl mc_Sh_setGuard mi_Sh mj_Sh_setGuard ms_Sh_setGuard ml_Lo_33 yd_Sh_setGuard (by decide) d_Lo_guard_6 rfl, ?_⟩
  refine ⟨so_zret d_Lo_guard_9 rfl, ?_⟩
  exact trivial
theorem d_Lo_check_0 : decode prog_1_method_5_code 0 = .ok (.aload_n 0, 1) := by decide +kernel
theorem d_Lo_check_1 : decode prog_1_method_5_code 1 = .ok (.getfield 10, 3) := by decide +kernel
theorem d_Lo_check_4 : decode prog_1_method_5_code 4 = .ok (.iload_n 1, 1) := by decide +kernel
theorem d_Lo_check_5 : decode prog_1_method_5_code 5 = .ok (.invokevirtual 37, 3) := by decide +kernel
theorem d_Lo_check_8 : decode prog_1_method_5_code 8 = .ok (.ifCond .eq 14, 3) := by decide +kernel
theorem d_Lo_check_11 : decode prog_1_method_5_code 11 = .ok (.aload_n 0, 1) := by decide +kernel
theorem d_Lo_check_12 : decode prog_1_method_5_code 12 = .ok (.getfield 10, 3) := by decide +kernel
theorem d_Lo_check_15 : decode prog_1_method_5_code 15 = .ok (.iload_n 1, 1) := by decide +kernel
theorem d_Lo_check_16 : decode prog_1_method_5_code 16 = .ok (.invokevirtual 41, 3) := by decide +kernel
theorem d_Lo_check_19 : decode prog_1_method_5_code 19 = .ok (.goto 4, 3) := by decide +kernel
theorem d_Lo_check_22 : decode prog_1_method_5_code 22 = .ok (.iconst (-1), 1) := by decide +kernel
theorem d_Lo_check_23 : decode prog_1_method_5_code 23 = .ok (.ireturn, 1) := by decide +kernel
def tb_Lo_check : List pm_I := [
  pm_aload 1 0,
  pm_getr 2 0 0,
  pm_iload 3 1,
  pm_callv 4 21 2 1,
  pm_if 10 5 (fun a => decide (a = 0)),
  pm_aload 6 0,
  pm_getr 7 0 0,
  pm_iload 8 1,
  pm_callv 9 22 2 1,
  pm_goto 11,
  pm_const 11 (-1),
  pm_iret]
def bp_Lo_check : List Nat := [0, 1, 4, 5, 8, 11, 12, 15, 16, 19, 22, 23]
set_option maxRecDepth 100000 in
theorem sd_Lo_check : pm_Sl prog_1_method_5_code 2 R_Lo "check" (some .int) pm_Y (pm_b bp_Lo_check) 0 tb_Lo_check := by
  refine ⟨so_aloadn d_Lo_check_0 rfl rfl, ?_⟩
  refine ⟨so_getr (ci := 0) (k := 0) rfl (by decide) rfl rfl fl_Lo_10 d_Lo_check_1 rfl, ?_⟩
  refine ⟨so_iloadn d_Lo_check_4 rfl rfl, ?_⟩
  refine ⟨so_callv (ci := 1) rfl rfl mc_Sh_contains mi_Sh mj_Sh_contains ms_Sh_contains ml_Lo_37 yd_Sh_contains (by decide) d_Lo_check_5 rfl, ?_⟩
  refine ⟨so_if_eq d_Lo_check_8 rfl rfl, ?_⟩
  refine ⟨so_aloadn d_Lo_check_11 rfl rfl, ?_⟩
  refine ⟨so_getr (ci := 0) (k := 0) rfl (by decide) rfl rfl fl_Lo_10 d_Lo_check_12 rfl, ?_⟩
  refine ⟨so_iloadn d_Lo_check_15 rfl rfl, ?_⟩
  refine ⟨so_callv (ci := 1) rfl rfl mc_Sh_firstWrong mi_Sh mj_Sh_firstWrong ms_Sh_firstWrong ml_Lo_41 yd_Sh_firstWrong (by decide) d_Lo_check_16 rfl, ?_⟩
  refine ⟨so_goto d_Lo_check_19 rfl, ?_⟩
  refine ⟨so_const1 d_Lo_check_22 (by decide) rfl, ?_⟩
  refine ⟨so_iret d_Lo_check_23 rfl, ?_⟩
  exact trivial
theorem d_Lo_sound_0 : decode prog_1_method_6_code 0 = .ok (.aload_n 0, 1) := by decide +kernel
theorem d_Lo_sound_1 : decode prog_1_method_6_code 1 = .ok (.getfield 10, 3) := by decide +kernel
theorem d_Lo_sound_4 : decode prog_1_method_6_code 4 = .ok (.invokevirtual 44, 3) := by decide +kernel
theorem d_Lo_sound_7 : decode prog_1_method_6_code 7 = .ok (.ireturn, 1) := by decide +kernel
def tb_Lo_sound : List pm_I := [
  pm_aload 1 0,
  pm_getr 2 0 0,
  pm_callv 3 25 1 1,
  pm_zret]
def bp_Lo_sound : List Nat := [0, 1, 4, 7]
set_option maxRecDepth 100000 in
theorem sd_Lo_sound : pm_Sl prog_1_method_6_code 1 R_Lo "sound" (some .boolean) pm_Y (pm_b bp_Lo_sound) 0 tb_Lo_sound := by
  refine ⟨so_aloadn d_Lo_sound_0 rfl rfl, ?_⟩
  refine ⟨so_getr (ci := 0) (k := 0) rfl (by decide) rfl rfl fl_Lo_10 d_Lo_sound_1 rfl, ?_⟩
  refine ⟨so_callv (ci := 1) rfl rfl mc_Sh_allRight mi_Sh mj_Sh_allRight ms_Sh_allRight ml_Lo_44 yd_Sh_allRight (by decide) d_Lo_sound_4 rfl, ?_⟩
  refine ⟨so_zret d_Lo_sound_7 rfl, ?_⟩
  exact trivial
theorem d_Lo_start_0 : decode prog_1_method_7_code 0 = .ok (.aload_n 0, 1) := by decide +kernel
theorem d_Lo_start_1 : decode prog_1_method_7_code 1 = .ok (.getfield 10, 3) := by decide +kernel
theorem d_Lo_start_4 : decode prog_1_method_7_code 4 = .ok (.iload_n 1, 1) := by decide +kernel
theorem d_Lo_start_5 : decode prog_1_method_7_code 5 = .ok (.invokevirtual 37, 3) := by decide +kernel
theorem d_Lo_start_8 : decode prog_1_method_7_code 8 = .ok (.ifCond .ne 5, 3) := by decide +kernel
theorem d_Lo_start_11 : decode prog_1_method_7_code 11 = .ok (.iconst 0, 1) := by decide +kernel
theorem d_Lo_start_12 : decode prog_1_method_7_code 12 = .ok (.ireturn, 1) := by decide +kernel
theorem d_Lo_start_13 : decode prog_1_method_7_code 13 = .ok (.aload_n 0, 1) := by decide +kernel
theorem d_Lo_start_14 : decode prog_1_method_7_code 14 = .ok (.getfield 21, 3) := by decide +kernel
theorem d_Lo_start_17 : decode prog_1_method_7_code 17 = .ok (.iload_n 1, 1) := by decide +kernel
theorem d_Lo_start_18 : decode prog_1_method_7_code 18 = .ok (.iload_n 2, 1) := by decide +kernel
theorem d_Lo_start_19 : decode prog_1_method_7_code 19 = .ok (.invokevirtual 48, 3) := by decide +kernel
theorem d_Lo_start_22 : decode prog_1_method_7_code 22 = .ok (.iconst 1, 1) := by decide +kernel
theorem d_Lo_start_23 : decode prog_1_method_7_code 23 = .ok (.ireturn, 1) := by decide +kernel
def tb_Lo_start : List pm_I := [
  pm_aload 1 0,
  pm_getr 2 0 0,
  pm_iload 3 1,
  pm_callv 4 21 2 1,
  pm_if 7 5 (fun a => decide (a ≠ 0)),
  pm_const 6 0,
  pm_zret,
  pm_aload 8 0,
  pm_getr 9 0 1,
  pm_iload 10 1,
  pm_iload 11 2,
  pm_callv 12 32 3 3,
  pm_const 13 1,
  pm_zret]
def bp_Lo_start : List Nat := [0, 1, 4, 5, 8, 11, 12, 13, 14, 17, 18, 19, 22, 23]
set_option maxRecDepth 100000 in
theorem sd_Lo_start : pm_Sl prog_1_method_7_code 3 R_Lo "start" (some .boolean) pm_Y (pm_b bp_Lo_start) 0 tb_Lo_start := by
  refine ⟨so_aloadn d_Lo_start_0 rfl rfl, ?_⟩
  refine ⟨so_getr (ci := 0) (k := 0) rfl (by decide) rfl rfl fl_Lo_10 d_Lo_start_1 rfl, ?_⟩
  refine ⟨so_iloadn d_Lo_start_4 rfl rfl, ?_⟩
  refine ⟨so_callv (ci := 1) rfl rfl mc_Sh_contains mi_Sh mj_Sh_contains ms_Sh_contains ml_Lo_37 yd_Sh_contains (by decide) d_Lo_start_5 rfl, ?_⟩
  refine ⟨so_if_ne d_Lo_start_8 rfl rfl, ?_⟩
  refine ⟨so_const1 d_Lo_start_11 (by decide) rfl, ?_⟩
  refine ⟨so_zret d_Lo_start_12 rfl, ?_⟩
  refine ⟨so_aloadn d_Lo_start_13 rfl rfl, ?_⟩
  refine ⟨so_getr (ci := 0) (k := 1) rfl (by decide) rfl rfl fl_Lo_21 d_Lo_start_14 rfl, ?_⟩
  refine ⟨so_iloadn d_Lo_start_17 rfl rfl, ?_⟩
  refine ⟨so_iloadn d_Lo_start_18 rfl rfl, ?_⟩
  refine ⟨so_callv (ci := 3) rfl rfl mc_Ru_begin mi_Ru mj_Ru_begin ms_Ru_begin ml_Lo_48 yd_Ru_begin (by decide) d_Lo_start_19 rfl, ?_⟩
  refine ⟨so_const1 d_Lo_start_22 (by decide) rfl, ?_⟩
  refine ⟨so_zret d_Lo_start_23 rfl, ?_⟩
  exact trivial
theorem d_Lo_step_0 : decode prog_1_method_8_code 0 = .ok (.aload_n 0, 1) := by decide +kernel
theorem d_Lo_step_1 : decode prog_1_method_8_code 1 = .ok (.getfield 21, 3) := by decide +kernel
theorem d_Lo_step_4 : decode prog_1_method_8_code 4 = .ok (.iload_n 1, 1) := by decide +kernel
theorem d_Lo_step_5 : decode prog_1_method_8_code 5 = .ok (.invokevirtual 52, 3) := by decide +kernel
theorem d_Lo_step_8 : decode prog_1_method_8_code 8 = .ok (.ireturn, 1) := by decide +kernel
def tb_Lo_step : List pm_I := [
  pm_aload 1 0,
  pm_getr 2 0 1,
  pm_iload 3 1,
  pm_callv 4 36 2 3,
  pm_iret]
def bp_Lo_step : List Nat := [0, 1, 4, 5, 8]
set_option maxRecDepth 100000 in
theorem sd_Lo_step : pm_Sl prog_1_method_8_code 2 R_Lo "step" (some .int) pm_Y (pm_b bp_Lo_step) 0 tb_Lo_step := by
  refine ⟨so_aloadn d_Lo_step_0 rfl rfl, ?_⟩
  refine ⟨so_getr (ci := 0) (k := 1) rfl (by decide) rfl rfl fl_Lo_21 d_Lo_step_1 rfl, ?_⟩
  refine ⟨so_iloadn d_Lo_step_4 rfl rfl, ?_⟩
  refine ⟨so_callv (ci := 3) rfl rfl mc_Ru_advance mi_Ru mj_Ru_advance ms_Ru_advance ml_Lo_52 yd_Ru_advance (by decide) d_Lo_step_5 rfl, ?_⟩
  refine ⟨so_iret d_Lo_step_8 rfl, ?_⟩
  exact trivial
theorem d_Lo_has_0 : decode prog_1_method_9_code 0 = .ok (.aload_n 0, 1) := by decide +kernel
theorem d_Lo_has_1 : decode prog_1_method_9_code 1 = .ok (.getfield 21, 3) := by decide +kernel
theorem d_Lo_has_4 : decode prog_1_method_9_code 4 = .ok (.iload_n 1, 1) := by decide +kernel
theorem d_Lo_has_5 : decode prog_1_method_9_code 5 = .ok (.invokevirtual 55, 3) := by decide +kernel
theorem d_Lo_has_8 : decode prog_1_method_9_code 8 = .ok (.ireturn, 1) := by decide +kernel
def tb_Lo_has : List pm_I := [
  pm_aload 1 0,
  pm_getr 2 0 1,
  pm_iload 3 1,
  pm_callv 4 44 2 3,
  pm_iret]
def bp_Lo_has : List Nat := [0, 1, 4, 5, 8]
set_option maxRecDepth 100000 in
theorem sd_Lo_has : pm_Sl prog_1_method_9_code 2 R_Lo "has" (some .int) pm_Y (pm_b bp_Lo_has) 0 tb_Lo_has := by
  refine ⟨so_aloadn d_Lo_has_0 rfl rfl, ?_⟩
  refine ⟨so_getr (ci := 0) (k := 1) rfl (by decide) rfl rfl fl_Lo_21 d_Lo_has_1 rfl, ?_⟩
  refine ⟨so_iloadn d_Lo_has_4 rfl rfl, ?_⟩
  refine ⟨so_callv (ci := 3) rfl rfl mc_Ru_valueOf mi_Ru mj_Ru_valueOf ms_Ru_valueOf ml_Lo_55 yd_Ru_valueOf (by decide) d_Lo_has_5 rfl, ?_⟩
  refine ⟨so_iret d_Lo_has_8 rfl, ?_⟩
  exact trivial
theorem d_Lo_cell_0 : decode prog_1_method_10_code 0 = .ok (.aload_n 0, 1) := by decide +kernel
theorem d_Lo_cell_1 : decode prog_1_method_10_code 1 = .ok (.getfield 21, 3) := by decide +kernel
theorem d_Lo_cell_4 : decode prog_1_method_10_code 4 = .ok (.iload_n 1, 1) := by decide +kernel
theorem d_Lo_cell_5 : decode prog_1_method_10_code 5 = .ok (.invokevirtual 58, 3) := by decide +kernel
theorem d_Lo_cell_8 : decode prog_1_method_10_code 8 = .ok (.ireturn, 1) := by decide +kernel
def tb_Lo_cell : List pm_I := [
  pm_aload 1 0,
  pm_getr 2 0 1,
  pm_iload 3 1,
  pm_callv 4 45 2 3,
  pm_iret]
def bp_Lo_cell : List Nat := [0, 1, 4, 5, 8]
set_option maxRecDepth 100000 in
theorem sd_Lo_cell : pm_Sl prog_1_method_10_code 2 R_Lo "cell" (some .int) pm_Y (pm_b bp_Lo_cell) 0 tb_Lo_cell := by
  refine ⟨so_aloadn d_Lo_cell_0 rfl rfl, ?_⟩
  refine ⟨so_getr (ci := 0) (k := 1) rfl (by decide) rfl rfl fl_Lo_21 d_Lo_cell_1 rfl, ?_⟩
  refine ⟨so_iloadn d_Lo_cell_4 rfl rfl, ?_⟩
  refine ⟨so_callv (ci := 3) rfl rfl mc_Ru_contentOf mi_Ru mj_Ru_contentOf ms_Ru_contentOf ml_Lo_58 yd_Ru_contentOf (by decide) d_Lo_cell_5 rfl, ?_⟩
  refine ⟨so_iret d_Lo_cell_8 rfl, ?_⟩
  exact trivial
theorem d_Lo_holder_0 : decode prog_1_method_11_code 0 = .ok (.aload_n 0, 1) := by decide +kernel
theorem d_Lo_holder_1 : decode prog_1_method_11_code 1 = .ok (.getfield 21, 3) := by decide +kernel
theorem d_Lo_holder_4 : decode prog_1_method_11_code 4 = .ok (.iload_n 1, 1) := by decide +kernel
theorem d_Lo_holder_5 : decode prog_1_method_11_code 5 = .ok (.invokevirtual 61, 3) := by decide +kernel
theorem d_Lo_holder_8 : decode prog_1_method_11_code 8 = .ok (.ireturn, 1) := by decide +kernel
def tb_Lo_holder : List pm_I := [
  pm_aload 1 0,
  pm_getr 2 0 1,
  pm_iload 3 1,
  pm_callv 4 46 2 3,
  pm_iret]
def bp_Lo_holder : List Nat := [0, 1, 4, 5, 8]
set_option maxRecDepth 100000 in
theorem sd_Lo_holder : pm_Sl prog_1_method_11_code 2 R_Lo "holder" (some .int) pm_Y (pm_b bp_Lo_holder) 0 tb_Lo_holder := by
  refine ⟨so_aloadn d_Lo_holder_0 rfl rfl, ?_⟩
  refine ⟨so_getr (ci := 0) (k := 1) rfl (by decide) rfl rfl fl_Lo_21 d_Lo_holder_1 rfl, ?_⟩
  refine ⟨so_iloadn d_Lo_holder_4 rfl rfl, ?_⟩
  refine ⟨so_callv (ci := 3) rfl rfl mc_Ru_holderOf mi_Ru mj_Ru_holderOf ms_Ru_holderOf ml_Lo_61 yd_Ru_holderOf (by decide) d_Lo_holder_5 rfl, ?_⟩
  refine ⟨so_iret d_Lo_holder_8 rfl, ?_⟩
  exact trivial
theorem d_Lo_state_0 : decode prog_1_method_12_code 0 = .ok (.aload_n 0, 1) := by decide +kernel
theorem d_Lo_state_1 : decode prog_1_method_12_code 1 = .ok (.getfield 21, 3) := by decide +kernel
theorem d_Lo_state_4 : decode prog_1_method_12_code 4 = .ok (.iload_n 1, 1) := by decide +kernel
theorem d_Lo_state_5 : decode prog_1_method_12_code 5 = .ok (.invokevirtual 64, 3) := by decide +kernel
theorem d_Lo_state_8 : decode prog_1_method_12_code 8 = .ok (.ireturn, 1) := by decide +kernel
def tb_Lo_state : List pm_I := [
  pm_aload 1 0,
  pm_getr 2 0 1,
  pm_iload 3 1,
  pm_callv 4 47 2 3,
  pm_iret]
def bp_Lo_state : List Nat := [0, 1, 4, 5, 8]
set_option maxRecDepth 100000 in
theorem sd_Lo_state : pm_Sl prog_1_method_12_code 2 R_Lo "state" (some .int) pm_Y (pm_b bp_Lo_state) 0 tb_Lo_state := by
  refine ⟨so_aloadn d_Lo_state_0 rfl rfl, ?_⟩
  refine ⟨so_getr (ci := 0) (k := 1) rfl (by decide) rfl rfl fl_Lo_21 d_Lo_state_1 rfl, ?_⟩
  refine ⟨so_iloadn d_Lo_state_4 rfl rfl, ?_⟩
  refine ⟨so_callv (ci := 3) rfl rfl mc_Ru_stateOf mi_Ru mj_Ru_stateOf ms_Ru_stateOf ml_Lo_64 yd_Ru_stateOf (by decide) d_Lo_state_5 rfl, ?_⟩
  refine ⟨so_iret d_Lo_state_8 rfl, ?_⟩
  exact trivial
theorem d_Lo_count_0 : decode prog_1_method_13_code 0 = .ok (.aload_n 0, 1) := by decide +kernel
theorem d_Lo_count_1 : decode prog_1_method_13_code 1 = .ok (.getfield 21, 3) := by decide +kernel
theorem d_Lo_count_4 : decode prog_1_method_13_code 4 = .ok (.iload_n 1, 1) := by decide +kernel
theorem d_Lo_count_5 : decode prog_1_method_13_code 5 = .ok (.invokevirtual 67, 3) := by decide +kernel
theorem d_Lo_count_8 : decode prog_1_method_13_code 8 = .ok (.ireturn, 1) := by decide +kernel
def tb_Lo_count : List pm_I := [
  pm_aload 1 0,
  pm_getr 2 0 1,
  pm_iload 3 1,
  pm_callv 4 48 2 3,
  pm_iret]
def bp_Lo_count : List Nat := [0, 1, 4, 5, 8]
set_option maxRecDepth 100000 in
theorem sd_Lo_count : pm_Sl prog_1_method_13_code 2 R_Lo "count" (some .int) pm_Y (pm_b bp_Lo_count) 0 tb_Lo_count := by
  refine ⟨so_aloadn d_Lo_count_0 rfl rfl, ?_⟩
  refine ⟨so_getr (ci := 0) (k := 1) rfl (by decide) rfl rfl fl_Lo_21 d_Lo_count_1 rfl, ?_⟩
  refine ⟨so_iloadn d_Lo_count_4 rfl rfl, ?_⟩
  refine ⟨so_callv (ci := 3) rfl rfl mc_Ru_countOf mi_Ru mj_Ru_countOf ms_Ru_countOf ml_Lo_67 yd_Ru_countOf (by decide) d_Lo_count_5 rfl, ?_⟩
  refine ⟨so_iret d_Lo_count_8 rfl, ?_⟩
  exact trivial
theorem d_Lo_race_0 : decode prog_1_method_14_code 0 = .ok (.aload_n 0, 1) := by decide +kernel
theorem d_Lo_race_1 : decode prog_1_method_14_code 1 = .ok (.getfield 21, 3) := by decide +kernel
theorem d_Lo_race_4 : decode prog_1_method_14_code 4 = .ok (.iload_n 1, 1) := by decide +kernel
theorem d_Lo_race_5 : decode prog_1_method_14_code 5 = .ok (.iload_n 2, 1) := by decide +kernel
theorem d_Lo_race_6 : decode prog_1_method_14_code 6 = .ok (.invokevirtual 70, 3) := by decide +kernel
theorem d_Lo_race_9 : decode prog_1_method_14_code 9 = .ok (.ireturn, 1) := by decide +kernel
def tb_Lo_race : List pm_I := [
  pm_aload 1 0,
  pm_getr 2 0 1,
  pm_iload 3 1,
  pm_iload 4 2,
  pm_callv 5 49 3 3,
  pm_iret]
def bp_Lo_race : List Nat := [0, 1, 4, 5, 6, 9]
set_option maxRecDepth 100000 in
theorem sd_Lo_race : pm_Sl prog_1_method_14_code 3 R_Lo "race" (some .int) pm_Y (pm_b bp_Lo_race) 0 tb_Lo_race := by
  refine ⟨so_aloadn d_Lo_race_0 rfl rfl, ?_⟩
  refine ⟨so_getr (ci := 0) (k := 1) rfl (by decide) rfl rfl fl_Lo_21 d_Lo_race_1 rfl, ?_⟩
  refine ⟨so_iloadn d_Lo_race_4 rfl rfl, ?_⟩
  refine ⟨so_iloadn d_Lo_race_5 rfl rfl, ?_⟩
  refine ⟨so_callv (ci := 3) rfl rfl mc_Ru_racePart mi_Ru mj_Ru_racePart ms_Ru_racePart ml_Lo_70 yd_Ru_racePart (by decide) d_Lo_race_6 rfl, ?_⟩
  refine ⟨so_iret d_Lo_race_9 rfl, ?_⟩
  exact trivial
theorem d_Lo_stuck_0 : decode prog_1_method_15_code 0 = .ok (.aload_n 0, 1) := by decide +kernel
theorem d_Lo_stuck_1 : decode prog_1_method_15_code 1 = .ok (.getfield 21, 3) := by decide +kernel
theorem d_Lo_stuck_4 : decode prog_1_method_15_code 4 = .ok (.invokevirtual 73, 3) := by decide +kernel
theorem d_Lo_stuck_7 : decode prog_1_method_15_code 7 = .ok (.ireturn, 1) := by decide +kernel
def tb_Lo_stuck : List pm_I := [
  pm_aload 1 0,
  pm_getr 2 0 1,
  pm_callv 3 50 1 3,
  pm_zret]
def bp_Lo_stuck : List Nat := [0, 1, 4, 7]
set_option maxRecDepth 100000 in
theorem sd_Lo_stuck : pm_Sl prog_1_method_15_code 1 R_Lo "stuck" (some .boolean) pm_Y (pm_b bp_Lo_stuck) 0 tb_Lo_stuck := by
  refine ⟨so_aloadn d_Lo_stuck_0 rfl rfl, ?_⟩
  refine ⟨so_getr (ci := 0) (k := 1) rfl (by decide) rfl rfl fl_Lo_21 d_Lo_stuck_1 rfl, ?_⟩
  refine ⟨so_callv (ci := 3) rfl rfl mc_Ru_isStuck mi_Ru mj_Ru_isStuck ms_Ru_isStuck ml_Lo_73 yd_Ru_isStuck (by decide) d_Lo_stuck_4 rfl, ?_⟩
  refine ⟨so_zret d_Lo_stuck_7 rfl, ?_⟩
  exact trivial
theorem d_Sh_init_0 : decode prog_7_method_1_code 0 = .ok (.aload_n 0, 1) := by decide +kernel
theorem d_Sh_init_1 : decode prog_7_method_1_code 1 = .ok (.invokespecial 3, 3) := by decide +kernel
theorem d_Sh_init_4 : decode prog_7_method_1_code 4 = .ok (.aload_n 0, 1) := by decide +kernel
theorem d_Sh_init_5 : decode prog_7_method_1_code 5 = .ok (.bipush 8, 2) := by decide +kernel
theorem d_Sh_init_7 : decode prog_7_method_1_code 7 = .ok (.anewarray 9, 3) := by decide +kernel
theorem d_Sh_init_10 : decode prog_7_method_1_code 10 = .ok (.putfield 11, 3) := by decide +kernel
theorem d_Sh_init_13 : decode prog_7_method_1_code 13 = .ok (.aload_n 0, 1) := by decide +kernel
theorem d_Sh_init_14 : decode prog_7_method_1_code 14 = .ok (.bipush 8, 2) := by decide +kernel
theorem d_Sh_init_16 : decode prog_7_method_1_code 16 = .ok (.newarray .int, 2) := by decide +kernel
theorem d_Sh_init_18 : decode prog_7_method_1_code 18 = .ok (.putfield 17, 3) := by decide +kernel
theorem d_Sh_init_21 : decode prog_7_method_1_code 21 = .ok (.aload_n 0, 1) := by decide +kernel
theorem d_Sh_init_22 : decode prog_7_method_1_code 22 = .ok (.new 9, 3) := by decide +kernel
theorem d_Sh_init_25 : decode prog_7_method_1_code 25 = .ok (.dup, 1) := by decide +kernel
theorem d_Sh_init_26 : decode prog_7_method_1_code 26 = .ok (.invokespecial 21, 3) := by decide +kernel
theorem d_Sh_init_29 : decode prog_7_method_1_code 29 = .ok (.putfield 22, 3) := by decide +kernel
theorem d_Sh_init_32 : decode prog_7_method_1_code 32 = .ok (.iconst 0, 1) := by decide +kernel
theorem d_Sh_init_33 : decode prog_7_method_1_code 33 = .ok (.istore_n 1, 1) := by decide +kernel
theorem d_Sh_init_34 : decode prog_7_method_1_code 34 = .ok (.iload_n 1, 1) := by decide +kernel
theorem d_Sh_init_35 : decode prog_7_method_1_code 35 = .ok (.bipush 8, 2) := by decide +kernel
theorem d_Sh_init_37 : decode prog_7_method_1_code 37 = .ok (.if_icmp .ge 22, 3) := by decide +kernel
theorem d_Sh_init_40 : decode prog_7_method_1_code 40 = .ok (.aload_n 0, 1) := by decide +kernel
theorem d_Sh_init_41 : decode prog_7_method_1_code 41 = .ok (.getfield 11, 3) := by decide +kernel
theorem d_Sh_init_44 : decode prog_7_method_1_code 44 = .ok (.iload_n 1, 1) := by decide +kernel
theorem d_Sh_init_45 : decode prog_7_method_1_code 45 = .ok (.new 9, 3) := by decide +kernel
theorem d_Sh_init_48 : decode prog_7_method_1_code 48 = .ok (.dup, 1) := by decide +kernel
theorem d_Sh_init_49 : decode prog_7_method_1_code 49 = .ok (.invokespecial 21, 3) := by decide +kernel
theorem d_Sh_init_52 : decode prog_7_method_1_code 52 = .ok (.aastore, 1) := by decide +kernel
theorem d_Sh_init_53 : decode prog_7_method_1_code 53 = .ok (.iinc 1 1, 3) := by decide +kernel
theorem d_Sh_init_56 : decode prog_7_method_1_code 56 = .ok (.goto (-22), 3) := by decide +kernel
theorem d_Sh_init_59 : decode prog_7_method_1_code 59 = .ok (.aload_n 0, 1) := by decide +kernel
theorem d_Sh_init_60 : decode prog_7_method_1_code 60 = .ok (.getfield 17, 3) := by decide +kernel
theorem d_Sh_init_63 : decode prog_7_method_1_code 63 = .ok (.iconst (-1), 1) := by decide +kernel
theorem d_Sh_init_64 : decode prog_7_method_1_code 64 = .ok (.invokestatic 26, 3) := by decide +kernel
theorem d_Sh_init_67 : decode prog_7_method_1_code 67 = .ok (.return_, 1) := by decide +kernel
def tb_Sh_init : List pm_I := [
  pm_aload 1 0,
  pm_oinit 2,
  pm_aload 3 0,
  pm_const 4 8,
  pm_newa 5 2,
  pm_putr 6 1 0,
  pm_aload 7 0,
  pm_const 8 8,
  pm_newa 9 0,
  pm_putr 10 1 1,
  pm_aload 11 0,
  pm_newo 12 2 6,
  pm_dup 13,
  pm_callc 14 26 1,
  pm_putr 15 1 2,
  pm_const 16 0,
  pm_istore 17 1,
  pm_iload 18 1,
  pm_const 19 8,
  pm_icmp 29 20 (fun a b => decide (b ≤ a)),
  pm_aload 21 0,
  pm_getr 22 1 0,
  pm_iload 23 1,
  pm_newo 24 2 6,
  pm_dup 25,
  pm_callc 26 26 1,
  pm_aast 27 2 2,
  pm_iinc 28 1 1,
  pm_goto 17,
  pm_aload 30 0,
  pm_getr 31 1 1,
  pm_const 32 (-1),
  pm_calls 33 103 2,
  pm_vret]
def bp_Sh_init : List Nat := [0, 1, 4, 5, 7, 10, 13, 14, 16, 18, 21, 22, 25, 26, 29, 32, 33, 34, 35, 37, 40, 41, 44, 45, 48, 49, 52, 53, 56, 59, 60, 63, 64, 67]
set_option maxRecDepth 100000 in
theorem sd_Sh_init : pm_Sl prog_7_method_1_code 2 R_Sh "<init>" (none) pm_Y (pm_b bp_Sh_init) 0 tb_Sh_init := by
  refine ⟨so_aloadn d_Sh_init_0 rfl rfl, ?_⟩
  refine ⟨so_oinit (pm_in1 (List.mem_append_left _ (List.mem_of_getElem? (i := 26) rfl))) (pm_in1 (List.mem_append_left _ (List.mem_of_getElem? (i := 19) rfl))) (pm_in1 (List.mem_append_left _ (List.mem_of_getElem? (i := 20) rfl))) d_Sh_init_1 rfl, ?_⟩
  refine ⟨so_aloadn d_Sh_init_4 rfl rfl, ?_⟩
  refine ⟨so_const2 d_Sh_init_5 (by decide) rfl, ?_⟩
  refine ⟨so_anew rfl (by decide) (fun _ => rfl) (pm_in1 (List.mem_append_left _ (List.mem_of_getElem? (i := 27) rfl))) d_Sh_init_7 rfl, ?_⟩
  refine ⟨so_putr (ci := 1) (k := 0) rfl (by decide) rfl rfl (Or.inr ⟨rfl, rfl, rfl, pm_in1 (List.mem_append_left _ (List.mem_of_getElem? (i := 66) rfl))⟩) d_Sh_init_10 rfl, ?_⟩
  refine ⟨so_aloadn d_Sh_init_13 rfl rfl, ?_⟩
  refine ⟨so_const2 d_Sh_init_14 (by decide) rfl, ?_⟩
  refine ⟨so_newi d_Sh_init_16 rfl, ?_⟩
  refine ⟨so_putr (ci := 1) (k := 1) rfl (by decide) rfl rfl (Or.inr ⟨rfl, rfl, rfl, pm_in1 (List.mem_append_left _ (List.mem_of_getElem? (i := 68) rfl))⟩) d_Sh_init_18 rfl, ?_⟩
  refine ⟨so_aloadn d_Sh_init_21 rfl rfl, ?_⟩
  refine ⟨so_newo (ci := 2) rfl (by decide +kernel) (pm_in1 (List.mem_append_left _ (List.mem_of_getElem? (i := 27) rfl))) (pm_in1 (List.mem_append_left _ (List.mem_of_getElem? (i := 29) rfl))) (pm_in1 (List.mem_append_left _ (List.mem_of_getElem? (i := 3) rfl))) d_Sh_init_22 rfl, ?_⟩
  refine ⟨so_dup d_Sh_init_25 rfl, ?_⟩
  refine ⟨so_callc rfl rfl mc_Bo_init mi_Bo mj_Bo_init ml_Sh_21 yd_Bo_init (by decide) d_Sh_init_26 rfl, ?_⟩
  refine ⟨so_putr (ci := 1) (k := 2) rfl (by decide) rfl rfl (Or.inl ⟨rfl, fl_Sh_22⟩) d_Sh_init_29 rfl, ?_⟩
  refine ⟨so_const1 d_Sh_init_32 (by decide) rfl, ?_⟩
  refine ⟨so_istoren d_Sh_init_33 rfl (by decide) rfl, ?_⟩
  refine ⟨so_iloadn d_Sh_init_34 rfl rfl, ?_⟩
  refine ⟨so_const2 d_Sh_init_35 (by decide) rfl, ?_⟩
  refine ⟨so_icmp_ge d_Sh_init_37 rfl rfl, ?_⟩
  refine ⟨so_aloadn d_Sh_init_40 rfl rfl, ?_⟩
  refine ⟨so_getr (ci := 1) (k := 0) rfl (by decide) rfl rfl fl_Sh_11 d_Sh_init_41 rfl, ?_⟩
  refine ⟨so_iloadn d_Sh_init_44 rfl rfl, ?_⟩
  refine ⟨so_newo (ci := 2) rfl (by decide +kernel) (pm_in1 (List.mem_append_left _ (List.mem_of_getElem? (i := 27) rfl))) (pm_in1 (List.mem_append_left _ (List.mem_of_getElem? (i := 29) rfl))) (pm_in1 (List.mem_append_left _ (List.mem_of_getElem? (i := 3) rfl))) d_Sh_init_45 rfl, ?_⟩
  refine ⟨so_dup d_Sh_init_48 rfl, ?_⟩
  refine ⟨so_callc rfl rfl mc_Bo_init mi_Bo mj_Bo_init ml_Sh_21 yd_Bo_init (by decide) d_Sh_init_49 rfl, ?_⟩
  refine ⟨so_aast rfl rfl (by decide) (fun _ => rfl) d_Sh_init_52 rfl, ?_⟩
  refine ⟨so_iinc d_Sh_init_53 (by decide) (by decide) rfl, ?_⟩
  refine ⟨so_goto d_Sh_init_56 rfl, ?_⟩
  refine ⟨so_aloadn d_Sh_init_59 rfl rfl, ?_⟩
  refine ⟨so_getr (ci := 1) (k := 1) rfl (by decide) rfl rfl fl_Sh_17 d_Sh_init_60 rfl, ?_⟩
  refine ⟨so_const1 d_Sh_init_63 (by decide) rfl, ?_⟩
  refine ⟨so_calls rfl mc_Ar_fill mi_Ar mt_Ar_fill ml_Sh_26 yd_Ar_fill (by decide) d_Sh_init_64 rfl, ?_⟩
  refine ⟨so_vret d_Sh_init_67 rfl, ?_⟩
  exact trivial
theorem d_Sh_addStatement_0 : decode prog_7_method_3_code 0 = .ok (.iload_n 1, 1) := by decide +kernel
theorem d_Sh_addStatement_1 : decode prog_7_method_3_code 1 = .ok (.iload_n 2, 1) := by decide +kernel
theorem d_Sh_addStatement_2 : decode prog_7_method_3_code 2 = .ok (.invokestatic 40, 3) := by decide +kernel
theorem d_Sh_addStatement_5 : decode prog_7_method_3_code 5 = .ok (.ifCond .eq 15, 3) := by decide +kernel
theorem d_Sh_addStatement_8 : decode prog_7_method_3_code 8 = .ok (.aload_n 0, 1) := by decide +kernel
theorem d_Sh_addStatement_9 : decode prog_7_method_3_code 9 = .ok (.getfield 22, 3) := by decide +kernel
theorem d_Sh_addStatement_12 : decode prog_7_method_3_code 12 = .ok (.iload_n 1, 1) := by decide +kernel
theorem d_Sh_addStatement_13 : decode prog_7_method_3_code 13 = .ok (.iload_n 2, 1) := by decide +kernel
theorem d_Sh_addStatement_14 : decode prog_7_method_3_code 14 = .ok (.invokevirtual 43, 3) := by decide +kernel
theorem d_Sh_addStatement_17 : decode prog_7_method_3_code 17 = .ok (.goto 4, 3) := by decide +kernel
theorem d_Sh_addStatement_20 : decode prog_7_method_3_code 20 = .ok (.iconst (-1), 1) := by decide +kernel
theorem d_Sh_addStatement_21 : decode prog_7_method_3_code 21 = .ok (.ireturn, 1) := by decide +kernel
def tb_Sh_addStatement : List pm_I := [
  pm_iload 1 1,
  pm_iload 2 2,
  pm_calls 3 18 2,
  pm_if 10 4 (fun a => decide (a = 0)),
  pm_aload 5 0,
  pm_getr 6 1 2,
  pm_iload 7 1,
  pm_iload 8 2,
  pm_callv 9 27 3 2,
  pm_goto 11,
  pm_const 11 (-1),
  pm_iret]
def bp_Sh_addStatement : List Nat := [0, 1, 2, 5, 8, 9, 12, 13, 14, 17, 20, 21]
set_option maxRecDepth 100000 in
theorem sd_Sh_addStatement : pm_Sl prog_7_method_3_code 3 R_Sh "addStatement" (some .int) pm_Y (pm_b bp_Sh_addStatement) 0 tb_Sh_addStatement := by
  refine ⟨so_iloadn d_Sh_addStatement_0 rfl rfl, ?_⟩
  refine ⟨so_iloadn d_Sh_addStatement_1 rfl rfl, ?_⟩
  refine ⟨so_calls rfl mc_Sh_fits mi_Sh mt_Sh_fits ml_Sh_40 yd_Sh_fits (by decide) d_Sh_addStatement_2 rfl, ?_⟩
  refine ⟨so_if_eq d_Sh_addStatement_5 rfl rfl, ?_⟩
  refine ⟨so_aloadn d_Sh_addStatement_8 rfl rfl, ?_⟩
  refine ⟨so_getr (ci := 1) (k := 2) rfl (by decide) rfl rfl fl_Sh_22 d_Sh_addStatement_9 rfl, ?_⟩
  refine ⟨so_iloadn d_Sh_addStatement_12 rfl rfl, ?_⟩
  refine ⟨so_iloadn d_Sh_addStatement_13 rfl rfl, ?_⟩
  refine ⟨so_callv (ci := 2) rfl rfl mc_Bo_append mi_Bo mj_Bo_append ms_Bo_append ml_Sh_43 yd_Bo_append (by decide) d_Sh_addStatement_14 rfl, ?_⟩
  refine ⟨so_goto d_Sh_addStatement_17 rfl, ?_⟩
  refine ⟨so_const1 d_Sh_addStatement_20 (by decide) rfl, ?_⟩
  refine ⟨so_iret d_Sh_addStatement_21 rfl, ?_⟩
  exact trivial
theorem d_Sh_fits_0 : decode prog_7_method_4_code 0 = .ok (.iload_n 0, 1) := by decide +kernel
theorem d_Sh_fits_1 : decode prog_7_method_4_code 1 = .ok (.tableswitch 79 0 10 #[59, 59, 79, 79, 66, 79, 79, 79, 79, 72, 72], 59) := by decide +kernel
theorem d_Sh_fits_60 : decode prog_7_method_4_code 60 = .ok (.iload_n 1, 1) := by decide +kernel
theorem d_Sh_fits_61 : decode prog_7_method_4_code 61 = .ok (.bipush 8, 2) := by decide +kernel
theorem d_Sh_fits_63 : decode prog_7_method_4_code 63 = .ok (.invokestatic 36, 3) := by decide +kernel
theorem d_Sh_fits_66 : decode prog_7_method_4_code 66 = .ok (.ireturn, 1) := by decide +kernel
theorem d_Sh_fits_67 : decode prog_7_method_4_code 67 = .ok (.iload_n 1, 1) := by decide +kernel
theorem d_Sh_fits_68 : decode prog_7_method_4_code 68 = .ok (.iconst 4, 1) := by decide +kernel
theorem d_Sh_fits_69 : decode prog_7_method_4_code 69 = .ok (.invokestatic 36, 3) := by decide +kernel
theorem d_Sh_fits_72 : decode prog_7_method_4_code 72 = .ok (.ireturn, 1) := by decide +kernel
theorem d_Sh_fits_73 : decode prog_7_method_4_code 73 = .ok (.iload_n 1, 1) := by decide +kernel
theorem d_Sh_fits_74 : decode prog_7_method_4_code 74 = .ok (.bipush 8, 2) := by decide +kernel
theorem d_Sh_fits_76 : decode prog_7_method_4_code 76 = .ok (.invokestatic 36, 3) := by decide +kernel
theorem d_Sh_fits_79 : decode prog_7_method_4_code 79 = .ok (.ireturn, 1) := by decide +kernel
theorem d_Sh_fits_80 : decode prog_7_method_4_code 80 = .ok (.iload_n 0, 1) := by decide +kernel
theorem d_Sh_fits_81 : decode prog_7_method_4_code 81 = .ok (.bipush 11, 2) := by decide +kernel
theorem d_Sh_fits_83 : decode prog_7_method_4_code 83 = .ok (.invokestatic 36, 3) := by decide +kernel
theorem d_Sh_fits_86 : decode prog_7_method_4_code 86 = .ok (.ireturn, 1) := by decide +kernel
def tb_Sh_fits : List pm_I := [
  pm_iload 1 0,
  pm_sw [(0, 2), (1, 2), (2, 14), (3, 14), (4, 6), (5, 14), (6, 14), (7, 14), (8, 14), (9, 10), (10, 10)] 14,
  pm_iload 3 1,
  pm_const 4 8,
  pm_calls 5 2 2,
  pm_zret,
  pm_iload 7 1,
  pm_const 8 4,
  pm_calls 9 2 2,
  pm_zret,
  pm_iload 11 1,
  pm_const 12 8,
  pm_calls 13 2 2,
  pm_zret,
  pm_iload 15 0,
  pm_const 16 11,
  pm_calls 17 2 2,
  pm_zret]
def bp_Sh_fits : List Nat := [0, 1, 60, 61, 63, 66, 67, 68, 69, 72, 73, 74, 76, 79, 80, 81, 83, 86]
set_option maxRecDepth 100000 in
theorem sd_Sh_fits : pm_Sl prog_7_method_4_code 2 R_Sh "fits" (some .boolean) pm_Y (pm_b bp_Sh_fits) 0 tb_Sh_fits := by
  refine ⟨so_iloadn d_Sh_fits_0 rfl rfl, ?_⟩
  refine ⟨so_tsw d_Sh_fits_1 (by decide +kernel) (by decide +kernel) rfl, ?_⟩
  refine ⟨so_iloadn d_Sh_fits_60 rfl rfl, ?_⟩
  refine ⟨so_const2 d_Sh_fits_61 (by decide) rfl, ?_⟩
  refine ⟨so_calls rfl mc_Lo_isBelow mi_Lo mt_Lo_isBelow ml_Sh_36 yd_Lo_isBelow (by decide) d_Sh_fits_63 rfl, ?_⟩
  refine ⟨so_zret d_Sh_fits_66 rfl, ?_⟩
  refine ⟨so_iloadn d_Sh_fits_67 rfl rfl, ?_⟩
  refine ⟨so_const1 d_Sh_fits_68 (by decide) rfl, ?_⟩
  refine ⟨so_calls rfl mc_Lo_isBelow mi_Lo mt_Lo_isBelow ml_Sh_36 yd_Lo_isBelow (by decide) d_Sh_fits_69 rfl, ?_⟩
  refine ⟨so_zret d_Sh_fits_72 rfl, ?_⟩
  refine ⟨so_iloadn d_Sh_fits_73 rfl rfl, ?_⟩
  refine ⟨so_const2 d_Sh_fits_74 (by decide) rfl, ?_⟩
  refine ⟨so_calls rfl mc_Lo_isBelow mi_Lo mt_Lo_isBelow ml_Sh_36 yd_Lo_isBelow (by decide) d_Sh_fits_76 rfl, ?_⟩
  refine ⟨so_zret d_Sh_fits_79 rfl, ?_⟩
  refine ⟨so_iloadn d_Sh_fits_80 rfl rfl, ?_⟩
  refine ⟨so_const2 d_Sh_fits_81 (by decide) rfl, ?_⟩
  refine ⟨so_calls rfl mc_Lo_isBelow mi_Lo mt_Lo_isBelow ml_Sh_36 yd_Lo_isBelow (by decide) d_Sh_fits_83 rfl, ?_⟩
  refine ⟨so_zret d_Sh_fits_86 rfl, ?_⟩
  exact trivial
theorem d_Sh_closeText_0 : decode prog_7_method_5_code 0 = .ok (.aload_n 0, 1) := by decide +kernel
theorem d_Sh_closeText_1 : decode prog_7_method_5_code 1 = .ok (.getfield 32, 3) := by decide +kernel
theorem d_Sh_closeText_4 : decode prog_7_method_5_code 4 = .ok (.bipush 8, 2) := by decide +kernel
theorem d_Sh_closeText_6 : decode prog_7_method_5_code 6 = .ok (.if_icmp .ge 14, 3) := by decide +kernel
theorem d_Sh_closeText_9 : decode prog_7_method_5_code 9 = .ok (.aload_n 0, 1) := by decide +kernel
theorem d_Sh_closeText_10 : decode prog_7_method_5_code 10 = .ok (.getfield 22, 3) := by decide +kernel
theorem d_Sh_closeText_13 : decode prog_7_method_5_code 13 = .ok (.iload_n 1, 1) := by decide +kernel
theorem d_Sh_closeText_14 : decode prog_7_method_5_code 14 = .ok (.invokevirtual 47, 3) := by decide +kernel
theorem d_Sh_closeText_17 : decode prog_7_method_5_code 17 = .ok (.ifCond .ne 12, 3) := by decide +kernel
theorem d_Sh_closeText_20 : decode prog_7_method_5_code 20 = .ok (.aload_n 0, 1) := by decide +kernel
theorem d_Sh_closeText_21 : decode prog_7_method_5_code 21 = .ok (.getfield 22, 3) := by decide +kernel
theorem d_Sh_closeText_24 : decode prog_7_method_5_code 24 = .ok (.invokevirtual 51, 3) := by decide +kernel
theorem d_Sh_closeText_27 : decode prog_7_method_5_code 27 = .ok (.iconst (-1), 1) := by decide +kernel
theorem d_Sh_closeText_28 : decode prog_7_method_5_code 28 = .ok (.ireturn, 1) := by decide +kernel
theorem d_Sh_closeText_29 : decode prog_7_method_5_code 29 = .ok (.aload_n 0, 1) := by decide +kernel
theorem d_Sh_closeText_30 : decode prog_7_method_5_code 30 = .ok (.getfield 11, 3) := by decide +kernel
theorem d_Sh_closeText_33 : decode prog_7_method_5_code 33 = .ok (.aload_n 0, 1) := by decide +kernel
theorem d_Sh_closeText_34 : decode prog_7_method_5_code 34 = .ok (.getfield 32, 3) := by decide +kernel
theorem d_Sh_closeText_37 : decode prog_7_method_5_code 37 = .ok (.aaload, 1) := by decide +kernel
theorem d_Sh_closeText_38 : decode prog_7_method_5_code 38 = .ok (.astore_n 2, 1) := by decide +kernel
theorem d_Sh_closeText_39 : decode prog_7_method_5_code 39 = .ok (.aload_n 0, 1) := by decide +kernel
theorem d_Sh_closeText_40 : decode prog_7_method_5_code 40 = .ok (.getfield 11, 3) := by decide +kernel
theorem d_Sh_closeText_43 : decode prog_7_method_5_code 43 = .ok (.aload_n 0, 1) := by decide +kernel
theorem d_Sh_closeText_44 : decode prog_7_method_5_code 44 = .ok (.getfield 32, 3) := by decide +kernel
theorem d_Sh_closeText_47 : decode prog_7_method_5_code 47 = .ok (.aload_n 0, 1) := by decide +kernel
theorem d_Sh_closeText_48 : decode prog_7_method_5_code 48 = .ok (.getfield 22, 3) := by decide +kernel
theorem d_Sh_closeText_51 : decode prog_7_method_5_code 51 = .ok (.aastore, 1) := by decide +kernel
theorem d_Sh_closeText_52 : decode prog_7_method_5_code 52 = .ok (.aload_n 0, 1) := by decide +kernel
theorem d_Sh_closeText_53 : decode prog_7_method_5_code 53 = .ok (.aload_n 2, 1) := by decide +kernel
theorem d_Sh_closeText_54 : decode prog_7_method_5_code 54 = .ok (.putfield 22, 3) := by decide +kernel
theorem d_Sh_closeText_57 : decode prog_7_method_5_code 57 = .ok (.aload_n 0, 1) := by decide +kernel
theorem d_Sh_closeText_58 : decode prog_7_method_5_code 58 = .ok (.dup, 1) := by decide +kernel
theorem d_Sh_closeText_59 : decode prog_7_method_5_code 59 = .ok (.getfield 32, 3) := by decide +kernel
theorem d_Sh_closeText_62 : decode prog_7_method_5_code 62 = .ok (.iconst 1, 1) := by decide +kernel
theorem d_Sh_closeText_63 : decode prog_7_method_5_code 63 = .ok (.iadd, 1) := by decide +kernel
theorem d_Sh_closeText_64 : decode prog_7_method_5_code 64 = .ok (.putfield 32, 3) := by decide +kernel
theorem d_Sh_closeText_67 : decode prog_7_method_5_code 67 = .ok (.aload_n 0, 1) := by decide +kernel
theorem d_Sh_closeText_68 : decode prog_7_method_5_code 68 = .ok (.getfield 32, 3) := by decide +kernel
theorem d_Sh_closeText_71 : decode prog_7_method_5_code 71 = .ok (.iconst 1, 1) := by decide +kernel
theorem d_Sh_closeText_72 : decode prog_7_method_5_code 72 = .ok (.isub, 1) := by decide +kernel
theorem d_Sh_closeText_73 : decode prog_7_method_5_code 73 = .ok (.ireturn, 1) := by decide +kernel
def tb_Sh_closeText : List pm_I := [
  pm_aload 1 0,
  pm_geti 2 1 3,
  pm_const 3 8,
  pm_icmp 9 4 (fun a b => decide (b ≤ a)),
  pm_aload 5 0,
  pm_getr 6 1 2,
  pm_iload 7 1,
  pm_callv 8 28 2 2,
  pm_if 14 9 (fun a => decide (a ≠ 0)),
  pm_aload 10 0,
  pm_getr 11 1 2,
  pm_callv 12 30 1 2,
  pm_const 13 (-1),
  pm_iret,
  pm_aload 15 0,
  pm_getr 16 1 0,
  pm_aload 17 0,
  pm_geti 18 1 3,
  pm_aald 19 2,
  pm_astore 20 2,
  pm_aload 21 0,
  pm_getr 22 1 0,
  pm_aload 23 0,
  pm_geti 24 1 3,
  pm_aload 25 0,
  pm_getr 26 1 2,
  pm_aast 27 2 2,
  pm_aload 28 0,
  pm_aload 29 2,
  pm_putr 30 1 2,
  pm_aload 31 0,
  pm_dup 32,
  pm_geti 33 1 3,
  pm_const 34 1,
  pm_bin 35 (fun a b => a + b),
  pm_puti 36 1 3,
  pm_aload 37 0,
  pm_geti 38 1 3,
  pm_const 39 1,
  pm_bin 40 (fun a b => a - b),
  pm_iret]
def bp_Sh_closeText : List Nat := [0, 1, 4, 6, 9, 10, 13, 14, 17, 20, 21, 24, 27, 28, 29, 30, 33, 34, 37, 38, 39, 40, 43, 44, 47, 48, 51, 52, 53, 54, 57, 58, 59, 62, 63, 64, 67, 68, 71, 72, 73]
set_option maxRecDepth 100000 in
theorem sd_Sh_closeText : pm_Sl prog_7_method_5_code 3 R_Sh "closeText" (some .int) pm_Y (pm_b bp_Sh_closeText) 0 tb_Sh_closeText := by
  refine ⟨so_aloadn d_Sh_closeText_0 rfl rfl, ?_⟩
  refine ⟨so_geti (ci := 1) (k := 3) rfl (by decide) rfl rfl fl_Sh_32 d_Sh_closeText_1 rfl, ?_⟩
  refine ⟨so_const2 d_Sh_closeText_4 (by decide) rfl, ?_⟩
  refine ⟨so_icmp_ge d_Sh_closeText_6 rfl rfl, ?_⟩
  refine ⟨so_aloadn d_Sh_closeText_9 rfl rfl, ?_⟩
  refine ⟨so_getr (ci := 1) (k := 2) rfl (by decide) rfl rfl fl_Sh_22 d_Sh_closeText_10 rfl, ?_⟩
  refine ⟨so_iloadn d_Sh_closeText_13 rfl rfl, ?_⟩
  refine ⟨so_callv (ci := 2) rfl rfl mc_Bo_joinBlocks mi_Bo mj_Bo_joinBlocks ms_Bo_joinBlocks ml_Sh_47 yd_Bo_joinBlocks (by decide) d_Sh_closeText_14 rfl, ?_⟩
  refine ⟨so_if_ne d_Sh_closeText_17 rfl rfl, ?_⟩
  refine ⟨so_aloadn d_Sh_closeText_20 rfl rfl, ?_⟩
  refine ⟨so_getr (ci := 1) (k := 2) rfl (by decide) rfl rfl fl_Sh_22 d_Sh_closeText_21 rfl, ?_⟩
  refine ⟨so_callv (ci := 2) rfl rfl mc_Bo_clear mi_Bo mj_Bo_clear ms_Bo_clear ml_Sh_51 yd_Bo_clear (by decide) d_Sh_closeText_24 rfl, ?_⟩
  refine ⟨so_const1 d_Sh_closeText_27 (by decide) rfl, ?_⟩
  refine ⟨so_iret d_Sh_closeText_28 rfl, ?_⟩
  refine ⟨so_aloadn d_Sh_closeText_29 rfl rfl, ?_⟩
  refine ⟨so_getr (ci := 1) (k := 0) rfl (by decide) rfl rfl fl_Sh_11 d_Sh_closeText_30 rfl, ?_⟩
  refine ⟨so_aloadn d_Sh_closeText_33 rfl rfl, ?_⟩
  refine ⟨so_geti (ci := 1) (k := 3) rfl (by decide) rfl rfl fl_Sh_32 d_Sh_closeText_34 rfl, ?_⟩
  refine ⟨so_aald rfl (by decide) (fun _ => rfl) d_Sh_closeText_37 rfl, ?_⟩
  refine ⟨so_astoren d_Sh_closeText_38 rfl (by decide) rfl, ?_⟩
  refine ⟨so_aloadn d_Sh_closeText_39 rfl rfl, ?_⟩
  refine ⟨so_getr (ci := 1) (k := 0) rfl (by decide) rfl rfl fl_Sh_11 d_Sh_closeText_40 rfl, ?_⟩
  refine ⟨so_aloadn d_Sh_closeText_43 rfl rfl, ?_⟩
  refine ⟨so_geti (ci := 1) (k := 3) rfl (by decide) rfl rfl fl_Sh_32 d_Sh_closeText_44 rfl, ?_⟩
  refine ⟨so_aloadn d_Sh_closeText_47 rfl rfl, ?_⟩
  refine ⟨so_getr (ci := 1) (k := 2) rfl (by decide) rfl rfl fl_Sh_22 d_Sh_closeText_48 rfl, ?_⟩
  refine ⟨so_aast rfl rfl (by decide) (fun _ => rfl) d_Sh_closeText_51 rfl, ?_⟩
  refine ⟨so_aloadn d_Sh_closeText_52 rfl rfl, ?_⟩
  refine ⟨so_aloadn d_Sh_closeText_53 rfl rfl, ?_⟩
  refine ⟨so_putr (ci := 1) (k := 2) rfl (by decide) rfl rfl (Or.inl ⟨rfl, fl_Sh_22⟩) d_Sh_closeText_54 rfl, ?_⟩
  refine ⟨so_aloadn d_Sh_closeText_57 rfl rfl, ?_⟩
  refine ⟨so_dup d_Sh_closeText_58 rfl, ?_⟩
  refine ⟨so_geti (ci := 1) (k := 3) rfl (by decide) rfl rfl fl_Sh_32 d_Sh_closeText_59 rfl, ?_⟩
  refine ⟨so_const1 d_Sh_closeText_62 (by decide) rfl, ?_⟩
  refine ⟨so_iadd d_Sh_closeText_63 rfl, ?_⟩
  refine ⟨so_puti (ci := 1) (k := 3) rfl (by decide) rfl rfl (Or.inl ⟨rfl, fl_Sh_32⟩) d_Sh_closeText_64 rfl, ?_⟩
  refine ⟨so_aloadn d_Sh_closeText_67 rfl rfl, ?_⟩
  refine ⟨so_geti (ci := 1) (k := 3) rfl (by decide) rfl rfl fl_Sh_32 d_Sh_closeText_68 rfl, ?_⟩
  refine ⟨so_const1 d_Sh_closeText_71 (by decide) rfl, ?_⟩
  refine ⟨so_isub d_Sh_closeText_72 rfl, ?_⟩
  refine ⟨so_iret d_Sh_closeText_73 rfl, ?_⟩
  exact trivial
theorem d_Sh_setGuard_0 : decode prog_7_method_6_code 0 = .ok (.iload_n 1, 1) := by decide +kernel
theorem d_Sh_setGuard_1 : decode prog_7_method_6_code 1 = .ok (.bipush 8, 2) := by decide +kernel
theorem d_Sh_setGuard_3 : decode prog_7_method_6_code 3 = .ok (.invokestatic 36, 3) := by decide +kernel
theorem d_Sh_setGuard_6 : decode prog_7_method_6_code 6 = .ok (.ifCond .eq 16, 3) := by decide +kernel
theorem d_Sh_setGuard_9 : decode prog_7_method_6_code 9 = .ok (.iload_n 2, 1) := by decide +kernel
theorem d_Sh_setGuard_10 : decode prog_7_method_6_code 10 = .ok (.iconst (-1), 1) := by decide +kernel
theorem d_Sh_setGuard_11 : decode prog_7_method_6_code 11 = .ok (.if_icmp .eq 13, 3) := by decide +kernel
theorem d_Sh_setGuard_14 : decode prog_7_method_6_code 14 = .ok (.iload_n 2, 1) := by decide +kernel
theorem d_Sh_setGuard_15 : decode prog_7_method_6_code 15 = .ok (.iconst 4, 1) := by decide +kernel
theorem d_Sh_setGuard_16 : decode prog_7_method_6_code 16 = .ok (.invokestatic 36, 3) := by decide +kernel
theorem d_Sh_setGuard_19 : decode prog_7_method_6_code 19 = .ok (.ifCond .ne 5, 3) := by decide +kernel
theorem d_Sh_setGuard_22 : decode prog_7_method_6_code 22 = .ok (.iconst 0, 1) := by decide +kernel
theorem d_Sh_setGuard_23 : decode prog_7_method_6_code 23 = .ok (.ireturn, 1) := by decide +kernel
theorem d_Sh_setGuard_24 : decode prog_7_method_6_code 24 = .ok (.aload_n 0, 1) := by decide +kernel
theorem d_Sh_setGuard_25 : decode prog_7_method_6_code 25 = .ok (.getfield 17, 3) := by decide +kernel
theorem d_Sh_setGuard_28 : decode prog_7_method_6_code 28 = .ok (.iload_n 1, 1) := by decide +kernel
theorem d_Sh_setGuard_29 : decode prog_7_method_6_code 29 = .ok (.iload_n 2, 1) := by decide +kernel
theorem d_Sh_setGuard_30 : decode prog_7_method_6_code 30 = .ok (.iastore, 1) := by decide +kernel
theorem d_Sh_setGuard_31 : decode prog_7_method_6_code 31 = .ok (.iconst 1, 1) := by decide +kernel
theorem d_Sh_setGuard_32 : decode prog_7_method_6_code 32 = .ok (.ireturn, 1) := by decide +kernel
def tb_Sh_setGuard : List pm_I := [
  pm_iload 1 1,
  pm_const 2 8,
  pm_calls 3 2 2,
  pm_if 11 4 (fun a => decide (a = 0)),
  pm_iload 5 2,
  pm_const 6 (-1),
  pm_icmp 13 7 (fun a b => decide (a = b)),
  pm_iload 8 2,
  pm_const 9 4,
  pm_calls 10 2 2,
  pm_if 13 11 (fun a => decide (a ≠ 0)),
  pm_const 12 0,
  pm_zret,
  pm_aload 14 0,
  pm_getr 15 1 1,
  pm_iload 16 1,
  pm_iload 17 2,
  pm_iast 18,
  pm_const 19 1,
  pm_zret]
def bp_Sh_setGuard : List Nat := [0, 1, 3, 6, 9, 10, 11, 14, 15, 16, 19, 22, 23, 24, 25, 28, 29, 30, 31, 32]
set_option maxRecDepth 100000 in
theorem sd_Sh_setGuard : pm_Sl prog_7_method_6_code 3 R_Sh "setGuard" (some .boolean) pm_Y (pm_b bp_Sh_setGuard) 0 tb_Sh_setGuard := by
  refine ⟨so_iloadn d_Sh_setGuard_0 rfl rfl, ?_⟩
  refine ⟨so_const2 d_Sh_setGuard_1 (by decide) rfl, ?_⟩
  refine ⟨so_calls rfl mc_Lo_isBelow mi_Lo mt_Lo_isBelow ml_Sh_36 yd_Lo_isBelow (by decide) d_Sh_setGuard_3 rfl, ?_⟩
  refine ⟨so_if_eq d_Sh_setGuard_6 rfl rfl, ?_⟩
  refine ⟨so_iloadn d_Sh_setGuard_9 rfl rfl, ?_⟩
  refine ⟨so_const1 d_Sh_setGuard_10 (by decide) rfl, ?_⟩
  refine ⟨so_icmp_eq d_Sh_setGuard_11 rfl rfl, ?_⟩
  refine ⟨so_iloadn d_Sh_setGuard_14 rfl rfl, ?_⟩
  refine ⟨so_const1 d_Sh_setGuard_15 (by decide) rfl, ?_⟩
  refine ⟨so_calls rfl mc_Lo_isBelow mi_Lo mt_Lo_isBelow ml_Sh_36 yd_Lo_isBelow (by decide) d_Sh_setGuard_16 rfl, ?_⟩
  refine ⟨so_if_ne d_Sh_setGuard_19 rfl rfl, ?_⟩
  refine ⟨so_const1 d_Sh_setGuard_22 (by decide) rfl, ?_⟩
  refine ⟨so_zret d_Sh_setGuard_23 rfl, ?_⟩
  refine ⟨so_aloadn d_Sh_setGuard_24 rfl rfl, ?_⟩
  refine ⟨so_getr (ci := 1) (k := 1) rfl (by decide) rfl rfl fl_Sh_17 d_Sh_setGuard_25 rfl, ?_⟩
  refine ⟨so_iloadn d_Sh_setGuard_28 rfl rfl, ?_⟩
  refine ⟨so_iloadn d_Sh_setGuard_29 rfl rfl, ?_⟩
  refine ⟨so_iast d_Sh_setGuard_30 rfl, ?_⟩
  refine ⟨so_const1 d_Sh_setGuard_31 (by decide) rfl, ?_⟩
  refine ⟨so_zret d_Sh_setGuard_32 rfl, ?_⟩
  exact trivial
theorem d_Sh_contains_0 : decode prog_7_method_2_code 0 = .ok (.iload_n 1, 1) := by decide +kernel
theorem d_Sh_contains_1 : decode prog_7_method_2_code 1 = .ok (.aload_n 0, 1) := by decide +kernel
theorem d_Sh_contains_2 : decode prog_7_method_2_code 2 = .ok (.getfield 32, 3) := by decide +kernel
theorem d_Sh_contains_5 : decode prog_7_method_2_code 5 = .ok (.invokestatic 36, 3) := by decide +kernel
theorem d_Sh_contains_8 : decode prog_7_method_2_code 8 = .ok (.ireturn, 1) := by decide +kernel
def tb_Sh_contains : List pm_I := [
  pm_iload 1 1,
  pm_aload 2 0,
  pm_geti 3 1 3,
  pm_calls 4 2 2,
  pm_zret]
def bp_Sh_contains : List Nat := [0, 1, 2, 5, 8]
set_option maxRecDepth 100000 in
theorem sd_Sh_contains : pm_Sl prog_7_method_2_code 2 R_Sh "contains" (some .boolean) pm_Y (pm_b bp_Sh_contains) 0 tb_Sh_contains := by
  refine ⟨so_iloadn d_Sh_contains_0 rfl rfl, ?_⟩
  refine ⟨so_aloadn d_Sh_contains_1 rfl rfl, ?_⟩
  refine ⟨so_geti (ci := 1) (k := 3) rfl (by decide) rfl rfl fl_Sh_32 d_Sh_contains_2 rfl, ?_⟩
  refine ⟨so_calls rfl mc_Lo_isBelow mi_Lo mt_Lo_isBelow ml_Sh_36 yd_Lo_isBelow (by decide) d_Sh_contains_5 rfl, ?_⟩
  refine ⟨so_zret d_Sh_contains_8 rfl, ?_⟩
  exact trivial
theorem d_Sh_firstWrong_0 : decode prog_7_method_7_code 0 = .ok (.aload_n 0, 1) := by decide +kernel
theorem d_Sh_firstWrong_1 : decode prog_7_method_7_code 1 = .ok (.getfield 11, 3) := by decide +kernel
theorem d_Sh_firstWrong_4 : decode prog_7_method_7_code 4 = .ok (.iload_n 1, 1) := by decide +kernel
theorem d_Sh_firstWrong_5 : decode prog_7_method_7_code 5 = .ok (.aaload, 1) := by decide +kernel
theorem d_Sh_firstWrong_6 : decode prog_7_method_7_code 6 = .ok (.astore_n 2, 1) := by decide +kernel
theorem d_Sh_firstWrong_7 : decode prog_7_method_7_code 7 = .ok (.iconst 0, 1) := by decide +kernel
theorem d_Sh_firstWrong_8 : decode prog_7_method_7_code 8 = .ok (.istore_n 3, 1) := by decide +kernel
theorem d_Sh_firstWrong_9 : decode prog_7_method_7_code 9 = .ok (.iload_n 3, 1) := by decide +kernel
theorem d_Sh_firstWrong_10 : decode prog_7_method_7_code 10 = .ok (.aload_n 2, 1) := by decide +kernel
theorem d_Sh_firstWrong_11 : decode prog_7_method_7_code 11 = .ok (.getfield 54, 3) := by decide +kernel
theorem d_Sh_firstWrong_14 : decode prog_7_method_7_code 14 = .ok (.if_icmp .ge 20, 3) := by decide +kernel
theorem d_Sh_firstWrong_17 : decode prog_7_method_7_code 17 = .ok (.aload_n 0, 1) := by decide +kernel
theorem d_Sh_firstWrong_18 : decode prog_7_method_7_code 18 = .ok (.aload_n 2, 1) := by decide +kernel
theorem d_Sh_firstWrong_19 : decode prog_7_method_7_code 19 = .ok (.iload_n 3, 1) := by decide +kernel
theorem d_Sh_firstWrong_20 : decode prog_7_method_7_code 20 = .ok (.invokevirtual 57, 3) := by decide +kernel
theorem d_Sh_firstWrong_23 : decode prog_7_method_7_code 23 = .ok (.ifCond .ne 5, 3) := by decide +kernel
theorem d_Sh_firstWrong_26 : decode prog_7_method_7_code 26 = .ok (.iload_n 3, 1) := by decide +kernel
theorem d_Sh_firstWrong_27 : decode prog_7_method_7_code 27 = .ok (.ireturn, 1) := by decide +kernel
theorem d_Sh_firstWrong_28 : decode prog_7_method_7_code 28 = .ok (.iinc 3 1, 3) := by decide +kernel
theorem d_Sh_firstWrong_31 : decode prog_7_method_7_code 31 = .ok (.goto (-22), 3) := by decide +kernel
theorem d_Sh_firstWrong_34 : decode prog_7_method_7_code 34 = .ok (.aload_n 2, 1) := by decide +kernel
theorem d_Sh_firstWrong_35 : decode prog_7_method_7_code 35 = .ok (.getfield 54, 3) := by decide +kernel
theorem d_Sh_firstWrong_38 : decode prog_7_method_7_code 38 = .ok (.ireturn, 1) := by decide +kernel
def tb_Sh_firstWrong : List pm_I := [
  pm_aload 1 0,
  pm_getr 2 1 0,
  pm_iload 3 1,
  pm_aald 4 2,
  pm_astore 5 2,
  pm_const 6 0,
  pm_istore 7 3,
  pm_iload 8 3,
  pm_aload 9 2,
  pm_geti 10 2 4,
  pm_icmp 20 11 (fun a b => decide (b ≤ a)),
  pm_aload 12 0,
  pm_aload 13 2,
  pm_iload 14 3,
  pm_callv 15 23 3 1,
  pm_if 18 16 (fun a => decide (a ≠ 0)),
  pm_iload 17 3,
  pm_iret,
  pm_iinc 19 3 1,
  pm_goto 7,
  pm_aload 21 2,
  pm_geti 22 2 4,
  pm_iret]
def bp_Sh_firstWrong : List Nat := [0, 1, 4, 5, 6, 7, 8, 9, 10, 11, 14, 17, 18, 19, 20, 23, 26, 27, 28, 31, 34, 35, 38]
set_option maxRecDepth 100000 in
theorem sd_Sh_firstWrong : pm_Sl prog_7_method_7_code 4 R_Sh "firstWrong" (some .int) pm_Y (pm_b bp_Sh_firstWrong) 0 tb_Sh_firstWrong := by
  refine ⟨so_aloadn d_Sh_firstWrong_0 rfl rfl, ?_⟩
  refine ⟨so_getr (ci := 1) (k := 0) rfl (by decide) rfl rfl fl_Sh_11 d_Sh_firstWrong_1 rfl, ?_⟩
  refine ⟨so_iloadn d_Sh_firstWrong_4 rfl rfl, ?_⟩
  refine ⟨so_aald rfl (by decide) (fun _ => rfl) d_Sh_firstWrong_5 rfl, ?_⟩
  refine ⟨so_astoren d_Sh_firstWrong_6 rfl (by decide) rfl, ?_⟩
  refine ⟨so_const1 d_Sh_firstWrong_7 (by decide) rfl, ?_⟩
  refine ⟨so_istoren d_Sh_firstWrong_8 rfl (by decide) rfl, ?_⟩
  refine ⟨so_iloadn d_Sh_firstWrong_9 rfl rfl, ?_⟩
  refine ⟨so_aloadn d_Sh_firstWrong_10 rfl rfl, ?_⟩
  refine ⟨so_geti (ci := 2) (k := 4) rfl (by decide) rfl rfl fl_Sh_54 d_Sh_firstWrong_11 rfl, ?_⟩
  refine ⟨so_icmp_ge d_Sh_firstWrong_14 rfl rfl, ?_⟩
  refine ⟨so_aloadn d_Sh_firstWrong_17 rfl rfl, ?_⟩
  refine ⟨so_aloadn d_Sh_firstWrong_18 rfl rfl, ?_⟩
  refine ⟨so_iloadn d_Sh_firstWrong_19 rfl rfl, ?_⟩
  refine ⟨so_callv (ci := 1) rfl rfl mc_Sh_isRight mi_Sh mj_Sh_isRight ms_Sh_isRight ml_Sh_57 yd_Sh_isRight (by decide) d_Sh_firstWrong_20 rfl, ?_⟩
  refine ⟨so_if_ne d_Sh_firstWrong_23 rfl rfl, ?_⟩
  refine ⟨so_iloadn d_Sh_firstWrong_26 rfl rfl, ?_⟩
  refine ⟨so_iret d_Sh_firstWrong_27 rfl, ?_⟩
  refine ⟨so_iinc d_Sh_firstWrong_28 (by decide) (by decide) rfl, ?_⟩
  refine ⟨so_goto d_Sh_firstWrong_31 rfl, ?_⟩
  refine ⟨so_aloadn d_Sh_firstWrong_34 rfl rfl, ?_⟩
  refine ⟨so_geti (ci := 2) (k := 4) rfl (by decide) rfl rfl fl_Sh_54 d_Sh_firstWrong_35 rfl, ?_⟩
  refine ⟨so_iret d_Sh_firstWrong_38 rfl, ?_⟩
  exact trivial
theorem d_Sh_isRight_0 : decode prog_7_method_9_code 0 = .ok (.aload_n 1, 1) := by decide +kernel
theorem d_Sh_isRight_1 : decode prog_7_method_9_code 1 = .ok (.getfield 65, 3) := by decide +kernel
theorem d_Sh_isRight_4 : decode prog_7_method_9_code 4 = .ok (.iload_n 2, 1) := by decide +kernel
theorem d_Sh_isRight_5 : decode prog_7_method_9_code 5 = .ok (.iaload, 1) := by decide +kernel
theorem d_Sh_isRight_6 : decode prog_7_method_9_code 6 = .ok (.istore_n 3, 1) := by decide +kernel
theorem d_Sh_isRight_7 : decode prog_7_method_9_code 7 = .ok (.aload_n 1, 1) := by decide +kernel
theorem d_Sh_isRight_8 : decode prog_7_method_9_code 8 = .ok (.getfield 68, 3) := by decide +kernel
theorem d_Sh_isRight_11 : decode prog_7_method_9_code 11 = .ok (.iload_n 2, 1) := by decide +kernel
theorem d_Sh_isRight_12 : decode prog_7_method_9_code 12 = .ok (.iaload, 1) := by decide +kernel
theorem d_Sh_isRight_13 : decode prog_7_method_9_code 13 = .ok (.istore 4, 2) := by decide +kernel
theorem d_Sh_isRight_15 : decode prog_7_method_9_code 15 = .ok (.aload_n 1, 1) := by decide +kernel
theorem d_Sh_isRight_16 : decode prog_7_method_9_code 16 = .ok (.getfield 71, 3) := by decide +kernel
theorem d_Sh_isRight_19 : decode prog_7_method_9_code 19 = .ok (.iload_n 2, 1) := by decide +kernel
theorem d_Sh_isRight_20 : decode prog_7_method_9_code 20 = .ok (.iaload, 1) := by decide +kernel
theorem d_Sh_isRight_21 : decode prog_7_method_9_code 21 = .ok (.lookupswitch 152 #[(0, 43), (1, 69), (9, 95), (10, 121)], 43) := by decide +kernel
theorem d_Sh_isRight_64 : decode prog_7_method_9_code 64 = .ok (.aload_n 0, 1) := by decide +kernel
theorem d_Sh_isRight_65 : decode prog_7_method_9_code 65 = .ok (.getfield 17, 3) := by decide +kernel
theorem d_Sh_isRight_68 : decode prog_7_method_9_code 68 = .ok (.iload_n 3, 1) := by decide +kernel
theorem d_Sh_isRight_69 : decode prog_7_method_9_code 69 = .ok (.iaload, 1) := by decide +kernel
theorem d_Sh_isRight_70 : decode prog_7_method_9_code 70 = .ok (.iconst (-1), 1) := by decide +kernel
theorem d_Sh_isRight_71 : decode prog_7_method_9_code 71 = .ok (.if_icmp .eq 13, 3) := by decide +kernel
theorem d_Sh_isRight_74 : decode prog_7_method_9_code 74 = .ok (.aload_n 0, 1) := by decide +kernel
theorem d_Sh_isRight_75 : decode prog_7_method_9_code 75 = .ok (.iload_n 3, 1) := by decide +kernel
theorem d_Sh_isRight_76 : decode prog_7_method_9_code 76 = .ok (.iload 4, 2) := by decide +kernel
theorem d_Sh_isRight_78 : decode prog_7_method_9_code 78 = .ok (.invokevirtual 74, 3) := by decide +kernel
theorem d_Sh_isRight_81 : decode prog_7_method_9_code 81 = .ok (.ifCond .eq 7, 3) := by decide +kernel
theorem d_Sh_isRight_84 : decode prog_7_method_9_code 84 = .ok (.iconst 1, 1) := by decide +kernel
theorem d_Sh_isRight_85 : decode prog_7_method_9_code 85 = .ok (.goto 4, 3) := by decide +kernel
theorem d_Sh_isRight_88 : decode prog_7_method_9_code 88 = .ok (.iconst 0, 1) := by decide +kernel
theorem d_Sh_isRight_89 : decode prog_7_method_9_code 89 = .ok (.ireturn, 1) := by decide +kernel
theorem d_Sh_isRight_90 : decode prog_7_method_9_code 90 = .ok (.aload_n 0, 1) := by decide +kernel
theorem d_Sh_isRight_91 : decode prog_7_method_9_code 91 = .ok (.getfield 17, 3) := by decide +kernel
theorem d_Sh_isRight_94 : decode prog_7_method_9_code 94 = .ok (.iload_n 3, 1) := by decide +kernel
theorem d_Sh_isRight_95 : decode prog_7_method_9_code 95 = .ok (.iaload, 1) := by decide +kernel
theorem d_Sh_isRight_96 : decode prog_7_method_9_code 96 = .ok (.iconst (-1), 1) := by decide +kernel
theorem d_Sh_isRight_97 : decode prog_7_method_9_code 97 = .ok (.if_icmp .eq 17, 3) := by decide +kernel
theorem d_Sh_isRight_100 : decode prog_7_method_9_code 100 = .ok (.aload_n 0, 1) := by decide +kernel
theorem d_Sh_isRight_101 : decode prog_7_method_9_code 101 = .ok (.iload_n 3, 1) := by decide +kernel
theorem d_Sh_isRight_102 : decode prog_7_method_9_code 102 = .ok (.iload 4, 2) := by decide +kernel
theorem d_Sh_isRight_104 : decode prog_7_method_9_code 104 = .ok (.invokevirtual 74, 3) := by decide +kernel
theorem d_Sh_isRight_107 : decode prog_7_method_9_code 107 = .ok (.ifCond .eq 7, 3) := by decide +kernel
theorem d_Sh_isRight_110 : decode prog_7_method_9_code 110 = .ok (.iconst 1, 1) := by decide +kernel
theorem d_Sh_isRight_111 : decode prog_7_method_9_code 111 = .ok (.goto 4, 3) := by decide +kernel
theorem d_Sh_isRight_114 : decode prog_7_method_9_code 114 = .ok (.iconst 0, 1) := by decide +kernel
theorem d_Sh_isRight_115 : decode prog_7_method_9_code 115 = .ok (.ireturn, 1) := by decide +kernel
theorem d_Sh_isRight_116 : decode prog_7_method_9_code 116 = .ok (.aload_n 0, 1) := by decide +kernel
theorem d_Sh_isRight_117 : decode prog_7_method_9_code 117 = .ok (.iload_n 3, 1) := by decide +kernel
theorem d_Sh_isRight_118 : decode prog_7_method_9_code 118 = .ok (.invokevirtual 77, 3) := by decide +kernel
theorem d_Sh_isRight_121 : decode prog_7_method_9_code 121 = .ok (.ifCond .eq 19, 3) := by decide +kernel
theorem d_Sh_isRight_124 : decode prog_7_method_9_code 124 = .ok (.aload_n 0, 1) := by decide +kernel
theorem d_Sh_isRight_125 : decode prog_7_method_9_code 125 = .ok (.getfield 11, 3) := by decide +kernel
theorem d_Sh_isRight_128 : decode prog_7_method_9_code 128 = .ok (.iload_n 3, 1) := by decide +kernel
theorem d_Sh_isRight_129 : decode prog_7_method_9_code 129 = .ok (.aaload, 1) := by decide +kernel
theorem d_Sh_isRight_130 : decode prog_7_method_9_code 130 = .ok (.getfield 80, 3) := by decide +kernel
theorem d_Sh_isRight_133 : decode prog_7_method_9_code 133 = .ok (.ifCond .ne 7, 3) := by decide +kernel
theorem d_Sh_isRight_136 : decode prog_7_method_9_code 136 = .ok (.iconst 1, 1) := by decide +kernel
theorem d_Sh_isRight_137 : decode prog_7_method_9_code 137 = .ok (.goto 4, 3) := by decide +kernel
theorem d_Sh_isRight_140 : decode prog_7_method_9_code 140 = .ok (.iconst 0, 1) := by decide +kernel
theorem d_Sh_isRight_141 : decode prog_7_method_9_code 141 = .ok (.ireturn, 1) := by decide +kernel
theorem d_Sh_isRight_142 : decode prog_7_method_9_code 142 = .ok (.aload_n 0, 1) := by decide +kernel
theorem d_Sh_isRight_143 : decode prog_7_method_9_code 143 = .ok (.iload_n 3, 1) := by decide +kernel
theorem d_Sh_isRight_144 : decode prog_7_method_9_code 144 = .ok (.invokevirtual 77, 3) := by decide +kernel
theorem d_Sh_isRight_147 : decode prog_7_method_9_code 147 = .ok (.ifCond .eq 24, 3) := by decide +kernel
theorem d_Sh_isRight_150 : decode prog_7_method_9_code 150 = .ok (.aload_n 0, 1) := by decide +kernel
theorem d_Sh_isRight_151 : decode prog_7_method_9_code 151 = .ok (.getfield 11, 3) := by decide +kernel
theorem d_Sh_isRight_154 : decode prog_7_method_9_code 154 = .ok (.iload_n 3, 1) := by decide +kernel
theorem d_Sh_isRight_155 : decode prog_7_method_9_code 155 = .ok (.aaload, 1) := by decide +kernel
theorem d_Sh_isRight_156 : decode prog_7_method_9_code 156 = .ok (.getfield 80, 3) := by decide +kernel
theorem d_Sh_isRight_159 : decode prog_7_method_9_code 159 = .ok (.iload 4, 2) := by decide +kernel
theorem d_Sh_isRight_161 : decode prog_7_method_9_code 161 = .ok (.iconst (-1), 1) := by decide +kernel
theorem d_Sh_isRight_162 : decode prog_7_method_9_code 162 = .ok (.ixor, 1) := by decide +kernel
theorem d_Sh_isRight_163 : decode prog_7_method_9_code 163 = .ok (.iand, 1) := by decide +kernel
theorem d_Sh_isRight_164 : decode prog_7_method_9_code 164 = .ok (.ifCond .ne 7, 3) := by decide +kernel
theorem d_Sh_isRight_167 : decode prog_7_method_9_code 167 = .ok (.iconst 1, 1) := by decide +kernel
theorem d_Sh_isRight_168 : decode prog_7_method_9_code 168 = .ok (.goto 4, 3) := by decide +kernel
theorem d_Sh_isRight_171 : decode prog_7_method_9_code 171 = .ok (.iconst 0, 1) := by decide +kernel
theorem d_Sh_isRight_172 : decode prog_7_method_9_code 172 = .ok (.ireturn, 1) := by decide +kernel
theorem d_Sh_isRight_173 : decode prog_7_method_9_code 173 = .ok (.iconst 1, 1) := by decide +kernel
theorem d_Sh_isRight_174 : decode prog_7_method_9_code 174 = .ok (.ireturn, 1) := by decide +kernel
def tb_Sh_isRight : List pm_I := [
  pm_aload 1 1,
  pm_getr 2 2 1,
  pm_iload 3 2,
  pm_iald 4 0,
  pm_istore 5 3,
  pm_aload 6 1,
  pm_getr 7 2 3,
  pm_iload 8 2,
  pm_iald 9 0,
  pm_istore 10 4,
  pm_aload 11 1,
  pm_getr 12 2 0,
  pm_iload 13 2,
  pm_iald 14 0,
  pm_sw [(0, 15), (1, 30), (9, 45), (10, 59)] 77,
  pm_aload 16 0,
  pm_getr 17 1 1,
  pm_iload 18 3,
  pm_iald 19 0,
  pm_const 20 (-1),
  pm_icmp 26 21 (fun a b => decide (a = b)),
  pm_aload 22 0,
  pm_iload 23 3,
  pm_iload 24 4,
  pm_callv 25 24 3 1,
  pm_if 28 26 (fun a => decide (a = 0)),
  pm_const 27 1,
  pm_goto 29,
  pm_const 29 0,
  pm_zret,
  pm_aload 31 0,
  pm_getr 32 1 1,
  pm_iload 33 3,
  pm_iald 34 0,
  pm_const 35 (-1),
  pm_icmp 43 36 (fun a b => decide (a = b)),
  pm_aload 37 0,
  pm_iload 38 3,
  pm_iload 39 4,
  pm_callv 40 24 3 1,
  pm_if 43 41 (fun a => decide (a = 0)),
  pm_const 42 1,
  pm_goto 44,
  pm_const 44 0,
  pm_zret,
  pm_aload 46 0,
  pm_iload 47 3,
  pm_callv 48 21 2 1,
  pm_if 57 49 (fun a => decide (a = 0)),
  pm_aload 50 0,
  pm_getr 51 1 0,
  pm_iload 52 3,
  pm_aald 53 2,
  pm_geti 54 2 5,
  pm_if 57 55 (fun a => decide (a ≠ 0)),
  pm_const 56 1,
  pm_goto 58,
  pm_const 58 0,
  pm_zret,
  pm_aload 60 0,
  pm_iload 61 3,
  pm_callv 62 21 2 1,
  pm_if 75 63 (fun a => decide (a = 0)),
  pm_aload 64 0,
  pm_getr 65 1 0,
  pm_iload 66 3,
  pm_aald 67 2,
  pm_geti 68 2 5,
  pm_iload 69 4,
  pm_const 70 (-1),
  pm_bin 71 (fun a b => a ^^^ b),
  pm_bin 72 (fun a b => a &&& b),
  pm_if 75 73 (fun a => decide (a ≠ 0)),
  pm_const 74 1,
  pm_goto 76,
  pm_const 76 0,
  pm_zret,
  pm_const 78 1,
  pm_zret]
def bp_Sh_isRight : List Nat := [0, 1, 4, 5, 6, 7, 8, 11, 12, 13, 15, 16, 19, 20, 21, 64, 65, 68, 69, 70, 71, 74, 75, 76, 78, 81, 84, 85, 88, 89, 90, 91, 94, 95, 96, 97, 100, 101, 102, 104, 107, 110, 111, 114, 115, 116, 117, 118, 121, 124, 125, 128, 129, 130, 133, 136, 137, 140, 141, 142, 143, 144, 147, 150, 151, 154, 155, 156, 159, 161, 162, 163, 164, 167, 168, 171, 172, 173, 174]
set_option maxRecDepth 100000 in
theorem sd_Sh_isRight : pm_Sl prog_7_method_9_code 5 R_Sh "isRight" (some .boolean) pm_Y (pm_b bp_Sh_isRight) 0 tb_Sh_isRight := by
  refine ⟨so_aloadn d_Sh_isRight_0 rfl rfl, ?_⟩
  refine ⟨so_getr (ci := 2) (k := 1) rfl (by decide) rfl rfl fl_Sh_65 d_Sh_isRight_1 rfl, ?_⟩
  refine ⟨so_iloadn d_Sh_isRight_4 rfl rfl, ?_⟩
  refine ⟨so_iald d_Sh_isRight_5 rfl, ?_⟩
  refine ⟨so_istoren d_Sh_isRight_6 rfl (by decide) rfl, ?_⟩
  refine ⟨so_aloadn d_Sh_isRight_7 rfl rfl, ?_⟩
  refine ⟨so_getr (ci := 2) (k := 3) rfl (by decide) rfl rfl fl_Sh_68 d_Sh_isRight_8 rfl, ?_⟩
  refine ⟨so_iloadn d_Sh_isRight_11 rfl rfl, ?_⟩
  refine ⟨so_iald d_Sh_isRight_12 rfl, ?_⟩
  refine ⟨so_istore d_Sh_isRight_13 (by decide) rfl, ?_⟩
  refine ⟨so_aloadn d_Sh_isRight_15 rfl rfl, ?_⟩
  refine ⟨so_getr (ci := 2) (k := 0) rfl (by decide) rfl rfl fl_Sh_71 d_Sh_isRight_16 rfl, ?_⟩
  refine ⟨so_iloadn d_Sh_isRight_19 rfl rfl, ?_⟩
  refine ⟨so_iald d_Sh_isRight_20 rfl, ?_⟩
  refine ⟨so_lsw d_Sh_isRight_21 (by decide +kernel) (by decide +kernel) rfl, ?_⟩
  refine ⟨so_aloadn d_Sh_isRight_64 rfl rfl, ?_⟩
  refine ⟨so_getr (ci := 1) (k := 1) rfl (by decide) rfl rfl fl_Sh_17 d_Sh_isRight_65 rfl, ?_⟩
  refine ⟨so_iloadn d_Sh_isRight_68 rfl rfl, ?_⟩
  refine ⟨so_iald d_Sh_isRight_69 rfl, ?_⟩
  refine ⟨so_const1 d_Sh_isRight_70 (by decide) rfl, ?_⟩
  refine ⟨so_icmp_eq d_Sh_isRight_71 rfl rfl, ?_⟩
  refine ⟨so_aloadn d_Sh_isRight_74 rfl rfl, ?_⟩
  refine ⟨so_iloadn d_Sh_isRight_75 rfl rfl, ?_⟩
  refine ⟨so_iload d_Sh_isRight_76 rfl, ?_⟩
  refine ⟨so_callv (ci := 1) rfl rfl mc_Sh_guardHeld mi_Sh mj_Sh_guardHeld ms_Sh_guardHeld ml_Sh_74 yd_Sh_guardHeld (by decide) d_Sh_isRight_78 rfl, ?_⟩
  refine ⟨so_if_eq d_Sh_isRight_81 rfl rfl, ?_⟩
  refine ⟨so_const1 d_Sh_isRight_84 (by decide) rfl, ?_⟩
  refine ⟨so_goto d_Sh_isRight_85 rfl, ?_⟩
  refine ⟨so_const1 d_Sh_isRight_88 (by decide) rfl, ?_⟩
  refine ⟨so_zret d_Sh_isRight_89 rfl, ?_⟩
  refine ⟨so_aloadn d_Sh_isRight_90 rfl rfl, ?_⟩
  refine ⟨so_getr (ci := 1) (k := 1) rfl (by decide) rfl rfl fl_Sh_17 d_Sh_isRight_91 rfl, ?_⟩
  refine ⟨so_iloadn d_Sh_isRight_94 rfl rfl, ?_⟩
  refine ⟨so_iald d_Sh_isRight_95 rfl, ?_⟩
  refine ⟨so_const1 d_Sh_isRight_96 (by decide) rfl, ?_⟩
  refine ⟨so_icmp_eq d_Sh_isRight_97 rfl rfl, ?_⟩
  refine ⟨so_aloadn d_Sh_isRight_100 rfl rfl, ?_⟩
  refine ⟨so_iloadn d_Sh_isRight_101 rfl rfl, ?_⟩
  refine ⟨so_iload d_Sh_isRight_102 rfl, ?_⟩
  refine ⟨so_callv (ci := 1) rfl rfl mc_Sh_guardHeld mi_Sh mj_Sh_guardHeld ms_Sh_guardHeld ml_Sh_74 yd_Sh_guardHeld (by decide) d_Sh_isRight_104 rfl, ?_⟩
  refine ⟨so_if_eq d_Sh_isRight_107 rfl rfl, ?_⟩
  refine ⟨so_const1 d_Sh_isRight_110 (by decide) rfl, ?_⟩
  refine ⟨so_goto d_Sh_isRight_111 rfl, ?_⟩
  refine ⟨so_const1 d_Sh_isRight_114 (by decide) rfl, ?_⟩
  refine ⟨so_zret d_Sh_isRight_115 rfl, ?_⟩
  refine ⟨so_aloadn d_Sh_isRight_116 rfl rfl, ?_⟩
  refine ⟨so_iloadn d_Sh_isRight_117 rfl rfl, ?_⟩
  refine ⟨so_callv (ci := 1) rfl rfl mc_Sh_contains mi_Sh mj_Sh_contains ms_Sh_contains ml_Sh_77 yd_Sh_contains (by decide) d_Sh_isRight_118 rfl, ?_⟩
  refine ⟨so_if_eq d_Sh_isRight_121 rfl rfl, ?_⟩
  refine ⟨so_aloadn d_Sh_isRight_124 rfl rfl, ?_⟩
  refine ⟨so_getr (ci := 1) (k := 0) rfl (by decide) rfl rfl fl_Sh_11 d_Sh_isRight_125 rfl, ?_⟩
  refine ⟨so_iloadn d_Sh_isRight_128 rfl rfl, ?_⟩
  refine ⟨so_aald rfl (by decide) (fun _ => rfl) d_Sh_isRight_129 rfl, ?_⟩
  refine ⟨so_geti (ci := 2) (k := 5) rfl (by decide) rfl rfl fl_Sh_80 d_Sh_isRight_130 rfl, ?_⟩
  refine ⟨so_if_ne d_Sh_isRight_133 rfl rfl, ?_⟩
  refine ⟨so_const1 d_Sh_isRight_136 (by decide) rfl, ?_⟩
  refine ⟨so_goto d_Sh_isRight_137 rfl, ?_⟩
  refine ⟨so_const1 d_Sh_isRight_140 (by decide) rfl, ?_⟩
  refine ⟨so_zret d_Sh_isRight_141 rfl, ?_⟩
  refine ⟨so_aloadn d_Sh_isRight_142 rfl rfl, ?_⟩
  refine ⟨so_iloadn d_Sh_isRight_143 rfl rfl, ?_⟩
  refine ⟨so_callv (ci := 1) rfl rfl mc_Sh_contains mi_Sh mj_Sh_contains ms_Sh_contains ml_Sh_77 yd_Sh_contains (by decide) d_Sh_isRight_144 rfl, ?_⟩
  refine ⟨so_if_eq d_Sh_isRight_147 rfl rfl, ?_⟩
  refine ⟨so_aloadn d_Sh_isRight_150 rfl rfl, ?_⟩
  refine ⟨so_getr (ci := 1) (k := 0) rfl (by decide) rfl rfl fl_Sh_11 d_Sh_isRight_151 rfl, ?_⟩
  refine ⟨so_iloadn d_Sh_isRight_154 rfl rfl, ?_⟩
  refine ⟨so_aald rfl (by decide) (fun _ => rfl) d_Sh_isRight_155 rfl, ?_⟩
  refine ⟨so_geti (ci := 2) (k := 5) rfl (by decide) rfl rfl fl_Sh_80 d_Sh_isRight_156 rfl, ?_⟩
  refine ⟨so_iload d_Sh_isRight_159 rfl, ?_⟩
  refine ⟨so_const1 d_Sh_isRight_161 (by decide) rfl, ?_⟩
  refine ⟨so_ixor d_Sh_isRight_162 rfl, ?_⟩
  refine ⟨so_iand d_Sh_isRight_163 rfl, ?_⟩
  refine ⟨so_if_ne d_Sh_isRight_164 rfl rfl, ?_⟩
  refine ⟨so_const1 d_Sh_isRight_167 (by decide) rfl, ?_⟩
  refine ⟨so_goto d_Sh_isRight_168 rfl, ?_⟩
  refine ⟨so_const1 d_Sh_isRight_171 (by decide) rfl, ?_⟩
  refine ⟨so_zret d_Sh_isRight_172 rfl, ?_⟩
  refine ⟨so_const1 d_Sh_isRight_173 (by decide) rfl, ?_⟩
  refine ⟨so_zret d_Sh_isRight_174 rfl, ?_⟩
  exact trivial
theorem d_Sh_guardHeld_0 : decode prog_7_method_10_code 0 = .ok (.iload_n 2, 1) := by decide +kernel
theorem d_Sh_guardHeld_1 : decode prog_7_method_10_code 1 = .ok (.iconst 1, 1) := by decide +kernel
theorem d_Sh_guardHeld_2 : decode prog_7_method_10_code 2 = .ok (.aload_n 0, 1) := by decide +kernel
theorem d_Sh_guardHeld_3 : decode prog_7_method_10_code 3 = .ok (.getfield 17, 3) := by decide +kernel
theorem d_Sh_guardHeld_6 : decode prog_7_method_10_code 6 = .ok (.iload_n 1, 1) := by decide +kernel
theorem d_Sh_guardHeld_7 : decode prog_7_method_10_code 7 = .ok (.iaload, 1) := by decide +kernel
theorem d_Sh_guardHeld_8 : decode prog_7_method_10_code 8 = .ok (.ishl, 1) := by decide +kernel
theorem d_Sh_guardHeld_9 : decode prog_7_method_10_code 9 = .ok (.iand, 1) := by decide +kernel
theorem d_Sh_guardHeld_10 : decode prog_7_method_10_code 10 = .ok (.ifCond .eq 7, 3) := by decide +kernel
theorem d_Sh_guardHeld_13 : decode prog_7_method_10_code 13 = .ok (.iconst 1, 1) := by decide +kernel
theorem d_Sh_guardHeld_14 : decode prog_7_method_10_code 14 = .ok (.goto 4, 3) := by decide +kernel
theorem d_Sh_guardHeld_17 : decode prog_7_method_10_code 17 = .ok (.iconst 0, 1) := by decide +kernel
theorem d_Sh_guardHeld_18 : decode prog_7_method_10_code 18 = .ok (.ireturn, 1) := by decide +kernel
def tb_Sh_guardHeld : List pm_I := [
  pm_iload 1 2,
  pm_const 2 1,
  pm_aload 3 0,
  pm_getr 4 1 1,
  pm_iload 5 1,
  pm_iald 6 0,
  pm_bin 7 (fun a b => a <<< (b &&& 31)),
  pm_bin 8 (fun a b => a &&& b),
  pm_if 11 9 (fun a => decide (a = 0)),
  pm_const 10 1,
  pm_goto 12,
  pm_const 12 0,
  pm_zret]
def bp_Sh_guardHeld : List Nat := [0, 1, 2, 3, 6, 7, 8, 9, 10, 13, 14, 17, 18]
set_option maxRecDepth 100000 in
theorem sd_Sh_guardHeld : pm_Sl prog_7_method_10_code 3 R_Sh "guardHeld" (some .boolean) pm_Y (pm_b bp_Sh_guardHeld) 0 tb_Sh_guardHeld := by
  refine ⟨so_iloadn d_Sh_guardHeld_0 rfl rfl, ?_⟩
  refine ⟨so_const1 d_Sh_guardHeld_1 (by decide) rfl, ?_⟩
  refine ⟨so_aloadn d_Sh_guardHeld_2 rfl rfl, ?_⟩
  refine ⟨so_getr (ci := 1) (k := 1) rfl (by decide) rfl rfl fl_Sh_17 d_Sh_guardHeld_3 rfl, ?_⟩
  refine ⟨so_iloadn d_Sh_guardHeld_6 rfl rfl, ?_⟩
  refine ⟨so_iald d_Sh_guardHeld_7 rfl, ?_⟩
  refine ⟨so_ishl d_Sh_guardHeld_8 rfl, ?_⟩
  refine ⟨so_iand d_Sh_guardHeld_9 rfl, ?_⟩
  refine ⟨so_if_eq d_Sh_guardHeld_10 rfl rfl, ?_⟩
  refine ⟨so_const1 d_Sh_guardHeld_13 (by decide) rfl, ?_⟩
  refine ⟨so_goto d_Sh_guardHeld_14 rfl, ?_⟩
  refine ⟨so_const1 d_Sh_guardHeld_17 (by decide) rfl, ?_⟩
  refine ⟨so_zret d_Sh_guardHeld_18 rfl, ?_⟩
  exact trivial
theorem d_Sh_allRight_0 : decode prog_7_method_8_code 0 = .ok (.iconst 0, 1) := by decide +kernel
theorem d_Sh_allRight_1 : decode prog_7_method_8_code 1 = .ok (.istore_n 1, 1) := by decide +kernel
theorem d_Sh_allRight_2 : decode prog_7_method_8_code 2 = .ok (.iload_n 1, 1) := by decide +kernel
theorem d_Sh_allRight_3 : decode prog_7_method_8_code 3 = .ok (.aload_n 0, 1) := by decide +kernel
theorem d_Sh_allRight_4 : decode prog_7_method_8_code 4 = .ok (.getfield 32, 3) := by decide +kernel
theorem d_Sh_allRight_7 : decode prog_7_method_8_code 7 = .ok (.if_icmp .ge 28, 3) := by decide +kernel
theorem d_Sh_allRight_10 : decode prog_7_method_8_code 10 = .ok (.aload_n 0, 1) := by decide +kernel
theorem d_Sh_allRight_11 : decode prog_7_method_8_code 11 = .ok (.iload_n 1, 1) := by decide +kernel
theorem d_Sh_allRight_12 : decode prog_7_method_8_code 12 = .ok (.invokevirtual 61, 3) := by decide +kernel
theorem d_Sh_allRight_15 : decode prog_7_method_8_code 15 = .ok (.aload_n 0, 1) := by decide +kernel
theorem d_Sh_allRight_16 : decode prog_7_method_8_code 16 = .ok (.getfield 11, 3) := by decide +kernel
theorem d_Sh_allRight_19 : decode prog_7_method_8_code 19 = .ok (.iload_n 1, 1) := by decide +kernel
theorem d_Sh_allRight_20 : decode prog_7_method_8_code 20 = .ok (.aaload, 1) := by decide +kernel
theorem d_Sh_allRight_21 : decode prog_7_method_8_code 21 = .ok (.getfield 54, 3) := by decide +kernel
theorem d_Sh_allRight_24 : decode prog_7_method_8_code 24 = .ok (.if_icmp .ge 5, 3) := by decide +kernel
theorem d_Sh_allRight_27 : decode prog_7_method_8_code 27 = .ok (.iconst 0, 1) := by decide +kernel
theorem d_Sh_allRight_28 : decode prog_7_method_8_code 28 = .ok (.ireturn, 1) := by decide +kernel
theorem d_Sh_allRight_29 : decode prog_7_method_8_code 29 = .ok (.iinc 1 1, 3) := by decide +kernel
theorem d_Sh_allRight_32 : decode prog_7_method_8_code 32 = .ok (.goto (-30), 3) := by decide +kernel
theorem d_Sh_allRight_35 : decode prog_7_method_8_code 35 = .ok (.iconst 1, 1) := by decide +kernel
theorem d_Sh_allRight_36 : decode prog_7_method_8_code 36 = .ok (.ireturn, 1) := by decide +kernel
def tb_Sh_allRight : List pm_I := [
  pm_const 1 0,
  pm_istore 2 1,
  pm_iload 3 1,
  pm_aload 4 0,
  pm_geti 5 1 3,
  pm_icmp 19 6 (fun a b => decide (b ≤ a)),
  pm_aload 7 0,
  pm_iload 8 1,
  pm_callv 9 22 2 1,
  pm_aload 10 0,
  pm_getr 11 1 0,
  pm_iload 12 1,
  pm_aald 13 2,
  pm_geti 14 2 4,
  pm_icmp 17 15 (fun a b => decide (b ≤ a)),
  pm_const 16 0,
  pm_zret,
  pm_iinc 18 1 1,
  pm_goto 2,
  pm_const 20 1,
  pm_zret]
def bp_Sh_allRight : List Nat := [0, 1, 2, 3, 4, 7, 10, 11, 12, 15, 16, 19, 20, 21, 24, 27, 28, 29, 32, 35, 36]
set_option maxRecDepth 100000 in
theorem sd_Sh_allRight : pm_Sl prog_7_method_8_code 2 R_Sh "allRight" (some .boolean) pm_Y (pm_b bp_Sh_allRight) 0 tb_Sh_allRight := by
  refine ⟨so_const1 d_Sh_allRight_0 (by decide) rfl, ?_⟩
  refine ⟨so_istoren d_Sh_allRight_1 rfl (by decide) rfl, ?_⟩
  refine ⟨so_iloadn d_Sh_allRight_2 rfl rfl, ?_⟩
  refine ⟨so_aloadn d_Sh_allRight_3 rfl rfl, ?_⟩
  refine ⟨so_geti (ci := 1) (k := 3) rfl (by decide) rfl rfl fl_Sh_32 d_Sh_allRight_4 rfl, ?_⟩
  refine ⟨so_icmp_ge d_Sh_allRight_7 rfl rfl, ?_⟩
  refine ⟨so_aloadn d_Sh_allRight_10 rfl rfl, ?_⟩
  refine ⟨so_iloadn d_Sh_allRight_11 rfl rfl, ?_⟩
  refine ⟨so_callv (ci := 1) rfl rfl mc_Sh_firstWrong mi_Sh mj_Sh_firstWrong ms_Sh_firstWrong ml_Sh_61 yd_Sh_firstWrong (by decide) d_Sh_allRight_12 rfl, ?_⟩
  refine ⟨so_aloadn d_Sh_allRight_15 rfl rfl, ?_⟩
  refine ⟨so_getr (ci := 1) (k := 0) rfl (by decide) rfl rfl fl_Sh_11 d_Sh_allRight_16 rfl, ?_⟩
  refine ⟨so_iloadn d_Sh_allRight_19 rfl rfl, ?_⟩
  refine ⟨so_aald rfl (by decide) (fun _ => rfl) d_Sh_allRight_20 rfl, ?_⟩
  refine ⟨so_geti (ci := 2) (k := 4) rfl (by decide) rfl rfl fl_Sh_54 d_Sh_allRight_21 rfl, ?_⟩
  refine ⟨so_icmp_ge d_Sh_allRight_24 rfl rfl, ?_⟩
  refine ⟨so_const1 d_Sh_allRight_27 (by decide) rfl, ?_⟩
  refine ⟨so_zret d_Sh_allRight_28 rfl, ?_⟩
  refine ⟨so_iinc d_Sh_allRight_29 (by decide) (by decide) rfl, ?_⟩
  refine ⟨so_goto d_Sh_allRight_32 rfl, ?_⟩
  refine ⟨so_const1 d_Sh_allRight_35 (by decide) rfl, ?_⟩
  refine ⟨so_zret d_Sh_allRight_36 rfl, ?_⟩
  exact trivial
theorem d_Bo_init_0 : decode prog_2_method_1_code 0 = .ok (.aload_n 0, 1) := by decide +kernel
theorem d_Bo_init_1 : decode prog_2_method_1_code 1 = .ok (.invokespecial 3, 3) := by decide +kernel
theorem d_Bo_init_4 : decode prog_2_method_1_code 4 = .ok (.aload_n 0, 1) := by decide +kernel
theorem d_Bo_init_5 : decode prog_2_method_1_code 5 = .ok (.bipush 64, 2) := by decide +kernel
theorem d_Bo_init_7 : decode prog_2_method_1_code 7 = .ok (.newarray .int, 2) := by decide +kernel
theorem d_Bo_init_9 : decode prog_2_method_1_code 9 = .ok (.putfield 9, 3) := by decide +kernel
theorem d_Bo_init_12 : decode prog_2_method_1_code 12 = .ok (.aload_n 0, 1) := by decide +kernel
theorem d_Bo_init_13 : decode prog_2_method_1_code 13 = .ok (.bipush 64, 2) := by decide +kernel
theorem d_Bo_init_15 : decode prog_2_method_1_code 15 = .ok (.newarray .int, 2) := by decide +kernel
theorem d_Bo_init_17 : decode prog_2_method_1_code 17 = .ok (.putfield 15, 3) := by decide +kernel
theorem d_Bo_init_20 : decode prog_2_method_1_code 20 = .ok (.aload_n 0, 1) := by decide +kernel
theorem d_Bo_init_21 : decode prog_2_method_1_code 21 = .ok (.bipush 64, 2) := by decide +kernel
theorem d_Bo_init_23 : decode prog_2_method_1_code 23 = .ok (.newarray .int, 2) := by decide +kernel
theorem d_Bo_init_25 : decode prog_2_method_1_code 25 = .ok (.putfield 18, 3) := by decide +kernel
theorem d_Bo_init_28 : decode prog_2_method_1_code 28 = .ok (.aload_n 0, 1) := by decide +kernel
theorem d_Bo_init_29 : decode prog_2_method_1_code 29 = .ok (.bipush 64, 2) := by decide +kernel
theorem d_Bo_init_31 : decode prog_2_method_1_code 31 = .ok (.newarray .int, 2) := by decide +kernel
theorem d_Bo_init_33 : decode prog_2_method_1_code 33 = .ok (.putfield 21, 3) := by decide +kernel
theorem d_Bo_init_36 : decode prog_2_method_1_code 36 = .ok (.return_, 1) := by decide +kernel
def tb_Bo_init : List pm_I := [
  pm_aload 1 0,
  pm_oinit 2,
  pm_aload 3 0,
  pm_const 4 64,
  pm_newa 5 0,
  pm_putr 6 2 0,
  pm_aload 7 0,
  pm_const 8 64,
  pm_newa 9 0,
  pm_putr 10 2 1,
  pm_aload 11 0,
  pm_const 12 64,
  pm_newa 13 0,
  pm_putr 14 2 2,
  pm_aload 15 0,
  pm_const 16 64,
  pm_newa 17 0,
  pm_putr 18 2 3,
  pm_vret]
def bp_Bo_init : List Nat := [0, 1, 4, 5, 7, 9, 12, 13, 15, 17, 20, 21, 23, 25, 28, 29, 31, 33, 36]
set_option maxRecDepth 100000 in
theorem sd_Bo_init : pm_Sl prog_2_method_1_code 1 R_Bo "<init>" (none) pm_Y (pm_b bp_Bo_init) 0 tb_Bo_init := by
  refine ⟨so_aloadn d_Bo_init_0 rfl rfl, ?_⟩
  refine ⟨so_oinit (pm_in1 (List.mem_append_left _ (List.mem_of_getElem? (i := 33) rfl))) (pm_in1 (List.mem_append_left _ (List.mem_of_getElem? (i := 19) rfl))) (pm_in1 (List.mem_append_left _ (List.mem_of_getElem? (i := 20) rfl))) d_Bo_init_1 rfl, ?_⟩
  refine ⟨so_aloadn d_Bo_init_4 rfl rfl, ?_⟩
  refine ⟨so_const2 d_Bo_init_5 (by decide) rfl, ?_⟩
  refine ⟨so_newi d_Bo_init_7 rfl, ?_⟩
  refine ⟨so_putr (ci := 2) (k := 0) rfl (by decide) rfl rfl (Or.inr ⟨rfl, rfl, rfl, pm_in1 (List.mem_append_left _ (List.mem_of_getElem? (i := 34) rfl))⟩) d_Bo_init_9 rfl, ?_⟩
  refine ⟨so_aloadn d_Bo_init_12 rfl rfl, ?_⟩
  refine ⟨so_const2 d_Bo_init_13 (by decide) rfl, ?_⟩
  refine ⟨so_newi d_Bo_init_15 rfl, ?_⟩
  refine ⟨so_putr (ci := 2) (k := 1) rfl (by decide) rfl rfl (Or.inr ⟨rfl, rfl, rfl, pm_in1 (List.mem_append_left _ (List.mem_of_getElem? (i := 37) rfl))⟩) d_Bo_init_17 rfl, ?_⟩
  refine ⟨so_aloadn d_Bo_init_20 rfl rfl, ?_⟩
  refine ⟨so_const2 d_Bo_init_21 (by decide) rfl, ?_⟩
  refine ⟨so_newi d_Bo_init_23 rfl, ?_⟩
  refine ⟨so_putr (ci := 2) (k := 2) rfl (by decide) rfl rfl (Or.inr ⟨rfl, rfl, rfl, pm_in1 (List.mem_append_left _ (List.mem_of_getElem? (i := 40) rfl))⟩) d_Bo_init_25 rfl, ?_⟩
  refine ⟨so_aloadn d_Bo_init_28 rfl rfl, ?_⟩
  refine ⟨so_const2 d_Bo_init_29 (by decide) rfl, ?_⟩
  refine ⟨so_newi d_Bo_init_31 rfl, ?_⟩
  refine ⟨so_putr (ci := 2) (k := 3) rfl (by decide) rfl rfl (Or.inr ⟨rfl, rfl, rfl, pm_in1 (List.mem_append_left _ (List.mem_of_getElem? (i := 42) rfl))⟩) d_Bo_init_33 rfl, ?_⟩
  refine ⟨so_vret d_Bo_init_36 rfl, ?_⟩
  exact trivial
theorem d_Bo_append_0 : decode prog_2_method_3_code 0 = .ok (.aload_n 0, 1) := by decide +kernel
theorem d_Bo_append_1 : decode prog_2_method_3_code 1 = .ok (.getfield 24, 3) := by decide +kernel
theorem d_Bo_append_4 : decode prog_2_method_3_code 4 = .ok (.bipush 64, 2) := by decide +kernel
theorem d_Bo_append_6 : decode prog_2_method_3_code 6 = .ok (.if_icmp .lt 5, 3) := by decide +kernel
theorem d_Bo_append_9 : decode prog_2_method_3_code 9 = .ok (.iconst (-1), 1) := by decide +kernel
theorem d_Bo_append_10 : decode prog_2_method_3_code 10 = .ok (.ireturn, 1) := by decide +kernel
theorem d_Bo_append_11 : decode prog_2_method_3_code 11 = .ok (.aload_n 0, 1) := by decide +kernel
theorem d_Bo_append_12 : decode prog_2_method_3_code 12 = .ok (.getfield 9, 3) := by decide +kernel
theorem d_Bo_append_15 : decode prog_2_method_3_code 15 = .ok (.aload_n 0, 1) := by decide +kernel
theorem d_Bo_append_16 : decode prog_2_method_3_code 16 = .ok (.getfield 24, 3) := by decide +kernel
theorem d_Bo_append_19 : decode prog_2_method_3_code 19 = .ok (.iload_n 1, 1) := by decide +kernel
theorem d_Bo_append_20 : decode prog_2_method_3_code 20 = .ok (.iastore, 1) := by decide +kernel
theorem d_Bo_append_21 : decode prog_2_method_3_code 21 = .ok (.aload_n 0, 1) := by decide +kernel
theorem d_Bo_append_22 : decode prog_2_method_3_code 22 = .ok (.getfield 15, 3) := by decide +kernel
theorem d_Bo_append_25 : decode prog_2_method_3_code 25 = .ok (.aload_n 0, 1) := by decide +kernel
theorem d_Bo_append_26 : decode prog_2_method_3_code 26 = .ok (.getfield 24, 3) := by decide +kernel
theorem d_Bo_append_29 : decode prog_2_method_3_code 29 = .ok (.iload_n 2, 1) := by decide +kernel
theorem d_Bo_append_30 : decode prog_2_method_3_code 30 = .ok (.iastore, 1) := by decide +kernel
theorem d_Bo_append_31 : decode prog_2_method_3_code 31 = .ok (.aload_n 0, 1) := by decide +kernel
theorem d_Bo_append_32 : decode prog_2_method_3_code 32 = .ok (.dup, 1) := by decide +kernel
theorem d_Bo_append_33 : decode prog_2_method_3_code 33 = .ok (.getfield 24, 3) := by decide +kernel
theorem d_Bo_append_36 : decode prog_2_method_3_code 36 = .ok (.iconst 1, 1) := by decide +kernel
theorem d_Bo_append_37 : decode prog_2_method_3_code 37 = .ok (.iadd, 1) := by decide +kernel
theorem d_Bo_append_38 : decode prog_2_method_3_code 38 = .ok (.putfield 24, 3) := by decide +kernel
theorem d_Bo_append_41 : decode prog_2_method_3_code 41 = .ok (.aload_n 0, 1) := by decide +kernel
theorem d_Bo_append_42 : decode prog_2_method_3_code 42 = .ok (.getfield 24, 3) := by decide +kernel
theorem d_Bo_append_45 : decode prog_2_method_3_code 45 = .ok (.ireturn, 1) := by decide +kernel
def tb_Bo_append : List pm_I := [
  pm_aload 1 0,
  pm_geti 2 2 4,
  pm_const 3 64,
  pm_icmp 6 4 (fun a b => decide (a < b)),
  pm_const 5 (-1),
  pm_iret,
  pm_aload 7 0,
  pm_getr 8 2 0,
  pm_aload 9 0,
  pm_geti 10 2 4,
  pm_iload 11 1,
  pm_iast 12,
  pm_aload 13 0,
  pm_getr 14 2 1,
  pm_aload 15 0,
  pm_geti 16 2 4,
  pm_iload 17 2,
  pm_iast 18,
  pm_aload 19 0,
  pm_dup 20,
  pm_geti 21 2 4,
  pm_const 22 1,
  pm_bin 23 (fun a b => a + b),
  pm_puti 24 2 4,
  pm_aload 25 0,
  pm_geti 26 2 4,
  pm_iret]
def bp_Bo_append : List Nat := [0, 1, 4, 6, 9, 10, 11, 12, 15, 16, 19, 20, 21, 22, 25, 26, 29, 30, 31, 32, 33, 36, 37, 38, 41, 42, 45]
set_option maxRecDepth 100000 in
theorem sd_Bo_append : pm_Sl prog_2_method_3_code 3 R_Bo "append" (some .int) pm_Y (pm_b bp_Bo_append) 0 tb_Bo_append := by
  refine ⟨so_aloadn d_Bo_append_0 rfl rfl, ?_⟩
  refine ⟨so_geti (ci := 2) (k := 4) rfl (by decide) rfl rfl fl_Bo_24 d_Bo_append_1 rfl, ?_⟩
  refine ⟨so_const2 d_Bo_append_4 (by decide) rfl, ?_⟩
  refine ⟨so_icmp_lt d_Bo_append_6 rfl rfl, ?_⟩
  refine ⟨so_const1 d_Bo_append_9 (by decide) rfl, ?_⟩
  refine ⟨so_iret d_Bo_append_10 rfl, ?_⟩
  refine ⟨so_aloadn d_Bo_append_11 rfl rfl, ?_⟩
  refine ⟨so_getr (ci := 2) (k := 0) rfl (by decide) rfl rfl fl_Bo_9 d_Bo_append_12 rfl, ?_⟩
  refine ⟨so_aloadn d_Bo_append_15 rfl rfl, ?_⟩
  refine ⟨so_geti (ci := 2) (k := 4) rfl (by decide) rfl rfl fl_Bo_24 d_Bo_append_16 rfl, ?_⟩
  refine ⟨so_iloadn d_Bo_append_19 rfl rfl, ?_⟩
  refine ⟨so_iast d_Bo_append_20 rfl, ?_⟩
  refine ⟨so_aloadn d_Bo_append_21 rfl rfl, ?_⟩
  refine ⟨so_getr (ci := 2) (k := 1) rfl (by decide) rfl rfl fl_Bo_15 d_Bo_append_22 rfl, ?_⟩
  refine ⟨so_aloadn d_Bo_append_25 rfl rfl, ?_⟩
  refine ⟨so_geti (ci := 2) (k := 4) rfl (by decide) rfl rfl fl_Bo_24 d_Bo_append_26 rfl, ?_⟩
  refine ⟨so_iloadn d_Bo_append_29 rfl rfl, ?_⟩
  refine ⟨so_iast d_Bo_append_30 rfl, ?_⟩
  refine ⟨so_aloadn d_Bo_append_31 rfl rfl, ?_⟩
  refine ⟨so_dup d_Bo_append_32 rfl, ?_⟩
  refine ⟨so_geti (ci := 2) (k := 4) rfl (by decide) rfl rfl fl_Bo_24 d_Bo_append_33 rfl, ?_⟩
  refine ⟨so_const1 d_Bo_append_36 (by decide) rfl, ?_⟩
  refine ⟨so_iadd d_Bo_append_37 rfl, ?_⟩
  refine ⟨so_puti (ci := 2) (k := 4) rfl (by decide) rfl rfl (Or.inl ⟨rfl, fl_Bo_24⟩) d_Bo_append_38 rfl, ?_⟩
  refine ⟨so_aloadn d_Bo_append_41 rfl rfl, ?_⟩
  refine ⟨so_geti (ci := 2) (k := 4) rfl (by decide) rfl rfl fl_Bo_24 d_Bo_append_42 rfl, ?_⟩
  refine ⟨so_iret d_Bo_append_45 rfl, ?_⟩
  exact trivial
theorem d_Bo_joinBlocks_0 : decode prog_2_method_4_code 0 = .ok (.aload_n 0, 1) := by decide +kernel
theorem d_Bo_joinBlocks_1 : decode prog_2_method_4_code 1 = .ok (.iload_n 1, 1) := by decide +kernel
theorem d_Bo_joinBlocks_2 : decode prog_2_method_4_code 2 = .ok (.putfield 28, 3) := by decide +kernel
theorem d_Bo_joinBlocks_5 : decode prog_2_method_4_code 5 = .ok (.iload_n 1, 1) := by decide +kernel
theorem d_Bo_joinBlocks_6 : decode prog_2_method_4_code 6 = .ok (.istore_n 2, 1) := by decide +kernel
theorem d_Bo_joinBlocks_7 : decode prog_2_method_4_code 7 = .ok (.iconst (-1), 1) := by decide +kernel
theorem d_Bo_joinBlocks_8 : decode prog_2_method_4_code 8 = .ok (.istore_n 3, 1) := by decide +kernel
theorem d_Bo_joinBlocks_9 : decode prog_2_method_4_code 9 = .ok (.iconst 0, 1) := by decide +kernel
theorem d_Bo_joinBlocks_10 : decode prog_2_method_4_code 10 = .ok (.istore 4, 2) := by decide +kernel
theorem d_Bo_joinBlocks_12 : decode prog_2_method_4_code 12 = .ok (.iload 4, 2) := by decide +kernel
theorem d_Bo_joinBlocks_14 : decode prog_2_method_4_code 14 = .ok (.aload_n 0, 1) := by decide +kernel
theorem d_Bo_joinBlocks_15 : decode prog_2_method_4_code 15 = .ok (.getfield 24, 3) := by decide +kernel
theorem d_Bo_joinBlocks_18 : decode prog_2_method_4_code 18 = .ok (.if_icmp .ge 170, 3) := by decide +kernel
theorem d_Bo_joinBlocks_21 : decode prog_2_method_4_code 21 = .ok (.aload_n 0, 1) := by decide +kernel
theorem d_Bo_joinBlocks_22 : decode prog_2_method_4_code 22 = .ok (.getfield 21, 3) := by decide +kernel
theorem d_Bo_joinBlocks_25 : decode prog_2_method_4_code 25 = .ok (.iload 4, 2) := by decide +kernel
theorem d_Bo_joinBlocks_27 : decode prog_2_method_4_code 27 = .ok (.iload_n 2, 1) := by decide +kernel
theorem d_Bo_joinBlocks_28 : decode prog_2_method_4_code 28 = .ok (.iastore, 1) := by decide +kernel
theorem d_Bo_joinBlocks_29 : decode prog_2_method_4_code 29 = .ok (.aload_n 0, 1) := by decide +kernel
theorem d_Bo_joinBlocks_30 : decode prog_2_method_4_code 30 = .ok (.getfield 9, 3) := by decide +kernel
theorem d_Bo_joinBlocks_33 : decode prog_2_method_4_code 33 = .ok (.iload 4, 2) := by decide +kernel
theorem d_Bo_joinBlocks_35 : decode prog_2_method_4_code 35 = .ok (.iaload, 1) := by decide +kernel
theorem d_Bo_joinBlocks_36 : decode prog_2_method_4_code 36 = .ok (.tableswitch 146 4 8 #[36, 121, 62, 76, 62], 36) := by decide +kernel
theorem d_Bo_joinBlocks_72 : decode prog_2_method_4_code 72 = .ok (.iload_n 2, 1) := by decide +kernel
theorem d_Bo_joinBlocks_73 : decode prog_2_method_4_code 73 = .ok (.iconst 1, 1) := by decide +kernel
theorem d_Bo_joinBlocks_74 : decode prog_2_method_4_code 74 = .ok (.aload_n 0, 1) := by decide +kernel
theorem d_Bo_joinBlocks_75 : decode prog_2_method_4_code 75 = .ok (.getfield 15, 3) := by decide +kernel
theorem d_Bo_joinBlocks_78 : decode prog_2_method_4_code 78 = .ok (.iload 4, 2) := by decide +kernel
theorem d_Bo_joinBlocks_80 : decode prog_2_method_4_code 80 = .ok (.iaload, 1) := by decide +kernel
theorem d_Bo_joinBlocks_81 : decode prog_2_method_4_code 81 = .ok (.ishl, 1) := by decide +kernel
theorem d_Bo_joinBlocks_82 : decode prog_2_method_4_code 82 = .ok (.ior, 1) := by decide +kernel
theorem d_Bo_joinBlocks_83 : decode prog_2_method_4_code 83 = .ok (.istore_n 2, 1) := by decide +kernel
theorem d_Bo_joinBlocks_84 : decode prog_2_method_4_code 84 = .ok (.aload_n 0, 1) := by decide +kernel
theorem d_Bo_joinBlocks_85 : decode prog_2_method_4_code 85 = .ok (.getfield 18, 3) := by decide +kernel
theorem d_Bo_joinBlocks_88 : decode prog_2_method_4_code 88 = .ok (.iload 4, 2) := by decide +kernel
theorem d_Bo_joinBlocks_90 : decode prog_2_method_4_code 90 = .ok (.iload_n 3, 1) := by decide +kernel
theorem d_Bo_joinBlocks_91 : decode prog_2_method_4_code 91 = .ok (.iastore, 1) := by decide +kernel
theorem d_Bo_joinBlocks_92 : decode prog_2_method_4_code 92 = .ok (.iload 4, 2) := by decide +kernel
theorem d_Bo_joinBlocks_94 : decode prog_2_method_4_code 94 = .ok (.istore_n 3, 1) := by decide +kernel
theorem d_Bo_joinBlocks_95 : decode prog_2_method_4_code 95 = .ok (.goto 87, 3) := by decide +kernel
theorem d_Bo_joinBlocks_98 : decode prog_2_method_4_code 98 = .ok (.aload_n 0, 1) := by decide +kernel
theorem d_Bo_joinBlocks_99 : decode prog_2_method_4_code 99 = .ok (.getfield 18, 3) := by decide +kernel
theorem d_Bo_joinBlocks_102 : decode prog_2_method_4_code 102 = .ok (.iload 4, 2) := by decide +kernel
theorem d_Bo_joinBlocks_104 : decode prog_2_method_4_code 104 = .ok (.iload_n 3, 1) := by decide +kernel
theorem d_Bo_joinBlocks_105 : decode prog_2_method_4_code 105 = .ok (.iastore, 1) := by decide +kernel
theorem d_Bo_joinBlocks_106 : decode prog_2_method_4_code 106 = .ok (.iload 4, 2) := by decide +kernel
theorem d_Bo_joinBlocks_108 : decode prog_2_method_4_code 108 = .ok (.istore_n 3, 1) := by decide +kernel
theorem d_Bo_joinBlocks_109 : decode prog_2_method_4_code 109 = .ok (.goto 73, 3) := by decide +kernel
theorem d_Bo_joinBlocks_112 : decode prog_2_method_4_code 112 = .ok (.iload_n 3, 1) := by decide +kernel
theorem d_Bo_joinBlocks_113 : decode prog_2_method_4_code 113 = .ok (.iconst (-1), 1) := by decide +kernel
theorem d_Bo_joinBlocks_114 : decode prog_2_method_4_code 114 = .ok (.if_icmp .eq 14, 3) := by decide +kernel
theorem d_Bo_joinBlocks_117 : decode prog_2_method_4_code 117 = .ok (.aload_n 0, 1) := by decide +kernel
theorem d_Bo_joinBlocks_118 : decode prog_2_method_4_code 118 = .ok (.getfield 9, 3) := by decide +kernel
theorem d_Bo_joinBlocks_121 : decode prog_2_method_4_code 121 = .ok (.iload_n 3, 1) := by decide +kernel
theorem d_Bo_joinBlocks_122 : decode prog_2_method_4_code 122 = .ok (.iaload, 1) := by decide +kernel
theorem d_Bo_joinBlocks_123 : decode prog_2_method_4_code 123 = .ok (.bipush 6, 2) := by decide +kernel
theorem d_Bo_joinBlocks_125 : decode prog_2_method_4_code 125 = .ok (.if_icmp .eq 5, 3) := by decide +kernel
theorem d_Bo_joinBlocks_128 : decode prog_2_method_4_code 128 = .ok (.iconst 0, 1) := by decide +kernel
theorem d_Bo_joinBlocks_129 : decode prog_2_method_4_code 129 = .ok (.ireturn, 1) := by decide +kernel
theorem d_Bo_joinBlocks_130 : decode prog_2_method_4_code 130 = .ok (.aload_n 0, 1) := by decide +kernel
theorem d_Bo_joinBlocks_131 : decode prog_2_method_4_code 131 = .ok (.getfield 18, 3) := by decide +kernel
theorem d_Bo_joinBlocks_134 : decode prog_2_method_4_code 134 = .ok (.iload 4, 2) := by decide +kernel
theorem d_Bo_joinBlocks_136 : decode prog_2_method_4_code 136 = .ok (.aload_n 0, 1) := by decide +kernel
theorem d_Bo_joinBlocks_137 : decode prog_2_method_4_code 137 = .ok (.getfield 18, 3) := by decide +kernel
theorem d_Bo_joinBlocks_140 : decode prog_2_method_4_code 140 = .ok (.iload_n 3, 1) := by decide +kernel
theorem d_Bo_joinBlocks_141 : decode prog_2_method_4_code 141 = .ok (.iaload, 1) := by decide +kernel
theorem d_Bo_joinBlocks_142 : decode prog_2_method_4_code 142 = .ok (.iastore, 1) := by decide +kernel
theorem d_Bo_joinBlocks_143 : decode prog_2_method_4_code 143 = .ok (.aload_n 0, 1) := by decide +kernel
theorem d_Bo_joinBlocks_144 : decode prog_2_method_4_code 144 = .ok (.getfield 18, 3) := by decide +kernel
theorem d_Bo_joinBlocks_147 : decode prog_2_method_4_code 147 = .ok (.iload_n 3, 1) := by decide +kernel
theorem d_Bo_joinBlocks_148 : decode prog_2_method_4_code 148 = .ok (.iload 4, 2) := by decide +kernel
theorem d_Bo_joinBlocks_150 : decode prog_2_method_4_code 150 = .ok (.iastore, 1) := by decide +kernel
theorem d_Bo_joinBlocks_151 : decode prog_2_method_4_code 151 = .ok (.iload 4, 2) := by decide +kernel
theorem d_Bo_joinBlocks_153 : decode prog_2_method_4_code 153 = .ok (.istore_n 3, 1) := by decide +kernel
theorem d_Bo_joinBlocks_154 : decode prog_2_method_4_code 154 = .ok (.goto 28, 3) := by decide +kernel
theorem d_Bo_joinBlocks_157 : decode prog_2_method_4_code 157 = .ok (.iload_n 3, 1) := by decide +kernel
theorem d_Bo_joinBlocks_158 : decode prog_2_method_4_code 158 = .ok (.iconst (-1), 1) := by decide +kernel
theorem d_Bo_joinBlocks_159 : decode prog_2_method_4_code 159 = .ok (.if_icmp .ne 5, 3) := by decide +kernel
theorem d_Bo_joinBlocks_162 : decode prog_2_method_4_code 162 = .ok (.iconst 0, 1) := by decide +kernel
theorem d_Bo_joinBlocks_163 : decode prog_2_method_4_code 163 = .ok (.ireturn, 1) := by decide +kernel
theorem d_Bo_joinBlocks_164 : decode prog_2_method_4_code 164 = .ok (.aload_n 0, 1) := by decide +kernel
theorem d_Bo_joinBlocks_165 : decode prog_2_method_4_code 165 = .ok (.getfield 21, 3) := by decide +kernel
theorem d_Bo_joinBlocks_168 : decode prog_2_method_4_code 168 = .ok (.iload_n 3, 1) := by decide +kernel
theorem d_Bo_joinBlocks_169 : decode prog_2_method_4_code 169 = .ok (.iaload, 1) := by decide +kernel
theorem d_Bo_joinBlocks_170 : decode prog_2_method_4_code 170 = .ok (.istore_n 2, 1) := by decide +kernel
theorem d_Bo_joinBlocks_171 : decode prog_2_method_4_code 171 = .ok (.aload_n 0, 1) := by decide +kernel
theorem d_Bo_joinBlocks_172 : decode prog_2_method_4_code 172 = .ok (.iload_n 3, 1) := by decide +kernel
theorem d_Bo_joinBlocks_173 : decode prog_2_method_4_code 173 = .ok (.iload 4, 2) := by decide +kernel
theorem d_Bo_joinBlocks_175 : decode prog_2_method_4_code 175 = .ok (.invokevirtual 31, 3) := by decide +kernel
theorem d_Bo_joinBlocks_178 : decode prog_2_method_4_code 178 = .ok (.istore_n 3, 1) := by decide +kernel
theorem d_Bo_joinBlocks_179 : decode prog_2_method_4_code 179 = .ok (.goto 3, 3) := by decide +kernel
theorem d_Bo_joinBlocks_182 : decode prog_2_method_4_code 182 = .ok (.iinc 4 1, 3) := by decide +kernel
theorem d_Bo_joinBlocks_185 : decode prog_2_method_4_code 185 = .ok (.goto (-173), 3) := by decide +kernel
theorem d_Bo_joinBlocks_188 : decode prog_2_method_4_code 188 = .ok (.iload_n 3, 1) := by decide +kernel
theorem d_Bo_joinBlocks_189 : decode prog_2_method_4_code 189 = .ok (.iconst (-1), 1) := by decide +kernel
theorem d_Bo_joinBlocks_190 : decode prog_2_method_4_code 190 = .ok (.if_icmp .ne 7, 3) := by decide +kernel
theorem d_Bo_joinBlocks_193 : decode prog_2_method_4_code 193 = .ok (.iconst 1, 1) := by decide +kernel
theorem d_Bo_joinBlocks_194 : decode prog_2_method_4_code 194 = .ok (.goto 4, 3) := by decide +kernel
theorem d_Bo_joinBlocks_197 : decode prog_2_method_4_code 197 = .ok (.iconst 0, 1) := by decide +kernel
theorem d_Bo_joinBlocks_198 : decode prog_2_method_4_code 198 = .ok (.ireturn, 1) := by decide +kernel
def tb_Bo_joinBlocks : List pm_I := [
  pm_aload 1 0,
  pm_iload 2 1,
  pm_puti 3 2 5,
  pm_iload 4 1,
  pm_istore 5 2,
  pm_const 6 (-1),
  pm_istore 7 3,
  pm_const 8 0,
  pm_istore 9 4,
  pm_iload 10 4,
  pm_aload 11 0,
  pm_geti 12 2 4,
  pm_icmp 93 13 (fun a b => decide (b ≤ a)),
  pm_aload 14 0,
  pm_getr 15 2 3,
  pm_iload 16 4,
  pm_iload 17 2,
  pm_iast 18,
  pm_aload 19 0,
  pm_getr 20 2 0,
  pm_iload 21 4,
  pm_iald 22 0,
  pm_sw [(4, 23), (5, 75), (6, 40), (7, 48), (8, 40)] 91,
  pm_iload 24 2,
  pm_const 25 1,
  pm_aload 26 0,
  pm_getr 27 2 1,
  pm_iload 28 4,
  pm_iald 29 0,
  pm_bin 30 (fun a b => a <<< (b &&& 31)),
  pm_bin 31 (fun a b => a ||| b),
  pm_istore 32 2,
  pm_aload 33 0,
  pm_getr 34 2 2,
  pm_iload 35 4,
  pm_iload 36 3,
  pm_iast 37,
  pm_iload 38 4,
  pm_istore 39 3,
  pm_goto 91,
  pm_aload 41 0,
  pm_getr 42 2 2,
  pm_iload 43 4,
  pm_iload 44 3,
  pm_iast 45,
  pm_iload 46 4,
  pm_istore 47 3,
  pm_goto 91,
  pm_iload 49 3,
  pm_const 50 (-1),
  pm_icmp 57 51 (fun a b => decide (a = b)),
  pm_aload 52 0,
  pm_getr 53 2 0,
  pm_iload 54 3,
  pm_iald 55 0,
  pm_const 56 6,
  pm_icmp 59 57 (fun a b => decide (a = b)),
  pm_const 58 0,
  pm_zret,
  pm_aload 60 0,
  pm_getr 61 2 2,
  pm_iload 62 4,
  pm_aload 63 0,
  pm_getr 64 2 2,
  pm_iload 65 3,
  pm_iald 66 0,
  pm_iast 67,
  pm_aload 68 0,
  pm_getr 69 2 2,
  pm_iload 70 3,
  pm_iload 71 4,
  pm_iast 72,
  pm_iload 73 4,
  pm_istore 74 3,
  pm_goto 91,
  pm_iload 76 3,
  pm_const 77 (-1),
  pm_icmp 80 78 (fun a b => decide (a ≠ b)),
  pm_const 79 0,
  pm_zret,
  pm_aload 81 0,
  pm_getr 82 2 3,
  pm_iload 83 3,
  pm_iald 84 0,
  pm_istore 85 2,
  pm_aload 86 0,
  pm_iload 87 3,
  pm_iload 88 4,
  pm_callv 89 29 3 2,
  pm_istore 90 3,
  pm_goto 91,
  pm_iinc 92 4 1,
  pm_goto 9,
  pm_iload 94 3,
  pm_const 95 (-1),
  pm_icmp 98 96 (fun a b => decide (a ≠ b)),
  pm_const 97 1,
  pm_goto 99,
  pm_const 99 0,
  pm_zret]
def bp_Bo_joinBlocks : List Nat := [0, 1, 2, 5, 6, 7, 8, 9, 10, 12, 14, 15, 18, 21, 22, 25, 27, 28, 29, 30, 33, 35, 36, 72, 73, 74, 75, 78, 80, 81, 82, 83, 84, 85, 88, 90, 91, 92, 94, 95, 98, 99, 102, 104, 105, 106, 108, 109, 112, 113, 114, 117, 118, 121, 122, 123, 125, 128, 129, 130, 131, 134, 136, 137, 140, 141, 142, 143, 144, 147, 148, 150, 151, 153, 154, 157, 158, 159, 162, 163, 164, 165, 168, 169, 170, 171, 172, 173, 175, 178, 179, 182, 185, 188, 189, 190, 193, 194, 197, 198]
set_option maxRecDepth 100000 in
theorem sd_Bo_joinBlocks : pm_Sl prog_2_method_4_code 5 R_Bo "joinBlocks" (some .boolean) pm_Y (pm_b bp_Bo_joinBlocks) 0 tb_Bo_joinBlocks := by
  refine ⟨so_aloadn d_Bo_joinBlocks_0 rfl rfl, ?_⟩
  refine ⟨so_iloadn d_Bo_joinBlocks_1 rfl rfl, ?_⟩
  refine ⟨so_puti (ci := 2) (k := 5) rfl (by decide) rfl rfl (Or.inl ⟨rfl, fl_Bo_28⟩) d_Bo_joinBlocks_2 rfl, ?_⟩
  refine ⟨so_iloadn d_Bo_joinBlocks_5 rfl rfl, ?_⟩
  refine ⟨so_istoren d_Bo_joinBlocks_6 rfl (by decide) rfl, ?_⟩
  refine ⟨so_const1 d_Bo_joinBlocks_7 (by decide) rfl, ?_⟩
  refine ⟨so_istoren d_Bo_joinBlocks_8 rfl (by decide) rfl, ?_⟩
  refine ⟨so_const1 d_Bo_joinBlocks_9 (by decide) rfl, ?_⟩
  refine ⟨so_istore d_Bo_joinBlocks_10 (by decide) rfl, ?_⟩
  refine ⟨so_iload d_Bo_joinBlocks_12 rfl, ?_⟩
  refine ⟨so_aloadn d_Bo_joinBlocks_14 rfl rfl, ?_⟩
  refine ⟨so_geti (ci := 2) (k := 4) rfl (by decide) rfl rfl fl_Bo_24 d_Bo_joinBlocks_15 rfl, ?_⟩
  refine ⟨so_icmp_ge d_Bo_joinBlocks_18 rfl rfl, ?_⟩
  refine ⟨so_aloadn d_Bo_joinBlocks_21 rfl rfl, ?_⟩
  refine ⟨so_getr (ci := 2) (k := 3) rfl (by decide) rfl rfl fl_Bo_21 d_Bo_joinBlocks_22 rfl, ?_⟩
  refine ⟨so_iload d_Bo_joinBlocks_25 rfl, ?_⟩
  refine ⟨so_iloadn d_Bo_joinBlocks_27 rfl rfl, ?_⟩
  refine ⟨so_iast d_Bo_joinBlocks_28 rfl, ?_⟩
  refine ⟨so_aloadn d_Bo_joinBlocks_29 rfl rfl, ?_⟩
  refine ⟨so_getr (ci := 2) (k := 0) rfl (by decide) rfl rfl fl_Bo_9 d_Bo_joinBlocks_30 rfl, ?_⟩
  refine ⟨so_iload d_Bo_joinBlocks_33 rfl, ?_⟩
  refine ⟨so_iald d_Bo_joinBlocks_35 rfl, ?_⟩
  refine ⟨so_tsw d_Bo_joinBlocks_36 (by decide +kernel) (by decide +kernel) rfl, ?_⟩
  refine ⟨so_iloadn d_Bo_joinBlocks_72 rfl rfl, ?_⟩
  refine ⟨so_const1 d_Bo_joinBlocks_73 (by decide) rfl, ?_⟩
  refine ⟨so_aloadn d_Bo_joinBlocks_74 rfl rfl, ?_⟩
  refine ⟨so_getr (ci := 2) (k := 1) rfl (by decide) rfl rfl fl_Bo_15 d_Bo_joinBlocks_75 rfl, ?_⟩
  refine ⟨so_iload d_Bo_joinBlocks_78 rfl, ?_⟩
  refine ⟨so_iald d_Bo_joinBlocks_80 rfl, ?_⟩
  refine ⟨so_ishl d_Bo_joinBlocks_81 rfl, ?_⟩
  refine ⟨so_ior d_Bo_joinBlocks_82 rfl, ?_⟩
  refine ⟨so_istoren d_Bo_joinBlocks_83 rfl (by decide) rfl, ?_⟩
  refine ⟨so_aloadn d_Bo_joinBlocks_84 rfl rfl, ?_⟩
  refine ⟨so_getr (ci := 2) (k := 2) rfl (by decide) rfl rfl fl_Bo_18 d_Bo_joinBlocks_85 rfl, ?_⟩
  refine ⟨so_iload d_Bo_joinBlocks_88 rfl, ?_⟩
  refine ⟨so_iloadn d_Bo_joinBlocks_90 rfl rfl, ?_⟩
  refine ⟨so_iast d_Bo_joinBlocks_91 rfl, ?_⟩
  refine ⟨so_iload d_Bo_joinBlocks_92 rfl, ?_⟩
  refine ⟨so_istoren d_Bo_joinBlocks_94 rfl (by decide) rfl, ?_⟩
  refine ⟨so_goto d_Bo_joinBlocks_95 rfl, ?_⟩
  refine ⟨so_aloadn d_Bo_joinBlocks_98 rfl rfl, ?_⟩
  refine ⟨so_getr (ci := 2) (k := 2) rfl (by decide) rfl rfl fl_Bo_18 d_Bo_joinBlocks_99 rfl, ?_⟩
  refine ⟨so_iload d_Bo_joinBlocks_102 rfl, ?_⟩
  refine ⟨so_iloadn d_Bo_joinBlocks_104 rfl rfl, ?_⟩
  refine ⟨so_iast d_Bo_joinBlocks_105 rfl, ?_⟩
  refine ⟨so_iload d_Bo_joinBlocks_106 rfl, ?_⟩
  refine ⟨so_istoren d_Bo_joinBlocks_108 rfl (by decide) rfl, ?_⟩
  refine ⟨so_goto d_Bo_joinBlocks_109 rfl, ?_⟩
  refine ⟨so_iloadn d_Bo_joinBlocks_112 rfl rfl, ?_⟩
  refine ⟨so_const1 d_Bo_joinBlocks_113 (by decide) rfl, ?_⟩
  refine ⟨so_icmp_eq d_Bo_joinBlocks_114 rfl rfl, ?_⟩
  refine ⟨so_aloadn d_Bo_joinBlocks_117 rfl rfl, ?_⟩
  refine ⟨so_getr (ci := 2) (k := 0) rfl (by decide) rfl rfl fl_Bo_9 d_Bo_joinBlocks_118 rfl, ?_⟩
  refine ⟨so_iloadn d_Bo_joinBlocks_121 rfl rfl, ?_⟩
  refine ⟨so_iald d_Bo_joinBlocks_122 rfl, ?_⟩
  refine ⟨so_const2 d_Bo_joinBlocks_123 (by decide) rfl, ?_⟩
  refine ⟨so_icmp_eq d_Bo_joinBlocks_125 rfl rfl, ?_⟩
  refine ⟨so_const1 d_Bo_joinBlocks_128 (by decide) rfl, ?_⟩
  refine ⟨so_zret d_Bo_joinBlocks_129 rfl, ?_⟩
  refine ⟨so_aloadn d_Bo_joinBlocks_130 rfl rfl, ?_⟩
  refine ⟨so_getr (ci := 2) (k := 2) rfl (by decide) rfl rfl fl_Bo_18 d_Bo_joinBlocks_131 rfl, ?_⟩
  refine ⟨so_iload d_Bo_joinBlocks_134 rfl, ?_⟩
  refine ⟨so_aloadn d_Bo_joinBlocks_136 rfl rfl, ?_⟩
  refine ⟨so_getr (ci := 2) (k := 2) rfl (by decide) rfl rfl fl_Bo_18 d_Bo_joinBlocks_137 rfl, ?_⟩
  refine ⟨so_iloadn d_Bo_joinBlocks_140 rfl rfl, ?_⟩
  refine ⟨so_iald d_Bo_joinBlocks_141 rfl, ?_⟩
  refine ⟨so_iast d_Bo_joinBlocks_142 rfl, ?_⟩
  refine ⟨so_aloadn d_Bo_joinBlocks_143 rfl rfl, ?_⟩
  refine ⟨so_getr (ci := 2) (k := 2) rfl (by decide) rfl rfl fl_Bo_18 d_Bo_joinBlocks_144 rfl, ?_⟩
  refine ⟨so_iloadn d_Bo_joinBlocks_147 rfl rfl, ?_⟩
  refine ⟨so_iload d_Bo_joinBlocks_148 rfl, ?_⟩
  refine ⟨so_iast d_Bo_joinBlocks_150 rfl, ?_⟩
  refine ⟨so_iload d_Bo_joinBlocks_151 rfl, ?_⟩
  refine ⟨so_istoren d_Bo_joinBlocks_153 rfl (by decide) rfl, ?_⟩
  refine ⟨so_goto d_Bo_joinBlocks_154 rfl, ?_⟩
  refine ⟨so_iloadn d_Bo_joinBlocks_157 rfl rfl, ?_⟩
  refine ⟨so_const1 d_Bo_joinBlocks_158 (by decide) rfl, ?_⟩
  refine ⟨so_icmp_ne d_Bo_joinBlocks_159 rfl rfl, ?_⟩
  refine ⟨so_const1 d_Bo_joinBlocks_162 (by decide) rfl, ?_⟩
  refine ⟨so_zret d_Bo_joinBlocks_163 rfl, ?_⟩
  refine ⟨so_aloadn d_Bo_joinBlocks_164 rfl rfl, ?_⟩
  refine ⟨so_getr (ci := 2) (k := 3) rfl (by decide) rfl rfl fl_Bo_21 d_Bo_joinBlocks_165 rfl, ?_⟩
  refine ⟨so_iloadn d_Bo_joinBlocks_168 rfl rfl, ?_⟩
  refine ⟨so_iald d_Bo_joinBlocks_169 rfl, ?_⟩
  refine ⟨so_istoren d_Bo_joinBlocks_170 rfl (by decide) rfl, ?_⟩
  refine ⟨so_aloadn d_Bo_joinBlocks_171 rfl rfl, ?_⟩
  refine ⟨so_iloadn d_Bo_joinBlocks_172 rfl rfl, ?_⟩
  refine ⟨so_iload d_Bo_joinBlocks_173 rfl, ?_⟩
  refine ⟨so_callv (ci := 2) rfl rfl mc_Bo_closeBlock mi_Bo mj_Bo_closeBlock ms_Bo_closeBlock ml_Bo_31 yd_Bo_closeBlock (by decide) d_Bo_joinBlocks_175 rfl, ?_⟩
  refine ⟨so_istoren d_Bo_joinBlocks_178 rfl (by decide) rfl, ?_⟩
  refine ⟨so_goto d_Bo_joinBlocks_179 rfl, ?_⟩
  refine ⟨so_iinc d_Bo_joinBlocks_182 (by decide) (by decide) rfl, ?_⟩
  refine ⟨so_goto d_Bo_joinBlocks_185 rfl, ?_⟩
  refine ⟨so_iloadn d_Bo_joinBlocks_188 rfl rfl, ?_⟩
  refine ⟨so_const1 d_Bo_joinBlocks_189 (by decide) rfl, ?_⟩
  refine ⟨so_icmp_ne d_Bo_joinBlocks_190 rfl rfl, ?_⟩
  refine ⟨so_const1 d_Bo_joinBlocks_193 (by decide) rfl, ?_⟩
  refine ⟨so_goto d_Bo_joinBlocks_194 rfl, ?_⟩
  refine ⟨so_const1 d_Bo_joinBlocks_197 (by decide) rfl, ?_⟩
  refine ⟨so_zret d_Bo_joinBlocks_198 rfl, ?_⟩
  exact trivial
theorem d_Bo_closeBlock_0 : decode prog_2_method_5_code 0 = .ok (.aload_n 0, 1) := by decide +kernel
theorem d_Bo_closeBlock_1 : decode prog_2_method_5_code 1 = .ok (.getfield 18, 3) := by decide +kernel
theorem d_Bo_closeBlock_4 : decode prog_2_method_5_code 4 = .ok (.iload_n 1, 1) := by decide +kernel
theorem d_Bo_closeBlock_5 : decode prog_2_method_5_code 5 = .ok (.iaload, 1) := by decide +kernel
theorem d_Bo_closeBlock_6 : decode prog_2_method_5_code 6 = .ok (.istore_n 3, 1) := by decide +kernel
theorem d_Bo_closeBlock_7 : decode prog_2_method_5_code 7 = .ok (.aload_n 0, 1) := by decide +kernel
theorem d_Bo_closeBlock_8 : decode prog_2_method_5_code 8 = .ok (.getfield 18, 3) := by decide +kernel
theorem d_Bo_closeBlock_11 : decode prog_2_method_5_code 11 = .ok (.iload_n 1, 1) := by decide +kernel
theorem d_Bo_closeBlock_12 : decode prog_2_method_5_code 12 = .ok (.iload_n 2, 1) := by decide +kernel
theorem d_Bo_closeBlock_13 : decode prog_2_method_5_code 13 = .ok (.iastore, 1) := by decide +kernel
theorem d_Bo_closeBlock_14 : decode prog_2_method_5_code 14 = .ok (.aload_n 0, 1) := by decide +kernel
theorem d_Bo_closeBlock_15 : decode prog_2_method_5_code 15 = .ok (.getfield 18, 3) := by decide +kernel
theorem d_Bo_closeBlock_18 : decode prog_2_method_5_code 18 = .ok (.iload_n 2, 1) := by decide +kernel
theorem d_Bo_closeBlock_19 : decode prog_2_method_5_code 19 = .ok (.iload_n 1, 1) := by decide +kernel
theorem d_Bo_closeBlock_20 : decode prog_2_method_5_code 20 = .ok (.iastore, 1) := by decide +kernel
theorem d_Bo_closeBlock_21 : decode prog_2_method_5_code 21 = .ok (.iload_n 3, 1) := by decide +kernel
theorem d_Bo_closeBlock_22 : decode prog_2_method_5_code 22 = .ok (.ireturn, 1) := by decide +kernel
def tb_Bo_closeBlock : List pm_I := [
  pm_aload 1 0,
  pm_getr 2 2 2,
  pm_iload 3 1,
  pm_iald 4 0,
  pm_istore 5 3,
  pm_aload 6 0,
  pm_getr 7 2 2,
  pm_iload 8 1,
  pm_iload 9 2,
  pm_iast 10,
  pm_aload 11 0,
  pm_getr 12 2 2,
  pm_iload 13 2,
  pm_iload 14 1,
  pm_iast 15,
  pm_iload 16 3,
  pm_iret]
def bp_Bo_closeBlock : List Nat := [0, 1, 4, 5, 6, 7, 8, 11, 12, 13, 14, 15, 18, 19, 20, 21, 22]
set_option maxRecDepth 100000 in
theorem sd_Bo_closeBlock : pm_Sl prog_2_method_5_code 4 R_Bo "closeBlock" (some .int) pm_Y (pm_b bp_Bo_closeBlock) 0 tb_Bo_closeBlock := by
  refine ⟨so_aloadn d_Bo_closeBlock_0 rfl rfl, ?_⟩
  refine ⟨so_getr (ci := 2) (k := 2) rfl (by decide) rfl rfl fl_Bo_18 d_Bo_closeBlock_1 rfl, ?_⟩
  refine ⟨so_iloadn d_Bo_closeBlock_4 rfl rfl, ?_⟩
  refine ⟨so_iald d_Bo_closeBlock_5 rfl, ?_⟩
  refine ⟨so_istoren d_Bo_closeBlock_6 rfl (by decide) rfl, ?_⟩
  refine ⟨so_aloadn d_Bo_closeBlock_7 rfl rfl, ?_⟩
  refine ⟨so_getr (ci := 2) (k := 2) rfl (by decide) rfl rfl fl_Bo_18 d_Bo_closeBlock_8 rfl, ?_⟩
  refine ⟨so_iloadn d_Bo_closeBlock_11 rfl rfl, ?_⟩
  refine ⟨so_iloadn d_Bo_closeBlock_12 rfl rfl, ?_⟩
  refine ⟨so_iast d_Bo_closeBlock_13 rfl, ?_⟩
  refine ⟨so_aloadn d_Bo_closeBlock_14 rfl rfl, ?_⟩
  refine ⟨so_getr (ci := 2) (k := 2) rfl (by decide) rfl rfl fl_Bo_18 d_Bo_closeBlock_15 rfl, ?_⟩
  refine ⟨so_iloadn d_Bo_closeBlock_18 rfl rfl, ?_⟩
  refine ⟨so_iloadn d_Bo_closeBlock_19 rfl rfl, ?_⟩
  refine ⟨so_iast d_Bo_closeBlock_20 rfl, ?_⟩
  refine ⟨so_iloadn d_Bo_closeBlock_21 rfl rfl, ?_⟩
  refine ⟨so_iret d_Bo_closeBlock_22 rfl, ?_⟩
  exact trivial
theorem d_Bo_clear_0 : decode prog_2_method_2_code 0 = .ok (.aload_n 0, 1) := by decide +kernel
theorem d_Bo_clear_1 : decode prog_2_method_2_code 1 = .ok (.iconst 0, 1) := by decide +kernel
theorem d_Bo_clear_2 : decode prog_2_method_2_code 2 = .ok (.putfield 24, 3) := by decide +kernel
theorem d_Bo_clear_5 : decode prog_2_method_2_code 5 = .ok (.return_, 1) := by decide +kernel
def tb_Bo_clear : List pm_I := [
  pm_aload 1 0,
  pm_const 2 0,
  pm_puti 3 2 4,
  pm_vret]
def bp_Bo_clear : List Nat := [0, 1, 2, 5]
set_option maxRecDepth 100000 in
theorem sd_Bo_clear : pm_Sl prog_2_method_2_code 1 R_Bo "clear" (none) pm_Y (pm_b bp_Bo_clear) 0 tb_Bo_clear := by
  refine ⟨so_aloadn d_Bo_clear_0 rfl rfl, ?_⟩
  refine ⟨so_const1 d_Bo_clear_1 (by decide) rfl, ?_⟩
  refine ⟨so_puti (ci := 2) (k := 4) rfl (by decide) rfl rfl (Or.inl ⟨rfl, fl_Bo_24⟩) d_Bo_clear_2 rfl, ?_⟩
  refine ⟨so_vret d_Bo_clear_5 rfl, ?_⟩
  exact trivial
theorem d_Rl_init_0 : decode prog_5_method_1_code 0 = .ok (.aload_n 0, 1) := by decide +kernel
theorem d_Rl_init_1 : decode prog_5_method_1_code 1 = .ok (.invokespecial 3, 3) := by decide +kernel
theorem d_Rl_init_4 : decode prog_5_method_1_code 4 = .ok (.aload_n 0, 1) := by decide +kernel
theorem d_Rl_init_5 : decode prog_5_method_1_code 5 = .ok (.sipush 256, 3) := by decide +kernel
theorem d_Rl_init_8 : decode prog_5_method_1_code 8 = .ok (.newarray .int, 2) := by decide +kernel
theorem d_Rl_init_10 : decode prog_5_method_1_code 10 = .ok (.putfield 9, 3) := by decide +kernel
theorem d_Rl_init_13 : decode prog_5_method_1_code 13 = .ok (.return_, 1) := by decide +kernel
def tb_Rl_init : List pm_I := [
  pm_aload 1 0,
  pm_oinit 2,
  pm_aload 3 0,
  pm_const 4 256,
  pm_newa 5 0,
  pm_putr 6 4 0,
  pm_vret]
def bp_Rl_init : List Nat := [0, 1, 4, 5, 8, 10, 13]
set_option maxRecDepth 100000 in
theorem sd_Rl_init : pm_Sl prog_5_method_1_code 1 R_Rl "<init>" (none) pm_Y (pm_b bp_Rl_init) 0 tb_Rl_init := by
  refine ⟨so_aloadn d_Rl_init_0 rfl rfl, ?_⟩
  refine ⟨so_oinit (pm_in1 (List.mem_append_left _ (List.mem_of_getElem? (i := 97) rfl))) (pm_in1 (List.mem_append_left _ (List.mem_of_getElem? (i := 19) rfl))) (pm_in1 (List.mem_append_left _ (List.mem_of_getElem? (i := 20) rfl))) d_Rl_init_1 rfl, ?_⟩
  refine ⟨so_aloadn d_Rl_init_4 rfl rfl, ?_⟩
  refine ⟨so_const3 d_Rl_init_5 (by decide) rfl, ?_⟩
  refine ⟨so_newi d_Rl_init_8 rfl, ?_⟩
  refine ⟨so_putr (ci := 4) (k := 0) rfl (by decide) rfl rfl (Or.inr ⟨rfl, rfl, rfl, pm_in1 (List.mem_append_left _ (List.mem_of_getElem? (i := 98) rfl))⟩) d_Rl_init_10 rfl, ?_⟩
  refine ⟨so_vret d_Rl_init_13 rfl, ?_⟩
  exact trivial
theorem d_Rl_clear_0 : decode prog_5_method_2_code 0 = .ok (.aload_n 0, 1) := by decide +kernel
theorem d_Rl_clear_1 : decode prog_5_method_2_code 1 = .ok (.iconst 0, 1) := by decide +kernel
theorem d_Rl_clear_2 : decode prog_5_method_2_code 2 = .ok (.putfield 15, 3) := by decide +kernel
theorem d_Rl_clear_5 : decode prog_5_method_2_code 5 = .ok (.return_, 1) := by decide +kernel
def tb_Rl_clear : List pm_I := [
  pm_aload 1 0,
  pm_const 2 0,
  pm_puti 3 4 1,
  pm_vret]
def bp_Rl_clear : List Nat := [0, 1, 2, 5]
set_option maxRecDepth 100000 in
theorem sd_Rl_clear : pm_Sl prog_5_method_2_code 1 R_Rl "clear" (none) pm_Y (pm_b bp_Rl_clear) 0 tb_Rl_clear := by
  refine ⟨so_aloadn d_Rl_clear_0 rfl rfl, ?_⟩
  refine ⟨so_const1 d_Rl_clear_1 (by decide) rfl, ?_⟩
  refine ⟨so_puti (ci := 4) (k := 1) rfl (by decide) rfl rfl (Or.inl ⟨rfl, fl_Rl_15⟩) d_Rl_clear_2 rfl, ?_⟩
  refine ⟨so_vret d_Rl_clear_5 rfl, ?_⟩
  exact trivial
theorem d_Rl_add_0 : decode prog_5_method_3_code 0 = .ok (.aload_n 0, 1) := by decide +kernel
theorem d_Rl_add_1 : decode prog_5_method_3_code 1 = .ok (.getfield 15, 3) := by decide +kernel
theorem d_Rl_add_4 : decode prog_5_method_3_code 4 = .ok (.bipush 64, 2) := by decide +kernel
theorem d_Rl_add_6 : decode prog_5_method_3_code 6 = .ok (.if_icmp .ge 58, 3) := by decide +kernel
theorem d_Rl_add_9 : decode prog_5_method_3_code 9 = .ok (.aload_n 0, 1) := by decide +kernel
theorem d_Rl_add_10 : decode prog_5_method_3_code 10 = .ok (.getfield 15, 3) := by decide +kernel
theorem d_Rl_add_13 : decode prog_5_method_3_code 13 = .ok (.iconst 4, 1) := by decide +kernel
theorem d_Rl_add_14 : decode prog_5_method_3_code 14 = .ok (.imul, 1) := by decide +kernel
theorem d_Rl_add_15 : decode prog_5_method_3_code 15 = .ok (.istore 5, 2) := by decide +kernel
theorem d_Rl_add_17 : decode prog_5_method_3_code 17 = .ok (.aload_n 0, 1) := by decide +kernel
theorem d_Rl_add_18 : decode prog_5_method_3_code 18 = .ok (.getfield 9, 3) := by decide +kernel
theorem d_Rl_add_21 : decode prog_5_method_3_code 21 = .ok (.iload 5, 2) := by decide +kernel
theorem d_Rl_add_23 : decode prog_5_method_3_code 23 = .ok (.iload_n 1, 1) := by decide +kernel
theorem d_Rl_add_24 : decode prog_5_method_3_code 24 = .ok (.iastore, 1) := by decide +kernel
theorem d_Rl_add_25 : decode prog_5_method_3_code 25 = .ok (.aload_n 0, 1) := by decide +kernel
theorem d_Rl_add_26 : decode prog_5_method_3_code 26 = .ok (.getfield 9, 3) := by decide +kernel
theorem d_Rl_add_29 : decode prog_5_method_3_code 29 = .ok (.iload 5, 2) := by decide +kernel
theorem d_Rl_add_31 : decode prog_5_method_3_code 31 = .ok (.iconst 1, 1) := by decide +kernel
theorem d_Rl_add_32 : decode prog_5_method_3_code 32 = .ok (.iadd, 1) := by decide +kernel
theorem d_Rl_add_33 : decode prog_5_method_3_code 33 = .ok (.iload_n 2, 1) := by decide +kernel
theorem d_Rl_add_34 : decode prog_5_method_3_code 34 = .ok (.iastore, 1) := by decide +kernel
theorem d_Rl_add_35 : decode prog_5_method_3_code 35 = .ok (.aload_n 0, 1) := by decide +kernel
theorem d_Rl_add_36 : decode prog_5_method_3_code 36 = .ok (.getfield 9, 3) := by decide +kernel
theorem d_Rl_add_39 : decode prog_5_method_3_code 39 = .ok (.iload 5, 2) := by decide +kernel
theorem d_Rl_add_41 : decode prog_5_method_3_code 41 = .ok (.iconst 2, 1) := by decide +kernel
theorem d_Rl_add_42 : decode prog_5_method_3_code 42 = .ok (.iadd, 1) := by decide +kernel
theorem d_Rl_add_43 : decode prog_5_method_3_code 43 = .ok (.iload_n 3, 1) := by decide +kernel
theorem d_Rl_add_44 : decode prog_5_method_3_code 44 = .ok (.iastore, 1) := by decide +kernel
theorem d_Rl_add_45 : decode prog_5_method_3_code 45 = .ok (.aload_n 0, 1) := by decide +kernel
theorem d_Rl_add_46 : decode prog_5_method_3_code 46 = .ok (.getfield 9, 3) := by decide +kernel
theorem d_Rl_add_49 : decode prog_5_method_3_code 49 = .ok (.iload 5, 2) := by decide +kernel
theorem d_Rl_add_51 : decode prog_5_method_3_code 51 = .ok (.iconst 3, 1) := by decide +kernel
theorem d_Rl_add_52 : decode prog_5_method_3_code 52 = .ok (.iadd, 1) := by decide +kernel
theorem d_Rl_add_53 : decode prog_5_method_3_code 53 = .ok (.iload 4, 2) := by decide +kernel
theorem d_Rl_add_55 : decode prog_5_method_3_code 55 = .ok (.ifCond .eq 7, 3) := by decide +kernel
theorem d_Rl_add_58 : decode prog_5_method_3_code 58 = .ok (.iconst 1, 1) := by decide +kernel
theorem d_Rl_add_59 : decode prog_5_method_3_code 59 = .ok (.goto 4, 3) := by decide +kernel
theorem d_Rl_add_62 : decode prog_5_method_3_code 62 = .ok (.iconst 0, 1) := by decide +kernel
theorem d_Rl_add_63 : decode prog_5_method_3_code 63 = .ok (.iastore, 1) := by decide +kernel
theorem d_Rl_add_64 : decode prog_5_method_3_code 64 = .ok (.aload_n 0, 1) := by decide +kernel
theorem d_Rl_add_65 : decode prog_5_method_3_code 65 = .ok (.dup, 1) := by decide +kernel
theorem d_Rl_add_66 : decode prog_5_method_3_code 66 = .ok (.getfield 15, 3) := by decide +kernel
theorem d_Rl_add_69 : decode prog_5_method_3_code 69 = .ok (.iconst 1, 1) := by decide +kernel
theorem d_Rl_add_70 : decode prog_5_method_3_code 70 = .ok (.iadd, 1) := by decide +kernel
theorem d_Rl_add_71 : decode prog_5_method_3_code 71 = .ok (.putfield 15, 3) := by decide +kernel
theorem d_Rl_add_74 : decode prog_5_method_3_code 74 = .ok (.return_, 1) := by decide +kernel
def tb_Rl_add : List pm_I := [
  pm_aload 1 0,
  pm_geti 2 4 1,
  pm_const 3 64,
  pm_icmp 39 4 (fun a b => decide (b ≤ a)),
  pm_aload 5 0,
  pm_geti 6 4 1,
  pm_const 7 4,
  pm_bin 8 (fun a b => a * b),
  pm_istore 9 5,
  pm_aload 10 0,
  pm_getr 11 4 0,
  pm_iload 12 5,
  pm_iload 13 1,
  pm_iast 14,
  pm_aload 15 0,
  pm_getr 16 4 0,
  pm_iload 17 5,
  pm_const 18 1,
  pm_bin 19 (fun a b => a + b),
  pm_iload 20 2,
  pm_iast 21,
  pm_aload 22 0,
  pm_getr 23 4 0,
  pm_iload 24 5,
  pm_const 25 2,
  pm_bin 26 (fun a b => a + b),
  pm_iload 27 3,
  pm_iast 28,
  pm_aload 29 0,
  pm_getr 30 4 0,
  pm_iload 31 5,
  pm_const 32 3,
  pm_bin 33 (fun a b => a + b),
  pm_iload 34 4,
  pm_if 37 35 (fun a => decide (a = 0)),
  pm_const 36 1,
  pm_goto 38,
  pm_const 38 0,
  pm_iast 39,
  pm_aload 40 0,
  pm_dup 41,
  pm_geti 42 4 1,
  pm_const 43 1,
  pm_bin 44 (fun a b => a + b),
  pm_puti 45 4 1,
  pm_vret]
def bp_Rl_add : List Nat := [0, 1, 4, 6, 9, 10, 13, 14, 15, 17, 18, 21, 23, 24, 25, 26, 29, 31, 32, 33, 34, 35, 36, 39, 41, 42, 43, 44, 45, 46, 49, 51, 52, 53, 55, 58, 59, 62, 63, 64, 65, 66, 69, 70, 71, 74]
set_option maxRecDepth 100000 in
theorem sd_Rl_add : pm_Sl prog_5_method_3_code 6 R_Rl "add" (none) pm_Y (pm_b bp_Rl_add) 0 tb_Rl_add := by
  refine ⟨so_aloadn d_Rl_add_0 rfl rfl, ?_⟩
  refine ⟨so_geti (ci := 4) (k := 1) rfl (by decide) rfl rfl fl_Rl_15 d_Rl_add_1 rfl, ?_⟩
  refine ⟨so_const2 d_Rl_add_4 (by decide) rfl, ?_⟩
  refine ⟨so_icmp_ge d_Rl_add_6 rfl rfl, ?_⟩
  refine ⟨so_aloadn d_Rl_add_9 rfl rfl, ?_⟩
  refine ⟨so_geti (ci := 4) (k := 1) rfl (by decide) rfl rfl fl_Rl_15 d_Rl_add_10 rfl, ?_⟩
  refine ⟨so_const1 d_Rl_add_13 (by decide) rfl, ?_⟩
  refine ⟨so_imul d_Rl_add_14 rfl, ?_⟩
  refine ⟨so_istore d_Rl_add_15 (by decide) rfl, ?_⟩
  refine ⟨so_aloadn d_Rl_add_17 rfl rfl, ?_⟩
  refine ⟨so_getr (ci := 4) (k := 0) rfl (by decide) rfl rfl fl_Rl_9 d_Rl_add_18 rfl, ?_⟩
  refine ⟨so_iload d_Rl_add_21 rfl, ?_⟩
  refine ⟨so_iloadn d_Rl_add_23 rfl rfl, ?_⟩
  refine ⟨so_iast d_Rl_add_24 rfl, ?_⟩
  refine ⟨so_aloadn d_Rl_add_25 rfl rfl, ?_⟩
  refine ⟨so_getr (ci := 4) (k := 0) rfl (by decide) rfl rfl fl_Rl_9 d_Rl_add_26 rfl, ?_⟩
  refine ⟨so_iload d_Rl_add_29 rfl, ?_⟩
  refine ⟨so_const1 d_Rl_add_31 (by decide) rfl, ?_⟩
  refine ⟨so_iadd d_Rl_add_32 rfl, ?_⟩
  refine ⟨so_iloadn d_Rl_add_33 rfl rfl, ?_⟩
  refine ⟨so_iast d_Rl_add_34 rfl, ?_⟩
  refine ⟨so_aloadn d_Rl_add_35 rfl rfl, ?_⟩
  refine ⟨so_getr (ci := 4) (k := 0) rfl (by decide) rfl rfl fl_Rl_9 d_Rl_add_36 rfl, ?_⟩
  refine ⟨so_iload d_Rl_add_39 rfl, ?_⟩
  refine ⟨so_const1 d_Rl_add_41 (by decide) rfl, ?_⟩
  refine ⟨so_iadd d_Rl_add_42 rfl, ?_⟩
  refine ⟨so_iloadn d_Rl_add_43 rfl rfl, ?_⟩
  refine ⟨so_iast d_Rl_add_44 rfl, ?_⟩
  refine ⟨so_aloadn d_Rl_add_45 rfl rfl, ?_⟩
  refine ⟨so_getr (ci := 4) (k := 0) rfl (by decide) rfl rfl fl_Rl_9 d_Rl_add_46 rfl, ?_⟩
  refine ⟨so_iload d_Rl_add_49 rfl, ?_⟩
  refine ⟨so_const1 d_Rl_add_51 (by decide) rfl, ?_⟩
  refine ⟨so_iadd d_Rl_add_52 rfl, ?_⟩
  refine ⟨so_iload d_Rl_add_53 rfl, ?_⟩
  refine ⟨so_if_eq d_Rl_add_55 rfl rfl, ?_⟩
  refine ⟨so_const1 d_Rl_add_58 (by decide) rfl, ?_⟩
  refine ⟨so_goto d_Rl_add_59 rfl, ?_⟩
  refine ⟨so_const1 d_Rl_add_62 (by decide) rfl, ?_⟩
  refine ⟨so_iast d_Rl_add_63 rfl, ?_⟩
  refine ⟨so_aloadn d_Rl_add_64 rfl rfl, ?_⟩
  refine ⟨so_dup d_Rl_add_65 rfl, ?_⟩
  refine ⟨so_geti (ci := 4) (k := 1) rfl (by decide) rfl rfl fl_Rl_15 d_Rl_add_66 rfl, ?_⟩
  refine ⟨so_const1 d_Rl_add_69 (by decide) rfl, ?_⟩
  refine ⟨so_iadd d_Rl_add_70 rfl, ?_⟩
  refine ⟨so_puti (ci := 4) (k := 1) rfl (by decide) rfl rfl (Or.inl ⟨rfl, fl_Rl_15⟩) d_Rl_add_71 rfl, ?_⟩
  refine ⟨so_vret d_Rl_add_74 rfl, ?_⟩
  exact trivial
theorem d_Rl_part_0 : decode prog_5_method_4_code 0 = .ok (.iload_n 1, 1) := by decide +kernel
theorem d_Rl_part_1 : decode prog_5_method_4_code 1 = .ok (.aload_n 0, 1) := by decide +kernel
theorem d_Rl_part_2 : decode prog_5_method_4_code 2 = .ok (.getfield 15, 3) := by decide +kernel
theorem d_Rl_part_5 : decode prog_5_method_4_code 5 = .ok (.bipush 64, 2) := by decide +kernel
theorem d_Rl_part_7 : decode prog_5_method_4_code 7 = .ok (.invokestatic 19, 3) := by decide +kernel
theorem d_Rl_part_10 : decode prog_5_method_4_code 10 = .ok (.invokestatic 25, 3) := by decide +kernel
theorem d_Rl_part_13 : decode prog_5_method_4_code 13 = .ok (.ifCond .eq 15, 3) := by decide +kernel
theorem d_Rl_part_16 : decode prog_5_method_4_code 16 = .ok (.iload_n 2, 1) := by decide +kernel
theorem d_Rl_part_17 : decode prog_5_method_4_code 17 = .ok (.iconst 4, 1) := by decide +kernel
theorem d_Rl_part_18 : decode prog_5_method_4_code 18 = .ok (.invokestatic 25, 3) := by decide +kernel
theorem d_Rl_part_21 : decode prog_5_method_4_code 21 = .ok (.ifCond .eq 7, 3) := by decide +kernel
theorem d_Rl_part_24 : decode prog_5_method_4_code 24 = .ok (.iconst 1, 1) := by decide +kernel
theorem d_Rl_part_25 : decode prog_5_method_4_code 25 = .ok (.goto 4, 3) := by decide +kernel
theorem d_Rl_part_28 : decode prog_5_method_4_code 28 = .ok (.iconst 0, 1) := by decide +kernel
theorem d_Rl_part_29 : decode prog_5_method_4_code 29 = .ok (.istore_n 3, 1) := by decide +kernel
theorem d_Rl_part_30 : decode prog_5_method_4_code 30 = .ok (.iload_n 3, 1) := by decide +kernel
theorem d_Rl_part_31 : decode prog_5_method_4_code 31 = .ok (.ifCond .eq 16, 3) := by decide +kernel
theorem d_Rl_part_34 : decode prog_5_method_4_code 34 = .ok (.aload_n 0, 1) := by decide +kernel
theorem d_Rl_part_35 : decode prog_5_method_4_code 35 = .ok (.getfield 9, 3) := by decide +kernel
theorem d_Rl_part_38 : decode prog_5_method_4_code 38 = .ok (.iload_n 1, 1) := by decide +kernel
theorem d_Rl_part_39 : decode prog_5_method_4_code 39 = .ok (.iconst 4, 1) := by decide +kernel
theorem d_Rl_part_40 : decode prog_5_method_4_code 40 = .ok (.imul, 1) := by decide +kernel
theorem d_Rl_part_41 : decode prog_5_method_4_code 41 = .ok (.iload_n 2, 1) := by decide +kernel
theorem d_Rl_part_42 : decode prog_5_method_4_code 42 = .ok (.iadd, 1) := by decide +kernel
theorem d_Rl_part_43 : decode prog_5_method_4_code 43 = .ok (.iaload, 1) := by decide +kernel
theorem d_Rl_part_44 : decode prog_5_method_4_code 44 = .ok (.goto 4, 3) := by decide +kernel
theorem d_Rl_part_47 : decode prog_5_method_4_code 47 = .ok (.iconst (-1), 1) := by decide +kernel
theorem d_Rl_part_48 : decode prog_5_method_4_code 48 = .ok (.ireturn, 1) := by decide +kernel
def tb_Rl_part : List pm_I := [
  pm_iload 1 1,
  pm_aload 2 0,
  pm_geti 3 4 1,
  pm_const 4 64,
  pm_min 5,
  pm_calls 6 2 2,
  pm_if 13 7 (fun a => decide (a = 0)),
  pm_iload 8 2,
  pm_const 9 4,
  pm_calls 10 2 2,
  pm_if 13 11 (fun a => decide (a = 0)),
  pm_const 12 1,
  pm_goto 14,
  pm_const 14 0,
  pm_istore 15 3,
  pm_iload 16 3,
  pm_if 26 17 (fun a => decide (a = 0)),
  pm_aload 18 0,
  pm_getr 19 4 0,
  pm_iload 20 1,
  pm_const 21 4,
  pm_bin 22 (fun a b => a * b),
  pm_iload 23 2,
  pm_bin 24 (fun a b => a + b),
  pm_iald 25 0,
  pm_goto 27,
  pm_const 27 (-1),
  pm_iret]
def bp_Rl_part : List Nat := [0, 1, 2, 5, 7, 10, 13, 16, 17, 18, 21, 24, 25, 28, 29, 30, 31, 34, 35, 38, 39, 40, 41, 42, 43, 44, 47, 48]
set_option maxRecDepth 100000 in
theorem sd_Rl_part : pm_Sl prog_5_method_4_code 4 R_Rl "part" (some .int) pm_Y (pm_b bp_Rl_part) 0 tb_Rl_part := by
  refine ⟨so_iloadn d_Rl_part_0 rfl rfl, ?_⟩
  refine ⟨so_aloadn d_Rl_part_1 rfl rfl, ?_⟩
  refine ⟨so_geti (ci := 4) (k := 1) rfl (by decide) rfl rfl fl_Rl_15 d_Rl_part_2 rfl, ?_⟩
  refine ⟨so_const2 d_Rl_part_5 (by decide) rfl, ?_⟩
  refine ⟨so_min (pm_in1 (List.mem_append_right _ (List.mem_append_left _ (List.mem_of_getElem? (i := 209) rfl)))) (pm_in1 (List.mem_append_right _ (List.mem_append_left _ (List.mem_of_getElem? (i := 210) rfl)))) (pm_in1 (List.mem_append_left _ (List.mem_of_getElem? (i := 11) rfl))) (pm_in1 (List.mem_append_right _ (List.mem_append_left _ (List.mem_of_getElem? (i := 211) rfl)))) d_Rl_part_7 rfl, ?_⟩
  refine ⟨so_calls rfl mc_Lo_isBelow mi_Lo mt_Lo_isBelow ml_Rl_25 yd_Lo_isBelow (by decide) d_Rl_part_10 rfl, ?_⟩
  refine ⟨so_if_eq d_Rl_part_13 rfl rfl, ?_⟩
  refine ⟨so_iloadn d_Rl_part_16 rfl rfl, ?_⟩
  refine ⟨so_const1 d_Rl_part_17 (by decide) rfl, ?_⟩
  refine ⟨so_calls rfl mc_Lo_isBelow mi_Lo mt_Lo_isBelow ml_Rl_25 yd_Lo_isBelow (by decide) d_Rl_part_18 rfl, ?_⟩
  refine ⟨so_if_eq d_Rl_part_21 rfl rfl, ?_⟩
  refine ⟨so_const1 d_Rl_part_24 (by decide) rfl, ?_⟩
  refine ⟨so_goto d_Rl_part_25 rfl, ?_⟩
  refine ⟨so_const1 d_Rl_part_28 (by decide) rfl, ?_⟩
  refine ⟨so_istoren d_Rl_part_29 rfl (by decide) rfl, ?_⟩
  refine ⟨so_iloadn d_Rl_part_30 rfl rfl, ?_⟩
  refine ⟨so_if_eq d_Rl_part_31 rfl rfl, ?_⟩
  refine ⟨so_aloadn d_Rl_part_34 rfl rfl, ?_⟩
  refine ⟨so_getr (ci := 4) (k := 0) rfl (by decide) rfl rfl fl_Rl_9 d_Rl_part_35 rfl, ?_⟩
  refine ⟨so_iloadn d_Rl_part_38 rfl rfl, ?_⟩
  refine ⟨so_const1 d_Rl_part_39 (by decide) rfl, ?_⟩
  refine ⟨so_imul d_Rl_part_40 rfl, ?_⟩
  refine ⟨so_iloadn d_Rl_part_41 rfl rfl, ?_⟩
  refine ⟨so_iadd d_Rl_part_42 rfl, ?_⟩
  refine ⟨so_iald d_Rl_part_43 rfl, ?_⟩
  refine ⟨so_goto d_Rl_part_44 rfl, ?_⟩
  refine ⟨so_const1 d_Rl_part_47 (by decide) rfl, ?_⟩
  refine ⟨so_iret d_Rl_part_48 rfl, ?_⟩
  exact trivial
theorem d_Ar_fill_0 : decode prog_13_method_103_code 0 = .ok (.iconst 0, 1) := by decide +kernel
theorem d_Ar_fill_1 : decode prog_13_method_103_code 1 = .ok (.istore_n 2, 1) := by decide +kernel
theorem d_Ar_fill_2 : decode prog_13_method_103_code 2 = .ok (.aload_n 0, 1) := by decide +kernel
theorem d_Ar_fill_3 : decode prog_13_method_103_code 3 = .ok (.arraylength, 1) := by decide +kernel
theorem d_Ar_fill_4 : decode prog_13_method_103_code 4 = .ok (.istore_n 3, 1) := by decide +kernel
theorem d_Ar_fill_5 : decode prog_13_method_103_code 5 = .ok (.iload_n 2, 1) := by decide +kernel
theorem d_Ar_fill_6 : decode prog_13_method_103_code 6 = .ok (.iload_n 3, 1) := by decide +kernel
theorem d_Ar_fill_7 : decode prog_13_method_103_code 7 = .ok (.if_icmp .ge 13, 3) := by decide +kernel
theorem d_Ar_fill_10 : decode prog_13_method_103_code 10 = .ok (.aload_n 0, 1) := by decide +kernel
theorem d_Ar_fill_11 : decode prog_13_method_103_code 11 = .ok (.iload_n 2, 1) := by decide +kernel
theorem d_Ar_fill_12 : decode prog_13_method_103_code 12 = .ok (.iload_n 1, 1) := by decide +kernel
theorem d_Ar_fill_13 : decode prog_13_method_103_code 13 = .ok (.iastore, 1) := by decide +kernel
theorem d_Ar_fill_14 : decode prog_13_method_103_code 14 = .ok (.iinc 2 1, 3) := by decide +kernel
theorem d_Ar_fill_17 : decode prog_13_method_103_code 17 = .ok (.goto (-12), 3) := by decide +kernel
theorem d_Ar_fill_20 : decode prog_13_method_103_code 20 = .ok (.return_, 1) := by decide +kernel
def tb_Ar_fill : List pm_I := [
  pm_const 1 0,
  pm_istore 2 2,
  pm_aload 3 0,
  pm_alen 4 0,
  pm_istore 5 3,
  pm_iload 6 2,
  pm_iload 7 3,
  pm_icmp 14 8 (fun a b => decide (b ≤ a)),
  pm_aload 9 0,
  pm_iload 10 2,
  pm_iload 11 1,
  pm_iast 12,
  pm_iinc 13 2 1,
  pm_goto 5,
  pm_vret]
def bp_Ar_fill : List Nat := [0, 1, 2, 3, 4, 5, 6, 7, 10, 11, 12, 13, 14, 17, 20]
set_option maxRecDepth 100000 in
theorem sd_Ar_fill : pm_Sl prog_13_method_103_code 4 R_Ar "fill" (none) pm_Y (pm_b bp_Ar_fill) 0 tb_Ar_fill := by
  refine ⟨so_const1 d_Ar_fill_0 (by decide) rfl, ?_⟩
  refine ⟨so_istoren d_Ar_fill_1 rfl (by decide) rfl, ?_⟩
  refine ⟨so_aloadn d_Ar_fill_2 rfl rfl, ?_⟩
  refine ⟨so_alen rfl (by decide) d_Ar_fill_3 rfl, ?_⟩
  refine ⟨so_istoren d_Ar_fill_4 rfl (by decide) rfl, ?_⟩
  refine ⟨so_iloadn d_Ar_fill_5 rfl rfl, ?_⟩
  refine ⟨so_iloadn d_Ar_fill_6 rfl rfl, ?_⟩
  refine ⟨so_icmp_ge d_Ar_fill_7 rfl rfl, ?_⟩
  refine ⟨so_aloadn d_Ar_fill_10 rfl rfl, ?_⟩
  refine ⟨so_iloadn d_Ar_fill_11 rfl rfl, ?_⟩
  refine ⟨so_iloadn d_Ar_fill_12 rfl rfl, ?_⟩
  refine ⟨so_iast d_Ar_fill_13 rfl, ?_⟩
  refine ⟨so_iinc d_Ar_fill_14 (by decide) (by decide) rfl, ?_⟩
  refine ⟨so_goto d_Ar_fill_17 rfl, ?_⟩
  refine ⟨so_vret d_Ar_fill_20 rfl, ?_⟩
  exact trivial
end
section
theorem d_Ru_init_0 : decode prog_6_method_1_code 0 = .ok (.aload_n 0, 1) := by decide +kernel
theorem d_Ru_init_1 : decode prog_6_method_1_code 1 = .ok (.invokespecial 3, 3) := by decide +kernel
theorem d_Ru_init_4 : decode prog_6_method_1_code 4 = .ok (.aload_n 0, 1) := by decide +kernel
theorem d_Ru_init_5 : decode prog_6_method_1_code 5 = .ok (.bipush 6, 2) := by decide +kernel
theorem d_Ru_init_7 : decode prog_6_method_1_code 7 = .ok (.anewarray 9, 3) := by decide +kernel
theorem d_Ru_init_10 : decode prog_6_method_1_code 10 = .ok (.putfield 11, 3) := by decide +kernel
theorem d_Ru_init_13 : decode prog_6_method_1_code 13 = .ok (.aload_n 0, 1) := by decide +kernel
theorem d_Ru_init_14 : decode prog_6_method_1_code 14 = .ok (.iconst 4, 1) := by decide +kernel
theorem d_Ru_init_15 : decode prog_6_method_1_code 15 = .ok (.anewarray 17, 3) := by decide +kernel
theorem d_Ru_init_18 : decode prog_6_method_1_code 18 = .ok (.putfield 19, 3) := by decide +kernel
theorem d_Ru_init_21 : decode prog_6_method_1_code 21 = .ok (.aload_n 0, 1) := by decide +kernel
theorem d_Ru_init_22 : decode prog_6_method_1_code 22 = .ok (.bipush 8, 2) := by decide +kernel
theorem d_Ru_init_24 : decode prog_6_method_1_code 24 = .ok (.anewarray 23, 3) := by decide +kernel
theorem d_Ru_init_27 : decode prog_6_method_1_code 27 = .ok (.putfield 25, 3) := by decide +kernel
theorem d_Ru_init_30 : decode prog_6_method_1_code 30 = .ok (.aload_n 0, 1) := by decide +kernel
theorem d_Ru_init_31 : decode prog_6_method_1_code 31 = .ok (.new 29, 3) := by decide +kernel
theorem d_Ru_init_34 : decode prog_6_method_1_code 34 = .ok (.dup, 1) := by decide +kernel
theorem d_Ru_init_35 : decode prog_6_method_1_code 35 = .ok (.invokespecial 31, 3) := by decide +kernel
theorem d_Ru_init_38 : decode prog_6_method_1_code 38 = .ok (.putfield 32, 3) := by decide +kernel
theorem d_Ru_init_41 : decode prog_6_method_1_code 41 = .ok (.aload_n 0, 1) := by decide +kernel
theorem d_Ru_init_42 : decode prog_6_method_1_code 42 = .ok (.aload_n 1, 1) := by decide +kernel
theorem d_Ru_init_43 : decode prog_6_method_1_code 43 = .ok (.putfield 36, 3) := by decide +kernel
theorem d_Ru_init_46 : decode prog_6_method_1_code 46 = .ok (.iconst 0, 1) := by decide +kernel
theorem d_Ru_init_47 : decode prog_6_method_1_code 47 = .ok (.istore_n 2, 1) := by decide +kernel
theorem d_Ru_init_48 : decode prog_6_method_1_code 48 = .ok (.iload_n 2, 1) := by decide +kernel
theorem d_Ru_init_49 : decode prog_6_method_1_code 49 = .ok (.bipush 6, 2) := by decide +kernel
theorem d_Ru_init_51 : decode prog_6_method_1_code 51 = .ok (.if_icmp .ge 23, 3) := by decide +kernel
theorem d_Ru_init_54 : decode prog_6_method_1_code 54 = .ok (.aload_n 0, 1) := by decide +kernel
theorem d_Ru_init_55 : decode prog_6_method_1_code 55 = .ok (.getfield 11, 3) := by decide +kernel
theorem d_Ru_init_58 : decode prog_6_method_1_code 58 = .ok (.iload_n 2, 1) := by decide +kernel
theorem d_Ru_init_59 : decode prog_6_method_1_code 59 = .ok (.new 9, 3) := by decide +kernel
theorem d_Ru_init_62 : decode prog_6_method_1_code 62 = .ok (.dup, 1) := by decide +kernel
theorem d_Ru_init_63 : decode prog_6_method_1_code 63 = .ok (.iload_n 2, 1) := by decide +kernel
theorem d_Ru_init_64 : decode prog_6_method_1_code 64 = .ok (.invokespecial 40, 3) := by decide +kernel
theorem d_Ru_init_67 : decode prog_6_method_1_code 67 = .ok (.aastore, 1) := by decide +kernel
theorem d_Ru_init_68 : decode prog_6_method_1_code 68 = .ok (.iinc 2 1, 3) := by decide +kernel
theorem d_Ru_init_71 : decode prog_6_method_1_code 71 = .ok (.goto (-23), 3) := by decide +kernel
theorem d_Ru_init_74 : decode prog_6_method_1_code 74 = .ok (.iconst 0, 1) := by decide +kernel
theorem d_Ru_init_75 : decode prog_6_method_1_code 75 = .ok (.istore_n 2, 1) := by decide +kernel
theorem d_Ru_init_76 : decode prog_6_method_1_code 76 = .ok (.iload_n 2, 1) := by decide +kernel
theorem d_Ru_init_77 : decode prog_6_method_1_code 77 = .ok (.iconst 4, 1) := by decide +kernel
theorem d_Ru_init_78 : decode prog_6_method_1_code 78 = .ok (.if_icmp .ge 22, 3) := by decide +kernel
theorem d_Ru_init_81 : decode prog_6_method_1_code 81 = .ok (.aload_n 0, 1) := by decide +kernel
theorem d_Ru_init_82 : decode prog_6_method_1_code 82 = .ok (.getfield 19, 3) := by decide +kernel
theorem d_Ru_init_85 : decode prog_6_method_1_code 85 = .ok (.iload_n 2, 1) := by decide +kernel
theorem d_Ru_init_86 : decode prog_6_method_1_code 86 = .ok (.new 17, 3) := by decide +kernel
theorem d_Ru_init_89 : decode prog_6_method_1_code 89 = .ok (.dup, 1) := by decide +kernel
theorem d_Ru_init_90 : decode prog_6_method_1_code 90 = .ok (.invokespecial 43, 3) := by decide +kernel
theorem d_Ru_init_93 : decode prog_6_method_1_code 93 = .ok (.aastore, 1) := by decide +kernel
theorem d_Ru_init_94 : decode prog_6_method_1_code 94 = .ok (.iinc 2 1, 3) := by decide +kernel
theorem d_Ru_init_97 : decode prog_6_method_1_code 97 = .ok (.goto (-21), 3) := by decide +kernel
theorem d_Ru_init_100 : decode prog_6_method_1_code 100 = .ok (.iconst 0, 1) := by decide +kernel
theorem d_Ru_init_101 : decode prog_6_method_1_code 101 = .ok (.istore_n 2, 1) := by decide +kernel
theorem d_Ru_init_102 : decode prog_6_method_1_code 102 = .ok (.iload_n 2, 1) := by decide +kernel
theorem d_Ru_init_103 : decode prog_6_method_1_code 103 = .ok (.bipush 8, 2) := by decide +kernel
theorem d_Ru_init_105 : decode prog_6_method_1_code 105 = .ok (.if_icmp .ge 22, 3) := by decide +kernel
theorem d_Ru_init_108 : decode prog_6_method_1_code 108 = .ok (.aload_n 0, 1) := by decide +kernel
theorem d_Ru_init_109 : decode prog_6_method_1_code 109 = .ok (.getfield 25, 3) := by decide +kernel
theorem d_Ru_init_112 : decode prog_6_method_1_code 112 = .ok (.iload_n 2, 1) := by decide +kernel
theorem d_Ru_init_113 : decode prog_6_method_1_code 113 = .ok (.new 23, 3) := by decide +kernel
theorem d_Ru_init_116 : decode prog_6_method_1_code 116 = .ok (.dup, 1) := by decide +kernel
theorem d_Ru_init_117 : decode prog_6_method_1_code 117 = .ok (.invokespecial 44, 3) := by decide +kernel
theorem d_Ru_init_120 : decode prog_6_method_1_code 120 = .ok (.aastore, 1) := by decide +kernel
theorem d_Ru_init_121 : decode prog_6_method_1_code 121 = .ok (.iinc 2 1, 3) := by decide +kernel
theorem d_Ru_init_124 : decode prog_6_method_1_code 124 = .ok (.goto (-22), 3) := by decide +kernel
theorem d_Ru_init_127 : decode prog_6_method_1_code 127 = .ok (.return_, 1) := by decide +kernel
def tb_Ru_init : List pm_I := [
  pm_aload 1 0,
  pm_oinit 2,
  pm_aload 3 0,
  pm_const 4 6,
  pm_newa 5 3,
  pm_putr 6 3 1,
  pm_aload 7 0,
  pm_const 8 4,
  pm_newa 9 4,
  pm_putr 10 3 2,
  pm_aload 11 0,
  pm_const 12 8,
  pm_newa 13 5,
  pm_putr 14 3 3,
  pm_aload 15 0,
  pm_newo 16 4 2,
  pm_dup 17,
  pm_callc 18 51 1,
  pm_putr 19 3 4,
  pm_aload 20 0,
  pm_aload 21 1,
  pm_putr 22 3 0,
  pm_const 23 0,
  pm_istore 24 2,
  pm_iload 25 2,
  pm_const 26 6,
  pm_icmp 37 27 (fun a b => decide (b ≤ a)),
  pm_aload 28 0,
  pm_getr 29 3 1,
  pm_iload 30 2,
  pm_newo 31 5 6,
  pm_dup 32,
  pm_iload 33 2,
  pm_callc 34 55 2,
  pm_aast 35 3 5,
  pm_iinc 36 2 1,
  pm_goto 24,
  pm_const 38 0,
  pm_istore 39 2,
  pm_iload 40 2,
  pm_const 41 4,
  pm_icmp 51 42 (fun a b => decide (b ≤ a)),
  pm_aload 43 0,
  pm_getr 44 3 2,
  pm_iload 45 2,
  pm_newo 46 6 3,
  pm_dup 47,
  pm_callc 48 61 1,
  pm_aast 49 4 6,
  pm_iinc 50 2 1,
  pm_goto 39,
  pm_const 52 0,
  pm_istore 53 2,
  pm_iload 54 2,
  pm_const 55 8,
  pm_icmp 65 56 (fun a b => decide (b ≤ a)),
  pm_aload 57 0,
  pm_getr 58 3 3,
  pm_iload 59 2,
  pm_newo 60 7 3,
  pm_dup 61,
  pm_callc 62 66 1,
  pm_aast 63 5 7,
  pm_iinc 64 2 1,
  pm_goto 53,
  pm_vret]
def bp_Ru_init : List Nat := [0, 1, 4, 5, 7, 10, 13, 14, 15, 18, 21, 22, 24, 27, 30, 31, 34, 35, 38, 41, 42, 43, 46, 47, 48, 49, 51, 54, 55, 58, 59, 62, 63, 64, 67, 68, 71, 74, 75, 76, 77, 78, 81, 82, 85, 86, 89, 90, 93, 94, 97, 100, 101, 102, 103, 105, 108, 109, 112, 113, 116, 117, 120, 121, 124, 127]
set_option maxRecDepth 100000 in
theorem sd_Ru_init : pm_Sl prog_6_method_1_code 3 R_Ru "<init>" (none) pm_Y (pm_b bp_Ru_init) 0 tb_Ru_init := by
  refine ⟨so_aloadn d_Ru_init_0 rfl rfl, ?_⟩
  refine ⟨so_oinit (pm_in1 (List.mem_append_left _ (List.mem_of_getElem? (i := 85) rfl))) (pm_in1 (List.mem_append_left _ (List.mem_of_getElem? (i := 19) rfl))) (pm_in1 (List.mem_append_left _ (List.mem_of_getElem? (i := 20) rfl))) d_Ru_init_1 rfl, ?_⟩
  refine ⟨so_aloadn d_Ru_init_4 rfl rfl, ?_⟩
  refine ⟨so_const2 d_Ru_init_5 (by decide) rfl, ?_⟩
  refine ⟨so_anew rfl (by decide) (fun _ => rfl) (pm_in1 (List.mem_append_left _ (List.mem_of_getElem? (i := 86) rfl))) d_Ru_init_7 rfl, ?_⟩
  refine ⟨so_putr (ci := 3) (k := 1) rfl (by decide) rfl rfl (Or.inr ⟨rfl, rfl, rfl, pm_in1 (List.mem_append_left _ (List.mem_of_getElem? (i := 173) rfl))⟩) d_Ru_init_10 rfl, ?_⟩
  refine ⟨so_aloadn d_Ru_init_13 rfl rfl, ?_⟩
  refine ⟨so_const1 d_Ru_init_14 (by decide) rfl, ?_⟩
  refine ⟨so_anew rfl (by decide) (fun _ => rfl) (pm_in1 (List.mem_append_left _ (List.mem_of_getElem? (i := 88) rfl))) d_Ru_init_15 rfl, ?_⟩
  refine ⟨so_putr (ci := 3) (k := 2) rfl (by decide) rfl rfl (Or.inr ⟨rfl, rfl, rfl, pm_in1 (List.mem_append_left _ (List.mem_of_getElem? (i := 174) rfl))⟩) d_Ru_init_18 rfl, ?_⟩
  refine ⟨so_aloadn d_Ru_init_21 rfl rfl, ?_⟩
  refine ⟨so_const2 d_Ru_init_22 (by decide) rfl, ?_⟩
  refine ⟨so_anew rfl (by decide) (fun _ => rfl) (pm_in1 (List.mem_append_left _ (List.mem_of_getElem? (i := 90) rfl))) d_Ru_init_24 rfl, ?_⟩
  refine ⟨so_putr (ci := 3) (k := 3) rfl (by decide) rfl rfl (Or.inr ⟨rfl, rfl, rfl, pm_in1 (List.mem_append_left _ (List.mem_of_getElem? (i := 175) rfl))⟩) d_Ru_init_27 rfl, ?_⟩
  refine ⟨so_aloadn d_Ru_init_30 rfl rfl, ?_⟩
  refine ⟨so_newo (ci := 4) rfl (by decide +kernel) (pm_in1 (List.mem_append_left _ (List.mem_of_getElem? (i := 92) rfl))) (pm_in1 (List.mem_append_left _ (List.mem_of_getElem? (i := 93) rfl))) (pm_in1 (List.mem_append_left _ (List.mem_of_getElem? (i := 6) rfl))) d_Ru_init_31 rfl, ?_⟩
  refine ⟨so_dup d_Ru_init_34 rfl, ?_⟩
  refine ⟨so_callc rfl rfl mc_Rl_init mi_Rl mj_Rl_init ml_Ru_31 yd_Rl_init (by decide) d_Ru_init_35 rfl, ?_⟩
  refine ⟨so_putr (ci := 3) (k := 4) rfl (by decide) rfl rfl (Or.inr ⟨rfl, rfl, rfl, pm_in1 (List.mem_append_left _ (List.mem_of_getElem? (i := 176) rfl))⟩) d_Ru_init_38 rfl, ?_⟩
  refine ⟨so_aloadn d_Ru_init_41 rfl rfl, ?_⟩
  refine ⟨so_aloadn d_Ru_init_42 rfl rfl, ?_⟩
  refine ⟨so_putr (ci := 3) (k := 0) rfl (by decide) rfl rfl (Or.inr ⟨rfl, rfl, rfl, pm_in1 (List.mem_append_left _ (List.mem_of_getElem? (i := 172) rfl))⟩) d_Ru_init_43 rfl, ?_⟩
  refine ⟨so_const1 d_Ru_init_46 (by decide) rfl, ?_⟩
  refine ⟨so_istoren d_Ru_init_47 rfl (by decide) rfl, ?_⟩
  refine ⟨so_iloadn d_Ru_init_48 rfl rfl, ?_⟩
  refine ⟨so_const2 d_Ru_init_49 (by decide) rfl, ?_⟩
  refine ⟨so_icmp_ge d_Ru_init_51 rfl rfl, ?_⟩
  refine ⟨so_aloadn d_Ru_init_54 rfl rfl, ?_⟩
  refine ⟨so_getr (ci := 3) (k := 1) rfl (by decide) rfl rfl fl_Ru_11 d_Ru_init_55 rfl, ?_⟩
  refine ⟨so_iloadn d_Ru_init_58 rfl rfl, ?_⟩
  refine ⟨so_newo (ci := 5) rfl (by decide +kernel) (pm_in1 (List.mem_append_left _ (List.mem_of_getElem? (i := 86) rfl))) (pm_in1 (List.mem_append_left _ (List.mem_of_getElem? (i := 106) rfl))) (pm_in1 (List.mem_append_left _ (List.mem_of_getElem? (i := 7) rfl))) d_Ru_init_59 rfl, ?_⟩
  refine ⟨so_dup d_Ru_init_62 rfl, ?_⟩
  refine ⟨so_iloadn d_Ru_init_63 rfl rfl, ?_⟩
  refine ⟨so_callc rfl rfl mc_Sd_init mi_Sd mj_Sd_init ml_Ru_40 yd_Sd_init (by decide) d_Ru_init_64 rfl, ?_⟩
  refine ⟨so_aast rfl rfl (by decide) (fun _ => rfl) d_Ru_init_67 rfl, ?_⟩
  refine ⟨so_iinc d_Ru_init_68 (by decide) (by decide) rfl, ?_⟩
  refine ⟨so_goto d_Ru_init_71 rfl, ?_⟩
  refine ⟨so_const1 d_Ru_init_74 (by decide) rfl, ?_⟩
  refine ⟨so_istoren d_Ru_init_75 rfl (by decide) rfl, ?_⟩
  refine ⟨so_iloadn d_Ru_init_76 rfl rfl, ?_⟩
  refine ⟨so_const1 d_Ru_init_77 (by decide) rfl, ?_⟩
  refine ⟨so_icmp_ge d_Ru_init_78 rfl rfl, ?_⟩
  refine ⟨so_aloadn d_Ru_init_81 rfl rfl, ?_⟩
  refine ⟨so_getr (ci := 3) (k := 2) rfl (by decide) rfl rfl fl_Ru_19 d_Ru_init_82 rfl, ?_⟩
  refine ⟨so_iloadn d_Ru_init_85 rfl rfl, ?_⟩
  refine ⟨so_newo (ci := 6) rfl (by decide +kernel) (pm_in1 (List.mem_append_left _ (List.mem_of_getElem? (i := 88) rfl))) (pm_in1 (List.mem_append_left _ (List.mem_of_getElem? (i := 138) rfl))) (pm_in1 (List.mem_append_left _ (List.mem_of_getElem? (i := 8) rfl))) d_Ru_init_86 rfl, ?_⟩
  refine ⟨so_dup d_Ru_init_89 rfl, ?_⟩
  refine ⟨so_callc rfl rfl mc_Lk_init mi_Lk mj_Lk_init ml_Ru_43 yd_Lk_init (by decide) d_Ru_init_90 rfl, ?_⟩
  refine ⟨so_aast rfl rfl (by decide) (fun _ => rfl) d_Ru_init_93 rfl, ?_⟩
  refine ⟨so_iinc d_Ru_init_94 (by decide) (by decide) rfl, ?_⟩
  refine ⟨so_goto d_Ru_init_97 rfl, ?_⟩
  refine ⟨so_const1 d_Ru_init_100 (by decide) rfl, ?_⟩
  refine ⟨so_istoren d_Ru_init_101 rfl (by decide) rfl, ?_⟩
  refine ⟨so_iloadn d_Ru_init_102 rfl rfl, ?_⟩
  refine ⟨so_const2 d_Ru_init_103 (by decide) rfl, ?_⟩
  refine ⟨so_icmp_ge d_Ru_init_105 rfl rfl, ?_⟩
  refine ⟨so_aloadn d_Ru_init_108 rfl rfl, ?_⟩
  refine ⟨so_getr (ci := 3) (k := 3) rfl (by decide) rfl rfl fl_Ru_25 d_Ru_init_109 rfl, ?_⟩
  refine ⟨so_iloadn d_Ru_init_112 rfl rfl, ?_⟩
  refine ⟨so_newo (ci := 7) rfl (by decide +kernel) (pm_in1 (List.mem_append_left _ (List.mem_of_getElem? (i := 90) rfl))) (pm_in1 (List.mem_append_left _ (List.mem_of_getElem? (i := 154) rfl))) (pm_in1 (List.mem_append_left _ (List.mem_of_getElem? (i := 9) rfl))) d_Ru_init_113 rfl, ?_⟩
  refine ⟨so_dup d_Ru_init_116 rfl, ?_⟩
  refine ⟨so_callc rfl rfl mc_Ce_init mi_Ce mj_Ce_init ml_Ru_44 yd_Ce_init (by decide) d_Ru_init_117 rfl, ?_⟩
  refine ⟨so_aast rfl rfl (by decide) (fun _ => rfl) d_Ru_init_120 rfl, ?_⟩
  refine ⟨so_iinc d_Ru_init_121 (by decide) (by decide) rfl, ?_⟩
  refine ⟨so_goto d_Ru_init_124 rfl, ?_⟩
  refine ⟨so_vret d_Ru_init_127 rfl, ?_⟩
  exact trivial
theorem d_Ru_begin_0 : decode prog_6_method_2_code 0 = .ok (.iconst 0, 1) := by decide +kernel
theorem d_Ru_begin_1 : decode prog_6_method_2_code 1 = .ok (.istore_n 3, 1) := by decide +kernel
theorem d_Ru_begin_2 : decode prog_6_method_2_code 2 = .ok (.iload_n 3, 1) := by decide +kernel
theorem d_Ru_begin_3 : decode prog_6_method_2_code 3 = .ok (.iconst 4, 1) := by decide +kernel
theorem d_Ru_begin_4 : decode prog_6_method_2_code 4 = .ok (.if_icmp .ge 18, 3) := by decide +kernel
theorem d_Ru_begin_7 : decode prog_6_method_2_code 7 = .ok (.aload_n 0, 1) := by decide +kernel
theorem d_Ru_begin_8 : decode prog_6_method_2_code 8 = .ok (.getfield 19, 3) := by decide +kernel
theorem d_Ru_begin_11 : decode prog_6_method_2_code 11 = .ok (.iload_n 3, 1) := by decide +kernel
theorem d_Ru_begin_12 : decode prog_6_method_2_code 12 = .ok (.aaload, 1) := by decide +kernel
theorem d_Ru_begin_13 : decode prog_6_method_2_code 13 = .ok (.invokevirtual 45, 3) := by decide +kernel
theorem d_Ru_begin_16 : decode prog_6_method_2_code 16 = .ok (.iinc 3 1, 3) := by decide +kernel
theorem d_Ru_begin_19 : decode prog_6_method_2_code 19 = .ok (.goto (-17), 3) := by decide +kernel
theorem d_Ru_begin_22 : decode prog_6_method_2_code 22 = .ok (.iconst 0, 1) := by decide +kernel
theorem d_Ru_begin_23 : decode prog_6_method_2_code 23 = .ok (.istore_n 3, 1) := by decide +kernel
theorem d_Ru_begin_24 : decode prog_6_method_2_code 24 = .ok (.iload_n 3, 1) := by decide +kernel
theorem d_Ru_begin_25 : decode prog_6_method_2_code 25 = .ok (.bipush 8, 2) := by decide +kernel
theorem d_Ru_begin_27 : decode prog_6_method_2_code 27 = .ok (.if_icmp .ge 18, 3) := by decide +kernel
theorem d_Ru_begin_30 : decode prog_6_method_2_code 30 = .ok (.aload_n 0, 1) := by decide +kernel
theorem d_Ru_begin_31 : decode prog_6_method_2_code 31 = .ok (.getfield 25, 3) := by decide +kernel
theorem d_Ru_begin_34 : decode prog_6_method_2_code 34 = .ok (.iload_n 3, 1) := by decide +kernel
theorem d_Ru_begin_35 : decode prog_6_method_2_code 35 = .ok (.aaload, 1) := by decide +kernel
theorem d_Ru_begin_36 : decode prog_6_method_2_code 36 = .ok (.invokevirtual 48, 3) := by decide +kernel
theorem d_Ru_begin_39 : decode prog_6_method_2_code 39 = .ok (.iinc 3 1, 3) := by decide +kernel
theorem d_Ru_begin_42 : decode prog_6_method_2_code 42 = .ok (.goto (-18), 3) := by decide +kernel
theorem d_Ru_begin_45 : decode prog_6_method_2_code 45 = .ok (.aload_n 0, 1) := by decide +kernel
theorem d_Ru_begin_46 : decode prog_6_method_2_code 46 = .ok (.getfield 32, 3) := by decide +kernel
theorem d_Ru_begin_49 : decode prog_6_method_2_code 49 = .ok (.invokevirtual 49, 3) := by decide +kernel
theorem d_Ru_begin_52 : decode prog_6_method_2_code 52 = .ok (.aload_n 0, 1) := by decide +kernel
theorem d_Ru_begin_53 : decode prog_6_method_2_code 53 = .ok (.iconst 0, 1) := by decide +kernel
theorem d_Ru_begin_54 : decode prog_6_method_2_code 54 = .ok (.putfield 50, 3) := by decide +kernel
theorem d_Ru_begin_57 : decode prog_6_method_2_code 57 = .ok (.aload_n 0, 1) := by decide +kernel
theorem d_Ru_begin_58 : decode prog_6_method_2_code 58 = .ok (.iconst 1, 1) := by decide +kernel
theorem d_Ru_begin_59 : decode prog_6_method_2_code 59 = .ok (.putfield 54, 3) := by decide +kernel
theorem d_Ru_begin_62 : decode prog_6_method_2_code 62 = .ok (.aload_n 0, 1) := by decide +kernel
theorem d_Ru_begin_63 : decode prog_6_method_2_code 63 = .ok (.getfield 11, 3) := by decide +kernel
theorem d_Ru_begin_66 : decode prog_6_method_2_code 66 = .ok (.iconst 0, 1) := by decide +kernel
theorem d_Ru_begin_67 : decode prog_6_method_2_code 67 = .ok (.aaload, 1) := by decide +kernel
theorem d_Ru_begin_68 : decode prog_6_method_2_code 68 = .ok (.getfield 57, 3) := by decide +kernel
theorem d_Ru_begin_71 : decode prog_6_method_2_code 71 = .ok (.iconst 0, 1) := by decide +kernel
theorem d_Ru_begin_72 : decode prog_6_method_2_code 72 = .ok (.invokestatic 61, 3) := by decide +kernel
theorem d_Ru_begin_75 : decode prog_6_method_2_code 75 = .ok (.aload_n 0, 1) := by decide +kernel
theorem d_Ru_begin_76 : decode prog_6_method_2_code 76 = .ok (.getfield 11, 3) := by decide +kernel
theorem d_Ru_begin_79 : decode prog_6_method_2_code 79 = .ok (.iconst 0, 1) := by decide +kernel
theorem d_Ru_begin_80 : decode prog_6_method_2_code 80 = .ok (.aaload, 1) := by decide +kernel
theorem d_Ru_begin_81 : decode prog_6_method_2_code 81 = .ok (.iload_n 1, 1) := by decide +kernel
theorem d_Ru_begin_82 : decode prog_6_method_2_code 82 = .ok (.iload_n 2, 1) := by decide +kernel
theorem d_Ru_begin_83 : decode prog_6_method_2_code 83 = .ok (.invokevirtual 67, 3) := by decide +kernel
theorem d_Ru_begin_86 : decode prog_6_method_2_code 86 = .ok (.aload_n 0, 1) := by decide +kernel
theorem d_Ru_begin_87 : decode prog_6_method_2_code 87 = .ok (.aload_n 0, 1) := by decide +kernel
theorem d_Ru_begin_88 : decode prog_6_method_2_code 88 = .ok (.getfield 11, 3) := by decide +kernel
theorem d_Ru_begin_91 : decode prog_6_method_2_code 91 = .ok (.iconst 0, 1) := by decide +kernel
theorem d_Ru_begin_92 : decode prog_6_method_2_code 92 = .ok (.aaload, 1) := by decide +kernel
theorem d_Ru_begin_93 : decode prog_6_method_2_code 93 = .ok (.invokevirtual 71, 3) := by decide +kernel
theorem d_Ru_begin_96 : decode prog_6_method_2_code 96 = .ok (.return_, 1) := by decide +kernel
def tb_Ru_begin : List pm_I := [
  pm_const 1 0,
  pm_istore 2 3,
  pm_iload 3 3,
  pm_const 4 4,
  pm_icmp 12 5 (fun a b => decide (b ≤ a)),
  pm_aload 6 0,
  pm_getr 7 3 2,
  pm_iload 8 3,
  pm_aald 9 4,
  pm_callv 10 62 1 6,
  pm_iinc 11 3 1,
  pm_goto 2,
  pm_const 13 0,
  pm_istore 14 3,
  pm_iload 15 3,
  pm_const 16 8,
  pm_icmp 24 17 (fun a b => decide (b ≤ a)),
  pm_aload 18 0,
  pm_getr 19 3 3,
  pm_iload 20 3,
  pm_aald 21 5,
  pm_callv 22 67 1 7,
  pm_iinc 23 3 1,
  pm_goto 14,
  pm_aload 25 0,
  pm_getr 26 3 4,
  pm_callv 27 52 1 4,
  pm_aload 28 0,
  pm_const 29 0,
  pm_puti 30 3 6,
  pm_aload 31 0,
  pm_const 32 1,
  pm_puti 33 3 5,
  pm_aload 34 0,
  pm_getr 35 3 1,
  pm_const 36 0,
  pm_aald 37 3,
  pm_getr 38 5 3,
  pm_const 39 0,
  pm_calls 40 103 2,
  pm_aload 41 0,
  pm_getr 42 3 1,
  pm_const 43 0,
  pm_aald 44 3,
  pm_iload 45 1,
  pm_iload 46 2,
  pm_callv 47 56 3 5,
  pm_aload 48 0,
  pm_aload 49 0,
  pm_getr 50 3 1,
  pm_const 51 0,
  pm_aald 52 3,
  pm_callv 53 33 2 3,
  pm_vret]
def bp_Ru_begin : List Nat := [0, 1, 2, 3, 4, 7, 8, 11, 12, 13, 16, 19, 22, 23, 24, 25, 27, 30, 31, 34, 35, 36, 39, 42, 45, 46, 49, 52, 53, 54, 57, 58, 59, 62, 63, 66, 67, 68, 71, 72, 75, 76, 79, 80, 81, 82, 83, 86, 87, 88, 91, 92, 93, 96]
set_option maxRecDepth 100000 in
theorem sd_Ru_begin : pm_Sl prog_6_method_2_code 4 R_Ru "begin" (none) pm_Y (pm_b bp_Ru_begin) 0 tb_Ru_begin := by
  refine ⟨so_const1 d_Ru_begin_0 (by decide) rfl, ?_⟩
  refine ⟨so_istoren d_Ru_begin_1 rfl (by decide) rfl, ?_⟩
  refine ⟨so_iloadn d_Ru_begin_2 rfl rfl, ?_⟩
  refine ⟨so_const1 d_Ru_begin_3 (by decide) rfl, ?_⟩
  refine ⟨so_icmp_ge d_Ru_begin_4 rfl rfl, ?_⟩
  refine ⟨so_aloadn d_Ru_begin_7 rfl rfl, ?_⟩
  refine ⟨so_getr (ci := 3) (k := 2) rfl (by decide) rfl rfl fl_Ru_19 d_Ru_begin_8 rfl, ?_⟩
  refine ⟨so_iloadn d_Ru_begin_11 rfl rfl, ?_⟩
  refine ⟨so_aald rfl (by decide) (fun _ => rfl) d_Ru_begin_12 rfl, ?_⟩
  refine ⟨so_callv (ci := 6) rfl rfl mc_Lk_clear mi_Lk mj_Lk_clear ms_Lk_clear ml_Ru_45 yd_Lk_clear (by decide) d_Ru_begin_13 rfl, ?_⟩
  refine ⟨so_iinc d_Ru_begin_16 (by decide) (by decide) rfl, ?_⟩
  refine ⟨so_goto d_Ru_begin_19 rfl, ?_⟩
  refine ⟨so_const1 d_Ru_begin_22 (by decide) rfl, ?_⟩
  refine ⟨so_istoren d_Ru_begin_23 rfl (by decide) rfl, ?_⟩
  refine ⟨so_iloadn d_Ru_begin_24 rfl rfl, ?_⟩
  refine ⟨so_const2 d_Ru_begin_25 (by decide) rfl, ?_⟩
  refine ⟨so_icmp_ge d_Ru_begin_27 rfl rfl, ?_⟩
  refine ⟨so_aloadn d_Ru_begin_30 rfl rfl, ?_⟩
  refine ⟨so_getr (ci := 3) (k := 3) rfl (by decide) rfl rfl fl_Ru_25 d_Ru_begin_31 rfl, ?_⟩
  refine ⟨so_iloadn d_Ru_begin_34 rfl rfl, ?_⟩
  refine ⟨so_aald rfl (by decide) (fun _ => rfl) d_Ru_begin_35 rfl, ?_⟩
  refine ⟨so_callv (ci := 7) rfl rfl mc_Ce_clear mi_Ce mj_Ce_clear ms_Ce_clear ml_Ru_48 yd_Ce_clear (by decide) d_Ru_begin_36 rfl, ?_⟩
  refine ⟨so_iinc d_Ru_begin_39 (by decide) (by decide) rfl, ?_⟩
  refine ⟨so_goto d_Ru_begin_42 rfl, ?_⟩
  refine ⟨so_aloadn d_Ru_begin_45 rfl rfl, ?_⟩
  refine ⟨so_getr (ci := 3) (k := 4) rfl (by decide) rfl rfl fl_Ru_32 d_Ru_begin_46 rfl, ?_⟩
  refine ⟨so_callv (ci := 4) rfl rfl mc_Rl_clear mi_Rl mj_Rl_clear ms_Rl_clear ml_Ru_49 yd_Rl_clear (by decide) d_Ru_begin_49 rfl, ?_⟩
  refine ⟨so_aloadn d_Ru_begin_52 rfl rfl, ?_⟩
  refine ⟨so_const1 d_Ru_begin_53 (by decide) rfl, ?_⟩
  refine ⟨so_puti (ci := 3) (k := 6) rfl (by decide) rfl rfl (Or.inl ⟨rfl, fl_Ru_50⟩) d_Ru_begin_54 rfl, ?_⟩
  refine ⟨so_aloadn d_Ru_begin_57 rfl rfl, ?_⟩
  refine ⟨so_const1 d_Ru_begin_58 (by decide) rfl, ?_⟩
  refine ⟨so_puti (ci := 3) (k := 5) rfl (by decide) rfl rfl (Or.inl ⟨rfl, fl_Ru_54⟩) d_Ru_begin_59 rfl, ?_⟩
  refine ⟨so_aloadn d_Ru_begin_62 rfl rfl, ?_⟩
  refine ⟨so_getr (ci := 3) (k := 1) rfl (by decide) rfl rfl fl_Ru_11 d_Ru_begin_63 rfl, ?_⟩
  refine ⟨so_const1 d_Ru_begin_66 (by decide) rfl, ?_⟩
  refine ⟨so_aald rfl (by decide) (fun _ => rfl) d_Ru_begin_67 rfl, ?_⟩
  refine ⟨so_getr (ci := 5) (k := 3) rfl (by decide) rfl rfl fl_Ru_57 d_Ru_begin_68 rfl, ?_⟩
  refine ⟨so_const1 d_Ru_begin_71 (by decide) rfl, ?_⟩
  refine ⟨so_calls rfl mc_Ar_fill mi_Ar mt_Ar_fill ml_Ru_61 yd_Ar_fill (by decide) d_Ru_begin_72 rfl, ?_⟩
  refine ⟨so_aloadn d_Ru_begin_75 rfl rfl, ?_⟩
  refine ⟨so_getr (ci := 3) (k := 1) rfl (by decide) rfl rfl fl_Ru_11 d_Ru_begin_76 rfl, ?_⟩
  refine ⟨so_const1 d_Ru_begin_79 (by decide) rfl, ?_⟩
  refine ⟨so_aald rfl (by decide) (fun _ => rfl) d_Ru_begin_80 rfl, ?_⟩
  refine ⟨so_iloadn d_Ru_begin_81 rfl rfl, ?_⟩
  refine ⟨so_iloadn d_Ru_begin_82 rfl rfl, ?_⟩
  refine ⟨so_callv (ci := 5) rfl rfl mc_Sd_begin mi_Sd mj_Sd_begin ms_Sd_begin ml_Ru_67 yd_Sd_begin (by decide) d_Ru_begin_83 rfl, ?_⟩
  refine ⟨so_aloadn d_Ru_begin_86 rfl rfl, ?_⟩
  refine ⟨so_aloadn d_Ru_begin_87 rfl rfl, ?_⟩
  refine ⟨so_getr (ci := 3) (k := 1) rfl (by decide) rfl rfl fl_Ru_11 d_Ru_begin_88 rfl, ?_⟩
  refine ⟨so_const1 d_Ru_begin_91 (by decide) rfl, ?_⟩
  refine ⟨so_aald rfl (by decide) (fun _ => rfl) d_Ru_begin_92 rfl, ?_⟩
  refine ⟨so_callv (ci := 3) rfl rfl mc_Ru_leaveEnded mi_Ru mj_Ru_leaveEnded ms_Ru_leaveEnded ml_Ru_71 yd_Ru_leaveEnded (by decide) d_Ru_begin_93 rfl, ?_⟩
  refine ⟨so_vret d_Ru_begin_96 rfl, ?_⟩
  exact trivial
theorem d_Ru_leaveEnded_0 : decode prog_6_method_6_code 0 = .ok (.aload_n 1, 1) := by decide +kernel
theorem d_Ru_leaveEnded_1 : decode prog_6_method_6_code 1 = .ok (.getfield 98, 3) := by decide +kernel
theorem d_Ru_leaveEnded_4 : decode prog_6_method_6_code 4 = .ok (.ifCond .le 31, 3) := by decide +kernel
theorem d_Ru_leaveEnded_7 : decode prog_6_method_6_code 7 = .ok (.aload_n 1, 1) := by decide +kernel
theorem d_Ru_leaveEnded_8 : decode prog_6_method_6_code 8 = .ok (.invokestatic 104, 3) := by decide +kernel
theorem d_Ru_leaveEnded_11 : decode prog_6_method_6_code 11 = .ok (.aload_n 0, 1) := by decide +kernel
theorem d_Ru_leaveEnded_12 : decode prog_6_method_6_code 12 = .ok (.aload_n 1, 1) := by decide +kernel
theorem d_Ru_leaveEnded_13 : decode prog_6_method_6_code 13 = .ok (.invokevirtual 108, 3) := by decide +kernel
theorem d_Ru_leaveEnded_16 : decode prog_6_method_6_code 16 = .ok (.getfield 112, 3) := by decide +kernel
theorem d_Ru_leaveEnded_19 : decode prog_6_method_6_code 19 = .ok (.if_icmp .lt 16, 3) := by decide +kernel
theorem d_Ru_leaveEnded_22 : decode prog_6_method_6_code 22 = .ok (.aload_n 1, 1) := by decide +kernel
theorem d_Ru_leaveEnded_23 : decode prog_6_method_6_code 23 = .ok (.dup, 1) := by decide +kernel
theorem d_Ru_leaveEnded_24 : decode prog_6_method_6_code 24 = .ok (.getfield 98, 3) := by decide +kernel
theorem d_Ru_leaveEnded_27 : decode prog_6_method_6_code 27 = .ok (.iconst 1, 1) := by decide +kernel
theorem d_Ru_leaveEnded_28 : decode prog_6_method_6_code 28 = .ok (.isub, 1) := by decide +kernel
theorem d_Ru_leaveEnded_29 : decode prog_6_method_6_code 29 = .ok (.putfield 98, 3) := by decide +kernel
theorem d_Ru_leaveEnded_32 : decode prog_6_method_6_code 32 = .ok (.goto (-32), 3) := by decide +kernel
theorem d_Ru_leaveEnded_35 : decode prog_6_method_6_code 35 = .ok (.return_, 1) := by decide +kernel
def tb_Ru_leaveEnded : List pm_I := [
  pm_aload 1 1,
  pm_geti 2 5 4,
  pm_if 17 3 (fun a => decide (a ≤ 0)),
  pm_aload 4 1,
  pm_calls 5 34 1,
  pm_aload 6 0,
  pm_aload 7 1,
  pm_callv 8 35 2 3,
  pm_geti 9 2 4,
  pm_icmp 17 10 (fun a b => decide (a < b)),
  pm_aload 11 1,
  pm_dup 12,
  pm_geti 13 5 4,
  pm_const 14 1,
  pm_bin 15 (fun a b => a - b),
  pm_puti 16 5 4,
  pm_goto 0,
  pm_vret]
def bp_Ru_leaveEnded : List Nat := [0, 1, 4, 7, 8, 11, 12, 13, 16, 19, 22, 23, 24, 27, 28, 29, 32, 35]
set_option maxRecDepth 100000 in
theorem sd_Ru_leaveEnded : pm_Sl prog_6_method_6_code 2 R_Ru "leaveEnded" (none) pm_Y (pm_b bp_Ru_leaveEnded) 0 tb_Ru_leaveEnded := by
  refine ⟨so_aloadn d_Ru_leaveEnded_0 rfl rfl, ?_⟩
  refine ⟨so_geti (ci := 5) (k := 4) rfl (by decide) rfl rfl fl_Ru_98 d_Ru_leaveEnded_1 rfl, ?_⟩
  refine ⟨so_if_le d_Ru_leaveEnded_4 rfl rfl, ?_⟩
  refine ⟨so_aloadn d_Ru_leaveEnded_7 rfl rfl, ?_⟩
  refine ⟨so_calls rfl mc_Ru_placeOf mi_Ru mt_Ru_placeOf ml_Ru_104 yd_Ru_placeOf (by decide) d_Ru_leaveEnded_8 rfl, ?_⟩
  refine ⟨so_aloadn d_Ru_leaveEnded_11 rfl rfl, ?_⟩
  refine ⟨so_aloadn d_Ru_leaveEnded_12 rfl rfl, ?_⟩
  refine ⟨so_callv (ci := 3) rfl rfl mc_Ru_bodyOf mi_Ru mj_Ru_bodyOf ms_Ru_bodyOf ml_Ru_108 yd_Ru_bodyOf (by decide) d_Ru_leaveEnded_13 rfl, ?_⟩
  refine ⟨so_geti (ci := 2) (k := 4) rfl (by decide) rfl rfl fl_Ru_112 d_Ru_leaveEnded_16 rfl, ?_⟩
  refine ⟨so_icmp_lt d_Ru_leaveEnded_19 rfl rfl, ?_⟩
  refine ⟨so_aloadn d_Ru_leaveEnded_22 rfl rfl, ?_⟩
  refine ⟨so_dup d_Ru_leaveEnded_23 rfl, ?_⟩
  refine ⟨so_geti (ci := 5) (k := 4) rfl (by decide) rfl rfl fl_Ru_98 d_Ru_leaveEnded_24 rfl, ?_⟩
  refine ⟨so_const1 d_Ru_leaveEnded_27 (by decide) rfl, ?_⟩
  refine ⟨so_isub d_Ru_leaveEnded_28 rfl, ?_⟩
  refine ⟨so_puti (ci := 5) (k := 4) rfl (by decide) rfl rfl (Or.inl ⟨rfl, fl_Ru_98⟩) d_Ru_leaveEnded_29 rfl, ?_⟩
  refine ⟨so_goto d_Ru_leaveEnded_32 rfl, ?_⟩
  refine ⟨so_vret d_Ru_leaveEnded_35 rfl, ?_⟩
  exact trivial
theorem d_Ru_placeOf_0 : decode prog_6_method_5_code 0 = .ok (.aload_n 0, 1) := by decide +kernel
theorem d_Ru_placeOf_1 : decode prog_6_method_5_code 1 = .ok (.getfield 101, 3) := by decide +kernel
theorem d_Ru_placeOf_4 : decode prog_6_method_5_code 4 = .ok (.aload_n 0, 1) := by decide +kernel
theorem d_Ru_placeOf_5 : decode prog_6_method_5_code 5 = .ok (.getfield 98, 3) := by decide +kernel
theorem d_Ru_placeOf_8 : decode prog_6_method_5_code 8 = .ok (.iconst 1, 1) := by decide +kernel
theorem d_Ru_placeOf_9 : decode prog_6_method_5_code 9 = .ok (.isub, 1) := by decide +kernel
theorem d_Ru_placeOf_10 : decode prog_6_method_5_code 10 = .ok (.iaload, 1) := by decide +kernel
theorem d_Ru_placeOf_11 : decode prog_6_method_5_code 11 = .ok (.ireturn, 1) := by decide +kernel
def tb_Ru_placeOf : List pm_I := [
  pm_aload 1 0,
  pm_getr 2 5 2,
  pm_aload 3 0,
  pm_geti 4 5 4,
  pm_const 5 1,
  pm_bin 6 (fun a b => a - b),
  pm_iald 7 0,
  pm_iret]
def bp_Ru_placeOf : List Nat := [0, 1, 4, 5, 8, 9, 10, 11]
set_option maxRecDepth 100000 in
theorem sd_Ru_placeOf : pm_Sl prog_6_method_5_code 1 R_Ru "placeOf" (some .int) pm_Y (pm_b bp_Ru_placeOf) 0 tb_Ru_placeOf := by
  refine ⟨so_aloadn d_Ru_placeOf_0 rfl rfl, ?_⟩
  refine ⟨so_getr (ci := 5) (k := 2) rfl (by decide) rfl rfl fl_Ru_101 d_Ru_placeOf_1 rfl, ?_⟩
  refine ⟨so_aloadn d_Ru_placeOf_4 rfl rfl, ?_⟩
  refine ⟨so_geti (ci := 5) (k := 4) rfl (by decide) rfl rfl fl_Ru_98 d_Ru_placeOf_5 rfl, ?_⟩
  refine ⟨so_const1 d_Ru_placeOf_8 (by decide) rfl, ?_⟩
  refine ⟨so_isub d_Ru_placeOf_9 rfl, ?_⟩
  refine ⟨so_iald d_Ru_placeOf_10 rfl, ?_⟩
  refine ⟨so_iret d_Ru_placeOf_11 rfl, ?_⟩
  exact trivial
theorem d_Ru_bodyOf_0 : decode prog_6_method_4_code 0 = .ok (.aload_n 0, 1) := by decide +kernel
theorem d_Ru_bodyOf_1 : decode prog_6_method_4_code 1 = .ok (.getfield 36, 3) := by decide +kernel
theorem d_Ru_bodyOf_4 : decode prog_6_method_4_code 4 = .ok (.getfield 90, 3) := by decide +kernel
theorem d_Ru_bodyOf_7 : decode prog_6_method_4_code 7 = .ok (.aload_n 1, 1) := by decide +kernel
theorem d_Ru_bodyOf_8 : decode prog_6_method_4_code 8 = .ok (.getfield 96, 3) := by decide +kernel
theorem d_Ru_bodyOf_11 : decode prog_6_method_4_code 11 = .ok (.aload_n 1, 1) := by decide +kernel
theorem d_Ru_bodyOf_12 : decode prog_6_method_4_code 12 = .ok (.getfield 98, 3) := by decide +kernel
theorem d_Ru_bodyOf_15 : decode prog_6_method_4_code 15 = .ok (.iconst 1, 1) := by decide +kernel
theorem d_Ru_bodyOf_16 : decode prog_6_method_4_code 16 = .ok (.isub, 1) := by decide +kernel
theorem d_Ru_bodyOf_17 : decode prog_6_method_4_code 17 = .ok (.iaload, 1) := by decide +kernel
theorem d_Ru_bodyOf_18 : decode prog_6_method_4_code 18 = .ok (.aaload, 1) := by decide +kernel
theorem d_Ru_bodyOf_19 : decode prog_6_method_4_code 19 = .ok (.areturn, 1) := by decide +kernel
def tb_Ru_bodyOf : List pm_I := [
  pm_aload 1 0,
  pm_getr 2 3 0,
  pm_getr 3 1 0,
  pm_aload 4 1,
  pm_getr 5 5 1,
  pm_aload 6 1,
  pm_geti 7 5 4,
  pm_const 8 1,
  pm_bin 9 (fun a b => a - b),
  pm_iald 10 0,
  pm_aald 11 2,
  pm_aret]
def bp_Ru_bodyOf : List Nat := [0, 1, 4, 7, 8, 11, 12, 15, 16, 17, 18, 19]
set_option maxRecDepth 100000 in
theorem sd_Ru_bodyOf : pm_Sl prog_6_method_4_code 2 R_Ru "bodyOf" (some (.object "LockLoom$Body")) pm_Y (pm_b bp_Ru_bodyOf) 0 tb_Ru_bodyOf := by
  refine ⟨so_aloadn d_Ru_bodyOf_0 rfl rfl, ?_⟩
  refine ⟨so_getr (ci := 3) (k := 0) rfl (by decide) rfl rfl fl_Ru_36 d_Ru_bodyOf_1 rfl, ?_⟩
  refine ⟨so_getr (ci := 1) (k := 0) rfl (by decide) rfl rfl fl_Ru_90 d_Ru_bodyOf_4 rfl, ?_⟩
  refine ⟨so_aloadn d_Ru_bodyOf_7 rfl rfl, ?_⟩
  refine ⟨so_getr (ci := 5) (k := 1) rfl (by decide) rfl rfl fl_Ru_96 d_Ru_bodyOf_8 rfl, ?_⟩
  refine ⟨so_aloadn d_Ru_bodyOf_11 rfl rfl, ?_⟩
  refine ⟨so_geti (ci := 5) (k := 4) rfl (by decide) rfl rfl fl_Ru_98 d_Ru_bodyOf_12 rfl, ?_⟩
  refine ⟨so_const1 d_Ru_bodyOf_15 (by decide) rfl, ?_⟩
  refine ⟨so_isub d_Ru_bodyOf_16 rfl, ?_⟩
  refine ⟨so_iald d_Ru_bodyOf_17 rfl, ?_⟩
  refine ⟨so_aald rfl (by decide) (fun _ => rfl) d_Ru_bodyOf_18 rfl, ?_⟩
  refine ⟨so_aret d_Ru_bodyOf_19 rfl, ?_⟩
  exact trivial
theorem d_Ru_advance_0 : decode prog_6_method_3_code 0 = .ok (.iload_n 1, 1) := by decide +kernel
theorem d_Ru_advance_1 : decode prog_6_method_3_code 1 = .ok (.aload_n 0, 1) := by decide +kernel
theorem d_Ru_advance_2 : decode prog_6_method_3_code 2 = .ok (.getfield 54, 3) := by decide +kernel
theorem d_Ru_advance_5 : decode prog_6_method_3_code 5 = .ok (.invokestatic 75, 3) := by decide +kernel
theorem d_Ru_advance_8 : decode prog_6_method_3_code 8 = .ok (.ifCond .eq 13, 3) := by decide +kernel
theorem d_Ru_advance_11 : decode prog_6_method_3_code 11 = .ok (.aload_n 0, 1) := by decide +kernel
theorem d_Ru_advance_12 : decode prog_6_method_3_code 12 = .ok (.getfield 50, 3) := by decide +kernel
theorem d_Ru_advance_15 : decode prog_6_method_3_code 15 = .ok (.sipush 4000, 3) := by decide +kernel
theorem d_Ru_advance_18 : decode prog_6_method_3_code 18 = .ok (.if_icmp .lt 5, 3) := by decide +kernel
theorem d_Ru_advance_21 : decode prog_6_method_3_code 21 = .ok (.iconst (-1), 1) := by decide +kernel
theorem d_Ru_advance_22 : decode prog_6_method_3_code 22 = .ok (.ireturn, 1) := by decide +kernel
theorem d_Ru_advance_23 : decode prog_6_method_3_code 23 = .ok (.aload_n 0, 1) := by decide +kernel
theorem d_Ru_advance_24 : decode prog_6_method_3_code 24 = .ok (.getfield 11, 3) := by decide +kernel
theorem d_Ru_advance_27 : decode prog_6_method_3_code 27 = .ok (.iload_n 1, 1) := by decide +kernel
theorem d_Ru_advance_28 : decode prog_6_method_3_code 28 = .ok (.aaload, 1) := by decide +kernel
theorem d_Ru_advance_29 : decode prog_6_method_3_code 29 = .ok (.astore_n 2, 1) := by decide +kernel
theorem d_Ru_advance_30 : decode prog_6_method_3_code 30 = .ok (.aload_n 2, 1) := by decide +kernel
theorem d_Ru_advance_31 : decode prog_6_method_3_code 31 = .ok (.invokevirtual 79, 3) := by decide +kernel
theorem d_Ru_advance_34 : decode prog_6_method_3_code 34 = .ok (.ifCond .eq 5, 3) := by decide +kernel
theorem d_Ru_advance_37 : decode prog_6_method_3_code 37 = .ok (.iconst (-1), 1) := by decide +kernel
theorem d_Ru_advance_38 : decode prog_6_method_3_code 38 = .ok (.ireturn, 1) := by decide +kernel
theorem d_Ru_advance_39 : decode prog_6_method_3_code 39 = .ok (.aload_n 0, 1) := by decide +kernel
theorem d_Ru_advance_40 : decode prog_6_method_3_code 40 = .ok (.aload_n 2, 1) := by decide +kernel
theorem d_Ru_advance_41 : decode prog_6_method_3_code 41 = .ok (.invokevirtual 83, 3) := by decide +kernel
theorem d_Ru_advance_44 : decode prog_6_method_3_code 44 = .ok (.ifCond .eq 5, 3) := by decide +kernel
theorem d_Ru_advance_47 : decode prog_6_method_3_code 47 = .ok (.iconst 0, 1) := by decide +kernel
theorem d_Ru_advance_48 : decode prog_6_method_3_code 48 = .ok (.ireturn, 1) := by decide +kernel
theorem d_Ru_advance_49 : decode prog_6_method_3_code 49 = .ok (.aload_n 0, 1) := by decide +kernel
theorem d_Ru_advance_50 : decode prog_6_method_3_code 50 = .ok (.dup, 1) := by decide +kernel
theorem d_Ru_advance_51 : decode prog_6_method_3_code 51 = .ok (.getfield 50, 3) := by decide +kernel
theorem d_Ru_advance_54 : decode prog_6_method_3_code 54 = .ok (.iconst 1, 1) := by decide +kernel
theorem d_Ru_advance_55 : decode prog_6_method_3_code 55 = .ok (.iadd, 1) := by decide +kernel
theorem d_Ru_advance_56 : decode prog_6_method_3_code 56 = .ok (.putfield 50, 3) := by decide +kernel
theorem d_Ru_advance_59 : decode prog_6_method_3_code 59 = .ok (.aload_n 2, 1) := by decide +kernel
theorem d_Ru_advance_60 : decode prog_6_method_3_code 60 = .ok (.getfield 57, 3) := by decide +kernel
theorem d_Ru_advance_63 : decode prog_6_method_3_code 63 = .ok (.iload_n 1, 1) := by decide +kernel
theorem d_Ru_advance_64 : decode prog_6_method_3_code 64 = .ok (.aload_n 0, 1) := by decide +kernel
theorem d_Ru_advance_65 : decode prog_6_method_3_code 65 = .ok (.getfield 50, 3) := by decide +kernel
theorem d_Ru_advance_68 : decode prog_6_method_3_code 68 = .ok (.iastore, 1) := by decide +kernel
theorem d_Ru_advance_69 : decode prog_6_method_3_code 69 = .ok (.aload_n 0, 1) := by decide +kernel
theorem d_Ru_advance_70 : decode prog_6_method_3_code 70 = .ok (.aload_n 2, 1) := by decide +kernel
theorem d_Ru_advance_71 : decode prog_6_method_3_code 71 = .ok (.invokevirtual 87, 3) := by decide +kernel
theorem d_Ru_advance_74 : decode prog_6_method_3_code 74 = .ok (.aload_n 0, 1) := by decide +kernel
theorem d_Ru_advance_75 : decode prog_6_method_3_code 75 = .ok (.aload_n 2, 1) := by decide +kernel
theorem d_Ru_advance_76 : decode prog_6_method_3_code 76 = .ok (.invokevirtual 71, 3) := by decide +kernel
theorem d_Ru_advance_79 : decode prog_6_method_3_code 79 = .ok (.iconst 1, 1) := by decide +kernel
theorem d_Ru_advance_80 : decode prog_6_method_3_code 80 = .ok (.ireturn, 1) := by decide +kernel
def tb_Ru_advance : List pm_I := [
  pm_iload 1 1,
  pm_aload 2 0,
  pm_geti 3 3 5,
  pm_calls 4 2 2,
  pm_if 9 5 (fun a => decide (a = 0)),
  pm_aload 6 0,
  pm_geti 7 3 6,
  pm_const 8 4000,
  pm_icmp 11 9 (fun a b => decide (a < b)),
  pm_const 10 (-1),
  pm_iret,
  pm_aload 12 0,
  pm_getr 13 3 1,
  pm_iload 14 1,
  pm_aald 15 3,
  pm_astore 16 2,
  pm_aload 17 2,
  pm_callv 18 58 1 5,
  pm_if 21 19 (fun a => decide (a = 0)),
  pm_const 20 (-1),
  pm_iret,
  pm_aload 22 0,
  pm_aload 23 2,
  pm_callv 24 37 2 3,
  pm_if 27 25 (fun a => decide (a = 0)),
  pm_const 26 0,
  pm_iret,
  pm_aload 28 0,
  pm_dup 29,
  pm_geti 30 3 6,
  pm_const 31 1,
  pm_bin 32 (fun a b => a + b),
  pm_puti 33 3 6,
  pm_aload 34 2,
  pm_getr 35 5 3,
  pm_iload 36 1,
  pm_aload 37 0,
  pm_geti 38 3 6,
  pm_iast 39,
  pm_aload 40 0,
  pm_aload 41 2,
  pm_callv 42 38 2 3,
  pm_aload 43 0,
  pm_aload 44 2,
  pm_callv 45 33 2 3,
  pm_const 46 1,
  pm_iret]
def bp_Ru_advance : List Nat := [0, 1, 2, 5, 8, 11, 12, 15, 18, 21, 22, 23, 24, 27, 28, 29, 30, 31, 34, 37, 38, 39, 40, 41, 44, 47, 48, 49, 50, 51, 54, 55, 56, 59, 60, 63, 64, 65, 68, 69, 70, 71, 74, 75, 76, 79, 80]
set_option maxRecDepth 100000 in
theorem sd_Ru_advance : pm_Sl prog_6_method_3_code 3 R_Ru "advance" (some .int) pm_Y (pm_b bp_Ru_advance) 0 tb_Ru_advance := by
  refine ⟨so_iloadn d_Ru_advance_0 rfl rfl, ?_⟩
  refine ⟨so_aloadn d_Ru_advance_1 rfl rfl, ?_⟩
  refine ⟨so_geti (ci := 3) (k := 5) rfl (by decide) rfl rfl fl_Ru_54 d_Ru_advance_2 rfl, ?_⟩
  refine ⟨so_calls rfl mc_Lo_isBelow mi_Lo mt_Lo_isBelow ml_Ru_75 yd_Lo_isBelow (by decide) d_Ru_advance_5 rfl, ?_⟩
  refine ⟨so_if_eq d_Ru_advance_8 rfl rfl, ?_⟩
  refine ⟨so_aloadn d_Ru_advance_11 rfl rfl, ?_⟩
  refine ⟨so_geti (ci := 3) (k := 6) rfl (by decide) rfl rfl fl_Ru_50 d_Ru_advance_12 rfl, ?_⟩
  refine ⟨so_const3 d_Ru_advance_15 (by decide) rfl, ?_⟩
  refine ⟨so_icmp_lt d_Ru_advance_18 rfl rfl, ?_⟩
  refine ⟨so_const1 d_Ru_advance_21 (by decide) rfl, ?_⟩
  refine ⟨so_iret d_Ru_advance_22 rfl, ?_⟩
  refine ⟨so_aloadn d_Ru_advance_23 rfl rfl, ?_⟩
  refine ⟨so_getr (ci := 3) (k := 1) rfl (by decide) rfl rfl fl_Ru_11 d_Ru_advance_24 rfl, ?_⟩
  refine ⟨so_iloadn d_Ru_advance_27 rfl rfl, ?_⟩
  refine ⟨so_aald rfl (by decide) (fun _ => rfl) d_Ru_advance_28 rfl, ?_⟩
  refine ⟨so_astoren d_Ru_advance_29 rfl (by decide) rfl, ?_⟩
  refine ⟨so_aloadn d_Ru_advance_30 rfl rfl, ?_⟩
  refine ⟨so_callv (ci := 5) rfl rfl mc_Sd_isDone mi_Sd mj_Sd_isDone ms_Sd_isDone ml_Ru_79 yd_Sd_isDone (by decide) d_Ru_advance_31 rfl, ?_⟩
  refine ⟨so_if_eq d_Ru_advance_34 rfl rfl, ?_⟩
  refine ⟨so_const1 d_Ru_advance_37 (by decide) rfl, ?_⟩
  refine ⟨so_iret d_Ru_advance_38 rfl, ?_⟩
  refine ⟨so_aloadn d_Ru_advance_39 rfl rfl, ?_⟩
  refine ⟨so_aloadn d_Ru_advance_40 rfl rfl, ?_⟩
  refine ⟨so_callv (ci := 3) rfl rfl mc_Ru_wouldWait mi_Ru mj_Ru_wouldWait ms_Ru_wouldWait ml_Ru_83 yd_Ru_wouldWait (by decide) d_Ru_advance_41 rfl, ?_⟩
  refine ⟨so_if_eq d_Ru_advance_44 rfl rfl, ?_⟩
  refine ⟨so_const1 d_Ru_advance_47 (by decide) rfl, ?_⟩
  refine ⟨so_iret d_Ru_advance_48 rfl, ?_⟩
  refine ⟨so_aloadn d_Ru_advance_49 rfl rfl, ?_⟩
  refine ⟨so_dup d_Ru_advance_50 rfl, ?_⟩
  refine ⟨so_geti (ci := 3) (k := 6) rfl (by decide) rfl rfl fl_Ru_50 d_Ru_advance_51 rfl, ?_⟩
  refine ⟨so_const1 d_Ru_advance_54 (by decide) rfl, ?_⟩
  refine ⟨so_iadd d_Ru_advance_55 rfl, ?_⟩
  refine ⟨so_puti (ci := 3) (k := 6) rfl (by decide) rfl rfl (Or.inl ⟨rfl, fl_Ru_50⟩) d_Ru_advance_56 rfl, ?_⟩
  refine ⟨so_aloadn d_Ru_advance_59 rfl rfl, ?_⟩
  refine ⟨so_getr (ci := 5) (k := 3) rfl (by decide) rfl rfl fl_Ru_57 d_Ru_advance_60 rfl, ?_⟩
  refine ⟨so_iloadn d_Ru_advance_63 rfl rfl, ?_⟩
  refine ⟨so_aloadn d_Ru_advance_64 rfl rfl, ?_⟩
  refine ⟨so_geti (ci := 3) (k := 6) rfl (by decide) rfl rfl fl_Ru_50 d_Ru_advance_65 rfl, ?_⟩
  refine ⟨so_iast d_Ru_advance_68 rfl, ?_⟩
  refine ⟨so_aloadn d_Ru_advance_69 rfl rfl, ?_⟩
  refine ⟨so_aloadn d_Ru_advance_70 rfl rfl, ?_⟩
  refine ⟨so_callv (ci := 3) rfl rfl mc_Ru_perform mi_Ru mj_Ru_perform ms_Ru_perform ml_Ru_87 yd_Ru_perform (by decide) d_Ru_advance_71 rfl, ?_⟩
  refine ⟨so_aloadn d_Ru_advance_74 rfl rfl, ?_⟩
  refine ⟨so_aloadn d_Ru_advance_75 rfl rfl, ?_⟩
  refine ⟨so_callv (ci := 3) rfl rfl mc_Ru_leaveEnded mi_Ru mj_Ru_leaveEnded ms_Ru_leaveEnded ml_Ru_71 yd_Ru_leaveEnded (by decide) d_Ru_advance_76 rfl, ?_⟩
  refine ⟨so_const1 d_Ru_advance_79 (by decide) rfl, ?_⟩
  refine ⟨so_iret d_Ru_advance_80 rfl, ?_⟩
  exact trivial
theorem d_Ru_wouldWait_0 : decode prog_6_method_7_code 0 = .ok (.aload_n 0, 1) := by decide +kernel
theorem d_Ru_wouldWait_1 : decode prog_6_method_7_code 1 = .ok (.aload_n 1, 1) := by decide +kernel
theorem d_Ru_wouldWait_2 : decode prog_6_method_7_code 2 = .ok (.invokevirtual 108, 3) := by decide +kernel
theorem d_Ru_wouldWait_5 : decode prog_6_method_7_code 5 = .ok (.astore_n 2, 1) := by decide +kernel
theorem d_Ru_wouldWait_6 : decode prog_6_method_7_code 6 = .ok (.aload_n 1, 1) := by decide +kernel
theorem d_Ru_wouldWait_7 : decode prog_6_method_7_code 7 = .ok (.invokestatic 104, 3) := by decide +kernel
theorem d_Ru_wouldWait_10 : decode prog_6_method_7_code 10 = .ok (.istore_n 3, 1) := by decide +kernel
theorem d_Ru_wouldWait_11 : decode prog_6_method_7_code 11 = .ok (.aload_n 2, 1) := by decide +kernel
theorem d_Ru_wouldWait_12 : decode prog_6_method_7_code 12 = .ok (.getfield 117, 3) := by decide +kernel
theorem d_Ru_wouldWait_15 : decode prog_6_method_7_code 15 = .ok (.iload_n 3, 1) := by decide +kernel
theorem d_Ru_wouldWait_16 : decode prog_6_method_7_code 16 = .ok (.iaload, 1) := by decide +kernel
theorem d_Ru_wouldWait_17 : decode prog_6_method_7_code 17 = .ok (.iconst 4, 1) := by decide +kernel
theorem d_Ru_wouldWait_18 : decode prog_6_method_7_code 18 = .ok (.if_icmp .ne 25, 3) := by decide +kernel
theorem d_Ru_wouldWait_21 : decode prog_6_method_7_code 21 = .ok (.aload_n 0, 1) := by decide +kernel
theorem d_Ru_wouldWait_22 : decode prog_6_method_7_code 22 = .ok (.getfield 19, 3) := by decide +kernel
theorem d_Ru_wouldWait_25 : decode prog_6_method_7_code 25 = .ok (.aload_n 2, 1) := by decide +kernel
theorem d_Ru_wouldWait_26 : decode prog_6_method_7_code 26 = .ok (.getfield 120, 3) := by decide +kernel
theorem d_Ru_wouldWait_29 : decode prog_6_method_7_code 29 = .ok (.iload_n 3, 1) := by decide +kernel
theorem d_Ru_wouldWait_30 : decode prog_6_method_7_code 30 = .ok (.iaload, 1) := by decide +kernel
theorem d_Ru_wouldWait_31 : decode prog_6_method_7_code 31 = .ok (.aaload, 1) := by decide +kernel
theorem d_Ru_wouldWait_32 : decode prog_6_method_7_code 32 = .ok (.aload_n 1, 1) := by decide +kernel
theorem d_Ru_wouldWait_33 : decode prog_6_method_7_code 33 = .ok (.invokevirtual 123, 3) := by decide +kernel
theorem d_Ru_wouldWait_36 : decode prog_6_method_7_code 36 = .ok (.ifCond .eq 7, 3) := by decide +kernel
theorem d_Ru_wouldWait_39 : decode prog_6_method_7_code 39 = .ok (.iconst 1, 1) := by decide +kernel
theorem d_Ru_wouldWait_40 : decode prog_6_method_7_code 40 = .ok (.goto 4, 3) := by decide +kernel
theorem d_Ru_wouldWait_43 : decode prog_6_method_7_code 43 = .ok (.iconst 0, 1) := by decide +kernel
theorem d_Ru_wouldWait_44 : decode prog_6_method_7_code 44 = .ok (.ireturn, 1) := by decide +kernel
def tb_Ru_wouldWait : List pm_I := [
  pm_aload 1 0,
  pm_aload 2 1,
  pm_callv 3 35 2 3,
  pm_astore 4 2,
  pm_aload 5 1,
  pm_calls 6 34 1,
  pm_istore 7 3,
  pm_aload 8 2,
  pm_getr 9 2 0,
  pm_iload 10 3,
  pm_iald 11 0,
  pm_const 12 4,
  pm_icmp 25 13 (fun a b => decide (a ≠ b)),
  pm_aload 14 0,
  pm_getr 15 3 2,
  pm_aload 16 2,
  pm_getr 17 2 1,
  pm_iload 18 3,
  pm_iald 19 0,
  pm_aald 20 4,
  pm_aload 21 1,
  pm_callv 22 63 2 6,
  pm_if 25 23 (fun a => decide (a = 0)),
  pm_const 24 1,
  pm_goto 26,
  pm_const 26 0,
  pm_zret]
def bp_Ru_wouldWait : List Nat := [0, 1, 2, 5, 6, 7, 10, 11, 12, 15, 16, 17, 18, 21, 22, 25, 26, 29, 30, 31, 32, 33, 36, 39, 40, 43, 44]
set_option maxRecDepth 100000 in
theorem sd_Ru_wouldWait : pm_Sl prog_6_method_7_code 4 R_Ru "wouldWait" (some .boolean) pm_Y (pm_b bp_Ru_wouldWait) 0 tb_Ru_wouldWait := by
  refine ⟨so_aloadn d_Ru_wouldWait_0 rfl rfl, ?_⟩
  refine ⟨so_aloadn d_Ru_wouldWait_1 rfl rfl, ?_⟩
  refine ⟨so_callv (ci := 3) rfl rfl mc_Ru_bodyOf mi_Ru mj_Ru_bodyOf ms_Ru_bodyOf ml_Ru_108 yd_Ru_bodyOf (by decide) d_Ru_wouldWait_2 rfl, ?_⟩
  refine ⟨so_astoren d_Ru_wouldWait_5 rfl (by decide) rfl, ?_⟩
  refine ⟨so_aloadn d_Ru_wouldWait_6 rfl rfl, ?_⟩
  refine ⟨so_calls rfl mc_Ru_placeOf mi_Ru mt_Ru_placeOf ml_Ru_104 yd_Ru_placeOf (by decide) d_Ru_wouldWait_7 rfl, ?_⟩
  refine ⟨so_istoren d_Ru_wouldWait_10 rfl (by decide) rfl, ?_⟩
  refine ⟨so_aloadn d_Ru_wouldWait_11 rfl rfl, ?_⟩
  refine ⟨so_getr (ci := 2) (k := 0) rfl (by decide) rfl rfl fl_Ru_117 d_Ru_wouldWait_12 rfl, ?_⟩
  refine ⟨so_iloadn d_Ru_wouldWait_15 rfl rfl, ?_⟩
  refine ⟨so_iald d_Ru_wouldWait_16 rfl, ?_⟩
  refine ⟨so_const1 d_Ru_wouldWait_17 (by decide) rfl, ?_⟩
  refine ⟨so_icmp_ne d_Ru_wouldWait_18 rfl rfl, ?_⟩
  refine ⟨so_aloadn d_Ru_wouldWait_21 rfl rfl, ?_⟩
  refine ⟨so_getr (ci := 3) (k := 2) rfl (by decide) rfl rfl fl_Ru_19 d_Ru_wouldWait_22 rfl, ?_⟩
  refine ⟨so_aloadn d_Ru_wouldWait_25 rfl rfl, ?_⟩
  refine ⟨so_getr (ci := 2) (k := 1) rfl (by decide) rfl rfl fl_Ru_120 d_Ru_wouldWait_26 rfl, ?_⟩
  refine ⟨so_iloadn d_Ru_wouldWait_29 rfl rfl, ?_⟩
  refine ⟨so_iald d_Ru_wouldWait_30 rfl, ?_⟩
  refine ⟨so_aald rfl (by decide) (fun _ => rfl) d_Ru_wouldWait_31 rfl, ?_⟩
  refine ⟨so_aloadn d_Ru_wouldWait_32 rfl rfl, ?_⟩
  refine ⟨so_callv (ci := 6) rfl rfl mc_Lk_refuses mi_Lk mj_Lk_refuses ms_Lk_refuses ml_Ru_123 yd_Lk_refuses (by decide) d_Ru_wouldWait_33 rfl, ?_⟩
  refine ⟨so_if_eq d_Ru_wouldWait_36 rfl rfl, ?_⟩
  refine ⟨so_const1 d_Ru_wouldWait_39 (by decide) rfl, ?_⟩
  refine ⟨so_goto d_Ru_wouldWait_40 rfl, ?_⟩
  refine ⟨so_const1 d_Ru_wouldWait_43 (by decide) rfl, ?_⟩
  refine ⟨so_zret d_Ru_wouldWait_44 rfl, ?_⟩
  exact trivial
theorem d_Ru_perform_0 : decode prog_6_method_8_code 0 = .ok (.aload_n 0, 1) := by decide +kernel
theorem d_Ru_perform_1 : decode prog_6_method_8_code 1 = .ok (.aload_n 1, 1) := by decide +kernel
theorem d_Ru_perform_2 : decode prog_6_method_8_code 2 = .ok (.invokevirtual 108, 3) := by decide +kernel
theorem d_Ru_perform_5 : decode prog_6_method_8_code 5 = .ok (.astore_n 2, 1) := by decide +kernel
theorem d_Ru_perform_6 : decode prog_6_method_8_code 6 = .ok (.aload_n 1, 1) := by decide +kernel
theorem d_Ru_perform_7 : decode prog_6_method_8_code 7 = .ok (.invokestatic 104, 3) := by decide +kernel
theorem d_Ru_perform_10 : decode prog_6_method_8_code 10 = .ok (.istore_n 3, 1) := by decide +kernel
theorem d_Ru_perform_11 : decode prog_6_method_8_code 11 = .ok (.aload_n 2, 1) := by decide +kernel
theorem d_Ru_perform_12 : decode prog_6_method_8_code 12 = .ok (.getfield 120, 3) := by decide +kernel
theorem d_Ru_perform_15 : decode prog_6_method_8_code 15 = .ok (.iload_n 3, 1) := by decide +kernel
theorem d_Ru_perform_16 : decode prog_6_method_8_code 16 = .ok (.iaload, 1) := by decide +kernel
theorem d_Ru_perform_17 : decode prog_6_method_8_code 17 = .ok (.istore 4, 2) := by decide +kernel
theorem d_Ru_perform_19 : decode prog_6_method_8_code 19 = .ok (.aload_n 1, 1) := by decide +kernel
theorem d_Ru_perform_20 : decode prog_6_method_8_code 20 = .ok (.iload_n 3, 1) := by decide +kernel
theorem d_Ru_perform_21 : decode prog_6_method_8_code 21 = .ok (.iconst 1, 1) := by decide +kernel
theorem d_Ru_perform_22 : decode prog_6_method_8_code 22 = .ok (.iadd, 1) := by decide +kernel
theorem d_Ru_perform_23 : decode prog_6_method_8_code 23 = .ok (.invokevirtual 126, 3) := by decide +kernel
theorem d_Ru_perform_26 : decode prog_6_method_8_code 26 = .ok (.aload_n 2, 1) := by decide +kernel
theorem d_Ru_perform_27 : decode prog_6_method_8_code 27 = .ok (.getfield 117, 3) := by decide +kernel
theorem d_Ru_perform_30 : decode prog_6_method_8_code 30 = .ok (.iload_n 3, 1) := by decide +kernel
theorem d_Ru_perform_31 : decode prog_6_method_8_code 31 = .ok (.iaload, 1) := by decide +kernel
theorem d_Ru_perform_32 : decode prog_6_method_8_code 32 = .ok (.tableswitch 175 0 9 #[56, 66, 76, 90, 99, 113, 128, 150, 128, 165], 56) := by decide +kernel
theorem d_Ru_perform_88 : decode prog_6_method_8_code 88 = .ok (.aload_n 0, 1) := by decide +kernel
theorem d_Ru_perform_89 : decode prog_6_method_8_code 89 = .ok (.aload_n 1, 1) := by decide +kernel
theorem d_Ru_perform_90 : decode prog_6_method_8_code 90 = .ok (.iload 4, 2) := by decide +kernel
theorem d_Ru_perform_92 : decode prog_6_method_8_code 92 = .ok (.invokevirtual 129, 3) := by decide +kernel
theorem d_Ru_perform_95 : decode prog_6_method_8_code 95 = .ok (.goto 130, 3) := by decide +kernel
theorem d_Ru_perform_98 : decode prog_6_method_8_code 98 = .ok (.aload_n 0, 1) := by decide +kernel
theorem d_Ru_perform_99 : decode prog_6_method_8_code 99 = .ok (.aload_n 1, 1) := by decide +kernel
theorem d_Ru_perform_100 : decode prog_6_method_8_code 100 = .ok (.iload 4, 2) := by decide +kernel
theorem d_Ru_perform_102 : decode prog_6_method_8_code 102 = .ok (.invokevirtual 133, 3) := by decide +kernel
theorem d_Ru_perform_105 : decode prog_6_method_8_code 105 = .ok (.goto 120, 3) := by decide +kernel
theorem d_Ru_perform_108 : decode prog_6_method_8_code 108 = .ok (.aload_n 1, 1) := by decide +kernel
theorem d_Ru_perform_109 : decode prog_6_method_8_code 109 = .ok (.dup, 1) := by decide +kernel
theorem d_Ru_perform_110 : decode prog_6_method_8_code 110 = .ok (.getfield 136, 3) := by decide +kernel
theorem d_Ru_perform_113 : decode prog_6_method_8_code 113 = .ok (.iload 4, 2) := by decide +kernel
theorem d_Ru_perform_115 : decode prog_6_method_8_code 115 = .ok (.iadd, 1) := by decide +kernel
theorem d_Ru_perform_116 : decode prog_6_method_8_code 116 = .ok (.putfield 136, 3) := by decide +kernel
theorem d_Ru_perform_119 : decode prog_6_method_8_code 119 = .ok (.goto 106, 3) := by decide +kernel
theorem d_Ru_perform_122 : decode prog_6_method_8_code 122 = .ok (.aload_n 1, 1) := by decide +kernel
theorem d_Ru_perform_123 : decode prog_6_method_8_code 123 = .ok (.iload 4, 2) := by decide +kernel
theorem d_Ru_perform_125 : decode prog_6_method_8_code 125 = .ok (.putfield 136, 3) := by decide +kernel
theorem d_Ru_perform_128 : decode prog_6_method_8_code 128 = .ok (.goto 97, 3) := by decide +kernel
theorem d_Ru_perform_131 : decode prog_6_method_8_code 131 = .ok (.aload_n 0, 1) := by decide +kernel
theorem d_Ru_perform_132 : decode prog_6_method_8_code 132 = .ok (.getfield 19, 3) := by decide +kernel
theorem d_Ru_perform_135 : decode prog_6_method_8_code 135 = .ok (.iload 4, 2) := by decide +kernel
theorem d_Ru_perform_137 : decode prog_6_method_8_code 137 = .ok (.aaload, 1) := by decide +kernel
theorem d_Ru_perform_138 : decode prog_6_method_8_code 138 = .ok (.aload_n 1, 1) := by decide +kernel
theorem d_Ru_perform_139 : decode prog_6_method_8_code 139 = .ok (.invokevirtual 139, 3) := by decide +kernel
theorem d_Ru_perform_142 : decode prog_6_method_8_code 142 = .ok (.goto 83, 3) := by decide +kernel
theorem d_Ru_perform_145 : decode prog_6_method_8_code 145 = .ok (.aload_n 0, 1) := by decide +kernel
theorem d_Ru_perform_146 : decode prog_6_method_8_code 146 = .ok (.aload_n 1, 1) := by decide +kernel
theorem d_Ru_perform_147 : decode prog_6_method_8_code 147 = .ok (.aload_n 2, 1) := by decide +kernel
theorem d_Ru_perform_148 : decode prog_6_method_8_code 148 = .ok (.aload_n 2, 1) := by decide +kernel
theorem d_Ru_perform_149 : decode prog_6_method_8_code 149 = .ok (.getfield 142, 3) := by decide +kernel
theorem d_Ru_perform_152 : decode prog_6_method_8_code 152 = .ok (.iload_n 3, 1) := by decide +kernel
theorem d_Ru_perform_153 : decode prog_6_method_8_code 153 = .ok (.iaload, 1) := by decide +kernel
theorem d_Ru_perform_154 : decode prog_6_method_8_code 154 = .ok (.invokevirtual 145, 3) := by decide +kernel
theorem d_Ru_perform_157 : decode prog_6_method_8_code 157 = .ok (.goto 68, 3) := by decide +kernel
theorem d_Ru_perform_160 : decode prog_6_method_8_code 160 = .ok (.aload_n 1, 1) := by decide +kernel
theorem d_Ru_perform_161 : decode prog_6_method_8_code 161 = .ok (.getfield 136, 3) := by decide +kernel
theorem d_Ru_perform_164 : decode prog_6_method_8_code 164 = .ok (.ifCond .ne 61, 3) := by decide +kernel
theorem d_Ru_perform_167 : decode prog_6_method_8_code 167 = .ok (.aload_n 1, 1) := by decide +kernel
theorem d_Ru_perform_168 : decode prog_6_method_8_code 168 = .ok (.aload_n 2, 1) := by decide +kernel
theorem d_Ru_perform_169 : decode prog_6_method_8_code 169 = .ok (.getfield 142, 3) := by decide +kernel
theorem d_Ru_perform_172 : decode prog_6_method_8_code 172 = .ok (.iload_n 3, 1) := by decide +kernel
theorem d_Ru_perform_173 : decode prog_6_method_8_code 173 = .ok (.iaload, 1) := by decide +kernel
theorem d_Ru_perform_174 : decode prog_6_method_8_code 174 = .ok (.iconst 1, 1) := by decide +kernel
theorem d_Ru_perform_175 : decode prog_6_method_8_code 175 = .ok (.iadd, 1) := by decide +kernel
theorem d_Ru_perform_176 : decode prog_6_method_8_code 176 = .ok (.invokevirtual 126, 3) := by decide +kernel
theorem d_Ru_perform_179 : decode prog_6_method_8_code 179 = .ok (.goto 46, 3) := by decide +kernel
theorem d_Ru_perform_182 : decode prog_6_method_8_code 182 = .ok (.aload_n 1, 1) := by decide +kernel
theorem d_Ru_perform_183 : decode prog_6_method_8_code 183 = .ok (.aload_n 2, 1) := by decide +kernel
theorem d_Ru_perform_184 : decode prog_6_method_8_code 184 = .ok (.getfield 142, 3) := by decide +kernel
theorem d_Ru_perform_187 : decode prog_6_method_8_code 187 = .ok (.iload_n 3, 1) := by decide +kernel
theorem d_Ru_perform_188 : decode prog_6_method_8_code 188 = .ok (.iaload, 1) := by decide +kernel
theorem d_Ru_perform_189 : decode prog_6_method_8_code 189 = .ok (.iconst 1, 1) := by decide +kernel
theorem d_Ru_perform_190 : decode prog_6_method_8_code 190 = .ok (.iadd, 1) := by decide +kernel
theorem d_Ru_perform_191 : decode prog_6_method_8_code 191 = .ok (.invokevirtual 126, 3) := by decide +kernel
theorem d_Ru_perform_194 : decode prog_6_method_8_code 194 = .ok (.goto 31, 3) := by decide +kernel
theorem d_Ru_perform_197 : decode prog_6_method_8_code 197 = .ok (.aload_n 0, 1) := by decide +kernel
theorem d_Ru_perform_198 : decode prog_6_method_8_code 198 = .ok (.aload_n 1, 1) := by decide +kernel
theorem d_Ru_perform_199 : decode prog_6_method_8_code 199 = .ok (.iload 4, 2) := by decide +kernel
theorem d_Ru_perform_201 : decode prog_6_method_8_code 201 = .ok (.invokevirtual 149, 3) := by decide +kernel
theorem d_Ru_perform_204 : decode prog_6_method_8_code 204 = .ok (.goto 21, 3) := by decide +kernel
theorem d_Ru_perform_207 : decode prog_6_method_8_code 207 = .ok (.aload_n 0, 1) := by decide +kernel
theorem d_Ru_perform_208 : decode prog_6_method_8_code 208 = .ok (.getfield 36, 3) := by decide +kernel
theorem d_Ru_perform_211 : decode prog_6_method_8_code 211 = .ok (.iload 4, 2) := by decide +kernel
theorem d_Ru_perform_213 : decode prog_6_method_8_code 213 = .ok (.invokevirtual 152, 3) := by decide +kernel
theorem d_Ru_perform_216 : decode prog_6_method_8_code 216 = .ok (.ifCond .eq 9, 3) := by decide +kernel
theorem d_Ru_perform_219 : decode prog_6_method_8_code 219 = .ok (.aload_n 1, 1) := by decide +kernel
theorem d_Ru_perform_220 : decode prog_6_method_8_code 220 = .ok (.iload 4, 2) := by decide +kernel
theorem d_Ru_perform_222 : decode prog_6_method_8_code 222 = .ok (.invokevirtual 156, 3) := by decide +kernel
theorem d_Ru_perform_225 : decode prog_6_method_8_code 225 = .ok (.return_, 1) := by decide +kernel
def tb_Ru_perform : List pm_I := [
  pm_aload 1 0,
  pm_aload 2 1,
  pm_callv 3 35 2 3,
  pm_astore 4 2,
  pm_aload 5 1,
  pm_calls 6 34 1,
  pm_istore 7 3,
  pm_aload 8 2,
  pm_getr 9 2 1,
  pm_iload 10 3,
  pm_iald 11 0,
  pm_istore 12 4,
  pm_aload 13 1,
  pm_iload 14 3,
  pm_const 15 1,
  pm_bin 16 (fun a b => a + b),
  pm_callv 17 59 2 5,
  pm_aload 18 2,
  pm_getr 19 2 0,
  pm_iload 20 3,
  pm_iald 21 0,
  pm_sw [(0, 22), (1, 27), (2, 32), (3, 39), (4, 43), (5, 50), (6, 59), (7, 71), (8, 59), (9, 80)] 85,
  pm_aload 23 0,
  pm_aload 24 1,
  pm_iload 25 4,
  pm_callv 26 39 3 3,
  pm_goto 93,
  pm_aload 28 0,
  pm_aload 29 1,
  pm_iload 30 4,
  pm_callv 31 41 3 3,
  pm_goto 93,
  pm_aload 33 1,
  pm_dup 34,
  pm_geti 35 5 5,
  pm_iload 36 4,
  pm_bin 37 (fun a b => a + b),
  pm_puti 38 5 5,
  pm_goto 93,
  pm_aload 40 1,
  pm_iload 41 4,
  pm_puti 42 5 5,
  pm_goto 93,
  pm_aload 44 0,
  pm_getr 45 3 2,
  pm_iload 46 4,
  pm_aald 47 4,
  pm_aload 48 1,
  pm_callv 49 64 2 6,
  pm_goto 93,
  pm_aload 51 0,
  pm_aload 52 1,
  pm_aload 53 2,
  pm_aload 54 2,
  pm_getr 55 2 2,
  pm_iload 56 3,
  pm_iald 57 0,
  pm_callv 58 42 4 3,
  pm_goto 93,
  pm_aload 60 1,
  pm_geti 61 5 5,
  pm_if 93 62 (fun a => decide (a ≠ 0)),
  pm_aload 63 1,
  pm_aload 64 2,
  pm_getr 65 2 2,
  pm_iload 66 3,
  pm_iald 67 0,
  pm_const 68 1,
  pm_bin 69 (fun a b => a + b),
  pm_callv 70 59 2 5,
  pm_goto 93,
  pm_aload 72 1,
  pm_aload 73 2,
  pm_getr 74 2 2,
  pm_iload 75 3,
  pm_iald 76 0,
  pm_const 77 1,
  pm_bin 78 (fun a b => a + b),
  pm_callv 79 59 2 5,
  pm_goto 93,
  pm_aload 81 0,
  pm_aload 82 1,
  pm_iload 83 4,
  pm_callv 84 43 3 3,
  pm_goto 93,
  pm_aload 86 0,
  pm_getr 87 3 0,
  pm_iload 88 4,
  pm_callv 89 21 2 1,
  pm_if 93 90 (fun a => decide (a = 0)),
  pm_aload 91 1,
  pm_iload 92 4,
  pm_callv 93 57 2 5,
  pm_vret]
def bp_Ru_perform : List Nat := [0, 1, 2, 5, 6, 7, 10, 11, 12, 15, 16, 17, 19, 20, 21, 22, 23, 26, 27, 30, 31, 32, 88, 89, 90, 92, 95, 98, 99, 100, 102, 105, 108, 109, 110, 113, 115, 116, 119, 122, 123, 125, 128, 131, 132, 135, 137, 138, 139, 142, 145, 146, 147, 148, 149, 152, 153, 154, 157, 160, 161, 164, 167, 168, 169, 172, 173, 174, 175, 176, 179, 182, 183, 184, 187, 188, 189, 190, 191, 194, 197, 198, 199, 201, 204, 207, 208, 211, 213, 216, 219, 220, 222, 225]
set_option maxRecDepth 100000 in
theorem sd_Ru_perform : pm_Sl prog_6_method_8_code 5 R_Ru "perform" (none) pm_Y (pm_b bp_Ru_perform) 0 tb_Ru_perform := by
  refine ⟨so_aloadn d_Ru_perform_0 rfl rfl, ?_⟩
  refine ⟨so_aloadn d_Ru_perform_1 rfl rfl, ?_⟩
  refine ⟨so_callv (ci := 3) rfl rfl mc_Ru_bodyOf mi_Ru mj_Ru_bodyOf ms_Ru_bodyOf ml_Ru_108 yd_Ru_bodyOf (by decide) d_Ru_perform_2 rfl, ?_⟩
  refine ⟨so_astoren d_Ru_perform_5 rfl (by decide) rfl, ?_⟩
  refine ⟨so_aloadn d_Ru_perform_6 rfl rfl, ?_⟩
  refine ⟨so_calls rfl mc_Ru_placeOf mi_Ru mt_Ru_placeOf ml_Ru_104 yd_Ru_placeOf (by decide) d_Ru_perform_7 rfl, ?_⟩
  refine ⟨so_istoren d_Ru_perform_10 rfl (by decide) rfl, ?_⟩
  refine ⟨so_aloadn d_Ru_perform_11 rfl rfl, ?_⟩
  refine ⟨so_getr (ci := 2) (k := 1) rfl (by decide) rfl rfl fl_Ru_120 d_Ru_perform_12 rfl, ?_⟩
  refine ⟨so_iloadn d_Ru_perform_15 rfl rfl, ?_⟩
  refine ⟨so_iald d_Ru_perform_16 rfl, ?_⟩
  refine ⟨so_istore d_Ru_perform_17 (by decide) rfl, ?_⟩
  refine ⟨so_aloadn d_Ru_perform_19 rfl rfl, ?_⟩
  refine ⟨so_iloadn d_Ru_perform_20 rfl rfl, ?_⟩
  refine ⟨so_const1 d_Ru_perform_21 (by decide) rfl, ?_⟩
  refine ⟨so_iadd d_Ru_perform_22 rfl, ?_⟩
  refine ⟨so_callv (ci := 5) rfl rfl mc_Sd_moveTo mi_Sd mj_Sd_moveTo ms_Sd_moveTo ml_Ru_126 yd_Sd_moveTo (by decide) d_Ru_perform_23 rfl, ?_⟩
  refine ⟨so_aloadn d_Ru_perform_26 rfl rfl, ?_⟩
  refine ⟨so_getr (ci := 2) (k := 0) rfl (by decide) rfl rfl fl_Ru_117 d_Ru_perform_27 rfl, ?_⟩
  refine ⟨so_iloadn d_Ru_perform_30 rfl rfl, ?_⟩
  refine ⟨so_iald d_Ru_perform_31 rfl, ?_⟩
  refine ⟨so_tsw d_Ru_perform_32 (by decide +kernel) (by decide +kernel) rfl, ?_⟩
  refine ⟨so_aloadn d_Ru_perform_88 rfl rfl, ?_⟩
  refine ⟨so_aloadn d_Ru_perform_89 rfl rfl, ?_⟩
  refine ⟨so_iload d_Ru_perform_90 rfl, ?_⟩
  refine ⟨so_callv (ci := 3) rfl rfl mc_Ru_readCell mi_Ru mj_Ru_readCell ms_Ru_readCell ml_Ru_129 yd_Ru_readCell (by decide) d_Ru_perform_92 rfl, ?_⟩
  refine ⟨so_goto d_Ru_perform_95 rfl, ?_⟩
  refine ⟨so_aloadn d_Ru_perform_98 rfl rfl, ?_⟩
  refine ⟨so_aloadn d_Ru_perform_99 rfl rfl, ?_⟩
  refine ⟨so_iload d_Ru_perform_100 rfl, ?_⟩
  refine ⟨so_callv (ci := 3) rfl rfl mc_Ru_writeCell mi_Ru mj_Ru_writeCell ms_Ru_writeCell ml_Ru_133 yd_Ru_writeCell (by decide) d_Ru_perform_102 rfl, ?_⟩
  refine ⟨so_goto d_Ru_perform_105 rfl, ?_⟩
  refine ⟨so_aloadn d_Ru_perform_108 rfl rfl, ?_⟩
  refine ⟨so_dup d_Ru_perform_109 rfl, ?_⟩
  refine ⟨so_geti (ci := 5) (k := 5) rfl (by decide) rfl rfl fl_Ru_136 d_Ru_perform_110 rfl, ?_⟩
  refine ⟨so_iload d_Ru_perform_113 rfl, ?_⟩
  refine ⟨so_iadd d_Ru_perform_115 rfl, ?_⟩
  refine ⟨so_puti (ci := 5) (k := 5) rfl (by decide) rfl rfl (Or.inl ⟨rfl, fl_Ru_136⟩) d_Ru_perform_116 rfl, ?_⟩
  refine ⟨so_goto d_Ru_perform_119 rfl, ?_⟩
  refine ⟨so_aloadn d_Ru_perform_122 rfl rfl, ?_⟩
  refine ⟨so_iload d_Ru_perform_123 rfl, ?_⟩
  refine ⟨so_puti (ci := 5) (k := 5) rfl (by decide) rfl rfl (Or.inl ⟨rfl, fl_Ru_136⟩) d_Ru_perform_125 rfl, ?_⟩
  refine ⟨so_goto d_Ru_perform_128 rfl, ?_⟩
  refine ⟨so_aloadn d_Ru_perform_131 rfl rfl, ?_⟩
  refine ⟨so_getr (ci := 3) (k := 2) rfl (by decide) rfl rfl fl_Ru_19 d_Ru_perform_132 rfl, ?_⟩
  refine ⟨so_iload d_Ru_perform_135 rfl, ?_⟩
  refine ⟨so_aald rfl (by decide) (fun _ => rfl) d_Ru_perform_137 rfl, ?_⟩
  refine ⟨so_aloadn d_Ru_perform_138 rfl rfl, ?_⟩
  refine ⟨so_callv (ci := 6) rfl rfl mc_Lk_take mi_Lk mj_Lk_take ms_Lk_take ml_Ru_139 yd_Lk_take (by decide) d_Ru_perform_139 rfl, ?_⟩
  refine ⟨so_goto d_Ru_perform_142 rfl, ?_⟩
  refine ⟨so_aloadn d_Ru_perform_145 rfl rfl, ?_⟩
  refine ⟨so_aloadn d_Ru_perform_146 rfl rfl, ?_⟩
  refine ⟨so_aloadn d_Ru_perform_147 rfl rfl, ?_⟩
  refine ⟨so_aloadn d_Ru_perform_148 rfl rfl, ?_⟩
  refine ⟨so_getr (ci := 2) (k := 2) rfl (by decide) rfl rfl fl_Ru_142 d_Ru_perform_149 rfl, ?_⟩
  refine ⟨so_iloadn d_Ru_perform_152 rfl rfl, ?_⟩
  refine ⟨so_iald d_Ru_perform_153 rfl, ?_⟩
  refine ⟨so_callv (ci := 3) rfl rfl mc_Ru_endBlock mi_Ru mj_Ru_endBlock ms_Ru_endBlock ml_Ru_145 yd_Ru_endBlock (by decide) d_Ru_perform_154 rfl, ?_⟩
  refine ⟨so_goto d_Ru_perform_157 rfl, ?_⟩
  refine ⟨so_aloadn d_Ru_perform_160 rfl rfl, ?_⟩
  refine ⟨so_geti (ci := 5) (k := 5) rfl (by decide) rfl rfl fl_Ru_136 d_Ru_perform_161 rfl, ?_⟩
  refine ⟨so_if_ne d_Ru_perform_164 rfl rfl, ?_⟩
  refine ⟨so_aloadn d_Ru_perform_167 rfl rfl, ?_⟩
  refine ⟨so_aloadn d_Ru_perform_168 rfl rfl, ?_⟩
  refine ⟨so_getr (ci := 2) (k := 2) rfl (by decide) rfl rfl fl_Ru_142 d_Ru_perform_169 rfl, ?_⟩
  refine ⟨so_iloadn d_Ru_perform_172 rfl rfl, ?_⟩
  refine ⟨so_iald d_Ru_perform_173 rfl, ?_⟩
  refine ⟨so_const1 d_Ru_perform_174 (by decide) rfl, ?_⟩
  refine ⟨so_iadd d_Ru_perform_175 rfl, ?_⟩
  refine ⟨so_callv (ci := 5) rfl rfl mc_Sd_moveTo mi_Sd mj_Sd_moveTo ms_Sd_moveTo ml_Ru_126 yd_Sd_moveTo (by decide) d_Ru_perform_176 rfl, ?_⟩
  refine ⟨so_goto d_Ru_perform_179 rfl, ?_⟩
  refine ⟨so_aloadn d_Ru_perform_182 rfl rfl, ?_⟩
  refine ⟨so_aloadn d_Ru_perform_183 rfl rfl, ?_⟩
  refine ⟨so_getr (ci := 2) (k := 2) rfl (by decide) rfl rfl fl_Ru_142 d_Ru_perform_184 rfl, ?_⟩
  refine ⟨so_iloadn d_Ru_perform_187 rfl rfl, ?_⟩
  refine ⟨so_iald d_Ru_perform_188 rfl, ?_⟩
  refine ⟨so_const1 d_Ru_perform_189 (by decide) rfl, ?_⟩
  refine ⟨so_iadd d_Ru_perform_190 rfl, ?_⟩
  refine ⟨so_callv (ci := 5) rfl rfl mc_Sd_moveTo mi_Sd mj_Sd_moveTo ms_Sd_moveTo ml_Ru_126 yd_Sd_moveTo (by decide) d_Ru_perform_191 rfl, ?_⟩
  refine ⟨so_goto d_Ru_perform_194 rfl, ?_⟩
  refine ⟨so_aloadn d_Ru_perform_197 rfl rfl, ?_⟩
  refine ⟨so_aloadn d_Ru_perform_198 rfl rfl, ?_⟩
  refine ⟨so_iload d_Ru_perform_199 rfl, ?_⟩
  refine ⟨so_callv (ci := 3) rfl rfl mc_Ru_fork mi_Ru mj_Ru_fork ms_Ru_fork ml_Ru_149 yd_Ru_fork (by decide) d_Ru_perform_201 rfl, ?_⟩
  refine ⟨so_goto d_Ru_perform_204 rfl, ?_⟩
  refine ⟨so_aloadn d_Ru_perform_207 rfl rfl, ?_⟩
  refine ⟨so_getr (ci := 3) (k := 0) rfl (by decide) rfl rfl fl_Ru_36 d_Ru_perform_208 rfl, ?_⟩
  refine ⟨so_iload d_Ru_perform_211 rfl, ?_⟩
  refine ⟨so_callv (ci := 1) rfl rfl mc_Sh_contains mi_Sh mj_Sh_contains ms_Sh_contains ml_Ru_152 yd_Sh_contains (by decide) d_Ru_perform_213 rfl, ?_⟩
  refine ⟨so_if_eq d_Ru_perform_216 rfl rfl, ?_⟩
  refine ⟨so_aloadn d_Ru_perform_219 rfl rfl, ?_⟩
  refine ⟨so_iload d_Ru_perform_220 rfl, ?_⟩
  refine ⟨so_callv (ci := 5) rfl rfl mc_Sd_enter mi_Sd mj_Sd_enter ms_Sd_enter ml_Ru_156 yd_Sd_enter (by decide) d_Ru_perform_222 rfl, ?_⟩
  refine ⟨so_vret d_Ru_perform_225 rfl, ?_⟩
  exact trivial
theorem d_Ru_readCell_0 : decode prog_6_method_9_code 0 = .ok (.aload_n 0, 1) := by decide +kernel
theorem d_Ru_readCell_1 : decode prog_6_method_9_code 1 = .ok (.aload_n 1, 1) := by decide +kernel
theorem d_Ru_readCell_2 : decode prog_6_method_9_code 2 = .ok (.iload_n 2, 1) := by decide +kernel
theorem d_Ru_readCell_3 : decode prog_6_method_9_code 3 = .ok (.iconst 0, 1) := by decide +kernel
theorem d_Ru_readCell_4 : decode prog_6_method_9_code 4 = .ok (.invokevirtual 159, 3) := by decide +kernel
theorem d_Ru_readCell_7 : decode prog_6_method_9_code 7 = .ok (.aload_n 0, 1) := by decide +kernel
theorem d_Ru_readCell_8 : decode prog_6_method_9_code 8 = .ok (.getfield 25, 3) := by decide +kernel
theorem d_Ru_readCell_11 : decode prog_6_method_9_code 11 = .ok (.iload_n 2, 1) := by decide +kernel
theorem d_Ru_readCell_12 : decode prog_6_method_9_code 12 = .ok (.aaload, 1) := by decide +kernel
theorem d_Ru_readCell_13 : decode prog_6_method_9_code 13 = .ok (.getfield 163, 3) := by decide +kernel
theorem d_Ru_readCell_16 : decode prog_6_method_9_code 16 = .ok (.aload_n 1, 1) := by decide +kernel
theorem d_Ru_readCell_17 : decode prog_6_method_9_code 17 = .ok (.getfield 166, 3) := by decide +kernel
theorem d_Ru_readCell_20 : decode prog_6_method_9_code 20 = .ok (.aload_n 0, 1) := by decide +kernel
theorem d_Ru_readCell_21 : decode prog_6_method_9_code 21 = .ok (.getfield 50, 3) := by decide +kernel
theorem d_Ru_readCell_24 : decode prog_6_method_9_code 24 = .ok (.iastore, 1) := by decide +kernel
theorem d_Ru_readCell_25 : decode prog_6_method_9_code 25 = .ok (.aload_n 1, 1) := by decide +kernel
theorem d_Ru_readCell_26 : decode prog_6_method_9_code 26 = .ok (.aload_n 0, 1) := by decide +kernel
theorem d_Ru_readCell_27 : decode prog_6_method_9_code 27 = .ok (.getfield 25, 3) := by decide +kernel
theorem d_Ru_readCell_30 : decode prog_6_method_9_code 30 = .ok (.iload_n 2, 1) := by decide +kernel
theorem d_Ru_readCell_31 : decode prog_6_method_9_code 31 = .ok (.aaload, 1) := by decide +kernel
theorem d_Ru_readCell_32 : decode prog_6_method_9_code 32 = .ok (.getfield 169, 3) := by decide +kernel
theorem d_Ru_readCell_35 : decode prog_6_method_9_code 35 = .ok (.putfield 136, 3) := by decide +kernel
theorem d_Ru_readCell_38 : decode prog_6_method_9_code 38 = .ok (.return_, 1) := by decide +kernel
def tb_Ru_readCell : List pm_I := [
  pm_aload 1 0,
  pm_aload 2 1,
  pm_iload 3 2,
  pm_const 4 0,
  pm_callv 5 40 4 3,
  pm_aload 6 0,
  pm_getr 7 3 3,
  pm_iload 8 2,
  pm_aald 9 5,
  pm_getr 10 7 0,
  pm_aload 11 1,
  pm_geti 12 5 0,
  pm_aload 13 0,
  pm_geti 14 3 6,
  pm_iast 15,
  pm_aload 16 1,
  pm_aload 17 0,
  pm_getr 18 3 3,
  pm_iload 19 2,
  pm_aald 20 5,
  pm_geti 21 7 2,
  pm_puti 22 5 5,
  pm_vret]
def bp_Ru_readCell : List Nat := [0, 1, 2, 3, 4, 7, 8, 11, 12, 13, 16, 17, 20, 21, 24, 25, 26, 27, 30, 31, 32, 35, 38]
set_option maxRecDepth 100000 in
theorem sd_Ru_readCell : pm_Sl prog_6_method_9_code 3 R_Ru "readCell" (none) pm_Y (pm_b bp_Ru_readCell) 0 tb_Ru_readCell := by
  refine ⟨so_aloadn d_Ru_readCell_0 rfl rfl, ?_⟩
  refine ⟨so_aloadn d_Ru_readCell_1 rfl rfl, ?_⟩
  refine ⟨so_iloadn d_Ru_readCell_2 rfl rfl, ?_⟩
  refine ⟨so_const1 d_Ru_readCell_3 (by decide) rfl, ?_⟩
  refine ⟨so_callv (ci := 3) rfl rfl mc_Ru_noteRace mi_Ru mj_Ru_noteRace ms_Ru_noteRace ml_Ru_159 yd_Ru_noteRace (by decide) d_Ru_readCell_4 rfl, ?_⟩
  refine ⟨so_aloadn d_Ru_readCell_7 rfl rfl, ?_⟩
  refine ⟨so_getr (ci := 3) (k := 3) rfl (by decide) rfl rfl fl_Ru_25 d_Ru_readCell_8 rfl, ?_⟩
  refine ⟨so_iloadn d_Ru_readCell_11 rfl rfl, ?_⟩
  refine ⟨so_aald rfl (by decide) (fun _ => rfl) d_Ru_readCell_12 rfl, ?_⟩
  refine ⟨so_getr (ci := 7) (k := 0) rfl (by decide) rfl rfl fl_Ru_163 d_Ru_readCell_13 rfl, ?_⟩
  refine ⟨so_aloadn d_Ru_readCell_16 rfl rfl, ?_⟩
  refine ⟨so_geti (ci := 5) (k := 0) rfl (by decide) rfl rfl fl_Ru_166 d_Ru_readCell_17 rfl, ?_⟩
  refine ⟨so_aloadn d_Ru_readCell_20 rfl rfl, ?_⟩
  refine ⟨so_geti (ci := 3) (k := 6) rfl (by decide) rfl rfl fl_Ru_50 d_Ru_readCell_21 rfl, ?_⟩
  refine ⟨so_iast d_Ru_readCell_24 rfl, ?_⟩
  refine ⟨so_aloadn d_Ru_readCell_25 rfl rfl, ?_⟩
  refine ⟨so_aloadn d_Ru_readCell_26 rfl rfl, ?_⟩
  refine ⟨so_getr (ci := 3) (k := 3) rfl (by decide) rfl rfl fl_Ru_25 d_Ru_readCell_27 rfl, ?_⟩
  refine ⟨so_iloadn d_Ru_readCell_30 rfl rfl, ?_⟩
  refine ⟨so_aald rfl (by decide) (fun _ => rfl) d_Ru_readCell_31 rfl, ?_⟩
  refine ⟨so_geti (ci := 7) (k := 2) rfl (by decide) rfl rfl fl_Ru_169 d_Ru_readCell_32 rfl, ?_⟩
  refine ⟨so_puti (ci := 5) (k := 5) rfl (by decide) rfl rfl (Or.inl ⟨rfl, fl_Ru_136⟩) d_Ru_readCell_35 rfl, ?_⟩
  refine ⟨so_vret d_Ru_readCell_38 rfl, ?_⟩
  exact trivial
theorem d_Ru_noteRace_0 : decode prog_6_method_11_code 0 = .ok (.aload_n 0, 1) := by decide +kernel
theorem d_Ru_noteRace_1 : decode prog_6_method_11_code 1 = .ok (.getfield 25, 3) := by decide +kernel
theorem d_Ru_noteRace_4 : decode prog_6_method_11_code 4 = .ok (.iload_n 2, 1) := by decide +kernel
theorem d_Ru_noteRace_5 : decode prog_6_method_11_code 5 = .ok (.aaload, 1) := by decide +kernel
theorem d_Ru_noteRace_6 : decode prog_6_method_11_code 6 = .ok (.aload_n 1, 1) := by decide +kernel
theorem d_Ru_noteRace_7 : decode prog_6_method_11_code 7 = .ok (.getfield 57, 3) := by decide +kernel
theorem d_Ru_noteRace_10 : decode prog_6_method_11_code 10 = .ok (.iload_n 3, 1) := by decide +kernel
theorem d_Ru_noteRace_11 : decode prog_6_method_11_code 11 = .ok (.invokevirtual 173, 3) := by decide +kernel
theorem d_Ru_noteRace_14 : decode prog_6_method_11_code 14 = .ok (.ifCond .eq 22, 3) := by decide +kernel
theorem d_Ru_noteRace_17 : decode prog_6_method_11_code 17 = .ok (.aload_n 0, 1) := by decide +kernel
theorem d_Ru_noteRace_18 : decode prog_6_method_11_code 18 = .ok (.getfield 32, 3) := by decide +kernel
theorem d_Ru_noteRace_21 : decode prog_6_method_11_code 21 = .ok (.aload_n 0, 1) := by decide +kernel
theorem d_Ru_noteRace_22 : decode prog_6_method_11_code 22 = .ok (.getfield 50, 3) := by decide +kernel
theorem d_Ru_noteRace_25 : decode prog_6_method_11_code 25 = .ok (.iconst 1, 1) := by decide +kernel
theorem d_Ru_noteRace_26 : decode prog_6_method_11_code 26 = .ok (.isub, 1) := by decide +kernel
theorem d_Ru_noteRace_27 : decode prog_6_method_11_code 27 = .ok (.aload_n 1, 1) := by decide +kernel
theorem d_Ru_noteRace_28 : decode prog_6_method_11_code 28 = .ok (.getfield 166, 3) := by decide +kernel
theorem d_Ru_noteRace_31 : decode prog_6_method_11_code 31 = .ok (.iload_n 2, 1) := by decide +kernel
theorem d_Ru_noteRace_32 : decode prog_6_method_11_code 32 = .ok (.iload_n 3, 1) := by decide +kernel
theorem d_Ru_noteRace_33 : decode prog_6_method_11_code 33 = .ok (.invokevirtual 177, 3) := by decide +kernel
theorem d_Ru_noteRace_36 : decode prog_6_method_11_code 36 = .ok (.return_, 1) := by decide +kernel
def tb_Ru_noteRace : List pm_I := [
  pm_aload 1 0,
  pm_getr 2 3 3,
  pm_iload 3 2,
  pm_aald 4 5,
  pm_aload 5 1,
  pm_getr 6 5 3,
  pm_iload 7 3,
  pm_callv 8 68 3 7,
  pm_if 20 9 (fun a => decide (a = 0)),
  pm_aload 10 0,
  pm_getr 11 3 4,
  pm_aload 12 0,
  pm_geti 13 3 6,
  pm_const 14 1,
  pm_bin 15 (fun a b => a - b),
  pm_aload 16 1,
  pm_geti 17 5 0,
  pm_iload 18 2,
  pm_iload 19 3,
  pm_callv 20 53 5 4,
  pm_vret]
def bp_Ru_noteRace : List Nat := [0, 1, 4, 5, 6, 7, 10, 11, 14, 17, 18, 21, 22, 25, 26, 27, 28, 31, 32, 33, 36]
set_option maxRecDepth 100000 in
theorem sd_Ru_noteRace : pm_Sl prog_6_method_11_code 4 R_Ru "noteRace" (none) pm_Y (pm_b bp_Ru_noteRace) 0 tb_Ru_noteRace := by
  refine ⟨so_aloadn d_Ru_noteRace_0 rfl rfl, ?_⟩
  refine ⟨so_getr (ci := 3) (k := 3) rfl (by decide) rfl rfl fl_Ru_25 d_Ru_noteRace_1 rfl, ?_⟩
  refine ⟨so_iloadn d_Ru_noteRace_4 rfl rfl, ?_⟩
  refine ⟨so_aald rfl (by decide) (fun _ => rfl) d_Ru_noteRace_5 rfl, ?_⟩
  refine ⟨so_aloadn d_Ru_noteRace_6 rfl rfl, ?_⟩
  refine ⟨so_getr (ci := 5) (k := 3) rfl (by decide) rfl rfl fl_Ru_57 d_Ru_noteRace_7 rfl, ?_⟩
  refine ⟨so_iloadn d_Ru_noteRace_10 rfl rfl, ?_⟩
  refine ⟨so_callv (ci := 7) rfl rfl mc_Ce_races mi_Ce mj_Ce_races ms_Ce_races ml_Ru_173 yd_Ce_races (by decide) d_Ru_noteRace_11 rfl, ?_⟩
  refine ⟨so_if_eq d_Ru_noteRace_14 rfl rfl, ?_⟩
  refine ⟨so_aloadn d_Ru_noteRace_17 rfl rfl, ?_⟩
  refine ⟨so_getr (ci := 3) (k := 4) rfl (by decide) rfl rfl fl_Ru_32 d_Ru_noteRace_18 rfl, ?_⟩
  refine ⟨so_aloadn d_Ru_noteRace_21 rfl rfl, ?_⟩
  refine ⟨so_geti (ci := 3) (k := 6) rfl (by decide) rfl rfl fl_Ru_50 d_Ru_noteRace_22 rfl, ?_⟩
  refine ⟨so_const1 d_Ru_noteRace_25 (by decide) rfl, ?_⟩
  refine ⟨so_isub d_Ru_noteRace_26 rfl, ?_⟩
  refine ⟨so_aloadn d_Ru_noteRace_27 rfl rfl, ?_⟩
  refine ⟨so_geti (ci := 5) (k := 0) rfl (by decide) rfl rfl fl_Ru_166 d_Ru_noteRace_28 rfl, ?_⟩
  refine ⟨so_iloadn d_Ru_noteRace_31 rfl rfl, ?_⟩
  refine ⟨so_iloadn d_Ru_noteRace_32 rfl rfl, ?_⟩
  refine ⟨so_callv (ci := 4) rfl rfl mc_Rl_add mi_Rl mj_Rl_add ms_Rl_add ml_Ru_177 yd_Rl_add (by decide) d_Ru_noteRace_33 rfl, ?_⟩
  refine ⟨so_vret d_Ru_noteRace_36 rfl, ?_⟩
  exact trivial
theorem d_Ru_writeCell_0 : decode prog_6_method_10_code 0 = .ok (.aload_n 0, 1) := by decide +kernel
theorem d_Ru_writeCell_1 : decode prog_6_method_10_code 1 = .ok (.aload_n 1, 1) := by decide +kernel
theorem d_Ru_writeCell_2 : decode prog_6_method_10_code 2 = .ok (.iload_n 2, 1) := by decide +kernel
theorem d_Ru_writeCell_3 : decode prog_6_method_10_code 3 = .ok (.iconst 1, 1) := by decide +kernel
theorem d_Ru_writeCell_4 : decode prog_6_method_10_code 4 = .ok (.invokevirtual 159, 3) := by decide +kernel
theorem d_Ru_writeCell_7 : decode prog_6_method_10_code 7 = .ok (.aload_n 0, 1) := by decide +kernel
theorem d_Ru_writeCell_8 : decode prog_6_method_10_code 8 = .ok (.getfield 25, 3) := by decide +kernel
theorem d_Ru_writeCell_11 : decode prog_6_method_10_code 11 = .ok (.iload_n 2, 1) := by decide +kernel
theorem d_Ru_writeCell_12 : decode prog_6_method_10_code 12 = .ok (.aaload, 1) := by decide +kernel
theorem d_Ru_writeCell_13 : decode prog_6_method_10_code 13 = .ok (.getfield 170, 3) := by decide +kernel
theorem d_Ru_writeCell_16 : decode prog_6_method_10_code 16 = .ok (.aload_n 1, 1) := by decide +kernel
theorem d_Ru_writeCell_17 : decode prog_6_method_10_code 17 = .ok (.getfield 166, 3) := by decide +kernel
theorem d_Ru_writeCell_20 : decode prog_6_method_10_code 20 = .ok (.aload_n 0, 1) := by decide +kernel
theorem d_Ru_writeCell_21 : decode prog_6_method_10_code 21 = .ok (.getfield 50, 3) := by decide +kernel
theorem d_Ru_writeCell_24 : decode prog_6_method_10_code 24 = .ok (.iastore, 1) := by decide +kernel
theorem d_Ru_writeCell_25 : decode prog_6_method_10_code 25 = .ok (.aload_n 0, 1) := by decide +kernel
theorem d_Ru_writeCell_26 : decode prog_6_method_10_code 26 = .ok (.getfield 25, 3) := by decide +kernel
theorem d_Ru_writeCell_29 : decode prog_6_method_10_code 29 = .ok (.iload_n 2, 1) := by decide +kernel
theorem d_Ru_writeCell_30 : decode prog_6_method_10_code 30 = .ok (.aaload, 1) := by decide +kernel
theorem d_Ru_writeCell_31 : decode prog_6_method_10_code 31 = .ok (.aload_n 1, 1) := by decide +kernel
theorem d_Ru_writeCell_32 : decode prog_6_method_10_code 32 = .ok (.getfield 136, 3) := by decide +kernel
theorem d_Ru_writeCell_35 : decode prog_6_method_10_code 35 = .ok (.putfield 169, 3) := by decide +kernel
theorem d_Ru_writeCell_38 : decode prog_6_method_10_code 38 = .ok (.return_, 1) := by decide +kernel
def tb_Ru_writeCell : List pm_I := [
  pm_aload 1 0,
  pm_aload 2 1,
  pm_iload 3 2,
  pm_const 4 1,
  pm_callv 5 40 4 3,
  pm_aload 6 0,
  pm_getr 7 3 3,
  pm_iload 8 2,
  pm_aald 9 5,
  pm_getr 10 7 1,
  pm_aload 11 1,
  pm_geti 12 5 0,
  pm_aload 13 0,
  pm_geti 14 3 6,
  pm_iast 15,
  pm_aload 16 0,
  pm_getr 17 3 3,
  pm_iload 18 2,
  pm_aald 19 5,
  pm_aload 20 1,
  pm_geti 21 5 5,
  pm_puti 22 7 2,
  pm_vret]
def bp_Ru_writeCell : List Nat := [0, 1, 2, 3, 4, 7, 8, 11, 12, 13, 16, 17, 20, 21, 24, 25, 26, 29, 30, 31, 32, 35, 38]
set_option maxRecDepth 100000 in
theorem sd_Ru_writeCell : pm_Sl prog_6_method_10_code 3 R_Ru "writeCell" (none) pm_Y (pm_b bp_Ru_writeCell) 0 tb_Ru_writeCell := by
  refine ⟨so_aloadn d_Ru_writeCell_0 rfl rfl, ?_⟩
  refine ⟨so_aloadn d_Ru_writeCell_1 rfl rfl, ?_⟩
  refine ⟨so_iloadn d_Ru_writeCell_2 rfl rfl, ?_⟩
  refine ⟨so_const1 d_Ru_writeCell_3 (by decide) rfl, ?_⟩
  refine ⟨so_callv (ci := 3) rfl rfl mc_Ru_noteRace mi_Ru mj_Ru_noteRace ms_Ru_noteRace ml_Ru_159 yd_Ru_noteRace (by decide) d_Ru_writeCell_4 rfl, ?_⟩
  refine ⟨so_aloadn d_Ru_writeCell_7 rfl rfl, ?_⟩
  refine ⟨so_getr (ci := 3) (k := 3) rfl (by decide) rfl rfl fl_Ru_25 d_Ru_writeCell_8 rfl, ?_⟩
  refine ⟨so_iloadn d_Ru_writeCell_11 rfl rfl, ?_⟩
  refine ⟨so_aald rfl (by decide) (fun _ => rfl) d_Ru_writeCell_12 rfl, ?_⟩
  refine ⟨so_getr (ci := 7) (k := 1) rfl (by decide) rfl rfl fl_Ru_170 d_Ru_writeCell_13 rfl, ?_⟩
  refine ⟨so_aloadn d_Ru_writeCell_16 rfl rfl, ?_⟩
  refine ⟨so_geti (ci := 5) (k := 0) rfl (by decide) rfl rfl fl_Ru_166 d_Ru_writeCell_17 rfl, ?_⟩
  refine ⟨so_aloadn d_Ru_writeCell_20 rfl rfl, ?_⟩
  refine ⟨so_geti (ci := 3) (k := 6) rfl (by decide) rfl rfl fl_Ru_50 d_Ru_writeCell_21 rfl, ?_⟩
  refine ⟨so_iast d_Ru_writeCell_24 rfl, ?_⟩
  refine ⟨so_aloadn d_Ru_writeCell_25 rfl rfl, ?_⟩
  refine ⟨so_getr (ci := 3) (k := 3) rfl (by decide) rfl rfl fl_Ru_25 d_Ru_writeCell_26 rfl, ?_⟩
  refine ⟨so_iloadn d_Ru_writeCell_29 rfl rfl, ?_⟩
  refine ⟨so_aald rfl (by decide) (fun _ => rfl) d_Ru_writeCell_30 rfl, ?_⟩
  refine ⟨so_aloadn d_Ru_writeCell_31 rfl rfl, ?_⟩
  refine ⟨so_geti (ci := 5) (k := 5) rfl (by decide) rfl rfl fl_Ru_136 d_Ru_writeCell_32 rfl, ?_⟩
  refine ⟨so_puti (ci := 7) (k := 2) rfl (by decide) rfl rfl (Or.inl ⟨rfl, fl_Ru_169⟩) d_Ru_writeCell_35 rfl, ?_⟩
  refine ⟨so_vret d_Ru_writeCell_38 rfl, ?_⟩
  exact trivial
theorem d_Ru_endBlock_0 : decode prog_6_method_12_code 0 = .ok (.aload_n 2, 1) := by decide +kernel
theorem d_Ru_endBlock_1 : decode prog_6_method_12_code 1 = .ok (.getfield 117, 3) := by decide +kernel
theorem d_Ru_endBlock_4 : decode prog_6_method_12_code 4 = .ok (.iload_n 3, 1) := by decide +kernel
theorem d_Ru_endBlock_5 : decode prog_6_method_12_code 5 = .ok (.iaload, 1) := by decide +kernel
theorem d_Ru_endBlock_6 : decode prog_6_method_12_code 6 = .ok (.iconst 4, 1) := by decide +kernel
theorem d_Ru_endBlock_7 : decode prog_6_method_12_code 7 = .ok (.if_icmp .ne 21, 3) := by decide +kernel
theorem d_Ru_endBlock_10 : decode prog_6_method_12_code 10 = .ok (.aload_n 0, 1) := by decide +kernel
theorem d_Ru_endBlock_11 : decode prog_6_method_12_code 11 = .ok (.getfield 19, 3) := by decide +kernel
theorem d_Ru_endBlock_14 : decode prog_6_method_12_code 14 = .ok (.aload_n 2, 1) := by decide +kernel
theorem d_Ru_endBlock_15 : decode prog_6_method_12_code 15 = .ok (.getfield 120, 3) := by decide +kernel
theorem d_Ru_endBlock_18 : decode prog_6_method_12_code 18 = .ok (.iload_n 3, 1) := by decide +kernel
theorem d_Ru_endBlock_19 : decode prog_6_method_12_code 19 = .ok (.iaload, 1) := by decide +kernel
theorem d_Ru_endBlock_20 : decode prog_6_method_12_code 20 = .ok (.aaload, 1) := by decide +kernel
theorem d_Ru_endBlock_21 : decode prog_6_method_12_code 21 = .ok (.aload_n 1, 1) := by decide +kernel
theorem d_Ru_endBlock_22 : decode prog_6_method_12_code 22 = .ok (.invokevirtual 181, 3) := by decide +kernel
theorem d_Ru_endBlock_25 : decode prog_6_method_12_code 25 = .ok (.goto 19, 3) := by decide +kernel
theorem d_Ru_endBlock_28 : decode prog_6_method_12_code 28 = .ok (.aload_n 2, 1) := by decide +kernel
theorem d_Ru_endBlock_29 : decode prog_6_method_12_code 29 = .ok (.getfield 117, 3) := by decide +kernel
theorem d_Ru_endBlock_32 : decode prog_6_method_12_code 32 = .ok (.iload_n 3, 1) := by decide +kernel
theorem d_Ru_endBlock_33 : decode prog_6_method_12_code 33 = .ok (.iaload, 1) := by decide +kernel
theorem d_Ru_endBlock_34 : decode prog_6_method_12_code 34 = .ok (.bipush 8, 2) := by decide +kernel
theorem d_Ru_endBlock_36 : decode prog_6_method_12_code 36 = .ok (.if_icmp .ne 8, 3) := by decide +kernel
theorem d_Ru_endBlock_39 : decode prog_6_method_12_code 39 = .ok (.aload_n 1, 1) := by decide +kernel
theorem d_Ru_endBlock_40 : decode prog_6_method_12_code 40 = .ok (.iload_n 3, 1) := by decide +kernel
theorem d_Ru_endBlock_41 : decode prog_6_method_12_code 41 = .ok (.invokevirtual 126, 3) := by decide +kernel
theorem d_Ru_endBlock_44 : decode prog_6_method_12_code 44 = .ok (.return_, 1) := by decide +kernel
def tb_Ru_endBlock : List pm_I := [
  pm_aload 1 2,
  pm_getr 2 2 0,
  pm_iload 3 3,
  pm_iald 4 0,
  pm_const 5 4,
  pm_icmp 16 6 (fun a b => decide (a ≠ b)),
  pm_aload 7 0,
  pm_getr 8 3 2,
  pm_aload 9 2,
  pm_getr 10 2 1,
  pm_iload 11 3,
  pm_iald 12 0,
  pm_aald 13 4,
  pm_aload 14 1,
  pm_callv 15 65 2 6,
  pm_goto 25,
  pm_aload 17 2,
  pm_getr 18 2 0,
  pm_iload 19 3,
  pm_iald 20 0,
  pm_const 21 8,
  pm_icmp 25 22 (fun a b => decide (a ≠ b)),
  pm_aload 23 1,
  pm_iload 24 3,
  pm_callv 25 59 2 5,
  pm_vret]
def bp_Ru_endBlock : List Nat := [0, 1, 4, 5, 6, 7, 10, 11, 14, 15, 18, 19, 20, 21, 22, 25, 28, 29, 32, 33, 34, 36, 39, 40, 41, 44]
set_option maxRecDepth 100000 in
theorem sd_Ru_endBlock : pm_Sl prog_6_method_12_code 4 R_Ru "endBlock" (none) pm_Y (pm_b bp_Ru_endBlock) 0 tb_Ru_endBlock := by
  refine ⟨so_aloadn d_Ru_endBlock_0 rfl rfl, ?_⟩
  refine ⟨so_getr (ci := 2) (k := 0) rfl (by decide) rfl rfl fl_Ru_117 d_Ru_endBlock_1 rfl, ?_⟩
  refine ⟨so_iloadn d_Ru_endBlock_4 rfl rfl, ?_⟩
  refine ⟨so_iald d_Ru_endBlock_5 rfl, ?_⟩
  refine ⟨so_const1 d_Ru_endBlock_6 (by decide) rfl, ?_⟩
  refine ⟨so_icmp_ne d_Ru_endBlock_7 rfl rfl, ?_⟩
  refine ⟨so_aloadn d_Ru_endBlock_10 rfl rfl, ?_⟩
  refine ⟨so_getr (ci := 3) (k := 2) rfl (by decide) rfl rfl fl_Ru_19 d_Ru_endBlock_11 rfl, ?_⟩
  refine ⟨so_aloadn d_Ru_endBlock_14 rfl rfl, ?_⟩
  refine ⟨so_getr (ci := 2) (k := 1) rfl (by decide) rfl rfl fl_Ru_120 d_Ru_endBlock_15 rfl, ?_⟩
  refine ⟨so_iloadn d_Ru_endBlock_18 rfl rfl, ?_⟩
  refine ⟨so_iald d_Ru_endBlock_19 rfl, ?_⟩
  refine ⟨so_aald rfl (by decide) (fun _ => rfl) d_Ru_endBlock_20 rfl, ?_⟩
  refine ⟨so_aloadn d_Ru_endBlock_21 rfl rfl, ?_⟩
  refine ⟨so_callv (ci := 6) rfl rfl mc_Lk_release mi_Lk mj_Lk_release ms_Lk_release ml_Ru_181 yd_Lk_release (by decide) d_Ru_endBlock_22 rfl, ?_⟩
  refine ⟨so_goto d_Ru_endBlock_25 rfl, ?_⟩
  refine ⟨so_aloadn d_Ru_endBlock_28 rfl rfl, ?_⟩
  refine ⟨so_getr (ci := 2) (k := 0) rfl (by decide) rfl rfl fl_Ru_117 d_Ru_endBlock_29 rfl, ?_⟩
  refine ⟨so_iloadn d_Ru_endBlock_32 rfl rfl, ?_⟩
  refine ⟨so_iald d_Ru_endBlock_33 rfl, ?_⟩
  refine ⟨so_const2 d_Ru_endBlock_34 (by decide) rfl, ?_⟩
  refine ⟨so_icmp_ne d_Ru_endBlock_36 rfl rfl, ?_⟩
  refine ⟨so_aloadn d_Ru_endBlock_39 rfl rfl, ?_⟩
  refine ⟨so_iloadn d_Ru_endBlock_40 rfl rfl, ?_⟩
  refine ⟨so_callv (ci := 5) rfl rfl mc_Sd_moveTo mi_Sd mj_Sd_moveTo ms_Sd_moveTo ml_Ru_126 yd_Sd_moveTo (by decide) d_Ru_endBlock_41 rfl, ?_⟩
  refine ⟨so_vret d_Ru_endBlock_44 rfl, ?_⟩
  exact trivial
theorem d_Ru_fork_0 : decode prog_6_method_13_code 0 = .ok (.aload_n 0, 1) := by decide +kernel
theorem d_Ru_fork_1 : decode prog_6_method_13_code 1 = .ok (.getfield 36, 3) := by decide +kernel
theorem d_Ru_fork_4 : decode prog_6_method_13_code 4 = .ok (.iload_n 2, 1) := by decide +kernel
theorem d_Ru_fork_5 : decode prog_6_method_13_code 5 = .ok (.invokevirtual 152, 3) := by decide +kernel
theorem d_Ru_fork_8 : decode prog_6_method_13_code 8 = .ok (.ifCond .eq 12, 3) := by decide +kernel
theorem d_Ru_fork_11 : decode prog_6_method_13_code 11 = .ok (.aload_n 0, 1) := by decide +kernel
theorem d_Ru_fork_12 : decode prog_6_method_13_code 12 = .ok (.getfield 54, 3) := by decide +kernel
theorem d_Ru_fork_15 : decode prog_6_method_13_code 15 = .ok (.bipush 6, 2) := by decide +kernel
theorem d_Ru_fork_17 : decode prog_6_method_13_code 17 = .ok (.if_icmp .lt 4, 3) := by decide +kernel
theorem d_Ru_fork_20 : decode prog_6_method_13_code 20 = .ok (.return_, 1) := by decide +kernel
theorem d_Ru_fork_21 : decode prog_6_method_13_code 21 = .ok (.aload_n 0, 1) := by decide +kernel
theorem d_Ru_fork_22 : decode prog_6_method_13_code 22 = .ok (.getfield 11, 3) := by decide +kernel
theorem d_Ru_fork_25 : decode prog_6_method_13_code 25 = .ok (.aload_n 0, 1) := by decide +kernel
theorem d_Ru_fork_26 : decode prog_6_method_13_code 26 = .ok (.getfield 54, 3) := by decide +kernel
theorem d_Ru_fork_29 : decode prog_6_method_13_code 29 = .ok (.aaload, 1) := by decide +kernel
theorem d_Ru_fork_30 : decode prog_6_method_13_code 30 = .ok (.astore_n 3, 1) := by decide +kernel
theorem d_Ru_fork_31 : decode prog_6_method_13_code 31 = .ok (.aload_n 0, 1) := by decide +kernel
theorem d_Ru_fork_32 : decode prog_6_method_13_code 32 = .ok (.dup, 1) := by decide +kernel
theorem d_Ru_fork_33 : decode prog_6_method_13_code 33 = .ok (.getfield 54, 3) := by decide +kernel
theorem d_Ru_fork_36 : decode prog_6_method_13_code 36 = .ok (.iconst 1, 1) := by decide +kernel
theorem d_Ru_fork_37 : decode prog_6_method_13_code 37 = .ok (.iadd, 1) := by decide +kernel
theorem d_Ru_fork_38 : decode prog_6_method_13_code 38 = .ok (.putfield 54, 3) := by decide +kernel
theorem d_Ru_fork_41 : decode prog_6_method_13_code 41 = .ok (.aload_n 1, 1) := by decide +kernel
theorem d_Ru_fork_42 : decode prog_6_method_13_code 42 = .ok (.getfield 57, 3) := by decide +kernel
theorem d_Ru_fork_45 : decode prog_6_method_13_code 45 = .ok (.iconst 0, 1) := by decide +kernel
theorem d_Ru_fork_46 : decode prog_6_method_13_code 46 = .ok (.aload_n 3, 1) := by decide +kernel
theorem d_Ru_fork_47 : decode prog_6_method_13_code 47 = .ok (.getfield 57, 3) := by decide +kernel
theorem d_Ru_fork_50 : decode prog_6_method_13_code 50 = .ok (.iconst 0, 1) := by decide +kernel
theorem d_Ru_fork_51 : decode prog_6_method_13_code 51 = .ok (.bipush 6, 2) := by decide +kernel
theorem d_Ru_fork_53 : decode prog_6_method_13_code 53 = .ok (.invokestatic 184, 3) := by decide +kernel
theorem d_Ru_fork_56 : decode prog_6_method_13_code 56 = .ok (.aload_n 3, 1) := by decide +kernel
theorem d_Ru_fork_57 : decode prog_6_method_13_code 57 = .ok (.iload_n 2, 1) := by decide +kernel
theorem d_Ru_fork_58 : decode prog_6_method_13_code 58 = .ok (.aload_n 1, 1) := by decide +kernel
theorem d_Ru_fork_59 : decode prog_6_method_13_code 59 = .ok (.getfield 136, 3) := by decide +kernel
theorem d_Ru_fork_62 : decode prog_6_method_13_code 62 = .ok (.invokevirtual 67, 3) := by decide +kernel
theorem d_Ru_fork_65 : decode prog_6_method_13_code 65 = .ok (.aload_n 0, 1) := by decide +kernel
theorem d_Ru_fork_66 : decode prog_6_method_13_code 66 = .ok (.aload_n 3, 1) := by decide +kernel
theorem d_Ru_fork_67 : decode prog_6_method_13_code 67 = .ok (.invokevirtual 71, 3) := by decide +kernel
theorem d_Ru_fork_70 : decode prog_6_method_13_code 70 = .ok (.return_, 1) := by decide +kernel
def tb_Ru_fork : List pm_I := [
  pm_aload 1 0,
  pm_getr 2 3 0,
  pm_iload 3 2,
  pm_callv 4 21 2 1,
  pm_if 9 5 (fun a => decide (a = 0)),
  pm_aload 6 0,
  pm_geti 7 3 5,
  pm_const 8 6,
  pm_icmp 10 9 (fun a b => decide (a < b)),
  pm_vret,
  pm_aload 11 0,
  pm_getr 12 3 1,
  pm_aload 13 0,
  pm_geti 14 3 5,
  pm_aald 15 3,
  pm_astore 16 3,
  pm_aload 17 0,
  pm_dup 18,
  pm_geti 19 3 5,
  pm_const 20 1,
  pm_bin 21 (fun a b => a + b),
  pm_puti 22 3 5,
  pm_aload 23 1,
  pm_getr 24 5 3,
  pm_const 25 0,
  pm_aload 26 3,
  pm_getr 27 5 3,
  pm_const 28 0,
  pm_const 29 6,
  pm_copy 30,
  pm_aload 31 3,
  pm_iload 32 2,
  pm_aload 33 1,
  pm_geti 34 5 5,
  pm_callv 35 56 3 5,
  pm_aload 36 0,
  pm_aload 37 3,
  pm_callv 38 33 2 3,
  pm_vret]
def bp_Ru_fork : List Nat := [0, 1, 4, 5, 8, 11, 12, 15, 17, 20, 21, 22, 25, 26, 29, 30, 31, 32, 33, 36, 37, 38, 41, 42, 45, 46, 47, 50, 51, 53, 56, 57, 58, 59, 62, 65, 66, 67, 70]
set_option maxRecDepth 100000 in
theorem sd_Ru_fork : pm_Sl prog_6_method_13_code 4 R_Ru "fork" (none) pm_Y (pm_b bp_Ru_fork) 0 tb_Ru_fork := by
  refine ⟨so_aloadn d_Ru_fork_0 rfl rfl, ?_⟩
  refine ⟨so_getr (ci := 3) (k := 0) rfl (by decide) rfl rfl fl_Ru_36 d_Ru_fork_1 rfl, ?_⟩
  refine ⟨so_iloadn d_Ru_fork_4 rfl rfl, ?_⟩
  refine ⟨so_callv (ci := 1) rfl rfl mc_Sh_contains mi_Sh mj_Sh_contains ms_Sh_contains ml_Ru_152 yd_Sh_contains (by decide) d_Ru_fork_5 rfl, ?_⟩
  refine ⟨so_if_eq d_Ru_fork_8 rfl rfl, ?_⟩
  refine ⟨so_aloadn d_Ru_fork_11 rfl rfl, ?_⟩
  refine ⟨so_geti (ci := 3) (k := 5) rfl (by decide) rfl rfl fl_Ru_54 d_Ru_fork_12 rfl, ?_⟩
  refine ⟨so_const2 d_Ru_fork_15 (by decide) rfl, ?_⟩
  refine ⟨so_icmp_lt d_Ru_fork_17 rfl rfl, ?_⟩
  refine ⟨so_vret d_Ru_fork_20 rfl, ?_⟩
  refine ⟨so_aloadn d_Ru_fork_21 rfl rfl, ?_⟩
  refine ⟨so_getr (ci := 3) (k := 1) rfl (by decide) rfl rfl fl_Ru_11 d_Ru_fork_22 rfl, ?_⟩
  refine ⟨so_aloadn d_Ru_fork_25 rfl rfl, ?_⟩
  refine ⟨so_geti (ci := 3) (k := 5) rfl (by decide) rfl rfl fl_Ru_54 d_Ru_fork_26 rfl, ?_⟩
  refine ⟨so_aald rfl (by decide) (fun _ => rfl) d_Ru_fork_29 rfl, ?_⟩
  refine ⟨so_astoren d_Ru_fork_30 rfl (by decide) rfl, ?_⟩
  refine ⟨so_aloadn d_Ru_fork_31 rfl rfl, ?_⟩
  refine ⟨so_dup d_Ru_fork_32 rfl, ?_⟩
  refine ⟨so_geti (ci := 3) (k := 5) rfl (by decide) rfl rfl fl_Ru_54 d_Ru_fork_33 rfl, ?_⟩
  refine ⟨so_const1 d_Ru_fork_36 (by decide) rfl, ?_⟩
  refine ⟨so_iadd d_Ru_fork_37 rfl, ?_⟩
  refine ⟨so_puti (ci := 3) (k := 5) rfl (by decide) rfl rfl (Or.inl ⟨rfl, fl_Ru_54⟩) d_Ru_fork_38 rfl, ?_⟩
  refine ⟨so_aloadn d_Ru_fork_41 rfl rfl, ?_⟩
  refine ⟨so_getr (ci := 5) (k := 3) rfl (by decide) rfl rfl fl_Ru_57 d_Ru_fork_42 rfl, ?_⟩
  refine ⟨so_const1 d_Ru_fork_45 (by decide) rfl, ?_⟩
  refine ⟨so_aloadn d_Ru_fork_46 rfl rfl, ?_⟩
  refine ⟨so_getr (ci := 5) (k := 3) rfl (by decide) rfl rfl fl_Ru_57 d_Ru_fork_47 rfl, ?_⟩
  refine ⟨so_const1 d_Ru_fork_50 (by decide) rfl, ?_⟩
  refine ⟨so_const2 d_Ru_fork_51 (by decide) rfl, ?_⟩
  refine ⟨so_copy (pm_in1 (List.mem_append_right _ (List.mem_append_left _ (List.mem_of_getElem? (i := 155) rfl)))) (pm_in1 (List.mem_append_right _ (List.mem_append_left _ (List.mem_of_getElem? (i := 149) rfl)))) (pm_in1 (List.mem_append_right _ (List.mem_append_left _ (List.mem_of_getElem? (i := 148) rfl)))) (pm_in1 (List.mem_append_left _ (List.mem_of_getElem? (i := 12) rfl))) d_Ru_fork_53 rfl, ?_⟩
  refine ⟨so_aloadn d_Ru_fork_56 rfl rfl, ?_⟩
  refine ⟨so_iloadn d_Ru_fork_57 rfl rfl, ?_⟩
  refine ⟨so_aloadn d_Ru_fork_58 rfl rfl, ?_⟩
  refine ⟨so_geti (ci := 5) (k := 5) rfl (by decide) rfl rfl fl_Ru_136 d_Ru_fork_59 rfl, ?_⟩
  refine ⟨so_callv (ci := 5) rfl rfl mc_Sd_begin mi_Sd mj_Sd_begin ms_Sd_begin ml_Ru_67 yd_Sd_begin (by decide) d_Ru_fork_62 rfl, ?_⟩
  refine ⟨so_aloadn d_Ru_fork_65 rfl rfl, ?_⟩
  refine ⟨so_aloadn d_Ru_fork_66 rfl rfl, ?_⟩
  refine ⟨so_callv (ci := 3) rfl rfl mc_Ru_leaveEnded mi_Ru mj_Ru_leaveEnded ms_Ru_leaveEnded ml_Ru_71 yd_Ru_leaveEnded (by decide) d_Ru_fork_67 rfl, ?_⟩
  refine ⟨so_vret d_Ru_fork_70 rfl, ?_⟩
  exact trivial
theorem d_Ru_valueOf_0 : decode prog_6_method_14_code 0 = .ok (.iload_n 1, 1) := by decide +kernel
theorem d_Ru_valueOf_1 : decode prog_6_method_14_code 1 = .ok (.aload_n 0, 1) := by decide +kernel
theorem d_Ru_valueOf_2 : decode prog_6_method_14_code 2 = .ok (.getfield 54, 3) := by decide +kernel
theorem d_Ru_valueOf_5 : decode prog_6_method_14_code 5 = .ok (.invokestatic 75, 3) := by decide +kernel
theorem d_Ru_valueOf_8 : decode prog_6_method_14_code 8 = .ok (.ifCond .eq 15, 3) := by decide +kernel
theorem d_Ru_valueOf_11 : decode prog_6_method_14_code 11 = .ok (.aload_n 0, 1) := by decide +kernel
theorem d_Ru_valueOf_12 : decode prog_6_method_14_code 12 = .ok (.getfield 11, 3) := by decide +kernel
theorem d_Ru_valueOf_15 : decode prog_6_method_14_code 15 = .ok (.iload_n 1, 1) := by decide +kernel
theorem d_Ru_valueOf_16 : decode prog_6_method_14_code 16 = .ok (.aaload, 1) := by decide +kernel
theorem d_Ru_valueOf_17 : decode prog_6_method_14_code 17 = .ok (.getfield 136, 3) := by decide +kernel
theorem d_Ru_valueOf_20 : decode prog_6_method_14_code 20 = .ok (.goto 4, 3) := by decide +kernel
theorem d_Ru_valueOf_23 : decode prog_6_method_14_code 23 = .ok (.iconst 0, 1) := by decide +kernel
theorem d_Ru_valueOf_24 : decode prog_6_method_14_code 24 = .ok (.ireturn, 1) := by decide +kernel
def tb_Ru_valueOf : List pm_I := [
  pm_iload 1 1,
  pm_aload 2 0,
  pm_geti 3 3 5,
  pm_calls 4 2 2,
  pm_if 11 5 (fun a => decide (a = 0)),
  pm_aload 6 0,
  pm_getr 7 3 1,
  pm_iload 8 1,
  pm_aald 9 3,
  pm_geti 10 5 5,
  pm_goto 12,
  pm_const 12 0,
  pm_iret]
def bp_Ru_valueOf : List Nat := [0, 1, 2, 5, 8, 11, 12, 15, 16, 17, 20, 23, 24]
set_option maxRecDepth 100000 in
theorem sd_Ru_valueOf : pm_Sl prog_6_method_14_code 2 R_Ru "valueOf" (some .int) pm_Y (pm_b bp_Ru_valueOf) 0 tb_Ru_valueOf := by
  refine ⟨so_iloadn d_Ru_valueOf_0 rfl rfl, ?_⟩
  refine ⟨so_aloadn d_Ru_valueOf_1 rfl rfl, ?_⟩
  refine ⟨so_geti (ci := 3) (k := 5) rfl (by decide) rfl rfl fl_Ru_54 d_Ru_valueOf_2 rfl, ?_⟩
  refine ⟨so_calls rfl mc_Lo_isBelow mi_Lo mt_Lo_isBelow ml_Ru_75 yd_Lo_isBelow (by decide) d_Ru_valueOf_5 rfl, ?_⟩
  refine ⟨so_if_eq d_Ru_valueOf_8 rfl rfl, ?_⟩
  refine ⟨so_aloadn d_Ru_valueOf_11 rfl rfl, ?_⟩
  refine ⟨so_getr (ci := 3) (k := 1) rfl (by decide) rfl rfl fl_Ru_11 d_Ru_valueOf_12 rfl, ?_⟩
  refine ⟨so_iloadn d_Ru_valueOf_15 rfl rfl, ?_⟩
  refine ⟨so_aald rfl (by decide) (fun _ => rfl) d_Ru_valueOf_16 rfl, ?_⟩
  refine ⟨so_geti (ci := 5) (k := 5) rfl (by decide) rfl rfl fl_Ru_136 d_Ru_valueOf_17 rfl, ?_⟩
  refine ⟨so_goto d_Ru_valueOf_20 rfl, ?_⟩
  refine ⟨so_const1 d_Ru_valueOf_23 (by decide) rfl, ?_⟩
  refine ⟨so_iret d_Ru_valueOf_24 rfl, ?_⟩
  exact trivial
theorem d_Ru_contentOf_0 : decode prog_6_method_15_code 0 = .ok (.iload_n 1, 1) := by decide +kernel
theorem d_Ru_contentOf_1 : decode prog_6_method_15_code 1 = .ok (.bipush 8, 2) := by decide +kernel
theorem d_Ru_contentOf_3 : decode prog_6_method_15_code 3 = .ok (.invokestatic 75, 3) := by decide +kernel
theorem d_Ru_contentOf_6 : decode prog_6_method_15_code 6 = .ok (.ifCond .eq 15, 3) := by decide +kernel
theorem d_Ru_contentOf_9 : decode prog_6_method_15_code 9 = .ok (.aload_n 0, 1) := by decide +kernel
theorem d_Ru_contentOf_10 : decode prog_6_method_15_code 10 = .ok (.getfield 25, 3) := by decide +kernel
theorem d_Ru_contentOf_13 : decode prog_6_method_15_code 13 = .ok (.iload_n 1, 1) := by decide +kernel
theorem d_Ru_contentOf_14 : decode prog_6_method_15_code 14 = .ok (.aaload, 1) := by decide +kernel
theorem d_Ru_contentOf_15 : decode prog_6_method_15_code 15 = .ok (.getfield 169, 3) := by decide +kernel
theorem d_Ru_contentOf_18 : decode prog_6_method_15_code 18 = .ok (.goto 4, 3) := by decide +kernel
theorem d_Ru_contentOf_21 : decode prog_6_method_15_code 21 = .ok (.iconst 0, 1) := by decide +kernel
theorem d_Ru_contentOf_22 : decode prog_6_method_15_code 22 = .ok (.ireturn, 1) := by decide +kernel
def tb_Ru_contentOf : List pm_I := [
  pm_iload 1 1,
  pm_const 2 8,
  pm_calls 3 2 2,
  pm_if 10 4 (fun a => decide (a = 0)),
  pm_aload 5 0,
  pm_getr 6 3 3,
  pm_iload 7 1,
  pm_aald 8 5,
  pm_geti 9 7 2,
  pm_goto 11,
  pm_const 11 0,
  pm_iret]
def bp_Ru_contentOf : List Nat := [0, 1, 3, 6, 9, 10, 13, 14, 15, 18, 21, 22]
set_option maxRecDepth 100000 in
theorem sd_Ru_contentOf : pm_Sl prog_6_method_15_code 2 R_Ru "contentOf" (some .int) pm_Y (pm_b bp_Ru_contentOf) 0 tb_Ru_contentOf := by
  refine ⟨so_iloadn d_Ru_contentOf_0 rfl rfl, ?_⟩
  refine ⟨so_const2 d_Ru_contentOf_1 (by decide) rfl, ?_⟩
  refine ⟨so_calls rfl mc_Lo_isBelow mi_Lo mt_Lo_isBelow ml_Ru_75 yd_Lo_isBelow (by decide) d_Ru_contentOf_3 rfl, ?_⟩
  refine ⟨so_if_eq d_Ru_contentOf_6 rfl rfl, ?_⟩
  refine ⟨so_aloadn d_Ru_contentOf_9 rfl rfl, ?_⟩
  refine ⟨so_getr (ci := 3) (k := 3) rfl (by decide) rfl rfl fl_Ru_25 d_Ru_contentOf_10 rfl, ?_⟩
  refine ⟨so_iloadn d_Ru_contentOf_13 rfl rfl, ?_⟩
  refine ⟨so_aald rfl (by decide) (fun _ => rfl) d_Ru_contentOf_14 rfl, ?_⟩
  refine ⟨so_geti (ci := 7) (k := 2) rfl (by decide) rfl rfl fl_Ru_169 d_Ru_contentOf_15 rfl, ?_⟩
  refine ⟨so_goto d_Ru_contentOf_18 rfl, ?_⟩
  refine ⟨so_const1 d_Ru_contentOf_21 (by decide) rfl, ?_⟩
  refine ⟨so_iret d_Ru_contentOf_22 rfl, ?_⟩
  exact trivial
theorem d_Ru_holderOf_0 : decode prog_6_method_16_code 0 = .ok (.iload_n 1, 1) := by decide +kernel
theorem d_Ru_holderOf_1 : decode prog_6_method_16_code 1 = .ok (.iconst 4, 1) := by decide +kernel
theorem d_Ru_holderOf_2 : decode prog_6_method_16_code 2 = .ok (.invokestatic 75, 3) := by decide +kernel
theorem d_Ru_holderOf_5 : decode prog_6_method_16_code 5 = .ok (.ifCond .eq 15, 3) := by decide +kernel
theorem d_Ru_holderOf_8 : decode prog_6_method_16_code 8 = .ok (.aload_n 0, 1) := by decide +kernel
theorem d_Ru_holderOf_9 : decode prog_6_method_16_code 9 = .ok (.getfield 19, 3) := by decide +kernel
theorem d_Ru_holderOf_12 : decode prog_6_method_16_code 12 = .ok (.iload_n 1, 1) := by decide +kernel
theorem d_Ru_holderOf_13 : decode prog_6_method_16_code 13 = .ok (.aaload, 1) := by decide +kernel
theorem d_Ru_holderOf_14 : decode prog_6_method_16_code 14 = .ok (.getfield 190, 3) := by decide +kernel
theorem d_Ru_holderOf_17 : decode prog_6_method_16_code 17 = .ok (.goto 4, 3) := by decide +kernel
theorem d_Ru_holderOf_20 : decode prog_6_method_16_code 20 = .ok (.iconst (-1), 1) := by decide +kernel
theorem d_Ru_holderOf_21 : decode prog_6_method_16_code 21 = .ok (.ireturn, 1) := by decide +kernel
def tb_Ru_holderOf : List pm_I := [
  pm_iload 1 1,
  pm_const 2 4,
  pm_calls 3 2 2,
  pm_if 10 4 (fun a => decide (a = 0)),
  pm_aload 5 0,
  pm_getr 6 3 2,
  pm_iload 7 1,
  pm_aald 8 4,
  pm_geti 9 6 1,
  pm_goto 11,
  pm_const 11 (-1),
  pm_iret]
def bp_Ru_holderOf : List Nat := [0, 1, 2, 5, 8, 9, 12, 13, 14, 17, 20, 21]
set_option maxRecDepth 100000 in
theorem sd_Ru_holderOf : pm_Sl prog_6_method_16_code 2 R_Ru "holderOf" (some .int) pm_Y (pm_b bp_Ru_holderOf) 0 tb_Ru_holderOf := by
  refine ⟨so_iloadn d_Ru_holderOf_0 rfl rfl, ?_⟩
  refine ⟨so_const1 d_Ru_holderOf_1 (by decide) rfl, ?_⟩
  refine ⟨so_calls rfl mc_Lo_isBelow mi_Lo mt_Lo_isBelow ml_Ru_75 yd_Lo_isBelow (by decide) d_Ru_holderOf_2 rfl, ?_⟩
  refine ⟨so_if_eq d_Ru_holderOf_5 rfl rfl, ?_⟩
  refine ⟨so_aloadn d_Ru_holderOf_8 rfl rfl, ?_⟩
  refine ⟨so_getr (ci := 3) (k := 2) rfl (by decide) rfl rfl fl_Ru_19 d_Ru_holderOf_9 rfl, ?_⟩
  refine ⟨so_iloadn d_Ru_holderOf_12 rfl rfl, ?_⟩
  refine ⟨so_aald rfl (by decide) (fun _ => rfl) d_Ru_holderOf_13 rfl, ?_⟩
  refine ⟨so_geti (ci := 6) (k := 1) rfl (by decide) rfl rfl fl_Ru_190 d_Ru_holderOf_14 rfl, ?_⟩
  refine ⟨so_goto d_Ru_holderOf_17 rfl, ?_⟩
  refine ⟨so_const1 d_Ru_holderOf_20 (by decide) rfl, ?_⟩
  refine ⟨so_iret d_Ru_holderOf_21 rfl, ?_⟩
  exact trivial
theorem d_Ru_stateOf_0 : decode prog_6_method_17_code 0 = .ok (.iload_n 1, 1) := by decide +kernel
theorem d_Ru_stateOf_1 : decode prog_6_method_17_code 1 = .ok (.aload_n 0, 1) := by decide +kernel
theorem d_Ru_stateOf_2 : decode prog_6_method_17_code 2 = .ok (.getfield 54, 3) := by decide +kernel
theorem d_Ru_stateOf_5 : decode prog_6_method_17_code 5 = .ok (.invokestatic 75, 3) := by decide +kernel
theorem d_Ru_stateOf_8 : decode prog_6_method_17_code 8 = .ok (.ifCond .ne 5, 3) := by decide +kernel
theorem d_Ru_stateOf_11 : decode prog_6_method_17_code 11 = .ok (.iconst (-1), 1) := by decide +kernel
theorem d_Ru_stateOf_12 : decode prog_6_method_17_code 12 = .ok (.ireturn, 1) := by decide +kernel
theorem d_Ru_stateOf_13 : decode prog_6_method_17_code 13 = .ok (.aload_n 0, 1) := by decide +kernel
theorem d_Ru_stateOf_14 : decode prog_6_method_17_code 14 = .ok (.getfield 11, 3) := by decide +kernel
theorem d_Ru_stateOf_17 : decode prog_6_method_17_code 17 = .ok (.iload_n 1, 1) := by decide +kernel
theorem d_Ru_stateOf_18 : decode prog_6_method_17_code 18 = .ok (.aaload, 1) := by decide +kernel
theorem d_Ru_stateOf_19 : decode prog_6_method_17_code 19 = .ok (.invokevirtual 79, 3) := by decide +kernel
theorem d_Ru_stateOf_22 : decode prog_6_method_17_code 22 = .ok (.ifCond .eq 5, 3) := by decide +kernel
theorem d_Ru_stateOf_25 : decode prog_6_method_17_code 25 = .ok (.iconst 2, 1) := by decide +kernel
theorem d_Ru_stateOf_26 : decode prog_6_method_17_code 26 = .ok (.ireturn, 1) := by decide +kernel
theorem d_Ru_stateOf_27 : decode prog_6_method_17_code 27 = .ok (.aload_n 0, 1) := by decide +kernel
theorem d_Ru_stateOf_28 : decode prog_6_method_17_code 28 = .ok (.aload_n 0, 1) := by decide +kernel
theorem d_Ru_stateOf_29 : decode prog_6_method_17_code 29 = .ok (.getfield 11, 3) := by decide +kernel
theorem d_Ru_stateOf_32 : decode prog_6_method_17_code 32 = .ok (.iload_n 1, 1) := by decide +kernel
theorem d_Ru_stateOf_33 : decode prog_6_method_17_code 33 = .ok (.aaload, 1) := by decide +kernel
theorem d_Ru_stateOf_34 : decode prog_6_method_17_code 34 = .ok (.invokevirtual 83, 3) := by decide +kernel
theorem d_Ru_stateOf_37 : decode prog_6_method_17_code 37 = .ok (.ifCond .eq 7, 3) := by decide +kernel
theorem d_Ru_stateOf_40 : decode prog_6_method_17_code 40 = .ok (.iconst 1, 1) := by decide +kernel
theorem d_Ru_stateOf_41 : decode prog_6_method_17_code 41 = .ok (.goto 4, 3) := by decide +kernel
theorem d_Ru_stateOf_44 : decode prog_6_method_17_code 44 = .ok (.iconst 0, 1) := by decide +kernel
theorem d_Ru_stateOf_45 : decode prog_6_method_17_code 45 = .ok (.ireturn, 1) := by decide +kernel
def tb_Ru_stateOf : List pm_I := [
  pm_iload 1 1,
  pm_aload 2 0,
  pm_geti 3 3 5,
  pm_calls 4 2 2,
  pm_if 7 5 (fun a => decide (a ≠ 0)),
  pm_const 6 (-1),
  pm_iret,
  pm_aload 8 0,
  pm_getr 9 3 1,
  pm_iload 10 1,
  pm_aald 11 3,
  pm_callv 12 58 1 5,
  pm_if 15 13 (fun a => decide (a = 0)),
  pm_const 14 2,
  pm_iret,
  pm_aload 16 0,
  pm_aload 17 0,
  pm_getr 18 3 1,
  pm_iload 19 1,
  pm_aald 20 3,
  pm_callv 21 37 2 3,
  pm_if 24 22 (fun a => decide (a = 0)),
  pm_const 23 1,
  pm_goto 25,
  pm_const 25 0,
  pm_iret]
def bp_Ru_stateOf : List Nat := [0, 1, 2, 5, 8, 11, 12, 13, 14, 17, 18, 19, 22, 25, 26, 27, 28, 29, 32, 33, 34, 37, 40, 41, 44, 45]
set_option maxRecDepth 100000 in
theorem sd_Ru_stateOf : pm_Sl prog_6_method_17_code 2 R_Ru "stateOf" (some .int) pm_Y (pm_b bp_Ru_stateOf) 0 tb_Ru_stateOf := by
  refine ⟨so_iloadn d_Ru_stateOf_0 rfl rfl, ?_⟩
  refine ⟨so_aloadn d_Ru_stateOf_1 rfl rfl, ?_⟩
  refine ⟨so_geti (ci := 3) (k := 5) rfl (by decide) rfl rfl fl_Ru_54 d_Ru_stateOf_2 rfl, ?_⟩
  refine ⟨so_calls rfl mc_Lo_isBelow mi_Lo mt_Lo_isBelow ml_Ru_75 yd_Lo_isBelow (by decide) d_Ru_stateOf_5 rfl, ?_⟩
  refine ⟨so_if_ne d_Ru_stateOf_8 rfl rfl, ?_⟩
  refine ⟨so_const1 d_Ru_stateOf_11 (by decide) rfl, ?_⟩
  refine ⟨so_iret d_Ru_stateOf_12 rfl, ?_⟩
  refine ⟨so_aloadn d_Ru_stateOf_13 rfl rfl, ?_⟩
  refine ⟨so_getr (ci := 3) (k := 1) rfl (by decide) rfl rfl fl_Ru_11 d_Ru_stateOf_14 rfl, ?_⟩
  refine ⟨so_iloadn d_Ru_stateOf_17 rfl rfl, ?_⟩
  refine ⟨so_aald rfl (by decide) (fun _ => rfl) d_Ru_stateOf_18 rfl, ?_⟩
  refine ⟨so_callv (ci := 5) rfl rfl mc_Sd_isDone mi_Sd mj_Sd_isDone ms_Sd_isDone ml_Ru_79 yd_Sd_isDone (by decide) d_Ru_stateOf_19 rfl, ?_⟩
  refine ⟨so_if_eq d_Ru_stateOf_22 rfl rfl, ?_⟩
  refine ⟨so_const1 d_Ru_stateOf_25 (by decide) rfl, ?_⟩
  refine ⟨so_iret d_Ru_stateOf_26 rfl, ?_⟩
  refine ⟨so_aloadn d_Ru_stateOf_27 rfl rfl, ?_⟩
  refine ⟨so_aloadn d_Ru_stateOf_28 rfl rfl, ?_⟩
  refine ⟨so_getr (ci := 3) (k := 1) rfl (by decide) rfl rfl fl_Ru_11 d_Ru_stateOf_29 rfl, ?_⟩
  refine ⟨so_iloadn d_Ru_stateOf_32 rfl rfl, ?_⟩
  refine ⟨so_aald rfl (by decide) (fun _ => rfl) d_Ru_stateOf_33 rfl, ?_⟩
  refine ⟨so_callv (ci := 3) rfl rfl mc_Ru_wouldWait mi_Ru mj_Ru_wouldWait ms_Ru_wouldWait ml_Ru_83 yd_Ru_wouldWait (by decide) d_Ru_stateOf_34 rfl, ?_⟩
  refine ⟨so_if_eq d_Ru_stateOf_37 rfl rfl, ?_⟩
  refine ⟨so_const1 d_Ru_stateOf_40 (by decide) rfl, ?_⟩
  refine ⟨so_goto d_Ru_stateOf_41 rfl, ?_⟩
  refine ⟨so_const1 d_Ru_stateOf_44 (by decide) rfl, ?_⟩
  refine ⟨so_iret d_Ru_stateOf_45 rfl, ?_⟩
  exact trivial
theorem d_Ru_countOf_0 : decode prog_6_method_18_code 0 = .ok (.aload_n 0, 1) := by decide +kernel
theorem d_Ru_countOf_1 : decode prog_6_method_18_code 1 = .ok (.getfield 54, 3) := by decide +kernel
theorem d_Ru_countOf_4 : decode prog_6_method_18_code 4 = .ok (.ifCond .ne 5, 3) := by decide +kernel
theorem d_Ru_countOf_7 : decode prog_6_method_18_code 7 = .ok (.iconst (-1), 1) := by decide +kernel
theorem d_Ru_countOf_8 : decode prog_6_method_18_code 8 = .ok (.ireturn, 1) := by decide +kernel
theorem d_Ru_countOf_9 : decode prog_6_method_18_code 9 = .ok (.iload_n 1, 1) := by decide +kernel
theorem d_Ru_countOf_10 : decode prog_6_method_18_code 10 = .ok (.tableswitch 44 0 2 #[26, 31, 36], 26) := by decide +kernel
theorem d_Ru_countOf_36 : decode prog_6_method_18_code 36 = .ok (.aload_n 0, 1) := by decide +kernel
theorem d_Ru_countOf_37 : decode prog_6_method_18_code 37 = .ok (.getfield 54, 3) := by decide +kernel
theorem d_Ru_countOf_40 : decode prog_6_method_18_code 40 = .ok (.ireturn, 1) := by decide +kernel
theorem d_Ru_countOf_41 : decode prog_6_method_18_code 41 = .ok (.aload_n 0, 1) := by decide +kernel
theorem d_Ru_countOf_42 : decode prog_6_method_18_code 42 = .ok (.getfield 50, 3) := by decide +kernel
theorem d_Ru_countOf_45 : decode prog_6_method_18_code 45 = .ok (.ireturn, 1) := by decide +kernel
theorem d_Ru_countOf_46 : decode prog_6_method_18_code 46 = .ok (.aload_n 0, 1) := by decide +kernel
theorem d_Ru_countOf_47 : decode prog_6_method_18_code 47 = .ok (.getfield 32, 3) := by decide +kernel
theorem d_Ru_countOf_50 : decode prog_6_method_18_code 50 = .ok (.getfield 193, 3) := by decide +kernel
theorem d_Ru_countOf_53 : decode prog_6_method_18_code 53 = .ok (.ireturn, 1) := by decide +kernel
theorem d_Ru_countOf_54 : decode prog_6_method_18_code 54 = .ok (.iconst (-1), 1) := by decide +kernel
theorem d_Ru_countOf_55 : decode prog_6_method_18_code 55 = .ok (.ireturn, 1) := by decide +kernel
def tb_Ru_countOf : List pm_I := [
  pm_aload 1 0,
  pm_geti 2 3 5,
  pm_if 5 3 (fun a => decide (a ≠ 0)),
  pm_const 4 (-1),
  pm_iret,
  pm_iload 6 1,
  pm_sw [(0, 7), (1, 10), (2, 13)] 17,
  pm_aload 8 0,
  pm_geti 9 3 5,
  pm_iret,
  pm_aload 11 0,
  pm_geti 12 3 6,
  pm_iret,
  pm_aload 14 0,
  pm_getr 15 3 4,
  pm_geti 16 4 1,
  pm_iret,
  pm_const 18 (-1),
  pm_iret]
def bp_Ru_countOf : List Nat := [0, 1, 4, 7, 8, 9, 10, 36, 37, 40, 41, 42, 45, 46, 47, 50, 53, 54, 55]
set_option maxRecDepth 100000 in
theorem sd_Ru_countOf : pm_Sl prog_6_method_18_code 2 R_Ru "countOf" (some .int) pm_Y (pm_b bp_Ru_countOf) 0 tb_Ru_countOf := by
  refine ⟨so_aloadn d_Ru_countOf_0 rfl rfl, ?_⟩
  refine ⟨so_geti (ci := 3) (k := 5) rfl (by decide) rfl rfl fl_Ru_54 d_Ru_countOf_1 rfl, ?_⟩
  refine ⟨so_if_ne d_Ru_countOf_4 rfl rfl, ?_⟩
  refine ⟨so_const1 d_Ru_countOf_7 (by decide) rfl, ?_⟩
  refine ⟨so_iret d_Ru_countOf_8 rfl, ?_⟩
  refine ⟨so_iloadn d_Ru_countOf_9 rfl rfl, ?_⟩
  refine ⟨so_tsw d_Ru_countOf_10 (by decide +kernel) (by decide +kernel) rfl, ?_⟩
  refine ⟨so_aloadn d_Ru_countOf_36 rfl rfl, ?_⟩
  refine ⟨so_geti (ci := 3) (k := 5) rfl (by decide) rfl rfl fl_Ru_54 d_Ru_countOf_37 rfl, ?_⟩
  refine ⟨so_iret d_Ru_countOf_40 rfl, ?_⟩
  refine ⟨so_aloadn d_Ru_countOf_41 rfl rfl, ?_⟩
  refine ⟨so_geti (ci := 3) (k := 6) rfl (by decide) rfl rfl fl_Ru_50 d_Ru_countOf_42 rfl, ?_⟩
  refine ⟨so_iret d_Ru_countOf_45 rfl, ?_⟩
  refine ⟨so_aloadn d_Ru_countOf_46 rfl rfl, ?_⟩
  refine ⟨so_getr (ci := 3) (k := 4) rfl (by decide) rfl rfl fl_Ru_32 d_Ru_countOf_47 rfl, ?_⟩
  refine ⟨so_geti (ci := 4) (k := 1) rfl (by decide) rfl rfl fl_Ru_193 d_Ru_countOf_50 rfl, ?_⟩
  refine ⟨so_iret d_Ru_countOf_53 rfl, ?_⟩
  refine ⟨so_const1 d_Ru_countOf_54 (by decide) rfl, ?_⟩
  refine ⟨so_iret d_Ru_countOf_55 rfl, ?_⟩
  exact trivial
theorem d_Ru_racePart_0 : decode prog_6_method_19_code 0 = .ok (.aload_n 0, 1) := by decide +kernel
theorem d_Ru_racePart_1 : decode prog_6_method_19_code 1 = .ok (.getfield 32, 3) := by decide +kernel
theorem d_Ru_racePart_4 : decode prog_6_method_19_code 4 = .ok (.iload_n 1, 1) := by decide +kernel
theorem d_Ru_racePart_5 : decode prog_6_method_19_code 5 = .ok (.iload_n 2, 1) := by decide +kernel
theorem d_Ru_racePart_6 : decode prog_6_method_19_code 6 = .ok (.invokevirtual 196, 3) := by decide +kernel
theorem d_Ru_racePart_9 : decode prog_6_method_19_code 9 = .ok (.ireturn, 1) := by decide +kernel
def tb_Ru_racePart : List pm_I := [
  pm_aload 1 0,
  pm_getr 2 3 4,
  pm_iload 3 1,
  pm_iload 4 2,
  pm_callv 5 54 3 4,
  pm_iret]
def bp_Ru_racePart : List Nat := [0, 1, 4, 5, 6, 9]
set_option maxRecDepth 100000 in
theorem sd_Ru_racePart : pm_Sl prog_6_method_19_code 3 R_Ru "racePart" (some .int) pm_Y (pm_b bp_Ru_racePart) 0 tb_Ru_racePart := by
  refine ⟨so_aloadn d_Ru_racePart_0 rfl rfl, ?_⟩
  refine ⟨so_getr (ci := 3) (k := 4) rfl (by decide) rfl rfl fl_Ru_32 d_Ru_racePart_1 rfl, ?_⟩
  refine ⟨so_iloadn d_Ru_racePart_4 rfl rfl, ?_⟩
  refine ⟨so_iloadn d_Ru_racePart_5 rfl rfl, ?_⟩
  refine ⟨so_callv (ci := 4) rfl rfl mc_Rl_part mi_Rl mj_Rl_part ms_Rl_part ml_Ru_196 yd_Rl_part (by decide) d_Ru_racePart_6 rfl, ?_⟩
  refine ⟨so_iret d_Ru_racePart_9 rfl, ?_⟩
  exact trivial
theorem d_Ru_isStuck_0 : decode prog_6_method_20_code 0 = .ok (.iconst 0, 1) := by decide +kernel
theorem d_Ru_isStuck_1 : decode prog_6_method_20_code 1 = .ok (.istore_n 1, 1) := by decide +kernel
theorem d_Ru_isStuck_2 : decode prog_6_method_20_code 2 = .ok (.iconst 0, 1) := by decide +kernel
theorem d_Ru_isStuck_3 : decode prog_6_method_20_code 3 = .ok (.istore_n 2, 1) := by decide +kernel
theorem d_Ru_isStuck_4 : decode prog_6_method_20_code 4 = .ok (.iload_n 2, 1) := by decide +kernel
theorem d_Ru_isStuck_5 : decode prog_6_method_20_code 5 = .ok (.aload_n 0, 1) := by decide +kernel
theorem d_Ru_isStuck_6 : decode prog_6_method_20_code 6 = .ok (.getfield 54, 3) := by decide +kernel
theorem d_Ru_isStuck_9 : decode prog_6_method_20_code 9 = .ok (.if_icmp .ge 36, 3) := by decide +kernel
theorem d_Ru_isStuck_12 : decode prog_6_method_20_code 12 = .ok (.aload_n 0, 1) := by decide +kernel
theorem d_Ru_isStuck_13 : decode prog_6_method_20_code 13 = .ok (.iload_n 2, 1) := by decide +kernel
theorem d_Ru_isStuck_14 : decode prog_6_method_20_code 14 = .ok (.invokevirtual 200, 3) := by decide +kernel
theorem d_Ru_isStuck_17 : decode prog_6_method_20_code 17 = .ok (.istore_n 3, 1) := by decide +kernel
theorem d_Ru_isStuck_18 : decode prog_6_method_20_code 18 = .ok (.iload_n 3, 1) := by decide +kernel
theorem d_Ru_isStuck_19 : decode prog_6_method_20_code 19 = .ok (.ifCond .ne 5, 3) := by decide +kernel
theorem d_Ru_isStuck_22 : decode prog_6_method_20_code 22 = .ok (.iconst 0, 1) := by decide +kernel
theorem d_Ru_isStuck_23 : decode prog_6_method_20_code 23 = .ok (.ireturn, 1) := by decide +kernel
theorem d_Ru_isStuck_24 : decode prog_6_method_20_code 24 = .ok (.iload_n 1, 1) := by decide +kernel
theorem d_Ru_isStuck_25 : decode prog_6_method_20_code 25 = .ok (.ifCond .ne 8, 3) := by decide +kernel
theorem d_Ru_isStuck_28 : decode prog_6_method_20_code 28 = .ok (.iload_n 3, 1) := by decide +kernel
theorem d_Ru_isStuck_29 : decode prog_6_method_20_code 29 = .ok (.iconst 1, 1) := by decide +kernel
theorem d_Ru_isStuck_30 : decode prog_6_method_20_code 30 = .ok (.if_icmp .ne 7, 3) := by decide +kernel
theorem d_Ru_isStuck_33 : decode prog_6_method_20_code 33 = .ok (.iconst 1, 1) := by decide +kernel
theorem d_Ru_isStuck_34 : decode prog_6_method_20_code 34 = .ok (.goto 4, 3) := by decide +kernel
theorem d_Ru_isStuck_37 : decode prog_6_method_20_code 37 = .ok (.iconst 0, 1) := by decide +kernel
theorem d_Ru_isStuck_38 : decode prog_6_method_20_code 38 = .ok (.istore_n 1, 1) := by decide +kernel
theorem d_Ru_isStuck_39 : decode prog_6_method_20_code 39 = .ok (.iinc 2 1, 3) := by decide +kernel
theorem d_Ru_isStuck_42 : decode prog_6_method_20_code 42 = .ok (.goto (-38), 3) := by decide +kernel
theorem d_Ru_isStuck_45 : decode prog_6_method_20_code 45 = .ok (.iload_n 1, 1) := by decide +kernel
theorem d_Ru_isStuck_46 : decode prog_6_method_20_code 46 = .ok (.ireturn, 1) := by decide +kernel
def tb_Ru_isStuck : List pm_I := [
  pm_const 1 0,
  pm_istore 2 1,
  pm_const 3 0,
  pm_istore 4 2,
  pm_iload 5 2,
  pm_aload 6 0,
  pm_geti 7 3 5,
  pm_icmp 27 8 (fun a b => decide (b ≤ a)),
  pm_aload 9 0,
  pm_iload 10 2,
  pm_callv 11 47 2 3,
  pm_istore 12 3,
  pm_iload 13 3,
  pm_if 16 14 (fun a => decide (a ≠ 0)),
  pm_const 15 0,
  pm_zret,
  pm_iload 17 1,
  pm_if 21 18 (fun a => decide (a ≠ 0)),
  pm_iload 19 3,
  pm_const 20 1,
  pm_icmp 23 21 (fun a b => decide (a ≠ b)),
  pm_const 22 1,
  pm_goto 24,
  pm_const 24 0,
  pm_istore 25 1,
  pm_iinc 26 2 1,
  pm_goto 4,
  pm_iload 28 1,
  pm_zret]
def bp_Ru_isStuck : List Nat := [0, 1, 2, 3, 4, 5, 6, 9, 12, 13, 14, 17, 18, 19, 22, 23, 24, 25, 28, 29, 30, 33, 34, 37, 38, 39, 42, 45, 46]
set_option maxRecDepth 100000 in
theorem sd_Ru_isStuck : pm_Sl prog_6_method_20_code 4 R_Ru "isStuck" (some .boolean) pm_Y (pm_b bp_Ru_isStuck) 0 tb_Ru_isStuck := by
  refine ⟨so_const1 d_Ru_isStuck_0 (by decide) rfl, ?_⟩
  refine ⟨so_istoren d_Ru_isStuck_1 rfl (by decide) rfl, ?_⟩
  refine ⟨so_const1 d_Ru_isStuck_2 (by decide) rfl, ?_⟩
  refine ⟨so_istoren d_Ru_isStuck_3 rfl (by decide) rfl, ?_⟩
  refine ⟨so_iloadn d_Ru_isStuck_4 rfl rfl, ?_⟩
  refine ⟨so_aloadn d_Ru_isStuck_5 rfl rfl, ?_⟩
  refine ⟨so_geti (ci := 3) (k := 5) rfl (by decide) rfl rfl fl_Ru_54 d_Ru_isStuck_6 rfl, ?_⟩
  refine ⟨so_icmp_ge d_Ru_isStuck_9 rfl rfl, ?_⟩
  refine ⟨so_aloadn d_Ru_isStuck_12 rfl rfl, ?_⟩
  refine ⟨so_iloadn d_Ru_isStuck_13 rfl rfl, ?_⟩
  refine ⟨so_callv (ci := 3) rfl rfl mc_Ru_stateOf mi_Ru mj_Ru_stateOf ms_Ru_stateOf ml_Ru_200 yd_Ru_stateOf (by decide) d_Ru_isStuck_14 rfl, ?_⟩
  refine ⟨so_istoren d_Ru_isStuck_17 rfl (by decide) rfl, ?_⟩
  refine ⟨so_iloadn d_Ru_isStuck_18 rfl rfl, ?_⟩
  refine ⟨so_if_ne d_Ru_isStuck_19 rfl rfl, ?_⟩
  refine ⟨so_const1 d_Ru_isStuck_22 (by decide) rfl, ?_⟩
  refine ⟨so_zret d_Ru_isStuck_23 rfl, ?_⟩
  refine ⟨so_iloadn d_Ru_isStuck_24 rfl rfl, ?_⟩
  refine ⟨so_if_ne d_Ru_isStuck_25 rfl rfl, ?_⟩
  refine ⟨so_iloadn d_Ru_isStuck_28 rfl rfl, ?_⟩
  refine ⟨so_const1 d_Ru_isStuck_29 (by decide) rfl, ?_⟩
  refine ⟨so_icmp_ne d_Ru_isStuck_30 rfl rfl, ?_⟩
  refine ⟨so_const1 d_Ru_isStuck_33 (by decide) rfl, ?_⟩
  refine ⟨so_goto d_Ru_isStuck_34 rfl, ?_⟩
  refine ⟨so_const1 d_Ru_isStuck_37 (by decide) rfl, ?_⟩
  refine ⟨so_istoren d_Ru_isStuck_38 rfl (by decide) rfl, ?_⟩
  refine ⟨so_iinc d_Ru_isStuck_39 (by decide) (by decide) rfl, ?_⟩
  refine ⟨so_goto d_Ru_isStuck_42 rfl, ?_⟩
  refine ⟨so_iloadn d_Ru_isStuck_45 rfl rfl, ?_⟩
  refine ⟨so_zret d_Ru_isStuck_46 rfl, ?_⟩
  exact trivial
theorem d_Sd_init_0 : decode prog_8_method_1_code 0 = .ok (.aload_n 0, 1) := by decide +kernel
theorem d_Sd_init_1 : decode prog_8_method_1_code 1 = .ok (.invokespecial 3, 3) := by decide +kernel
theorem d_Sd_init_4 : decode prog_8_method_1_code 4 = .ok (.aload_n 0, 1) := by decide +kernel
theorem d_Sd_init_5 : decode prog_8_method_1_code 5 = .ok (.bipush 8, 2) := by decide +kernel
theorem d_Sd_init_7 : decode prog_8_method_1_code 7 = .ok (.newarray .int, 2) := by decide +kernel
theorem d_Sd_init_9 : decode prog_8_method_1_code 9 = .ok (.putfield 9, 3) := by decide +kernel
theorem d_Sd_init_12 : decode prog_8_method_1_code 12 = .ok (.aload_n 0, 1) := by decide +kernel
theorem d_Sd_init_13 : decode prog_8_method_1_code 13 = .ok (.bipush 8, 2) := by decide +kernel
theorem d_Sd_init_15 : decode prog_8_method_1_code 15 = .ok (.newarray .int, 2) := by decide +kernel
theorem d_Sd_init_17 : decode prog_8_method_1_code 17 = .ok (.putfield 15, 3) := by decide +kernel
theorem d_Sd_init_20 : decode prog_8_method_1_code 20 = .ok (.aload_n 0, 1) := by decide +kernel
theorem d_Sd_init_21 : decode prog_8_method_1_code 21 = .ok (.bipush 6, 2) := by decide +kernel
theorem d_Sd_init_23 : decode prog_8_method_1_code 23 = .ok (.newarray .int, 2) := by decide +kernel
theorem d_Sd_init_25 : decode prog_8_method_1_code 25 = .ok (.putfield 18, 3) := by decide +kernel
theorem d_Sd_init_28 : decode prog_8_method_1_code 28 = .ok (.aload_n 0, 1) := by decide +kernel
theorem d_Sd_init_29 : decode prog_8_method_1_code 29 = .ok (.iload_n 1, 1) := by decide +kernel
theorem d_Sd_init_30 : decode prog_8_method_1_code 30 = .ok (.putfield 21, 3) := by decide +kernel
theorem d_Sd_init_33 : decode prog_8_method_1_code 33 = .ok (.return_, 1) := by decide +kernel
def tb_Sd_init : List pm_I := [
  pm_aload 1 0,
  pm_oinit 2,
  pm_aload 3 0,
  pm_const 4 8,
  pm_newa 5 0,
  pm_putr 6 5 1,
  pm_aload 7 0,
  pm_const 8 8,
  pm_newa 9 0,
  pm_putr 10 5 2,
  pm_aload 11 0,
  pm_const 12 6,
  pm_newa 13 0,
  pm_putr 14 5 3,
  pm_aload 15 0,
  pm_iload 16 1,
  pm_puti 17 5 0,
  pm_vret]
def bp_Sd_init : List Nat := [0, 1, 4, 5, 7, 9, 12, 13, 15, 17, 20, 21, 23, 25, 28, 29, 30, 33]
set_option maxRecDepth 100000 in
theorem sd_Sd_init : pm_Sl prog_8_method_1_code 2 R_Sd "<init>" (none) pm_Y (pm_b bp_Sd_init) 0 tb_Sd_init := by
  refine ⟨so_aloadn d_Sd_init_0 rfl rfl, ?_⟩
  refine ⟨so_oinit (pm_in1 (List.mem_append_left _ (List.mem_of_getElem? (i := 110) rfl))) (pm_in1 (List.mem_append_left _ (List.mem_of_getElem? (i := 19) rfl))) (pm_in1 (List.mem_append_left _ (List.mem_of_getElem? (i := 20) rfl))) d_Sd_init_1 rfl, ?_⟩
  refine ⟨so_aloadn d_Sd_init_4 rfl rfl, ?_⟩
  refine ⟨so_const2 d_Sd_init_5 (by decide) rfl, ?_⟩
  refine ⟨so_newi d_Sd_init_7 rfl, ?_⟩
  refine ⟨so_putr (ci := 5) (k := 1) rfl (by decide) rfl rfl (Or.inr ⟨rfl, rfl, rfl, pm_in1 (List.mem_append_left _ (List.mem_of_getElem? (i := 114) rfl))⟩) d_Sd_init_9 rfl, ?_⟩
  refine ⟨so_aloadn d_Sd_init_12 rfl rfl, ?_⟩
  refine ⟨so_const2 d_Sd_init_13 (by decide) rfl, ?_⟩
  refine ⟨so_newi d_Sd_init_15 rfl, ?_⟩
  refine ⟨so_putr (ci := 5) (k := 2) rfl (by decide) rfl rfl (Or.inr ⟨rfl, rfl, rfl, pm_in1 (List.mem_append_left _ (List.mem_of_getElem? (i := 116) rfl))⟩) d_Sd_init_17 rfl, ?_⟩
  refine ⟨so_aloadn d_Sd_init_20 rfl rfl, ?_⟩
  refine ⟨so_const2 d_Sd_init_21 (by decide) rfl, ?_⟩
  refine ⟨so_newi d_Sd_init_23 rfl, ?_⟩
  refine ⟨so_putr (ci := 5) (k := 3) rfl (by decide) rfl rfl (Or.inr ⟨rfl, rfl, rfl, pm_in1 (List.mem_append_left _ (List.mem_of_getElem? (i := 118) rfl))⟩) d_Sd_init_25 rfl, ?_⟩
  refine ⟨so_aloadn d_Sd_init_28 rfl rfl, ?_⟩
  refine ⟨so_iloadn d_Sd_init_29 rfl rfl, ?_⟩
  refine ⟨so_puti (ci := 5) (k := 0) rfl (by decide) rfl rfl (Or.inr ⟨rfl, rfl, rfl, pm_in1 (List.mem_append_left _ (List.mem_of_getElem? (i := 111) rfl))⟩) d_Sd_init_30 rfl, ?_⟩
  refine ⟨so_vret d_Sd_init_33 rfl, ?_⟩
  exact trivial
theorem d_Sd_begin_0 : decode prog_8_method_2_code 0 = .ok (.aload_n 0, 1) := by decide +kernel
theorem d_Sd_begin_1 : decode prog_8_method_2_code 1 = .ok (.iload_n 2, 1) := by decide +kernel
theorem d_Sd_begin_2 : decode prog_8_method_2_code 2 = .ok (.putfield 25, 3) := by decide +kernel
theorem d_Sd_begin_5 : decode prog_8_method_2_code 5 = .ok (.aload_n 0, 1) := by decide +kernel
theorem d_Sd_begin_6 : decode prog_8_method_2_code 6 = .ok (.iconst 0, 1) := by decide +kernel
theorem d_Sd_begin_7 : decode prog_8_method_2_code 7 = .ok (.putfield 28, 3) := by decide +kernel
theorem d_Sd_begin_10 : decode prog_8_method_2_code 10 = .ok (.aload_n 0, 1) := by decide +kernel
theorem d_Sd_begin_11 : decode prog_8_method_2_code 11 = .ok (.iload_n 1, 1) := by decide +kernel
theorem d_Sd_begin_12 : decode prog_8_method_2_code 12 = .ok (.invokevirtual 31, 3) := by decide +kernel
theorem d_Sd_begin_15 : decode prog_8_method_2_code 15 = .ok (.return_, 1) := by decide +kernel
def tb_Sd_begin : List pm_I := [
  pm_aload 1 0,
  pm_iload 2 2,
  pm_puti 3 5 5,
  pm_aload 4 0,
  pm_const 5 0,
  pm_puti 6 5 4,
  pm_aload 7 0,
  pm_iload 8 1,
  pm_callv 9 57 2 5,
  pm_vret]
def bp_Sd_begin : List Nat := [0, 1, 2, 5, 6, 7, 10, 11, 12, 15]
set_option maxRecDepth 100000 in
theorem sd_Sd_begin : pm_Sl prog_8_method_2_code 3 R_Sd "begin" (none) pm_Y (pm_b bp_Sd_begin) 0 tb_Sd_begin := by
  refine ⟨so_aloadn d_Sd_begin_0 rfl rfl, ?_⟩
  refine ⟨so_iloadn d_Sd_begin_1 rfl rfl, ?_⟩
  refine ⟨so_puti (ci := 5) (k := 5) rfl (by decide) rfl rfl (Or.inl ⟨rfl, fl_Sd_25⟩) d_Sd_begin_2 rfl, ?_⟩
  refine ⟨so_aloadn d_Sd_begin_5 rfl rfl, ?_⟩
  refine ⟨so_const1 d_Sd_begin_6 (by decide) rfl, ?_⟩
  refine ⟨so_puti (ci := 5) (k := 4) rfl (by decide) rfl rfl (Or.inl ⟨rfl, fl_Sd_28⟩) d_Sd_begin_7 rfl, ?_⟩
  refine ⟨so_aloadn d_Sd_begin_10 rfl rfl, ?_⟩
  refine ⟨so_iloadn d_Sd_begin_11 rfl rfl, ?_⟩
  refine ⟨so_callv (ci := 5) rfl rfl mc_Sd_enter mi_Sd mj_Sd_enter ms_Sd_enter ml_Sd_31 yd_Sd_enter (by decide) d_Sd_begin_12 rfl, ?_⟩
  refine ⟨so_vret d_Sd_begin_15 rfl, ?_⟩
  exact trivial
theorem d_Sd_enter_0 : decode prog_8_method_3_code 0 = .ok (.aload_n 0, 1) := by decide +kernel
theorem d_Sd_enter_1 : decode prog_8_method_3_code 1 = .ok (.getfield 28, 3) := by decide +kernel
theorem d_Sd_enter_4 : decode prog_8_method_3_code 4 = .ok (.bipush 8, 2) := by decide +kernel
theorem d_Sd_enter_6 : decode prog_8_method_3_code 6 = .ok (.if_icmp .ge 33, 3) := by decide +kernel
theorem d_Sd_enter_9 : decode prog_8_method_3_code 9 = .ok (.aload_n 0, 1) := by decide +kernel
theorem d_Sd_enter_10 : decode prog_8_method_3_code 10 = .ok (.getfield 9, 3) := by decide +kernel
theorem d_Sd_enter_13 : decode prog_8_method_3_code 13 = .ok (.aload_n 0, 1) := by decide +kernel
theorem d_Sd_enter_14 : decode prog_8_method_3_code 14 = .ok (.getfield 28, 3) := by decide +kernel
theorem d_Sd_enter_17 : decode prog_8_method_3_code 17 = .ok (.iload_n 1, 1) := by decide +kernel
theorem d_Sd_enter_18 : decode prog_8_method_3_code 18 = .ok (.iastore, 1) := by decide +kernel
theorem d_Sd_enter_19 : decode prog_8_method_3_code 19 = .ok (.aload_n 0, 1) := by decide +kernel
theorem d_Sd_enter_20 : decode prog_8_method_3_code 20 = .ok (.getfield 15, 3) := by decide +kernel
theorem d_Sd_enter_23 : decode prog_8_method_3_code 23 = .ok (.aload_n 0, 1) := by decide +kernel
theorem d_Sd_enter_24 : decode prog_8_method_3_code 24 = .ok (.getfield 28, 3) := by decide +kernel
theorem d_Sd_enter_27 : decode prog_8_method_3_code 27 = .ok (.iconst 0, 1) := by decide +kernel
theorem d_Sd_enter_28 : decode prog_8_method_3_code 28 = .ok (.iastore, 1) := by decide +kernel
theorem d_Sd_enter_29 : decode prog_8_method_3_code 29 = .ok (.aload_n 0, 1) := by decide +kernel
theorem d_Sd_enter_30 : decode prog_8_method_3_code 30 = .ok (.dup, 1) := by decide +kernel
theorem d_Sd_enter_31 : decode prog_8_method_3_code 31 = .ok (.getfield 28, 3) := by decide +kernel
theorem d_Sd_enter_34 : decode prog_8_method_3_code 34 = .ok (.iconst 1, 1) := by decide +kernel
theorem d_Sd_enter_35 : decode prog_8_method_3_code 35 = .ok (.iadd, 1) := by decide +kernel
theorem d_Sd_enter_36 : decode prog_8_method_3_code 36 = .ok (.putfield 28, 3) := by decide +kernel
theorem d_Sd_enter_39 : decode prog_8_method_3_code 39 = .ok (.return_, 1) := by decide +kernel
def tb_Sd_enter : List pm_I := [
  pm_aload 1 0,
  pm_geti 2 5 4,
  pm_const 3 8,
  pm_icmp 22 4 (fun a b => decide (b ≤ a)),
  pm_aload 5 0,
  pm_getr 6 5 1,
  pm_aload 7 0,
  pm_geti 8 5 4,
  pm_iload 9 1,
  pm_iast 10,
  pm_aload 11 0,
  pm_getr 12 5 2,
  pm_aload 13 0,
  pm_geti 14 5 4,
  pm_const 15 0,
  pm_iast 16,
  pm_aload 17 0,
  pm_dup 18,
  pm_geti 19 5 4,
  pm_const 20 1,
  pm_bin 21 (fun a b => a + b),
  pm_puti 22 5 4,
  pm_vret]
def bp_Sd_enter : List Nat := [0, 1, 4, 6, 9, 10, 13, 14, 17, 18, 19, 20, 23, 24, 27, 28, 29, 30, 31, 34, 35, 36, 39]
set_option maxRecDepth 100000 in
theorem sd_Sd_enter : pm_Sl prog_8_method_3_code 2 R_Sd "enter" (none) pm_Y (pm_b bp_Sd_enter) 0 tb_Sd_enter := by
  refine ⟨so_aloadn d_Sd_enter_0 rfl rfl, ?_⟩
  refine ⟨so_geti (ci := 5) (k := 4) rfl (by decide) rfl rfl fl_Sd_28 d_Sd_enter_1 rfl, ?_⟩
  refine ⟨so_const2 d_Sd_enter_4 (by decide) rfl, ?_⟩
  refine ⟨so_icmp_ge d_Sd_enter_6 rfl rfl, ?_⟩
  refine ⟨so_aloadn d_Sd_enter_9 rfl rfl, ?_⟩
  refine ⟨so_getr (ci := 5) (k := 1) rfl (by decide) rfl rfl fl_Sd_9 d_Sd_enter_10 rfl, ?_⟩
  refine ⟨so_aloadn d_Sd_enter_13 rfl rfl, ?_⟩
  refine ⟨so_geti (ci := 5) (k := 4) rfl (by decide) rfl rfl fl_Sd_28 d_Sd_enter_14 rfl, ?_⟩
  refine ⟨so_iloadn d_Sd_enter_17 rfl rfl, ?_⟩
  refine ⟨so_iast d_Sd_enter_18 rfl, ?_⟩
  refine ⟨so_aloadn d_Sd_enter_19 rfl rfl, ?_⟩
  refine ⟨so_getr (ci := 5) (k := 2) rfl (by decide) rfl rfl fl_Sd_15 d_Sd_enter_20 rfl, ?_⟩
  refine ⟨so_aloadn d_Sd_enter_23 rfl rfl, ?_⟩
  refine ⟨so_geti (ci := 5) (k := 4) rfl (by decide) rfl rfl fl_Sd_28 d_Sd_enter_24 rfl, ?_⟩
  refine ⟨so_const1 d_Sd_enter_27 (by decide) rfl, ?_⟩
  refine ⟨so_iast d_Sd_enter_28 rfl, ?_⟩
  refine ⟨so_aloadn d_Sd_enter_29 rfl rfl, ?_⟩
  refine ⟨so_dup d_Sd_enter_30 rfl, ?_⟩
  refine ⟨so_geti (ci := 5) (k := 4) rfl (by decide) rfl rfl fl_Sd_28 d_Sd_enter_31 rfl, ?_⟩
  refine ⟨so_const1 d_Sd_enter_34 (by decide) rfl, ?_⟩
  refine ⟨so_iadd d_Sd_enter_35 rfl, ?_⟩
  refine ⟨so_puti (ci := 5) (k := 4) rfl (by decide) rfl rfl (Or.inl ⟨rfl, fl_Sd_28⟩) d_Sd_enter_36 rfl, ?_⟩
  refine ⟨so_vret d_Sd_enter_39 rfl, ?_⟩
  exact trivial
theorem d_Sd_isDone_0 : decode prog_8_method_4_code 0 = .ok (.aload_n 0, 1) := by decide +kernel
theorem d_Sd_isDone_1 : decode prog_8_method_4_code 1 = .ok (.getfield 28, 3) := by decide +kernel
theorem d_Sd_isDone_4 : decode prog_8_method_4_code 4 = .ok (.ifCond .ne 7, 3) := by decide +kernel
theorem d_Sd_isDone_7 : decode prog_8_method_4_code 7 = .ok (.iconst 1, 1) := by decide +kernel
theorem d_Sd_isDone_8 : decode prog_8_method_4_code 8 = .ok (.goto 4, 3) := by decide +kernel
theorem d_Sd_isDone_11 : decode prog_8_method_4_code 11 = .ok (.iconst 0, 1) := by decide +kernel
theorem d_Sd_isDone_12 : decode prog_8_method_4_code 12 = .ok (.ireturn, 1) := by decide +kernel
def tb_Sd_isDone : List pm_I := [
  pm_aload 1 0,
  pm_geti 2 5 4,
  pm_if 5 3 (fun a => decide (a ≠ 0)),
  pm_const 4 1,
  pm_goto 6,
  pm_const 6 0,
  pm_zret]
def bp_Sd_isDone : List Nat := [0, 1, 4, 7, 8, 11, 12]
set_option maxRecDepth 100000 in
theorem sd_Sd_isDone : pm_Sl prog_8_method_4_code 1 R_Sd "isDone" (some .boolean) pm_Y (pm_b bp_Sd_isDone) 0 tb_Sd_isDone := by
  refine ⟨so_aloadn d_Sd_isDone_0 rfl rfl, ?_⟩
  refine ⟨so_geti (ci := 5) (k := 4) rfl (by decide) rfl rfl fl_Sd_28 d_Sd_isDone_1 rfl, ?_⟩
  refine ⟨so_if_ne d_Sd_isDone_4 rfl rfl, ?_⟩
  refine ⟨so_const1 d_Sd_isDone_7 (by decide) rfl, ?_⟩
  refine ⟨so_goto d_Sd_isDone_8 rfl, ?_⟩
  refine ⟨so_const1 d_Sd_isDone_11 (by decide) rfl, ?_⟩
  refine ⟨so_zret d_Sd_isDone_12 rfl, ?_⟩
  exact trivial
theorem d_Sd_moveTo_0 : decode prog_8_method_5_code 0 = .ok (.aload_n 0, 1) := by decide +kernel
theorem d_Sd_moveTo_1 : decode prog_8_method_5_code 1 = .ok (.getfield 15, 3) := by decide +kernel
theorem d_Sd_moveTo_4 : decode prog_8_method_5_code 4 = .ok (.aload_n 0, 1) := by decide +kernel
theorem d_Sd_moveTo_5 : decode prog_8_method_5_code 5 = .ok (.getfield 28, 3) := by decide +kernel
theorem d_Sd_moveTo_8 : decode prog_8_method_5_code 8 = .ok (.iconst 1, 1) := by decide +kernel
theorem d_Sd_moveTo_9 : decode prog_8_method_5_code 9 = .ok (.isub, 1) := by decide +kernel
theorem d_Sd_moveTo_10 : decode prog_8_method_5_code 10 = .ok (.iload_n 1, 1) := by decide +kernel
theorem d_Sd_moveTo_11 : decode prog_8_method_5_code 11 = .ok (.iastore, 1) := by decide +kernel
theorem d_Sd_moveTo_12 : decode prog_8_method_5_code 12 = .ok (.return_, 1) := by decide +kernel
def tb_Sd_moveTo : List pm_I := [
  pm_aload 1 0,
  pm_getr 2 5 2,
  pm_aload 3 0,
  pm_geti 4 5 4,
  pm_const 5 1,
  pm_bin 6 (fun a b => a - b),
  pm_iload 7 1,
  pm_iast 8,
  pm_vret]
def bp_Sd_moveTo : List Nat := [0, 1, 4, 5, 8, 9, 10, 11, 12]
set_option maxRecDepth 100000 in
theorem sd_Sd_moveTo : pm_Sl prog_8_method_5_code 2 R_Sd "moveTo" (none) pm_Y (pm_b bp_Sd_moveTo) 0 tb_Sd_moveTo := by
  refine ⟨so_aloadn d_Sd_moveTo_0 rfl rfl, ?_⟩
  refine ⟨so_getr (ci := 5) (k := 2) rfl (by decide) rfl rfl fl_Sd_15 d_Sd_moveTo_1 rfl, ?_⟩
  refine ⟨so_aloadn d_Sd_moveTo_4 rfl rfl, ?_⟩
  refine ⟨so_geti (ci := 5) (k := 4) rfl (by decide) rfl rfl fl_Sd_28 d_Sd_moveTo_5 rfl, ?_⟩
  refine ⟨so_const1 d_Sd_moveTo_8 (by decide) rfl, ?_⟩
  refine ⟨so_isub d_Sd_moveTo_9 rfl, ?_⟩
  refine ⟨so_iloadn d_Sd_moveTo_10 rfl rfl, ?_⟩
  refine ⟨so_iast d_Sd_moveTo_11 rfl, ?_⟩
  refine ⟨so_vret d_Sd_moveTo_12 rfl, ?_⟩
  exact trivial
theorem d_Sd_learn_0 : decode prog_8_method_6_code 0 = .ok (.iconst 0, 1) := by decide +kernel
theorem d_Sd_learn_1 : decode prog_8_method_6_code 1 = .ok (.istore_n 2, 1) := by decide +kernel
theorem d_Sd_learn_2 : decode prog_8_method_6_code 2 = .ok (.iload_n 2, 1) := by decide +kernel
theorem d_Sd_learn_3 : decode prog_8_method_6_code 3 = .ok (.bipush 6, 2) := by decide +kernel
theorem d_Sd_learn_5 : decode prog_8_method_6_code 5 = .ok (.if_icmp .ge 27, 3) := by decide +kernel
theorem d_Sd_learn_8 : decode prog_8_method_6_code 8 = .ok (.aload_n 0, 1) := by decide +kernel
theorem d_Sd_learn_9 : decode prog_8_method_6_code 9 = .ok (.getfield 18, 3) := by decide +kernel
theorem d_Sd_learn_12 : decode prog_8_method_6_code 12 = .ok (.iload_n 2, 1) := by decide +kernel
theorem d_Sd_learn_13 : decode prog_8_method_6_code 13 = .ok (.aload_n 0, 1) := by decide +kernel
theorem d_Sd_learn_14 : decode prog_8_method_6_code 14 = .ok (.getfield 18, 3) := by decide +kernel
theorem d_Sd_learn_17 : decode prog_8_method_6_code 17 = .ok (.iload_n 2, 1) := by decide +kernel
theorem d_Sd_learn_18 : decode prog_8_method_6_code 18 = .ok (.iaload, 1) := by decide +kernel
theorem d_Sd_learn_19 : decode prog_8_method_6_code 19 = .ok (.aload_n 1, 1) := by decide +kernel
theorem d_Sd_learn_20 : decode prog_8_method_6_code 20 = .ok (.iload_n 2, 1) := by decide +kernel
theorem d_Sd_learn_21 : decode prog_8_method_6_code 21 = .ok (.iaload, 1) := by decide +kernel
theorem d_Sd_learn_22 : decode prog_8_method_6_code 22 = .ok (.invokestatic 35, 3) := by decide +kernel
theorem d_Sd_learn_25 : decode prog_8_method_6_code 25 = .ok (.iastore, 1) := by decide +kernel
theorem d_Sd_learn_26 : decode prog_8_method_6_code 26 = .ok (.iinc 2 1, 3) := by decide +kernel
theorem d_Sd_learn_29 : decode prog_8_method_6_code 29 = .ok (.goto (-27), 3) := by decide +kernel
theorem d_Sd_learn_32 : decode prog_8_method_6_code 32 = .ok (.return_, 1) := by decide +kernel
def tb_Sd_learn : List pm_I := [
  pm_const 1 0,
  pm_istore 2 2,
  pm_iload 3 2,
  pm_const 4 6,
  pm_icmp 19 5 (fun a b => decide (b ≤ a)),
  pm_aload 6 0,
  pm_getr 7 5 3,
  pm_iload 8 2,
  pm_aload 9 0,
  pm_getr 10 5 3,
  pm_iload 11 2,
  pm_iald 12 0,
  pm_aload 13 1,
  pm_iload 14 2,
  pm_iald 15 0,
  pm_max 16,
  pm_iast 17,
  pm_iinc 18 2 1,
  pm_goto 2,
  pm_vret]
def bp_Sd_learn : List Nat := [0, 1, 2, 3, 5, 8, 9, 12, 13, 14, 17, 18, 19, 20, 21, 22, 25, 26, 29, 32]
set_option maxRecDepth 100000 in
theorem sd_Sd_learn : pm_Sl prog_8_method_6_code 3 R_Sd "learn" (none) pm_Y (pm_b bp_Sd_learn) 0 tb_Sd_learn := by
  refine ⟨so_const1 d_Sd_learn_0 (by decide) rfl, ?_⟩
  refine ⟨so_istoren d_Sd_learn_1 rfl (by decide) rfl, ?_⟩
  refine ⟨so_iloadn d_Sd_learn_2 rfl rfl, ?_⟩
  refine ⟨so_const2 d_Sd_learn_3 (by decide) rfl, ?_⟩
  refine ⟨so_icmp_ge d_Sd_learn_5 rfl rfl, ?_⟩
  refine ⟨so_aloadn d_Sd_learn_8 rfl rfl, ?_⟩
  refine ⟨so_getr (ci := 5) (k := 3) rfl (by decide) rfl rfl fl_Sd_18 d_Sd_learn_9 rfl, ?_⟩
  refine ⟨so_iloadn d_Sd_learn_12 rfl rfl, ?_⟩
  refine ⟨so_aloadn d_Sd_learn_13 rfl rfl, ?_⟩
  refine ⟨so_getr (ci := 5) (k := 3) rfl (by decide) rfl rfl fl_Sd_18 d_Sd_learn_14 rfl, ?_⟩
  refine ⟨so_iloadn d_Sd_learn_17 rfl rfl, ?_⟩
  refine ⟨so_iald d_Sd_learn_18 rfl, ?_⟩
  refine ⟨so_aloadn d_Sd_learn_19 rfl rfl, ?_⟩
  refine ⟨so_iloadn d_Sd_learn_20 rfl rfl, ?_⟩
  refine ⟨so_iald d_Sd_learn_21 rfl, ?_⟩
  refine ⟨so_max (pm_in1 (List.mem_append_right _ (List.mem_append_left _ (List.mem_of_getElem? (i := 136) rfl)))) (pm_in1 (List.mem_append_right _ (List.mem_append_left _ (List.mem_of_getElem? (i := 137) rfl)))) (pm_in1 (List.mem_append_left _ (List.mem_of_getElem? (i := 11) rfl))) (pm_in1 (List.mem_append_right _ (List.mem_append_left _ (List.mem_of_getElem? (i := 138) rfl)))) d_Sd_learn_22 rfl, ?_⟩
  refine ⟨so_iast d_Sd_learn_25 rfl, ?_⟩
  refine ⟨so_iinc d_Sd_learn_26 (by decide) (by decide) rfl, ?_⟩
  refine ⟨so_goto d_Sd_learn_29 rfl, ?_⟩
  refine ⟨so_vret d_Sd_learn_32 rfl, ?_⟩
  exact trivial
theorem d_Lk_init_0 : decode prog_4_method_1_code 0 = .ok (.aload_n 0, 1) := by decide +kernel
theorem d_Lk_init_1 : decode prog_4_method_1_code 1 = .ok (.invokespecial 3, 3) := by decide +kernel
theorem d_Lk_init_4 : decode prog_4_method_1_code 4 = .ok (.aload_n 0, 1) := by decide +kernel
theorem d_Lk_init_5 : decode prog_4_method_1_code 5 = .ok (.bipush 6, 2) := by decide +kernel
theorem d_Lk_init_7 : decode prog_4_method_1_code 7 = .ok (.newarray .int, 2) := by decide +kernel
theorem d_Lk_init_9 : decode prog_4_method_1_code 9 = .ok (.putfield 9, 3) := by decide +kernel
theorem d_Lk_init_12 : decode prog_4_method_1_code 12 = .ok (.aload_n 0, 1) := by decide +kernel
theorem d_Lk_init_13 : decode prog_4_method_1_code 13 = .ok (.iconst (-1), 1) := by decide +kernel
theorem d_Lk_init_14 : decode prog_4_method_1_code 14 = .ok (.putfield 15, 3) := by decide +kernel
theorem d_Lk_init_17 : decode prog_4_method_1_code 17 = .ok (.return_, 1) := by decide +kernel
def tb_Lk_init : List pm_I := [
  pm_aload 1 0,
  pm_oinit 2,
  pm_aload 3 0,
  pm_const 4 6,
  pm_newa 5 0,
  pm_putr 6 6 0,
  pm_aload 7 0,
  pm_const 8 (-1),
  pm_puti 9 6 1,
  pm_vret]
def bp_Lk_init : List Nat := [0, 1, 4, 5, 7, 9, 12, 13, 14, 17]
set_option maxRecDepth 100000 in
theorem sd_Lk_init : pm_Sl prog_4_method_1_code 1 R_Lk "<init>" (none) pm_Y (pm_b bp_Lk_init) 0 tb_Lk_init := by
  refine ⟨so_aloadn d_Lk_init_0 rfl rfl, ?_⟩
  refine ⟨so_oinit (pm_in1 (List.mem_append_left _ (List.mem_of_getElem? (i := 142) rfl))) (pm_in1 (List.mem_append_left _ (List.mem_of_getElem? (i := 19) rfl))) (pm_in1 (List.mem_append_left _ (List.mem_of_getElem? (i := 20) rfl))) d_Lk_init_1 rfl, ?_⟩
  refine ⟨so_aloadn d_Lk_init_4 rfl rfl, ?_⟩
  refine ⟨so_const2 d_Lk_init_5 (by decide) rfl, ?_⟩
  refine ⟨so_newi d_Lk_init_7 rfl, ?_⟩
  refine ⟨so_putr (ci := 6) (k := 0) rfl (by decide) rfl rfl (Or.inr ⟨rfl, rfl, rfl, pm_in1 (List.mem_append_left _ (List.mem_of_getElem? (i := 143) rfl))⟩) d_Lk_init_9 rfl, ?_⟩
  refine ⟨so_aloadn d_Lk_init_12 rfl rfl, ?_⟩
  refine ⟨so_const1 d_Lk_init_13 (by decide) rfl, ?_⟩
  refine ⟨so_puti (ci := 6) (k := 1) rfl (by decide) rfl rfl (Or.inl ⟨rfl, fl_Lk_15⟩) d_Lk_init_14 rfl, ?_⟩
  refine ⟨so_vret d_Lk_init_17 rfl, ?_⟩
  exact trivial
theorem d_Lk_clear_0 : decode prog_4_method_2_code 0 = .ok (.aload_n 0, 1) := by decide +kernel
theorem d_Lk_clear_1 : decode prog_4_method_2_code 1 = .ok (.getfield 9, 3) := by decide +kernel
theorem d_Lk_clear_4 : decode prog_4_method_2_code 4 = .ok (.iconst 0, 1) := by decide +kernel
theorem d_Lk_clear_5 : decode prog_4_method_2_code 5 = .ok (.invokestatic 19, 3) := by decide +kernel
theorem d_Lk_clear_8 : decode prog_4_method_2_code 8 = .ok (.aload_n 0, 1) := by decide +kernel
theorem d_Lk_clear_9 : decode prog_4_method_2_code 9 = .ok (.iconst (-1), 1) := by decide +kernel
theorem d_Lk_clear_10 : decode prog_4_method_2_code 10 = .ok (.putfield 15, 3) := by decide +kernel
theorem d_Lk_clear_13 : decode prog_4_method_2_code 13 = .ok (.aload_n 0, 1) := by decide +kernel
theorem d_Lk_clear_14 : decode prog_4_method_2_code 14 = .ok (.iconst 0, 1) := by decide +kernel
theorem d_Lk_clear_15 : decode prog_4_method_2_code 15 = .ok (.putfield 25, 3) := by decide +kernel
theorem d_Lk_clear_18 : decode prog_4_method_2_code 18 = .ok (.return_, 1) := by decide +kernel
def tb_Lk_clear : List pm_I := [
  pm_aload 1 0,
  pm_getr 2 6 0,
  pm_const 3 0,
  pm_calls 4 103 2,
  pm_aload 5 0,
  pm_const 6 (-1),
  pm_puti 7 6 1,
  pm_aload 8 0,
  pm_const 9 0,
  pm_puti 10 6 2,
  pm_vret]
def bp_Lk_clear : List Nat := [0, 1, 4, 5, 8, 9, 10, 13, 14, 15, 18]
set_option maxRecDepth 100000 in
theorem sd_Lk_clear : pm_Sl prog_4_method_2_code 1 R_Lk "clear" (none) pm_Y (pm_b bp_Lk_clear) 0 tb_Lk_clear := by
  refine ⟨so_aloadn d_Lk_clear_0 rfl rfl, ?_⟩
  refine ⟨so_getr (ci := 6) (k := 0) rfl (by decide) rfl rfl fl_Lk_9 d_Lk_clear_1 rfl, ?_⟩
  refine ⟨so_const1 d_Lk_clear_4 (by decide) rfl, ?_⟩
  refine ⟨so_calls rfl mc_Ar_fill mi_Ar mt_Ar_fill ml_Lk_19 yd_Ar_fill (by decide) d_Lk_clear_5 rfl, ?_⟩
  refine ⟨so_aloadn d_Lk_clear_8 rfl rfl, ?_⟩
  refine ⟨so_const1 d_Lk_clear_9 (by decide) rfl, ?_⟩
  refine ⟨so_puti (ci := 6) (k := 1) rfl (by decide) rfl rfl (Or.inl ⟨rfl, fl_Lk_15⟩) d_Lk_clear_10 rfl, ?_⟩
  refine ⟨so_aloadn d_Lk_clear_13 rfl rfl, ?_⟩
  refine ⟨so_const1 d_Lk_clear_14 (by decide) rfl, ?_⟩
  refine ⟨so_puti (ci := 6) (k := 2) rfl (by decide) rfl rfl (Or.inl ⟨rfl, fl_Lk_25⟩) d_Lk_clear_15 rfl, ?_⟩
  refine ⟨so_vret d_Lk_clear_18 rfl, ?_⟩
  exact trivial
theorem d_Lk_refuses_0 : decode prog_4_method_3_code 0 = .ok (.aload_n 0, 1) := by decide +kernel
theorem d_Lk_refuses_1 : decode prog_4_method_3_code 1 = .ok (.getfield 15, 3) := by decide +kernel
theorem d_Lk_refuses_4 : decode prog_4_method_3_code 4 = .ok (.iconst (-1), 1) := by decide +kernel
theorem d_Lk_refuses_5 : decode prog_4_method_3_code 5 = .ok (.if_icmp .eq 18, 3) := by decide +kernel
theorem d_Lk_refuses_8 : decode prog_4_method_3_code 8 = .ok (.aload_n 0, 1) := by decide +kernel
theorem d_Lk_refuses_9 : decode prog_4_method_3_code 9 = .ok (.getfield 15, 3) := by decide +kernel
theorem d_Lk_refuses_12 : decode prog_4_method_3_code 12 = .ok (.aload_n 1, 1) := by decide +kernel
theorem d_Lk_refuses_13 : decode prog_4_method_3_code 13 = .ok (.getfield 28, 3) := by decide +kernel
theorem d_Lk_refuses_16 : decode prog_4_method_3_code 16 = .ok (.if_icmp .eq 7, 3) := by decide +kernel
theorem d_Lk_refuses_19 : decode prog_4_method_3_code 19 = .ok (.iconst 1, 1) := by decide +kernel
theorem d_Lk_refuses_20 : decode prog_4_method_3_code 20 = .ok (.goto 4, 3) := by decide +kernel
theorem d_Lk_refuses_23 : decode prog_4_method_3_code 23 = .ok (.iconst 0, 1) := by decide +kernel
theorem d_Lk_refuses_24 : decode prog_4_method_3_code 24 = .ok (.ireturn, 1) := by decide +kernel
def tb_Lk_refuses : List pm_I := [
  pm_aload 1 0,
  pm_geti 2 6 1,
  pm_const 3 (-1),
  pm_icmp 11 4 (fun a b => decide (a = b)),
  pm_aload 5 0,
  pm_geti 6 6 1,
  pm_aload 7 1,
  pm_geti 8 5 0,
  pm_icmp 11 9 (fun a b => decide (a = b)),
  pm_const 10 1,
  pm_goto 12,
  pm_const 12 0,
  pm_zret]
def bp_Lk_refuses : List Nat := [0, 1, 4, 5, 8, 9, 12, 13, 16, 19, 20, 23, 24]
set_option maxRecDepth 100000 in
theorem sd_Lk_refuses : pm_Sl prog_4_method_3_code 2 R_Lk "refuses" (some .boolean) pm_Y (pm_b bp_Lk_refuses) 0 tb_Lk_refuses := by
  refine ⟨so_aloadn d_Lk_refuses_0 rfl rfl, ?_⟩
  refine ⟨so_geti (ci := 6) (k := 1) rfl (by decide) rfl rfl fl_Lk_15 d_Lk_refuses_1 rfl, ?_⟩
  refine ⟨so_const1 d_Lk_refuses_4 (by decide) rfl, ?_⟩
  refine ⟨so_icmp_eq d_Lk_refuses_5 rfl rfl, ?_⟩
  refine ⟨so_aloadn d_Lk_refuses_8 rfl rfl, ?_⟩
  refine ⟨so_geti (ci := 6) (k := 1) rfl (by decide) rfl rfl fl_Lk_15 d_Lk_refuses_9 rfl, ?_⟩
  refine ⟨so_aloadn d_Lk_refuses_12 rfl rfl, ?_⟩
  refine ⟨so_geti (ci := 5) (k := 0) rfl (by decide) rfl rfl fl_Lk_28 d_Lk_refuses_13 rfl, ?_⟩
  refine ⟨so_icmp_eq d_Lk_refuses_16 rfl rfl, ?_⟩
  refine ⟨so_const1 d_Lk_refuses_19 (by decide) rfl, ?_⟩
  refine ⟨so_goto d_Lk_refuses_20 rfl, ?_⟩
  refine ⟨so_const1 d_Lk_refuses_23 (by decide) rfl, ?_⟩
  refine ⟨so_zret d_Lk_refuses_24 rfl, ?_⟩
  exact trivial
theorem d_Lk_take_0 : decode prog_4_method_4_code 0 = .ok (.aload_n 0, 1) := by decide +kernel
theorem d_Lk_take_1 : decode prog_4_method_4_code 1 = .ok (.getfield 15, 3) := by decide +kernel
theorem d_Lk_take_4 : decode prog_4_method_4_code 4 = .ok (.iconst (-1), 1) := by decide +kernel
theorem d_Lk_take_5 : decode prog_4_method_4_code 5 = .ok (.if_icmp .ne 19, 3) := by decide +kernel
theorem d_Lk_take_8 : decode prog_4_method_4_code 8 = .ok (.aload_n 1, 1) := by decide +kernel
theorem d_Lk_take_9 : decode prog_4_method_4_code 9 = .ok (.aload_n 0, 1) := by decide +kernel
theorem d_Lk_take_10 : decode prog_4_method_4_code 10 = .ok (.getfield 9, 3) := by decide +kernel
theorem d_Lk_take_13 : decode prog_4_method_4_code 13 = .ok (.invokevirtual 33, 3) := by decide +kernel
theorem d_Lk_take_16 : decode prog_4_method_4_code 16 = .ok (.aload_n 0, 1) := by decide +kernel
theorem d_Lk_take_17 : decode prog_4_method_4_code 17 = .ok (.aload_n 1, 1) := by decide +kernel
theorem d_Lk_take_18 : decode prog_4_method_4_code 18 = .ok (.getfield 28, 3) := by decide +kernel
theorem d_Lk_take_21 : decode prog_4_method_4_code 21 = .ok (.putfield 15, 3) := by decide +kernel
theorem d_Lk_take_24 : decode prog_4_method_4_code 24 = .ok (.aload_n 0, 1) := by decide +kernel
theorem d_Lk_take_25 : decode prog_4_method_4_code 25 = .ok (.dup, 1) := by decide +kernel
theorem d_Lk_take_26 : decode prog_4_method_4_code 26 = .ok (.getfield 25, 3) := by decide +kernel
theorem d_Lk_take_29 : decode prog_4_method_4_code 29 = .ok (.iconst 1, 1) := by decide +kernel
theorem d_Lk_take_30 : decode prog_4_method_4_code 30 = .ok (.iadd, 1) := by decide +kernel
theorem d_Lk_take_31 : decode prog_4_method_4_code 31 = .ok (.putfield 25, 3) := by decide +kernel
theorem d_Lk_take_34 : decode prog_4_method_4_code 34 = .ok (.return_, 1) := by decide +kernel
def tb_Lk_take : List pm_I := [
  pm_aload 1 0,
  pm_geti 2 6 1,
  pm_const 3 (-1),
  pm_icmp 12 4 (fun a b => decide (a ≠ b)),
  pm_aload 5 1,
  pm_aload 6 0,
  pm_getr 7 6 0,
  pm_callv 8 60 2 5,
  pm_aload 9 0,
  pm_aload 10 1,
  pm_geti 11 5 0,
  pm_puti 12 6 1,
  pm_aload 13 0,
  pm_dup 14,
  pm_geti 15 6 2,
  pm_const 16 1,
  pm_bin 17 (fun a b => a + b),
  pm_puti 18 6 2,
  pm_vret]
def bp_Lk_take : List Nat := [0, 1, 4, 5, 8, 9, 10, 13, 16, 17, 18, 21, 24, 25, 26, 29, 30, 31, 34]
set_option maxRecDepth 100000 in
theorem sd_Lk_take : pm_Sl prog_4_method_4_code 2 R_Lk "take" (none) pm_Y (pm_b bp_Lk_take) 0 tb_Lk_take := by
  refine ⟨so_aloadn d_Lk_take_0 rfl rfl, ?_⟩
  refine ⟨so_geti (ci := 6) (k := 1) rfl (by decide) rfl rfl fl_Lk_15 d_Lk_take_1 rfl, ?_⟩
  refine ⟨so_const1 d_Lk_take_4 (by decide) rfl, ?_⟩
  refine ⟨so_icmp_ne d_Lk_take_5 rfl rfl, ?_⟩
  refine ⟨so_aloadn d_Lk_take_8 rfl rfl, ?_⟩
  refine ⟨so_aloadn d_Lk_take_9 rfl rfl, ?_⟩
  refine ⟨so_getr (ci := 6) (k := 0) rfl (by decide) rfl rfl fl_Lk_9 d_Lk_take_10 rfl, ?_⟩
  refine ⟨so_callv (ci := 5) rfl rfl mc_Sd_learn mi_Sd mj_Sd_learn ms_Sd_learn ml_Lk_33 yd_Sd_learn (by decide) d_Lk_take_13 rfl, ?_⟩
  refine ⟨so_aloadn d_Lk_take_16 rfl rfl, ?_⟩
  refine ⟨so_aloadn d_Lk_take_17 rfl rfl, ?_⟩
  refine ⟨so_geti (ci := 5) (k := 0) rfl (by decide) rfl rfl fl_Lk_28 d_Lk_take_18 rfl, ?_⟩
  refine ⟨so_puti (ci := 6) (k := 1) rfl (by decide) rfl rfl (Or.inl ⟨rfl, fl_Lk_15⟩) d_Lk_take_21 rfl, ?_⟩
  refine ⟨so_aloadn d_Lk_take_24 rfl rfl, ?_⟩
  refine ⟨so_dup d_Lk_take_25 rfl, ?_⟩
  refine ⟨so_geti (ci := 6) (k := 2) rfl (by decide) rfl rfl fl_Lk_25 d_Lk_take_26 rfl, ?_⟩
  refine ⟨so_const1 d_Lk_take_29 (by decide) rfl, ?_⟩
  refine ⟨so_iadd d_Lk_take_30 rfl, ?_⟩
  refine ⟨so_puti (ci := 6) (k := 2) rfl (by decide) rfl rfl (Or.inl ⟨rfl, fl_Lk_25⟩) d_Lk_take_31 rfl, ?_⟩
  refine ⟨so_vret d_Lk_take_34 rfl, ?_⟩
  exact trivial
theorem d_Lk_release_0 : decode prog_4_method_5_code 0 = .ok (.aload_n 0, 1) := by decide +kernel
theorem d_Lk_release_1 : decode prog_4_method_5_code 1 = .ok (.dup, 1) := by decide +kernel
theorem d_Lk_release_2 : decode prog_4_method_5_code 2 = .ok (.getfield 25, 3) := by decide +kernel
theorem d_Lk_release_5 : decode prog_4_method_5_code 5 = .ok (.iconst 1, 1) := by decide +kernel
theorem d_Lk_release_6 : decode prog_4_method_5_code 6 = .ok (.isub, 1) := by decide +kernel
theorem d_Lk_release_7 : decode prog_4_method_5_code 7 = .ok (.putfield 25, 3) := by decide +kernel
theorem d_Lk_release_10 : decode prog_4_method_5_code 10 = .ok (.aload_n 0, 1) := by decide +kernel
theorem d_Lk_release_11 : decode prog_4_method_5_code 11 = .ok (.getfield 25, 3) := by decide +kernel
theorem d_Lk_release_14 : decode prog_4_method_5_code 14 = .ok (.ifCond .ne 23, 3) := by decide +kernel
theorem d_Lk_release_17 : decode prog_4_method_5_code 17 = .ok (.aload_n 0, 1) := by decide +kernel
theorem d_Lk_release_18 : decode prog_4_method_5_code 18 = .ok (.iconst (-1), 1) := by decide +kernel
theorem d_Lk_release_19 : decode prog_4_method_5_code 19 = .ok (.putfield 15, 3) := by decide +kernel
theorem d_Lk_release_22 : decode prog_4_method_5_code 22 = .ok (.aload_n 1, 1) := by decide +kernel
theorem d_Lk_release_23 : decode prog_4_method_5_code 23 = .ok (.getfield 37, 3) := by decide +kernel
theorem d_Lk_release_26 : decode prog_4_method_5_code 26 = .ok (.iconst 0, 1) := by decide +kernel
theorem d_Lk_release_27 : decode prog_4_method_5_code 27 = .ok (.aload_n 0, 1) := by decide +kernel
theorem d_Lk_release_28 : decode prog_4_method_5_code 28 = .ok (.getfield 9, 3) := by decide +kernel
theorem d_Lk_release_31 : decode prog_4_method_5_code 31 = .ok (.iconst 0, 1) := by decide +kernel
theorem d_Lk_release_32 : decode prog_4_method_5_code 32 = .ok (.bipush 6, 2) := by decide +kernel
theorem d_Lk_release_34 : decode prog_4_method_5_code 34 = .ok (.invokestatic 38, 3) := by decide +kernel
theorem d_Lk_release_37 : decode prog_4_method_5_code 37 = .ok (.return_, 1) := by decide +kernel
def tb_Lk_release : List pm_I := [
  pm_aload 1 0,
  pm_dup 2,
  pm_geti 3 6 2,
  pm_const 4 1,
  pm_bin 5 (fun a b => a - b),
  pm_puti 6 6 2,
  pm_aload 7 0,
  pm_geti 8 6 2,
  pm_if 20 9 (fun a => decide (a ≠ 0)),
  pm_aload 10 0,
  pm_const 11 (-1),
  pm_puti 12 6 1,
  pm_aload 13 1,
  pm_getr 14 5 3,
  pm_const 15 0,
  pm_aload 16 0,
  pm_getr 17 6 0,
  pm_const 18 0,
  pm_const 19 6,
  pm_copy 20,
  pm_vret]
def bp_Lk_release : List Nat := [0, 1, 2, 5, 6, 7, 10, 11, 14, 17, 18, 19, 22, 23, 26, 27, 28, 31, 32, 34, 37]
set_option maxRecDepth 100000 in
theorem sd_Lk_release : pm_Sl prog_4_method_5_code 2 R_Lk "release" (none) pm_Y (pm_b bp_Lk_release) 0 tb_Lk_release := by
  refine ⟨so_aloadn d_Lk_release_0 rfl rfl, ?_⟩
  refine ⟨so_dup d_Lk_release_1 rfl, ?_⟩
  refine ⟨so_geti (ci := 6) (k := 2) rfl (by decide) rfl rfl fl_Lk_25 d_Lk_release_2 rfl, ?_⟩
  refine ⟨so_const1 d_Lk_release_5 (by decide) rfl, ?_⟩
  refine ⟨so_isub d_Lk_release_6 rfl, ?_⟩
  refine ⟨so_puti (ci := 6) (k := 2) rfl (by decide) rfl rfl (Or.inl ⟨rfl, fl_Lk_25⟩) d_Lk_release_7 rfl, ?_⟩
  refine ⟨so_aloadn d_Lk_release_10 rfl rfl, ?_⟩
  refine ⟨so_geti (ci := 6) (k := 2) rfl (by decide) rfl rfl fl_Lk_25 d_Lk_release_11 rfl, ?_⟩
  refine ⟨so_if_ne d_Lk_release_14 rfl rfl, ?_⟩
  refine ⟨so_aloadn d_Lk_release_17 rfl rfl, ?_⟩
  refine ⟨so_const1 d_Lk_release_18 (by decide) rfl, ?_⟩
  refine ⟨so_puti (ci := 6) (k := 1) rfl (by decide) rfl rfl (Or.inl ⟨rfl, fl_Lk_15⟩) d_Lk_release_19 rfl, ?_⟩
  refine ⟨so_aloadn d_Lk_release_22 rfl rfl, ?_⟩
  refine ⟨so_getr (ci := 5) (k := 3) rfl (by decide) rfl rfl fl_Lk_37 d_Lk_release_23 rfl, ?_⟩
  refine ⟨so_const1 d_Lk_release_26 (by decide) rfl, ?_⟩
  refine ⟨so_aloadn d_Lk_release_27 rfl rfl, ?_⟩
  refine ⟨so_getr (ci := 6) (k := 0) rfl (by decide) rfl rfl fl_Lk_9 d_Lk_release_28 rfl, ?_⟩
  refine ⟨so_const1 d_Lk_release_31 (by decide) rfl, ?_⟩
  refine ⟨so_const2 d_Lk_release_32 (by decide) rfl, ?_⟩
  refine ⟨so_copy (pm_in1 (List.mem_append_right _ (List.mem_append_left _ (List.mem_of_getElem? (i := 147) rfl)))) (pm_in1 (List.mem_append_right _ (List.mem_append_left _ (List.mem_of_getElem? (i := 149) rfl)))) (pm_in1 (List.mem_append_right _ (List.mem_append_left _ (List.mem_of_getElem? (i := 148) rfl)))) (pm_in1 (List.mem_append_left _ (List.mem_of_getElem? (i := 12) rfl))) d_Lk_release_34 rfl, ?_⟩
  refine ⟨so_vret d_Lk_release_37 rfl, ?_⟩
  exact trivial
theorem d_Ce_init_0 : decode prog_3_method_1_code 0 = .ok (.aload_n 0, 1) := by decide +kernel
theorem d_Ce_init_1 : decode prog_3_method_1_code 1 = .ok (.invokespecial 3, 3) := by decide +kernel
theorem d_Ce_init_4 : decode prog_3_method_1_code 4 = .ok (.aload_n 0, 1) := by decide +kernel
theorem d_Ce_init_5 : decode prog_3_method_1_code 5 = .ok (.bipush 6, 2) := by decide +kernel
theorem d_Ce_init_7 : decode prog_3_method_1_code 7 = .ok (.newarray .int, 2) := by decide +kernel
theorem d_Ce_init_9 : decode prog_3_method_1_code 9 = .ok (.putfield 9, 3) := by decide +kernel
theorem d_Ce_init_12 : decode prog_3_method_1_code 12 = .ok (.aload_n 0, 1) := by decide +kernel
theorem d_Ce_init_13 : decode prog_3_method_1_code 13 = .ok (.bipush 6, 2) := by decide +kernel
theorem d_Ce_init_15 : decode prog_3_method_1_code 15 = .ok (.newarray .int, 2) := by decide +kernel
theorem d_Ce_init_17 : decode prog_3_method_1_code 17 = .ok (.putfield 15, 3) := by decide +kernel
theorem d_Ce_init_20 : decode prog_3_method_1_code 20 = .ok (.return_, 1) := by decide +kernel
def tb_Ce_init : List pm_I := [
  pm_aload 1 0,
  pm_oinit 2,
  pm_aload 3 0,
  pm_const 4 6,
  pm_newa 5 0,
  pm_putr 6 7 0,
  pm_aload 7 0,
  pm_const 8 6,
  pm_newa 9 0,
  pm_putr 10 7 1,
  pm_vret]
def bp_Ce_init : List Nat := [0, 1, 4, 5, 7, 9, 12, 13, 15, 17, 20]
set_option maxRecDepth 100000 in
theorem sd_Ce_init : pm_Sl prog_3_method_1_code 1 R_Ce "<init>" (none) pm_Y (pm_b bp_Ce_init) 0 tb_Ce_init := by
  refine ⟨so_aloadn d_Ce_init_0 rfl rfl, ?_⟩
  refine ⟨so_oinit (pm_in1 (List.mem_append_left _ (List.mem_of_getElem? (i := 158) rfl))) (pm_in1 (List.mem_append_left _ (List.mem_of_getElem? (i := 19) rfl))) (pm_in1 (List.mem_append_left _ (List.mem_of_getElem? (i := 20) rfl))) d_Ce_init_1 rfl, ?_⟩
  refine ⟨so_aloadn d_Ce_init_4 rfl rfl, ?_⟩
  refine ⟨so_const2 d_Ce_init_5 (by decide) rfl, ?_⟩
  refine ⟨so_newi d_Ce_init_7 rfl, ?_⟩
  refine ⟨so_putr (ci := 7) (k := 0) rfl (by decide) rfl rfl (Or.inr ⟨rfl, rfl, rfl, pm_in1 (List.mem_append_left _ (List.mem_of_getElem? (i := 159) rfl))⟩) d_Ce_init_9 rfl, ?_⟩
  refine ⟨so_aloadn d_Ce_init_12 rfl rfl, ?_⟩
  refine ⟨so_const2 d_Ce_init_13 (by decide) rfl, ?_⟩
  refine ⟨so_newi d_Ce_init_15 rfl, ?_⟩
  refine ⟨so_putr (ci := 7) (k := 1) rfl (by decide) rfl rfl (Or.inr ⟨rfl, rfl, rfl, pm_in1 (List.mem_append_left _ (List.mem_of_getElem? (i := 161) rfl))⟩) d_Ce_init_17 rfl, ?_⟩
  refine ⟨so_vret d_Ce_init_20 rfl, ?_⟩
  exact trivial
theorem d_Ce_clear_0 : decode prog_3_method_2_code 0 = .ok (.aload_n 0, 1) := by decide +kernel
theorem d_Ce_clear_1 : decode prog_3_method_2_code 1 = .ok (.getfield 9, 3) := by decide +kernel
theorem d_Ce_clear_4 : decode prog_3_method_2_code 4 = .ok (.iconst 0, 1) := by decide +kernel
theorem d_Ce_clear_5 : decode prog_3_method_2_code 5 = .ok (.invokestatic 18, 3) := by decide +kernel
theorem d_Ce_clear_8 : decode prog_3_method_2_code 8 = .ok (.aload_n 0, 1) := by decide +kernel
theorem d_Ce_clear_9 : decode prog_3_method_2_code 9 = .ok (.getfield 15, 3) := by decide +kernel
theorem d_Ce_clear_12 : decode prog_3_method_2_code 12 = .ok (.iconst 0, 1) := by decide +kernel
theorem d_Ce_clear_13 : decode prog_3_method_2_code 13 = .ok (.invokestatic 18, 3) := by decide +kernel
theorem d_Ce_clear_16 : decode prog_3_method_2_code 16 = .ok (.aload_n 0, 1) := by decide +kernel
theorem d_Ce_clear_17 : decode prog_3_method_2_code 17 = .ok (.iconst 0, 1) := by decide +kernel
theorem d_Ce_clear_18 : decode prog_3_method_2_code 18 = .ok (.putfield 24, 3) := by decide +kernel
theorem d_Ce_clear_21 : decode prog_3_method_2_code 21 = .ok (.return_, 1) := by decide +kernel
def tb_Ce_clear : List pm_I := [
  pm_aload 1 0,
  pm_getr 2 7 0,
  pm_const 3 0,
  pm_calls 4 103 2,
  pm_aload 5 0,
  pm_getr 6 7 1,
  pm_const 7 0,
  pm_calls 8 103 2,
  pm_aload 9 0,
  pm_const 10 0,
  pm_puti 11 7 2,
  pm_vret]
def bp_Ce_clear : List Nat := [0, 1, 4, 5, 8, 9, 12, 13, 16, 17, 18, 21]
set_option maxRecDepth 100000 in
theorem sd_Ce_clear : pm_Sl prog_3_method_2_code 1 R_Ce "clear" (none) pm_Y (pm_b bp_Ce_clear) 0 tb_Ce_clear := by
  refine ⟨so_aloadn d_Ce_clear_0 rfl rfl, ?_⟩
  refine ⟨so_getr (ci := 7) (k := 0) rfl (by decide) rfl rfl fl_Ce_9 d_Ce_clear_1 rfl, ?_⟩
  refine ⟨so_const1 d_Ce_clear_4 (by decide) rfl, ?_⟩
  refine ⟨so_calls rfl mc_Ar_fill mi_Ar mt_Ar_fill ml_Ce_18 yd_Ar_fill (by decide) d_Ce_clear_5 rfl, ?_⟩
  refine ⟨so_aloadn d_Ce_clear_8 rfl rfl, ?_⟩
  refine ⟨so_getr (ci := 7) (k := 1) rfl (by decide) rfl rfl fl_Ce_15 d_Ce_clear_9 rfl, ?_⟩
  refine ⟨so_const1 d_Ce_clear_12 (by decide) rfl, ?_⟩
  refine ⟨so_calls rfl mc_Ar_fill mi_Ar mt_Ar_fill ml_Ce_18 yd_Ar_fill (by decide) d_Ce_clear_13 rfl, ?_⟩
  refine ⟨so_aloadn d_Ce_clear_16 rfl rfl, ?_⟩
  refine ⟨so_const1 d_Ce_clear_17 (by decide) rfl, ?_⟩
  refine ⟨so_puti (ci := 7) (k := 2) rfl (by decide) rfl rfl (Or.inl ⟨rfl, fl_Ce_24⟩) d_Ce_clear_18 rfl, ?_⟩
  refine ⟨so_vret d_Ce_clear_21 rfl, ?_⟩
  exact trivial
theorem d_Ce_races_0 : decode prog_3_method_3_code 0 = .ok (.iconst 0, 1) := by decide +kernel
theorem d_Ce_races_1 : decode prog_3_method_3_code 1 = .ok (.istore_n 3, 1) := by decide +kernel
theorem d_Ce_races_2 : decode prog_3_method_3_code 2 = .ok (.iload_n 3, 1) := by decide +kernel
theorem d_Ce_races_3 : decode prog_3_method_3_code 3 = .ok (.bipush 6, 2) := by decide +kernel
theorem d_Ce_races_5 : decode prog_3_method_3_code 5 = .ok (.if_icmp .ge 39, 3) := by decide +kernel
theorem d_Ce_races_8 : decode prog_3_method_3_code 8 = .ok (.aload_n 0, 1) := by decide +kernel
theorem d_Ce_races_9 : decode prog_3_method_3_code 9 = .ok (.getfield 15, 3) := by decide +kernel
theorem d_Ce_races_12 : decode prog_3_method_3_code 12 = .ok (.iload_n 3, 1) := by decide +kernel
theorem d_Ce_races_13 : decode prog_3_method_3_code 13 = .ok (.iaload, 1) := by decide +kernel
theorem d_Ce_races_14 : decode prog_3_method_3_code 14 = .ok (.aload_n 1, 1) := by decide +kernel
theorem d_Ce_races_15 : decode prog_3_method_3_code 15 = .ok (.iload_n 3, 1) := by decide +kernel
theorem d_Ce_races_16 : decode prog_3_method_3_code 16 = .ok (.iaload, 1) := by decide +kernel
theorem d_Ce_races_17 : decode prog_3_method_3_code 17 = .ok (.if_icmp .gt 19, 3) := by decide +kernel
theorem d_Ce_races_20 : decode prog_3_method_3_code 20 = .ok (.iload_n 2, 1) := by decide +kernel
theorem d_Ce_races_21 : decode prog_3_method_3_code 21 = .ok (.ifCond .eq 17, 3) := by decide +kernel
theorem d_Ce_races_24 : decode prog_3_method_3_code 24 = .ok (.aload_n 0, 1) := by decide +kernel
theorem d_Ce_races_25 : decode prog_3_method_3_code 25 = .ok (.getfield 9, 3) := by decide +kernel
theorem d_Ce_races_28 : decode prog_3_method_3_code 28 = .ok (.iload_n 3, 1) := by decide +kernel
theorem d_Ce_races_29 : decode prog_3_method_3_code 29 = .ok (.iaload, 1) := by decide +kernel
theorem d_Ce_races_30 : decode prog_3_method_3_code 30 = .ok (.aload_n 1, 1) := by decide +kernel
theorem d_Ce_races_31 : decode prog_3_method_3_code 31 = .ok (.iload_n 3, 1) := by decide +kernel
theorem d_Ce_races_32 : decode prog_3_method_3_code 32 = .ok (.iaload, 1) := by decide +kernel
theorem d_Ce_races_33 : decode prog_3_method_3_code 33 = .ok (.if_icmp .le 5, 3) := by decide +kernel
theorem d_Ce_races_36 : decode prog_3_method_3_code 36 = .ok (.iconst 1, 1) := by decide +kernel
theorem d_Ce_races_37 : decode prog_3_method_3_code 37 = .ok (.ireturn, 1) := by decide +kernel
theorem d_Ce_races_38 : decode prog_3_method_3_code 38 = .ok (.iinc 3 1, 3) := by decide +kernel
theorem d_Ce_races_41 : decode prog_3_method_3_code 41 = .ok (.goto (-39), 3) := by decide +kernel
theorem d_Ce_races_44 : decode prog_3_method_3_code 44 = .ok (.iconst 0, 1) := by decide +kernel
theorem d_Ce_races_45 : decode prog_3_method_3_code 45 = .ok (.ireturn, 1) := by decide +kernel
def tb_Ce_races : List pm_I := [
  pm_const 1 0,
  pm_istore 2 3,
  pm_iload 3 3,
  pm_const 4 6,
  pm_icmp 27 5 (fun a b => decide (b ≤ a)),
  pm_aload 6 0,
  pm_getr 7 7 1,
  pm_iload 8 3,
  pm_iald 9 0,
  pm_aload 10 1,
  pm_iload 11 3,
  pm_iald 12 0,
  pm_icmp 23 13 (fun a b => decide (b < a)),
  pm_iload 14 2,
  pm_if 25 15 (fun a => decide (a = 0)),
  pm_aload 16 0,
  pm_getr 17 7 0,
  pm_iload 18 3,
  pm_iald 19 0,
  pm_aload 20 1,
  pm_iload 21 3,
  pm_iald 22 0,
  pm_icmp 25 23 (fun a b => decide (a ≤ b)),
  pm_const 24 1,
  pm_zret,
  pm_iinc 26 3 1,
  pm_goto 2,
  pm_const 28 0,
  pm_zret]
def bp_Ce_races : List Nat := [0, 1, 2, 3, 5, 8, 9, 12, 13, 14, 15, 16, 17, 20, 21, 24, 25, 28, 29, 30, 31, 32, 33, 36, 37, 38, 41, 44, 45]
set_option maxRecDepth 100000 in
theorem sd_Ce_races : pm_Sl prog_3_method_3_code 4 R_Ce "races" (some .boolean) pm_Y (pm_b bp_Ce_races) 0 tb_Ce_races := by
  refine ⟨so_const1 d_Ce_races_0 (by decide) rfl, ?_⟩
  refine ⟨so_istoren d_Ce_races_1 rfl (by decide) rfl, ?_⟩
  refine ⟨so_iloadn d_Ce_races_2 rfl rfl, ?_⟩
  refine ⟨so_const2 d_Ce_races_3 (by decide) rfl, ?_⟩
  refine ⟨so_icmp_ge d_Ce_races_5 rfl rfl, ?_⟩
  refine ⟨so_aloadn d_Ce_races_8 rfl rfl, ?_⟩
  refine ⟨so_getr (ci := 7) (k := 1) rfl (by decide) rfl rfl fl_Ce_15 d_Ce_races_9 rfl, ?_⟩
  refine ⟨so_iloadn d_Ce_races_12 rfl rfl, ?_⟩
  refine ⟨so_iald d_Ce_races_13 rfl, ?_⟩
  refine ⟨so_aloadn d_Ce_races_14 rfl rfl, ?_⟩
  refine ⟨so_iloadn d_Ce_races_15 rfl rfl, ?_⟩
  refine ⟨so_iald d_Ce_races_16 rfl, ?_⟩
  refine ⟨so_icmp_gt d_Ce_races_17 rfl rfl, ?_⟩
  refine ⟨so_iloadn d_Ce_races_20 rfl rfl, ?_⟩
  refine ⟨so_if_eq d_Ce_races_21 rfl rfl, ?_⟩
  refine ⟨so_aloadn d_Ce_races_24 rfl rfl, ?_⟩
  refine ⟨so_getr (ci := 7) (k := 0) rfl (by decide) rfl rfl fl_Ce_9 d_Ce_races_25 rfl, ?_⟩
  refine ⟨so_iloadn d_Ce_races_28 rfl rfl, ?_⟩
  refine ⟨so_iald d_Ce_races_29 rfl, ?_⟩
  refine ⟨so_aloadn d_Ce_races_30 rfl rfl, ?_⟩
  refine ⟨so_iloadn d_Ce_races_31 rfl rfl, ?_⟩
  refine ⟨so_iald d_Ce_races_32 rfl, ?_⟩
  refine ⟨so_icmp_le d_Ce_races_33 rfl rfl, ?_⟩
  refine ⟨so_const1 d_Ce_races_36 (by decide) rfl, ?_⟩
  refine ⟨so_zret d_Ce_races_37 rfl, ?_⟩
  refine ⟨so_iinc d_Ce_races_38 (by decide) (by decide) rfl, ?_⟩
  refine ⟨so_goto d_Ce_races_41 rfl, ?_⟩
  refine ⟨so_const1 d_Ce_races_44 (by decide) rfl, ?_⟩
  refine ⟨so_zret d_Ce_races_45 rfl, ?_⟩
  exact trivial
end
section
theorem d_Mo_init_0 : decode prog_10_method_1_code 0 = .ok (.aload_n 0, 1) := by decide +kernel
theorem d_Mo_init_1 : decode prog_10_method_1_code 1 = .ok (.invokespecial 1, 3) := by decide +kernel
theorem d_Mo_init_4 : decode prog_10_method_1_code 4 = .ok (.aload_n 0, 1) := by decide +kernel
theorem d_Mo_init_5 : decode prog_10_method_1_code 5 = .ok (.sipush 576, 3) := by decide +kernel
theorem d_Mo_init_8 : decode prog_10_method_1_code 8 = .ok (.newarray .int, 2) := by decide +kernel
theorem d_Mo_init_10 : decode prog_10_method_1_code 10 = .ok (.putfield 7, 3) := by decide +kernel
theorem d_Mo_init_13 : decode prog_10_method_1_code 13 = .ok (.aload_n 0, 1) := by decide +kernel
theorem d_Mo_init_14 : decode prog_10_method_1_code 14 = .ok (.sipush 576, 3) := by decide +kernel
theorem d_Mo_init_17 : decode prog_10_method_1_code 17 = .ok (.newarray .int, 2) := by decide +kernel
theorem d_Mo_init_19 : decode prog_10_method_1_code 19 = .ok (.putfield 13, 3) := by decide +kernel
theorem d_Mo_init_22 : decode prog_10_method_1_code 22 = .ok (.aload_n 0, 1) := by decide +kernel
theorem d_Mo_init_23 : decode prog_10_method_1_code 23 = .ok (.bipush 9, 2) := by decide +kernel
theorem d_Mo_init_25 : decode prog_10_method_1_code 25 = .ok (.newarray .int, 2) := by decide +kernel
theorem d_Mo_init_27 : decode prog_10_method_1_code 27 = .ok (.putfield 16, 3) := by decide +kernel
theorem d_Mo_init_30 : decode prog_10_method_1_code 30 = .ok (.aload_n 0, 1) := by decide +kernel
theorem d_Mo_init_31 : decode prog_10_method_1_code 31 = .ok (.bipush 8, 2) := by decide +kernel
theorem d_Mo_init_33 : decode prog_10_method_1_code 33 = .ok (.newarray .int, 2) := by decide +kernel
theorem d_Mo_init_35 : decode prog_10_method_1_code 35 = .ok (.putfield 19, 3) := by decide +kernel
theorem d_Mo_init_38 : decode prog_10_method_1_code 38 = .ok (.aload_n 0, 1) := by decide +kernel
theorem d_Mo_init_39 : decode prog_10_method_1_code 39 = .ok (.bipush 8, 2) := by decide +kernel
theorem d_Mo_init_41 : decode prog_10_method_1_code 41 = .ok (.newarray .int, 2) := by decide +kernel
theorem d_Mo_init_43 : decode prog_10_method_1_code 43 = .ok (.putfield 22, 3) := by decide +kernel
theorem d_Mo_init_46 : decode prog_10_method_1_code 46 = .ok (.aload_n 0, 1) := by decide +kernel
theorem d_Mo_init_47 : decode prog_10_method_1_code 47 = .ok (.bipush 8, 2) := by decide +kernel
theorem d_Mo_init_49 : decode prog_10_method_1_code 49 = .ok (.newarray .int, 2) := by decide +kernel
theorem d_Mo_init_51 : decode prog_10_method_1_code 51 = .ok (.putfield 25, 3) := by decide +kernel
theorem d_Mo_init_54 : decode prog_10_method_1_code 54 = .ok (.aload_n 0, 1) := by decide +kernel
theorem d_Mo_init_55 : decode prog_10_method_1_code 55 = .ok (.iconst 4, 1) := by decide +kernel
theorem d_Mo_init_56 : decode prog_10_method_1_code 56 = .ok (.newarray .int, 2) := by decide +kernel
theorem d_Mo_init_58 : decode prog_10_method_1_code 58 = .ok (.putfield 28, 3) := by decide +kernel
theorem d_Mo_init_61 : decode prog_10_method_1_code 61 = .ok (.aload_n 0, 1) := by decide +kernel
theorem d_Mo_init_62 : decode prog_10_method_1_code 62 = .ok (.iconst 4, 1) := by decide +kernel
theorem d_Mo_init_63 : decode prog_10_method_1_code 63 = .ok (.newarray .int, 2) := by decide +kernel
theorem d_Mo_init_65 : decode prog_10_method_1_code 65 = .ok (.putfield 31, 3) := by decide +kernel
theorem d_Mo_init_68 : decode prog_10_method_1_code 68 = .ok (.aload_n 0, 1) := by decide +kernel
theorem d_Mo_init_69 : decode prog_10_method_1_code 69 = .ok (.iconst 4, 1) := by decide +kernel
theorem d_Mo_init_70 : decode prog_10_method_1_code 70 = .ok (.newarray .int, 2) := by decide +kernel
theorem d_Mo_init_72 : decode prog_10_method_1_code 72 = .ok (.putfield 34, 3) := by decide +kernel
theorem d_Mo_init_75 : decode prog_10_method_1_code 75 = .ok (.aload_n 0, 1) := by decide +kernel
theorem d_Mo_init_76 : decode prog_10_method_1_code 76 = .ok (.bipush 6, 2) := by decide +kernel
theorem d_Mo_init_78 : decode prog_10_method_1_code 78 = .ok (.newarray .int, 2) := by decide +kernel
theorem d_Mo_init_80 : decode prog_10_method_1_code 80 = .ok (.putfield 37, 3) := by decide +kernel
theorem d_Mo_init_83 : decode prog_10_method_1_code 83 = .ok (.aload_n 0, 1) := by decide +kernel
theorem d_Mo_init_84 : decode prog_10_method_1_code 84 = .ok (.bipush 6, 2) := by decide +kernel
theorem d_Mo_init_86 : decode prog_10_method_1_code 86 = .ok (.newarray .int, 2) := by decide +kernel
theorem d_Mo_init_88 : decode prog_10_method_1_code 88 = .ok (.putfield 40, 3) := by decide +kernel
theorem d_Mo_init_91 : decode prog_10_method_1_code 91 = .ok (.aload_n 0, 1) := by decide +kernel
theorem d_Mo_init_92 : decode prog_10_method_1_code 92 = .ok (.bipush 48, 2) := by decide +kernel
theorem d_Mo_init_94 : decode prog_10_method_1_code 94 = .ok (.newarray .int, 2) := by decide +kernel
theorem d_Mo_init_96 : decode prog_10_method_1_code 96 = .ok (.putfield 43, 3) := by decide +kernel
theorem d_Mo_init_99 : decode prog_10_method_1_code 99 = .ok (.aload_n 0, 1) := by decide +kernel
theorem d_Mo_init_100 : decode prog_10_method_1_code 100 = .ok (.bipush 48, 2) := by decide +kernel
theorem d_Mo_init_102 : decode prog_10_method_1_code 102 = .ok (.newarray .int, 2) := by decide +kernel
theorem d_Mo_init_104 : decode prog_10_method_1_code 104 = .ok (.putfield 46, 3) := by decide +kernel
theorem d_Mo_init_107 : decode prog_10_method_1_code 107 = .ok (.aload_n 0, 1) := by decide +kernel
theorem d_Mo_init_108 : decode prog_10_method_1_code 108 = .ok (.bipush 6, 2) := by decide +kernel
theorem d_Mo_init_110 : decode prog_10_method_1_code 110 = .ok (.newarray .int, 2) := by decide +kernel
theorem d_Mo_init_112 : decode prog_10_method_1_code 112 = .ok (.putfield 49, 3) := by decide +kernel
theorem d_Mo_init_115 : decode prog_10_method_1_code 115 = .ok (.aload_n 0, 1) := by decide +kernel
theorem d_Mo_init_116 : decode prog_10_method_1_code 116 = .ok (.sipush 4000, 3) := by decide +kernel
theorem d_Mo_init_119 : decode prog_10_method_1_code 119 = .ok (.newarray .int, 2) := by decide +kernel
theorem d_Mo_init_121 : decode prog_10_method_1_code 121 = .ok (.putfield 52, 3) := by decide +kernel
theorem d_Mo_init_124 : decode prog_10_method_1_code 124 = .ok (.aload_n 0, 1) := by decide +kernel
theorem d_Mo_init_125 : decode prog_10_method_1_code 125 = .ok (.sipush 4000, 3) := by decide +kernel
theorem d_Mo_init_128 : decode prog_10_method_1_code 128 = .ok (.newarray .int, 2) := by decide +kernel
theorem d_Mo_init_130 : decode prog_10_method_1_code 130 = .ok (.putfield 55, 3) := by decide +kernel
theorem d_Mo_init_133 : decode prog_10_method_1_code 133 = .ok (.aload_n 0, 1) := by decide +kernel
theorem d_Mo_init_134 : decode prog_10_method_1_code 134 = .ok (.sipush 4000, 3) := by decide +kernel
theorem d_Mo_init_137 : decode prog_10_method_1_code 137 = .ok (.newarray .int, 2) := by decide +kernel
theorem d_Mo_init_139 : decode prog_10_method_1_code 139 = .ok (.putfield 58, 3) := by decide +kernel
theorem d_Mo_init_142 : decode prog_10_method_1_code 142 = .ok (.aload_n 0, 1) := by decide +kernel
theorem d_Mo_init_143 : decode prog_10_method_1_code 143 = .ok (.sipush 4000, 3) := by decide +kernel
theorem d_Mo_init_146 : decode prog_10_method_1_code 146 = .ok (.newarray .boolean, 2) := by decide +kernel
theorem d_Mo_init_148 : decode prog_10_method_1_code 148 = .ok (.putfield 61, 3) := by decide +kernel
theorem d_Mo_init_151 : decode prog_10_method_1_code 151 = .ok (.aload_n 0, 1) := by decide +kernel
theorem d_Mo_init_152 : decode prog_10_method_1_code 152 = .ok (.bipush 64, 2) := by decide +kernel
theorem d_Mo_init_154 : decode prog_10_method_1_code 154 = .ok (.newarray .int, 2) := by decide +kernel
theorem d_Mo_init_156 : decode prog_10_method_1_code 156 = .ok (.putfield 65, 3) := by decide +kernel
theorem d_Mo_init_159 : decode prog_10_method_1_code 159 = .ok (.iconst 0, 1) := by decide +kernel
theorem d_Mo_init_160 : decode prog_10_method_1_code 160 = .ok (.istore_n 1, 1) := by decide +kernel
theorem d_Mo_init_161 : decode prog_10_method_1_code 161 = .ok (.iload_n 1, 1) := by decide +kernel
theorem d_Mo_init_162 : decode prog_10_method_1_code 162 = .ok (.bipush 8, 2) := by decide +kernel
theorem d_Mo_init_164 : decode prog_10_method_1_code 164 = .ok (.if_icmp .ge 16, 3) := by decide +kernel
theorem d_Mo_init_167 : decode prog_10_method_1_code 167 = .ok (.aload_n 0, 1) := by decide +kernel
theorem d_Mo_init_168 : decode prog_10_method_1_code 168 = .ok (.getfield 22, 3) := by decide +kernel
theorem d_Mo_init_171 : decode prog_10_method_1_code 171 = .ok (.iload_n 1, 1) := by decide +kernel
theorem d_Mo_init_172 : decode prog_10_method_1_code 172 = .ok (.iconst (-1), 1) := by decide +kernel
theorem d_Mo_init_173 : decode prog_10_method_1_code 173 = .ok (.iastore, 1) := by decide +kernel
theorem d_Mo_init_174 : decode prog_10_method_1_code 174 = .ok (.iinc 1 1, 3) := by decide +kernel
theorem d_Mo_init_177 : decode prog_10_method_1_code 177 = .ok (.goto (-16), 3) := by decide +kernel
theorem d_Mo_init_180 : decode prog_10_method_1_code 180 = .ok (.return_, 1) := by decide +kernel
def tb_Mo_init : List pm_I := [
  pm_aload 1 0,
  pm_oinit 2,
  pm_aload 3 0,
  pm_const 4 576,
  pm_newa 5 0,
  pm_putr 6 8 0,
  pm_aload 7 0,
  pm_const 8 576,
  pm_newa 9 0,
  pm_putr 10 8 1,
  pm_aload 11 0,
  pm_const 12 9,
  pm_newa 13 0,
  pm_putr 14 8 2,
  pm_aload 15 0,
  pm_const 16 8,
  pm_newa 17 0,
  pm_putr 18 8 3,
  pm_aload 19 0,
  pm_const 20 8,
  pm_newa 21 0,
  pm_putr 22 8 5,
  pm_aload 23 0,
  pm_const 24 8,
  pm_newa 25 0,
  pm_putr 26 8 7,
  pm_aload 27 0,
  pm_const 28 4,
  pm_newa 29 0,
  pm_putr 30 8 8,
  pm_aload 31 0,
  pm_const 32 4,
  pm_newa 33 0,
  pm_putr 34 8 9,
  pm_aload 35 0,
  pm_const 36 4,
  pm_newa 37 0,
  pm_putr 38 8 10,
  pm_aload 39 0,
  pm_const 40 6,
  pm_newa 41 0,
  pm_putr 42 8 12,
  pm_aload 43 0,
  pm_const 44 6,
  pm_newa 45 0,
  pm_putr 46 8 13,
  pm_aload 47 0,
  pm_const 48 48,
  pm_newa 49 0,
  pm_putr 50 8 14,
  pm_aload 51 0,
  pm_const 52 48,
  pm_newa 53 0,
  pm_putr 54 8 15,
  pm_aload 55 0,
  pm_const 56 6,
  pm_newa 57 0,
  pm_putr 58 8 16,
  pm_aload 59 0,
  pm_const 60 4000,
  pm_newa 61 0,
  pm_putr 62 8 18,
  pm_aload 63 0,
  pm_const 64 4000,
  pm_newa 65 0,
  pm_putr 66 8 19,
  pm_aload 67 0,
  pm_const 68 4000,
  pm_newa 69 0,
  pm_putr 70 8 20,
  pm_aload 71 0,
  pm_const 72 4000,
  pm_newa 73 1,
  pm_putr 74 8 21,
  pm_aload 75 0,
  pm_const 76 64,
  pm_newa 77 0,
  pm_putr 78 8 23,
  pm_const 79 0,
  pm_istore 80 1,
  pm_iload 81 1,
  pm_const 82 8,
  pm_icmp 90 83 (fun a b => decide (b ≤ a)),
  pm_aload 84 0,
  pm_getr 85 8 5,
  pm_iload 86 1,
  pm_const 87 (-1),
  pm_iast 88,
  pm_iinc 89 1 1,
  pm_goto 80,
  pm_vret]
def bp_Mo_init : List Nat := [0, 1, 4, 5, 8, 10, 13, 14, 17, 19, 22, 23, 25, 27, 30, 31, 33, 35, 38, 39, 41, 43, 46, 47, 49, 51, 54, 55, 56, 58, 61, 62, 63, 65, 68, 69, 70, 72, 75, 76, 78, 80, 83, 84, 86, 88, 91, 92, 94, 96, 99, 100, 102, 104, 107, 108, 110, 112, 115, 116, 119, 121, 124, 125, 128, 130, 133, 134, 137, 139, 142, 143, 146, 148, 151, 152, 154, 156, 159, 160, 161, 162, 164, 167, 168, 171, 172, 173, 174, 177, 180]
set_option maxRecDepth 100000 in
theorem sd_Mo_init : pm_Sl prog_10_method_1_code 2 R_Mo "<init>" (none) pm_Y (pm_b bp_Mo_init) 0 tb_Mo_init := by
  refine ⟨so_aloadn d_Mo_init_0 rfl rfl, ?_⟩
  refine ⟨so_oinit (pm_in1 (List.mem_append_right _ (List.mem_append_left _ (List.mem_of_getElem? (i := 227) rfl)))) (pm_in1 (List.mem_append_left _ (List.mem_of_getElem? (i := 19) rfl))) (pm_in1 (List.mem_append_left _ (List.mem_of_getElem? (i := 20) rfl))) d_Mo_init_1 rfl, ?_⟩
  refine ⟨so_aloadn d_Mo_init_4 rfl rfl, ?_⟩
  refine ⟨so_const3 d_Mo_init_5 (by decide) rfl, ?_⟩
  refine ⟨so_newi d_Mo_init_8 rfl, ?_⟩
  refine ⟨so_putr (ci := 8) (k := 0) rfl (by decide) rfl rfl (Or.inr ⟨rfl, rfl, rfl, pm_in1 (List.mem_append_right _ (List.mem_append_left _ (List.mem_of_getElem? (i := 228) rfl)))⟩) d_Mo_init_10 rfl, ?_⟩
  refine ⟨so_aloadn d_Mo_init_13 rfl rfl, ?_⟩
  refine ⟨so_const3 d_Mo_init_14 (by decide) rfl, ?_⟩
  refine ⟨so_newi d_Mo_init_17 rfl, ?_⟩
  refine ⟨so_putr (ci := 8) (k := 1) rfl (by decide) rfl rfl (Or.inr ⟨rfl, rfl, rfl, pm_in1 (List.mem_append_right _ (List.mem_append_left _ (List.mem_of_getElem? (i := 229) rfl)))⟩) d_Mo_init_19 rfl, ?_⟩
  refine ⟨so_aloadn d_Mo_init_22 rfl rfl, ?_⟩
  refine ⟨so_const2 d_Mo_init_23 (by decide) rfl, ?_⟩
  refine ⟨so_newi d_Mo_init_25 rfl, ?_⟩
  refine ⟨so_putr (ci := 8) (k := 2) rfl (by decide) rfl rfl (Or.inr ⟨rfl, rfl, rfl, pm_in1 (List.mem_append_right _ (List.mem_append_left _ (List.mem_of_getElem? (i := 230) rfl)))⟩) d_Mo_init_27 rfl, ?_⟩
  refine ⟨so_aloadn d_Mo_init_30 rfl rfl, ?_⟩
  refine ⟨so_const2 d_Mo_init_31 (by decide) rfl, ?_⟩
  refine ⟨so_newi d_Mo_init_33 rfl, ?_⟩
  refine ⟨so_putr (ci := 8) (k := 3) rfl (by decide) rfl rfl (Or.inr ⟨rfl, rfl, rfl, pm_in1 (List.mem_append_right _ (List.mem_append_left _ (List.mem_of_getElem? (i := 231) rfl)))⟩) d_Mo_init_35 rfl, ?_⟩
  refine ⟨so_aloadn d_Mo_init_38 rfl rfl, ?_⟩
  refine ⟨so_const2 d_Mo_init_39 (by decide) rfl, ?_⟩
  refine ⟨so_newi d_Mo_init_41 rfl, ?_⟩
  refine ⟨so_putr (ci := 8) (k := 5) rfl (by decide) rfl rfl (Or.inr ⟨rfl, rfl, rfl, pm_in1 (List.mem_append_right _ (List.mem_append_left _ (List.mem_of_getElem? (i := 233) rfl)))⟩) d_Mo_init_43 rfl, ?_⟩
  refine ⟨so_aloadn d_Mo_init_46 rfl rfl, ?_⟩
  refine ⟨so_const2 d_Mo_init_47 (by decide) rfl, ?_⟩
  refine ⟨so_newi d_Mo_init_49 rfl, ?_⟩
  refine ⟨so_putr (ci := 8) (k := 7) rfl (by decide) rfl rfl (Or.inr ⟨rfl, rfl, rfl, pm_in1 (List.mem_append_right _ (List.mem_append_left _ (List.mem_of_getElem? (i := 235) rfl)))⟩) d_Mo_init_51 rfl, ?_⟩
  refine ⟨so_aloadn d_Mo_init_54 rfl rfl, ?_⟩
  refine ⟨so_const1 d_Mo_init_55 (by decide) rfl, ?_⟩
  refine ⟨so_newi d_Mo_init_56 rfl, ?_⟩
  refine ⟨so_putr (ci := 8) (k := 8) rfl (by decide) rfl rfl (Or.inr ⟨rfl, rfl, rfl, pm_in1 (List.mem_append_right _ (List.mem_append_left _ (List.mem_of_getElem? (i := 236) rfl)))⟩) d_Mo_init_58 rfl, ?_⟩
  refine ⟨so_aloadn d_Mo_init_61 rfl rfl, ?_⟩
  refine ⟨so_const1 d_Mo_init_62 (by decide) rfl, ?_⟩
  refine ⟨so_newi d_Mo_init_63 rfl, ?_⟩
  refine ⟨so_putr (ci := 8) (k := 9) rfl (by decide) rfl rfl (Or.inr ⟨rfl, rfl, rfl, pm_in1 (List.mem_append_right _ (List.mem_append_left _ (List.mem_of_getElem? (i := 237) rfl)))⟩) d_Mo_init_65 rfl, ?_⟩
  refine ⟨so_aloadn d_Mo_init_68 rfl rfl, ?_⟩
  refine ⟨so_const1 d_Mo_init_69 (by decide) rfl, ?_⟩
  refine ⟨so_newi d_Mo_init_70 rfl, ?_⟩
  refine ⟨so_putr (ci := 8) (k := 10) rfl (by decide) rfl rfl (Or.inr ⟨rfl, rfl, rfl, pm_in1 (List.mem_append_right _ (List.mem_append_left _ (List.mem_of_getElem? (i := 238) rfl)))⟩) d_Mo_init_72 rfl, ?_⟩
  refine ⟨so_aloadn d_Mo_init_75 rfl rfl, ?_⟩
  refine ⟨so_const2 d_Mo_init_76 (by decide) rfl, ?_⟩
  refine ⟨so_newi d_Mo_init_78 rfl, ?_⟩
  refine ⟨so_putr (ci := 8) (k := 12) rfl (by decide) rfl rfl (Or.inr ⟨rfl, rfl, rfl, pm_in1 (List.mem_append_right _ (List.mem_append_right _ (List.mem_of_getElem? (i := 0) rfl)))⟩) d_Mo_init_80 rfl, ?_⟩
  refine ⟨so_aloadn d_Mo_init_83 rfl rfl, ?_⟩
  refine ⟨so_const2 d_Mo_init_84 (by decide) rfl, ?_⟩
  refine ⟨so_newi d_Mo_init_86 rfl, ?_⟩
  refine ⟨so_putr (ci := 8) (k := 13) rfl (by decide) rfl rfl (Or.inr ⟨rfl, rfl, rfl, pm_in1 (List.mem_append_right _ (List.mem_append_right _ (List.mem_of_getElem? (i := 1) rfl)))⟩) d_Mo_init_88 rfl, ?_⟩
  refine ⟨so_aloadn d_Mo_init_91 rfl rfl, ?_⟩
  refine ⟨so_const2 d_Mo_init_92 (by decide) rfl, ?_⟩
  refine ⟨so_newi d_Mo_init_94 rfl, ?_⟩
  refine ⟨so_putr (ci := 8) (k := 14) rfl (by decide) rfl rfl (Or.inr ⟨rfl, rfl, rfl, pm_in1 (List.mem_append_right _ (List.mem_append_right _ (List.mem_of_getElem? (i := 2) rfl)))⟩) d_Mo_init_96 rfl, ?_⟩
  refine ⟨so_aloadn d_Mo_init_99 rfl rfl, ?_⟩
  refine ⟨so_const2 d_Mo_init_100 (by decide) rfl, ?_⟩
  refine ⟨so_newi d_Mo_init_102 rfl, ?_⟩
  refine ⟨so_putr (ci := 8) (k := 15) rfl (by decide) rfl rfl (Or.inr ⟨rfl, rfl, rfl, pm_in1 (List.mem_append_right _ (List.mem_append_right _ (List.mem_of_getElem? (i := 3) rfl)))⟩) d_Mo_init_104 rfl, ?_⟩
  refine ⟨so_aloadn d_Mo_init_107 rfl rfl, ?_⟩
  refine ⟨so_const2 d_Mo_init_108 (by decide) rfl, ?_⟩
  refine ⟨so_newi d_Mo_init_110 rfl, ?_⟩
  refine ⟨so_putr (ci := 8) (k := 16) rfl (by decide) rfl rfl (Or.inr ⟨rfl, rfl, rfl, pm_in1 (List.mem_append_right _ (List.mem_append_right _ (List.mem_of_getElem? (i := 4) rfl)))⟩) d_Mo_init_112 rfl, ?_⟩
  refine ⟨so_aloadn d_Mo_init_115 rfl rfl, ?_⟩
  refine ⟨so_const3 d_Mo_init_116 (by decide) rfl, ?_⟩
  refine ⟨so_newi d_Mo_init_119 rfl, ?_⟩
  refine ⟨so_putr (ci := 8) (k := 18) rfl (by decide) rfl rfl (Or.inr ⟨rfl, rfl, rfl, pm_in1 (List.mem_append_right _ (List.mem_append_right _ (List.mem_of_getElem? (i := 6) rfl)))⟩) d_Mo_init_121 rfl, ?_⟩
  refine ⟨so_aloadn d_Mo_init_124 rfl rfl, ?_⟩
  refine ⟨so_const3 d_Mo_init_125 (by decide) rfl, ?_⟩
  refine ⟨so_newi d_Mo_init_128 rfl, ?_⟩
  refine ⟨so_putr (ci := 8) (k := 19) rfl (by decide) rfl rfl (Or.inr ⟨rfl, rfl, rfl, pm_in1 (List.mem_append_right _ (List.mem_append_right _ (List.mem_of_getElem? (i := 7) rfl)))⟩) d_Mo_init_130 rfl, ?_⟩
  refine ⟨so_aloadn d_Mo_init_133 rfl rfl, ?_⟩
  refine ⟨so_const3 d_Mo_init_134 (by decide) rfl, ?_⟩
  refine ⟨so_newi d_Mo_init_137 rfl, ?_⟩
  refine ⟨so_putr (ci := 8) (k := 20) rfl (by decide) rfl rfl (Or.inr ⟨rfl, rfl, rfl, pm_in1 (List.mem_append_right _ (List.mem_append_right _ (List.mem_of_getElem? (i := 8) rfl)))⟩) d_Mo_init_139 rfl, ?_⟩
  refine ⟨so_aloadn d_Mo_init_142 rfl rfl, ?_⟩
  refine ⟨so_const3 d_Mo_init_143 (by decide) rfl, ?_⟩
  refine ⟨so_newz d_Mo_init_146 rfl, ?_⟩
  refine ⟨so_putr (ci := 8) (k := 21) rfl (by decide) rfl rfl (Or.inr ⟨rfl, rfl, rfl, pm_in1 (List.mem_append_right _ (List.mem_append_right _ (List.mem_of_getElem? (i := 9) rfl)))⟩) d_Mo_init_148 rfl, ?_⟩
  refine ⟨so_aloadn d_Mo_init_151 rfl rfl, ?_⟩
  refine ⟨so_const2 d_Mo_init_152 (by decide) rfl, ?_⟩
  refine ⟨so_newi d_Mo_init_154 rfl, ?_⟩
  refine ⟨so_putr (ci := 8) (k := 23) rfl (by decide) rfl rfl (Or.inr ⟨rfl, rfl, rfl, pm_in1 (List.mem_append_right _ (List.mem_append_right _ (List.mem_of_getElem? (i := 11) rfl)))⟩) d_Mo_init_156 rfl, ?_⟩
  refine ⟨so_const1 d_Mo_init_159 (by decide) rfl, ?_⟩
  refine ⟨so_istoren d_Mo_init_160 rfl (by decide) rfl, ?_⟩
  refine ⟨so_iloadn d_Mo_init_161 rfl rfl, ?_⟩
  refine ⟨so_const2 d_Mo_init_162 (by decide) rfl, ?_⟩
  refine ⟨so_icmp_ge d_Mo_init_164 rfl rfl, ?_⟩
  refine ⟨so_aloadn d_Mo_init_167 rfl rfl, ?_⟩
  refine ⟨so_getr (ci := 8) (k := 5) rfl (by decide) rfl rfl fl_Mo_22 d_Mo_init_168 rfl, ?_⟩
  refine ⟨so_iloadn d_Mo_init_171 rfl rfl, ?_⟩
  refine ⟨so_const1 d_Mo_init_172 (by decide) rfl, ?_⟩
  refine ⟨so_iast d_Mo_init_173 rfl, ?_⟩
  refine ⟨so_iinc d_Mo_init_174 (by decide) (by decide) rfl, ?_⟩
  refine ⟨so_goto d_Mo_init_177 rfl, ?_⟩
  refine ⟨so_vret d_Mo_init_180 rfl, ?_⟩
  exact trivial
theorem d_Mo_statement_0 : decode prog_10_method_3_code 0 = .ok (.iload_n 1, 1) := by decide +kernel
theorem d_Mo_statement_1 : decode prog_10_method_3_code 1 = .ok (.ifCond .lt 25, 3) := by decide +kernel
theorem d_Mo_statement_4 : decode prog_10_method_3_code 4 = .ok (.iload_n 1, 1) := by decide +kernel
theorem d_Mo_statement_5 : decode prog_10_method_3_code 5 = .ok (.bipush 10, 2) := by decide +kernel
theorem d_Mo_statement_7 : decode prog_10_method_3_code 7 = .ok (.if_icmp .gt 19, 3) := by decide +kernel
theorem d_Mo_statement_10 : decode prog_10_method_3_code 10 = .ok (.aload_n 0, 1) := by decide +kernel
theorem d_Mo_statement_11 : decode prog_10_method_3_code 11 = .ok (.getfield 16, 3) := by decide +kernel
theorem d_Mo_statement_14 : decode prog_10_method_3_code 14 = .ok (.bipush 8, 2) := by decide +kernel
theorem d_Mo_statement_16 : decode prog_10_method_3_code 16 = .ok (.iaload, 1) := by decide +kernel
theorem d_Mo_statement_17 : decode prog_10_method_3_code 17 = .ok (.bipush 64, 2) := by decide +kernel
theorem d_Mo_statement_19 : decode prog_10_method_3_code 19 = .ok (.if_icmp .ge 7, 3) := by decide +kernel
theorem d_Mo_statement_22 : decode prog_10_method_3_code 22 = .ok (.iconst 1, 1) := by decide +kernel
theorem d_Mo_statement_23 : decode prog_10_method_3_code 23 = .ok (.goto 4, 3) := by decide +kernel
theorem d_Mo_statement_26 : decode prog_10_method_3_code 26 = .ok (.iconst 0, 1) := by decide +kernel
theorem d_Mo_statement_27 : decode prog_10_method_3_code 27 = .ok (.istore_n 3, 1) := by decide +kernel
theorem d_Mo_statement_28 : decode prog_10_method_3_code 28 = .ok (.iload_n 1, 1) := by decide +kernel
theorem d_Mo_statement_29 : decode prog_10_method_3_code 29 = .ok (.ifCond .eq 8, 3) := by decide +kernel
theorem d_Mo_statement_32 : decode prog_10_method_3_code 32 = .ok (.iload_n 1, 1) := by decide +kernel
theorem d_Mo_statement_33 : decode prog_10_method_3_code 33 = .ok (.iconst 1, 1) := by decide +kernel
theorem d_Mo_statement_34 : decode prog_10_method_3_code 34 = .ok (.if_icmp .ne 22, 3) := by decide +kernel
theorem d_Mo_statement_37 : decode prog_10_method_3_code 37 = .ok (.iload_n 3, 1) := by decide +kernel
theorem d_Mo_statement_38 : decode prog_10_method_3_code 38 = .ok (.ifCond .eq 16, 3) := by decide +kernel
theorem d_Mo_statement_41 : decode prog_10_method_3_code 41 = .ok (.iload_n 2, 1) := by decide +kernel
theorem d_Mo_statement_42 : decode prog_10_method_3_code 42 = .ok (.bipush 8, 2) := by decide +kernel
theorem d_Mo_statement_44 : decode prog_10_method_3_code 44 = .ok (.invokestatic 68, 3) := by decide +kernel
theorem d_Mo_statement_47 : decode prog_10_method_3_code 47 = .ok (.ifCond .eq 7, 3) := by decide +kernel
theorem d_Mo_statement_50 : decode prog_10_method_3_code 50 = .ok (.iconst 1, 1) := by decide +kernel
theorem d_Mo_statement_51 : decode prog_10_method_3_code 51 = .ok (.goto 4, 3) := by decide +kernel
theorem d_Mo_statement_54 : decode prog_10_method_3_code 54 = .ok (.iconst 0, 1) := by decide +kernel
theorem d_Mo_statement_55 : decode prog_10_method_3_code 55 = .ok (.istore_n 3, 1) := by decide +kernel
theorem d_Mo_statement_56 : decode prog_10_method_3_code 56 = .ok (.iload_n 1, 1) := by decide +kernel
theorem d_Mo_statement_57 : decode prog_10_method_3_code 57 = .ok (.iconst 4, 1) := by decide +kernel
theorem d_Mo_statement_58 : decode prog_10_method_3_code 58 = .ok (.if_icmp .ne 21, 3) := by decide +kernel
theorem d_Mo_statement_61 : decode prog_10_method_3_code 61 = .ok (.iload_n 3, 1) := by decide +kernel
theorem d_Mo_statement_62 : decode prog_10_method_3_code 62 = .ok (.ifCond .eq 15, 3) := by decide +kernel
theorem d_Mo_statement_65 : decode prog_10_method_3_code 65 = .ok (.iload_n 2, 1) := by decide +kernel
theorem d_Mo_statement_66 : decode prog_10_method_3_code 66 = .ok (.iconst 4, 1) := by decide +kernel
theorem d_Mo_statement_67 : decode prog_10_method_3_code 67 = .ok (.invokestatic 68, 3) := by decide +kernel
theorem d_Mo_statement_70 : decode prog_10_method_3_code 70 = .ok (.ifCond .eq 7, 3) := by decide +kernel
theorem d_Mo_statement_73 : decode prog_10_method_3_code 73 = .ok (.iconst 1, 1) := by decide +kernel
theorem d_Mo_statement_74 : decode prog_10_method_3_code 74 = .ok (.goto 4, 3) := by decide +kernel
theorem d_Mo_statement_77 : decode prog_10_method_3_code 77 = .ok (.iconst 0, 1) := by decide +kernel
theorem d_Mo_statement_78 : decode prog_10_method_3_code 78 = .ok (.istore_n 3, 1) := by decide +kernel
theorem d_Mo_statement_79 : decode prog_10_method_3_code 79 = .ok (.iload_n 1, 1) := by decide +kernel
theorem d_Mo_statement_80 : decode prog_10_method_3_code 80 = .ok (.bipush 9, 2) := by decide +kernel
theorem d_Mo_statement_82 : decode prog_10_method_3_code 82 = .ok (.if_icmp .eq 9, 3) := by decide +kernel
theorem d_Mo_statement_85 : decode prog_10_method_3_code 85 = .ok (.iload_n 1, 1) := by decide +kernel
theorem d_Mo_statement_86 : decode prog_10_method_3_code 86 = .ok (.bipush 10, 2) := by decide +kernel
theorem d_Mo_statement_88 : decode prog_10_method_3_code 88 = .ok (.if_icmp .ne 22, 3) := by decide +kernel
theorem d_Mo_statement_91 : decode prog_10_method_3_code 91 = .ok (.iload_n 3, 1) := by decide +kernel
theorem d_Mo_statement_92 : decode prog_10_method_3_code 92 = .ok (.ifCond .eq 16, 3) := by decide +kernel
theorem d_Mo_statement_95 : decode prog_10_method_3_code 95 = .ok (.iload_n 2, 1) := by decide +kernel
theorem d_Mo_statement_96 : decode prog_10_method_3_code 96 = .ok (.bipush 8, 2) := by decide +kernel
theorem d_Mo_statement_98 : decode prog_10_method_3_code 98 = .ok (.invokestatic 68, 3) := by decide +kernel
theorem d_Mo_statement_101 : decode prog_10_method_3_code 101 = .ok (.ifCond .eq 7, 3) := by decide +kernel
theorem d_Mo_statement_104 : decode prog_10_method_3_code 104 = .ok (.iconst 1, 1) := by decide +kernel
theorem d_Mo_statement_105 : decode prog_10_method_3_code 105 = .ok (.goto 4, 3) := by decide +kernel
theorem d_Mo_statement_108 : decode prog_10_method_3_code 108 = .ok (.iconst 0, 1) := by decide +kernel
theorem d_Mo_statement_109 : decode prog_10_method_3_code 109 = .ok (.istore_n 3, 1) := by decide +kernel
theorem d_Mo_statement_110 : decode prog_10_method_3_code 110 = .ok (.iload_n 3, 1) := by decide +kernel
theorem d_Mo_statement_111 : decode prog_10_method_3_code 111 = .ok (.ifCond .ne 5, 3) := by decide +kernel
theorem d_Mo_statement_114 : decode prog_10_method_3_code 114 = .ok (.iconst (-1), 1) := by decide +kernel
theorem d_Mo_statement_115 : decode prog_10_method_3_code 115 = .ok (.ireturn, 1) := by decide +kernel
theorem d_Mo_statement_116 : decode prog_10_method_3_code 116 = .ok (.aload_n 0, 1) := by decide +kernel
theorem d_Mo_statement_117 : decode prog_10_method_3_code 117 = .ok (.getfield 7, 3) := by decide +kernel
theorem d_Mo_statement_120 : decode prog_10_method_3_code 120 = .ok (.sipush 512, 3) := by decide +kernel
theorem d_Mo_statement_123 : decode prog_10_method_3_code 123 = .ok (.aload_n 0, 1) := by decide +kernel
theorem d_Mo_statement_124 : decode prog_10_method_3_code 124 = .ok (.getfield 16, 3) := by decide +kernel
theorem d_Mo_statement_127 : decode prog_10_method_3_code 127 = .ok (.bipush 8, 2) := by decide +kernel
theorem d_Mo_statement_129 : decode prog_10_method_3_code 129 = .ok (.iaload, 1) := by decide +kernel
theorem d_Mo_statement_130 : decode prog_10_method_3_code 130 = .ok (.iadd, 1) := by decide +kernel
theorem d_Mo_statement_131 : decode prog_10_method_3_code 131 = .ok (.iload_n 1, 1) := by decide +kernel
theorem d_Mo_statement_132 : decode prog_10_method_3_code 132 = .ok (.iastore, 1) := by decide +kernel
theorem d_Mo_statement_133 : decode prog_10_method_3_code 133 = .ok (.aload_n 0, 1) := by decide +kernel
theorem d_Mo_statement_134 : decode prog_10_method_3_code 134 = .ok (.getfield 13, 3) := by decide +kernel
theorem d_Mo_statement_137 : decode prog_10_method_3_code 137 = .ok (.sipush 512, 3) := by decide +kernel
theorem d_Mo_statement_140 : decode prog_10_method_3_code 140 = .ok (.aload_n 0, 1) := by decide +kernel
theorem d_Mo_statement_141 : decode prog_10_method_3_code 141 = .ok (.getfield 16, 3) := by decide +kernel
theorem d_Mo_statement_144 : decode prog_10_method_3_code 144 = .ok (.bipush 8, 2) := by decide +kernel
theorem d_Mo_statement_146 : decode prog_10_method_3_code 146 = .ok (.iaload, 1) := by decide +kernel
theorem d_Mo_statement_147 : decode prog_10_method_3_code 147 = .ok (.iadd, 1) := by decide +kernel
theorem d_Mo_statement_148 : decode prog_10_method_3_code 148 = .ok (.iload_n 2, 1) := by decide +kernel
theorem d_Mo_statement_149 : decode prog_10_method_3_code 149 = .ok (.iastore, 1) := by decide +kernel
theorem d_Mo_statement_150 : decode prog_10_method_3_code 150 = .ok (.aload_n 0, 1) := by decide +kernel
theorem d_Mo_statement_151 : decode prog_10_method_3_code 151 = .ok (.getfield 16, 3) := by decide +kernel
theorem d_Mo_statement_154 : decode prog_10_method_3_code 154 = .ok (.bipush 8, 2) := by decide +kernel
theorem d_Mo_statement_156 : decode prog_10_method_3_code 156 = .ok (.dup2, 1) := by decide +kernel
theorem d_Mo_statement_157 : decode prog_10_method_3_code 157 = .ok (.iaload, 1) := by decide +kernel
theorem d_Mo_statement_158 : decode prog_10_method_3_code 158 = .ok (.iconst 1, 1) := by decide +kernel
theorem d_Mo_statement_159 : decode prog_10_method_3_code 159 = .ok (.iadd, 1) := by decide +kernel
theorem d_Mo_statement_160 : decode prog_10_method_3_code 160 = .ok (.iastore, 1) := by decide +kernel
theorem d_Mo_statement_161 : decode prog_10_method_3_code 161 = .ok (.aload_n 0, 1) := by decide +kernel
theorem d_Mo_statement_162 : decode prog_10_method_3_code 162 = .ok (.getfield 16, 3) := by decide +kernel
theorem d_Mo_statement_165 : decode prog_10_method_3_code 165 = .ok (.bipush 8, 2) := by decide +kernel
theorem d_Mo_statement_167 : decode prog_10_method_3_code 167 = .ok (.iaload, 1) := by decide +kernel
theorem d_Mo_statement_168 : decode prog_10_method_3_code 168 = .ok (.ireturn, 1) := by decide +kernel
def tb_Mo_statement : List pm_I := [
  pm_iload 1 1,
  pm_if 13 2 (fun a => decide (a < 0)),
  pm_iload 3 1,
  pm_const 4 10,
  pm_icmp 13 5 (fun a b => decide (b < a)),
  pm_aload 6 0,
  pm_getr 7 8 2,
  pm_const 8 8,
  pm_iald 9 0,
  pm_const 10 64,
  pm_icmp 13 11 (fun a b => decide (b ≤ a)),
  pm_const 12 1,
  pm_goto 14,
  pm_const 14 0,
  pm_istore 15 3,
  pm_iload 16 1,
  pm_if 20 17 (fun a => decide (a = 0)),
  pm_iload 18 1,
  pm_const 19 1,
  pm_icmp 30 20 (fun a b => decide (a ≠ b)),
  pm_iload 21 3,
  pm_if 28 22 (fun a => decide (a = 0)),
  pm_iload 23 2,
  pm_const 24 8,
  pm_calls 25 71 2,
  pm_if 28 26 (fun a => decide (a = 0)),
  pm_const 27 1,
  pm_goto 29,
  pm_const 29 0,
  pm_istore 30 3,
  pm_iload 31 1,
  pm_const 32 4,
  pm_icmp 43 33 (fun a b => decide (a ≠ b)),
  pm_iload 34 3,
  pm_if 41 35 (fun a => decide (a = 0)),
  pm_iload 36 2,
  pm_const 37 4,
  pm_calls 38 71 2,
  pm_if 41 39 (fun a => decide (a = 0)),
  pm_const 40 1,
  pm_goto 42,
  pm_const 42 0,
  pm_istore 43 3,
  pm_iload 44 1,
  pm_const 45 9,
  pm_icmp 49 46 (fun a b => decide (a = b)),
  pm_iload 47 1,
  pm_const 48 10,
  pm_icmp 59 49 (fun a b => decide (a ≠ b)),
  pm_iload 50 3,
  pm_if 57 51 (fun a => decide (a = 0)),
  pm_iload 52 2,
  pm_const 53 8,
  pm_calls 54 71 2,
  pm_if 57 55 (fun a => decide (a = 0)),
  pm_const 56 1,
  pm_goto 58,
  pm_const 58 0,
  pm_istore 59 3,
  pm_iload 60 3,
  pm_if 63 61 (fun a => decide (a ≠ 0)),
  pm_const 62 (-1),
  pm_iret,
  pm_aload 64 0,
  pm_getr 65 8 0,
  pm_const 66 512,
  pm_aload 67 0,
  pm_getr 68 8 2,
  pm_const 69 8,
  pm_iald 70 0,
  pm_bin 71 (fun a b => a + b),
  pm_iload 72 1,
  pm_iast 73,
  pm_aload 74 0,
  pm_getr 75 8 1,
  pm_const 76 512,
  pm_aload 77 0,
  pm_getr 78 8 2,
  pm_const 79 8,
  pm_iald 80 0,
  pm_bin 81 (fun a b => a + b),
  pm_iload 82 2,
  pm_iast 83,
  pm_aload 84 0,
  pm_getr 85 8 2,
  pm_const 86 8,
  pm_dup2 87,
  pm_iald 88 0,
  pm_const 89 1,
  pm_bin 90 (fun a b => a + b),
  pm_iast 91,
  pm_aload 92 0,
  pm_getr 93 8 2,
  pm_const 94 8,
  pm_iald 95 0,
  pm_iret]
def bp_Mo_statement : List Nat := [0, 1, 4, 5, 7, 10, 11, 14, 16, 17, 19, 22, 23, 26, 27, 28, 29, 32, 33, 34, 37, 38, 41, 42, 44, 47, 50, 51, 54, 55, 56, 57, 58, 61, 62, 65, 66, 67, 70, 73, 74, 77, 78, 79, 80, 82, 85, 86, 88, 91, 92, 95, 96, 98, 101, 104, 105, 108, 109, 110, 111, 114, 115, 116, 117, 120, 123, 124, 127, 129, 130, 131, 132, 133, 134, 137, 140, 141, 144, 146, 147, 148, 149, 150, 151, 154, 156, 157, 158, 159, 160, 161, 162, 165, 167, 168]
set_option maxRecDepth 100000 in
theorem sd_Mo_statement : pm_Sl prog_10_method_3_code 4 R_Mo "statement" (some .int) pm_Y (pm_b bp_Mo_statement) 0 tb_Mo_statement := by
  refine ⟨so_iloadn d_Mo_statement_0 rfl rfl, ?_⟩
  refine ⟨so_if_lt d_Mo_statement_1 rfl rfl, ?_⟩
  refine ⟨so_iloadn d_Mo_statement_4 rfl rfl, ?_⟩
  refine ⟨so_const2 d_Mo_statement_5 (by decide) rfl, ?_⟩
  refine ⟨so_icmp_gt d_Mo_statement_7 rfl rfl, ?_⟩
  refine ⟨so_aloadn d_Mo_statement_10 rfl rfl, ?_⟩
  refine ⟨so_getr (ci := 8) (k := 2) rfl (by decide) rfl rfl fl_Mo_16 d_Mo_statement_11 rfl, ?_⟩
  refine ⟨so_const2 d_Mo_statement_14 (by decide) rfl, ?_⟩
  refine ⟨so_iald d_Mo_statement_16 rfl, ?_⟩
  refine ⟨so_const2 d_Mo_statement_17 (by decide) rfl, ?_⟩
  refine ⟨so_icmp_ge d_Mo_statement_19 rfl rfl, ?_⟩
  refine ⟨so_const1 d_Mo_statement_22 (by decide) rfl, ?_⟩
  refine ⟨so_goto d_Mo_statement_23 rfl, ?_⟩
  refine ⟨so_const1 d_Mo_statement_26 (by decide) rfl, ?_⟩
  refine ⟨so_istoren d_Mo_statement_27 rfl (by decide) rfl, ?_⟩
  refine ⟨so_iloadn d_Mo_statement_28 rfl rfl, ?_⟩
  refine ⟨so_if_eq d_Mo_statement_29 rfl rfl, ?_⟩
  refine ⟨so_iloadn d_Mo_statement_32 rfl rfl, ?_⟩
  refine ⟨so_const1 d_Mo_statement_33 (by decide) rfl, ?_⟩
  refine ⟨so_icmp_ne d_Mo_statement_34 rfl rfl, ?_⟩
  refine ⟨so_iloadn d_Mo_statement_37 rfl rfl, ?_⟩
  refine ⟨so_if_eq d_Mo_statement_38 rfl rfl, ?_⟩
  refine ⟨so_iloadn d_Mo_statement_41 rfl rfl, ?_⟩
  refine ⟨so_const2 d_Mo_statement_42 (by decide) rfl, ?_⟩
  refine ⟨so_calls rfl mc_Mo_isIn mi_Mo mt_Mo_isIn ml_Mo_68 yd_Mo_isIn (by decide) d_Mo_statement_44 rfl, ?_⟩
  refine ⟨so_if_eq d_Mo_statement_47 rfl rfl, ?_⟩
  refine ⟨so_const1 d_Mo_statement_50 (by decide) rfl, ?_⟩
  refine ⟨so_goto d_Mo_statement_51 rfl, ?_⟩
  refine ⟨so_const1 d_Mo_statement_54 (by decide) rfl, ?_⟩
  refine ⟨so_istoren d_Mo_statement_55 rfl (by decide) rfl, ?_⟩
  refine ⟨so_iloadn d_Mo_statement_56 rfl rfl, ?_⟩
  refine ⟨so_const1 d_Mo_statement_57 (by decide) rfl, ?_⟩
  refine ⟨so_icmp_ne d_Mo_statement_58 rfl rfl, ?_⟩
  refine ⟨so_iloadn d_Mo_statement_61 rfl rfl, ?_⟩
  refine ⟨so_if_eq d_Mo_statement_62 rfl rfl, ?_⟩
  refine ⟨so_iloadn d_Mo_statement_65 rfl rfl, ?_⟩
  refine ⟨so_const1 d_Mo_statement_66 (by decide) rfl, ?_⟩
  refine ⟨so_calls rfl mc_Mo_isIn mi_Mo mt_Mo_isIn ml_Mo_68 yd_Mo_isIn (by decide) d_Mo_statement_67 rfl, ?_⟩
  refine ⟨so_if_eq d_Mo_statement_70 rfl rfl, ?_⟩
  refine ⟨so_const1 d_Mo_statement_73 (by decide) rfl, ?_⟩
  refine ⟨so_goto d_Mo_statement_74 rfl, ?_⟩
  refine ⟨so_const1 d_Mo_statement_77 (by decide) rfl, ?_⟩
  refine ⟨so_istoren d_Mo_statement_78 rfl (by decide) rfl, ?_⟩
  refine ⟨so_iloadn d_Mo_statement_79 rfl rfl, ?_⟩
  refine ⟨so_const2 d_Mo_statement_80 (by decide) rfl, ?_⟩
  refine ⟨so_icmp_eq d_Mo_statement_82 rfl rfl, ?_⟩
  refine ⟨so_iloadn d_Mo_statement_85 rfl rfl, ?_⟩
  refine ⟨so_const2 d_Mo_statement_86 (by decide) rfl, ?_⟩
  refine ⟨so_icmp_ne d_Mo_statement_88 rfl rfl, ?_⟩
  refine ⟨so_iloadn d_Mo_statement_91 rfl rfl, ?_⟩
  refine ⟨so_if_eq d_Mo_statement_92 rfl rfl, ?_⟩
  refine ⟨so_iloadn d_Mo_statement_95 rfl rfl, ?_⟩
  refine ⟨so_const2 d_Mo_statement_96 (by decide) rfl, ?_⟩
  refine ⟨so_calls rfl mc_Mo_isIn mi_Mo mt_Mo_isIn ml_Mo_68 yd_Mo_isIn (by decide) d_Mo_statement_98 rfl, ?_⟩
  refine ⟨so_if_eq d_Mo_statement_101 rfl rfl, ?_⟩
  refine ⟨so_const1 d_Mo_statement_104 (by decide) rfl, ?_⟩
  refine ⟨so_goto d_Mo_statement_105 rfl, ?_⟩
  refine ⟨so_const1 d_Mo_statement_108 (by decide) rfl, ?_⟩
  refine ⟨so_istoren d_Mo_statement_109 rfl (by decide) rfl, ?_⟩
  refine ⟨so_iloadn d_Mo_statement_110 rfl rfl, ?_⟩
  refine ⟨so_if_ne d_Mo_statement_111 rfl rfl, ?_⟩
  refine ⟨so_const1 d_Mo_statement_114 (by decide) rfl, ?_⟩
  refine ⟨so_iret d_Mo_statement_115 rfl, ?_⟩
  refine ⟨so_aloadn d_Mo_statement_116 rfl rfl, ?_⟩
  refine ⟨so_getr (ci := 8) (k := 0) rfl (by decide) rfl rfl fl_Mo_7 d_Mo_statement_117 rfl, ?_⟩
  refine ⟨so_const3 d_Mo_statement_120 (by decide) rfl, ?_⟩
  refine ⟨so_aloadn d_Mo_statement_123 rfl rfl, ?_⟩
  refine ⟨so_getr (ci := 8) (k := 2) rfl (by decide) rfl rfl fl_Mo_16 d_Mo_statement_124 rfl, ?_⟩
  refine ⟨so_const2 d_Mo_statement_127 (by decide) rfl, ?_⟩
  refine ⟨so_iald d_Mo_statement_129 rfl, ?_⟩
  refine ⟨so_iadd d_Mo_statement_130 rfl, ?_⟩
  refine ⟨so_iloadn d_Mo_statement_131 rfl rfl, ?_⟩
  refine ⟨so_iast d_Mo_statement_132 rfl, ?_⟩
  refine ⟨so_aloadn d_Mo_statement_133 rfl rfl, ?_⟩
  refine ⟨so_getr (ci := 8) (k := 1) rfl (by decide) rfl rfl fl_Mo_13 d_Mo_statement_134 rfl, ?_⟩
  refine ⟨so_const3 d_Mo_statement_137 (by decide) rfl, ?_⟩
  refine ⟨so_aloadn d_Mo_statement_140 rfl rfl, ?_⟩
  refine ⟨so_getr (ci := 8) (k := 2) rfl (by decide) rfl rfl fl_Mo_16 d_Mo_statement_141 rfl, ?_⟩
  refine ⟨so_const2 d_Mo_statement_144 (by decide) rfl, ?_⟩
  refine ⟨so_iald d_Mo_statement_146 rfl, ?_⟩
  refine ⟨so_iadd d_Mo_statement_147 rfl, ?_⟩
  refine ⟨so_iloadn d_Mo_statement_148 rfl rfl, ?_⟩
  refine ⟨so_iast d_Mo_statement_149 rfl, ?_⟩
  refine ⟨so_aloadn d_Mo_statement_150 rfl rfl, ?_⟩
  refine ⟨so_getr (ci := 8) (k := 2) rfl (by decide) rfl rfl fl_Mo_16 d_Mo_statement_151 rfl, ?_⟩
  refine ⟨so_const2 d_Mo_statement_154 (by decide) rfl, ?_⟩
  refine ⟨so_dup2 d_Mo_statement_156 rfl, ?_⟩
  refine ⟨so_iald d_Mo_statement_157 rfl, ?_⟩
  refine ⟨so_const1 d_Mo_statement_158 (by decide) rfl, ?_⟩
  refine ⟨so_iadd d_Mo_statement_159 rfl, ?_⟩
  refine ⟨so_iast d_Mo_statement_160 rfl, ?_⟩
  refine ⟨so_aloadn d_Mo_statement_161 rfl rfl, ?_⟩
  refine ⟨so_getr (ci := 8) (k := 2) rfl (by decide) rfl rfl fl_Mo_16 d_Mo_statement_162 rfl, ?_⟩
  refine ⟨so_const2 d_Mo_statement_165 (by decide) rfl, ?_⟩
  refine ⟨so_iald d_Mo_statement_167 rfl, ?_⟩
  refine ⟨so_iret d_Mo_statement_168 rfl, ?_⟩
  exact trivial
theorem d_Mo_isIn_0 : decode prog_10_method_2_code 0 = .ok (.iload_n 0, 1) := by decide +kernel
theorem d_Mo_isIn_1 : decode prog_10_method_2_code 1 = .ok (.ifCond .lt 12, 3) := by decide +kernel
theorem d_Mo_isIn_4 : decode prog_10_method_2_code 4 = .ok (.iload_n 0, 1) := by decide +kernel
theorem d_Mo_isIn_5 : decode prog_10_method_2_code 5 = .ok (.iload_n 1, 1) := by decide +kernel
theorem d_Mo_isIn_6 : decode prog_10_method_2_code 6 = .ok (.if_icmp .ge 7, 3) := by decide +kernel
theorem d_Mo_isIn_9 : decode prog_10_method_2_code 9 = .ok (.iconst 1, 1) := by decide +kernel
theorem d_Mo_isIn_10 : decode prog_10_method_2_code 10 = .ok (.goto 4, 3) := by decide +kernel
theorem d_Mo_isIn_13 : decode prog_10_method_2_code 13 = .ok (.iconst 0, 1) := by decide +kernel
theorem d_Mo_isIn_14 : decode prog_10_method_2_code 14 = .ok (.ireturn, 1) := by decide +kernel
def tb_Mo_isIn : List pm_I := [
  pm_iload 1 0,
  pm_if 7 2 (fun a => decide (a < 0)),
  pm_iload 3 0,
  pm_iload 4 1,
  pm_icmp 7 5 (fun a b => decide (b ≤ a)),
  pm_const 6 1,
  pm_goto 8,
  pm_const 8 0,
  pm_zret]
def bp_Mo_isIn : List Nat := [0, 1, 4, 5, 6, 9, 10, 13, 14]
set_option maxRecDepth 100000 in
theorem sd_Mo_isIn : pm_Sl prog_10_method_2_code 2 R_Mo "isIn" (some .boolean) pm_Y (pm_b bp_Mo_isIn) 0 tb_Mo_isIn := by
  refine ⟨so_iloadn d_Mo_isIn_0 rfl rfl, ?_⟩
  refine ⟨so_if_lt d_Mo_isIn_1 rfl rfl, ?_⟩
  refine ⟨so_iloadn d_Mo_isIn_4 rfl rfl, ?_⟩
  refine ⟨so_iloadn d_Mo_isIn_5 rfl rfl, ?_⟩
  refine ⟨so_icmp_ge d_Mo_isIn_6 rfl rfl, ?_⟩
  refine ⟨so_const1 d_Mo_isIn_9 (by decide) rfl, ?_⟩
  refine ⟨so_goto d_Mo_isIn_10 rfl, ?_⟩
  refine ⟨so_const1 d_Mo_isIn_13 (by decide) rfl, ?_⟩
  refine ⟨so_zret d_Mo_isIn_14 rfl, ?_⟩
  exact trivial
theorem d_Mo_body_0 : decode prog_10_method_10_code 0 = .ok (.aload_n 0, 1) := by decide +kernel
theorem d_Mo_body_1 : decode prog_10_method_10_code 1 = .ok (.getfield 87, 3) := by decide +kernel
theorem d_Mo_body_4 : decode prog_10_method_10_code 4 = .ok (.bipush 8, 2) := by decide +kernel
theorem d_Mo_body_6 : decode prog_10_method_10_code 6 = .ok (.if_icmp .ge 14, 3) := by decide +kernel
theorem d_Mo_body_9 : decode prog_10_method_10_code 9 = .ok (.aload_n 0, 1) := by decide +kernel
theorem d_Mo_body_10 : decode prog_10_method_10_code 10 = .ok (.invokevirtual 91, 3) := by decide +kernel
theorem d_Mo_body_13 : decode prog_10_method_10_code 13 = .ok (.ifCond .eq 7, 3) := by decide +kernel
theorem d_Mo_body_16 : decode prog_10_method_10_code 16 = .ok (.iconst 1, 1) := by decide +kernel
theorem d_Mo_body_17 : decode prog_10_method_10_code 17 = .ok (.goto 4, 3) := by decide +kernel
theorem d_Mo_body_20 : decode prog_10_method_10_code 20 = .ok (.iconst 0, 1) := by decide +kernel
theorem d_Mo_body_21 : decode prog_10_method_10_code 21 = .ok (.istore_n 2, 1) := by decide +kernel
theorem d_Mo_body_22 : decode prog_10_method_10_code 22 = .ok (.iconst 0, 1) := by decide +kernel
theorem d_Mo_body_23 : decode prog_10_method_10_code 23 = .ok (.istore_n 3, 1) := by decide +kernel
theorem d_Mo_body_24 : decode prog_10_method_10_code 24 = .ok (.iload_n 3, 1) := by decide +kernel
theorem d_Mo_body_25 : decode prog_10_method_10_code 25 = .ok (.aload_n 0, 1) := by decide +kernel
theorem d_Mo_body_26 : decode prog_10_method_10_code 26 = .ok (.getfield 16, 3) := by decide +kernel
theorem d_Mo_body_29 : decode prog_10_method_10_code 29 = .ok (.bipush 8, 2) := by decide +kernel
theorem d_Mo_body_31 : decode prog_10_method_10_code 31 = .ok (.iaload, 1) := by decide +kernel
theorem d_Mo_body_32 : decode prog_10_method_10_code 32 = .ok (.if_icmp .ge 55, 3) := by decide +kernel
theorem d_Mo_body_35 : decode prog_10_method_10_code 35 = .ok (.iload_n 2, 1) := by decide +kernel
theorem d_Mo_body_36 : decode prog_10_method_10_code 36 = .ok (.ifCond .eq 51, 3) := by decide +kernel
theorem d_Mo_body_39 : decode prog_10_method_10_code 39 = .ok (.aload_n 0, 1) := by decide +kernel
theorem d_Mo_body_40 : decode prog_10_method_10_code 40 = .ok (.getfield 7, 3) := by decide +kernel
theorem d_Mo_body_43 : decode prog_10_method_10_code 43 = .ok (.bipush 64, 2) := by decide +kernel
theorem d_Mo_body_45 : decode prog_10_method_10_code 45 = .ok (.aload_n 0, 1) := by decide +kernel
theorem d_Mo_body_46 : decode prog_10_method_10_code 46 = .ok (.getfield 87, 3) := by decide +kernel
theorem d_Mo_body_49 : decode prog_10_method_10_code 49 = .ok (.imul, 1) := by decide +kernel
theorem d_Mo_body_50 : decode prog_10_method_10_code 50 = .ok (.iload_n 3, 1) := by decide +kernel
theorem d_Mo_body_51 : decode prog_10_method_10_code 51 = .ok (.iadd, 1) := by decide +kernel
theorem d_Mo_body_52 : decode prog_10_method_10_code 52 = .ok (.aload_n 0, 1) := by decide +kernel
theorem d_Mo_body_53 : decode prog_10_method_10_code 53 = .ok (.bipush 8, 2) := by decide +kernel
theorem d_Mo_body_55 : decode prog_10_method_10_code 55 = .ok (.iload_n 3, 1) := by decide +kernel
theorem d_Mo_body_56 : decode prog_10_method_10_code 56 = .ok (.invokevirtual 72, 3) := by decide +kernel
theorem d_Mo_body_59 : decode prog_10_method_10_code 59 = .ok (.iastore, 1) := by decide +kernel
theorem d_Mo_body_60 : decode prog_10_method_10_code 60 = .ok (.aload_n 0, 1) := by decide +kernel
theorem d_Mo_body_61 : decode prog_10_method_10_code 61 = .ok (.getfield 13, 3) := by decide +kernel
theorem d_Mo_body_64 : decode prog_10_method_10_code 64 = .ok (.bipush 64, 2) := by decide +kernel
theorem d_Mo_body_66 : decode prog_10_method_10_code 66 = .ok (.aload_n 0, 1) := by decide +kernel
theorem d_Mo_body_67 : decode prog_10_method_10_code 67 = .ok (.getfield 87, 3) := by decide +kernel
theorem d_Mo_body_70 : decode prog_10_method_10_code 70 = .ok (.imul, 1) := by decide +kernel
theorem d_Mo_body_71 : decode prog_10_method_10_code 71 = .ok (.iload_n 3, 1) := by decide +kernel
theorem d_Mo_body_72 : decode prog_10_method_10_code 72 = .ok (.iadd, 1) := by decide +kernel
theorem d_Mo_body_73 : decode prog_10_method_10_code 73 = .ok (.aload_n 0, 1) := by decide +kernel
theorem d_Mo_body_74 : decode prog_10_method_10_code 74 = .ok (.bipush 8, 2) := by decide +kernel
theorem d_Mo_body_76 : decode prog_10_method_10_code 76 = .ok (.iload_n 3, 1) := by decide +kernel
theorem d_Mo_body_77 : decode prog_10_method_10_code 77 = .ok (.invokevirtual 95, 3) := by decide +kernel
theorem d_Mo_body_80 : decode prog_10_method_10_code 80 = .ok (.iastore, 1) := by decide +kernel
theorem d_Mo_body_81 : decode prog_10_method_10_code 81 = .ok (.iinc 3 1, 3) := by decide +kernel
theorem d_Mo_body_84 : decode prog_10_method_10_code 84 = .ok (.goto (-60), 3) := by decide +kernel
theorem d_Mo_body_87 : decode prog_10_method_10_code 87 = .ok (.iload_n 2, 1) := by decide +kernel
theorem d_Mo_body_88 : decode prog_10_method_10_code 88 = .ok (.ifCond .eq 42, 3) := by decide +kernel
theorem d_Mo_body_91 : decode prog_10_method_10_code 91 = .ok (.aload_n 0, 1) := by decide +kernel
theorem d_Mo_body_92 : decode prog_10_method_10_code 92 = .ok (.getfield 16, 3) := by decide +kernel
theorem d_Mo_body_95 : decode prog_10_method_10_code 95 = .ok (.aload_n 0, 1) := by decide +kernel
theorem d_Mo_body_96 : decode prog_10_method_10_code 96 = .ok (.getfield 87, 3) := by decide +kernel
theorem d_Mo_body_99 : decode prog_10_method_10_code 99 = .ok (.aload_n 0, 1) := by decide +kernel
theorem d_Mo_body_100 : decode prog_10_method_10_code 100 = .ok (.getfield 16, 3) := by decide +kernel
theorem d_Mo_body_103 : decode prog_10_method_10_code 103 = .ok (.bipush 8, 2) := by decide +kernel
theorem d_Mo_body_105 : decode prog_10_method_10_code 105 = .ok (.iaload, 1) := by decide +kernel
theorem d_Mo_body_106 : decode prog_10_method_10_code 106 = .ok (.iastore, 1) := by decide +kernel
theorem d_Mo_body_107 : decode prog_10_method_10_code 107 = .ok (.aload_n 0, 1) := by decide +kernel
theorem d_Mo_body_108 : decode prog_10_method_10_code 108 = .ok (.getfield 19, 3) := by decide +kernel
theorem d_Mo_body_111 : decode prog_10_method_10_code 111 = .ok (.aload_n 0, 1) := by decide +kernel
theorem d_Mo_body_112 : decode prog_10_method_10_code 112 = .ok (.getfield 87, 3) := by decide +kernel
theorem d_Mo_body_115 : decode prog_10_method_10_code 115 = .ok (.iload_n 1, 1) := by decide +kernel
theorem d_Mo_body_116 : decode prog_10_method_10_code 116 = .ok (.bipush 15, 2) := by decide +kernel
theorem d_Mo_body_118 : decode prog_10_method_10_code 118 = .ok (.iand, 1) := by decide +kernel
theorem d_Mo_body_119 : decode prog_10_method_10_code 119 = .ok (.iastore, 1) := by decide +kernel
theorem d_Mo_body_120 : decode prog_10_method_10_code 120 = .ok (.aload_n 0, 1) := by decide +kernel
theorem d_Mo_body_121 : decode prog_10_method_10_code 121 = .ok (.dup, 1) := by decide +kernel
theorem d_Mo_body_122 : decode prog_10_method_10_code 122 = .ok (.getfield 87, 3) := by decide +kernel
theorem d_Mo_body_125 : decode prog_10_method_10_code 125 = .ok (.iconst 1, 1) := by decide +kernel
theorem d_Mo_body_126 : decode prog_10_method_10_code 126 = .ok (.iadd, 1) := by decide +kernel
theorem d_Mo_body_127 : decode prog_10_method_10_code 127 = .ok (.putfield 87, 3) := by decide +kernel
theorem d_Mo_body_130 : decode prog_10_method_10_code 130 = .ok (.aload_n 0, 1) := by decide +kernel
theorem d_Mo_body_131 : decode prog_10_method_10_code 131 = .ok (.getfield 16, 3) := by decide +kernel
theorem d_Mo_body_134 : decode prog_10_method_10_code 134 = .ok (.bipush 8, 2) := by decide +kernel
theorem d_Mo_body_136 : decode prog_10_method_10_code 136 = .ok (.iconst 0, 1) := by decide +kernel
theorem d_Mo_body_137 : decode prog_10_method_10_code 137 = .ok (.iastore, 1) := by decide +kernel
theorem d_Mo_body_138 : decode prog_10_method_10_code 138 = .ok (.iload_n 2, 1) := by decide +kernel
theorem d_Mo_body_139 : decode prog_10_method_10_code 139 = .ok (.ifCond .eq 12, 3) := by decide +kernel
theorem d_Mo_body_142 : decode prog_10_method_10_code 142 = .ok (.aload_n 0, 1) := by decide +kernel
theorem d_Mo_body_143 : decode prog_10_method_10_code 143 = .ok (.getfield 87, 3) := by decide +kernel
theorem d_Mo_body_146 : decode prog_10_method_10_code 146 = .ok (.iconst 1, 1) := by decide +kernel
theorem d_Mo_body_147 : decode prog_10_method_10_code 147 = .ok (.isub, 1) := by decide +kernel
theorem d_Mo_body_148 : decode prog_10_method_10_code 148 = .ok (.goto 4, 3) := by decide +kernel
theorem d_Mo_body_151 : decode prog_10_method_10_code 151 = .ok (.iconst (-1), 1) := by decide +kernel
theorem d_Mo_body_152 : decode prog_10_method_10_code 152 = .ok (.ireturn, 1) := by decide +kernel
def tb_Mo_body : List pm_I := [
  pm_aload 1 0,
  pm_geti 2 8 4,
  pm_const 3 8,
  pm_icmp 9 4 (fun a b => decide (b ≤ a)),
  pm_aload 5 0,
  pm_callv 6 73 1 8,
  pm_if 9 7 (fun a => decide (a = 0)),
  pm_const 8 1,
  pm_goto 10,
  pm_const 10 0,
  pm_istore 11 2,
  pm_const 12 0,
  pm_istore 13 3,
  pm_iload 14 3,
  pm_aload 15 0,
  pm_getr 16 8 2,
  pm_const 17 8,
  pm_iald 18 0,
  pm_icmp 49 19 (fun a b => decide (b ≤ a)),
  pm_iload 20 2,
  pm_if 49 21 (fun a => decide (a = 0)),
  pm_aload 22 0,
  pm_getr 23 8 0,
  pm_const 24 64,
  pm_aload 25 0,
  pm_geti 26 8 4,
  pm_bin 27 (fun a b => a * b),
  pm_iload 28 3,
  pm_bin 29 (fun a b => a + b),
  pm_aload 30 0,
  pm_const 31 8,
  pm_iload 32 3,
  pm_callv 33 74 3 8,
  pm_iast 34,
  pm_aload 35 0,
  pm_getr 36 8 1,
  pm_const 37 64,
  pm_aload 38 0,
  pm_geti 39 8 4,
  pm_bin 40 (fun a b => a * b),
  pm_iload 41 3,
  pm_bin 42 (fun a b => a + b),
  pm_aload 43 0,
  pm_const 44 8,
  pm_iload 45 3,
  pm_callv 46 78 3 8,
  pm_iast 47,
  pm_iinc 48 3 1,
  pm_goto 13,
  pm_iload 50 2,
  pm_if 74 51 (fun a => decide (a = 0)),
  pm_aload 52 0,
  pm_getr 53 8 2,
  pm_aload 54 0,
  pm_geti 55 8 4,
  pm_aload 56 0,
  pm_getr 57 8 2,
  pm_const 58 8,
  pm_iald 59 0,
  pm_iast 60,
  pm_aload 61 0,
  pm_getr 62 8 3,
  pm_aload 63 0,
  pm_geti 64 8 4,
  pm_iload 65 1,
  pm_const 66 15,
  pm_bin 67 (fun a b => a &&& b),
  pm_iast 68,
  pm_aload 69 0,
  pm_dup 70,
  pm_geti 71 8 4,
  pm_const 72 1,
  pm_bin 73 (fun a b => a + b),
  pm_puti 74 8 4,
  pm_aload 75 0,
  pm_getr 76 8 2,
  pm_const 77 8,
  pm_const 78 0,
  pm_iast 79,
  pm_iload 80 2,
  pm_if 86 81 (fun a => decide (a = 0)),
  pm_aload 82 0,
  pm_geti 83 8 4,
  pm_const 84 1,
  pm_bin 85 (fun a b => a - b),
  pm_goto 87,
  pm_const 87 (-1),
  pm_iret]
def bp_Mo_body : List Nat := [0, 1, 4, 6, 9, 10, 13, 16, 17, 20, 21, 22, 23, 24, 25, 26, 29, 31, 32, 35, 36, 39, 40, 43, 45, 46, 49, 50, 51, 52, 53, 55, 56, 59, 60, 61, 64, 66, 67, 70, 71, 72, 73, 74, 76, 77, 80, 81, 84, 87, 88, 91, 92, 95, 96, 99, 100, 103, 105, 106, 107, 108, 111, 112, 115, 116, 118, 119, 120, 121, 122, 125, 126, 127, 130, 131, 134, 136, 137, 138, 139, 142, 143, 146, 147, 148, 151, 152]
set_option maxRecDepth 100000 in
theorem sd_Mo_body : pm_Sl prog_10_method_10_code 4 R_Mo "body" (some .int) pm_Y (pm_b bp_Mo_body) 0 tb_Mo_body := by
  refine ⟨so_aloadn d_Mo_body_0 rfl rfl, ?_⟩
  refine ⟨so_geti (ci := 8) (k := 4) rfl (by decide) rfl rfl fl_Mo_87 d_Mo_body_1 rfl, ?_⟩
  refine ⟨so_const2 d_Mo_body_4 (by decide) rfl, ?_⟩
  refine ⟨so_icmp_ge d_Mo_body_6 rfl rfl, ?_⟩
  refine ⟨so_aloadn d_Mo_body_9 rfl rfl, ?_⟩
  refine ⟨so_callv (ci := 8) rfl rfl mc_Mo_isWhole mi_Mo mj_Mo_isWhole ms_Mo_isWhole ml_Mo_91 yd_Mo_isWhole (by decide) d_Mo_body_10 rfl, ?_⟩
  refine ⟨so_if_eq d_Mo_body_13 rfl rfl, ?_⟩
  refine ⟨so_const1 d_Mo_body_16 (by decide) rfl, ?_⟩
  refine ⟨so_goto d_Mo_body_17 rfl, ?_⟩
  refine ⟨so_const1 d_Mo_body_20 (by decide) rfl, ?_⟩
  refine ⟨so_istoren d_Mo_body_21 rfl (by decide) rfl, ?_⟩
  refine ⟨so_const1 d_Mo_body_22 (by decide) rfl, ?_⟩
  refine ⟨so_istoren d_Mo_body_23 rfl (by decide) rfl, ?_⟩
  refine ⟨so_iloadn d_Mo_body_24 rfl rfl, ?_⟩
  refine ⟨so_aloadn d_Mo_body_25 rfl rfl, ?_⟩
  refine ⟨so_getr (ci := 8) (k := 2) rfl (by decide) rfl rfl fl_Mo_16 d_Mo_body_26 rfl, ?_⟩
  refine ⟨so_const2 d_Mo_body_29 (by decide) rfl, ?_⟩
  refine ⟨so_iald d_Mo_body_31 rfl, ?_⟩
  refine ⟨so_icmp_ge d_Mo_body_32 rfl rfl, ?_⟩
  refine ⟨so_iloadn d_Mo_body_35 rfl rfl, ?_⟩
  refine ⟨so_if_eq d_Mo_body_36 rfl rfl, ?_⟩
  refine ⟨so_aloadn d_Mo_body_39 rfl rfl, ?_⟩
  refine ⟨so_getr (ci := 8) (k := 0) rfl (by decide) rfl rfl fl_Mo_7 d_Mo_body_40 rfl, ?_⟩
  refine ⟨so_const2 d_Mo_body_43 (by decide) rfl, ?_⟩
  refine ⟨so_aloadn d_Mo_body_45 rfl rfl, ?_⟩
  refine ⟨so_geti (ci := 8) (k := 4) rfl (by decide) rfl rfl fl_Mo_87 d_Mo_body_46 rfl, ?_⟩
  refine ⟨so_imul d_Mo_body_49 rfl, ?_⟩
  refine ⟨so_iloadn d_Mo_body_50 rfl rfl, ?_⟩
  refine ⟨so_iadd d_Mo_body_51 rfl, ?_⟩
  refine ⟨so_aloadn d_Mo_body_52 rfl rfl, ?_⟩
  refine ⟨so_const2 d_Mo_body_53 (by decide) rfl, ?_⟩
  refine ⟨so_iloadn d_Mo_body_55 rfl rfl, ?_⟩
  refine ⟨so_callv (ci := 8) rfl rfl mc_Mo_kindAt mi_Mo mj_Mo_kindAt ms_Mo_kindAt ml_Mo_72 yd_Mo_kindAt (by decide) d_Mo_body_56 rfl, ?_⟩
  refine ⟨so_iast d_Mo_body_59 rfl, ?_⟩
  refine ⟨so_aloadn d_Mo_body_60 rfl rfl, ?_⟩
  refine ⟨so_getr (ci := 8) (k := 1) rfl (by decide) rfl rfl fl_Mo_13 d_Mo_body_61 rfl, ?_⟩
  refine ⟨so_const2 d_Mo_body_64 (by decide) rfl, ?_⟩
  refine ⟨so_aloadn d_Mo_body_66 rfl rfl, ?_⟩
  refine ⟨so_geti (ci := 8) (k := 4) rfl (by decide) rfl rfl fl_Mo_87 d_Mo_body_67 rfl, ?_⟩
  refine ⟨so_imul d_Mo_body_70 rfl, ?_⟩
  refine ⟨so_iloadn d_Mo_body_71 rfl rfl, ?_⟩
  refine ⟨so_iadd d_Mo_body_72 rfl, ?_⟩
  refine ⟨so_aloadn d_Mo_body_73 rfl rfl, ?_⟩
  refine ⟨so_const2 d_Mo_body_74 (by decide) rfl, ?_⟩
  refine ⟨so_iloadn d_Mo_body_76 rfl rfl, ?_⟩
  refine ⟨so_callv (ci := 8) rfl rfl mc_Mo_numberAt mi_Mo mj_Mo_numberAt ms_Mo_numberAt ml_Mo_95 yd_Mo_numberAt (by decide) d_Mo_body_77 rfl, ?_⟩
  refine ⟨so_iast d_Mo_body_80 rfl, ?_⟩
  refine ⟨so_iinc d_Mo_body_81 (by decide) (by decide) rfl, ?_⟩
  refine ⟨so_goto d_Mo_body_84 rfl, ?_⟩
  refine ⟨so_iloadn d_Mo_body_87 rfl rfl, ?_⟩
  refine ⟨so_if_eq d_Mo_body_88 rfl rfl, ?_⟩
  refine ⟨so_aloadn d_Mo_body_91 rfl rfl, ?_⟩
  refine ⟨so_getr (ci := 8) (k := 2) rfl (by decide) rfl rfl fl_Mo_16 d_Mo_body_92 rfl, ?_⟩
  refine ⟨so_aloadn d_Mo_body_95 rfl rfl, ?_⟩
  refine ⟨so_geti (ci := 8) (k := 4) rfl (by decide) rfl rfl fl_Mo_87 d_Mo_body_96 rfl, ?_⟩
  refine ⟨so_aloadn d_Mo_body_99 rfl rfl, ?_⟩
  refine ⟨so_getr (ci := 8) (k := 2) rfl (by decide) rfl rfl fl_Mo_16 d_Mo_body_100 rfl, ?_⟩
  refine ⟨so_const2 d_Mo_body_103 (by decide) rfl, ?_⟩
  refine ⟨so_iald d_Mo_body_105 rfl, ?_⟩
  refine ⟨so_iast d_Mo_body_106 rfl, ?_⟩
  refine ⟨so_aloadn d_Mo_body_107 rfl rfl, ?_⟩
  refine ⟨so_getr (ci := 8) (k := 3) rfl (by decide) rfl rfl fl_Mo_19 d_Mo_body_108 rfl, ?_⟩
  refine ⟨so_aloadn d_Mo_body_111 rfl rfl, ?_⟩
  refine ⟨so_geti (ci := 8) (k := 4) rfl (by decide) rfl rfl fl_Mo_87 d_Mo_body_112 rfl, ?_⟩
  refine ⟨so_iloadn d_Mo_body_115 rfl rfl, ?_⟩
  refine ⟨so_const2 d_Mo_body_116 (by decide) rfl, ?_⟩
  refine ⟨so_iand d_Mo_body_118 rfl, ?_⟩
  refine ⟨so_iast d_Mo_body_119 rfl, ?_⟩
  refine ⟨so_aloadn d_Mo_body_120 rfl rfl, ?_⟩
  refine ⟨so_dup d_Mo_body_121 rfl, ?_⟩
  refine ⟨so_geti (ci := 8) (k := 4) rfl (by decide) rfl rfl fl_Mo_87 d_Mo_body_122 rfl, ?_⟩
  refine ⟨so_const1 d_Mo_body_125 (by decide) rfl, ?_⟩
  refine ⟨so_iadd d_Mo_body_126 rfl, ?_⟩
  refine ⟨so_puti (ci := 8) (k := 4) rfl (by decide) rfl rfl (Or.inl ⟨rfl, fl_Mo_87⟩) d_Mo_body_127 rfl, ?_⟩
  refine ⟨so_aloadn d_Mo_body_130 rfl rfl, ?_⟩
  refine ⟨so_getr (ci := 8) (k := 2) rfl (by decide) rfl rfl fl_Mo_16 d_Mo_body_131 rfl, ?_⟩
  refine ⟨so_const2 d_Mo_body_134 (by decide) rfl, ?_⟩
  refine ⟨so_const1 d_Mo_body_136 (by decide) rfl, ?_⟩
  refine ⟨so_iast d_Mo_body_137 rfl, ?_⟩
  refine ⟨so_iloadn d_Mo_body_138 rfl rfl, ?_⟩
  refine ⟨so_if_eq d_Mo_body_139 rfl rfl, ?_⟩
  refine ⟨so_aloadn d_Mo_body_142 rfl rfl, ?_⟩
  refine ⟨so_geti (ci := 8) (k := 4) rfl (by decide) rfl rfl fl_Mo_87 d_Mo_body_143 rfl, ?_⟩
  refine ⟨so_const1 d_Mo_body_146 (by decide) rfl, ?_⟩
  refine ⟨so_isub d_Mo_body_147 rfl, ?_⟩
  refine ⟨so_goto d_Mo_body_148 rfl, ?_⟩
  refine ⟨so_const1 d_Mo_body_151 (by decide) rfl, ?_⟩
  refine ⟨so_iret d_Mo_body_152 rfl, ?_⟩
  exact trivial
theorem d_Mo_isWhole_0 : decode prog_10_method_9_code 0 = .ok (.iconst 0, 1) := by decide +kernel
theorem d_Mo_isWhole_1 : decode prog_10_method_9_code 1 = .ok (.istore_n 1, 1) := by decide +kernel
theorem d_Mo_isWhole_2 : decode prog_10_method_9_code 2 = .ok (.iconst 0, 1) := by decide +kernel
theorem d_Mo_isWhole_3 : decode prog_10_method_9_code 3 = .ok (.istore_n 2, 1) := by decide +kernel
theorem d_Mo_isWhole_4 : decode prog_10_method_9_code 4 = .ok (.iload_n 2, 1) := by decide +kernel
theorem d_Mo_isWhole_5 : decode prog_10_method_9_code 5 = .ok (.aload_n 0, 1) := by decide +kernel
theorem d_Mo_isWhole_6 : decode prog_10_method_9_code 6 = .ok (.getfield 16, 3) := by decide +kernel
theorem d_Mo_isWhole_9 : decode prog_10_method_9_code 9 = .ok (.bipush 8, 2) := by decide +kernel
theorem d_Mo_isWhole_11 : decode prog_10_method_9_code 11 = .ok (.iaload, 1) := by decide +kernel
theorem d_Mo_isWhole_12 : decode prog_10_method_9_code 12 = .ok (.if_icmp .ge 100, 3) := by decide +kernel
theorem d_Mo_isWhole_15 : decode prog_10_method_9_code 15 = .ok (.aload_n 0, 1) := by decide +kernel
theorem d_Mo_isWhole_16 : decode prog_10_method_9_code 16 = .ok (.bipush 8, 2) := by decide +kernel
theorem d_Mo_isWhole_18 : decode prog_10_method_9_code 18 = .ok (.iload_n 2, 1) := by decide +kernel
theorem d_Mo_isWhole_19 : decode prog_10_method_9_code 19 = .ok (.invokevirtual 72, 3) := by decide +kernel
theorem d_Mo_isWhole_22 : decode prog_10_method_9_code 22 = .ok (.istore_n 3, 1) := by decide +kernel
theorem d_Mo_isWhole_23 : decode prog_10_method_9_code 23 = .ok (.aload_n 0, 1) := by decide +kernel
theorem d_Mo_isWhole_24 : decode prog_10_method_9_code 24 = .ok (.bipush 8, 2) := by decide +kernel
theorem d_Mo_isWhole_26 : decode prog_10_method_9_code 26 = .ok (.iload_n 2, 1) := by decide +kernel
theorem d_Mo_isWhole_27 : decode prog_10_method_9_code 27 = .ok (.invokevirtual 80, 3) := by decide +kernel
theorem d_Mo_isWhole_30 : decode prog_10_method_9_code 30 = .ok (.istore 4, 2) := by decide +kernel
theorem d_Mo_isWhole_32 : decode prog_10_method_9_code 32 = .ok (.iload_n 3, 1) := by decide +kernel
theorem d_Mo_isWhole_33 : decode prog_10_method_9_code 33 = .ok (.invokestatic 76, 3) := by decide +kernel
theorem d_Mo_isWhole_36 : decode prog_10_method_9_code 36 = .ok (.ifCond .eq 6, 3) := by decide +kernel
theorem d_Mo_isWhole_39 : decode prog_10_method_9_code 39 = .ok (.iinc 1 1, 3) := by decide +kernel
theorem d_Mo_isWhole_42 : decode prog_10_method_9_code 42 = .ok (.iload_n 3, 1) := by decide +kernel
theorem d_Mo_isWhole_43 : decode prog_10_method_9_code 43 = .ok (.iconst 5, 1) := by decide +kernel
theorem d_Mo_isWhole_44 : decode prog_10_method_9_code 44 = .ok (.if_icmp .ne 6, 3) := by decide +kernel
theorem d_Mo_isWhole_47 : decode prog_10_method_9_code 47 = .ok (.iinc 1 (-1), 3) := by decide +kernel
theorem d_Mo_isWhole_50 : decode prog_10_method_9_code 50 = .ok (.iload_n 3, 1) := by decide +kernel
theorem d_Mo_isWhole_51 : decode prog_10_method_9_code 51 = .ok (.iconst 5, 1) := by decide +kernel
theorem d_Mo_isWhole_52 : decode prog_10_method_9_code 52 = .ok (.if_icmp .ne 10, 3) := by decide +kernel
theorem d_Mo_isWhole_55 : decode prog_10_method_9_code 55 = .ok (.iload 4, 2) := by decide +kernel
theorem d_Mo_isWhole_57 : decode prog_10_method_9_code 57 = .ok (.ifCond .ge 5, 3) := by decide +kernel
theorem d_Mo_isWhole_60 : decode prog_10_method_9_code 60 = .ok (.iconst 0, 1) := by decide +kernel
theorem d_Mo_isWhole_61 : decode prog_10_method_9_code 61 = .ok (.ireturn, 1) := by decide +kernel
theorem d_Mo_isWhole_62 : decode prog_10_method_9_code 62 = .ok (.iload_n 3, 1) := by decide +kernel
theorem d_Mo_isWhole_63 : decode prog_10_method_9_code 63 = .ok (.bipush 7, 2) := by decide +kernel
theorem d_Mo_isWhole_65 : decode prog_10_method_9_code 65 = .ok (.if_icmp .eq 6, 3) := by decide +kernel
theorem d_Mo_isWhole_68 : decode prog_10_method_9_code 68 = .ok (.goto 38, 3) := by decide +kernel
theorem d_Mo_isWhole_71 : decode prog_10_method_9_code 71 = .ok (.iload 4, 2) := by decide +kernel
theorem d_Mo_isWhole_73 : decode prog_10_method_9_code 73 = .ok (.ifCond .lt 31, 3) := by decide +kernel
theorem d_Mo_isWhole_76 : decode prog_10_method_9_code 76 = .ok (.aload_n 0, 1) := by decide +kernel
theorem d_Mo_isWhole_77 : decode prog_10_method_9_code 77 = .ok (.bipush 8, 2) := by decide +kernel
theorem d_Mo_isWhole_79 : decode prog_10_method_9_code 79 = .ok (.iload 4, 2) := by decide +kernel
theorem d_Mo_isWhole_81 : decode prog_10_method_9_code 81 = .ok (.invokevirtual 72, 3) := by decide +kernel
theorem d_Mo_isWhole_84 : decode prog_10_method_9_code 84 = .ok (.bipush 6, 2) := by decide +kernel
theorem d_Mo_isWhole_86 : decode prog_10_method_9_code 86 = .ok (.if_icmp .ne 18, 3) := by decide +kernel
theorem d_Mo_isWhole_89 : decode prog_10_method_9_code 89 = .ok (.aload_n 0, 1) := by decide +kernel
theorem d_Mo_isWhole_90 : decode prog_10_method_9_code 90 = .ok (.bipush 8, 2) := by decide +kernel
theorem d_Mo_isWhole_92 : decode prog_10_method_9_code 92 = .ok (.iload 4, 2) := by decide +kernel
theorem d_Mo_isWhole_94 : decode prog_10_method_9_code 94 = .ok (.iconst 1, 1) := by decide +kernel
theorem d_Mo_isWhole_95 : decode prog_10_method_9_code 95 = .ok (.iadd, 1) := by decide +kernel
theorem d_Mo_isWhole_96 : decode prog_10_method_9_code 96 = .ok (.iconst 1, 1) := by decide +kernel
theorem d_Mo_isWhole_97 : decode prog_10_method_9_code 97 = .ok (.invokevirtual 83, 3) := by decide +kernel
theorem d_Mo_isWhole_100 : decode prog_10_method_9_code 100 = .ok (.iload_n 2, 1) := by decide +kernel
theorem d_Mo_isWhole_101 : decode prog_10_method_9_code 101 = .ok (.if_icmp .ge 5, 3) := by decide +kernel
theorem d_Mo_isWhole_104 : decode prog_10_method_9_code 104 = .ok (.iconst 0, 1) := by decide +kernel
theorem d_Mo_isWhole_105 : decode prog_10_method_9_code 105 = .ok (.ireturn, 1) := by decide +kernel
theorem d_Mo_isWhole_106 : decode prog_10_method_9_code 106 = .ok (.iinc 2 1, 3) := by decide +kernel
theorem d_Mo_isWhole_109 : decode prog_10_method_9_code 109 = .ok (.goto (-105), 3) := by decide +kernel
theorem d_Mo_isWhole_112 : decode prog_10_method_9_code 112 = .ok (.iload_n 1, 1) := by decide +kernel
theorem d_Mo_isWhole_113 : decode prog_10_method_9_code 113 = .ok (.ifCond .ne 7, 3) := by decide +kernel
theorem d_Mo_isWhole_116 : decode prog_10_method_9_code 116 = .ok (.iconst 1, 1) := by decide +kernel
theorem d_Mo_isWhole_117 : decode prog_10_method_9_code 117 = .ok (.goto 4, 3) := by decide +kernel
theorem d_Mo_isWhole_120 : decode prog_10_method_9_code 120 = .ok (.iconst 0, 1) := by decide +kernel
theorem d_Mo_isWhole_121 : decode prog_10_method_9_code 121 = .ok (.ireturn, 1) := by decide +kernel
def tb_Mo_isWhole : List pm_I := [
  pm_const 1 0,
  pm_istore 2 1,
  pm_const 3 0,
  pm_istore 4 2,
  pm_iload 5 2,
  pm_aload 6 0,
  pm_getr 7 8 2,
  pm_const 8 8,
  pm_iald 9 0,
  pm_icmp 60 10 (fun a b => decide (b ≤ a)),
  pm_aload 11 0,
  pm_const 12 8,
  pm_iload 13 2,
  pm_callv 14 74 3 8,
  pm_istore 15 3,
  pm_aload 16 0,
  pm_const 17 8,
  pm_iload 18 2,
  pm_callv 19 75 3 8,
  pm_istore 20 4,
  pm_iload 21 3,
  pm_calls 22 76 1,
  pm_if 24 23 (fun a => decide (a = 0)),
  pm_iinc 24 1 1,
  pm_iload 25 3,
  pm_const 26 5,
  pm_icmp 28 27 (fun a b => decide (a ≠ b)),
  pm_iinc 28 1 (-1),
  pm_iload 29 3,
  pm_const 30 5,
  pm_icmp 35 31 (fun a b => decide (a ≠ b)),
  pm_iload 32 4,
  pm_if 35 33 (fun a => decide (0 ≤ a)),
  pm_const 34 0,
  pm_zret,
  pm_iload 36 3,
  pm_const 37 7,
  pm_icmp 39 38 (fun a b => decide (a = b)),
  pm_goto 58,
  pm_iload 40 4,
  pm_if 56 41 (fun a => decide (a < 0)),
  pm_aload 42 0,
  pm_const 43 8,
  pm_iload 44 4,
  pm_callv 45 74 3 8,
  pm_const 46 6,
  pm_icmp 56 47 (fun a b => decide (a ≠ b)),
  pm_aload 48 0,
  pm_const 49 8,
  pm_iload 50 4,
  pm_const 51 1,
  pm_bin 52 (fun a b => a + b),
  pm_const 53 1,
  pm_callv 54 77 4 8,
  pm_iload 55 2,
  pm_icmp 58 56 (fun a b => decide (b ≤ a)),
  pm_const 57 0,
  pm_zret,
  pm_iinc 59 2 1,
  pm_goto 4,
  pm_iload 61 1,
  pm_if 64 62 (fun a => decide (a ≠ 0)),
  pm_const 63 1,
  pm_goto 65,
  pm_const 65 0,
  pm_zret]
def bp_Mo_isWhole : List Nat := [0, 1, 2, 3, 4, 5, 6, 9, 11, 12, 15, 16, 18, 19, 22, 23, 24, 26, 27, 30, 32, 33, 36, 39, 42, 43, 44, 47, 50, 51, 52, 55, 57, 60, 61, 62, 63, 65, 68, 71, 73, 76, 77, 79, 81, 84, 86, 89, 90, 92, 94, 95, 96, 97, 100, 101, 104, 105, 106, 109, 112, 113, 116, 117, 120, 121]
set_option maxRecDepth 100000 in
theorem sd_Mo_isWhole : pm_Sl prog_10_method_9_code 5 R_Mo "isWhole" (some .boolean) pm_Y (pm_b bp_Mo_isWhole) 0 tb_Mo_isWhole := by
  refine ⟨so_const1 d_Mo_isWhole_0 (by decide) rfl, ?_⟩
  refine ⟨so_istoren d_Mo_isWhole_1 rfl (by decide) rfl, ?_⟩
  refine ⟨so_const1 d_Mo_isWhole_2 (by decide) rfl, ?_⟩
  refine ⟨so_istoren d_Mo_isWhole_3 rfl (by decide) rfl, ?_⟩
  refine ⟨so_iloadn d_Mo_isWhole_4 rfl rfl, ?_⟩
  refine ⟨so_aloadn d_Mo_isWhole_5 rfl rfl, ?_⟩
  refine ⟨so_getr (ci := 8) (k := 2) rfl (by decide) rfl rfl fl_Mo_16 d_Mo_isWhole_6 rfl, ?_⟩
  refine ⟨so_const2 d_Mo_isWhole_9 (by decide) rfl, ?_⟩
  refine ⟨so_iald d_Mo_isWhole_11 rfl, ?_⟩
  refine ⟨so_icmp_ge d_Mo_isWhole_12 rfl rfl, ?_⟩
  refine ⟨so_aloadn d_Mo_isWhole_15 rfl rfl, ?_⟩
  refine ⟨so_const2 d_Mo_isWhole_16 (by decide) rfl, ?_⟩
  refine ⟨so_iloadn d_Mo_isWhole_18 rfl rfl, ?_⟩
  refine ⟨so_callv (ci := 8) rfl rfl mc_Mo_kindAt mi_Mo mj_Mo_kindAt ms_Mo_kindAt ml_Mo_72 yd_Mo_kindAt (by decide) d_Mo_isWhole_19 rfl, ?_⟩
  refine ⟨so_istoren d_Mo_isWhole_22 rfl (by decide) rfl, ?_⟩
  refine ⟨so_aloadn d_Mo_isWhole_23 rfl rfl, ?_⟩
  refine ⟨so_const2 d_Mo_isWhole_24 (by decide) rfl, ?_⟩
  refine ⟨so_iloadn d_Mo_isWhole_26 rfl rfl, ?_⟩
  refine ⟨so_callv (ci := 8) rfl rfl mc_Mo_openerOf mi_Mo mj_Mo_openerOf ms_Mo_openerOf ml_Mo_80 yd_Mo_openerOf (by decide) d_Mo_isWhole_27 rfl, ?_⟩
  refine ⟨so_istore d_Mo_isWhole_30 (by decide) rfl, ?_⟩
  refine ⟨so_iloadn d_Mo_isWhole_32 rfl rfl, ?_⟩
  refine ⟨so_calls rfl mc_Mo_opens mi_Mo mt_Mo_opens ml_Mo_76 yd_Mo_opens (by decide) d_Mo_isWhole_33 rfl, ?_⟩
  refine ⟨so_if_eq d_Mo_isWhole_36 rfl rfl, ?_⟩
  refine ⟨so_iinc d_Mo_isWhole_39 (by decide) (by decide) rfl, ?_⟩
  refine ⟨so_iloadn d_Mo_isWhole_42 rfl rfl, ?_⟩
  refine ⟨so_const1 d_Mo_isWhole_43 (by decide) rfl, ?_⟩
  refine ⟨so_icmp_ne d_Mo_isWhole_44 rfl rfl, ?_⟩
  refine ⟨so_iinc d_Mo_isWhole_47 (by decide) (by decide) rfl, ?_⟩
  refine ⟨so_iloadn d_Mo_isWhole_50 rfl rfl, ?_⟩
  refine ⟨so_const1 d_Mo_isWhole_51 (by decide) rfl, ?_⟩
  refine ⟨so_icmp_ne d_Mo_isWhole_52 rfl rfl, ?_⟩
  refine ⟨so_iload d_Mo_isWhole_55 rfl, ?_⟩
  refine ⟨so_if_ge d_Mo_isWhole_57 rfl rfl, ?_⟩
  refine ⟨so_const1 d_Mo_isWhole_60 (by decide) rfl, ?_⟩
  refine ⟨so_zret d_Mo_isWhole_61 rfl, ?_⟩
  refine ⟨so_iloadn d_Mo_isWhole_62 rfl rfl, ?_⟩
  refine ⟨so_const2 d_Mo_isWhole_63 (by decide) rfl, ?_⟩
  refine ⟨so_icmp_eq d_Mo_isWhole_65 rfl rfl, ?_⟩
  refine ⟨so_goto d_Mo_isWhole_68 rfl, ?_⟩
  refine ⟨so_iload d_Mo_isWhole_71 rfl, ?_⟩
  refine ⟨so_if_lt d_Mo_isWhole_73 rfl rfl, ?_⟩
  refine ⟨so_aloadn d_Mo_isWhole_76 rfl rfl, ?_⟩
  refine ⟨so_const2 d_Mo_isWhole_77 (by decide) rfl, ?_⟩
  refine ⟨so_iload d_Mo_isWhole_79 rfl, ?_⟩
  refine ⟨so_callv (ci := 8) rfl rfl mc_Mo_kindAt mi_Mo mj_Mo_kindAt ms_Mo_kindAt ml_Mo_72 yd_Mo_kindAt (by decide) d_Mo_isWhole_81 rfl, ?_⟩
  refine ⟨so_const2 d_Mo_isWhole_84 (by decide) rfl, ?_⟩
  refine ⟨so_icmp_ne d_Mo_isWhole_86 rfl rfl, ?_⟩
  refine ⟨so_aloadn d_Mo_isWhole_89 rfl rfl, ?_⟩
  refine ⟨so_const2 d_Mo_isWhole_90 (by decide) rfl, ?_⟩
  refine ⟨so_iload d_Mo_isWhole_92 rfl, ?_⟩
  refine ⟨so_const1 d_Mo_isWhole_94 (by decide) rfl, ?_⟩
  refine ⟨so_iadd d_Mo_isWhole_95 rfl, ?_⟩
  refine ⟨so_const1 d_Mo_isWhole_96 (by decide) rfl, ?_⟩
  refine ⟨so_callv (ci := 8) rfl rfl mc_Mo_closerOf mi_Mo mj_Mo_closerOf ms_Mo_closerOf ml_Mo_83 yd_Mo_closerOf (by decide) d_Mo_isWhole_97 rfl, ?_⟩
  refine ⟨so_iloadn d_Mo_isWhole_100 rfl rfl, ?_⟩
  refine ⟨so_icmp_ge d_Mo_isWhole_101 rfl rfl, ?_⟩
  refine ⟨so_const1 d_Mo_isWhole_104 (by decide) rfl, ?_⟩
  refine ⟨so_zret d_Mo_isWhole_105 rfl, ?_⟩
  refine ⟨so_iinc d_Mo_isWhole_106 (by decide) (by decide) rfl, ?_⟩
  refine ⟨so_goto d_Mo_isWhole_109 rfl, ?_⟩
  refine ⟨so_iloadn d_Mo_isWhole_112 rfl rfl, ?_⟩
  refine ⟨so_if_ne d_Mo_isWhole_113 rfl rfl, ?_⟩
  refine ⟨so_const1 d_Mo_isWhole_116 (by decide) rfl, ?_⟩
  refine ⟨so_goto d_Mo_isWhole_117 rfl, ?_⟩
  refine ⟨so_const1 d_Mo_isWhole_120 (by decide) rfl, ?_⟩
  refine ⟨so_zret d_Mo_isWhole_121 rfl, ?_⟩
  exact trivial
theorem d_Mo_kindAt_0 : decode prog_10_method_4_code 0 = .ok (.aload_n 0, 1) := by decide +kernel
theorem d_Mo_kindAt_1 : decode prog_10_method_4_code 1 = .ok (.getfield 7, 3) := by decide +kernel
theorem d_Mo_kindAt_4 : decode prog_10_method_4_code 4 = .ok (.bipush 64, 2) := by decide +kernel
theorem d_Mo_kindAt_6 : decode prog_10_method_4_code 6 = .ok (.iload_n 1, 1) := by decide +kernel
theorem d_Mo_kindAt_7 : decode prog_10_method_4_code 7 = .ok (.imul, 1) := by decide +kernel
theorem d_Mo_kindAt_8 : decode prog_10_method_4_code 8 = .ok (.iload_n 2, 1) := by decide +kernel
theorem d_Mo_kindAt_9 : decode prog_10_method_4_code 9 = .ok (.iadd, 1) := by decide +kernel
theorem d_Mo_kindAt_10 : decode prog_10_method_4_code 10 = .ok (.iaload, 1) := by decide +kernel
theorem d_Mo_kindAt_11 : decode prog_10_method_4_code 11 = .ok (.ireturn, 1) := by decide +kernel
def tb_Mo_kindAt : List pm_I := [
  pm_aload 1 0,
  pm_getr 2 8 0,
  pm_const 3 64,
  pm_iload 4 1,
  pm_bin 5 (fun a b => a * b),
  pm_iload 6 2,
  pm_bin 7 (fun a b => a + b),
  pm_iald 8 0,
  pm_iret]
def bp_Mo_kindAt : List Nat := [0, 1, 4, 6, 7, 8, 9, 10, 11]
set_option maxRecDepth 100000 in
theorem sd_Mo_kindAt : pm_Sl prog_10_method_4_code 3 R_Mo "kindAt" (some .int) pm_Y (pm_b bp_Mo_kindAt) 0 tb_Mo_kindAt := by
  refine ⟨so_aloadn d_Mo_kindAt_0 rfl rfl, ?_⟩
  refine ⟨so_getr (ci := 8) (k := 0) rfl (by decide) rfl rfl fl_Mo_7 d_Mo_kindAt_1 rfl, ?_⟩
  refine ⟨so_const2 d_Mo_kindAt_4 (by decide) rfl, ?_⟩
  refine ⟨so_iloadn d_Mo_kindAt_6 rfl rfl, ?_⟩
  refine ⟨so_imul d_Mo_kindAt_7 rfl, ?_⟩
  refine ⟨so_iloadn d_Mo_kindAt_8 rfl rfl, ?_⟩
  refine ⟨so_iadd d_Mo_kindAt_9 rfl, ?_⟩
  refine ⟨so_iald d_Mo_kindAt_10 rfl, ?_⟩
  refine ⟨so_iret d_Mo_kindAt_11 rfl, ?_⟩
  exact trivial
theorem d_Mo_openerOf_0 : decode prog_10_method_7_code 0 = .ok (.iconst 0, 1) := by decide +kernel
theorem d_Mo_openerOf_1 : decode prog_10_method_7_code 1 = .ok (.istore_n 3, 1) := by decide +kernel
theorem d_Mo_openerOf_2 : decode prog_10_method_7_code 2 = .ok (.iload_n 2, 1) := by decide +kernel
theorem d_Mo_openerOf_3 : decode prog_10_method_7_code 3 = .ok (.iconst 1, 1) := by decide +kernel
theorem d_Mo_openerOf_4 : decode prog_10_method_7_code 4 = .ok (.isub, 1) := by decide +kernel
theorem d_Mo_openerOf_5 : decode prog_10_method_7_code 5 = .ok (.istore 4, 2) := by decide +kernel
theorem d_Mo_openerOf_7 : decode prog_10_method_7_code 7 = .ok (.iload 4, 2) := by decide +kernel
theorem d_Mo_openerOf_9 : decode prog_10_method_7_code 9 = .ok (.ifCond .lt 62, 3) := by decide +kernel
theorem d_Mo_openerOf_12 : decode prog_10_method_7_code 12 = .ok (.aload_n 0, 1) := by decide +kernel
theorem d_Mo_openerOf_13 : decode prog_10_method_7_code 13 = .ok (.iload_n 1, 1) := by decide +kernel
theorem d_Mo_openerOf_14 : decode prog_10_method_7_code 14 = .ok (.iload 4, 2) := by decide +kernel
theorem d_Mo_openerOf_16 : decode prog_10_method_7_code 16 = .ok (.invokevirtual 72, 3) := by decide +kernel
theorem d_Mo_openerOf_19 : decode prog_10_method_7_code 19 = .ok (.iconst 5, 1) := by decide +kernel
theorem d_Mo_openerOf_20 : decode prog_10_method_7_code 20 = .ok (.if_icmp .ne 9, 3) := by decide +kernel
theorem d_Mo_openerOf_23 : decode prog_10_method_7_code 23 = .ok (.iinc 3 1, 3) := by decide +kernel
theorem d_Mo_openerOf_26 : decode prog_10_method_7_code 26 = .ok (.goto 39, 3) := by decide +kernel
theorem d_Mo_openerOf_29 : decode prog_10_method_7_code 29 = .ok (.aload_n 0, 1) := by decide +kernel
theorem d_Mo_openerOf_30 : decode prog_10_method_7_code 30 = .ok (.iload_n 1, 1) := by decide +kernel
theorem d_Mo_openerOf_31 : decode prog_10_method_7_code 31 = .ok (.iload 4, 2) := by decide +kernel
theorem d_Mo_openerOf_33 : decode prog_10_method_7_code 33 = .ok (.invokevirtual 72, 3) := by decide +kernel
theorem d_Mo_openerOf_36 : decode prog_10_method_7_code 36 = .ok (.invokestatic 76, 3) := by decide +kernel
theorem d_Mo_openerOf_39 : decode prog_10_method_7_code 39 = .ok (.ifCond .eq 10, 3) := by decide +kernel
theorem d_Mo_openerOf_42 : decode prog_10_method_7_code 42 = .ok (.iload_n 3, 1) := by decide +kernel
theorem d_Mo_openerOf_43 : decode prog_10_method_7_code 43 = .ok (.ifCond .ne 6, 3) := by decide +kernel
theorem d_Mo_openerOf_46 : decode prog_10_method_7_code 46 = .ok (.iload 4, 2) := by decide +kernel
theorem d_Mo_openerOf_48 : decode prog_10_method_7_code 48 = .ok (.ireturn, 1) := by decide +kernel
theorem d_Mo_openerOf_49 : decode prog_10_method_7_code 49 = .ok (.aload_n 0, 1) := by decide +kernel
theorem d_Mo_openerOf_50 : decode prog_10_method_7_code 50 = .ok (.iload_n 1, 1) := by decide +kernel
theorem d_Mo_openerOf_51 : decode prog_10_method_7_code 51 = .ok (.iload 4, 2) := by decide +kernel
theorem d_Mo_openerOf_53 : decode prog_10_method_7_code 53 = .ok (.invokevirtual 72, 3) := by decide +kernel
theorem d_Mo_openerOf_56 : decode prog_10_method_7_code 56 = .ok (.invokestatic 76, 3) := by decide +kernel
theorem d_Mo_openerOf_59 : decode prog_10_method_7_code 59 = .ok (.ifCond .eq 6, 3) := by decide +kernel
theorem d_Mo_openerOf_62 : decode prog_10_method_7_code 62 = .ok (.iinc 3 (-1), 3) := by decide +kernel
theorem d_Mo_openerOf_65 : decode prog_10_method_7_code 65 = .ok (.iinc 4 (-1), 3) := by decide +kernel
theorem d_Mo_openerOf_68 : decode prog_10_method_7_code 68 = .ok (.goto (-61), 3) := by decide +kernel
theorem d_Mo_openerOf_71 : decode prog_10_method_7_code 71 = .ok (.iconst (-1), 1) := by decide +kernel
theorem d_Mo_openerOf_72 : decode prog_10_method_7_code 72 = .ok (.ireturn, 1) := by decide +kernel
def tb_Mo_openerOf : List pm_I := [
  pm_const 1 0,
  pm_istore 2 3,
  pm_iload 3 2,
  pm_const 4 1,
  pm_bin 5 (fun a b => a - b),
  pm_istore 6 4,
  pm_iload 7 4,
  pm_if 35 8 (fun a => decide (a < 0)),
  pm_aload 9 0,
  pm_iload 10 1,
  pm_iload 11 4,
  pm_callv 12 74 3 8,
  pm_const 13 5,
  pm_icmp 16 14 (fun a b => decide (a ≠ b)),
  pm_iinc 15 3 1,
  pm_goto 33,
  pm_aload 17 0,
  pm_iload 18 1,
  pm_iload 19 4,
  pm_callv 20 74 3 8,
  pm_calls 21 76 1,
  pm_if 26 22 (fun a => decide (a = 0)),
  pm_iload 23 3,
  pm_if 26 24 (fun a => decide (a ≠ 0)),
  pm_iload 25 4,
  pm_iret,
  pm_aload 27 0,
  pm_iload 28 1,
  pm_iload 29 4,
  pm_callv 30 74 3 8,
  pm_calls 31 76 1,
  pm_if 33 32 (fun a => decide (a = 0)),
  pm_iinc 33 3 (-1),
  pm_iinc 34 4 (-1),
  pm_goto 6,
  pm_const 36 (-1),
  pm_iret]
def bp_Mo_openerOf : List Nat := [0, 1, 2, 3, 4, 5, 7, 9, 12, 13, 14, 16, 19, 20, 23, 26, 29, 30, 31, 33, 36, 39, 42, 43, 46, 48, 49, 50, 51, 53, 56, 59, 62, 65, 68, 71, 72]
set_option maxRecDepth 100000 in
theorem sd_Mo_openerOf : pm_Sl prog_10_method_7_code 5 R_Mo "openerOf" (some .int) pm_Y (pm_b bp_Mo_openerOf) 0 tb_Mo_openerOf := by
  refine ⟨so_const1 d_Mo_openerOf_0 (by decide) rfl, ?_⟩
  refine ⟨so_istoren d_Mo_openerOf_1 rfl (by decide) rfl, ?_⟩
  refine ⟨so_iloadn d_Mo_openerOf_2 rfl rfl, ?_⟩
  refine ⟨so_const1 d_Mo_openerOf_3 (by decide) rfl, ?_⟩
  refine ⟨so_isub d_Mo_openerOf_4 rfl, ?_⟩
  refine ⟨so_istore d_Mo_openerOf_5 (by decide) rfl, ?_⟩
  refine ⟨so_iload d_Mo_openerOf_7 rfl, ?_⟩
  refine ⟨so_if_lt d_Mo_openerOf_9 rfl rfl, ?_⟩
  refine ⟨so_aloadn d_Mo_openerOf_12 rfl rfl, ?_⟩
  refine ⟨so_iloadn d_Mo_openerOf_13 rfl rfl, ?_⟩
  refine ⟨so_iload d_Mo_openerOf_14 rfl, ?_⟩
  refine ⟨so_callv (ci := 8) rfl rfl mc_Mo_kindAt mi_Mo mj_Mo_kindAt ms_Mo_kindAt ml_Mo_72 yd_Mo_kindAt (by decide) d_Mo_openerOf_16 rfl, ?_⟩
  refine ⟨so_const1 d_Mo_openerOf_19 (by decide) rfl, ?_⟩
  refine ⟨so_icmp_ne d_Mo_openerOf_20 rfl rfl, ?_⟩
  refine ⟨so_iinc d_Mo_openerOf_23 (by decide) (by decide) rfl, ?_⟩
  refine ⟨so_goto d_Mo_openerOf_26 rfl, ?_⟩
  refine ⟨so_aloadn d_Mo_openerOf_29 rfl rfl, ?_⟩
  refine ⟨so_iloadn d_Mo_openerOf_30 rfl rfl, ?_⟩
  refine ⟨so_iload d_Mo_openerOf_31 rfl, ?_⟩
  refine ⟨so_callv (ci := 8) rfl rfl mc_Mo_kindAt mi_Mo mj_Mo_kindAt ms_Mo_kindAt ml_Mo_72 yd_Mo_kindAt (by decide) d_Mo_openerOf_33 rfl, ?_⟩
  refine ⟨so_calls rfl mc_Mo_opens mi_Mo mt_Mo_opens ml_Mo_76 yd_Mo_opens (by decide) d_Mo_openerOf_36 rfl, ?_⟩
  refine ⟨so_if_eq d_Mo_openerOf_39 rfl rfl, ?_⟩
  refine ⟨so_iloadn d_Mo_openerOf_42 rfl rfl, ?_⟩
  refine ⟨so_if_ne d_Mo_openerOf_43 rfl rfl, ?_⟩
  refine ⟨so_iload d_Mo_openerOf_46 rfl, ?_⟩
  refine ⟨so_iret d_Mo_openerOf_48 rfl, ?_⟩
  refine ⟨so_aloadn d_Mo_openerOf_49 rfl rfl, ?_⟩
  refine ⟨so_iloadn d_Mo_openerOf_50 rfl rfl, ?_⟩
  refine ⟨so_iload d_Mo_openerOf_51 rfl, ?_⟩
  refine ⟨so_callv (ci := 8) rfl rfl mc_Mo_kindAt mi_Mo mj_Mo_kindAt ms_Mo_kindAt ml_Mo_72 yd_Mo_kindAt (by decide) d_Mo_openerOf_53 rfl, ?_⟩
  refine ⟨so_calls rfl mc_Mo_opens mi_Mo mt_Mo_opens ml_Mo_76 yd_Mo_opens (by decide) d_Mo_openerOf_56 rfl, ?_⟩
  refine ⟨so_if_eq d_Mo_openerOf_59 rfl rfl, ?_⟩
  refine ⟨so_iinc d_Mo_openerOf_62 (by decide) (by decide) rfl, ?_⟩
  refine ⟨so_iinc d_Mo_openerOf_65 (by decide) (by decide) rfl, ?_⟩
  refine ⟨so_goto d_Mo_openerOf_68 rfl, ?_⟩
  refine ⟨so_const1 d_Mo_openerOf_71 (by decide) rfl, ?_⟩
  refine ⟨so_iret d_Mo_openerOf_72 rfl, ?_⟩
  exact trivial
theorem d_Mo_opens_0 : decode prog_10_method_6_code 0 = .ok (.iload_n 0, 1) := by decide +kernel
theorem d_Mo_opens_1 : decode prog_10_method_6_code 1 = .ok (.iconst 4, 1) := by decide +kernel
theorem d_Mo_opens_2 : decode prog_10_method_6_code 2 = .ok (.if_icmp .eq 15, 3) := by decide +kernel
theorem d_Mo_opens_5 : decode prog_10_method_6_code 5 = .ok (.iload_n 0, 1) := by decide +kernel
theorem d_Mo_opens_6 : decode prog_10_method_6_code 6 = .ok (.bipush 6, 2) := by decide +kernel
theorem d_Mo_opens_8 : decode prog_10_method_6_code 8 = .ok (.if_icmp .eq 9, 3) := by decide +kernel
theorem d_Mo_opens_11 : decode prog_10_method_6_code 11 = .ok (.iload_n 0, 1) := by decide +kernel
theorem d_Mo_opens_12 : decode prog_10_method_6_code 12 = .ok (.bipush 8, 2) := by decide +kernel
theorem d_Mo_opens_14 : decode prog_10_method_6_code 14 = .ok (.if_icmp .ne 7, 3) := by decide +kernel
theorem d_Mo_opens_17 : decode prog_10_method_6_code 17 = .ok (.iconst 1, 1) := by decide +kernel
theorem d_Mo_opens_18 : decode prog_10_method_6_code 18 = .ok (.goto 4, 3) := by decide +kernel
theorem d_Mo_opens_21 : decode prog_10_method_6_code 21 = .ok (.iconst 0, 1) := by decide +kernel
theorem d_Mo_opens_22 : decode prog_10_method_6_code 22 = .ok (.ireturn, 1) := by decide +kernel
def tb_Mo_opens : List pm_I := [
  pm_iload 1 0,
  pm_const 2 4,
  pm_icmp 9 3 (fun a b => decide (a = b)),
  pm_iload 4 0,
  pm_const 5 6,
  pm_icmp 9 6 (fun a b => decide (a = b)),
  pm_iload 7 0,
  pm_const 8 8,
  pm_icmp 11 9 (fun a b => decide (a ≠ b)),
  pm_const 10 1,
  pm_goto 12,
  pm_const 12 0,
  pm_zret]
def bp_Mo_opens : List Nat := [0, 1, 2, 5, 6, 8, 11, 12, 14, 17, 18, 21, 22]
set_option maxRecDepth 100000 in
theorem sd_Mo_opens : pm_Sl prog_10_method_6_code 1 R_Mo "opens" (some .boolean) pm_Y (pm_b bp_Mo_opens) 0 tb_Mo_opens := by
  refine ⟨so_iloadn d_Mo_opens_0 rfl rfl, ?_⟩
  refine ⟨so_const1 d_Mo_opens_1 (by decide) rfl, ?_⟩
  refine ⟨so_icmp_eq d_Mo_opens_2 rfl rfl, ?_⟩
  refine ⟨so_iloadn d_Mo_opens_5 rfl rfl, ?_⟩
  refine ⟨so_const2 d_Mo_opens_6 (by decide) rfl, ?_⟩
  refine ⟨so_icmp_eq d_Mo_opens_8 rfl rfl, ?_⟩
  refine ⟨so_iloadn d_Mo_opens_11 rfl rfl, ?_⟩
  refine ⟨so_const2 d_Mo_opens_12 (by decide) rfl, ?_⟩
  refine ⟨so_icmp_ne d_Mo_opens_14 rfl rfl, ?_⟩
  refine ⟨so_const1 d_Mo_opens_17 (by decide) rfl, ?_⟩
  refine ⟨so_goto d_Mo_opens_18 rfl, ?_⟩
  refine ⟨so_const1 d_Mo_opens_21 (by decide) rfl, ?_⟩
  refine ⟨so_zret d_Mo_opens_22 rfl, ?_⟩
  exact trivial
theorem d_Mo_closerOf_0 : decode prog_10_method_8_code 0 = .ok (.iconst 0, 1) := by decide +kernel
theorem d_Mo_closerOf_1 : decode prog_10_method_8_code 1 = .ok (.istore 4, 2) := by decide +kernel
theorem d_Mo_closerOf_3 : decode prog_10_method_8_code 3 = .ok (.iload_n 2, 1) := by decide +kernel
theorem d_Mo_closerOf_4 : decode prog_10_method_8_code 4 = .ok (.istore 5, 2) := by decide +kernel
theorem d_Mo_closerOf_6 : decode prog_10_method_8_code 6 = .ok (.iload 5, 2) := by decide +kernel
theorem d_Mo_closerOf_8 : decode prog_10_method_8_code 8 = .ok (.aload_n 0, 1) := by decide +kernel
theorem d_Mo_closerOf_9 : decode prog_10_method_8_code 9 = .ok (.getfield 16, 3) := by decide +kernel
theorem d_Mo_closerOf_12 : decode prog_10_method_8_code 12 = .ok (.iload_n 1, 1) := by decide +kernel
theorem d_Mo_closerOf_13 : decode prog_10_method_8_code 13 = .ok (.iaload, 1) := by decide +kernel
theorem d_Mo_closerOf_14 : decode prog_10_method_8_code 14 = .ok (.if_icmp .ge 63, 3) := by decide +kernel
theorem d_Mo_closerOf_17 : decode prog_10_method_8_code 17 = .ok (.aload_n 0, 1) := by decide +kernel
theorem d_Mo_closerOf_18 : decode prog_10_method_8_code 18 = .ok (.iload_n 1, 1) := by decide +kernel
theorem d_Mo_closerOf_19 : decode prog_10_method_8_code 19 = .ok (.iload 5, 2) := by decide +kernel
theorem d_Mo_closerOf_21 : decode prog_10_method_8_code 21 = .ok (.invokevirtual 72, 3) := by decide +kernel
theorem d_Mo_closerOf_24 : decode prog_10_method_8_code 24 = .ok (.istore 6, 2) := by decide +kernel
theorem d_Mo_closerOf_26 : decode prog_10_method_8_code 26 = .ok (.iload 4, 2) := by decide +kernel
theorem d_Mo_closerOf_28 : decode prog_10_method_8_code 28 = .ok (.ifCond .ne 23, 3) := by decide +kernel
theorem d_Mo_closerOf_31 : decode prog_10_method_8_code 31 = .ok (.iload 6, 2) := by decide +kernel
theorem d_Mo_closerOf_33 : decode prog_10_method_8_code 33 = .ok (.iconst 5, 1) := by decide +kernel
theorem d_Mo_closerOf_34 : decode prog_10_method_8_code 34 = .ok (.if_icmp .eq 14, 3) := by decide +kernel
theorem d_Mo_closerOf_37 : decode prog_10_method_8_code 37 = .ok (.iload 6, 2) := by decide +kernel
theorem d_Mo_closerOf_39 : decode prog_10_method_8_code 39 = .ok (.bipush 7, 2) := by decide +kernel
theorem d_Mo_closerOf_41 : decode prog_10_method_8_code 41 = .ok (.if_icmp .ne 10, 3) := by decide +kernel
theorem d_Mo_closerOf_44 : decode prog_10_method_8_code 44 = .ok (.iload_n 3, 1) := by decide +kernel
theorem d_Mo_closerOf_45 : decode prog_10_method_8_code 45 = .ok (.ifCond .eq 6, 3) := by decide +kernel
theorem d_Mo_closerOf_48 : decode prog_10_method_8_code 48 = .ok (.iload 5, 2) := by decide +kernel
theorem d_Mo_closerOf_50 : decode prog_10_method_8_code 50 = .ok (.ireturn, 1) := by decide +kernel
theorem d_Mo_closerOf_51 : decode prog_10_method_8_code 51 = .ok (.iload 6, 2) := by decide +kernel
theorem d_Mo_closerOf_53 : decode prog_10_method_8_code 53 = .ok (.iconst 5, 1) := by decide +kernel
theorem d_Mo_closerOf_54 : decode prog_10_method_8_code 54 = .ok (.if_icmp .ne 6, 3) := by decide +kernel
theorem d_Mo_closerOf_57 : decode prog_10_method_8_code 57 = .ok (.iinc 4 (-1), 3) := by decide +kernel
theorem d_Mo_closerOf_60 : decode prog_10_method_8_code 60 = .ok (.iload 6, 2) := by decide +kernel
theorem d_Mo_closerOf_62 : decode prog_10_method_8_code 62 = .ok (.invokestatic 76, 3) := by decide +kernel
theorem d_Mo_closerOf_65 : decode prog_10_method_8_code 65 = .ok (.ifCond .eq 6, 3) := by decide +kernel
theorem d_Mo_closerOf_68 : decode prog_10_method_8_code 68 = .ok (.iinc 4 1, 3) := by decide +kernel
theorem d_Mo_closerOf_71 : decode prog_10_method_8_code 71 = .ok (.iinc 5 1, 3) := by decide +kernel
theorem d_Mo_closerOf_74 : decode prog_10_method_8_code 74 = .ok (.goto (-68), 3) := by decide +kernel
theorem d_Mo_closerOf_77 : decode prog_10_method_8_code 77 = .ok (.aload_n 0, 1) := by decide +kernel
theorem d_Mo_closerOf_78 : decode prog_10_method_8_code 78 = .ok (.getfield 16, 3) := by decide +kernel
theorem d_Mo_closerOf_81 : decode prog_10_method_8_code 81 = .ok (.iload_n 1, 1) := by decide +kernel
theorem d_Mo_closerOf_82 : decode prog_10_method_8_code 82 = .ok (.iaload, 1) := by decide +kernel
theorem d_Mo_closerOf_83 : decode prog_10_method_8_code 83 = .ok (.ireturn, 1) := by decide +kernel
def tb_Mo_closerOf : List pm_I := [
  pm_const 1 0,
  pm_istore 2 4,
  pm_iload 3 2,
  pm_istore 4 5,
  pm_iload 5 5,
  pm_aload 6 0,
  pm_getr 7 8 2,
  pm_iload 8 1,
  pm_iald 9 0,
  pm_icmp 37 10 (fun a b => decide (b ≤ a)),
  pm_aload 11 0,
  pm_iload 12 1,
  pm_iload 13 5,
  pm_callv 14 74 3 8,
  pm_istore 15 6,
  pm_iload 16 4,
  pm_if 27 17 (fun a => decide (a ≠ 0)),
  pm_iload 18 6,
  pm_const 19 5,
  pm_icmp 25 20 (fun a b => decide (a = b)),
  pm_iload 21 6,
  pm_const 22 7,
  pm_icmp 27 23 (fun a b => decide (a ≠ b)),
  pm_iload 24 3,
  pm_if 27 25 (fun a => decide (a = 0)),
  pm_iload 26 5,
  pm_iret,
  pm_iload 28 6,
  pm_const 29 5,
  pm_icmp 31 30 (fun a b => decide (a ≠ b)),
  pm_iinc 31 4 (-1),
  pm_iload 32 6,
  pm_calls 33 76 1,
  pm_if 35 34 (fun a => decide (a = 0)),
  pm_iinc 35 4 1,
  pm_iinc 36 5 1,
  pm_goto 4,
  pm_aload 38 0,
  pm_getr 39 8 2,
  pm_iload 40 1,
  pm_iald 41 0,
  pm_iret]
def bp_Mo_closerOf : List Nat := [0, 1, 3, 4, 6, 8, 9, 12, 13, 14, 17, 18, 19, 21, 24, 26, 28, 31, 33, 34, 37, 39, 41, 44, 45, 48, 50, 51, 53, 54, 57, 60, 62, 65, 68, 71, 74, 77, 78, 81, 82, 83]
set_option maxRecDepth 100000 in
theorem sd_Mo_closerOf : pm_Sl prog_10_method_8_code 7 R_Mo "closerOf" (some .int) pm_Y (pm_b bp_Mo_closerOf) 0 tb_Mo_closerOf := by
  refine ⟨so_const1 d_Mo_closerOf_0 (by decide) rfl, ?_⟩
  refine ⟨so_istore d_Mo_closerOf_1 (by decide) rfl, ?_⟩
  refine ⟨so_iloadn d_Mo_closerOf_3 rfl rfl, ?_⟩
  refine ⟨so_istore d_Mo_closerOf_4 (by decide) rfl, ?_⟩
  refine ⟨so_iload d_Mo_closerOf_6 rfl, ?_⟩
  refine ⟨so_aloadn d_Mo_closerOf_8 rfl rfl, ?_⟩
  refine ⟨so_getr (ci := 8) (k := 2) rfl (by decide) rfl rfl fl_Mo_16 d_Mo_closerOf_9 rfl, ?_⟩
  refine ⟨so_iloadn d_Mo_closerOf_12 rfl rfl, ?_⟩
  refine ⟨so_iald d_Mo_closerOf_13 rfl, ?_⟩
  refine ⟨so_icmp_ge d_Mo_closerOf_14 rfl rfl, ?_⟩
  refine ⟨so_aloadn d_Mo_closerOf_17 rfl rfl, ?_⟩
  refine ⟨so_iloadn d_Mo_closerOf_18 rfl rfl, ?_⟩
  refine ⟨so_iload d_Mo_closerOf_19 rfl, ?_⟩
  refine ⟨so_callv (ci := 8) rfl rfl mc_Mo_kindAt mi_Mo mj_Mo_kindAt ms_Mo_kindAt ml_Mo_72 yd_Mo_kindAt (by decide) d_Mo_closerOf_21 rfl, ?_⟩
  refine ⟨so_istore d_Mo_closerOf_24 (by decide) rfl, ?_⟩
  refine ⟨so_iload d_Mo_closerOf_26 rfl, ?_⟩
  refine ⟨so_if_ne d_Mo_closerOf_28 rfl rfl, ?_⟩
  refine ⟨so_iload d_Mo_closerOf_31 rfl, ?_⟩
  refine ⟨so_const1 d_Mo_closerOf_33 (by decide) rfl, ?_⟩
  refine ⟨so_icmp_eq d_Mo_closerOf_34 rfl rfl, ?_⟩
  refine ⟨so_iload d_Mo_closerOf_37 rfl, ?_⟩
  refine ⟨so_const2 d_Mo_closerOf_39 (by decide) rfl, ?_⟩
  refine ⟨so_icmp_ne d_Mo_closerOf_41 rfl rfl, ?_⟩
  refine ⟨so_iloadn d_Mo_closerOf_44 rfl rfl, ?_⟩
  refine ⟨so_if_eq d_Mo_closerOf_45 rfl rfl, ?_⟩
  refine ⟨so_iload d_Mo_closerOf_48 rfl, ?_⟩
  refine ⟨so_iret d_Mo_closerOf_50 rfl, ?_⟩
  refine ⟨so_iload d_Mo_closerOf_51 rfl, ?_⟩
  refine ⟨so_const1 d_Mo_closerOf_53 (by decide) rfl, ?_⟩
  refine ⟨so_icmp_ne d_Mo_closerOf_54 rfl rfl, ?_⟩
  refine ⟨so_iinc d_Mo_closerOf_57 (by decide) (by decide) rfl, ?_⟩
  refine ⟨so_iload d_Mo_closerOf_60 rfl, ?_⟩
  refine ⟨so_calls rfl mc_Mo_opens mi_Mo mt_Mo_opens ml_Mo_76 yd_Mo_opens (by decide) d_Mo_closerOf_62 rfl, ?_⟩
  refine ⟨so_if_eq d_Mo_closerOf_65 rfl rfl, ?_⟩
  refine ⟨so_iinc d_Mo_closerOf_68 (by decide) (by decide) rfl, ?_⟩
  refine ⟨so_iinc d_Mo_closerOf_71 (by decide) (by decide) rfl, ?_⟩
  refine ⟨so_goto d_Mo_closerOf_74 rfl, ?_⟩
  refine ⟨so_aloadn d_Mo_closerOf_77 rfl rfl, ?_⟩
  refine ⟨so_getr (ci := 8) (k := 2) rfl (by decide) rfl rfl fl_Mo_16 d_Mo_closerOf_78 rfl, ?_⟩
  refine ⟨so_iloadn d_Mo_closerOf_81 rfl rfl, ?_⟩
  refine ⟨so_iald d_Mo_closerOf_82 rfl, ?_⟩
  refine ⟨so_iret d_Mo_closerOf_83 rfl, ?_⟩
  exact trivial
theorem d_Mo_numberAt_0 : decode prog_10_method_5_code 0 = .ok (.aload_n 0, 1) := by decide +kernel
theorem d_Mo_numberAt_1 : decode prog_10_method_5_code 1 = .ok (.getfield 13, 3) := by decide +kernel
theorem d_Mo_numberAt_4 : decode prog_10_method_5_code 4 = .ok (.bipush 64, 2) := by decide +kernel
theorem d_Mo_numberAt_6 : decode prog_10_method_5_code 6 = .ok (.iload_n 1, 1) := by decide +kernel
theorem d_Mo_numberAt_7 : decode prog_10_method_5_code 7 = .ok (.imul, 1) := by decide +kernel
theorem d_Mo_numberAt_8 : decode prog_10_method_5_code 8 = .ok (.iload_n 2, 1) := by decide +kernel
theorem d_Mo_numberAt_9 : decode prog_10_method_5_code 9 = .ok (.iadd, 1) := by decide +kernel
theorem d_Mo_numberAt_10 : decode prog_10_method_5_code 10 = .ok (.iaload, 1) := by decide +kernel
theorem d_Mo_numberAt_11 : decode prog_10_method_5_code 11 = .ok (.ireturn, 1) := by decide +kernel
def tb_Mo_numberAt : List pm_I := [
  pm_aload 1 0,
  pm_getr 2 8 1,
  pm_const 3 64,
  pm_iload 4 1,
  pm_bin 5 (fun a b => a * b),
  pm_iload 6 2,
  pm_bin 7 (fun a b => a + b),
  pm_iald 8 0,
  pm_iret]
def bp_Mo_numberAt : List Nat := [0, 1, 4, 6, 7, 8, 9, 10, 11]
set_option maxRecDepth 100000 in
theorem sd_Mo_numberAt : pm_Sl prog_10_method_5_code 3 R_Mo "numberAt" (some .int) pm_Y (pm_b bp_Mo_numberAt) 0 tb_Mo_numberAt := by
  refine ⟨so_aloadn d_Mo_numberAt_0 rfl rfl, ?_⟩
  refine ⟨so_getr (ci := 8) (k := 1) rfl (by decide) rfl rfl fl_Mo_13 d_Mo_numberAt_1 rfl, ?_⟩
  refine ⟨so_const2 d_Mo_numberAt_4 (by decide) rfl, ?_⟩
  refine ⟨so_iloadn d_Mo_numberAt_6 rfl rfl, ?_⟩
  refine ⟨so_imul d_Mo_numberAt_7 rfl, ?_⟩
  refine ⟨so_iloadn d_Mo_numberAt_8 rfl rfl, ?_⟩
  refine ⟨so_iadd d_Mo_numberAt_9 rfl, ?_⟩
  refine ⟨so_iald d_Mo_numberAt_10 rfl, ?_⟩
  refine ⟨so_iret d_Mo_numberAt_11 rfl, ?_⟩
  exact trivial
theorem d_Mo_guard_0 : decode prog_10_method_11_code 0 = .ok (.iload_n 1, 1) := by decide +kernel
theorem d_Mo_guard_1 : decode prog_10_method_11_code 1 = .ok (.bipush 8, 2) := by decide +kernel
theorem d_Mo_guard_3 : decode prog_10_method_11_code 3 = .ok (.invokestatic 68, 3) := by decide +kernel
theorem d_Mo_guard_6 : decode prog_10_method_11_code 6 = .ok (.ifCond .eq 13, 3) := by decide +kernel
theorem d_Mo_guard_9 : decode prog_10_method_11_code 9 = .ok (.iload_n 2, 1) := by decide +kernel
theorem d_Mo_guard_10 : decode prog_10_method_11_code 10 = .ok (.iconst (-1), 1) := by decide +kernel
theorem d_Mo_guard_11 : decode prog_10_method_11_code 11 = .ok (.if_icmp .lt 8, 3) := by decide +kernel
theorem d_Mo_guard_14 : decode prog_10_method_11_code 14 = .ok (.iload_n 2, 1) := by decide +kernel
theorem d_Mo_guard_15 : decode prog_10_method_11_code 15 = .ok (.iconst 4, 1) := by decide +kernel
theorem d_Mo_guard_16 : decode prog_10_method_11_code 16 = .ok (.if_icmp .lt 5, 3) := by decide +kernel
theorem d_Mo_guard_19 : decode prog_10_method_11_code 19 = .ok (.iconst 0, 1) := by decide +kernel
theorem d_Mo_guard_20 : decode prog_10_method_11_code 20 = .ok (.ireturn, 1) := by decide +kernel
theorem d_Mo_guard_21 : decode prog_10_method_11_code 21 = .ok (.aload_n 0, 1) := by decide +kernel
theorem d_Mo_guard_22 : decode prog_10_method_11_code 22 = .ok (.getfield 22, 3) := by decide +kernel
theorem d_Mo_guard_25 : decode prog_10_method_11_code 25 = .ok (.iload_n 1, 1) := by decide +kernel
theorem d_Mo_guard_26 : decode prog_10_method_11_code 26 = .ok (.iload_n 2, 1) := by decide +kernel
theorem d_Mo_guard_27 : decode prog_10_method_11_code 27 = .ok (.iastore, 1) := by decide +kernel
theorem d_Mo_guard_28 : decode prog_10_method_11_code 28 = .ok (.iconst 1, 1) := by decide +kernel
theorem d_Mo_guard_29 : decode prog_10_method_11_code 29 = .ok (.ireturn, 1) := by decide +kernel
def tb_Mo_guard : List pm_I := [
  pm_iload 1 1,
  pm_const 2 8,
  pm_calls 3 71 2,
  pm_if 10 4 (fun a => decide (a = 0)),
  pm_iload 5 2,
  pm_const 6 (-1),
  pm_icmp 10 7 (fun a b => decide (a < b)),
  pm_iload 8 2,
  pm_const 9 4,
  pm_icmp 12 10 (fun a b => decide (a < b)),
  pm_const 11 0,
  pm_zret,
  pm_aload 13 0,
  pm_getr 14 8 5,
  pm_iload 15 1,
  pm_iload 16 2,
  pm_iast 17,
  pm_const 18 1,
  pm_zret]
def bp_Mo_guard : List Nat := [0, 1, 3, 6, 9, 10, 11, 14, 15, 16, 19, 20, 21, 22, 25, 26, 27, 28, 29]
set_option maxRecDepth 100000 in
theorem sd_Mo_guard : pm_Sl prog_10_method_11_code 3 R_Mo "guard" (some .boolean) pm_Y (pm_b bp_Mo_guard) 0 tb_Mo_guard := by
  refine ⟨so_iloadn d_Mo_guard_0 rfl rfl, ?_⟩
  refine ⟨so_const2 d_Mo_guard_1 (by decide) rfl, ?_⟩
  refine ⟨so_calls rfl mc_Mo_isIn mi_Mo mt_Mo_isIn ml_Mo_68 yd_Mo_isIn (by decide) d_Mo_guard_3 rfl, ?_⟩
  refine ⟨so_if_eq d_Mo_guard_6 rfl rfl, ?_⟩
  refine ⟨so_iloadn d_Mo_guard_9 rfl rfl, ?_⟩
  refine ⟨so_const1 d_Mo_guard_10 (by decide) rfl, ?_⟩
  refine ⟨so_icmp_lt d_Mo_guard_11 rfl rfl, ?_⟩
  refine ⟨so_iloadn d_Mo_guard_14 rfl rfl, ?_⟩
  refine ⟨so_const1 d_Mo_guard_15 (by decide) rfl, ?_⟩
  refine ⟨so_icmp_lt d_Mo_guard_16 rfl rfl, ?_⟩
  refine ⟨so_const1 d_Mo_guard_19 (by decide) rfl, ?_⟩
  refine ⟨so_zret d_Mo_guard_20 rfl, ?_⟩
  refine ⟨so_aloadn d_Mo_guard_21 rfl rfl, ?_⟩
  refine ⟨so_getr (ci := 8) (k := 5) rfl (by decide) rfl rfl fl_Mo_22 d_Mo_guard_22 rfl, ?_⟩
  refine ⟨so_iloadn d_Mo_guard_25 rfl rfl, ?_⟩
  refine ⟨so_iloadn d_Mo_guard_26 rfl rfl, ?_⟩
  refine ⟨so_iast d_Mo_guard_27 rfl, ?_⟩
  refine ⟨so_const1 d_Mo_guard_28 (by decide) rfl, ?_⟩
  refine ⟨so_zret d_Mo_guard_29 rfl, ?_⟩
  exact trivial
theorem d_Mo_check_0 : decode prog_10_method_14_code 0 = .ok (.iload_n 1, 1) := by decide +kernel
theorem d_Mo_check_1 : decode prog_10_method_14_code 1 = .ok (.aload_n 0, 1) := by decide +kernel
theorem d_Mo_check_2 : decode prog_10_method_14_code 2 = .ok (.getfield 87, 3) := by decide +kernel
theorem d_Mo_check_5 : decode prog_10_method_14_code 5 = .ok (.invokestatic 68, 3) := by decide +kernel
theorem d_Mo_check_8 : decode prog_10_method_14_code 8 = .ok (.ifCond .ne 5, 3) := by decide +kernel
theorem d_Mo_check_11 : decode prog_10_method_14_code 11 = .ok (.iconst (-1), 1) := by decide +kernel
theorem d_Mo_check_12 : decode prog_10_method_14_code 12 = .ok (.ireturn, 1) := by decide +kernel
theorem d_Mo_check_13 : decode prog_10_method_14_code 13 = .ok (.iconst 0, 1) := by decide +kernel
theorem d_Mo_check_14 : decode prog_10_method_14_code 14 = .ok (.istore_n 2, 1) := by decide +kernel
theorem d_Mo_check_15 : decode prog_10_method_14_code 15 = .ok (.iload_n 2, 1) := by decide +kernel
theorem d_Mo_check_16 : decode prog_10_method_14_code 16 = .ok (.aload_n 0, 1) := by decide +kernel
theorem d_Mo_check_17 : decode prog_10_method_14_code 17 = .ok (.getfield 16, 3) := by decide +kernel
theorem d_Mo_check_20 : decode prog_10_method_14_code 20 = .ok (.iload_n 1, 1) := by decide +kernel
theorem d_Mo_check_21 : decode prog_10_method_14_code 21 = .ok (.iaload, 1) := by decide +kernel
theorem d_Mo_check_22 : decode prog_10_method_14_code 22 = .ok (.if_icmp .ge 18, 3) := by decide +kernel
theorem d_Mo_check_25 : decode prog_10_method_14_code 25 = .ok (.aload_n 0, 1) := by decide +kernel
theorem d_Mo_check_26 : decode prog_10_method_14_code 26 = .ok (.iload_n 1, 1) := by decide +kernel
theorem d_Mo_check_27 : decode prog_10_method_14_code 27 = .ok (.iload_n 2, 1) := by decide +kernel
theorem d_Mo_check_28 : decode prog_10_method_14_code 28 = .ok (.invokevirtual 101, 3) := by decide +kernel
theorem d_Mo_check_31 : decode prog_10_method_14_code 31 = .ok (.ifCond .eq 9, 3) := by decide +kernel
theorem d_Mo_check_34 : decode prog_10_method_14_code 34 = .ok (.iinc 2 1, 3) := by decide +kernel
theorem d_Mo_check_37 : decode prog_10_method_14_code 37 = .ok (.goto (-22), 3) := by decide +kernel
theorem d_Mo_check_40 : decode prog_10_method_14_code 40 = .ok (.iload_n 2, 1) := by decide +kernel
theorem d_Mo_check_41 : decode prog_10_method_14_code 41 = .ok (.ireturn, 1) := by decide +kernel
def tb_Mo_check : List pm_I := [
  pm_iload 1 1,
  pm_aload 2 0,
  pm_geti 3 8 4,
  pm_calls 4 71 2,
  pm_if 7 5 (fun a => decide (a ≠ 0)),
  pm_const 6 (-1),
  pm_iret,
  pm_const 8 0,
  pm_istore 9 2,
  pm_iload 10 2,
  pm_aload 11 0,
  pm_getr 12 8 2,
  pm_iload 13 1,
  pm_iald 14 0,
  pm_icmp 22 15 (fun a b => decide (b ≤ a)),
  pm_aload 16 0,
  pm_iload 17 1,
  pm_iload 18 2,
  pm_callv 19 81 3 8,
  pm_if 22 20 (fun a => decide (a = 0)),
  pm_iinc 21 2 1,
  pm_goto 9,
  pm_iload 23 2,
  pm_iret]
def bp_Mo_check : List Nat := [0, 1, 2, 5, 8, 11, 12, 13, 14, 15, 16, 17, 20, 21, 22, 25, 26, 27, 28, 31, 34, 37, 40, 41]
set_option maxRecDepth 100000 in
theorem sd_Mo_check : pm_Sl prog_10_method_14_code 3 R_Mo "check" (some .int) pm_Y (pm_b bp_Mo_check) 0 tb_Mo_check := by
  refine ⟨so_iloadn d_Mo_check_0 rfl rfl, ?_⟩
  refine ⟨so_aloadn d_Mo_check_1 rfl rfl, ?_⟩
  refine ⟨so_geti (ci := 8) (k := 4) rfl (by decide) rfl rfl fl_Mo_87 d_Mo_check_2 rfl, ?_⟩
  refine ⟨so_calls rfl mc_Mo_isIn mi_Mo mt_Mo_isIn ml_Mo_68 yd_Mo_isIn (by decide) d_Mo_check_5 rfl, ?_⟩
  refine ⟨so_if_ne d_Mo_check_8 rfl rfl, ?_⟩
  refine ⟨so_const1 d_Mo_check_11 (by decide) rfl, ?_⟩
  refine ⟨so_iret d_Mo_check_12 rfl, ?_⟩
  refine ⟨so_const1 d_Mo_check_13 (by decide) rfl, ?_⟩
  refine ⟨so_istoren d_Mo_check_14 rfl (by decide) rfl, ?_⟩
  refine ⟨so_iloadn d_Mo_check_15 rfl rfl, ?_⟩
  refine ⟨so_aloadn d_Mo_check_16 rfl rfl, ?_⟩
  refine ⟨so_getr (ci := 8) (k := 2) rfl (by decide) rfl rfl fl_Mo_16 d_Mo_check_17 rfl, ?_⟩
  refine ⟨so_iloadn d_Mo_check_20 rfl rfl, ?_⟩
  refine ⟨so_iald d_Mo_check_21 rfl, ?_⟩
  refine ⟨so_icmp_ge d_Mo_check_22 rfl rfl, ?_⟩
  refine ⟨so_aloadn d_Mo_check_25 rfl rfl, ?_⟩
  refine ⟨so_iloadn d_Mo_check_26 rfl rfl, ?_⟩
  refine ⟨so_iloadn d_Mo_check_27 rfl rfl, ?_⟩
  refine ⟨so_callv (ci := 8) rfl rfl mc_Mo_isRight mi_Mo mj_Mo_isRight ms_Mo_isRight ml_Mo_101 yd_Mo_isRight (by decide) d_Mo_check_28 rfl, ?_⟩
  refine ⟨so_if_eq d_Mo_check_31 rfl rfl, ?_⟩
  refine ⟨so_iinc d_Mo_check_34 (by decide) (by decide) rfl, ?_⟩
  refine ⟨so_goto d_Mo_check_37 rfl, ?_⟩
  refine ⟨so_iloadn d_Mo_check_40 rfl rfl, ?_⟩
  refine ⟨so_iret d_Mo_check_41 rfl, ?_⟩
  exact trivial
theorem d_Mo_isRight_0 : decode prog_10_method_13_code 0 = .ok (.aload_n 0, 1) := by decide +kernel
theorem d_Mo_isRight_1 : decode prog_10_method_13_code 1 = .ok (.iload_n 1, 1) := by decide +kernel
theorem d_Mo_isRight_2 : decode prog_10_method_13_code 2 = .ok (.iload_n 2, 1) := by decide +kernel
theorem d_Mo_isRight_3 : decode prog_10_method_13_code 3 = .ok (.invokevirtual 72, 3) := by decide +kernel
theorem d_Mo_isRight_6 : decode prog_10_method_13_code 6 = .ok (.istore_n 3, 1) := by decide +kernel
theorem d_Mo_isRight_7 : decode prog_10_method_13_code 7 = .ok (.aload_n 0, 1) := by decide +kernel
theorem d_Mo_isRight_8 : decode prog_10_method_13_code 8 = .ok (.iload_n 1, 1) := by decide +kernel
theorem d_Mo_isRight_9 : decode prog_10_method_13_code 9 = .ok (.iload_n 2, 1) := by decide +kernel
theorem d_Mo_isRight_10 : decode prog_10_method_13_code 10 = .ok (.invokevirtual 95, 3) := by decide +kernel
theorem d_Mo_isRight_13 : decode prog_10_method_13_code 13 = .ok (.istore 4, 2) := by decide +kernel
theorem d_Mo_isRight_15 : decode prog_10_method_13_code 15 = .ok (.aload_n 0, 1) := by decide +kernel
theorem d_Mo_isRight_16 : decode prog_10_method_13_code 16 = .ok (.iload_n 1, 1) := by decide +kernel
theorem d_Mo_isRight_17 : decode prog_10_method_13_code 17 = .ok (.iload_n 2, 1) := by decide +kernel
theorem d_Mo_isRight_18 : decode prog_10_method_13_code 18 = .ok (.invokevirtual 98, 3) := by decide +kernel
theorem d_Mo_isRight_21 : decode prog_10_method_13_code 21 = .ok (.istore 5, 2) := by decide +kernel
theorem d_Mo_isRight_23 : decode prog_10_method_13_code 23 = .ok (.iload_n 3, 1) := by decide +kernel
theorem d_Mo_isRight_24 : decode prog_10_method_13_code 24 = .ok (.lookupswitch 163 #[(0, 44), (1, 76), (9, 108), (10, 133)], 44) := by decide +kernel
theorem d_Mo_isRight_68 : decode prog_10_method_13_code 68 = .ok (.aload_n 0, 1) := by decide +kernel
theorem d_Mo_isRight_69 : decode prog_10_method_13_code 69 = .ok (.getfield 22, 3) := by decide +kernel
theorem d_Mo_isRight_72 : decode prog_10_method_13_code 72 = .ok (.iload 4, 2) := by decide +kernel
theorem d_Mo_isRight_74 : decode prog_10_method_13_code 74 = .ok (.iaload, 1) := by decide +kernel
theorem d_Mo_isRight_75 : decode prog_10_method_13_code 75 = .ok (.ifCond .lt 19, 3) := by decide +kernel
theorem d_Mo_isRight_78 : decode prog_10_method_13_code 78 = .ok (.iload 5, 2) := by decide +kernel
theorem d_Mo_isRight_80 : decode prog_10_method_13_code 80 = .ok (.aload_n 0, 1) := by decide +kernel
theorem d_Mo_isRight_81 : decode prog_10_method_13_code 81 = .ok (.getfield 22, 3) := by decide +kernel
theorem d_Mo_isRight_84 : decode prog_10_method_13_code 84 = .ok (.iload 4, 2) := by decide +kernel
theorem d_Mo_isRight_86 : decode prog_10_method_13_code 86 = .ok (.iaload, 1) := by decide +kernel
theorem d_Mo_isRight_87 : decode prog_10_method_13_code 87 = .ok (.ishr, 1) := by decide +kernel
theorem d_Mo_isRight_88 : decode prog_10_method_13_code 88 = .ok (.iconst 1, 1) := by decide +kernel
theorem d_Mo_isRight_89 : decode prog_10_method_13_code 89 = .ok (.iand, 1) := by decide +kernel
theorem d_Mo_isRight_90 : decode prog_10_method_13_code 90 = .ok (.iconst 1, 1) := by decide +kernel
theorem d_Mo_isRight_91 : decode prog_10_method_13_code 91 = .ok (.if_icmp .ne 7, 3) := by decide +kernel
theorem d_Mo_isRight_94 : decode prog_10_method_13_code 94 = .ok (.iconst 1, 1) := by decide +kernel
theorem d_Mo_isRight_95 : decode prog_10_method_13_code 95 = .ok (.goto 4, 3) := by decide +kernel
theorem d_Mo_isRight_98 : decode prog_10_method_13_code 98 = .ok (.iconst 0, 1) := by decide +kernel
theorem d_Mo_isRight_99 : decode prog_10_method_13_code 99 = .ok (.ireturn, 1) := by decide +kernel
theorem d_Mo_isRight_100 : decode prog_10_method_13_code 100 = .ok (.aload_n 0, 1) := by decide +kernel
theorem d_Mo_isRight_101 : decode prog_10_method_13_code 101 = .ok (.getfield 22, 3) := by decide +kernel
theorem d_Mo_isRight_104 : decode prog_10_method_13_code 104 = .ok (.iload 4, 2) := by decide +kernel
theorem d_Mo_isRight_106 : decode prog_10_method_13_code 106 = .ok (.iaload, 1) := by decide +kernel
theorem d_Mo_isRight_107 : decode prog_10_method_13_code 107 = .ok (.ifCond .lt 23, 3) := by decide +kernel
theorem d_Mo_isRight_110 : decode prog_10_method_13_code 110 = .ok (.iload 5, 2) := by decide +kernel
theorem d_Mo_isRight_112 : decode prog_10_method_13_code 112 = .ok (.aload_n 0, 1) := by decide +kernel
theorem d_Mo_isRight_113 : decode prog_10_method_13_code 113 = .ok (.getfield 22, 3) := by decide +kernel
theorem d_Mo_isRight_116 : decode prog_10_method_13_code 116 = .ok (.iload 4, 2) := by decide +kernel
theorem d_Mo_isRight_118 : decode prog_10_method_13_code 118 = .ok (.iaload, 1) := by decide +kernel
theorem d_Mo_isRight_119 : decode prog_10_method_13_code 119 = .ok (.ishr, 1) := by decide +kernel
theorem d_Mo_isRight_120 : decode prog_10_method_13_code 120 = .ok (.iconst 1, 1) := by decide +kernel
theorem d_Mo_isRight_121 : decode prog_10_method_13_code 121 = .ok (.iand, 1) := by decide +kernel
theorem d_Mo_isRight_122 : decode prog_10_method_13_code 122 = .ok (.iconst 1, 1) := by decide +kernel
theorem d_Mo_isRight_123 : decode prog_10_method_13_code 123 = .ok (.if_icmp .ne 7, 3) := by decide +kernel
theorem d_Mo_isRight_126 : decode prog_10_method_13_code 126 = .ok (.iconst 1, 1) := by decide +kernel
theorem d_Mo_isRight_127 : decode prog_10_method_13_code 127 = .ok (.goto 4, 3) := by decide +kernel
theorem d_Mo_isRight_130 : decode prog_10_method_13_code 130 = .ok (.iconst 0, 1) := by decide +kernel
theorem d_Mo_isRight_131 : decode prog_10_method_13_code 131 = .ok (.ireturn, 1) := by decide +kernel
theorem d_Mo_isRight_132 : decode prog_10_method_13_code 132 = .ok (.iload 4, 2) := by decide +kernel
theorem d_Mo_isRight_134 : decode prog_10_method_13_code 134 = .ok (.aload_n 0, 1) := by decide +kernel
theorem d_Mo_isRight_135 : decode prog_10_method_13_code 135 = .ok (.getfield 87, 3) := by decide +kernel
theorem d_Mo_isRight_138 : decode prog_10_method_13_code 138 = .ok (.if_icmp .ge 17, 3) := by decide +kernel
theorem d_Mo_isRight_141 : decode prog_10_method_13_code 141 = .ok (.aload_n 0, 1) := by decide +kernel
theorem d_Mo_isRight_142 : decode prog_10_method_13_code 142 = .ok (.getfield 19, 3) := by decide +kernel
theorem d_Mo_isRight_145 : decode prog_10_method_13_code 145 = .ok (.iload 4, 2) := by decide +kernel
theorem d_Mo_isRight_147 : decode prog_10_method_13_code 147 = .ok (.iaload, 1) := by decide +kernel
theorem d_Mo_isRight_148 : decode prog_10_method_13_code 148 = .ok (.ifCond .ne 7, 3) := by decide +kernel
theorem d_Mo_isRight_151 : decode prog_10_method_13_code 151 = .ok (.iconst 1, 1) := by decide +kernel
theorem d_Mo_isRight_152 : decode prog_10_method_13_code 152 = .ok (.goto 4, 3) := by decide +kernel
theorem d_Mo_isRight_155 : decode prog_10_method_13_code 155 = .ok (.iconst 0, 1) := by decide +kernel
theorem d_Mo_isRight_156 : decode prog_10_method_13_code 156 = .ok (.ireturn, 1) := by decide +kernel
theorem d_Mo_isRight_157 : decode prog_10_method_13_code 157 = .ok (.iload 4, 2) := by decide +kernel
theorem d_Mo_isRight_159 : decode prog_10_method_13_code 159 = .ok (.aload_n 0, 1) := by decide +kernel
theorem d_Mo_isRight_160 : decode prog_10_method_13_code 160 = .ok (.getfield 87, 3) := by decide +kernel
theorem d_Mo_isRight_163 : decode prog_10_method_13_code 163 = .ok (.if_icmp .ge 22, 3) := by decide +kernel
theorem d_Mo_isRight_166 : decode prog_10_method_13_code 166 = .ok (.aload_n 0, 1) := by decide +kernel
theorem d_Mo_isRight_167 : decode prog_10_method_13_code 167 = .ok (.getfield 19, 3) := by decide +kernel
theorem d_Mo_isRight_170 : decode prog_10_method_13_code 170 = .ok (.iload 4, 2) := by decide +kernel
theorem d_Mo_isRight_172 : decode prog_10_method_13_code 172 = .ok (.iaload, 1) := by decide +kernel
theorem d_Mo_isRight_173 : decode prog_10_method_13_code 173 = .ok (.iload 5, 2) := by decide +kernel
theorem d_Mo_isRight_175 : decode prog_10_method_13_code 175 = .ok (.iconst (-1), 1) := by decide +kernel
theorem d_Mo_isRight_176 : decode prog_10_method_13_code 176 = .ok (.ixor, 1) := by decide +kernel
theorem d_Mo_isRight_177 : decode prog_10_method_13_code 177 = .ok (.iand, 1) := by decide +kernel
theorem d_Mo_isRight_178 : decode prog_10_method_13_code 178 = .ok (.ifCond .ne 7, 3) := by decide +kernel
theorem d_Mo_isRight_181 : decode prog_10_method_13_code 181 = .ok (.iconst 1, 1) := by decide +kernel
theorem d_Mo_isRight_182 : decode prog_10_method_13_code 182 = .ok (.goto 4, 3) := by decide +kernel
theorem d_Mo_isRight_185 : decode prog_10_method_13_code 185 = .ok (.iconst 0, 1) := by decide +kernel
theorem d_Mo_isRight_186 : decode prog_10_method_13_code 186 = .ok (.ireturn, 1) := by decide +kernel
theorem d_Mo_isRight_187 : decode prog_10_method_13_code 187 = .ok (.iconst 1, 1) := by decide +kernel
theorem d_Mo_isRight_188 : decode prog_10_method_13_code 188 = .ok (.ireturn, 1) := by decide +kernel
def tb_Mo_isRight : List pm_I := [
  pm_aload 1 0,
  pm_iload 2 1,
  pm_iload 3 2,
  pm_callv 4 74 3 8,
  pm_istore 5 3,
  pm_aload 6 0,
  pm_iload 7 1,
  pm_iload 8 2,
  pm_callv 9 78 3 8,
  pm_istore 10 4,
  pm_aload 11 0,
  pm_iload 12 1,
  pm_iload 13 2,
  pm_callv 14 82 3 8,
  pm_istore 15 5,
  pm_iload 16 3,
  pm_sw [(0, 17), (1, 36), (9, 55), (10, 68)] 85,
  pm_aload 18 0,
  pm_getr 19 8 5,
  pm_iload 20 4,
  pm_iald 21 0,
  pm_if 32 22 (fun a => decide (a < 0)),
  pm_iload 23 5,
  pm_aload 24 0,
  pm_getr 25 8 5,
  pm_iload 26 4,
  pm_iald 27 0,
  pm_bin 28 (fun a b => a >>> (b &&& 31)),
  pm_const 29 1,
  pm_bin 30 (fun a b => a &&& b),
  pm_const 31 1,
  pm_icmp 34 32 (fun a b => decide (a ≠ b)),
  pm_const 33 1,
  pm_goto 35,
  pm_const 35 0,
  pm_zret,
  pm_aload 37 0,
  pm_getr 38 8 5,
  pm_iload 39 4,
  pm_iald 40 0,
  pm_if 53 41 (fun a => decide (a < 0)),
  pm_iload 42 5,
  pm_aload 43 0,
  pm_getr 44 8 5,
  pm_iload 45 4,
  pm_iald 46 0,
  pm_bin 47 (fun a b => a >>> (b &&& 31)),
  pm_const 48 1,
  pm_bin 49 (fun a b => a &&& b),
  pm_const 50 1,
  pm_icmp 53 51 (fun a b => decide (a ≠ b)),
  pm_const 52 1,
  pm_goto 54,
  pm_const 54 0,
  pm_zret,
  pm_iload 56 4,
  pm_aload 57 0,
  pm_geti 58 8 4,
  pm_icmp 66 59 (fun a b => decide (b ≤ a)),
  pm_aload 60 0,
  pm_getr 61 8 3,
  pm_iload 62 4,
  pm_iald 63 0,
  pm_if 66 64 (fun a => decide (a ≠ 0)),
  pm_const 65 1,
  pm_goto 67,
  pm_const 67 0,
  pm_zret,
  pm_iload 69 4,
  pm_aload 70 0,
  pm_geti 71 8 4,
  pm_icmp 83 72 (fun a b => decide (b ≤ a)),
  pm_aload 73 0,
  pm_getr 74 8 3,
  pm_iload 75 4,
  pm_iald 76 0,
  pm_iload 77 5,
  pm_const 78 (-1),
  pm_bin 79 (fun a b => a ^^^ b),
  pm_bin 80 (fun a b => a &&& b),
  pm_if 83 81 (fun a => decide (a ≠ 0)),
  pm_const 82 1,
  pm_goto 84,
  pm_const 84 0,
  pm_zret,
  pm_const 86 1,
  pm_zret]
def bp_Mo_isRight : List Nat := [0, 1, 2, 3, 6, 7, 8, 9, 10, 13, 15, 16, 17, 18, 21, 23, 24, 68, 69, 72, 74, 75, 78, 80, 81, 84, 86, 87, 88, 89, 90, 91, 94, 95, 98, 99, 100, 101, 104, 106, 107, 110, 112, 113, 116, 118, 119, 120, 121, 122, 123, 126, 127, 130, 131, 132, 134, 135, 138, 141, 142, 145, 147, 148, 151, 152, 155, 156, 157, 159, 160, 163, 166, 167, 170, 172, 173, 175, 176, 177, 178, 181, 182, 185, 186, 187, 188]
set_option maxRecDepth 100000 in
theorem sd_Mo_isRight : pm_Sl prog_10_method_13_code 6 R_Mo "isRight" (some .boolean) pm_Y (pm_b bp_Mo_isRight) 0 tb_Mo_isRight := by
  refine ⟨so_aloadn d_Mo_isRight_0 rfl rfl, ?_⟩
  refine ⟨so_iloadn d_Mo_isRight_1 rfl rfl, ?_⟩
  refine ⟨so_iloadn d_Mo_isRight_2 rfl rfl, ?_⟩
  refine ⟨so_callv (ci := 8) rfl rfl mc_Mo_kindAt mi_Mo mj_Mo_kindAt ms_Mo_kindAt ml_Mo_72 yd_Mo_kindAt (by decide) d_Mo_isRight_3 rfl, ?_⟩
  refine ⟨so_istoren d_Mo_isRight_6 rfl (by decide) rfl, ?_⟩
  refine ⟨so_aloadn d_Mo_isRight_7 rfl rfl, ?_⟩
  refine ⟨so_iloadn d_Mo_isRight_8 rfl rfl, ?_⟩
  refine ⟨so_iloadn d_Mo_isRight_9 rfl rfl, ?_⟩
  refine ⟨so_callv (ci := 8) rfl rfl mc_Mo_numberAt mi_Mo mj_Mo_numberAt ms_Mo_numberAt ml_Mo_95 yd_Mo_numberAt (by decide) d_Mo_isRight_10 rfl, ?_⟩
  refine ⟨so_istore d_Mo_isRight_13 (by decide) rfl, ?_⟩
  refine ⟨so_aloadn d_Mo_isRight_15 rfl rfl, ?_⟩
  refine ⟨so_iloadn d_Mo_isRight_16 rfl rfl, ?_⟩
  refine ⟨so_iloadn d_Mo_isRight_17 rfl rfl, ?_⟩
  refine ⟨so_callv (ci := 8) rfl rfl mc_Mo_heldAt mi_Mo mj_Mo_heldAt ms_Mo_heldAt ml_Mo_98 yd_Mo_heldAt (by decide) d_Mo_isRight_18 rfl, ?_⟩
  refine ⟨so_istore d_Mo_isRight_21 (by decide) rfl, ?_⟩
  refine ⟨so_iloadn d_Mo_isRight_23 rfl rfl, ?_⟩
  refine ⟨so_lsw d_Mo_isRight_24 (by decide +kernel) (by decide +kernel) rfl, ?_⟩
  refine ⟨so_aloadn d_Mo_isRight_68 rfl rfl, ?_⟩
  refine ⟨so_getr (ci := 8) (k := 5) rfl (by decide) rfl rfl fl_Mo_22 d_Mo_isRight_69 rfl, ?_⟩
  refine ⟨so_iload d_Mo_isRight_72 rfl, ?_⟩
  refine ⟨so_iald d_Mo_isRight_74 rfl, ?_⟩
  refine ⟨so_if_lt d_Mo_isRight_75 rfl rfl, ?_⟩
  refine ⟨so_iload d_Mo_isRight_78 rfl, ?_⟩
  refine ⟨so_aloadn d_Mo_isRight_80 rfl rfl, ?_⟩
  refine ⟨so_getr (ci := 8) (k := 5) rfl (by decide) rfl rfl fl_Mo_22 d_Mo_isRight_81 rfl, ?_⟩
  refine ⟨so_iload d_Mo_isRight_84 rfl, ?_⟩
  refine ⟨so_iald d_Mo_isRight_86 rfl, ?_⟩
  refine ⟨so_ishr d_Mo_isRight_87 rfl, ?_⟩
  refine ⟨so_const1 d_Mo_isRight_88 (by decide) rfl, ?_⟩
  refine ⟨so_iand d_Mo_isRight_89 rfl, ?_⟩
  refine ⟨so_const1 d_Mo_isRight_90 (by decide) rfl, ?_⟩
  refine ⟨so_icmp_ne d_Mo_isRight_91 rfl rfl, ?_⟩
  refine ⟨so_const1 d_Mo_isRight_94 (by decide) rfl, ?_⟩
  refine ⟨so_goto d_Mo_isRight_95 rfl, ?_⟩
  refine ⟨so_const1 d_Mo_isRight_98 (by decide) rfl, ?_⟩
  refine ⟨so_zret d_Mo_isRight_99 rfl, ?_⟩
  refine ⟨so_aloadn d_Mo_isRight_100 rfl rfl, ?_⟩
  refine ⟨so_getr (ci := 8) (k := 5) rfl (by decide) rfl rfl fl_Mo_22 d_Mo_isRight_101 rfl, ?_⟩
  refine ⟨so_iload d_Mo_isRight_104 rfl, ?_⟩
  refine ⟨so_iald d_Mo_isRight_106 rfl, ?_⟩
  refine ⟨so_if_lt d_Mo_isRight_107 rfl rfl, ?_⟩
  refine ⟨so_iload d_Mo_isRight_110 rfl, ?_⟩
  refine ⟨so_aloadn d_Mo_isRight_112 rfl rfl, ?_⟩
  refine ⟨so_getr (ci := 8) (k := 5) rfl (by decide) rfl rfl fl_Mo_22 d_Mo_isRight_113 rfl, ?_⟩
  refine ⟨so_iload d_Mo_isRight_116 rfl, ?_⟩
  refine ⟨so_iald d_Mo_isRight_118 rfl, ?_⟩
  refine ⟨so_ishr d_Mo_isRight_119 rfl, ?_⟩
  refine ⟨so_const1 d_Mo_isRight_120 (by decide) rfl, ?_⟩
  refine ⟨so_iand d_Mo_isRight_121 rfl, ?_⟩
  refine ⟨so_const1 d_Mo_isRight_122 (by decide) rfl, ?_⟩
  refine ⟨so_icmp_ne d_Mo_isRight_123 rfl rfl, ?_⟩
  refine ⟨so_const1 d_Mo_isRight_126 (by decide) rfl, ?_⟩
  refine ⟨so_goto d_Mo_isRight_127 rfl, ?_⟩
  refine ⟨so_const1 d_Mo_isRight_130 (by decide) rfl, ?_⟩
  refine ⟨so_zret d_Mo_isRight_131 rfl, ?_⟩
  refine ⟨so_iload d_Mo_isRight_132 rfl, ?_⟩
  refine ⟨so_aloadn d_Mo_isRight_134 rfl rfl, ?_⟩
  refine ⟨so_geti (ci := 8) (k := 4) rfl (by decide) rfl rfl fl_Mo_87 d_Mo_isRight_135 rfl, ?_⟩
  refine ⟨so_icmp_ge d_Mo_isRight_138 rfl rfl, ?_⟩
  refine ⟨so_aloadn d_Mo_isRight_141 rfl rfl, ?_⟩
  refine ⟨so_getr (ci := 8) (k := 3) rfl (by decide) rfl rfl fl_Mo_19 d_Mo_isRight_142 rfl, ?_⟩
  refine ⟨so_iload d_Mo_isRight_145 rfl, ?_⟩
  refine ⟨so_iald d_Mo_isRight_147 rfl, ?_⟩
  refine ⟨so_if_ne d_Mo_isRight_148 rfl rfl, ?_⟩
  refine ⟨so_const1 d_Mo_isRight_151 (by decide) rfl, ?_⟩
  refine ⟨so_goto d_Mo_isRight_152 rfl, ?_⟩
  refine ⟨so_const1 d_Mo_isRight_155 (by decide) rfl, ?_⟩
  refine ⟨so_zret d_Mo_isRight_156 rfl, ?_⟩
  refine ⟨so_iload d_Mo_isRight_157 rfl, ?_⟩
  refine ⟨so_aloadn d_Mo_isRight_159 rfl rfl, ?_⟩
  refine ⟨so_geti (ci := 8) (k := 4) rfl (by decide) rfl rfl fl_Mo_87 d_Mo_isRight_160 rfl, ?_⟩
  refine ⟨so_icmp_ge d_Mo_isRight_163 rfl rfl, ?_⟩
  refine ⟨so_aloadn d_Mo_isRight_166 rfl rfl, ?_⟩
  refine ⟨so_getr (ci := 8) (k := 3) rfl (by decide) rfl rfl fl_Mo_19 d_Mo_isRight_167 rfl, ?_⟩
  refine ⟨so_iload d_Mo_isRight_170 rfl, ?_⟩
  refine ⟨so_iald d_Mo_isRight_172 rfl, ?_⟩
  refine ⟨so_iload d_Mo_isRight_173 rfl, ?_⟩
  refine ⟨so_const1 d_Mo_isRight_175 (by decide) rfl, ?_⟩
  refine ⟨so_ixor d_Mo_isRight_176 rfl, ?_⟩
  refine ⟨so_iand d_Mo_isRight_177 rfl, ?_⟩
  refine ⟨so_if_ne d_Mo_isRight_178 rfl rfl, ?_⟩
  refine ⟨so_const1 d_Mo_isRight_181 (by decide) rfl, ?_⟩
  refine ⟨so_goto d_Mo_isRight_182 rfl, ?_⟩
  refine ⟨so_const1 d_Mo_isRight_185 (by decide) rfl, ?_⟩
  refine ⟨so_zret d_Mo_isRight_186 rfl, ?_⟩
  refine ⟨so_const1 d_Mo_isRight_187 (by decide) rfl, ?_⟩
  refine ⟨so_zret d_Mo_isRight_188 rfl, ?_⟩
  exact trivial
theorem d_Mo_heldAt_0 : decode prog_10_method_12_code 0 = .ok (.aload_n 0, 1) := by decide +kernel
theorem d_Mo_heldAt_1 : decode prog_10_method_12_code 1 = .ok (.getfield 19, 3) := by decide +kernel
theorem d_Mo_heldAt_4 : decode prog_10_method_12_code 4 = .ok (.iload_n 1, 1) := by decide +kernel
theorem d_Mo_heldAt_5 : decode prog_10_method_12_code 5 = .ok (.iaload, 1) := by decide +kernel
theorem d_Mo_heldAt_6 : decode prog_10_method_12_code 6 = .ok (.istore_n 3, 1) := by decide +kernel
theorem d_Mo_heldAt_7 : decode prog_10_method_12_code 7 = .ok (.aload_n 0, 1) := by decide +kernel
theorem d_Mo_heldAt_8 : decode prog_10_method_12_code 8 = .ok (.iload_n 1, 1) := by decide +kernel
theorem d_Mo_heldAt_9 : decode prog_10_method_12_code 9 = .ok (.iload_n 2, 1) := by decide +kernel
theorem d_Mo_heldAt_10 : decode prog_10_method_12_code 10 = .ok (.invokevirtual 80, 3) := by decide +kernel
theorem d_Mo_heldAt_13 : decode prog_10_method_12_code 13 = .ok (.istore 4, 2) := by decide +kernel
theorem d_Mo_heldAt_15 : decode prog_10_method_12_code 15 = .ok (.iload 4, 2) := by decide +kernel
theorem d_Mo_heldAt_17 : decode prog_10_method_12_code 17 = .ok (.ifCond .lt 38, 3) := by decide +kernel
theorem d_Mo_heldAt_20 : decode prog_10_method_12_code 20 = .ok (.aload_n 0, 1) := by decide +kernel
theorem d_Mo_heldAt_21 : decode prog_10_method_12_code 21 = .ok (.iload_n 1, 1) := by decide +kernel
theorem d_Mo_heldAt_22 : decode prog_10_method_12_code 22 = .ok (.iload 4, 2) := by decide +kernel
theorem d_Mo_heldAt_24 : decode prog_10_method_12_code 24 = .ok (.invokevirtual 72, 3) := by decide +kernel
theorem d_Mo_heldAt_27 : decode prog_10_method_12_code 27 = .ok (.iconst 4, 1) := by decide +kernel
theorem d_Mo_heldAt_28 : decode prog_10_method_12_code 28 = .ok (.if_icmp .ne 15, 3) := by decide +kernel
theorem d_Mo_heldAt_31 : decode prog_10_method_12_code 31 = .ok (.iload_n 3, 1) := by decide +kernel
theorem d_Mo_heldAt_32 : decode prog_10_method_12_code 32 = .ok (.iconst 1, 1) := by decide +kernel
theorem d_Mo_heldAt_33 : decode prog_10_method_12_code 33 = .ok (.aload_n 0, 1) := by decide +kernel
theorem d_Mo_heldAt_34 : decode prog_10_method_12_code 34 = .ok (.iload_n 1, 1) := by decide +kernel
theorem d_Mo_heldAt_35 : decode prog_10_method_12_code 35 = .ok (.iload 4, 2) := by decide +kernel
theorem d_Mo_heldAt_37 : decode prog_10_method_12_code 37 = .ok (.invokevirtual 95, 3) := by decide +kernel
theorem d_Mo_heldAt_40 : decode prog_10_method_12_code 40 = .ok (.ishl, 1) := by decide +kernel
theorem d_Mo_heldAt_41 : decode prog_10_method_12_code 41 = .ok (.ior, 1) := by decide +kernel
theorem d_Mo_heldAt_42 : decode prog_10_method_12_code 42 = .ok (.istore_n 3, 1) := by decide +kernel
theorem d_Mo_heldAt_43 : decode prog_10_method_12_code 43 = .ok (.aload_n 0, 1) := by decide +kernel
theorem d_Mo_heldAt_44 : decode prog_10_method_12_code 44 = .ok (.iload_n 1, 1) := by decide +kernel
theorem d_Mo_heldAt_45 : decode prog_10_method_12_code 45 = .ok (.iload 4, 2) := by decide +kernel
theorem d_Mo_heldAt_47 : decode prog_10_method_12_code 47 = .ok (.invokevirtual 80, 3) := by decide +kernel
theorem d_Mo_heldAt_50 : decode prog_10_method_12_code 50 = .ok (.istore 4, 2) := by decide +kernel
theorem d_Mo_heldAt_52 : decode prog_10_method_12_code 52 = .ok (.goto (-37), 3) := by decide +kernel
theorem d_Mo_heldAt_55 : decode prog_10_method_12_code 55 = .ok (.iload_n 3, 1) := by decide +kernel
theorem d_Mo_heldAt_56 : decode prog_10_method_12_code 56 = .ok (.ireturn, 1) := by decide +kernel
def tb_Mo_heldAt : List pm_I := [
  pm_aload 1 0,
  pm_getr 2 8 3,
  pm_iload 3 1,
  pm_iald 4 0,
  pm_istore 5 3,
  pm_aload 6 0,
  pm_iload 7 1,
  pm_iload 8 2,
  pm_callv 9 75 3 8,
  pm_istore 10 4,
  pm_iload 11 4,
  pm_if 33 12 (fun a => decide (a < 0)),
  pm_aload 13 0,
  pm_iload 14 1,
  pm_iload 15 4,
  pm_callv 16 74 3 8,
  pm_const 17 4,
  pm_icmp 27 18 (fun a b => decide (a ≠ b)),
  pm_iload 19 3,
  pm_const 20 1,
  pm_aload 21 0,
  pm_iload 22 1,
  pm_iload 23 4,
  pm_callv 24 78 3 8,
  pm_bin 25 (fun a b => a <<< (b &&& 31)),
  pm_bin 26 (fun a b => a ||| b),
  pm_istore 27 3,
  pm_aload 28 0,
  pm_iload 29 1,
  pm_iload 30 4,
  pm_callv 31 75 3 8,
  pm_istore 32 4,
  pm_goto 10,
  pm_iload 34 3,
  pm_iret]
def bp_Mo_heldAt : List Nat := [0, 1, 4, 5, 6, 7, 8, 9, 10, 13, 15, 17, 20, 21, 22, 24, 27, 28, 31, 32, 33, 34, 35, 37, 40, 41, 42, 43, 44, 45, 47, 50, 52, 55, 56]
set_option maxRecDepth 100000 in
theorem sd_Mo_heldAt : pm_Sl prog_10_method_12_code 5 R_Mo "heldAt" (some .int) pm_Y (pm_b bp_Mo_heldAt) 0 tb_Mo_heldAt := by
  refine ⟨so_aloadn d_Mo_heldAt_0 rfl rfl, ?_⟩
  refine ⟨so_getr (ci := 8) (k := 3) rfl (by decide) rfl rfl fl_Mo_19 d_Mo_heldAt_1 rfl, ?_⟩
  refine ⟨so_iloadn d_Mo_heldAt_4 rfl rfl, ?_⟩
  refine ⟨so_iald d_Mo_heldAt_5 rfl, ?_⟩
  refine ⟨so_istoren d_Mo_heldAt_6 rfl (by decide) rfl, ?_⟩
  refine ⟨so_aloadn d_Mo_heldAt_7 rfl rfl, ?_⟩
  refine ⟨so_iloadn d_Mo_heldAt_8 rfl rfl, ?_⟩
  refine ⟨so_iloadn d_Mo_heldAt_9 rfl rfl, ?_⟩
  refine ⟨so_callv (ci := 8) rfl rfl mc_Mo_openerOf mi_Mo mj_Mo_openerOf ms_Mo_openerOf ml_Mo_80 yd_Mo_openerOf (by decide) d_Mo_heldAt_10 rfl, ?_⟩
  refine ⟨so_istore d_Mo_heldAt_13 (by decide) rfl, ?_⟩
  refine ⟨so_iload d_Mo_heldAt_15 rfl, ?_⟩
  refine ⟨so_if_lt d_Mo_heldAt_17 rfl rfl, ?_⟩
  refine ⟨so_aloadn d_Mo_heldAt_20 rfl rfl, ?_⟩
  refine ⟨so_iloadn d_Mo_heldAt_21 rfl rfl, ?_⟩
  refine ⟨so_iload d_Mo_heldAt_22 rfl, ?_⟩
  refine ⟨so_callv (ci := 8) rfl rfl mc_Mo_kindAt mi_Mo mj_Mo_kindAt ms_Mo_kindAt ml_Mo_72 yd_Mo_kindAt (by decide) d_Mo_heldAt_24 rfl, ?_⟩
  refine ⟨so_const1 d_Mo_heldAt_27 (by decide) rfl, ?_⟩
  refine ⟨so_icmp_ne d_Mo_heldAt_28 rfl rfl, ?_⟩
  refine ⟨so_iloadn d_Mo_heldAt_31 rfl rfl, ?_⟩
  refine ⟨so_const1 d_Mo_heldAt_32 (by decide) rfl, ?_⟩
  refine ⟨so_aloadn d_Mo_heldAt_33 rfl rfl, ?_⟩
  refine ⟨so_iloadn d_Mo_heldAt_34 rfl rfl, ?_⟩
  refine ⟨so_iload d_Mo_heldAt_35 rfl, ?_⟩
  refine ⟨so_callv (ci := 8) rfl rfl mc_Mo_numberAt mi_Mo mj_Mo_numberAt ms_Mo_numberAt ml_Mo_95 yd_Mo_numberAt (by decide) d_Mo_heldAt_37 rfl, ?_⟩
  refine ⟨so_ishl d_Mo_heldAt_40 rfl, ?_⟩
  refine ⟨so_ior d_Mo_heldAt_41 rfl, ?_⟩
  refine ⟨so_istoren d_Mo_heldAt_42 rfl (by decide) rfl, ?_⟩
  refine ⟨so_aloadn d_Mo_heldAt_43 rfl rfl, ?_⟩
  refine ⟨so_iloadn d_Mo_heldAt_44 rfl rfl, ?_⟩
  refine ⟨so_iload d_Mo_heldAt_45 rfl, ?_⟩
  refine ⟨so_callv (ci := 8) rfl rfl mc_Mo_openerOf mi_Mo mj_Mo_openerOf ms_Mo_openerOf ml_Mo_80 yd_Mo_openerOf (by decide) d_Mo_heldAt_47 rfl, ?_⟩
  refine ⟨so_istore d_Mo_heldAt_50 (by decide) rfl, ?_⟩
  refine ⟨so_goto d_Mo_heldAt_52 rfl, ?_⟩
  refine ⟨so_iloadn d_Mo_heldAt_55 rfl rfl, ?_⟩
  refine ⟨so_iret d_Mo_heldAt_56 rfl, ?_⟩
  exact trivial
theorem d_Mo_sound_0 : decode prog_10_method_15_code 0 = .ok (.iconst 0, 1) := by decide +kernel
theorem d_Mo_sound_1 : decode prog_10_method_15_code 1 = .ok (.istore_n 1, 1) := by decide +kernel
theorem d_Mo_sound_2 : decode prog_10_method_15_code 2 = .ok (.iload_n 1, 1) := by decide +kernel
theorem d_Mo_sound_3 : decode prog_10_method_15_code 3 = .ok (.aload_n 0, 1) := by decide +kernel
theorem d_Mo_sound_4 : decode prog_10_method_15_code 4 = .ok (.getfield 87, 3) := by decide +kernel
theorem d_Mo_sound_7 : decode prog_10_method_15_code 7 = .ok (.if_icmp .ge 25, 3) := by decide +kernel
theorem d_Mo_sound_10 : decode prog_10_method_15_code 10 = .ok (.aload_n 0, 1) := by decide +kernel
theorem d_Mo_sound_11 : decode prog_10_method_15_code 11 = .ok (.iload_n 1, 1) := by decide +kernel
theorem d_Mo_sound_12 : decode prog_10_method_15_code 12 = .ok (.invokevirtual 104, 3) := by decide +kernel
theorem d_Mo_sound_15 : decode prog_10_method_15_code 15 = .ok (.aload_n 0, 1) := by decide +kernel
theorem d_Mo_sound_16 : decode prog_10_method_15_code 16 = .ok (.getfield 16, 3) := by decide +kernel
theorem d_Mo_sound_19 : decode prog_10_method_15_code 19 = .ok (.iload_n 1, 1) := by decide +kernel
theorem d_Mo_sound_20 : decode prog_10_method_15_code 20 = .ok (.iaload, 1) := by decide +kernel
theorem d_Mo_sound_21 : decode prog_10_method_15_code 21 = .ok (.if_icmp .ge 5, 3) := by decide +kernel
theorem d_Mo_sound_24 : decode prog_10_method_15_code 24 = .ok (.iconst 0, 1) := by decide +kernel
theorem d_Mo_sound_25 : decode prog_10_method_15_code 25 = .ok (.ireturn, 1) := by decide +kernel
theorem d_Mo_sound_26 : decode prog_10_method_15_code 26 = .ok (.iinc 1 1, 3) := by decide +kernel
theorem d_Mo_sound_29 : decode prog_10_method_15_code 29 = .ok (.goto (-27), 3) := by decide +kernel
theorem d_Mo_sound_32 : decode prog_10_method_15_code 32 = .ok (.iconst 1, 1) := by decide +kernel
theorem d_Mo_sound_33 : decode prog_10_method_15_code 33 = .ok (.ireturn, 1) := by decide +kernel
def tb_Mo_sound : List pm_I := [
  pm_const 1 0,
  pm_istore 2 1,
  pm_iload 3 1,
  pm_aload 4 0,
  pm_geti 5 8 4,
  pm_icmp 18 6 (fun a b => decide (b ≤ a)),
  pm_aload 7 0,
  pm_iload 8 1,
  pm_callv 9 80 2 8,
  pm_aload 10 0,
  pm_getr 11 8 2,
  pm_iload 12 1,
  pm_iald 13 0,
  pm_icmp 16 14 (fun a b => decide (b ≤ a)),
  pm_const 15 0,
  pm_zret,
  pm_iinc 17 1 1,
  pm_goto 2,
  pm_const 19 1,
  pm_zret]
def bp_Mo_sound : List Nat := [0, 1, 2, 3, 4, 7, 10, 11, 12, 15, 16, 19, 20, 21, 24, 25, 26, 29, 32, 33]
set_option maxRecDepth 100000 in
theorem sd_Mo_sound : pm_Sl prog_10_method_15_code 2 R_Mo "sound" (some .boolean) pm_Y (pm_b bp_Mo_sound) 0 tb_Mo_sound := by
  refine ⟨so_const1 d_Mo_sound_0 (by decide) rfl, ?_⟩
  refine ⟨so_istoren d_Mo_sound_1 rfl (by decide) rfl, ?_⟩
  refine ⟨so_iloadn d_Mo_sound_2 rfl rfl, ?_⟩
  refine ⟨so_aloadn d_Mo_sound_3 rfl rfl, ?_⟩
  refine ⟨so_geti (ci := 8) (k := 4) rfl (by decide) rfl rfl fl_Mo_87 d_Mo_sound_4 rfl, ?_⟩
  refine ⟨so_icmp_ge d_Mo_sound_7 rfl rfl, ?_⟩
  refine ⟨so_aloadn d_Mo_sound_10 rfl rfl, ?_⟩
  refine ⟨so_iloadn d_Mo_sound_11 rfl rfl, ?_⟩
  refine ⟨so_callv (ci := 8) rfl rfl mc_Mo_check mi_Mo mj_Mo_check ms_Mo_check ml_Mo_104 yd_Mo_check (by decide) d_Mo_sound_12 rfl, ?_⟩
  refine ⟨so_aloadn d_Mo_sound_15 rfl rfl, ?_⟩
  refine ⟨so_getr (ci := 8) (k := 2) rfl (by decide) rfl rfl fl_Mo_16 d_Mo_sound_16 rfl, ?_⟩
  refine ⟨so_iloadn d_Mo_sound_19 rfl rfl, ?_⟩
  refine ⟨so_iald d_Mo_sound_20 rfl, ?_⟩
  refine ⟨so_icmp_ge d_Mo_sound_21 rfl rfl, ?_⟩
  refine ⟨so_const1 d_Mo_sound_24 (by decide) rfl, ?_⟩
  refine ⟨so_zret d_Mo_sound_25 rfl, ?_⟩
  refine ⟨so_iinc d_Mo_sound_26 (by decide) (by decide) rfl, ?_⟩
  refine ⟨so_goto d_Mo_sound_29 rfl, ?_⟩
  refine ⟨so_const1 d_Mo_sound_32 (by decide) rfl, ?_⟩
  refine ⟨so_zret d_Mo_sound_33 rfl, ?_⟩
  exact trivial
theorem d_Mo_start_0 : decode prog_10_method_19_code 0 = .ok (.iload_n 1, 1) := by decide +kernel
theorem d_Mo_start_1 : decode prog_10_method_19_code 1 = .ok (.aload_n 0, 1) := by decide +kernel
theorem d_Mo_start_2 : decode prog_10_method_19_code 2 = .ok (.getfield 87, 3) := by decide +kernel
theorem d_Mo_start_5 : decode prog_10_method_19_code 5 = .ok (.invokestatic 68, 3) := by decide +kernel
theorem d_Mo_start_8 : decode prog_10_method_19_code 8 = .ok (.ifCond .ne 5, 3) := by decide +kernel
theorem d_Mo_start_11 : decode prog_10_method_19_code 11 = .ok (.iconst 0, 1) := by decide +kernel
theorem d_Mo_start_12 : decode prog_10_method_19_code 12 = .ok (.ireturn, 1) := by decide +kernel
theorem d_Mo_start_13 : decode prog_10_method_19_code 13 = .ok (.aload_n 0, 1) := by decide +kernel
theorem d_Mo_start_14 : decode prog_10_method_19_code 14 = .ok (.iconst 1, 1) := by decide +kernel
theorem d_Mo_start_15 : decode prog_10_method_19_code 15 = .ok (.putfield 119, 3) := by decide +kernel
theorem d_Mo_start_18 : decode prog_10_method_19_code 18 = .ok (.iconst 0, 1) := by decide +kernel
theorem d_Mo_start_19 : decode prog_10_method_19_code 19 = .ok (.istore_n 3, 1) := by decide +kernel
theorem d_Mo_start_20 : decode prog_10_method_19_code 20 = .ok (.iload_n 3, 1) := by decide +kernel
theorem d_Mo_start_21 : decode prog_10_method_19_code 21 = .ok (.bipush 8, 2) := by decide +kernel
theorem d_Mo_start_23 : decode prog_10_method_19_code 23 = .ok (.if_icmp .ge 16, 3) := by decide +kernel
theorem d_Mo_start_26 : decode prog_10_method_19_code 26 = .ok (.aload_n 0, 1) := by decide +kernel
theorem d_Mo_start_27 : decode prog_10_method_19_code 27 = .ok (.getfield 25, 3) := by decide +kernel
theorem d_Mo_start_30 : decode prog_10_method_19_code 30 = .ok (.iload_n 3, 1) := by decide +kernel
theorem d_Mo_start_31 : decode prog_10_method_19_code 31 = .ok (.iconst 0, 1) := by decide +kernel
theorem d_Mo_start_32 : decode prog_10_method_19_code 32 = .ok (.iastore, 1) := by decide +kernel
theorem d_Mo_start_33 : decode prog_10_method_19_code 33 = .ok (.iinc 3 1, 3) := by decide +kernel
theorem d_Mo_start_36 : decode prog_10_method_19_code 36 = .ok (.goto (-16), 3) := by decide +kernel
theorem d_Mo_start_39 : decode prog_10_method_19_code 39 = .ok (.iconst 0, 1) := by decide +kernel
theorem d_Mo_start_40 : decode prog_10_method_19_code 40 = .ok (.istore_n 3, 1) := by decide +kernel
theorem d_Mo_start_41 : decode prog_10_method_19_code 41 = .ok (.iload_n 3, 1) := by decide +kernel
theorem d_Mo_start_42 : decode prog_10_method_19_code 42 = .ok (.iconst 4, 1) := by decide +kernel
theorem d_Mo_start_43 : decode prog_10_method_19_code 43 = .ok (.if_icmp .ge 30, 3) := by decide +kernel
theorem d_Mo_start_46 : decode prog_10_method_19_code 46 = .ok (.aload_n 0, 1) := by decide +kernel
theorem d_Mo_start_47 : decode prog_10_method_19_code 47 = .ok (.getfield 28, 3) := by decide +kernel
theorem d_Mo_start_50 : decode prog_10_method_19_code 50 = .ok (.iload_n 3, 1) := by decide +kernel
theorem d_Mo_start_51 : decode prog_10_method_19_code 51 = .ok (.iconst (-1), 1) := by decide +kernel
theorem d_Mo_start_52 : decode prog_10_method_19_code 52 = .ok (.iastore, 1) := by decide +kernel
theorem d_Mo_start_53 : decode prog_10_method_19_code 53 = .ok (.aload_n 0, 1) := by decide +kernel
theorem d_Mo_start_54 : decode prog_10_method_19_code 54 = .ok (.getfield 31, 3) := by decide +kernel
theorem d_Mo_start_57 : decode prog_10_method_19_code 57 = .ok (.iload_n 3, 1) := by decide +kernel
theorem d_Mo_start_58 : decode prog_10_method_19_code 58 = .ok (.iconst 0, 1) := by decide +kernel
theorem d_Mo_start_59 : decode prog_10_method_19_code 59 = .ok (.iastore, 1) := by decide +kernel
theorem d_Mo_start_60 : decode prog_10_method_19_code 60 = .ok (.aload_n 0, 1) := by decide +kernel
theorem d_Mo_start_61 : decode prog_10_method_19_code 61 = .ok (.getfield 34, 3) := by decide +kernel
theorem d_Mo_start_64 : decode prog_10_method_19_code 64 = .ok (.iload_n 3, 1) := by decide +kernel
theorem d_Mo_start_65 : decode prog_10_method_19_code 65 = .ok (.iconst (-1), 1) := by decide +kernel
theorem d_Mo_start_66 : decode prog_10_method_19_code 66 = .ok (.iastore, 1) := by decide +kernel
theorem d_Mo_start_67 : decode prog_10_method_19_code 67 = .ok (.iinc 3 1, 3) := by decide +kernel
theorem d_Mo_start_70 : decode prog_10_method_19_code 70 = .ok (.goto (-29), 3) := by decide +kernel
theorem d_Mo_start_73 : decode prog_10_method_19_code 73 = .ok (.aload_n 0, 1) := by decide +kernel
theorem d_Mo_start_74 : decode prog_10_method_19_code 74 = .ok (.iconst 0, 1) := by decide +kernel
theorem d_Mo_start_75 : decode prog_10_method_19_code 75 = .ok (.putfield 108, 3) := by decide +kernel
theorem d_Mo_start_78 : decode prog_10_method_19_code 78 = .ok (.aload_n 0, 1) := by decide +kernel
theorem d_Mo_start_79 : decode prog_10_method_19_code 79 = .ok (.iconst 0, 1) := by decide +kernel
theorem d_Mo_start_80 : decode prog_10_method_19_code 80 = .ok (.putfield 123, 3) := by decide +kernel
theorem d_Mo_start_83 : decode prog_10_method_19_code 83 = .ok (.aload_n 0, 1) := by decide +kernel
theorem d_Mo_start_84 : decode prog_10_method_19_code 84 = .ok (.iconst 0, 1) := by decide +kernel
theorem d_Mo_start_85 : decode prog_10_method_19_code 85 = .ok (.putfield 126, 3) := by decide +kernel
theorem d_Mo_start_88 : decode prog_10_method_19_code 88 = .ok (.aload_n 0, 1) := by decide +kernel
theorem d_Mo_start_89 : decode prog_10_method_19_code 89 = .ok (.iload_n 1, 1) := by decide +kernel
theorem d_Mo_start_90 : decode prog_10_method_19_code 90 = .ok (.iload_n 2, 1) := by decide +kernel
theorem d_Mo_start_91 : decode prog_10_method_19_code 91 = .ok (.iconst (-1), 1) := by decide +kernel
theorem d_Mo_start_92 : decode prog_10_method_19_code 92 = .ok (.invokevirtual 129, 3) := by decide +kernel
theorem d_Mo_start_95 : decode prog_10_method_19_code 95 = .ok (.iconst 1, 1) := by decide +kernel
theorem d_Mo_start_96 : decode prog_10_method_19_code 96 = .ok (.ireturn, 1) := by decide +kernel
def tb_Mo_start : List pm_I := [
  pm_iload 1 1,
  pm_aload 2 0,
  pm_geti 3 8 4,
  pm_calls 4 71 2,
  pm_if 7 5 (fun a => decide (a ≠ 0)),
  pm_const 6 0,
  pm_zret,
  pm_aload 8 0,
  pm_const 9 1,
  pm_putz 10 8 6,
  pm_const 11 0,
  pm_istore 12 3,
  pm_iload 13 3,
  pm_const 14 8,
  pm_icmp 22 15 (fun a b => decide (b ≤ a)),
  pm_aload 16 0,
  pm_getr 17 8 7,
  pm_iload 18 3,
  pm_const 19 0,
  pm_iast 20,
  pm_iinc 21 3 1,
  pm_goto 12,
  pm_const 23 0,
  pm_istore 24 3,
  pm_iload 25 3,
  pm_const 26 4,
  pm_icmp 44 27 (fun a b => decide (b ≤ a)),
  pm_aload 28 0,
  pm_getr 29 8 8,
  pm_iload 30 3,
  pm_const 31 (-1),
  pm_iast 32,
  pm_aload 33 0,
  pm_getr 34 8 9,
  pm_iload 35 3,
  pm_const 36 0,
  pm_iast 37,
  pm_aload 38 0,
  pm_getr 39 8 10,
  pm_iload 40 3,
  pm_const 41 (-1),
  pm_iast 42,
  pm_iinc 43 3 1,
  pm_goto 24,
  pm_aload 45 0,
  pm_const 46 0,
  pm_puti 47 8 11,
  pm_aload 48 0,
  pm_const 49 0,
  pm_puti 50 8 17,
  pm_aload 51 0,
  pm_const 52 0,
  pm_puti 53 8 22,
  pm_aload 54 0,
  pm_iload 55 1,
  pm_iload 56 2,
  pm_const 57 (-1),
  pm_callv 58 85 4 8,
  pm_const 59 1,
  pm_zret]
def bp_Mo_start : List Nat := [0, 1, 2, 5, 8, 11, 12, 13, 14, 15, 18, 19, 20, 21, 23, 26, 27, 30, 31, 32, 33, 36, 39, 40, 41, 42, 43, 46, 47, 50, 51, 52, 53, 54, 57, 58, 59, 60, 61, 64, 65, 66, 67, 70, 73, 74, 75, 78, 79, 80, 83, 84, 85, 88, 89, 90, 91, 92, 95, 96]
set_option maxRecDepth 100000 in
theorem sd_Mo_start : pm_Sl prog_10_method_19_code 4 R_Mo "start" (some .boolean) pm_Y (pm_b bp_Mo_start) 0 tb_Mo_start := by
  refine ⟨so_iloadn d_Mo_start_0 rfl rfl, ?_⟩
  refine ⟨so_aloadn d_Mo_start_1 rfl rfl, ?_⟩
  refine ⟨so_geti (ci := 8) (k := 4) rfl (by decide) rfl rfl fl_Mo_87 d_Mo_start_2 rfl, ?_⟩
  refine ⟨so_calls rfl mc_Mo_isIn mi_Mo mt_Mo_isIn ml_Mo_68 yd_Mo_isIn (by decide) d_Mo_start_5 rfl, ?_⟩
  refine ⟨so_if_ne d_Mo_start_8 rfl rfl, ?_⟩
  refine ⟨so_const1 d_Mo_start_11 (by decide) rfl, ?_⟩
  refine ⟨so_zret d_Mo_start_12 rfl, ?_⟩
  refine ⟨so_aloadn d_Mo_start_13 rfl rfl, ?_⟩
  refine ⟨so_const1 d_Mo_start_14 (by decide) rfl, ?_⟩
  refine ⟨so_putz (ci := 8) (k := 6) rfl (by decide) rfl rfl (Or.inl ⟨rfl, fl_Mo_119⟩) d_Mo_start_15 rfl, ?_⟩
  refine ⟨so_const1 d_Mo_start_18 (by decide) rfl, ?_⟩
  refine ⟨so_istoren d_Mo_start_19 rfl (by decide) rfl, ?_⟩
  refine ⟨so_iloadn d_Mo_start_20 rfl rfl, ?_⟩
  refine ⟨so_const2 d_Mo_start_21 (by decide) rfl, ?_⟩
  refine ⟨so_icmp_ge d_Mo_start_23 rfl rfl, ?_⟩
  refine ⟨so_aloadn d_Mo_start_26 rfl rfl, ?_⟩
  refine ⟨so_getr (ci := 8) (k := 7) rfl (by decide) rfl rfl fl_Mo_25 d_Mo_start_27 rfl, ?_⟩
  refine ⟨so_iloadn d_Mo_start_30 rfl rfl, ?_⟩
  refine ⟨so_const1 d_Mo_start_31 (by decide) rfl, ?_⟩
  refine ⟨so_iast d_Mo_start_32 rfl, ?_⟩
  refine ⟨so_iinc d_Mo_start_33 (by decide) (by decide) rfl, ?_⟩
  refine ⟨so_goto d_Mo_start_36 rfl, ?_⟩
  refine ⟨so_const1 d_Mo_start_39 (by decide) rfl, ?_⟩
  refine ⟨so_istoren d_Mo_start_40 rfl (by decide) rfl, ?_⟩
  refine ⟨so_iloadn d_Mo_start_41 rfl rfl, ?_⟩
  refine ⟨so_const1 d_Mo_start_42 (by decide) rfl, ?_⟩
  refine ⟨so_icmp_ge d_Mo_start_43 rfl rfl, ?_⟩
  refine ⟨so_aloadn d_Mo_start_46 rfl rfl, ?_⟩
  refine ⟨so_getr (ci := 8) (k := 8) rfl (by decide) rfl rfl fl_Mo_28 d_Mo_start_47 rfl, ?_⟩
  refine ⟨so_iloadn d_Mo_start_50 rfl rfl, ?_⟩
  refine ⟨so_const1 d_Mo_start_51 (by decide) rfl, ?_⟩
  refine ⟨so_iast d_Mo_start_52 rfl, ?_⟩
  refine ⟨so_aloadn d_Mo_start_53 rfl rfl, ?_⟩
  refine ⟨so_getr (ci := 8) (k := 9) rfl (by decide) rfl rfl fl_Mo_31 d_Mo_start_54 rfl, ?_⟩
  refine ⟨so_iloadn d_Mo_start_57 rfl rfl, ?_⟩
  refine ⟨so_const1 d_Mo_start_58 (by decide) rfl, ?_⟩
  refine ⟨so_iast d_Mo_start_59 rfl, ?_⟩
  refine ⟨so_aloadn d_Mo_start_60 rfl rfl, ?_⟩
  refine ⟨so_getr (ci := 8) (k := 10) rfl (by decide) rfl rfl fl_Mo_34 d_Mo_start_61 rfl, ?_⟩
  refine ⟨so_iloadn d_Mo_start_64 rfl rfl, ?_⟩
  refine ⟨so_const1 d_Mo_start_65 (by decide) rfl, ?_⟩
  refine ⟨so_iast d_Mo_start_66 rfl, ?_⟩
  refine ⟨so_iinc d_Mo_start_67 (by decide) (by decide) rfl, ?_⟩
  refine ⟨so_goto d_Mo_start_70 rfl, ?_⟩
  refine ⟨so_aloadn d_Mo_start_73 rfl rfl, ?_⟩
  refine ⟨so_const1 d_Mo_start_74 (by decide) rfl, ?_⟩
  refine ⟨so_puti (ci := 8) (k := 11) rfl (by decide) rfl rfl (Or.inl ⟨rfl, fl_Mo_108⟩) d_Mo_start_75 rfl, ?_⟩
  refine ⟨so_aloadn d_Mo_start_78 rfl rfl, ?_⟩
  refine ⟨so_const1 d_Mo_start_79 (by decide) rfl, ?_⟩
  refine ⟨so_puti (ci := 8) (k := 17) rfl (by decide) rfl rfl (Or.inl ⟨rfl, fl_Mo_123⟩) d_Mo_start_80 rfl, ?_⟩
  refine ⟨so_aloadn d_Mo_start_83 rfl rfl, ?_⟩
  refine ⟨so_const1 d_Mo_start_84 (by decide) rfl, ?_⟩
  refine ⟨so_puti (ci := 8) (k := 22) rfl (by decide) rfl rfl (Or.inl ⟨rfl, fl_Mo_126⟩) d_Mo_start_85 rfl, ?_⟩
  refine ⟨so_aloadn d_Mo_start_88 rfl rfl, ?_⟩
  refine ⟨so_iloadn d_Mo_start_89 rfl rfl, ?_⟩
  refine ⟨so_iloadn d_Mo_start_90 rfl rfl, ?_⟩
  refine ⟨so_const1 d_Mo_start_91 (by decide) rfl, ?_⟩
  refine ⟨so_callv (ci := 8) rfl rfl mc_Mo_begin mi_Mo mj_Mo_begin ms_Mo_begin ml_Mo_129 yd_Mo_begin (by decide) d_Mo_start_92 rfl, ?_⟩
  refine ⟨so_const1 d_Mo_start_95 (by decide) rfl, ?_⟩
  refine ⟨so_zret d_Mo_start_96 rfl, ?_⟩
  exact trivial
theorem d_Mo_begin_0 : decode prog_10_method_18_code 0 = .ok (.aload_n 0, 1) := by decide +kernel
theorem d_Mo_begin_1 : decode prog_10_method_18_code 1 = .ok (.getfield 37, 3) := by decide +kernel
theorem d_Mo_begin_4 : decode prog_10_method_18_code 4 = .ok (.aload_n 0, 1) := by decide +kernel
theorem d_Mo_begin_5 : decode prog_10_method_18_code 5 = .ok (.getfield 108, 3) := by decide +kernel
theorem d_Mo_begin_8 : decode prog_10_method_18_code 8 = .ok (.iload_n 2, 1) := by decide +kernel
theorem d_Mo_begin_9 : decode prog_10_method_18_code 9 = .ok (.iastore, 1) := by decide +kernel
theorem d_Mo_begin_10 : decode prog_10_method_18_code 10 = .ok (.aload_n 0, 1) := by decide +kernel
theorem d_Mo_begin_11 : decode prog_10_method_18_code 11 = .ok (.getfield 40, 3) := by decide +kernel
theorem d_Mo_begin_14 : decode prog_10_method_18_code 14 = .ok (.aload_n 0, 1) := by decide +kernel
theorem d_Mo_begin_15 : decode prog_10_method_18_code 15 = .ok (.getfield 108, 3) := by decide +kernel
theorem d_Mo_begin_18 : decode prog_10_method_18_code 18 = .ok (.iconst 0, 1) := by decide +kernel
theorem d_Mo_begin_19 : decode prog_10_method_18_code 19 = .ok (.iastore, 1) := by decide +kernel
theorem d_Mo_begin_20 : decode prog_10_method_18_code 20 = .ok (.aload_n 0, 1) := by decide +kernel
theorem d_Mo_begin_21 : decode prog_10_method_18_code 21 = .ok (.getfield 49, 3) := by decide +kernel
theorem d_Mo_begin_24 : decode prog_10_method_18_code 24 = .ok (.aload_n 0, 1) := by decide +kernel
theorem d_Mo_begin_25 : decode prog_10_method_18_code 25 = .ok (.getfield 108, 3) := by decide +kernel
theorem d_Mo_begin_28 : decode prog_10_method_18_code 28 = .ok (.iload_n 3, 1) := by decide +kernel
theorem d_Mo_begin_29 : decode prog_10_method_18_code 29 = .ok (.iastore, 1) := by decide +kernel
theorem d_Mo_begin_30 : decode prog_10_method_18_code 30 = .ok (.aload_n 0, 1) := by decide +kernel
theorem d_Mo_begin_31 : decode prog_10_method_18_code 31 = .ok (.aload_n 0, 1) := by decide +kernel
theorem d_Mo_begin_32 : decode prog_10_method_18_code 32 = .ok (.getfield 108, 3) := by decide +kernel
theorem d_Mo_begin_35 : decode prog_10_method_18_code 35 = .ok (.iload_n 1, 1) := by decide +kernel
theorem d_Mo_begin_36 : decode prog_10_method_18_code 36 = .ok (.invokevirtual 111, 3) := by decide +kernel
theorem d_Mo_begin_39 : decode prog_10_method_18_code 39 = .ok (.aload_n 0, 1) := by decide +kernel
theorem d_Mo_begin_40 : decode prog_10_method_18_code 40 = .ok (.aload_n 0, 1) := by decide +kernel
theorem d_Mo_begin_41 : decode prog_10_method_18_code 41 = .ok (.getfield 108, 3) := by decide +kernel
theorem d_Mo_begin_44 : decode prog_10_method_18_code 44 = .ok (.invokevirtual 115, 3) := by decide +kernel
theorem d_Mo_begin_47 : decode prog_10_method_18_code 47 = .ok (.aload_n 0, 1) := by decide +kernel
theorem d_Mo_begin_48 : decode prog_10_method_18_code 48 = .ok (.dup, 1) := by decide +kernel
theorem d_Mo_begin_49 : decode prog_10_method_18_code 49 = .ok (.getfield 108, 3) := by decide +kernel
theorem d_Mo_begin_52 : decode prog_10_method_18_code 52 = .ok (.iconst 1, 1) := by decide +kernel
theorem d_Mo_begin_53 : decode prog_10_method_18_code 53 = .ok (.iadd, 1) := by decide +kernel
theorem d_Mo_begin_54 : decode prog_10_method_18_code 54 = .ok (.putfield 108, 3) := by decide +kernel
theorem d_Mo_begin_57 : decode prog_10_method_18_code 57 = .ok (.return_, 1) := by decide +kernel
def tb_Mo_begin : List pm_I := [
  pm_aload 1 0,
  pm_getr 2 8 12,
  pm_aload 3 0,
  pm_geti 4 8 11,
  pm_iload 5 2,
  pm_iast 6,
  pm_aload 7 0,
  pm_getr 8 8 13,
  pm_aload 9 0,
  pm_geti 10 8 11,
  pm_const 11 0,
  pm_iast 12,
  pm_aload 13 0,
  pm_getr 14 8 16,
  pm_aload 15 0,
  pm_geti 16 8 11,
  pm_iload 17 3,
  pm_iast 18,
  pm_aload 19 0,
  pm_aload 20 0,
  pm_geti 21 8 11,
  pm_iload 22 1,
  pm_callv 23 86 3 8,
  pm_aload 24 0,
  pm_aload 25 0,
  pm_geti 26 8 11,
  pm_callv 27 87 2 8,
  pm_aload 28 0,
  pm_dup 29,
  pm_geti 30 8 11,
  pm_const 31 1,
  pm_bin 32 (fun a b => a + b),
  pm_puti 33 8 11,
  pm_vret]
def bp_Mo_begin : List Nat := [0, 1, 4, 5, 8, 9, 10, 11, 14, 15, 18, 19, 20, 21, 24, 25, 28, 29, 30, 31, 32, 35, 36, 39, 40, 41, 44, 47, 48, 49, 52, 53, 54, 57]
set_option maxRecDepth 100000 in
theorem sd_Mo_begin : pm_Sl prog_10_method_18_code 4 R_Mo "begin" (none) pm_Y (pm_b bp_Mo_begin) 0 tb_Mo_begin := by
  refine ⟨so_aloadn d_Mo_begin_0 rfl rfl, ?_⟩
  refine ⟨so_getr (ci := 8) (k := 12) rfl (by decide) rfl rfl fl_Mo_37 d_Mo_begin_1 rfl, ?_⟩
  refine ⟨so_aloadn d_Mo_begin_4 rfl rfl, ?_⟩
  refine ⟨so_geti (ci := 8) (k := 11) rfl (by decide) rfl rfl fl_Mo_108 d_Mo_begin_5 rfl, ?_⟩
  refine ⟨so_iloadn d_Mo_begin_8 rfl rfl, ?_⟩
  refine ⟨so_iast d_Mo_begin_9 rfl, ?_⟩
  refine ⟨so_aloadn d_Mo_begin_10 rfl rfl, ?_⟩
  refine ⟨so_getr (ci := 8) (k := 13) rfl (by decide) rfl rfl fl_Mo_40 d_Mo_begin_11 rfl, ?_⟩
  refine ⟨so_aloadn d_Mo_begin_14 rfl rfl, ?_⟩
  refine ⟨so_geti (ci := 8) (k := 11) rfl (by decide) rfl rfl fl_Mo_108 d_Mo_begin_15 rfl, ?_⟩
  refine ⟨so_const1 d_Mo_begin_18 (by decide) rfl, ?_⟩
  refine ⟨so_iast d_Mo_begin_19 rfl, ?_⟩
  refine ⟨so_aloadn d_Mo_begin_20 rfl rfl, ?_⟩
  refine ⟨so_getr (ci := 8) (k := 16) rfl (by decide) rfl rfl fl_Mo_49 d_Mo_begin_21 rfl, ?_⟩
  refine ⟨so_aloadn d_Mo_begin_24 rfl rfl, ?_⟩
  refine ⟨so_geti (ci := 8) (k := 11) rfl (by decide) rfl rfl fl_Mo_108 d_Mo_begin_25 rfl, ?_⟩
  refine ⟨so_iloadn d_Mo_begin_28 rfl rfl, ?_⟩
  refine ⟨so_iast d_Mo_begin_29 rfl, ?_⟩
  refine ⟨so_aloadn d_Mo_begin_30 rfl rfl, ?_⟩
  refine ⟨so_aloadn d_Mo_begin_31 rfl rfl, ?_⟩
  refine ⟨so_geti (ci := 8) (k := 11) rfl (by decide) rfl rfl fl_Mo_108 d_Mo_begin_32 rfl, ?_⟩
  refine ⟨so_iloadn d_Mo_begin_35 rfl rfl, ?_⟩
  refine ⟨so_callv (ci := 8) rfl rfl mc_Mo_enter mi_Mo mj_Mo_enter ms_Mo_enter ml_Mo_111 yd_Mo_enter (by decide) d_Mo_begin_36 rfl, ?_⟩
  refine ⟨so_aloadn d_Mo_begin_39 rfl rfl, ?_⟩
  refine ⟨so_aloadn d_Mo_begin_40 rfl rfl, ?_⟩
  refine ⟨so_geti (ci := 8) (k := 11) rfl (by decide) rfl rfl fl_Mo_108 d_Mo_begin_41 rfl, ?_⟩
  refine ⟨so_callv (ci := 8) rfl rfl mc_Mo_leave mi_Mo mj_Mo_leave ms_Mo_leave ml_Mo_115 yd_Mo_leave (by decide) d_Mo_begin_44 rfl, ?_⟩
  refine ⟨so_aloadn d_Mo_begin_47 rfl rfl, ?_⟩
  refine ⟨so_dup d_Mo_begin_48 rfl, ?_⟩
  refine ⟨so_geti (ci := 8) (k := 11) rfl (by decide) rfl rfl fl_Mo_108 d_Mo_begin_49 rfl, ?_⟩
  refine ⟨so_const1 d_Mo_begin_52 (by decide) rfl, ?_⟩
  refine ⟨so_iadd d_Mo_begin_53 rfl, ?_⟩
  refine ⟨so_puti (ci := 8) (k := 11) rfl (by decide) rfl rfl (Or.inl ⟨rfl, fl_Mo_108⟩) d_Mo_begin_54 rfl, ?_⟩
  refine ⟨so_vret d_Mo_begin_57 rfl, ?_⟩
  exact trivial
theorem d_Mo_enter_0 : decode prog_10_method_16_code 0 = .ok (.aload_n 0, 1) := by decide +kernel
theorem d_Mo_enter_1 : decode prog_10_method_16_code 1 = .ok (.getfield 43, 3) := by decide +kernel
theorem d_Mo_enter_4 : decode prog_10_method_16_code 4 = .ok (.bipush 8, 2) := by decide +kernel
theorem d_Mo_enter_6 : decode prog_10_method_16_code 6 = .ok (.iload_n 1, 1) := by decide +kernel
theorem d_Mo_enter_7 : decode prog_10_method_16_code 7 = .ok (.imul, 1) := by decide +kernel
theorem d_Mo_enter_8 : decode prog_10_method_16_code 8 = .ok (.aload_n 0, 1) := by decide +kernel
theorem d_Mo_enter_9 : decode prog_10_method_16_code 9 = .ok (.getfield 40, 3) := by decide +kernel
theorem d_Mo_enter_12 : decode prog_10_method_16_code 12 = .ok (.iload_n 1, 1) := by decide +kernel
theorem d_Mo_enter_13 : decode prog_10_method_16_code 13 = .ok (.iaload, 1) := by decide +kernel
theorem d_Mo_enter_14 : decode prog_10_method_16_code 14 = .ok (.iadd, 1) := by decide +kernel
theorem d_Mo_enter_15 : decode prog_10_method_16_code 15 = .ok (.iload_n 2, 1) := by decide +kernel
theorem d_Mo_enter_16 : decode prog_10_method_16_code 16 = .ok (.iastore, 1) := by decide +kernel
theorem d_Mo_enter_17 : decode prog_10_method_16_code 17 = .ok (.aload_n 0, 1) := by decide +kernel
theorem d_Mo_enter_18 : decode prog_10_method_16_code 18 = .ok (.getfield 46, 3) := by decide +kernel
theorem d_Mo_enter_21 : decode prog_10_method_16_code 21 = .ok (.bipush 8, 2) := by decide +kernel
theorem d_Mo_enter_23 : decode prog_10_method_16_code 23 = .ok (.iload_n 1, 1) := by decide +kernel
theorem d_Mo_enter_24 : decode prog_10_method_16_code 24 = .ok (.imul, 1) := by decide +kernel
theorem d_Mo_enter_25 : decode prog_10_method_16_code 25 = .ok (.aload_n 0, 1) := by decide +kernel
theorem d_Mo_enter_26 : decode prog_10_method_16_code 26 = .ok (.getfield 40, 3) := by decide +kernel
theorem d_Mo_enter_29 : decode prog_10_method_16_code 29 = .ok (.iload_n 1, 1) := by decide +kernel
theorem d_Mo_enter_30 : decode prog_10_method_16_code 30 = .ok (.iaload, 1) := by decide +kernel
theorem d_Mo_enter_31 : decode prog_10_method_16_code 31 = .ok (.iadd, 1) := by decide +kernel
theorem d_Mo_enter_32 : decode prog_10_method_16_code 32 = .ok (.iconst 0, 1) := by decide +kernel
theorem d_Mo_enter_33 : decode prog_10_method_16_code 33 = .ok (.iastore, 1) := by decide +kernel
theorem d_Mo_enter_34 : decode prog_10_method_16_code 34 = .ok (.aload_n 0, 1) := by decide +kernel
theorem d_Mo_enter_35 : decode prog_10_method_16_code 35 = .ok (.getfield 40, 3) := by decide +kernel
theorem d_Mo_enter_38 : decode prog_10_method_16_code 38 = .ok (.iload_n 1, 1) := by decide +kernel
theorem d_Mo_enter_39 : decode prog_10_method_16_code 39 = .ok (.dup2, 1) := by decide +kernel
theorem d_Mo_enter_40 : decode prog_10_method_16_code 40 = .ok (.iaload, 1) := by decide +kernel
theorem d_Mo_enter_41 : decode prog_10_method_16_code 41 = .ok (.iconst 1, 1) := by decide +kernel
theorem d_Mo_enter_42 : decode prog_10_method_16_code 42 = .ok (.iadd, 1) := by decide +kernel
theorem d_Mo_enter_43 : decode prog_10_method_16_code 43 = .ok (.iastore, 1) := by decide +kernel
theorem d_Mo_enter_44 : decode prog_10_method_16_code 44 = .ok (.return_, 1) := by decide +kernel
def tb_Mo_enter : List pm_I := [
  pm_aload 1 0,
  pm_getr 2 8 14,
  pm_const 3 8,
  pm_iload 4 1,
  pm_bin 5 (fun a b => a * b),
  pm_aload 6 0,
  pm_getr 7 8 13,
  pm_iload 8 1,
  pm_iald 9 0,
  pm_bin 10 (fun a b => a + b),
  pm_iload 11 2,
  pm_iast 12,
  pm_aload 13 0,
  pm_getr 14 8 15,
  pm_const 15 8,
  pm_iload 16 1,
  pm_bin 17 (fun a b => a * b),
  pm_aload 18 0,
  pm_getr 19 8 13,
  pm_iload 20 1,
  pm_iald 21 0,
  pm_bin 22 (fun a b => a + b),
  pm_const 23 0,
  pm_iast 24,
  pm_aload 25 0,
  pm_getr 26 8 13,
  pm_iload 27 1,
  pm_dup2 28,
  pm_iald 29 0,
  pm_const 30 1,
  pm_bin 31 (fun a b => a + b),
  pm_iast 32,
  pm_vret]
def bp_Mo_enter : List Nat := [0, 1, 4, 6, 7, 8, 9, 12, 13, 14, 15, 16, 17, 18, 21, 23, 24, 25, 26, 29, 30, 31, 32, 33, 34, 35, 38, 39, 40, 41, 42, 43, 44]
set_option maxRecDepth 100000 in
theorem sd_Mo_enter : pm_Sl prog_10_method_16_code 3 R_Mo "enter" (none) pm_Y (pm_b bp_Mo_enter) 0 tb_Mo_enter := by
  refine ⟨so_aloadn d_Mo_enter_0 rfl rfl, ?_⟩
  refine ⟨so_getr (ci := 8) (k := 14) rfl (by decide) rfl rfl fl_Mo_43 d_Mo_enter_1 rfl, ?_⟩
  refine ⟨so_const2 d_Mo_enter_4 (by decide) rfl, ?_⟩
  refine ⟨so_iloadn d_Mo_enter_6 rfl rfl, ?_⟩
  refine ⟨so_imul d_Mo_enter_7 rfl, ?_⟩
  refine ⟨so_aloadn d_Mo_enter_8 rfl rfl, ?_⟩
  refine ⟨so_getr (ci := 8) (k := 13) rfl (by decide) rfl rfl fl_Mo_40 d_Mo_enter_9 rfl, ?_⟩
  refine ⟨so_iloadn d_Mo_enter_12 rfl rfl, ?_⟩
  refine ⟨so_iald d_Mo_enter_13 rfl, ?_⟩
  refine ⟨so_iadd d_Mo_enter_14 rfl, ?_⟩
  refine ⟨so_iloadn d_Mo_enter_15 rfl rfl, ?_⟩
  refine ⟨so_iast d_Mo_enter_16 rfl, ?_⟩
  refine ⟨so_aloadn d_Mo_enter_17 rfl rfl, ?_⟩
  refine ⟨so_getr (ci := 8) (k := 15) rfl (by decide) rfl rfl fl_Mo_46 d_Mo_enter_18 rfl, ?_⟩
  refine ⟨so_const2 d_Mo_enter_21 (by decide) rfl, ?_⟩
  refine ⟨so_iloadn d_Mo_enter_23 rfl rfl, ?_⟩
  refine ⟨so_imul d_Mo_enter_24 rfl, ?_⟩
  refine ⟨so_aloadn d_Mo_enter_25 rfl rfl, ?_⟩
  refine ⟨so_getr (ci := 8) (k := 13) rfl (by decide) rfl rfl fl_Mo_40 d_Mo_enter_26 rfl, ?_⟩
  refine ⟨so_iloadn d_Mo_enter_29 rfl rfl, ?_⟩
  refine ⟨so_iald d_Mo_enter_30 rfl, ?_⟩
  refine ⟨so_iadd d_Mo_enter_31 rfl, ?_⟩
  refine ⟨so_const1 d_Mo_enter_32 (by decide) rfl, ?_⟩
  refine ⟨so_iast d_Mo_enter_33 rfl, ?_⟩
  refine ⟨so_aloadn d_Mo_enter_34 rfl rfl, ?_⟩
  refine ⟨so_getr (ci := 8) (k := 13) rfl (by decide) rfl rfl fl_Mo_40 d_Mo_enter_35 rfl, ?_⟩
  refine ⟨so_iloadn d_Mo_enter_38 rfl rfl, ?_⟩
  refine ⟨so_dup2 d_Mo_enter_39 rfl, ?_⟩
  refine ⟨so_iald d_Mo_enter_40 rfl, ?_⟩
  refine ⟨so_const1 d_Mo_enter_41 (by decide) rfl, ?_⟩
  refine ⟨so_iadd d_Mo_enter_42 rfl, ?_⟩
  refine ⟨so_iast d_Mo_enter_43 rfl, ?_⟩
  refine ⟨so_vret d_Mo_enter_44 rfl, ?_⟩
  exact trivial
theorem d_Mo_leave_0 : decode prog_10_method_17_code 0 = .ok (.bipush 8, 2) := by decide +kernel
theorem d_Mo_leave_2 : decode prog_10_method_17_code 2 = .ok (.iload_n 1, 1) := by decide +kernel
theorem d_Mo_leave_3 : decode prog_10_method_17_code 3 = .ok (.imul, 1) := by decide +kernel
theorem d_Mo_leave_4 : decode prog_10_method_17_code 4 = .ok (.aload_n 0, 1) := by decide +kernel
theorem d_Mo_leave_5 : decode prog_10_method_17_code 5 = .ok (.getfield 40, 3) := by decide +kernel
theorem d_Mo_leave_8 : decode prog_10_method_17_code 8 = .ok (.iload_n 1, 1) := by decide +kernel
theorem d_Mo_leave_9 : decode prog_10_method_17_code 9 = .ok (.iaload, 1) := by decide +kernel
theorem d_Mo_leave_10 : decode prog_10_method_17_code 10 = .ok (.iadd, 1) := by decide +kernel
theorem d_Mo_leave_11 : decode prog_10_method_17_code 11 = .ok (.iconst 1, 1) := by decide +kernel
theorem d_Mo_leave_12 : decode prog_10_method_17_code 12 = .ok (.isub, 1) := by decide +kernel
theorem d_Mo_leave_13 : decode prog_10_method_17_code 13 = .ok (.istore_n 2, 1) := by decide +kernel
theorem d_Mo_leave_14 : decode prog_10_method_17_code 14 = .ok (.aload_n 0, 1) := by decide +kernel
theorem d_Mo_leave_15 : decode prog_10_method_17_code 15 = .ok (.getfield 40, 3) := by decide +kernel
theorem d_Mo_leave_18 : decode prog_10_method_17_code 18 = .ok (.iload_n 1, 1) := by decide +kernel
theorem d_Mo_leave_19 : decode prog_10_method_17_code 19 = .ok (.iaload, 1) := by decide +kernel
theorem d_Mo_leave_20 : decode prog_10_method_17_code 20 = .ok (.ifCond .le 39, 3) := by decide +kernel
theorem d_Mo_leave_23 : decode prog_10_method_17_code 23 = .ok (.aload_n 0, 1) := by decide +kernel
theorem d_Mo_leave_24 : decode prog_10_method_17_code 24 = .ok (.getfield 46, 3) := by decide +kernel
theorem d_Mo_leave_27 : decode prog_10_method_17_code 27 = .ok (.iload_n 2, 1) := by decide +kernel
theorem d_Mo_leave_28 : decode prog_10_method_17_code 28 = .ok (.iaload, 1) := by decide +kernel
theorem d_Mo_leave_29 : decode prog_10_method_17_code 29 = .ok (.aload_n 0, 1) := by decide +kernel
theorem d_Mo_leave_30 : decode prog_10_method_17_code 30 = .ok (.getfield 16, 3) := by decide +kernel
theorem d_Mo_leave_33 : decode prog_10_method_17_code 33 = .ok (.aload_n 0, 1) := by decide +kernel
theorem d_Mo_leave_34 : decode prog_10_method_17_code 34 = .ok (.getfield 43, 3) := by decide +kernel
theorem d_Mo_leave_37 : decode prog_10_method_17_code 37 = .ok (.iload_n 2, 1) := by decide +kernel
theorem d_Mo_leave_38 : decode prog_10_method_17_code 38 = .ok (.iaload, 1) := by decide +kernel
theorem d_Mo_leave_39 : decode prog_10_method_17_code 39 = .ok (.iaload, 1) := by decide +kernel
theorem d_Mo_leave_40 : decode prog_10_method_17_code 40 = .ok (.if_icmp .ne 19, 3) := by decide +kernel
theorem d_Mo_leave_43 : decode prog_10_method_17_code 43 = .ok (.aload_n 0, 1) := by decide +kernel
theorem d_Mo_leave_44 : decode prog_10_method_17_code 44 = .ok (.getfield 40, 3) := by decide +kernel
theorem d_Mo_leave_47 : decode prog_10_method_17_code 47 = .ok (.iload_n 1, 1) := by decide +kernel
theorem d_Mo_leave_48 : decode prog_10_method_17_code 48 = .ok (.dup2, 1) := by decide +kernel
theorem d_Mo_leave_49 : decode prog_10_method_17_code 49 = .ok (.iaload, 1) := by decide +kernel
theorem d_Mo_leave_50 : decode prog_10_method_17_code 50 = .ok (.iconst 1, 1) := by decide +kernel
theorem d_Mo_leave_51 : decode prog_10_method_17_code 51 = .ok (.isub, 1) := by decide +kernel
theorem d_Mo_leave_52 : decode prog_10_method_17_code 52 = .ok (.iastore, 1) := by decide +kernel
theorem d_Mo_leave_53 : decode prog_10_method_17_code 53 = .ok (.iinc 2 (-1), 3) := by decide +kernel
theorem d_Mo_leave_56 : decode prog_10_method_17_code 56 = .ok (.goto (-42), 3) := by decide +kernel
theorem d_Mo_leave_59 : decode prog_10_method_17_code 59 = .ok (.return_, 1) := by decide +kernel
def tb_Mo_leave : List pm_I := [
  pm_const 1 8,
  pm_iload 2 1,
  pm_bin 3 (fun a b => a * b),
  pm_aload 4 0,
  pm_getr 5 8 13,
  pm_iload 6 1,
  pm_iald 7 0,
  pm_bin 8 (fun a b => a + b),
  pm_const 9 1,
  pm_bin 10 (fun a b => a - b),
  pm_istore 11 2,
  pm_aload 12 0,
  pm_getr 13 8 13,
  pm_iload 14 1,
  pm_iald 15 0,
  pm_if 38 16 (fun a => decide (a ≤ 0)),
  pm_aload 17 0,
  pm_getr 18 8 15,
  pm_iload 19 2,
  pm_iald 20 0,
  pm_aload 21 0,
  pm_getr 22 8 2,
  pm_aload 23 0,
  pm_getr 24 8 14,
  pm_iload 25 2,
  pm_iald 26 0,
  pm_iald 27 0,
  pm_icmp 38 28 (fun a b => decide (a ≠ b)),
  pm_aload 29 0,
  pm_getr 30 8 13,
  pm_iload 31 1,
  pm_dup2 32,
  pm_iald 33 0,
  pm_const 34 1,
  pm_bin 35 (fun a b => a - b),
  pm_iast 36,
  pm_iinc 37 2 (-1),
  pm_goto 11,
  pm_vret]
def bp_Mo_leave : List Nat := [0, 2, 3, 4, 5, 8, 9, 10, 11, 12, 13, 14, 15, 18, 19, 20, 23, 24, 27, 28, 29, 30, 33, 34, 37, 38, 39, 40, 43, 44, 47, 48, 49, 50, 51, 52, 53, 56, 59]
set_option maxRecDepth 100000 in
theorem sd_Mo_leave : pm_Sl prog_10_method_17_code 3 R_Mo "leave" (none) pm_Y (pm_b bp_Mo_leave) 0 tb_Mo_leave := by
  refine ⟨so_const2 d_Mo_leave_0 (by decide) rfl, ?_⟩
  refine ⟨so_iloadn d_Mo_leave_2 rfl rfl, ?_⟩
  refine ⟨so_imul d_Mo_leave_3 rfl, ?_⟩
  refine ⟨so_aloadn d_Mo_leave_4 rfl rfl, ?_⟩
  refine ⟨so_getr (ci := 8) (k := 13) rfl (by decide) rfl rfl fl_Mo_40 d_Mo_leave_5 rfl, ?_⟩
  refine ⟨so_iloadn d_Mo_leave_8 rfl rfl, ?_⟩
  refine ⟨so_iald d_Mo_leave_9 rfl, ?_⟩
  refine ⟨so_iadd d_Mo_leave_10 rfl, ?_⟩
  refine ⟨so_const1 d_Mo_leave_11 (by decide) rfl, ?_⟩
  refine ⟨so_isub d_Mo_leave_12 rfl, ?_⟩
  refine ⟨so_istoren d_Mo_leave_13 rfl (by decide) rfl, ?_⟩
  refine ⟨so_aloadn d_Mo_leave_14 rfl rfl, ?_⟩
  refine ⟨so_getr (ci := 8) (k := 13) rfl (by decide) rfl rfl fl_Mo_40 d_Mo_leave_15 rfl, ?_⟩
  refine ⟨so_iloadn d_Mo_leave_18 rfl rfl, ?_⟩
  refine ⟨so_iald d_Mo_leave_19 rfl, ?_⟩
  refine ⟨so_if_le d_Mo_leave_20 rfl rfl, ?_⟩
  refine ⟨so_aloadn d_Mo_leave_23 rfl rfl, ?_⟩
  refine ⟨so_getr (ci := 8) (k := 15) rfl (by decide) rfl rfl fl_Mo_46 d_Mo_leave_24 rfl, ?_⟩
  refine ⟨so_iloadn d_Mo_leave_27 rfl rfl, ?_⟩
  refine ⟨so_iald d_Mo_leave_28 rfl, ?_⟩
  refine ⟨so_aloadn d_Mo_leave_29 rfl rfl, ?_⟩
  refine ⟨so_getr (ci := 8) (k := 2) rfl (by decide) rfl rfl fl_Mo_16 d_Mo_leave_30 rfl, ?_⟩
  refine ⟨so_aloadn d_Mo_leave_33 rfl rfl, ?_⟩
  refine ⟨so_getr (ci := 8) (k := 14) rfl (by decide) rfl rfl fl_Mo_43 d_Mo_leave_34 rfl, ?_⟩
  refine ⟨so_iloadn d_Mo_leave_37 rfl rfl, ?_⟩
  refine ⟨so_iald d_Mo_leave_38 rfl, ?_⟩
  refine ⟨so_iald d_Mo_leave_39 rfl, ?_⟩
  refine ⟨so_icmp_ne d_Mo_leave_40 rfl rfl, ?_⟩
  refine ⟨so_aloadn d_Mo_leave_43 rfl rfl, ?_⟩
  refine ⟨so_getr (ci := 8) (k := 13) rfl (by decide) rfl rfl fl_Mo_40 d_Mo_leave_44 rfl, ?_⟩
  refine ⟨so_iloadn d_Mo_leave_47 rfl rfl, ?_⟩
  refine ⟨so_dup2 d_Mo_leave_48 rfl, ?_⟩
  refine ⟨so_iald d_Mo_leave_49 rfl, ?_⟩
  refine ⟨so_const1 d_Mo_leave_50 (by decide) rfl, ?_⟩
  refine ⟨so_isub d_Mo_leave_51 rfl, ?_⟩
  refine ⟨so_iast d_Mo_leave_52 rfl, ?_⟩
  refine ⟨so_iinc d_Mo_leave_53 (by decide) (by decide) rfl, ?_⟩
  refine ⟨so_goto d_Mo_leave_56 rfl, ?_⟩
  refine ⟨so_vret d_Mo_leave_59 rfl, ?_⟩
  exact trivial
theorem d_Mo_step_0 : decode prog_10_method_22_code 0 = .ok (.aload_n 0, 1) := by decide +kernel
theorem d_Mo_step_1 : decode prog_10_method_22_code 1 = .ok (.iload_n 1, 1) := by decide +kernel
theorem d_Mo_step_2 : decode prog_10_method_22_code 2 = .ok (.invokevirtual 133, 3) := by decide +kernel
theorem d_Mo_step_5 : decode prog_10_method_22_code 5 = .ok (.ifCond .eq 22, 3) := by decide +kernel
theorem d_Mo_step_8 : decode prog_10_method_22_code 8 = .ok (.aload_n 0, 1) := by decide +kernel
theorem d_Mo_step_9 : decode prog_10_method_22_code 9 = .ok (.getfield 40, 3) := by decide +kernel
theorem d_Mo_step_12 : decode prog_10_method_22_code 12 = .ok (.iload_n 1, 1) := by decide +kernel
theorem d_Mo_step_13 : decode prog_10_method_22_code 13 = .ok (.iaload, 1) := by decide +kernel
theorem d_Mo_step_14 : decode prog_10_method_22_code 14 = .ok (.ifCond .eq 13, 3) := by decide +kernel
theorem d_Mo_step_17 : decode prog_10_method_22_code 17 = .ok (.aload_n 0, 1) := by decide +kernel
theorem d_Mo_step_18 : decode prog_10_method_22_code 18 = .ok (.getfield 123, 3) := by decide +kernel
theorem d_Mo_step_21 : decode prog_10_method_22_code 21 = .ok (.sipush 4000, 3) := by decide +kernel
theorem d_Mo_step_24 : decode prog_10_method_22_code 24 = .ok (.if_icmp .ne 5, 3) := by decide +kernel
theorem d_Mo_step_27 : decode prog_10_method_22_code 27 = .ok (.iconst (-1), 1) := by decide +kernel
theorem d_Mo_step_28 : decode prog_10_method_22_code 28 = .ok (.ireturn, 1) := by decide +kernel
theorem d_Mo_step_29 : decode prog_10_method_22_code 29 = .ok (.aload_n 0, 1) := by decide +kernel
theorem d_Mo_step_30 : decode prog_10_method_22_code 30 = .ok (.iload_n 1, 1) := by decide +kernel
theorem d_Mo_step_31 : decode prog_10_method_22_code 31 = .ok (.invokevirtual 136, 3) := by decide +kernel
theorem d_Mo_step_34 : decode prog_10_method_22_code 34 = .ok (.ifCond .lt 5, 3) := by decide +kernel
theorem d_Mo_step_37 : decode prog_10_method_22_code 37 = .ok (.iconst 0, 1) := by decide +kernel
theorem d_Mo_step_38 : decode prog_10_method_22_code 38 = .ok (.ireturn, 1) := by decide +kernel
theorem d_Mo_step_39 : decode prog_10_method_22_code 39 = .ok (.bipush 8, 2) := by decide +kernel
theorem d_Mo_step_41 : decode prog_10_method_22_code 41 = .ok (.iload_n 1, 1) := by decide +kernel
theorem d_Mo_step_42 : decode prog_10_method_22_code 42 = .ok (.imul, 1) := by decide +kernel
theorem d_Mo_step_43 : decode prog_10_method_22_code 43 = .ok (.aload_n 0, 1) := by decide +kernel
theorem d_Mo_step_44 : decode prog_10_method_22_code 44 = .ok (.getfield 40, 3) := by decide +kernel
theorem d_Mo_step_47 : decode prog_10_method_22_code 47 = .ok (.iload_n 1, 1) := by decide +kernel
theorem d_Mo_step_48 : decode prog_10_method_22_code 48 = .ok (.iaload, 1) := by decide +kernel
theorem d_Mo_step_49 : decode prog_10_method_22_code 49 = .ok (.iadd, 1) := by decide +kernel
theorem d_Mo_step_50 : decode prog_10_method_22_code 50 = .ok (.iconst 1, 1) := by decide +kernel
theorem d_Mo_step_51 : decode prog_10_method_22_code 51 = .ok (.isub, 1) := by decide +kernel
theorem d_Mo_step_52 : decode prog_10_method_22_code 52 = .ok (.istore_n 2, 1) := by decide +kernel
theorem d_Mo_step_53 : decode prog_10_method_22_code 53 = .ok (.aload_n 0, 1) := by decide +kernel
theorem d_Mo_step_54 : decode prog_10_method_22_code 54 = .ok (.getfield 52, 3) := by decide +kernel
theorem d_Mo_step_57 : decode prog_10_method_22_code 57 = .ok (.aload_n 0, 1) := by decide +kernel
theorem d_Mo_step_58 : decode prog_10_method_22_code 58 = .ok (.getfield 123, 3) := by decide +kernel
theorem d_Mo_step_61 : decode prog_10_method_22_code 61 = .ok (.aload_n 0, 1) := by decide +kernel
theorem d_Mo_step_62 : decode prog_10_method_22_code 62 = .ok (.getfield 49, 3) := by decide +kernel
theorem d_Mo_step_65 : decode prog_10_method_22_code 65 = .ok (.iload_n 1, 1) := by decide +kernel
theorem d_Mo_step_66 : decode prog_10_method_22_code 66 = .ok (.iaload, 1) := by decide +kernel
theorem d_Mo_step_67 : decode prog_10_method_22_code 67 = .ok (.iastore, 1) := by decide +kernel
theorem d_Mo_step_68 : decode prog_10_method_22_code 68 = .ok (.aload_n 0, 1) := by decide +kernel
theorem d_Mo_step_69 : decode prog_10_method_22_code 69 = .ok (.getfield 55, 3) := by decide +kernel
theorem d_Mo_step_72 : decode prog_10_method_22_code 72 = .ok (.aload_n 0, 1) := by decide +kernel
theorem d_Mo_step_73 : decode prog_10_method_22_code 73 = .ok (.getfield 123, 3) := by decide +kernel
theorem d_Mo_step_76 : decode prog_10_method_22_code 76 = .ok (.iconst (-1), 1) := by decide +kernel
theorem d_Mo_step_77 : decode prog_10_method_22_code 77 = .ok (.iastore, 1) := by decide +kernel
theorem d_Mo_step_78 : decode prog_10_method_22_code 78 = .ok (.aload_n 0, 1) := by decide +kernel
theorem d_Mo_step_79 : decode prog_10_method_22_code 79 = .ok (.getfield 58, 3) := by decide +kernel
theorem d_Mo_step_82 : decode prog_10_method_22_code 82 = .ok (.aload_n 0, 1) := by decide +kernel
theorem d_Mo_step_83 : decode prog_10_method_22_code 83 = .ok (.getfield 123, 3) := by decide +kernel
theorem d_Mo_step_86 : decode prog_10_method_22_code 86 = .ok (.iconst (-1), 1) := by decide +kernel
theorem d_Mo_step_87 : decode prog_10_method_22_code 87 = .ok (.iastore, 1) := by decide +kernel
theorem d_Mo_step_88 : decode prog_10_method_22_code 88 = .ok (.aload_n 0, 1) := by decide +kernel
theorem d_Mo_step_89 : decode prog_10_method_22_code 89 = .ok (.getfield 49, 3) := by decide +kernel
theorem d_Mo_step_92 : decode prog_10_method_22_code 92 = .ok (.iload_n 1, 1) := by decide +kernel
theorem d_Mo_step_93 : decode prog_10_method_22_code 93 = .ok (.aload_n 0, 1) := by decide +kernel
theorem d_Mo_step_94 : decode prog_10_method_22_code 94 = .ok (.getfield 123, 3) := by decide +kernel
theorem d_Mo_step_97 : decode prog_10_method_22_code 97 = .ok (.iastore, 1) := by decide +kernel
theorem d_Mo_step_98 : decode prog_10_method_22_code 98 = .ok (.aload_n 0, 1) := by decide +kernel
theorem d_Mo_step_99 : decode prog_10_method_22_code 99 = .ok (.getfield 46, 3) := by decide +kernel
theorem d_Mo_step_102 : decode prog_10_method_22_code 102 = .ok (.iload_n 2, 1) := by decide +kernel
theorem d_Mo_step_103 : decode prog_10_method_22_code 103 = .ok (.iaload, 1) := by decide +kernel
theorem d_Mo_step_104 : decode prog_10_method_22_code 104 = .ok (.istore_n 3, 1) := by decide +kernel
theorem d_Mo_step_105 : decode prog_10_method_22_code 105 = .ok (.aload_n 0, 1) := by decide +kernel
theorem d_Mo_step_106 : decode prog_10_method_22_code 106 = .ok (.getfield 46, 3) := by decide +kernel
theorem d_Mo_step_109 : decode prog_10_method_22_code 109 = .ok (.iload_n 2, 1) := by decide +kernel
theorem d_Mo_step_110 : decode prog_10_method_22_code 110 = .ok (.dup2, 1) := by decide +kernel
theorem d_Mo_step_111 : decode prog_10_method_22_code 111 = .ok (.iaload, 1) := by decide +kernel
theorem d_Mo_step_112 : decode prog_10_method_22_code 112 = .ok (.iconst 1, 1) := by decide +kernel
theorem d_Mo_step_113 : decode prog_10_method_22_code 113 = .ok (.iadd, 1) := by decide +kernel
theorem d_Mo_step_114 : decode prog_10_method_22_code 114 = .ok (.iastore, 1) := by decide +kernel
theorem d_Mo_step_115 : decode prog_10_method_22_code 115 = .ok (.aload_n 0, 1) := by decide +kernel
theorem d_Mo_step_116 : decode prog_10_method_22_code 116 = .ok (.iload_n 1, 1) := by decide +kernel
theorem d_Mo_step_117 : decode prog_10_method_22_code 117 = .ok (.aload_n 0, 1) := by decide +kernel
theorem d_Mo_step_118 : decode prog_10_method_22_code 118 = .ok (.getfield 43, 3) := by decide +kernel
theorem d_Mo_step_121 : decode prog_10_method_22_code 121 = .ok (.iload_n 2, 1) := by decide +kernel
theorem d_Mo_step_122 : decode prog_10_method_22_code 122 = .ok (.iaload, 1) := by decide +kernel
theorem d_Mo_step_123 : decode prog_10_method_22_code 123 = .ok (.iload_n 3, 1) := by decide +kernel
theorem d_Mo_step_124 : decode prog_10_method_22_code 124 = .ok (.invokevirtual 139, 3) := by decide +kernel
theorem d_Mo_step_127 : decode prog_10_method_22_code 127 = .ok (.aload_n 0, 1) := by decide +kernel
theorem d_Mo_step_128 : decode prog_10_method_22_code 128 = .ok (.iload_n 1, 1) := by decide +kernel
theorem d_Mo_step_129 : decode prog_10_method_22_code 129 = .ok (.invokevirtual 115, 3) := by decide +kernel
theorem d_Mo_step_132 : decode prog_10_method_22_code 132 = .ok (.aload_n 0, 1) := by decide +kernel
theorem d_Mo_step_133 : decode prog_10_method_22_code 133 = .ok (.dup, 1) := by decide +kernel
theorem d_Mo_step_134 : decode prog_10_method_22_code 134 = .ok (.getfield 123, 3) := by decide +kernel
theorem d_Mo_step_137 : decode prog_10_method_22_code 137 = .ok (.iconst 1, 1) := by decide +kernel
theorem d_Mo_step_138 : decode prog_10_method_22_code 138 = .ok (.iadd, 1) := by decide +kernel
theorem d_Mo_step_139 : decode prog_10_method_22_code 139 = .ok (.putfield 123, 3) := by decide +kernel
theorem d_Mo_step_142 : decode prog_10_method_22_code 142 = .ok (.iconst 1, 1) := by decide +kernel
theorem d_Mo_step_143 : decode prog_10_method_22_code 143 = .ok (.ireturn, 1) := by decide +kernel
def tb_Mo_step : List pm_I := [
  pm_aload 1 0,
  pm_iload 2 1,
  pm_callv 3 89 2 8,
  pm_if 13 4 (fun a => decide (a = 0)),
  pm_aload 5 0,
  pm_getr 6 8 13,
  pm_iload 7 1,
  pm_iald 8 0,
  pm_if 13 9 (fun a => decide (a = 0)),
  pm_aload 10 0,
  pm_geti 11 8 17,
  pm_const 12 4000,
  pm_icmp 15 13 (fun a b => decide (a ≠ b)),
  pm_const 14 (-1),
  pm_iret,
  pm_aload 16 0,
  pm_iload 17 1,
  pm_callv 18 90 2 8,
  pm_if 21 19 (fun a => decide (a < 0)),
  pm_const 20 0,
  pm_iret,
  pm_const 22 8,
  pm_iload 23 1,
  pm_bin 24 (fun a b => a * b),
  pm_aload 25 0,
  pm_getr 26 8 13,
  pm_iload 27 1,
  pm_iald 28 0,
  pm_bin 29 (fun a b => a + b),
  pm_const 30 1,
  pm_bin 31 (fun a b => a - b),
  pm_istore 32 2,
  pm_aload 33 0,
  pm_getr 34 8 18,
  pm_aload 35 0,
  pm_geti 36 8 17,
  pm_aload 37 0,
  pm_getr 38 8 16,
  pm_iload 39 1,
  pm_iald 40 0,
  pm_iast 41,
  pm_aload 42 0,
  pm_getr 43 8 19,
  pm_aload 44 0,
  pm_geti 45 8 17,
  pm_const 46 (-1),
  pm_iast 47,
  pm_aload 48 0,
  pm_getr 49 8 20,
  pm_aload 50 0,
  pm_geti 51 8 17,
  pm_const 52 (-1),
  pm_iast 53,
  pm_aload 54 0,
  pm_getr 55 8 16,
  pm_iload 56 1,
  pm_aload 57 0,
  pm_geti 58 8 17,
  pm_iast 59,
  pm_aload 60 0,
  pm_getr 61 8 15,
  pm_iload 62 2,
  pm_iald 63 0,
  pm_istore 64 3,
  pm_aload 65 0,
  pm_getr 66 8 15,
  pm_iload 67 2,
  pm_dup2 68,
  pm_iald 69 0,
  pm_const 70 1,
  pm_bin 71 (fun a b => a + b),
  pm_iast 72,
  pm_aload 73 0,
  pm_iload 74 1,
  pm_aload 75 0,
  pm_getr 76 8 14,
  pm_iload 77 2,
  pm_iald 78 0,
  pm_iload 79 3,
  pm_callv 80 91 4 8,
  pm_aload 81 0,
  pm_iload 82 1,
  pm_callv 83 87 2 8,
  pm_aload 84 0,
  pm_dup 85,
  pm_geti 86 8 17,
  pm_const 87 1,
  pm_bin 88 (fun a b => a + b),
  pm_puti 89 8 17,
  pm_const 90 1,
  pm_iret]
def bp_Mo_step : List Nat := [0, 1, 2, 5, 8, 9, 12, 13, 14, 17, 18, 21, 24, 27, 28, 29, 30, 31, 34, 37, 38, 39, 41, 42, 43, 44, 47, 48, 49, 50, 51, 52, 53, 54, 57, 58, 61, 62, 65, 66, 67, 68, 69, 72, 73, 76, 77, 78, 79, 82, 83, 86, 87, 88, 89, 92, 93, 94, 97, 98, 99, 102, 103, 104, 105, 106, 109, 110, 111, 112, 113, 114, 115, 116, 117, 118, 121, 122, 123, 124, 127, 128, 129, 132, 133, 134, 137, 138, 139, 142, 143]
set_option maxRecDepth 100000 in
theorem sd_Mo_step : pm_Sl prog_10_method_22_code 4 R_Mo "step" (some .int) pm_Y (pm_b bp_Mo_step) 0 tb_Mo_step := by
  refine ⟨so_aloadn d_Mo_step_0 rfl rfl, ?_⟩
  refine ⟨so_iloadn d_Mo_step_1 rfl rfl, ?_⟩
  refine ⟨so_callv (ci := 8) rfl rfl mc_Mo_isThread mi_Mo mj_Mo_isThread ms_Mo_isThread ml_Mo_133 yd_Mo_isThread (by decide) d_Mo_step_2 rfl, ?_⟩
  refine ⟨so_if_eq d_Mo_step_5 rfl rfl, ?_⟩
  refine ⟨so_aloadn d_Mo_step_8 rfl rfl, ?_⟩
  refine ⟨so_getr (ci := 8) (k := 13) rfl (by decide) rfl rfl fl_Mo_40 d_Mo_step_9 rfl, ?_⟩
  refine ⟨so_iloadn d_Mo_step_12 rfl rfl, ?_⟩
  refine ⟨so_iald d_Mo_step_13 rfl, ?_⟩
  refine ⟨so_if_eq d_Mo_step_14 rfl rfl, ?_⟩
  refine ⟨so_aloadn d_Mo_step_17 rfl rfl, ?_⟩
  refine ⟨so_geti (ci := 8) (k := 17) rfl (by decide) rfl rfl fl_Mo_123 d_Mo_step_18 rfl, ?_⟩
  refine ⟨so_const3 d_Mo_step_21 (by decide) rfl, ?_⟩
  refine ⟨so_icmp_ne d_Mo_step_24 rfl rfl, ?_⟩
  refine ⟨so_const1 d_Mo_step_27 (by decide) rfl, ?_⟩
  refine ⟨so_iret d_Mo_step_28 rfl, ?_⟩
  refine ⟨so_aloadn d_Mo_step_29 rfl rfl, ?_⟩
  refine ⟨so_iloadn d_Mo_step_30 rfl rfl, ?_⟩
  refine ⟨so_callv (ci := 8) rfl rfl mc_Mo_waitsFor mi_Mo mj_Mo_waitsFor ms_Mo_waitsFor ml_Mo_136 yd_Mo_waitsFor (by decide) d_Mo_step_31 rfl, ?_⟩
  refine ⟨so_if_lt d_Mo_step_34 rfl rfl, ?_⟩
  refine ⟨so_const1 d_Mo_step_37 (by decide) rfl, ?_⟩
  refine ⟨so_iret d_Mo_step_38 rfl, ?_⟩
  refine ⟨so_const2 d_Mo_step_39 (by decide) rfl, ?_⟩
  refine ⟨so_iloadn d_Mo_step_41 rfl rfl, ?_⟩
  refine ⟨so_imul d_Mo_step_42 rfl, ?_⟩
  refine ⟨so_aloadn d_Mo_step_43 rfl rfl, ?_⟩
  refine ⟨so_getr (ci := 8) (k := 13) rfl (by decide) rfl rfl fl_Mo_40 d_Mo_step_44 rfl, ?_⟩
  refine ⟨so_iloadn d_Mo_step_47 rfl rfl, ?_⟩
  refine ⟨so_iald d_Mo_step_48 rfl, ?_⟩
  refine ⟨so_iadd d_Mo_step_49 rfl, ?_⟩
  refine ⟨so_const1 d_Mo_step_50 (by decide) rfl, ?_⟩
  refine ⟨so_isub d_Mo_step_51 rfl, ?_⟩
  refine ⟨so_istoren d_Mo_step_52 rfl (by decide) rfl, ?_⟩
  refine ⟨so_aloadn d_Mo_step_53 rfl rfl, ?_⟩
  refine ⟨so_getr (ci := 8) (k := 18) rfl (by decide) rfl rfl fl_Mo_52 d_Mo_step_54 rfl, ?_⟩
  refine ⟨so_aloadn d_Mo_step_57 rfl rfl, ?_⟩
  refine ⟨so_geti (ci := 8) (k := 17) rfl (by decide) rfl rfl fl_Mo_123 d_Mo_step_58 rfl, ?_⟩
  refine ⟨so_aloadn d_Mo_step_61 rfl rfl, ?_⟩
  refine ⟨so_getr (ci := 8) (k := 16) rfl (by decide) rfl rfl fl_Mo_49 d_Mo_step_62 rfl, ?_⟩
  refine ⟨so_iloadn d_Mo_step_65 rfl rfl, ?_⟩
  refine ⟨so_iald d_Mo_step_66 rfl, ?_⟩
  refine ⟨so_iast d_Mo_step_67 rfl, ?_⟩
  refine ⟨so_aloadn d_Mo_step_68 rfl rfl, ?_⟩
  refine ⟨so_getr (ci := 8) (k := 19) rfl (by decide) rfl rfl fl_Mo_55 d_Mo_step_69 rfl, ?_⟩
  refine ⟨so_aloadn d_Mo_step_72 rfl rfl, ?_⟩
  refine ⟨so_geti (ci := 8) (k := 17) rfl (by decide) rfl rfl fl_Mo_123 d_Mo_step_73 rfl, ?_⟩
  refine ⟨so_const1 d_Mo_step_76 (by decide) rfl, ?_⟩
  refine ⟨so_iast d_Mo_step_77 rfl, ?_⟩
  refine ⟨so_aloadn d_Mo_step_78 rfl rfl, ?_⟩
  refine ⟨so_getr (ci := 8) (k := 20) rfl (by decide) rfl rfl fl_Mo_58 d_Mo_step_79 rfl, ?_⟩
  refine ⟨so_aloadn d_Mo_step_82 rfl rfl, ?_⟩
  refine ⟨so_geti (ci := 8) (k := 17) rfl (by decide) rfl rfl fl_Mo_123 d_Mo_step_83 rfl, ?_⟩
  refine ⟨so_const1 d_Mo_step_86 (by decide) rfl, ?_⟩
  refine ⟨so_iast d_Mo_step_87 rfl, ?_⟩
  refine ⟨so_aloadn d_Mo_step_88 rfl rfl, ?_⟩
  refine ⟨so_getr (ci := 8) (k := 16) rfl (by decide) rfl rfl fl_Mo_49 d_Mo_step_89 rfl, ?_⟩
  refine ⟨so_iloadn d_Mo_step_92 rfl rfl, ?_⟩
  refine ⟨so_aloadn d_Mo_step_93 rfl rfl, ?_⟩
  refine ⟨so_geti (ci := 8) (k := 17) rfl (by decide) rfl rfl fl_Mo_123 d_Mo_step_94 rfl, ?_⟩
  refine ⟨so_iast d_Mo_step_97 rfl, ?_⟩
  refine ⟨so_aloadn d_Mo_step_98 rfl rfl, ?_⟩
  refine ⟨so_getr (ci := 8) (k := 15) rfl (by decide) rfl rfl fl_Mo_46 d_Mo_step_99 rfl, ?_⟩
  refine ⟨so_iloadn d_Mo_step_102 rfl rfl, ?_⟩
  refine ⟨so_iald d_Mo_step_103 rfl, ?_⟩
  refine ⟨so_istoren d_Mo_step_104 rfl (by decide) rfl, ?_⟩
  refine ⟨so_aloadn d_Mo_step_105 rfl rfl, ?_⟩
  refine ⟨so_getr (ci := 8) (k := 15) rfl (by decide) rfl rfl fl_Mo_46 d_Mo_step_106 rfl, ?_⟩
  refine ⟨so_iloadn d_Mo_step_109 rfl rfl, ?_⟩
  refine ⟨so_dup2 d_Mo_step_110 rfl, ?_⟩
  refine ⟨so_iald d_Mo_step_111 rfl, ?_⟩
  refine ⟨so_const1 d_Mo_step_112 (by decide) rfl, ?_⟩
  refine ⟨so_iadd d_Mo_step_113 rfl, ?_⟩
  refine ⟨so_iast d_Mo_step_114 rfl, ?_⟩
  refine ⟨so_aloadn d_Mo_step_115 rfl rfl, ?_⟩
  refine ⟨so_iloadn d_Mo_step_116 rfl rfl, ?_⟩
  refine ⟨so_aloadn d_Mo_step_117 rfl rfl, ?_⟩
  refine ⟨so_getr (ci := 8) (k := 14) rfl (by decide) rfl rfl fl_Mo_43 d_Mo_step_118 rfl, ?_⟩
  refine ⟨so_iloadn d_Mo_step_121 rfl rfl, ?_⟩
  refine ⟨so_iald d_Mo_step_122 rfl, ?_⟩
  refine ⟨so_iloadn d_Mo_step_123 rfl rfl, ?_⟩
  refine ⟨so_callv (ci := 8) rfl rfl mc_Mo_does mi_Mo mj_Mo_does ms_Mo_does ml_Mo_139 yd_Mo_does (by decide) d_Mo_step_124 rfl, ?_⟩
  refine ⟨so_aloadn d_Mo_step_127 rfl rfl, ?_⟩
  refine ⟨so_iloadn d_Mo_step_128 rfl rfl, ?_⟩
  refine ⟨so_callv (ci := 8) rfl rfl mc_Mo_leave mi_Mo mj_Mo_leave ms_Mo_leave ml_Mo_115 yd_Mo_leave (by decide) d_Mo_step_129 rfl, ?_⟩
  refine ⟨so_aloadn d_Mo_step_132 rfl rfl, ?_⟩
  refine ⟨so_dup d_Mo_step_133 rfl, ?_⟩
  refine ⟨so_geti (ci := 8) (k := 17) rfl (by decide) rfl rfl fl_Mo_123 d_Mo_step_134 rfl, ?_⟩
  refine ⟨so_const1 d_Mo_step_137 (by decide) rfl, ?_⟩
  refine ⟨so_iadd d_Mo_step_138 rfl, ?_⟩
  refine ⟨so_puti (ci := 8) (k := 17) rfl (by decide) rfl rfl (Or.inl ⟨rfl, fl_Mo_123⟩) d_Mo_step_139 rfl, ?_⟩
  refine ⟨so_const1 d_Mo_step_142 (by decide) rfl, ?_⟩
  refine ⟨so_iret d_Mo_step_143 rfl, ?_⟩
  exact trivial
theorem d_Mo_isThread_0 : decode prog_10_method_20_code 0 = .ok (.aload_n 0, 1) := by decide +kernel
theorem d_Mo_isThread_1 : decode prog_10_method_20_code 1 = .ok (.getfield 119, 3) := by decide +kernel
theorem d_Mo_isThread_4 : decode prog_10_method_20_code 4 = .ok (.ifCond .eq 18, 3) := by decide +kernel
theorem d_Mo_isThread_7 : decode prog_10_method_20_code 7 = .ok (.iload_n 1, 1) := by decide +kernel
theorem d_Mo_isThread_8 : decode prog_10_method_20_code 8 = .ok (.aload_n 0, 1) := by decide +kernel
theorem d_Mo_isThread_9 : decode prog_10_method_20_code 9 = .ok (.getfield 108, 3) := by decide +kernel
theorem d_Mo_isThread_12 : decode prog_10_method_20_code 12 = .ok (.invokestatic 68, 3) := by decide +kernel
theorem d_Mo_isThread_15 : decode prog_10_method_20_code 15 = .ok (.ifCond .eq 7, 3) := by decide +kernel
theorem d_Mo_isThread_18 : decode prog_10_method_20_code 18 = .ok (.iconst 1, 1) := by decide +kernel
theorem d_Mo_isThread_19 : decode prog_10_method_20_code 19 = .ok (.goto 4, 3) := by decide +kernel
theorem d_Mo_isThread_22 : decode prog_10_method_20_code 22 = .ok (.iconst 0, 1) := by decide +kernel
theorem d_Mo_isThread_23 : decode prog_10_method_20_code 23 = .ok (.ireturn, 1) := by decide +kernel
def tb_Mo_isThread : List pm_I := [
  pm_aload 1 0,
  pm_geti 2 8 6,
  pm_if 10 3 (fun a => decide (a = 0)),
  pm_iload 4 1,
  pm_aload 5 0,
  pm_geti 6 8 11,
  pm_calls 7 71 2,
  pm_if 10 8 (fun a => decide (a = 0)),
  pm_const 9 1,
  pm_goto 11,
  pm_const 11 0,
  pm_zret]
def bp_Mo_isThread : List Nat := [0, 1, 4, 7, 8, 9, 12, 15, 18, 19, 22, 23]
set_option maxRecDepth 100000 in
theorem sd_Mo_isThread : pm_Sl prog_10_method_20_code 2 R_Mo "isThread" (some .boolean) pm_Y (pm_b bp_Mo_isThread) 0 tb_Mo_isThread := by
  refine ⟨so_aloadn d_Mo_isThread_0 rfl rfl, ?_⟩
  refine ⟨so_geti (ci := 8) (k := 6) rfl (by decide) rfl rfl fl_Mo_119 d_Mo_isThread_1 rfl, ?_⟩
  refine ⟨so_if_eq d_Mo_isThread_4 rfl rfl, ?_⟩
  refine ⟨so_iloadn d_Mo_isThread_7 rfl rfl, ?_⟩
  refine ⟨so_aloadn d_Mo_isThread_8 rfl rfl, ?_⟩
  refine ⟨so_geti (ci := 8) (k := 11) rfl (by decide) rfl rfl fl_Mo_108 d_Mo_isThread_9 rfl, ?_⟩
  refine ⟨so_calls rfl mc_Mo_isIn mi_Mo mt_Mo_isIn ml_Mo_68 yd_Mo_isIn (by decide) d_Mo_isThread_12 rfl, ?_⟩
  refine ⟨so_if_eq d_Mo_isThread_15 rfl rfl, ?_⟩
  refine ⟨so_const1 d_Mo_isThread_18 (by decide) rfl, ?_⟩
  refine ⟨so_goto d_Mo_isThread_19 rfl, ?_⟩
  refine ⟨so_const1 d_Mo_isThread_22 (by decide) rfl, ?_⟩
  refine ⟨so_zret d_Mo_isThread_23 rfl, ?_⟩
  exact trivial
theorem d_Mo_waitsFor_0 : decode prog_10_method_21_code 0 = .ok (.bipush 8, 2) := by decide +kernel
theorem d_Mo_waitsFor_2 : decode prog_10_method_21_code 2 = .ok (.iload_n 1, 1) := by decide +kernel
theorem d_Mo_waitsFor_3 : decode prog_10_method_21_code 3 = .ok (.imul, 1) := by decide +kernel
theorem d_Mo_waitsFor_4 : decode prog_10_method_21_code 4 = .ok (.aload_n 0, 1) := by decide +kernel
theorem d_Mo_waitsFor_5 : decode prog_10_method_21_code 5 = .ok (.getfield 40, 3) := by decide +kernel
theorem d_Mo_waitsFor_8 : decode prog_10_method_21_code 8 = .ok (.iload_n 1, 1) := by decide +kernel
theorem d_Mo_waitsFor_9 : decode prog_10_method_21_code 9 = .ok (.iaload, 1) := by decide +kernel
theorem d_Mo_waitsFor_10 : decode prog_10_method_21_code 10 = .ok (.iadd, 1) := by decide +kernel
theorem d_Mo_waitsFor_11 : decode prog_10_method_21_code 11 = .ok (.iconst 1, 1) := by decide +kernel
theorem d_Mo_waitsFor_12 : decode prog_10_method_21_code 12 = .ok (.isub, 1) := by decide +kernel
theorem d_Mo_waitsFor_13 : decode prog_10_method_21_code 13 = .ok (.istore_n 2, 1) := by decide +kernel
theorem d_Mo_waitsFor_14 : decode prog_10_method_21_code 14 = .ok (.aload_n 0, 1) := by decide +kernel
theorem d_Mo_waitsFor_15 : decode prog_10_method_21_code 15 = .ok (.aload_n 0, 1) := by decide +kernel
theorem d_Mo_waitsFor_16 : decode prog_10_method_21_code 16 = .ok (.getfield 43, 3) := by decide +kernel
theorem d_Mo_waitsFor_19 : decode prog_10_method_21_code 19 = .ok (.iload_n 2, 1) := by decide +kernel
theorem d_Mo_waitsFor_20 : decode prog_10_method_21_code 20 = .ok (.iaload, 1) := by decide +kernel
theorem d_Mo_waitsFor_21 : decode prog_10_method_21_code 21 = .ok (.aload_n 0, 1) := by decide +kernel
theorem d_Mo_waitsFor_22 : decode prog_10_method_21_code 22 = .ok (.getfield 46, 3) := by decide +kernel
theorem d_Mo_waitsFor_25 : decode prog_10_method_21_code 25 = .ok (.iload_n 2, 1) := by decide +kernel
theorem d_Mo_waitsFor_26 : decode prog_10_method_21_code 26 = .ok (.iaload, 1) := by decide +kernel
theorem d_Mo_waitsFor_27 : decode prog_10_method_21_code 27 = .ok (.invokevirtual 72, 3) := by decide +kernel
theorem d_Mo_waitsFor_30 : decode prog_10_method_21_code 30 = .ok (.iconst 4, 1) := by decide +kernel
theorem d_Mo_waitsFor_31 : decode prog_10_method_21_code 31 = .ok (.if_icmp .eq 5, 3) := by decide +kernel
theorem d_Mo_waitsFor_34 : decode prog_10_method_21_code 34 = .ok (.iconst (-1), 1) := by decide +kernel
theorem d_Mo_waitsFor_35 : decode prog_10_method_21_code 35 = .ok (.ireturn, 1) := by decide +kernel
theorem d_Mo_waitsFor_36 : decode prog_10_method_21_code 36 = .ok (.aload_n 0, 1) := by decide +kernel
theorem d_Mo_waitsFor_37 : decode prog_10_method_21_code 37 = .ok (.aload_n 0, 1) := by decide +kernel
theorem d_Mo_waitsFor_38 : decode prog_10_method_21_code 38 = .ok (.getfield 43, 3) := by decide +kernel
theorem d_Mo_waitsFor_41 : decode prog_10_method_21_code 41 = .ok (.iload_n 2, 1) := by decide +kernel
theorem d_Mo_waitsFor_42 : decode prog_10_method_21_code 42 = .ok (.iaload, 1) := by decide +kernel
theorem d_Mo_waitsFor_43 : decode prog_10_method_21_code 43 = .ok (.aload_n 0, 1) := by decide +kernel
theorem d_Mo_waitsFor_44 : decode prog_10_method_21_code 44 = .ok (.getfield 46, 3) := by decide +kernel
theorem d_Mo_waitsFor_47 : decode prog_10_method_21_code 47 = .ok (.iload_n 2, 1) := by decide +kernel
theorem d_Mo_waitsFor_48 : decode prog_10_method_21_code 48 = .ok (.iaload, 1) := by decide +kernel
theorem d_Mo_waitsFor_49 : decode prog_10_method_21_code 49 = .ok (.invokevirtual 95, 3) := by decide +kernel
theorem d_Mo_waitsFor_52 : decode prog_10_method_21_code 52 = .ok (.istore_n 3, 1) := by decide +kernel
theorem d_Mo_waitsFor_53 : decode prog_10_method_21_code 53 = .ok (.aload_n 0, 1) := by decide +kernel
theorem d_Mo_waitsFor_54 : decode prog_10_method_21_code 54 = .ok (.getfield 28, 3) := by decide +kernel
theorem d_Mo_waitsFor_57 : decode prog_10_method_21_code 57 = .ok (.iload_n 3, 1) := by decide +kernel
theorem d_Mo_waitsFor_58 : decode prog_10_method_21_code 58 = .ok (.iaload, 1) := by decide +kernel
theorem d_Mo_waitsFor_59 : decode prog_10_method_21_code 59 = .ok (.ifCond .lt 17, 3) := by decide +kernel
theorem d_Mo_waitsFor_62 : decode prog_10_method_21_code 62 = .ok (.aload_n 0, 1) := by decide +kernel
theorem d_Mo_waitsFor_63 : decode prog_10_method_21_code 63 = .ok (.getfield 28, 3) := by decide +kernel
theorem d_Mo_waitsFor_66 : decode prog_10_method_21_code 66 = .ok (.iload_n 3, 1) := by decide +kernel
theorem d_Mo_waitsFor_67 : decode prog_10_method_21_code 67 = .ok (.iaload, 1) := by decide +kernel
theorem d_Mo_waitsFor_68 : decode prog_10_method_21_code 68 = .ok (.iload_n 1, 1) := by decide +kernel
theorem d_Mo_waitsFor_69 : decode prog_10_method_21_code 69 = .ok (.if_icmp .eq 7, 3) := by decide +kernel
theorem d_Mo_waitsFor_72 : decode prog_10_method_21_code 72 = .ok (.iload_n 3, 1) := by decide +kernel
theorem d_Mo_waitsFor_73 : decode prog_10_method_21_code 73 = .ok (.goto 4, 3) := by decide +kernel
theorem d_Mo_waitsFor_76 : decode prog_10_method_21_code 76 = .ok (.iconst (-1), 1) := by decide +kernel
theorem d_Mo_waitsFor_77 : decode prog_10_method_21_code 77 = .ok (.ireturn, 1) := by decide +kernel
def tb_Mo_waitsFor : List pm_I := [
  pm_const 1 8,
  pm_iload 2 1,
  pm_bin 3 (fun a b => a * b),
  pm_aload 4 0,
  pm_getr 5 8 13,
  pm_iload 6 1,
  pm_iald 7 0,
  pm_bin 8 (fun a b => a + b),
  pm_const 9 1,
  pm_bin 10 (fun a b => a - b),
  pm_istore 11 2,
  pm_aload 12 0,
  pm_aload 13 0,
  pm_getr 14 8 14,
  pm_iload 15 2,
  pm_iald 16 0,
  pm_aload 17 0,
  pm_getr 18 8 15,
  pm_iload 19 2,
  pm_iald 20 0,
  pm_callv 21 74 3 8,
  pm_const 22 4,
  pm_icmp 25 23 (fun a b => decide (a = b)),
  pm_const 24 (-1),
  pm_iret,
  pm_aload 26 0,
  pm_aload 27 0,
  pm_getr 28 8 14,
  pm_iload 29 2,
  pm_iald 30 0,
  pm_aload 31 0,
  pm_getr 32 8 15,
  pm_iload 33 2,
  pm_iald 34 0,
  pm_callv 35 78 3 8,
  pm_istore 36 3,
  pm_aload 37 0,
  pm_getr 38 8 8,
  pm_iload 39 3,
  pm_iald 40 0,
  pm_if 49 41 (fun a => decide (a < 0)),
  pm_aload 42 0,
  pm_getr 43 8 8,
  pm_iload 44 3,
  pm_iald 45 0,
  pm_iload 46 1,
  pm_icmp 49 47 (fun a b => decide (a = b)),
  pm_iload 48 3,
  pm_goto 50,
  pm_const 50 (-1),
  pm_iret]
def bp_Mo_waitsFor : List Nat := [0, 2, 3, 4, 5, 8, 9, 10, 11, 12, 13, 14, 15, 16, 19, 20, 21, 22, 25, 26, 27, 30, 31, 34, 35, 36, 37, 38, 41, 42, 43, 44, 47, 48, 49, 52, 53, 54, 57, 58, 59, 62, 63, 66, 67, 68, 69, 72, 73, 76, 77]
set_option maxRecDepth 100000 in
theorem sd_Mo_waitsFor : pm_Sl prog_10_method_21_code 4 R_Mo "waitsFor" (some .int) pm_Y (pm_b bp_Mo_waitsFor) 0 tb_Mo_waitsFor := by
  refine ⟨so_const2 d_Mo_waitsFor_0 (by decide) rfl, ?_⟩
  refine ⟨so_iloadn d_Mo_waitsFor_2 rfl rfl, ?_⟩
  refine ⟨so_imul d_Mo_waitsFor_3 rfl, ?_⟩
  refine ⟨so_aloadn d_Mo_waitsFor_4 rfl rfl, ?_⟩
  refine ⟨so_getr (ci := 8) (k := 13) rfl (by decide) rfl rfl fl_Mo_40 d_Mo_waitsFor_5 rfl, ?_⟩
  refine ⟨so_iloadn d_Mo_waitsFor_8 rfl rfl, ?_⟩
  refine ⟨so_iald d_Mo_waitsFor_9 rfl, ?_⟩
  refine ⟨so_iadd d_Mo_waitsFor_10 rfl, ?_⟩
  refine ⟨so_const1 d_Mo_waitsFor_11 (by decide) rfl, ?_⟩
  refine ⟨so_isub d_Mo_waitsFor_12 rfl, ?_⟩
  refine ⟨so_istoren d_Mo_waitsFor_13 rfl (by decide) rfl, ?_⟩
  refine ⟨so_aloadn d_Mo_waitsFor_14 rfl rfl, ?_⟩
  refine ⟨so_aloadn d_Mo_waitsFor_15 rfl rfl, ?_⟩
  refine ⟨so_getr (ci := 8) (k := 14) rfl (by decide) rfl rfl fl_Mo_43 d_Mo_waitsFor_16 rfl, ?_⟩
  refine ⟨so_iloadn d_Mo_waitsFor_19 rfl rfl, ?_⟩
  refine ⟨so_iald d_Mo_waitsFor_20 rfl, ?_⟩
  refine ⟨so_aloadn d_Mo_waitsFor_21 rfl rfl, ?_⟩
  refine ⟨so_getr (ci := 8) (k := 15) rfl (by decide) rfl rfl fl_Mo_46 d_Mo_waitsFor_22 rfl, ?_⟩
  refine ⟨so_iloadn d_Mo_waitsFor_25 rfl rfl, ?_⟩
  refine ⟨so_iald d_Mo_waitsFor_26 rfl, ?_⟩
  refine ⟨so_callv (ci := 8) rfl rfl mc_Mo_kindAt mi_Mo mj_Mo_kindAt ms_Mo_kindAt ml_Mo_72 yd_Mo_kindAt (by decide) d_Mo_waitsFor_27 rfl, ?_⟩
  refine ⟨so_const1 d_Mo_waitsFor_30 (by decide) rfl, ?_⟩
  refine ⟨so_icmp_eq d_Mo_waitsFor_31 rfl rfl, ?_⟩
  refine ⟨so_const1 d_Mo_waitsFor_34 (by decide) rfl, ?_⟩
  refine ⟨so_iret d_Mo_waitsFor_35 rfl, ?_⟩
  refine ⟨so_aloadn d_Mo_waitsFor_36 rfl rfl, ?_⟩
  refine ⟨so_aloadn d_Mo_waitsFor_37 rfl rfl, ?_⟩
  refine ⟨so_getr (ci := 8) (k := 14) rfl (by decide) rfl rfl fl_Mo_43 d_Mo_waitsFor_38 rfl, ?_⟩
  refine ⟨so_iloadn d_Mo_waitsFor_41 rfl rfl, ?_⟩
  refine ⟨so_iald d_Mo_waitsFor_42 rfl, ?_⟩
  refine ⟨so_aloadn d_Mo_waitsFor_43 rfl rfl, ?_⟩
  refine ⟨so_getr (ci := 8) (k := 15) rfl (by decide) rfl rfl fl_Mo_46 d_Mo_waitsFor_44 rfl, ?_⟩
  refine ⟨so_iloadn d_Mo_waitsFor_47 rfl rfl, ?_⟩
  refine ⟨so_iald d_Mo_waitsFor_48 rfl, ?_⟩
  refine ⟨so_callv (ci := 8) rfl rfl mc_Mo_numberAt mi_Mo mj_Mo_numberAt ms_Mo_numberAt ml_Mo_95 yd_Mo_numberAt (by decide) d_Mo_waitsFor_49 rfl, ?_⟩
  refine ⟨so_istoren d_Mo_waitsFor_52 rfl (by decide) rfl, ?_⟩
  refine ⟨so_aloadn d_Mo_waitsFor_53 rfl rfl, ?_⟩
  refine ⟨so_getr (ci := 8) (k := 8) rfl (by decide) rfl rfl fl_Mo_28 d_Mo_waitsFor_54 rfl, ?_⟩
  refine ⟨so_iloadn d_Mo_waitsFor_57 rfl rfl, ?_⟩
  refine ⟨so_iald d_Mo_waitsFor_58 rfl, ?_⟩
  refine ⟨so_if_lt d_Mo_waitsFor_59 rfl rfl, ?_⟩
  refine ⟨so_aloadn d_Mo_waitsFor_62 rfl rfl, ?_⟩
  refine ⟨so_getr (ci := 8) (k := 8) rfl (by decide) rfl rfl fl_Mo_28 d_Mo_waitsFor_63 rfl, ?_⟩
  refine ⟨so_iloadn d_Mo_waitsFor_66 rfl rfl, ?_⟩
  refine ⟨so_iald d_Mo_waitsFor_67 rfl, ?_⟩
  refine ⟨so_iloadn d_Mo_waitsFor_68 rfl rfl, ?_⟩
  refine ⟨so_icmp_eq d_Mo_waitsFor_69 rfl rfl, ?_⟩
  refine ⟨so_iloadn d_Mo_waitsFor_72 rfl rfl, ?_⟩
  refine ⟨so_goto d_Mo_waitsFor_73 rfl, ?_⟩
  refine ⟨so_const1 d_Mo_waitsFor_76 (by decide) rfl, ?_⟩
  refine ⟨so_iret d_Mo_waitsFor_77 rfl, ?_⟩
  exact trivial
theorem d_Mo_does_0 : decode prog_10_method_23_code 0 = .ok (.aload_n 0, 1) := by decide +kernel
theorem d_Mo_does_1 : decode prog_10_method_23_code 1 = .ok (.iload_n 2, 1) := by decide +kernel
theorem d_Mo_does_2 : decode prog_10_method_23_code 2 = .ok (.iload_n 3, 1) := by decide +kernel
theorem d_Mo_does_3 : decode prog_10_method_23_code 3 = .ok (.invokevirtual 95, 3) := by decide +kernel
theorem d_Mo_does_6 : decode prog_10_method_23_code 6 = .ok (.istore 4, 2) := by decide +kernel
theorem d_Mo_does_8 : decode prog_10_method_23_code 8 = .ok (.bipush 8, 2) := by decide +kernel
theorem d_Mo_does_10 : decode prog_10_method_23_code 10 = .ok (.iload_n 1, 1) := by decide +kernel
theorem d_Mo_does_11 : decode prog_10_method_23_code 11 = .ok (.imul, 1) := by decide +kernel
theorem d_Mo_does_12 : decode prog_10_method_23_code 12 = .ok (.aload_n 0, 1) := by decide +kernel
theorem d_Mo_does_13 : decode prog_10_method_23_code 13 = .ok (.getfield 40, 3) := by decide +kernel
theorem d_Mo_does_16 : decode prog_10_method_23_code 16 = .ok (.iload_n 1, 1) := by decide +kernel
theorem d_Mo_does_17 : decode prog_10_method_23_code 17 = .ok (.iaload, 1) := by decide +kernel
theorem d_Mo_does_18 : decode prog_10_method_23_code 18 = .ok (.iadd, 1) := by decide +kernel
theorem d_Mo_does_19 : decode prog_10_method_23_code 19 = .ok (.iconst 1, 1) := by decide +kernel
theorem d_Mo_does_20 : decode prog_10_method_23_code 20 = .ok (.isub, 1) := by decide +kernel
theorem d_Mo_does_21 : decode prog_10_method_23_code 21 = .ok (.istore 5, 2) := by decide +kernel
theorem d_Mo_does_23 : decode prog_10_method_23_code 23 = .ok (.aload_n 0, 1) := by decide +kernel
theorem d_Mo_does_24 : decode prog_10_method_23_code 24 = .ok (.iload_n 2, 1) := by decide +kernel
theorem d_Mo_does_25 : decode prog_10_method_23_code 25 = .ok (.iload_n 3, 1) := by decide +kernel
theorem d_Mo_does_26 : decode prog_10_method_23_code 26 = .ok (.invokevirtual 72, 3) := by decide +kernel
theorem d_Mo_does_29 : decode prog_10_method_23_code 29 = .ok (.tableswitch 246 0 9 #[55, 77, 99, 111, 120, 128, 136, 164, 183, 211], 55) := by decide +kernel
theorem d_Mo_does_84 : decode prog_10_method_23_code 84 = .ok (.aload_n 0, 1) := by decide +kernel
theorem d_Mo_does_85 : decode prog_10_method_23_code 85 = .ok (.iload_n 1, 1) := by decide +kernel
theorem d_Mo_does_86 : decode prog_10_method_23_code 86 = .ok (.iload 4, 2) := by decide +kernel
theorem d_Mo_does_88 : decode prog_10_method_23_code 88 = .ok (.iconst 0, 1) := by decide +kernel
theorem d_Mo_does_89 : decode prog_10_method_23_code 89 = .ok (.invokevirtual 142, 3) := by decide +kernel
theorem d_Mo_does_92 : decode prog_10_method_23_code 92 = .ok (.aload_n 0, 1) := by decide +kernel
theorem d_Mo_does_93 : decode prog_10_method_23_code 93 = .ok (.getfield 37, 3) := by decide +kernel
theorem d_Mo_does_96 : decode prog_10_method_23_code 96 = .ok (.iload_n 1, 1) := by decide +kernel
theorem d_Mo_does_97 : decode prog_10_method_23_code 97 = .ok (.aload_n 0, 1) := by decide +kernel
theorem d_Mo_does_98 : decode prog_10_method_23_code 98 = .ok (.getfield 25, 3) := by decide +kernel
theorem d_Mo_does_101 : decode prog_10_method_23_code 101 = .ok (.iload 4, 2) := by decide +kernel
theorem d_Mo_does_103 : decode prog_10_method_23_code 103 = .ok (.iaload, 1) := by decide +kernel
theorem d_Mo_does_104 : decode prog_10_method_23_code 104 = .ok (.iastore, 1) := by decide +kernel
theorem d_Mo_does_105 : decode prog_10_method_23_code 105 = .ok (.return_, 1) := by decide +kernel
theorem d_Mo_does_106 : decode prog_10_method_23_code 106 = .ok (.aload_n 0, 1) := by decide +kernel
theorem d_Mo_does_107 : decode prog_10_method_23_code 107 = .ok (.iload_n 1, 1) := by decide +kernel
theorem d_Mo_does_108 : decode prog_10_method_23_code 108 = .ok (.iload 4, 2) := by decide +kernel
theorem d_Mo_does_110 : decode prog_10_method_23_code 110 = .ok (.iconst 1, 1) := by decide +kernel
theorem d_Mo_does_111 : decode prog_10_method_23_code 111 = .ok (.invokevirtual 142, 3) := by decide +kernel
theorem d_Mo_does_114 : decode prog_10_method_23_code 114 = .ok (.aload_n 0, 1) := by decide +kernel
theorem d_Mo_does_115 : decode prog_10_method_23_code 115 = .ok (.getfield 25, 3) := by decide +kernel
theorem d_Mo_does_118 : decode prog_10_method_23_code 118 = .ok (.iload 4, 2) := by decide +kernel
theorem d_Mo_does_120 : decode prog_10_method_23_code 120 = .ok (.aload_n 0, 1) := by decide +kernel
theorem d_Mo_does_121 : decode prog_10_method_23_code 121 = .ok (.getfield 37, 3) := by decide +kernel
theorem d_Mo_does_124 : decode prog_10_method_23_code 124 = .ok (.iload_n 1, 1) := by decide +kernel
theorem d_Mo_does_125 : decode prog_10_method_23_code 125 = .ok (.iaload, 1) := by decide +kernel
theorem d_Mo_does_126 : decode prog_10_method_23_code 126 = .ok (.iastore, 1) := by decide +kernel
theorem d_Mo_does_127 : decode prog_10_method_23_code 127 = .ok (.return_, 1) := by decide +kernel
theorem d_Mo_does_128 : decode prog_10_method_23_code 128 = .ok (.aload_n 0, 1) := by decide +kernel
theorem d_Mo_does_129 : decode prog_10_method_23_code 129 = .ok (.getfield 37, 3) := by decide +kernel
theorem d_Mo_does_132 : decode prog_10_method_23_code 132 = .ok (.iload_n 1, 1) := by decide +kernel
theorem d_Mo_does_133 : decode prog_10_method_23_code 133 = .ok (.dup2, 1) := by decide +kernel
theorem d_Mo_does_134 : decode prog_10_method_23_code 134 = .ok (.iaload, 1) := by decide +kernel
theorem d_Mo_does_135 : decode prog_10_method_23_code 135 = .ok (.iload 4, 2) := by decide +kernel
theorem d_Mo_does_137 : decode prog_10_method_23_code 137 = .ok (.iadd, 1) := by decide +kernel
theorem d_Mo_does_138 : decode prog_10_method_23_code 138 = .ok (.iastore, 1) := by decide +kernel
theorem d_Mo_does_139 : decode prog_10_method_23_code 139 = .ok (.return_, 1) := by decide +kernel
theorem d_Mo_does_140 : decode prog_10_method_23_code 140 = .ok (.aload_n 0, 1) := by decide +kernel
theorem d_Mo_does_141 : decode prog_10_method_23_code 141 = .ok (.getfield 37, 3) := by decide +kernel
theorem d_Mo_does_144 : decode prog_10_method_23_code 144 = .ok (.iload_n 1, 1) := by decide +kernel
theorem d_Mo_does_145 : decode prog_10_method_23_code 145 = .ok (.iload 4, 2) := by decide +kernel
theorem d_Mo_does_147 : decode prog_10_method_23_code 147 = .ok (.iastore, 1) := by decide +kernel
theorem d_Mo_does_148 : decode prog_10_method_23_code 148 = .ok (.return_, 1) := by decide +kernel
theorem d_Mo_does_149 : decode prog_10_method_23_code 149 = .ok (.aload_n 0, 1) := by decide +kernel
theorem d_Mo_does_150 : decode prog_10_method_23_code 150 = .ok (.iload_n 1, 1) := by decide +kernel
theorem d_Mo_does_151 : decode prog_10_method_23_code 151 = .ok (.iload 4, 2) := by decide +kernel
theorem d_Mo_does_153 : decode prog_10_method_23_code 153 = .ok (.invokevirtual 145, 3) := by decide +kernel
theorem d_Mo_does_156 : decode prog_10_method_23_code 156 = .ok (.return_, 1) := by decide +kernel
theorem d_Mo_does_157 : decode prog_10_method_23_code 157 = .ok (.aload_n 0, 1) := by decide +kernel
theorem d_Mo_does_158 : decode prog_10_method_23_code 158 = .ok (.iload_n 1, 1) := by decide +kernel
theorem d_Mo_does_159 : decode prog_10_method_23_code 159 = .ok (.iload_n 2, 1) := by decide +kernel
theorem d_Mo_does_160 : decode prog_10_method_23_code 160 = .ok (.iload_n 3, 1) := by decide +kernel
theorem d_Mo_does_161 : decode prog_10_method_23_code 161 = .ok (.invokevirtual 148, 3) := by decide +kernel
theorem d_Mo_does_164 : decode prog_10_method_23_code 164 = .ok (.return_, 1) := by decide +kernel
theorem d_Mo_does_165 : decode prog_10_method_23_code 165 = .ok (.aload_n 0, 1) := by decide +kernel
theorem d_Mo_does_166 : decode prog_10_method_23_code 166 = .ok (.getfield 37, 3) := by decide +kernel
theorem d_Mo_does_169 : decode prog_10_method_23_code 169 = .ok (.iload_n 1, 1) := by decide +kernel
theorem d_Mo_does_170 : decode prog_10_method_23_code 170 = .ok (.iaload, 1) := by decide +kernel
theorem d_Mo_does_171 : decode prog_10_method_23_code 171 = .ok (.ifCond .ne 21, 3) := by decide +kernel
theorem d_Mo_does_174 : decode prog_10_method_23_code 174 = .ok (.aload_n 0, 1) := by decide +kernel
theorem d_Mo_does_175 : decode prog_10_method_23_code 175 = .ok (.getfield 46, 3) := by decide +kernel
theorem d_Mo_does_178 : decode prog_10_method_23_code 178 = .ok (.iload 5, 2) := by decide +kernel
theorem d_Mo_does_180 : decode prog_10_method_23_code 180 = .ok (.aload_n 0, 1) := by decide +kernel
theorem d_Mo_does_181 : decode prog_10_method_23_code 181 = .ok (.iload_n 2, 1) := by decide +kernel
theorem d_Mo_does_182 : decode prog_10_method_23_code 182 = .ok (.iload_n 3, 1) := by decide +kernel
theorem d_Mo_does_183 : decode prog_10_method_23_code 183 = .ok (.iconst 1, 1) := by decide +kernel
theorem d_Mo_does_184 : decode prog_10_method_23_code 184 = .ok (.iadd, 1) := by decide +kernel
theorem d_Mo_does_185 : decode prog_10_method_23_code 185 = .ok (.iconst 1, 1) := by decide +kernel
theorem d_Mo_does_186 : decode prog_10_method_23_code 186 = .ok (.invokevirtual 83, 3) := by decide +kernel
theorem d_Mo_does_189 : decode prog_10_method_23_code 189 = .ok (.iconst 1, 1) := by decide +kernel
theorem d_Mo_does_190 : decode prog_10_method_23_code 190 = .ok (.iadd, 1) := by decide +kernel
theorem d_Mo_does_191 : decode prog_10_method_23_code 191 = .ok (.iastore, 1) := by decide +kernel
theorem d_Mo_does_192 : decode prog_10_method_23_code 192 = .ok (.return_, 1) := by decide +kernel
theorem d_Mo_does_193 : decode prog_10_method_23_code 193 = .ok (.aload_n 0, 1) := by decide +kernel
theorem d_Mo_does_194 : decode prog_10_method_23_code 194 = .ok (.getfield 46, 3) := by decide +kernel
theorem d_Mo_does_197 : decode prog_10_method_23_code 197 = .ok (.iload 5, 2) := by decide +kernel
theorem d_Mo_does_199 : decode prog_10_method_23_code 199 = .ok (.aload_n 0, 1) := by decide +kernel
theorem d_Mo_does_200 : decode prog_10_method_23_code 200 = .ok (.iload_n 2, 1) := by decide +kernel
theorem d_Mo_does_201 : decode prog_10_method_23_code 201 = .ok (.iload_n 3, 1) := by decide +kernel
theorem d_Mo_does_202 : decode prog_10_method_23_code 202 = .ok (.iconst 1, 1) := by decide +kernel
theorem d_Mo_does_203 : decode prog_10_method_23_code 203 = .ok (.iadd, 1) := by decide +kernel
theorem d_Mo_does_204 : decode prog_10_method_23_code 204 = .ok (.iconst 0, 1) := by decide +kernel
theorem d_Mo_does_205 : decode prog_10_method_23_code 205 = .ok (.invokevirtual 83, 3) := by decide +kernel
theorem d_Mo_does_208 : decode prog_10_method_23_code 208 = .ok (.iconst 1, 1) := by decide +kernel
theorem d_Mo_does_209 : decode prog_10_method_23_code 209 = .ok (.iadd, 1) := by decide +kernel
theorem d_Mo_does_210 : decode prog_10_method_23_code 210 = .ok (.iastore, 1) := by decide +kernel
theorem d_Mo_does_211 : decode prog_10_method_23_code 211 = .ok (.return_, 1) := by decide +kernel
theorem d_Mo_does_212 : decode prog_10_method_23_code 212 = .ok (.aload_n 0, 1) := by decide +kernel
theorem d_Mo_does_213 : decode prog_10_method_23_code 213 = .ok (.getfield 37, 3) := by decide +kernel
theorem d_Mo_does_216 : decode prog_10_method_23_code 216 = .ok (.iload_n 1, 1) := by decide +kernel
theorem d_Mo_does_217 : decode prog_10_method_23_code 217 = .ok (.iaload, 1) := by decide +kernel
theorem d_Mo_does_218 : decode prog_10_method_23_code 218 = .ok (.ifCond .ne 21, 3) := by decide +kernel
theorem d_Mo_does_221 : decode prog_10_method_23_code 221 = .ok (.aload_n 0, 1) := by decide +kernel
theorem d_Mo_does_222 : decode prog_10_method_23_code 222 = .ok (.getfield 46, 3) := by decide +kernel
theorem d_Mo_does_225 : decode prog_10_method_23_code 225 = .ok (.iload 5, 2) := by decide +kernel
theorem d_Mo_does_227 : decode prog_10_method_23_code 227 = .ok (.aload_n 0, 1) := by decide +kernel
theorem d_Mo_does_228 : decode prog_10_method_23_code 228 = .ok (.iload_n 2, 1) := by decide +kernel
theorem d_Mo_does_229 : decode prog_10_method_23_code 229 = .ok (.iload_n 3, 1) := by decide +kernel
theorem d_Mo_does_230 : decode prog_10_method_23_code 230 = .ok (.iconst 1, 1) := by decide +kernel
theorem d_Mo_does_231 : decode prog_10_method_23_code 231 = .ok (.iadd, 1) := by decide +kernel
theorem d_Mo_does_232 : decode prog_10_method_23_code 232 = .ok (.iconst 0, 1) := by decide +kernel
theorem d_Mo_does_233 : decode prog_10_method_23_code 233 = .ok (.invokevirtual 83, 3) := by decide +kernel
theorem d_Mo_does_236 : decode prog_10_method_23_code 236 = .ok (.iconst 1, 1) := by decide +kernel
theorem d_Mo_does_237 : decode prog_10_method_23_code 237 = .ok (.iadd, 1) := by decide +kernel
theorem d_Mo_does_238 : decode prog_10_method_23_code 238 = .ok (.iastore, 1) := by decide +kernel
theorem d_Mo_does_239 : decode prog_10_method_23_code 239 = .ok (.return_, 1) := by decide +kernel
theorem d_Mo_does_240 : decode prog_10_method_23_code 240 = .ok (.iload 4, 2) := by decide +kernel
theorem d_Mo_does_242 : decode prog_10_method_23_code 242 = .ok (.aload_n 0, 1) := by decide +kernel
theorem d_Mo_does_243 : decode prog_10_method_23_code 243 = .ok (.getfield 87, 3) := by decide +kernel
theorem d_Mo_does_246 : decode prog_10_method_23_code 246 = .ok (.if_icmp .ge 28, 3) := by decide +kernel
theorem d_Mo_does_249 : decode prog_10_method_23_code 249 = .ok (.aload_n 0, 1) := by decide +kernel
theorem d_Mo_does_250 : decode prog_10_method_23_code 250 = .ok (.getfield 108, 3) := by decide +kernel
theorem d_Mo_does_253 : decode prog_10_method_23_code 253 = .ok (.bipush 6, 2) := by decide +kernel
theorem d_Mo_does_255 : decode prog_10_method_23_code 255 = .ok (.if_icmp .ge 19, 3) := by decide +kernel
theorem d_Mo_does_258 : decode prog_10_method_23_code 258 = .ok (.aload_n 0, 1) := by decide +kernel
theorem d_Mo_does_259 : decode prog_10_method_23_code 259 = .ok (.iload 4, 2) := by decide +kernel
theorem d_Mo_does_261 : decode prog_10_method_23_code 261 = .ok (.aload_n 0, 1) := by decide +kernel
theorem d_Mo_does_262 : decode prog_10_method_23_code 262 = .ok (.getfield 37, 3) := by decide +kernel
theorem d_Mo_does_265 : decode prog_10_method_23_code 265 = .ok (.iload_n 1, 1) := by decide +kernel
theorem d_Mo_does_266 : decode prog_10_method_23_code 266 = .ok (.iaload, 1) := by decide +kernel
theorem d_Mo_does_267 : decode prog_10_method_23_code 267 = .ok (.aload_n 0, 1) := by decide +kernel
theorem d_Mo_does_268 : decode prog_10_method_23_code 268 = .ok (.getfield 123, 3) := by decide +kernel
theorem d_Mo_does_271 : decode prog_10_method_23_code 271 = .ok (.invokevirtual 129, 3) := by decide +kernel
theorem d_Mo_does_274 : decode prog_10_method_23_code 274 = .ok (.return_, 1) := by decide +kernel
theorem d_Mo_does_275 : decode prog_10_method_23_code 275 = .ok (.iload 4, 2) := by decide +kernel
theorem d_Mo_does_277 : decode prog_10_method_23_code 277 = .ok (.aload_n 0, 1) := by decide +kernel
theorem d_Mo_does_278 : decode prog_10_method_23_code 278 = .ok (.getfield 87, 3) := by decide +kernel
theorem d_Mo_does_281 : decode prog_10_method_23_code 281 = .ok (.if_icmp .ge 21, 3) := by decide +kernel
theorem d_Mo_does_284 : decode prog_10_method_23_code 284 = .ok (.aload_n 0, 1) := by decide +kernel
theorem d_Mo_does_285 : decode prog_10_method_23_code 285 = .ok (.getfield 40, 3) := by decide +kernel
theorem d_Mo_does_288 : decode prog_10_method_23_code 288 = .ok (.iload_n 1, 1) := by decide +kernel
theorem d_Mo_does_289 : decode prog_10_method_23_code 289 = .ok (.iaload, 1) := by decide +kernel
theorem d_Mo_does_290 : decode prog_10_method_23_code 290 = .ok (.bipush 8, 2) := by decide +kernel
theorem d_Mo_does_292 : decode prog_10_method_23_code 292 = .ok (.if_icmp .ge 10, 3) := by decide +kernel
theorem d_Mo_does_295 : decode prog_10_method_23_code 295 = .ok (.aload_n 0, 1) := by decide +kernel
theorem d_Mo_does_296 : decode prog_10_method_23_code 296 = .ok (.iload_n 1, 1) := by decide +kernel
theorem d_Mo_does_297 : decode prog_10_method_23_code 297 = .ok (.iload 4, 2) := by decide +kernel
theorem d_Mo_does_299 : decode prog_10_method_23_code 299 = .ok (.invokevirtual 111, 3) := by decide +kernel
theorem d_Mo_does_302 : decode prog_10_method_23_code 302 = .ok (.return_, 1) := by decide +kernel
def tb_Mo_does : List pm_I := [
  pm_aload 1 0,
  pm_iload 2 2,
  pm_iload 3 3,
  pm_callv 4 78 3 8,
  pm_istore 5 4,
  pm_const 6 8,
  pm_iload 7 1,
  pm_bin 8 (fun a b => a * b),
  pm_aload 9 0,
  pm_getr 10 8 13,
  pm_iload 11 1,
  pm_iald 12 0,
  pm_bin 13 (fun a b => a + b),
  pm_const 14 1,
  pm_bin 15 (fun a b => a - b),
  pm_istore 16 5,
  pm_aload 17 0,
  pm_iload 18 2,
  pm_iload 19 3,
  pm_callv 20 74 3 8,
  pm_sw [(0, 21), (1, 35), (2, 49), (3, 58), (4, 64), (5, 69), (6, 75), (7, 94), (8, 108), (9, 127)] 145,
  pm_aload 22 0,
  pm_iload 23 1,
  pm_iload 24 4,
  pm_const 25 0,
  pm_callv 26 92 4 8,
  pm_aload 27 0,
  pm_getr 28 8 12,
  pm_iload 29 1,
  pm_aload 30 0,
  pm_getr 31 8 7,
  pm_iload 32 4,
  pm_iald 33 0,
  pm_iast 34,
  pm_vret,
  pm_aload 36 0,
  pm_iload 37 1,
  pm_iload 38 4,
  pm_const 39 1,
  pm_callv 40 92 4 8,
  pm_aload 41 0,
  pm_getr 42 8 7,
  pm_iload 43 4,
  pm_aload 44 0,
  pm_getr 45 8 12,
  pm_iload 46 1,
  pm_iald 47 0,
  pm_iast 48,
  pm_vret,
  pm_aload 50 0,
  pm_getr 51 8 12,
  pm_iload 52 1,
  pm_dup2 53,
  pm_iald 54 0,
  pm_iload 55 4,
  pm_bin 56 (fun a b => a + b),
  pm_iast 57,
  pm_vret,
  pm_aload 59 0,
  pm_getr 60 8 12,
  pm_iload 61 1,
  pm_iload 62 4,
  pm_iast 63,
  pm_vret,
  pm_aload 65 0,
  pm_iload 66 1,
  pm_iload 67 4,
  pm_callv 68 94 3 8,
  pm_vret,
  pm_aload 70 0,
  pm_iload 71 1,
  pm_iload 72 2,
  pm_iload 73 3,
  pm_callv 74 95 4 8,
  pm_vret,
  pm_aload 76 0,
  pm_getr 77 8 12,
  pm_iload 78 1,
  pm_iald 79 0,
  pm_if 93 80 (fun a => decide (a ≠ 0)),
  pm_aload 81 0,
  pm_getr 82 8 15,
  pm_iload 83 5,
  pm_aload 84 0,
  pm_iload 85 2,
  pm_iload 86 3,
  pm_const 87 1,
  pm_bin 88 (fun a b => a + b),
  pm_const 89 1,
  pm_callv 90 77 4 8,
  pm_const 91 1,
  pm_bin 92 (fun a b => a + b),
  pm_iast 93,
  pm_vret,
  pm_aload 95 0,
  pm_getr 96 8 15,
  pm_iload 97 5,
  pm_aload 98 0,
  pm_iload 99 2,
  pm_iload 100 3,
  pm_const 101 1,
  pm_bin 102 (fun a b => a + b),
  pm_const 103 0,
  pm_callv 104 77 4 8,
  pm_const 105 1,
  pm_bin 106 (fun a b => a + b),
  pm_iast 107,
  pm_vret,
  pm_aload 109 0,
  pm_getr 110 8 12,
  pm_iload 111 1,
  pm_iald 112 0,
  pm_if 126 113 (fun a => decide (a ≠ 0)),
  pm_aload 114 0,
  pm_getr 115 8 15,
  pm_iload 116 5,
  pm_aload 117 0,
  pm_iload 118 2,
  pm_iload 119 3,
  pm_const 120 1,
  pm_bin 121 (fun a b => a + b),
  pm_const 122 0,
  pm_callv 123 77 4 8,
  pm_const 124 1,
  pm_bin 125 (fun a b => a + b),
  pm_iast 126,
  pm_vret,
  pm_iload 128 4,
  pm_aload 129 0,
  pm_geti 130 8 4,
  pm_icmp 144 131 (fun a b => decide (b ≤ a)),
  pm_aload 132 0,
  pm_geti 133 8 11,
  pm_const 134 6,
  pm_icmp 144 135 (fun a b => decide (b ≤ a)),
  pm_aload 136 0,
  pm_iload 137 4,
  pm_aload 138 0,
  pm_getr 139 8 12,
  pm_iload 140 1,
  pm_iald 141 0,
  pm_aload 142 0,
  pm_geti 143 8 17,
  pm_callv 144 85 4 8,
  pm_vret,
  pm_iload 146 4,
  pm_aload 147 0,
  pm_geti 148 8 4,
  pm_icmp 159 149 (fun a b => decide (b ≤ a)),
  pm_aload 150 0,
  pm_getr 151 8 13,
  pm_iload 152 1,
  pm_iald 153 0,
  pm_const 154 8,
  pm_icmp 159 155 (fun a b => decide (b ≤ a)),
  pm_aload 156 0,
  pm_iload 157 1,
  pm_iload 158 4,
  pm_callv 159 86 3 8,
  pm_vret]
def bp_Mo_does : List Nat := [0, 1, 2, 3, 6, 8, 10, 11, 12, 13, 16, 17, 18, 19, 20, 21, 23, 24, 25, 26, 29, 84, 85, 86, 88, 89, 92, 93, 96, 97, 98, 101, 103, 104, 105, 106, 107, 108, 110, 111, 114, 115, 118, 120, 121, 124, 125, 126, 127, 128, 129, 132, 133, 134, 135, 137, 138, 139, 140, 141, 144, 145, 147, 148, 149, 150, 151, 153, 156, 157, 158, 159, 160, 161, 164, 165, 166, 169, 170, 171, 174, 175, 178, 180, 181, 182, 183, 184, 185, 186, 189, 190, 191, 192, 193, 194, 197, 199, 200, 201, 202, 203, 204, 205, 208, 209, 210, 211, 212, 213, 216, 217, 218, 221, 222, 225, 227, 228, 229, 230, 231, 232, 233, 236, 237, 238, 239, 240, 242, 243, 246, 249, 250, 253, 255, 258, 259, 261, 262, 265, 266, 267, 268, 271, 274, 275, 277, 278, 281, 284, 285, 288, 289, 290, 292, 295, 296, 297, 299, 302]
set_option maxRecDepth 100000 in
theorem sd_Mo_does : pm_Sl prog_10_method_23_code 6 R_Mo "does" (none) pm_Y (pm_b bp_Mo_does) 0 tb_Mo_does := by
  refine ⟨so_aloadn d_Mo_does_0 rfl rfl, ?_⟩
  refine ⟨so_iloadn d_Mo_does_1 rfl rfl, ?_⟩
  refine ⟨so_iloadn d_Mo_does_2 rfl rfl, ?_⟩
  refine ⟨so_callv (ci := 8) rfl rfl mc_Mo_numberAt mi_Mo mj_Mo_numberAt ms_Mo_numberAt ml_Mo_95 yd_Mo_numberAt (by decide) d_Mo_does_3 rfl, ?_⟩
  refine ⟨so_istore d_Mo_does_6 (by decide) rfl, ?_⟩
  refine ⟨so_const2 d_Mo_does_8 (by decide) rfl, ?_⟩
  refine ⟨so_iloadn d_Mo_does_10 rfl rfl, ?_⟩
  refine ⟨so_imul d_Mo_does_11 rfl, ?_⟩
  refine ⟨so_aloadn d_Mo_does_12 rfl rfl, ?_⟩
  refine ⟨so_getr (ci := 8) (k := 13) rfl (by decide) rfl rfl fl_Mo_40 d_Mo_does_13 rfl, ?_⟩
  refine ⟨so_iloadn d_Mo_does_16 rfl rfl, ?_⟩
  refine ⟨so_iald d_Mo_does_17 rfl, ?_⟩
  refine ⟨so_iadd d_Mo_does_18 rfl, ?_⟩
  refine ⟨so_const1 d_Mo_does_19 (by decide) rfl, ?_⟩
  refine ⟨so_isub d_Mo_does_20 rfl, ?_⟩
  refine ⟨so_istore d_Mo_does_21 (by decide) rfl, ?_⟩
  refine ⟨so_aloadn d_Mo_does_23 rfl rfl, ?_⟩
  refine ⟨so_iloadn d_Mo_does_24 rfl rfl, ?_⟩
  refine ⟨so_iloadn d_Mo_does_25 rfl rfl, ?_⟩
  refine ⟨so_callv (ci := 8) rfl rfl mc_Mo_kindAt mi_Mo mj_Mo_kindAt ms_Mo_kindAt ml_Mo_72 yd_Mo_kindAt (by decide) d_Mo_does_26 rfl, ?_⟩
  refine ⟨so_tsw d_Mo_does_29 (by decide +kernel) (by decide +kernel) rfl, ?_⟩
  refine ⟨so_aloadn d_Mo_does_84 rfl rfl, ?_⟩
  refine ⟨so_iloadn d_Mo_does_85 rfl rfl, ?_⟩
  refine ⟨so_iload d_Mo_does_86 rfl, ?_⟩
  refine ⟨so_const1 d_Mo_does_88 (by decide) rfl, ?_⟩
  refine ⟨so_callv (ci := 8) rfl rfl mc_Mo_meets mi_Mo mj_Mo_meets ms_Mo_meets ml_Mo_142 yd_Mo_meets (by decide) d_Mo_does_89 rfl, ?_⟩
  refine ⟨so_aloadn d_Mo_does_92 rfl rfl, ?_⟩
  refine ⟨so_getr (ci := 8) (k := 12) rfl (by decide) rfl rfl fl_Mo_37 d_Mo_does_93 rfl, ?_⟩
  refine ⟨so_iloadn d_Mo_does_96 rfl rfl, ?_⟩
  refine ⟨so_aloadn d_Mo_does_97 rfl rfl, ?_⟩
  refine ⟨so_getr (ci := 8) (k := 7) rfl (by decide) rfl rfl fl_Mo_25 d_Mo_does_98 rfl, ?_⟩
  refine ⟨so_iload d_Mo_does_101 rfl, ?_⟩
  refine ⟨so_iald d_Mo_does_103 rfl, ?_⟩
  refine ⟨so_iast d_Mo_does_104 rfl, ?_⟩
  refine ⟨so_vret d_Mo_does_105 rfl, ?_⟩
  refine ⟨so_aloadn d_Mo_does_106 rfl rfl, ?_⟩
  refine ⟨so_iloadn d_Mo_does_107 rfl rfl, ?_⟩
  refine ⟨so_iload d_Mo_does_108 rfl, ?_⟩
  refine ⟨so_const1 d_Mo_does_110 (by decide) rfl, ?_⟩
  refine ⟨so_callv (ci := 8) rfl rfl mc_Mo_meets mi_Mo mj_Mo_meets ms_Mo_meets ml_Mo_142 yd_Mo_meets (by decide) d_Mo_does_111 rfl, ?_⟩
  refine ⟨so_aloadn d_Mo_does_114 rfl rfl, ?_⟩
  refine ⟨so_getr (ci := 8) (k := 7) rfl (by decide) rfl rfl fl_Mo_25 d_Mo_does_115 rfl, ?_⟩
  refine ⟨so_iload d_Mo_does_118 rfl, ?_⟩
  refine ⟨so_aloadn d_Mo_does_120 rfl rfl, ?_⟩
  refine ⟨so_getr (ci := 8) (k := 12) rfl (by decide) rfl rfl fl_Mo_37 d_Mo_does_121 rfl, ?_⟩
  refine ⟨so_iloadn d_Mo_does_124 rfl rfl, ?_⟩
  refine ⟨so_iald d_Mo_does_125 rfl, ?_⟩
  refine ⟨so_iast d_Mo_does_126 rfl, ?_⟩
  refine ⟨so_vret d_Mo_does_127 rfl, ?_⟩
  refine ⟨so_aloadn d_Mo_does_128 rfl rfl, ?_⟩
  refine ⟨so_getr (ci := 8) (k := 12) rfl (by decide) rfl rfl fl_Mo_37 d_Mo_does_129 rfl, ?_⟩
  refine ⟨so_iloadn d_Mo_does_132 rfl rfl, ?_⟩
  refine ⟨so_dup2 d_Mo_does_133 rfl, ?_⟩
  refine ⟨so_iald d_Mo_does_134 rfl, ?_⟩
  refine ⟨so_iload d_Mo_does_135 rfl, ?_⟩
  refine ⟨so_iadd d_Mo_does_137 rfl, ?_⟩
  refine ⟨so_iast d_Mo_does_138 rfl, ?_⟩
  refine ⟨so_vret d_Mo_does_139 rfl, ?_⟩
  refine ⟨so_aloadn d_Mo_does_140 rfl rfl, ?_⟩
  refine ⟨so_getr (ci := 8) (k := 12) rfl (by decide) rfl rfl fl_Mo_37 d_Mo_does_141 rfl, ?_⟩
  refine ⟨so_iloadn d_Mo_does_144 rfl rfl, ?_⟩
  refine ⟨so_iload d_Mo_does_145 rfl, ?_⟩
  refine ⟨so_iast d_Mo_does_147 rfl, ?_⟩
  refine ⟨so_vret d_Mo_does_148 rfl, ?_⟩
  refine ⟨so_aloadn d_Mo_does_149 rfl rfl, ?_⟩
  refine ⟨so_iloadn d_Mo_does_150 rfl rfl, ?_⟩
  refine ⟨so_iload d_Mo_does_151 rfl, ?_⟩
  refine ⟨so_callv (ci := 8) rfl rfl mc_Mo_takes mi_Mo mj_Mo_takes ms_Mo_takes ml_Mo_145 yd_Mo_takes (by decide) d_Mo_does_153 rfl, ?_⟩
  refine ⟨so_vret d_Mo_does_156 rfl, ?_⟩
  refine ⟨so_aloadn d_Mo_does_157 rfl rfl, ?_⟩
  refine ⟨so_iloadn d_Mo_does_158 rfl rfl, ?_⟩
  refine ⟨so_iloadn d_Mo_does_159 rfl rfl, ?_⟩
  refine ⟨so_iloadn d_Mo_does_160 rfl rfl, ?_⟩
  refine ⟨so_callv (ci := 8) rfl rfl mc_Mo_ends mi_Mo mj_Mo_ends ms_Mo_ends ml_Mo_148 yd_Mo_ends (by decide) d_Mo_does_161 rfl, ?_⟩
  refine ⟨so_vret d_Mo_does_164 rfl, ?_⟩
  refine ⟨so_aloadn d_Mo_does_165 rfl rfl, ?_⟩
  refine ⟨so_getr (ci := 8) (k := 12) rfl (by decide) rfl rfl fl_Mo_37 d_Mo_does_166 rfl, ?_⟩
  refine ⟨so_iloadn d_Mo_does_169 rfl rfl, ?_⟩
  refine ⟨so_iald d_Mo_does_170 rfl, ?_⟩
  refine ⟨so_if_ne d_Mo_does_171 rfl rfl, ?_⟩
  refine ⟨so_aloadn d_Mo_does_174 rfl rfl, ?_⟩
  refine ⟨so_getr (ci := 8) (k := 15) rfl (by decide) rfl rfl fl_Mo_46 d_Mo_does_175 rfl, ?_⟩
  refine ⟨so_iload d_Mo_does_178 rfl, ?_⟩
  refine ⟨so_aloadn d_Mo_does_180 rfl rfl, ?_⟩
  refine ⟨so_iloadn d_Mo_does_181 rfl rfl, ?_⟩
  refine ⟨so_iloadn d_Mo_does_182 rfl rfl, ?_⟩
  refine ⟨so_const1 d_Mo_does_183 (by decide) rfl, ?_⟩
  refine ⟨so_iadd d_Mo_does_184 rfl, ?_⟩
  refine ⟨so_const1 d_Mo_does_185 (by decide) rfl, ?_⟩
  refine ⟨so_callv (ci := 8) rfl rfl mc_Mo_closerOf mi_Mo mj_Mo_closerOf ms_Mo_closerOf ml_Mo_83 yd_Mo_closerOf (by decide) d_Mo_does_186 rfl, ?_⟩
  refine ⟨so_const1 d_Mo_does_189 (by decide) rfl, ?_⟩
  refine ⟨so_iadd d_Mo_does_190 rfl, ?_⟩
  refine ⟨so_iast d_Mo_does_191 rfl, ?_⟩
  refine ⟨so_vret d_Mo_does_192 rfl, ?_⟩
  refine ⟨so_aloadn d_Mo_does_193 rfl rfl, ?_⟩
  refine ⟨so_getr (ci := 8) (k := 15) rfl (by decide) rfl rfl fl_Mo_46 d_Mo_does_194 rfl, ?_⟩
  refine ⟨so_iload d_Mo_does_197 rfl, ?_⟩
  refine ⟨so_aloadn d_Mo_does_199 rfl rfl, ?_⟩
  refine ⟨so_iloadn d_Mo_does_200 rfl rfl, ?_⟩
  refine ⟨so_iloadn d_Mo_does_201 rfl rfl, ?_⟩
  refine ⟨so_const1 d_Mo_does_202 (by decide) rfl, ?_⟩
  refine ⟨so_iadd d_Mo_does_203 rfl, ?_⟩
  refine ⟨so_const1 d_Mo_does_204 (by decide) rfl, ?_⟩
  refine ⟨so_callv (ci := 8) rfl rfl mc_Mo_closerOf mi_Mo mj_Mo_closerOf ms_Mo_closerOf ml_Mo_83 yd_Mo_closerOf (by decide) d_Mo_does_205 rfl, ?_⟩
  refine ⟨so_const1 d_Mo_does_208 (by decide) rfl, ?_⟩
  refine ⟨so_iadd d_Mo_does_209 rfl, ?_⟩
  refine ⟨so_iast d_Mo_does_210 rfl, ?_⟩
  refine ⟨so_vret d_Mo_does_211 rfl, ?_⟩
  refine ⟨so_aloadn d_Mo_does_212 rfl rfl, ?_⟩
  refine ⟨so_getr (ci := 8) (k := 12) rfl (by decide) rfl rfl fl_Mo_37 d_Mo_does_213 rfl, ?_⟩
  refine ⟨so_iloadn d_Mo_does_216 rfl rfl, ?_⟩
  refine ⟨so_iald d_Mo_does_217 rfl, ?_⟩
  refine ⟨so_if_ne d_Mo_does_218 rfl rfl, ?_⟩
  refine ⟨so_aloadn d_Mo_does_221 rfl rfl, ?_⟩
  refine ⟨so_getr (ci := 8) (k := 15) rfl (by decide) rfl rfl fl_Mo_46 d_Mo_does_222 rfl, ?_⟩
  refine ⟨so_iload d_Mo_does_225 rfl, ?_⟩
  refine ⟨so_aloadn d_Mo_does_227 rfl rfl, ?_⟩
  refine ⟨so_iloadn d_Mo_does_228 rfl rfl, ?_⟩
  refine ⟨so_iloadn d_Mo_does_229 rfl rfl, ?_⟩
  refine ⟨so_const1 d_Mo_does_230 (by decide) rfl, ?_⟩
  refine ⟨so_iadd d_Mo_does_231 rfl, ?_⟩
  refine ⟨so_const1 d_Mo_does_232 (by decide) rfl, ?_⟩
  refine ⟨so_callv (ci := 8) rfl rfl mc_Mo_closerOf mi_Mo mj_Mo_closerOf ms_Mo_closerOf ml_Mo_83 yd_Mo_closerOf (by decide) d_Mo_does_233 rfl, ?_⟩
  refine ⟨so_const1 d_Mo_does_236 (by decide) rfl, ?_⟩
  refine ⟨so_iadd d_Mo_does_237 rfl, ?_⟩
  refine ⟨so_iast d_Mo_does_238 rfl, ?_⟩
  refine ⟨so_vret d_Mo_does_239 rfl, ?_⟩
  refine ⟨so_iload d_Mo_does_240 rfl, ?_⟩
  refine ⟨so_aloadn d_Mo_does_242 rfl rfl, ?_⟩
  refine ⟨so_geti (ci := 8) (k := 4) rfl (by decide) rfl rfl fl_Mo_87 d_Mo_does_243 rfl, ?_⟩
  refine ⟨so_icmp_ge d_Mo_does_246 rfl rfl, ?_⟩
  refine ⟨so_aloadn d_Mo_does_249 rfl rfl, ?_⟩
  refine ⟨so_geti (ci := 8) (k := 11) rfl (by decide) rfl rfl fl_Mo_108 d_Mo_does_250 rfl, ?_⟩
  refine ⟨so_const2 d_Mo_does_253 (by decide) rfl, ?_⟩
  refine ⟨so_icmp_ge d_Mo_does_255 rfl rfl, ?_⟩
  refine ⟨so_aloadn d_Mo_does_258 rfl rfl, ?_⟩
  refine ⟨so_iload d_Mo_does_259 rfl, ?_⟩
  refine ⟨so_aloadn d_Mo_does_261 rfl rfl, ?_⟩
  refine ⟨so_getr (ci := 8) (k := 12) rfl (by decide) rfl rfl fl_Mo_37 d_Mo_does_262 rfl, ?_⟩
  refine ⟨so_iloadn d_Mo_does_265 rfl rfl, ?_⟩
  refine ⟨so_iald d_Mo_does_266 rfl, ?_⟩
  refine ⟨so_aloadn d_Mo_does_267 rfl rfl, ?_⟩
  refine ⟨so_geti (ci := 8) (k := 17) rfl (by decide) rfl rfl fl_Mo_123 d_Mo_does_268 rfl, ?_⟩
  refine ⟨so_callv (ci := 8) rfl rfl mc_Mo_begin mi_Mo mj_Mo_begin ms_Mo_begin ml_Mo_129 yd_Mo_begin (by decide) d_Mo_does_271 rfl, ?_⟩
  refine ⟨so_vret d_Mo_does_274 rfl, ?_⟩
  refine ⟨so_iload d_Mo_does_275 rfl, ?_⟩
  refine ⟨so_aloadn d_Mo_does_277 rfl rfl, ?_⟩
  refine ⟨so_geti (ci := 8) (k := 4) rfl (by decide) rfl rfl fl_Mo_87 d_Mo_does_278 rfl, ?_⟩
  refine ⟨so_icmp_ge d_Mo_does_281 rfl rfl, ?_⟩
  refine ⟨so_aloadn d_Mo_does_284 rfl rfl, ?_⟩
  refine ⟨so_getr (ci := 8) (k := 13) rfl (by decide) rfl rfl fl_Mo_40 d_Mo_does_285 rfl, ?_⟩
  refine ⟨so_iloadn d_Mo_does_288 rfl rfl, ?_⟩
  refine ⟨so_iald d_Mo_does_289 rfl, ?_⟩
  refine ⟨so_const2 d_Mo_does_290 (by decide) rfl, ?_⟩
  refine ⟨so_icmp_ge d_Mo_does_292 rfl rfl, ?_⟩
  refine ⟨so_aloadn d_Mo_does_295 rfl rfl, ?_⟩
  refine ⟨so_iloadn d_Mo_does_296 rfl rfl, ?_⟩
  refine ⟨so_iload d_Mo_does_297 rfl, ?_⟩
  refine ⟨so_callv (ci := 8) rfl rfl mc_Mo_enter mi_Mo mj_Mo_enter ms_Mo_enter ml_Mo_111 yd_Mo_enter (by decide) d_Mo_does_299 rfl, ?_⟩
  refine ⟨so_vret d_Mo_does_302 rfl, ?_⟩
  exact trivial
theorem d_Mo_meets_0 : decode prog_10_method_27_code 0 = .ok (.aload_n 0, 1) := by decide +kernel
theorem d_Mo_meets_1 : decode prog_10_method_27_code 1 = .ok (.getfield 58, 3) := by decide +kernel
theorem d_Mo_meets_4 : decode prog_10_method_27_code 4 = .ok (.aload_n 0, 1) := by decide +kernel
theorem d_Mo_meets_5 : decode prog_10_method_27_code 5 = .ok (.getfield 123, 3) := by decide +kernel
theorem d_Mo_meets_8 : decode prog_10_method_27_code 8 = .ok (.bipush 16, 2) := by decide +kernel
theorem d_Mo_meets_10 : decode prog_10_method_27_code 10 = .ok (.iload_n 1, 1) := by decide +kernel
theorem d_Mo_meets_11 : decode prog_10_method_27_code 11 = .ok (.imul, 1) := by decide +kernel
theorem d_Mo_meets_12 : decode prog_10_method_27_code 12 = .ok (.iconst 2, 1) := by decide +kernel
theorem d_Mo_meets_13 : decode prog_10_method_27_code 13 = .ok (.iload_n 2, 1) := by decide +kernel
theorem d_Mo_meets_14 : decode prog_10_method_27_code 14 = .ok (.imul, 1) := by decide +kernel
theorem d_Mo_meets_15 : decode prog_10_method_27_code 15 = .ok (.iadd, 1) := by decide +kernel
theorem d_Mo_meets_16 : decode prog_10_method_27_code 16 = .ok (.iload_n 3, 1) := by decide +kernel
theorem d_Mo_meets_17 : decode prog_10_method_27_code 17 = .ok (.iadd, 1) := by decide +kernel
theorem d_Mo_meets_18 : decode prog_10_method_27_code 18 = .ok (.iastore, 1) := by decide +kernel
theorem d_Mo_meets_19 : decode prog_10_method_27_code 19 = .ok (.aload_n 0, 1) := by decide +kernel
theorem d_Mo_meets_20 : decode prog_10_method_27_code 20 = .ok (.invokevirtual 151, 3) := by decide +kernel
theorem d_Mo_meets_23 : decode prog_10_method_27_code 23 = .ok (.iconst 0, 1) := by decide +kernel
theorem d_Mo_meets_24 : decode prog_10_method_27_code 24 = .ok (.istore 4, 2) := by decide +kernel
theorem d_Mo_meets_26 : decode prog_10_method_27_code 26 = .ok (.iconst 0, 1) := by decide +kernel
theorem d_Mo_meets_27 : decode prog_10_method_27_code 27 = .ok (.istore 5, 2) := by decide +kernel
theorem d_Mo_meets_29 : decode prog_10_method_27_code 29 = .ok (.iload 5, 2) := by decide +kernel
theorem d_Mo_meets_31 : decode prog_10_method_27_code 31 = .ok (.aload_n 0, 1) := by decide +kernel
theorem d_Mo_meets_32 : decode prog_10_method_27_code 32 = .ok (.getfield 123, 3) := by decide +kernel
theorem d_Mo_meets_35 : decode prog_10_method_27_code 35 = .ok (.if_icmp .ge 78, 3) := by decide +kernel
theorem d_Mo_meets_38 : decode prog_10_method_27_code 38 = .ok (.aload_n 0, 1) := by decide +kernel
theorem d_Mo_meets_39 : decode prog_10_method_27_code 39 = .ok (.getfield 58, 3) := by decide +kernel
theorem d_Mo_meets_42 : decode prog_10_method_27_code 42 = .ok (.iload 5, 2) := by decide +kernel
theorem d_Mo_meets_44 : decode prog_10_method_27_code 44 = .ok (.iaload, 1) := by decide +kernel
theorem d_Mo_meets_45 : decode prog_10_method_27_code 45 = .ok (.istore 6, 2) := by decide +kernel
theorem d_Mo_meets_47 : decode prog_10_method_27_code 47 = .ok (.iload 4, 2) := by decide +kernel
theorem d_Mo_meets_49 : decode prog_10_method_27_code 49 = .ok (.ifCond .ne 51, 3) := by decide +kernel
theorem d_Mo_meets_52 : decode prog_10_method_27_code 52 = .ok (.iload 6, 2) := by decide +kernel
theorem d_Mo_meets_54 : decode prog_10_method_27_code 54 = .ok (.ifCond .lt 50, 3) := by decide +kernel
theorem d_Mo_meets_57 : decode prog_10_method_27_code 57 = .ok (.aload_n 0, 1) := by decide +kernel
theorem d_Mo_meets_58 : decode prog_10_method_27_code 58 = .ok (.getfield 61, 3) := by decide +kernel
theorem d_Mo_meets_61 : decode prog_10_method_27_code 61 = .ok (.iload 5, 2) := by decide +kernel
theorem d_Mo_meets_63 : decode prog_10_method_27_code 63 = .ok (.baload, 1) := by decide +kernel
theorem d_Mo_meets_64 : decode prog_10_method_27_code 64 = .ok (.ifCond .ne 40, 3) := by decide +kernel
theorem d_Mo_meets_67 : decode prog_10_method_27_code 67 = .ok (.iload 6, 2) := by decide +kernel
theorem d_Mo_meets_69 : decode prog_10_method_27_code 69 = .ok (.iconst 2, 1) := by decide +kernel
theorem d_Mo_meets_70 : decode prog_10_method_27_code 70 = .ok (.idiv, 1) := by decide +kernel
theorem d_Mo_meets_71 : decode prog_10_method_27_code 71 = .ok (.bipush 8, 2) := by decide +kernel
theorem d_Mo_meets_73 : decode prog_10_method_27_code 73 = .ok (.irem, 1) := by decide +kernel
theorem d_Mo_meets_74 : decode prog_10_method_27_code 74 = .ok (.iload_n 2, 1) := by decide +kernel
theorem d_Mo_meets_75 : decode prog_10_method_27_code 75 = .ok (.if_icmp .ne 29, 3) := by decide +kernel
theorem d_Mo_meets_78 : decode prog_10_method_27_code 78 = .ok (.iload 6, 2) := by decide +kernel
theorem d_Mo_meets_80 : decode prog_10_method_27_code 80 = .ok (.bipush 16, 2) := by decide +kernel
theorem d_Mo_meets_82 : decode prog_10_method_27_code 82 = .ok (.idiv, 1) := by decide +kernel
theorem d_Mo_meets_83 : decode prog_10_method_27_code 83 = .ok (.iload_n 1, 1) := by decide +kernel
theorem d_Mo_meets_84 : decode prog_10_method_27_code 84 = .ok (.if_icmp .eq 20, 3) := by decide +kernel
theorem d_Mo_meets_87 : decode prog_10_method_27_code 87 = .ok (.iload_n 3, 1) := by decide +kernel
theorem d_Mo_meets_88 : decode prog_10_method_27_code 88 = .ok (.iconst 1, 1) := by decide +kernel
theorem d_Mo_meets_89 : decode prog_10_method_27_code 89 = .ok (.if_icmp .eq 11, 3) := by decide +kernel
theorem d_Mo_meets_92 : decode prog_10_method_27_code 92 = .ok (.iload 6, 2) := by decide +kernel
theorem d_Mo_meets_94 : decode prog_10_method_27_code 94 = .ok (.iconst 2, 1) := by decide +kernel
theorem d_Mo_meets_95 : decode prog_10_method_27_code 95 = .ok (.irem, 1) := by decide +kernel
theorem d_Mo_meets_96 : decode prog_10_method_27_code 96 = .ok (.iconst 1, 1) := by decide +kernel
theorem d_Mo_meets_97 : decode prog_10_method_27_code 97 = .ok (.if_icmp .ne 7, 3) := by decide +kernel
theorem d_Mo_meets_100 : decode prog_10_method_27_code 100 = .ok (.iconst 1, 1) := by decide +kernel
theorem d_Mo_meets_101 : decode prog_10_method_27_code 101 = .ok (.goto 4, 3) := by decide +kernel
theorem d_Mo_meets_104 : decode prog_10_method_27_code 104 = .ok (.iconst 0, 1) := by decide +kernel
theorem d_Mo_meets_105 : decode prog_10_method_27_code 105 = .ok (.istore 4, 2) := by decide +kernel
theorem d_Mo_meets_107 : decode prog_10_method_27_code 107 = .ok (.iinc 5 1, 3) := by decide +kernel
theorem d_Mo_meets_110 : decode prog_10_method_27_code 110 = .ok (.goto (-81), 3) := by decide +kernel
theorem d_Mo_meets_113 : decode prog_10_method_27_code 113 = .ok (.iload 4, 2) := by decide +kernel
theorem d_Mo_meets_115 : decode prog_10_method_27_code 115 = .ok (.ifCond .ne 4, 3) := by decide +kernel
theorem d_Mo_meets_118 : decode prog_10_method_27_code 118 = .ok (.return_, 1) := by decide +kernel
theorem d_Mo_meets_119 : decode prog_10_method_27_code 119 = .ok (.aload_n 0, 1) := by decide +kernel
theorem d_Mo_meets_120 : decode prog_10_method_27_code 120 = .ok (.getfield 126, 3) := by decide +kernel
theorem d_Mo_meets_123 : decode prog_10_method_27_code 123 = .ok (.bipush 64, 2) := by decide +kernel
theorem d_Mo_meets_125 : decode prog_10_method_27_code 125 = .ok (.if_icmp .ge 16, 3) := by decide +kernel
theorem d_Mo_meets_128 : decode prog_10_method_27_code 128 = .ok (.aload_n 0, 1) := by decide +kernel
theorem d_Mo_meets_129 : decode prog_10_method_27_code 129 = .ok (.getfield 65, 3) := by decide +kernel
theorem d_Mo_meets_132 : decode prog_10_method_27_code 132 = .ok (.aload_n 0, 1) := by decide +kernel
theorem d_Mo_meets_133 : decode prog_10_method_27_code 133 = .ok (.getfield 126, 3) := by decide +kernel
theorem d_Mo_meets_136 : decode prog_10_method_27_code 136 = .ok (.aload_n 0, 1) := by decide +kernel
theorem d_Mo_meets_137 : decode prog_10_method_27_code 137 = .ok (.getfield 123, 3) := by decide +kernel
theorem d_Mo_meets_140 : decode prog_10_method_27_code 140 = .ok (.iastore, 1) := by decide +kernel
theorem d_Mo_meets_141 : decode prog_10_method_27_code 141 = .ok (.aload_n 0, 1) := by decide +kernel
theorem d_Mo_meets_142 : decode prog_10_method_27_code 142 = .ok (.dup, 1) := by decide +kernel
theorem d_Mo_meets_143 : decode prog_10_method_27_code 143 = .ok (.getfield 126, 3) := by decide +kernel
theorem d_Mo_meets_146 : decode prog_10_method_27_code 146 = .ok (.iconst 1, 1) := by decide +kernel
theorem d_Mo_meets_147 : decode prog_10_method_27_code 147 = .ok (.iadd, 1) := by decide +kernel
theorem d_Mo_meets_148 : decode prog_10_method_27_code 148 = .ok (.putfield 126, 3) := by decide +kernel
theorem d_Mo_meets_151 : decode prog_10_method_27_code 151 = .ok (.return_, 1) := by decide +kernel
def tb_Mo_meets : List pm_I := [
  pm_aload 1 0,
  pm_getr 2 8 20,
  pm_aload 3 0,
  pm_geti 4 8 17,
  pm_const 5 16,
  pm_iload 6 1,
  pm_bin 7 (fun a b => a * b),
  pm_const 8 2,
  pm_iload 9 2,
  pm_bin 10 (fun a b => a * b),
  pm_bin 11 (fun a b => a + b),
  pm_iload 12 3,
  pm_bin 13 (fun a b => a + b),
  pm_iast 14,
  pm_aload 15 0,
  pm_callv 16 93 1 8,
  pm_const 17 0,
  pm_istore 18 4,
  pm_const 19 0,
  pm_istore 20 5,
  pm_iload 21 5,
  pm_aload 22 0,
  pm_geti 23 8 17,
  pm_icmp 64 24 (fun a b => decide (b ≤ a)),
  pm_aload 25 0,
  pm_getr 26 8 20,
  pm_iload 27 5,
  pm_iald 28 0,
  pm_istore 29 6,
  pm_iload 30 4,
  pm_if 58 31 (fun a => decide (a ≠ 0)),
  pm_iload 32 6,
  pm_if 60 33 (fun a => decide (a < 0)),
  pm_aload 34 0,
  pm_getr 35 8 21,
  pm_iload 36 5,
  pm_iald 37 1,
  pm_if 60 38 (fun a => decide (a ≠ 0)),
  pm_iload 39 6,
  pm_const 40 2,
  pm_div 41 (fun a b => a / b),
  pm_const 42 8,
  pm_div 43 (fun a b => a - a / b * b),
  pm_iload 44 2,
  pm_icmp 60 45 (fun a b => decide (a ≠ b)),
  pm_iload 46 6,
  pm_const 47 16,
  pm_div 48 (fun a b => a / b),
  pm_iload 49 1,
  pm_icmp 60 50 (fun a b => decide (a = b)),
  pm_iload 51 3,
  pm_const 52 1,
  pm_icmp 58 53 (fun a b => decide (a = b)),
  pm_iload 54 6,
  pm_const 55 2,
  pm_div 56 (fun a b => a - a / b * b),
  pm_const 57 1,
  pm_icmp 60 58 (fun a b => decide (a ≠ b)),
  pm_const 59 1,
  pm_goto 61,
  pm_const 61 0,
  pm_istore 62 4,
  pm_iinc 63 5 1,
  pm_goto 20,
  pm_iload 65 4,
  pm_if 67 66 (fun a => decide (a ≠ 0)),
  pm_vret,
  pm_aload 68 0,
  pm_geti 69 8 22,
  pm_const 70 64,
  pm_icmp 78 71 (fun a b => decide (b ≤ a)),
  pm_aload 72 0,
  pm_getr 73 8 23,
  pm_aload 74 0,
  pm_geti 75 8 22,
  pm_aload 76 0,
  pm_geti 77 8 17,
  pm_iast 78,
  pm_aload 79 0,
  pm_dup 80,
  pm_geti 81 8 22,
  pm_const 82 1,
  pm_bin 83 (fun a b => a + b),
  pm_puti 84 8 22,
  pm_vret]
def bp_Mo_meets : List Nat := [0, 1, 4, 5, 8, 10, 11, 12, 13, 14, 15, 16, 17, 18, 19, 20, 23, 24, 26, 27, 29, 31, 32, 35, 38, 39, 42, 44, 45, 47, 49, 52, 54, 57, 58, 61, 63, 64, 67, 69, 70, 71, 73, 74, 75, 78, 80, 82, 83, 84, 87, 88, 89, 92, 94, 95, 96, 97, 100, 101, 104, 105, 107, 110, 113, 115, 118, 119, 120, 123, 125, 128, 129, 132, 133, 136, 137, 140, 141, 142, 143, 146, 147, 148, 151]
set_option maxRecDepth 100000 in
theorem sd_Mo_meets : pm_Sl prog_10_method_27_code 7 R_Mo "meets" (none) pm_Y (pm_b bp_Mo_meets) 0 tb_Mo_meets := by
  refine ⟨so_aloadn d_Mo_meets_0 rfl rfl, ?_⟩
  refine ⟨so_getr (ci := 8) (k := 20) rfl (by decide) rfl rfl fl_Mo_58 d_Mo_meets_1 rfl, ?_⟩
  refine ⟨so_aloadn d_Mo_meets_4 rfl rfl, ?_⟩
  refine ⟨so_geti (ci := 8) (k := 17) rfl (by decide) rfl rfl fl_Mo_123 d_Mo_meets_5 rfl, ?_⟩
  refine ⟨so_const2 d_Mo_meets_8 (by decide) rfl, ?_⟩
  refine ⟨so_iloadn d_Mo_meets_10 rfl rfl, ?_⟩
  refine ⟨so_imul d_Mo_meets_11 rfl, ?_⟩
  refine ⟨so_const1 d_Mo_meets_12 (by decide) rfl, ?_⟩
  refine ⟨so_iloadn d_Mo_meets_13 rfl rfl, ?_⟩
  refine ⟨so_imul d_Mo_meets_14 rfl, ?_⟩
  refine ⟨so_iadd d_Mo_meets_15 rfl, ?_⟩
  refine ⟨so_iloadn d_Mo_meets_16 rfl rfl, ?_⟩
  refine ⟨so_iadd d_Mo_meets_17 rfl, ?_⟩
  refine ⟨so_iast d_Mo_meets_18 rfl, ?_⟩
  refine ⟨so_aloadn d_Mo_meets_19 rfl rfl, ?_⟩
  refine ⟨so_callv (ci := 8) rfl rfl mc_Mo_mark mi_Mo mj_Mo_mark ms_Mo_mark ml_Mo_151 yd_Mo_mark (by decide) d_Mo_meets_20 rfl, ?_⟩
  refine ⟨so_const1 d_Mo_meets_23 (by decide) rfl, ?_⟩
  refine ⟨so_istore d_Mo_meets_24 (by decide) rfl, ?_⟩
  refine ⟨so_const1 d_Mo_meets_26 (by decide) rfl, ?_⟩
  refine ⟨so_istore d_Mo_meets_27 (by decide) rfl, ?_⟩
  refine ⟨so_iload d_Mo_meets_29 rfl, ?_⟩
  refine ⟨so_aloadn d_Mo_meets_31 rfl rfl, ?_⟩
  refine ⟨so_geti (ci := 8) (k := 17) rfl (by decide) rfl rfl fl_Mo_123 d_Mo_meets_32 rfl, ?_⟩
  refine ⟨so_icmp_ge d_Mo_meets_35 rfl rfl, ?_⟩
  refine ⟨so_aloadn d_Mo_meets_38 rfl rfl, ?_⟩
  refine ⟨so_getr (ci := 8) (k := 20) rfl (by decide) rfl rfl fl_Mo_58 d_Mo_meets_39 rfl, ?_⟩
  refine ⟨so_iload d_Mo_meets_42 rfl, ?_⟩
  refine ⟨so_iald d_Mo_meets_44 rfl, ?_⟩
  refine ⟨so_istore d_Mo_meets_45 (by decide) rfl, ?_⟩
  refine ⟨so_iload d_Mo_meets_47 rfl, ?_⟩
  refine ⟨so_if_ne d_Mo_meets_49 rfl rfl, ?_⟩
  refine ⟨so_iload d_Mo_meets_52 rfl, ?_⟩
  refine ⟨so_if_lt d_Mo_meets_54 rfl rfl, ?_⟩
  refine ⟨so_aloadn d_Mo_meets_57 rfl rfl, ?_⟩
  refine ⟨so_getr (ci := 8) (k := 21) rfl (by decide) rfl rfl fl_Mo_61 d_Mo_meets_58 rfl, ?_⟩
  refine ⟨so_iload d_Mo_meets_61 rfl, ?_⟩
  refine ⟨so_zald d_Mo_meets_63 rfl, ?_⟩
  refine ⟨so_if_ne d_Mo_meets_64 rfl rfl, ?_⟩
  refine ⟨so_iload d_Mo_meets_67 rfl, ?_⟩
  refine ⟨so_const1 d_Mo_meets_69 (by decide) rfl, ?_⟩
  refine ⟨so_idiv d_Mo_meets_70 rfl, ?_⟩
  refine ⟨so_const2 d_Mo_meets_71 (by decide) rfl, ?_⟩
  refine ⟨so_irem d_Mo_meets_73 rfl, ?_⟩
  refine ⟨so_iloadn d_Mo_meets_74 rfl rfl, ?_⟩
  refine ⟨so_icmp_ne d_Mo_meets_75 rfl rfl, ?_⟩
  refine ⟨so_iload d_Mo_meets_78 rfl, ?_⟩
  refine ⟨so_const2 d_Mo_meets_80 (by decide) rfl, ?_⟩
  refine ⟨so_idiv d_Mo_meets_82 rfl, ?_⟩
  refine ⟨so_iloadn d_Mo_meets_83 rfl rfl, ?_⟩
  refine ⟨so_icmp_eq d_Mo_meets_84 rfl rfl, ?_⟩
  refine ⟨so_iloadn d_Mo_meets_87 rfl rfl, ?_⟩
  refine ⟨so_const1 d_Mo_meets_88 (by decide) rfl, ?_⟩
  refine ⟨so_icmp_eq d_Mo_meets_89 rfl rfl, ?_⟩
  refine ⟨so_iload d_Mo_meets_92 rfl, ?_⟩
  refine ⟨so_const1 d_Mo_meets_94 (by decide) rfl, ?_⟩
  refine ⟨so_irem d_Mo_meets_95 rfl, ?_⟩
  refine ⟨so_const1 d_Mo_meets_96 (by decide) rfl, ?_⟩
  refine ⟨so_icmp_ne d_Mo_meets_97 rfl rfl, ?_⟩
  refine ⟨so_const1 d_Mo_meets_100 (by decide) rfl, ?_⟩
  refine ⟨so_goto d_Mo_meets_101 rfl, ?_⟩
  refine ⟨so_const1 d_Mo_meets_104 (by decide) rfl, ?_⟩
  refine ⟨so_istore d_Mo_meets_105 (by decide) rfl, ?_⟩
  refine ⟨so_iinc d_Mo_meets_107 (by decide) (by decide) rfl, ?_⟩
  refine ⟨so_goto d_Mo_meets_110 rfl, ?_⟩
  refine ⟨so_iload d_Mo_meets_113 rfl, ?_⟩
  refine ⟨so_if_ne d_Mo_meets_115 rfl rfl, ?_⟩
  refine ⟨so_vret d_Mo_meets_118 rfl, ?_⟩
  refine ⟨so_aloadn d_Mo_meets_119 rfl rfl, ?_⟩
  refine ⟨so_geti (ci := 8) (k := 22) rfl (by decide) rfl rfl fl_Mo_126 d_Mo_meets_120 rfl, ?_⟩
  refine ⟨so_const2 d_Mo_meets_123 (by decide) rfl, ?_⟩
  refine ⟨so_icmp_ge d_Mo_meets_125 rfl rfl, ?_⟩
  refine ⟨so_aloadn d_Mo_meets_128 rfl rfl, ?_⟩
  refine ⟨so_getr (ci := 8) (k := 23) rfl (by decide) rfl rfl fl_Mo_65 d_Mo_meets_129 rfl, ?_⟩
  refine ⟨so_aloadn d_Mo_meets_132 rfl rfl, ?_⟩
  refine ⟨so_geti (ci := 8) (k := 22) rfl (by decide) rfl rfl fl_Mo_126 d_Mo_meets_133 rfl, ?_⟩
  refine ⟨so_aloadn d_Mo_meets_136 rfl rfl, ?_⟩
  refine ⟨so_geti (ci := 8) (k := 17) rfl (by decide) rfl rfl fl_Mo_123 d_Mo_meets_137 rfl, ?_⟩
  refine ⟨so_iast d_Mo_meets_140 rfl, ?_⟩
  refine ⟨so_aloadn d_Mo_meets_141 rfl rfl, ?_⟩
  refine ⟨so_dup d_Mo_meets_142 rfl, ?_⟩
  refine ⟨so_geti (ci := 8) (k := 22) rfl (by decide) rfl rfl fl_Mo_126 d_Mo_meets_143 rfl, ?_⟩
  refine ⟨so_const1 d_Mo_meets_146 (by decide) rfl, ?_⟩
  refine ⟨so_iadd d_Mo_meets_147 rfl, ?_⟩
  refine ⟨so_puti (ci := 8) (k := 22) rfl (by decide) rfl rfl (Or.inl ⟨rfl, fl_Mo_126⟩) d_Mo_meets_148 rfl, ?_⟩
  refine ⟨so_vret d_Mo_meets_151 rfl, ?_⟩
  exact trivial
theorem d_Mo_mark_0 : decode prog_10_method_26_code 0 = .ok (.iconst 0, 1) := by decide +kernel
theorem d_Mo_mark_1 : decode prog_10_method_26_code 1 = .ok (.istore_n 1, 1) := by decide +kernel
theorem d_Mo_mark_2 : decode prog_10_method_26_code 2 = .ok (.iload_n 1, 1) := by decide +kernel
theorem d_Mo_mark_3 : decode prog_10_method_26_code 3 = .ok (.aload_n 0, 1) := by decide +kernel
theorem d_Mo_mark_4 : decode prog_10_method_26_code 4 = .ok (.getfield 123, 3) := by decide +kernel
theorem d_Mo_mark_7 : decode prog_10_method_26_code 7 = .ok (.if_icmp .ge 16, 3) := by decide +kernel
theorem d_Mo_mark_10 : decode prog_10_method_26_code 10 = .ok (.aload_n 0, 1) := by decide +kernel
theorem d_Mo_mark_11 : decode prog_10_method_26_code 11 = .ok (.getfield 61, 3) := by decide +kernel
theorem d_Mo_mark_14 : decode prog_10_method_26_code 14 = .ok (.iload_n 1, 1) := by decide +kernel
theorem d_Mo_mark_15 : decode prog_10_method_26_code 15 = .ok (.iconst 0, 1) := by decide +kernel
theorem d_Mo_mark_16 : decode prog_10_method_26_code 16 = .ok (.bastore, 1) := by decide +kernel
theorem d_Mo_mark_17 : decode prog_10_method_26_code 17 = .ok (.iinc 1 1, 3) := by decide +kernel
theorem d_Mo_mark_20 : decode prog_10_method_26_code 20 = .ok (.goto (-18), 3) := by decide +kernel
theorem d_Mo_mark_23 : decode prog_10_method_26_code 23 = .ok (.aload_n 0, 1) := by decide +kernel
theorem d_Mo_mark_24 : decode prog_10_method_26_code 24 = .ok (.getfield 123, 3) := by decide +kernel
theorem d_Mo_mark_27 : decode prog_10_method_26_code 27 = .ok (.istore_n 1, 1) := by decide +kernel
theorem d_Mo_mark_28 : decode prog_10_method_26_code 28 = .ok (.iload_n 1, 1) := by decide +kernel
theorem d_Mo_mark_29 : decode prog_10_method_26_code 29 = .ok (.ifCond .lt 71, 3) := by decide +kernel
theorem d_Mo_mark_32 : decode prog_10_method_26_code 32 = .ok (.iload_n 1, 1) := by decide +kernel
theorem d_Mo_mark_33 : decode prog_10_method_26_code 33 = .ok (.aload_n 0, 1) := by decide +kernel
theorem d_Mo_mark_34 : decode prog_10_method_26_code 34 = .ok (.getfield 123, 3) := by decide +kernel
theorem d_Mo_mark_37 : decode prog_10_method_26_code 37 = .ok (.if_icmp .ge 15, 3) := by decide +kernel
theorem d_Mo_mark_40 : decode prog_10_method_26_code 40 = .ok (.aload_n 0, 1) := by decide +kernel
theorem d_Mo_mark_41 : decode prog_10_method_26_code 41 = .ok (.getfield 61, 3) := by decide +kernel
theorem d_Mo_mark_44 : decode prog_10_method_26_code 44 = .ok (.iload_n 1, 1) := by decide +kernel
theorem d_Mo_mark_45 : decode prog_10_method_26_code 45 = .ok (.baload, 1) := by decide +kernel
theorem d_Mo_mark_46 : decode prog_10_method_26_code 46 = .ok (.ifCond .ne 6, 3) := by decide +kernel
theorem d_Mo_mark_49 : decode prog_10_method_26_code 49 = .ok (.goto 45, 3) := by decide +kernel
theorem d_Mo_mark_52 : decode prog_10_method_26_code 52 = .ok (.aload_n 0, 1) := by decide +kernel
theorem d_Mo_mark_53 : decode prog_10_method_26_code 53 = .ok (.getfield 52, 3) := by decide +kernel
theorem d_Mo_mark_56 : decode prog_10_method_26_code 56 = .ok (.iload_n 1, 1) := by decide +kernel
theorem d_Mo_mark_57 : decode prog_10_method_26_code 57 = .ok (.iaload, 1) := by decide +kernel
theorem d_Mo_mark_58 : decode prog_10_method_26_code 58 = .ok (.ifCond .lt 15, 3) := by decide +kernel
theorem d_Mo_mark_61 : decode prog_10_method_26_code 61 = .ok (.aload_n 0, 1) := by decide +kernel
theorem d_Mo_mark_62 : decode prog_10_method_26_code 62 = .ok (.getfield 61, 3) := by decide +kernel
theorem d_Mo_mark_65 : decode prog_10_method_26_code 65 = .ok (.aload_n 0, 1) := by decide +kernel
theorem d_Mo_mark_66 : decode prog_10_method_26_code 66 = .ok (.getfield 52, 3) := by decide +kernel
theorem d_Mo_mark_69 : decode prog_10_method_26_code 69 = .ok (.iload_n 1, 1) := by decide +kernel
theorem d_Mo_mark_70 : decode prog_10_method_26_code 70 = .ok (.iaload, 1) := by decide +kernel
theorem d_Mo_mark_71 : decode prog_10_method_26_code 71 = .ok (.iconst 1, 1) := by decide +kernel
theorem d_Mo_mark_72 : decode prog_10_method_26_code 72 = .ok (.bastore, 1) := by decide +kernel
theorem d_Mo_mark_73 : decode prog_10_method_26_code 73 = .ok (.aload_n 0, 1) := by decide +kernel
theorem d_Mo_mark_74 : decode prog_10_method_26_code 74 = .ok (.getfield 55, 3) := by decide +kernel
theorem d_Mo_mark_77 : decode prog_10_method_26_code 77 = .ok (.iload_n 1, 1) := by decide +kernel
theorem d_Mo_mark_78 : decode prog_10_method_26_code 78 = .ok (.iaload, 1) := by decide +kernel
theorem d_Mo_mark_79 : decode prog_10_method_26_code 79 = .ok (.ifCond .lt 15, 3) := by decide +kernel
theorem d_Mo_mark_82 : decode prog_10_method_26_code 82 = .ok (.aload_n 0, 1) := by decide +kernel
theorem d_Mo_mark_83 : decode prog_10_method_26_code 83 = .ok (.getfield 61, 3) := by decide +kernel
theorem d_Mo_mark_86 : decode prog_10_method_26_code 86 = .ok (.aload_n 0, 1) := by decide +kernel
theorem d_Mo_mark_87 : decode prog_10_method_26_code 87 = .ok (.getfield 55, 3) := by decide +kernel
theorem d_Mo_mark_90 : decode prog_10_method_26_code 90 = .ok (.iload_n 1, 1) := by decide +kernel
theorem d_Mo_mark_91 : decode prog_10_method_26_code 91 = .ok (.iaload, 1) := by decide +kernel
theorem d_Mo_mark_92 : decode prog_10_method_26_code 92 = .ok (.iconst 1, 1) := by decide +kernel
theorem d_Mo_mark_93 : decode prog_10_method_26_code 93 = .ok (.bastore, 1) := by decide +kernel
theorem d_Mo_mark_94 : decode prog_10_method_26_code 94 = .ok (.iinc 1 (-1), 3) := by decide +kernel
theorem d_Mo_mark_97 : decode prog_10_method_26_code 97 = .ok (.goto (-69), 3) := by decide +kernel
theorem d_Mo_mark_100 : decode prog_10_method_26_code 100 = .ok (.return_, 1) := by decide +kernel
def tb_Mo_mark : List pm_I := [
  pm_const 1 0,
  pm_istore 2 1,
  pm_iload 3 1,
  pm_aload 4 0,
  pm_geti 5 8 17,
  pm_icmp 13 6 (fun a b => decide (b ≤ a)),
  pm_aload 7 0,
  pm_getr 8 8 21,
  pm_iload 9 1,
  pm_const 10 0,
  pm_zast 11,
  pm_iinc 12 1 1,
  pm_goto 2,
  pm_aload 14 0,
  pm_geti 15 8 17,
  pm_istore 16 1,
  pm_iload 17 1,
  pm_if 56 18 (fun a => decide (a < 0)),
  pm_iload 19 1,
  pm_aload 20 0,
  pm_geti 21 8 17,
  pm_icmp 28 22 (fun a b => decide (b ≤ a)),
  pm_aload 23 0,
  pm_getr 24 8 21,
  pm_iload 25 1,
  pm_iald 26 1,
  pm_if 28 27 (fun a => decide (a ≠ 0)),
  pm_goto 54,
  pm_aload 29 0,
  pm_getr 30 8 18,
  pm_iload 31 1,
  pm_iald 32 0,
  pm_if 41 33 (fun a => decide (a < 0)),
  pm_aload 34 0,
  pm_getr 35 8 21,
  pm_aload 36 0,
  pm_getr 37 8 18,
  pm_iload 38 1,
  pm_iald 39 0,
  pm_const 40 1,
  pm_zast 41,
  pm_aload 42 0,
  pm_getr 43 8 19,
  pm_iload 44 1,
  pm_iald 45 0,
  pm_if 54 46 (fun a => decide (a < 0)),
  pm_aload 47 0,
  pm_getr 48 8 21,
  pm_aload 49 0,
  pm_getr 50 8 19,
  pm_iload 51 1,
  pm_iald 52 0,
  pm_const 53 1,
  pm_zast 54,
  pm_iinc 55 1 (-1),
  pm_goto 16,
  pm_vret]
def bp_Mo_mark : List Nat := [0, 1, 2, 3, 4, 7, 10, 11, 14, 15, 16, 17, 20, 23, 24, 27, 28, 29, 32, 33, 34, 37, 40, 41, 44, 45, 46, 49, 52, 53, 56, 57, 58, 61, 62, 65, 66, 69, 70, 71, 72, 73, 74, 77, 78, 79, 82, 83, 86, 87, 90, 91, 92, 93, 94, 97, 100]
set_option maxRecDepth 100000 in
theorem sd_Mo_mark : pm_Sl prog_10_method_26_code 2 R_Mo "mark" (none) pm_Y (pm_b bp_Mo_mark) 0 tb_Mo_mark := by
  refine ⟨so_const1 d_Mo_mark_0 (by decide) rfl, ?_⟩
  refine ⟨so_istoren d_Mo_mark_1 rfl (by decide) rfl, ?_⟩
  refine ⟨so_iloadn d_Mo_mark_2 rfl rfl, ?_⟩
  refine ⟨so_aloadn d_Mo_mark_3 rfl rfl, ?_⟩
  refine ⟨so_geti (ci := 8) (k := 17) rfl (by decide) rfl rfl fl_Mo_123 d_Mo_mark_4 rfl, ?_⟩
  refine ⟨so_icmp_ge d_Mo_mark_7 rfl rfl, ?_⟩
  refine ⟨so_aloadn d_Mo_mark_10 rfl rfl, ?_⟩
  refine ⟨so_getr (ci := 8) (k := 21) rfl (by decide) rfl rfl fl_Mo_61 d_Mo_mark_11 rfl, ?_⟩
  refine ⟨so_iloadn d_Mo_mark_14 rfl rfl, ?_⟩
  refine ⟨so_const1 d_Mo_mark_15 (by decide) rfl, ?_⟩
  refine ⟨so_zast d_Mo_mark_16 rfl, ?_⟩
  refine ⟨so_iinc d_Mo_mark_17 (by decide) (by decide) rfl, ?_⟩
  refine ⟨so_goto d_Mo_mark_20 rfl, ?_⟩
  refine ⟨so_aloadn d_Mo_mark_23 rfl rfl, ?_⟩
  refine ⟨so_geti (ci := 8) (k := 17) rfl (by decide) rfl rfl fl_Mo_123 d_Mo_mark_24 rfl, ?_⟩
  refine ⟨so_istoren d_Mo_mark_27 rfl (by decide) rfl, ?_⟩
  refine ⟨so_iloadn d_Mo_mark_28 rfl rfl, ?_⟩
  refine ⟨so_if_lt d_Mo_mark_29 rfl rfl, ?_⟩
  refine ⟨so_iloadn d_Mo_mark_32 rfl rfl, ?_⟩
  refine ⟨so_aloadn d_Mo_mark_33 rfl rfl, ?_⟩
  refine ⟨so_geti (ci := 8) (k := 17) rfl (by decide) rfl rfl fl_Mo_123 d_Mo_mark_34 rfl, ?_⟩
  refine ⟨so_icmp_ge d_Mo_mark_37 rfl rfl, ?_⟩
  refine ⟨so_aloadn d_Mo_mark_40 rfl rfl, ?_⟩
  refine ⟨so_getr (ci := 8) (k := 21) rfl (by decide) rfl rfl fl_Mo_61 d_Mo_mark_41 rfl, ?_⟩
  refine ⟨so_iloadn d_Mo_mark_44 rfl rfl, ?_⟩
  refine ⟨so_zald d_Mo_mark_45 rfl, ?_⟩
  refine ⟨so_if_ne d_Mo_mark_46 rfl rfl, ?_⟩
  refine ⟨so_goto d_Mo_mark_49 rfl, ?_⟩
  refine ⟨so_aloadn d_Mo_mark_52 rfl rfl, ?_⟩
  refine ⟨so_getr (ci := 8) (k := 18) rfl (by decide) rfl rfl fl_Mo_52 d_Mo_mark_53 rfl, ?_⟩
  refine ⟨so_iloadn d_Mo_mark_56 rfl rfl, ?_⟩
  refine ⟨so_iald d_Mo_mark_57 rfl, ?_⟩
  refine ⟨so_if_lt d_Mo_mark_58 rfl rfl, ?_⟩
  refine ⟨so_aloadn d_Mo_mark_61 rfl rfl, ?_⟩
  refine ⟨so_getr (ci := 8) (k := 21) rfl (by decide) rfl rfl fl_Mo_61 d_Mo_mark_62 rfl, ?_⟩
  refine ⟨so_aloadn d_Mo_mark_65 rfl rfl, ?_⟩
  refine ⟨so_getr (ci := 8) (k := 18) rfl (by decide) rfl rfl fl_Mo_52 d_Mo_mark_66 rfl, ?_⟩
  refine ⟨so_iloadn d_Mo_mark_69 rfl rfl, ?_⟩
  refine ⟨so_iald d_Mo_mark_70 rfl, ?_⟩
  refine ⟨so_const1 d_Mo_mark_71 (by decide) rfl, ?_⟩
  refine ⟨so_zast d_Mo_mark_72 rfl, ?_⟩
  refine ⟨so_aloadn d_Mo_mark_73 rfl rfl, ?_⟩
  refine ⟨so_getr (ci := 8) (k := 19) rfl (by decide) rfl rfl fl_Mo_55 d_Mo_mark_74 rfl, ?_⟩
  refine ⟨so_iloadn d_Mo_mark_77 rfl rfl, ?_⟩
  refine ⟨so_iald d_Mo_mark_78 rfl, ?_⟩
  refine ⟨so_if_lt d_Mo_mark_79 rfl rfl, ?_⟩
  refine ⟨so_aloadn d_Mo_mark_82 rfl rfl, ?_⟩
  refine ⟨so_getr (ci := 8) (k := 21) rfl (by decide) rfl rfl fl_Mo_61 d_Mo_mark_83 rfl, ?_⟩
  refine ⟨so_aloadn d_Mo_mark_86 rfl rfl, ?_⟩
  refine ⟨so_getr (ci := 8) (k := 19) rfl (by decide) rfl rfl fl_Mo_55 d_Mo_mark_87 rfl, ?_⟩
  refine ⟨so_iloadn d_Mo_mark_90 rfl rfl, ?_⟩
  refine ⟨so_iald d_Mo_mark_91 rfl, ?_⟩
  refine ⟨so_const1 d_Mo_mark_92 (by decide) rfl, ?_⟩
  refine ⟨so_zast d_Mo_mark_93 rfl, ?_⟩
  refine ⟨so_iinc d_Mo_mark_94 (by decide) (by decide) rfl, ?_⟩
  refine ⟨so_goto d_Mo_mark_97 rfl, ?_⟩
  refine ⟨so_vret d_Mo_mark_100 rfl, ?_⟩
  exact trivial
theorem d_Mo_takes_0 : decode prog_10_method_24_code 0 = .ok (.aload_n 0, 1) := by decide +kernel
theorem d_Mo_takes_1 : decode prog_10_method_24_code 1 = .ok (.getfield 31, 3) := by decide +kernel
theorem d_Mo_takes_4 : decode prog_10_method_24_code 4 = .ok (.iload_n 2, 1) := by decide +kernel
theorem d_Mo_takes_5 : decode prog_10_method_24_code 5 = .ok (.iaload, 1) := by decide +kernel
theorem d_Mo_takes_6 : decode prog_10_method_24_code 6 = .ok (.ifCond .ne 18, 3) := by decide +kernel
theorem d_Mo_takes_9 : decode prog_10_method_24_code 9 = .ok (.aload_n 0, 1) := by decide +kernel
theorem d_Mo_takes_10 : decode prog_10_method_24_code 10 = .ok (.getfield 55, 3) := by decide +kernel
theorem d_Mo_takes_13 : decode prog_10_method_24_code 13 = .ok (.aload_n 0, 1) := by decide +kernel
theorem d_Mo_takes_14 : decode prog_10_method_24_code 14 = .ok (.getfield 123, 3) := by decide +kernel
theorem d_Mo_takes_17 : decode prog_10_method_24_code 17 = .ok (.aload_n 0, 1) := by decide +kernel
theorem d_Mo_takes_18 : decode prog_10_method_24_code 18 = .ok (.getfield 34, 3) := by decide +kernel
theorem d_Mo_takes_21 : decode prog_10_method_24_code 21 = .ok (.iload_n 2, 1) := by decide +kernel
theorem d_Mo_takes_22 : decode prog_10_method_24_code 22 = .ok (.iaload, 1) := by decide +kernel
theorem d_Mo_takes_23 : decode prog_10_method_24_code 23 = .ok (.iastore, 1) := by decide +kernel
theorem d_Mo_takes_24 : decode prog_10_method_24_code 24 = .ok (.aload_n 0, 1) := by decide +kernel
theorem d_Mo_takes_25 : decode prog_10_method_24_code 25 = .ok (.getfield 28, 3) := by decide +kernel
theorem d_Mo_takes_28 : decode prog_10_method_24_code 28 = .ok (.iload_n 2, 1) := by decide +kernel
theorem d_Mo_takes_29 : decode prog_10_method_24_code 29 = .ok (.iload_n 1, 1) := by decide +kernel
theorem d_Mo_takes_30 : decode prog_10_method_24_code 30 = .ok (.iastore, 1) := by decide +kernel
theorem d_Mo_takes_31 : decode prog_10_method_24_code 31 = .ok (.aload_n 0, 1) := by decide +kernel
theorem d_Mo_takes_32 : decode prog_10_method_24_code 32 = .ok (.getfield 31, 3) := by decide +kernel
theorem d_Mo_takes_35 : decode prog_10_method_24_code 35 = .ok (.iload_n 2, 1) := by decide +kernel
theorem d_Mo_takes_36 : decode prog_10_method_24_code 36 = .ok (.dup2, 1) := by decide +kernel
theorem d_Mo_takes_37 : decode prog_10_method_24_code 37 = .ok (.iaload, 1) := by decide +kernel
theorem d_Mo_takes_38 : decode prog_10_method_24_code 38 = .ok (.iconst 1, 1) := by decide +kernel
theorem d_Mo_takes_39 : decode prog_10_method_24_code 39 = .ok (.iadd, 1) := by decide +kernel
theorem d_Mo_takes_40 : decode prog_10_method_24_code 40 = .ok (.iastore, 1) := by decide +kernel
theorem d_Mo_takes_41 : decode prog_10_method_24_code 41 = .ok (.return_, 1) := by decide +kernel
def tb_Mo_takes : List pm_I := [
  pm_aload 1 0,
  pm_getr 2 8 9,
  pm_iload 3 2,
  pm_iald 4 0,
  pm_if 14 5 (fun a => decide (a ≠ 0)),
  pm_aload 6 0,
  pm_getr 7 8 19,
  pm_aload 8 0,
  pm_geti 9 8 17,
  pm_aload 10 0,
  pm_getr 11 8 10,
  pm_iload 12 2,
  pm_iald 13 0,
  pm_iast 14,
  pm_aload 15 0,
  pm_getr 16 8 8,
  pm_iload 17 2,
  pm_iload 18 1,
  pm_iast 19,
  pm_aload 20 0,
  pm_getr 21 8 9,
  pm_iload 22 2,
  pm_dup2 23,
  pm_iald 24 0,
  pm_const 25 1,
  pm_bin 26 (fun a b => a + b),
  pm_iast 27,
  pm_vret]
def bp_Mo_takes : List Nat := [0, 1, 4, 5, 6, 9, 10, 13, 14, 17, 18, 21, 22, 23, 24, 25, 28, 29, 30, 31, 32, 35, 36, 37, 38, 39, 40, 41]
set_option maxRecDepth 100000 in
theorem sd_Mo_takes : pm_Sl prog_10_method_24_code 3 R_Mo "takes" (none) pm_Y (pm_b bp_Mo_takes) 0 tb_Mo_takes := by
  refine ⟨so_aloadn d_Mo_takes_0 rfl rfl, ?_⟩
  refine ⟨so_getr (ci := 8) (k := 9) rfl (by decide) rfl rfl fl_Mo_31 d_Mo_takes_1 rfl, ?_⟩
  refine ⟨so_iloadn d_Mo_takes_4 rfl rfl, ?_⟩
  refine ⟨so_iald d_Mo_takes_5 rfl, ?_⟩
  refine ⟨so_if_ne d_Mo_takes_6 rfl rfl, ?_⟩
  refine ⟨so_aloadn d_Mo_takes_9 rfl rfl, ?_⟩
  refine ⟨so_getr (ci := 8) (k := 19) rfl (by decide) rfl rfl fl_Mo_55 d_Mo_takes_10 rfl, ?_⟩
  refine ⟨so_aloadn d_Mo_takes_13 rfl rfl, ?_⟩
  refine ⟨so_geti (ci := 8) (k := 17) rfl (by decide) rfl rfl fl_Mo_123 d_Mo_takes_14 rfl, ?_⟩
  refine ⟨so_aloadn d_Mo_takes_17 rfl rfl, ?_⟩
  refine ⟨so_getr (ci := 8) (k := 10) rfl (by decide) rfl rfl fl_Mo_34 d_Mo_takes_18 rfl, ?_⟩
  refine ⟨so_iloadn d_Mo_takes_21 rfl rfl, ?_⟩
  refine ⟨so_iald d_Mo_takes_22 rfl, ?_⟩
  refine ⟨so_iast d_Mo_takes_23 rfl, ?_⟩
  refine ⟨so_aloadn d_Mo_takes_24 rfl rfl, ?_⟩
  refine ⟨so_getr (ci := 8) (k := 8) rfl (by decide) rfl rfl fl_Mo_28 d_Mo_takes_25 rfl, ?_⟩
  refine ⟨so_iloadn d_Mo_takes_28 rfl rfl, ?_⟩
  refine ⟨so_iloadn d_Mo_takes_29 rfl rfl, ?_⟩
  refine ⟨so_iast d_Mo_takes_30 rfl, ?_⟩
  refine ⟨so_aloadn d_Mo_takes_31 rfl rfl, ?_⟩
  refine ⟨so_getr (ci := 8) (k := 9) rfl (by decide) rfl rfl fl_Mo_31 d_Mo_takes_32 rfl, ?_⟩
  refine ⟨so_iloadn d_Mo_takes_35 rfl rfl, ?_⟩
  refine ⟨so_dup2 d_Mo_takes_36 rfl, ?_⟩
  refine ⟨so_iald d_Mo_takes_37 rfl, ?_⟩
  refine ⟨so_const1 d_Mo_takes_38 (by decide) rfl, ?_⟩
  refine ⟨so_iadd d_Mo_takes_39 rfl, ?_⟩
  refine ⟨so_iast d_Mo_takes_40 rfl, ?_⟩
  refine ⟨so_vret d_Mo_takes_41 rfl, ?_⟩
  exact trivial
theorem d_Mo_ends_0 : decode prog_10_method_25_code 0 = .ok (.aload_n 0, 1) := by decide +kernel
theorem d_Mo_ends_1 : decode prog_10_method_25_code 1 = .ok (.iload_n 2, 1) := by decide +kernel
theorem d_Mo_ends_2 : decode prog_10_method_25_code 2 = .ok (.iload_n 3, 1) := by decide +kernel
theorem d_Mo_ends_3 : decode prog_10_method_25_code 3 = .ok (.invokevirtual 80, 3) := by decide +kernel
theorem d_Mo_ends_6 : decode prog_10_method_25_code 6 = .ok (.istore 4, 2) := by decide +kernel
theorem d_Mo_ends_8 : decode prog_10_method_25_code 8 = .ok (.aload_n 0, 1) := by decide +kernel
theorem d_Mo_ends_9 : decode prog_10_method_25_code 9 = .ok (.iload_n 2, 1) := by decide +kernel
theorem d_Mo_ends_10 : decode prog_10_method_25_code 10 = .ok (.iload 4, 2) := by decide +kernel
theorem d_Mo_ends_12 : decode prog_10_method_25_code 12 = .ok (.invokevirtual 72, 3) := by decide +kernel
theorem d_Mo_ends_15 : decode prog_10_method_25_code 15 = .ok (.bipush 8, 2) := by decide +kernel
theorem d_Mo_ends_17 : decode prog_10_method_25_code 17 = .ok (.if_icmp .ne 23, 3) := by decide +kernel
theorem d_Mo_ends_20 : decode prog_10_method_25_code 20 = .ok (.aload_n 0, 1) := by decide +kernel
theorem d_Mo_ends_21 : decode prog_10_method_25_code 21 = .ok (.getfield 46, 3) := by decide +kernel
theorem d_Mo_ends_24 : decode prog_10_method_25_code 24 = .ok (.bipush 8, 2) := by decide +kernel
theorem d_Mo_ends_26 : decode prog_10_method_25_code 26 = .ok (.iload_n 1, 1) := by decide +kernel
theorem d_Mo_ends_27 : decode prog_10_method_25_code 27 = .ok (.imul, 1) := by decide +kernel
theorem d_Mo_ends_28 : decode prog_10_method_25_code 28 = .ok (.aload_n 0, 1) := by decide +kernel
theorem d_Mo_ends_29 : decode prog_10_method_25_code 29 = .ok (.getfield 40, 3) := by decide +kernel
theorem d_Mo_ends_32 : decode prog_10_method_25_code 32 = .ok (.iload_n 1, 1) := by decide +kernel
theorem d_Mo_ends_33 : decode prog_10_method_25_code 33 = .ok (.iaload, 1) := by decide +kernel
theorem d_Mo_ends_34 : decode prog_10_method_25_code 34 = .ok (.iadd, 1) := by decide +kernel
theorem d_Mo_ends_35 : decode prog_10_method_25_code 35 = .ok (.iconst 1, 1) := by decide +kernel
theorem d_Mo_ends_36 : decode prog_10_method_25_code 36 = .ok (.isub, 1) := by decide +kernel
theorem d_Mo_ends_37 : decode prog_10_method_25_code 37 = .ok (.iload 4, 2) := by decide +kernel
theorem d_Mo_ends_39 : decode prog_10_method_25_code 39 = .ok (.iastore, 1) := by decide +kernel
theorem d_Mo_ends_40 : decode prog_10_method_25_code 40 = .ok (.aload_n 0, 1) := by decide +kernel
theorem d_Mo_ends_41 : decode prog_10_method_25_code 41 = .ok (.iload_n 2, 1) := by decide +kernel
theorem d_Mo_ends_42 : decode prog_10_method_25_code 42 = .ok (.iload 4, 2) := by decide +kernel
theorem d_Mo_ends_44 : decode prog_10_method_25_code 44 = .ok (.invokevirtual 72, 3) := by decide +kernel
theorem d_Mo_ends_47 : decode prog_10_method_25_code 47 = .ok (.iconst 4, 1) := by decide +kernel
theorem d_Mo_ends_48 : decode prog_10_method_25_code 48 = .ok (.if_icmp .eq 4, 3) := by decide +kernel
theorem d_Mo_ends_51 : decode prog_10_method_25_code 51 = .ok (.return_, 1) := by decide +kernel
theorem d_Mo_ends_52 : decode prog_10_method_25_code 52 = .ok (.aload_n 0, 1) := by decide +kernel
theorem d_Mo_ends_53 : decode prog_10_method_25_code 53 = .ok (.iload_n 2, 1) := by decide +kernel
theorem d_Mo_ends_54 : decode prog_10_method_25_code 54 = .ok (.iload 4, 2) := by decide +kernel
theorem d_Mo_ends_56 : decode prog_10_method_25_code 56 = .ok (.invokevirtual 95, 3) := by decide +kernel
theorem d_Mo_ends_59 : decode prog_10_method_25_code 59 = .ok (.istore 5, 2) := by decide +kernel
theorem d_Mo_ends_61 : decode prog_10_method_25_code 61 = .ok (.aload_n 0, 1) := by decide +kernel
theorem d_Mo_ends_62 : decode prog_10_method_25_code 62 = .ok (.getfield 31, 3) := by decide +kernel
theorem d_Mo_ends_65 : decode prog_10_method_25_code 65 = .ok (.iload 5, 2) := by decide +kernel
theorem d_Mo_ends_67 : decode prog_10_method_25_code 67 = .ok (.dup2, 1) := by decide +kernel
theorem d_Mo_ends_68 : decode prog_10_method_25_code 68 = .ok (.iaload, 1) := by decide +kernel
theorem d_Mo_ends_69 : decode prog_10_method_25_code 69 = .ok (.iconst 1, 1) := by decide +kernel
theorem d_Mo_ends_70 : decode prog_10_method_25_code 70 = .ok (.isub, 1) := by decide +kernel
theorem d_Mo_ends_71 : decode prog_10_method_25_code 71 = .ok (.iastore, 1) := by decide +kernel
theorem d_Mo_ends_72 : decode prog_10_method_25_code 72 = .ok (.aload_n 0, 1) := by decide +kernel
theorem d_Mo_ends_73 : decode prog_10_method_25_code 73 = .ok (.getfield 31, 3) := by decide +kernel
theorem d_Mo_ends_76 : decode prog_10_method_25_code 76 = .ok (.iload 5, 2) := by decide +kernel
theorem d_Mo_ends_78 : decode prog_10_method_25_code 78 = .ok (.iaload, 1) := by decide +kernel
theorem d_Mo_ends_79 : decode prog_10_method_25_code 79 = .ok (.ifCond .le 4, 3) := by decide +kernel
theorem d_Mo_ends_82 : decode prog_10_method_25_code 82 = .ok (.return_, 1) := by decide +kernel
theorem d_Mo_ends_83 : decode prog_10_method_25_code 83 = .ok (.aload_n 0, 1) := by decide +kernel
theorem d_Mo_ends_84 : decode prog_10_method_25_code 84 = .ok (.getfield 28, 3) := by decide +kernel
theorem d_Mo_ends_87 : decode prog_10_method_25_code 87 = .ok (.iload 5, 2) := by decide +kernel
theorem d_Mo_ends_89 : decode prog_10_method_25_code 89 = .ok (.iconst (-1), 1) := by decide +kernel
theorem d_Mo_ends_90 : decode prog_10_method_25_code 90 = .ok (.iastore, 1) := by decide +kernel
theorem d_Mo_ends_91 : decode prog_10_method_25_code 91 = .ok (.aload_n 0, 1) := by decide +kernel
theorem d_Mo_ends_92 : decode prog_10_method_25_code 92 = .ok (.getfield 34, 3) := by decide +kernel
theorem d_Mo_ends_95 : decode prog_10_method_25_code 95 = .ok (.iload 5, 2) := by decide +kernel
theorem d_Mo_ends_97 : decode prog_10_method_25_code 97 = .ok (.aload_n 0, 1) := by decide +kernel
theorem d_Mo_ends_98 : decode prog_10_method_25_code 98 = .ok (.getfield 123, 3) := by decide +kernel
theorem d_Mo_ends_101 : decode prog_10_method_25_code 101 = .ok (.iastore, 1) := by decide +kernel
theorem d_Mo_ends_102 : decode prog_10_method_25_code 102 = .ok (.return_, 1) := by decide +kernel
def tb_Mo_ends : List pm_I := [
  pm_aload 1 0,
  pm_iload 2 2,
  pm_iload 3 3,
  pm_callv 4 75 3 8,
  pm_istore 5 4,
  pm_aload 6 0,
  pm_iload 7 2,
  pm_iload 8 4,
  pm_callv 9 74 3 8,
  pm_const 10 8,
  pm_icmp 25 11 (fun a b => decide (a ≠ b)),
  pm_aload 12 0,
  pm_getr 13 8 15,
  pm_const 14 8,
  pm_iload 15 1,
  pm_bin 16 (fun a b => a * b),
  pm_aload 17 0,
  pm_getr 18 8 13,
  pm_iload 19 1,
  pm_iald 20 0,
  pm_bin 21 (fun a b => a + b),
  pm_const 22 1,
  pm_bin 23 (fun a b => a - b),
  pm_iload 24 4,
  pm_iast 25,
  pm_aload 26 0,
  pm_iload 27 2,
  pm_iload 28 4,
  pm_callv 29 74 3 8,
  pm_const 30 4,
  pm_icmp 32 31 (fun a b => decide (a = b)),
  pm_vret,
  pm_aload 33 0,
  pm_iload 34 2,
  pm_iload 35 4,
  pm_callv 36 78 3 8,
  pm_istore 37 5,
  pm_aload 38 0,
  pm_getr 39 8 9,
  pm_iload 40 5,
  pm_dup2 41,
  pm_iald 42 0,
  pm_const 43 1,
  pm_bin 44 (fun a b => a - b),
  pm_iast 45,
  pm_aload 46 0,
  pm_getr 47 8 9,
  pm_iload 48 5,
  pm_iald 49 0,
  pm_if 51 50 (fun a => decide (a ≤ 0)),
  pm_vret,
  pm_aload 52 0,
  pm_getr 53 8 8,
  pm_iload 54 5,
  pm_const 55 (-1),
  pm_iast 56,
  pm_aload 57 0,
  pm_getr 58 8 10,
  pm_iload 59 5,
  pm_aload 60 0,
  pm_geti 61 8 17,
  pm_iast 62,
  pm_vret]
def bp_Mo_ends : List Nat := [0, 1, 2, 3, 6, 8, 9, 10, 12, 15, 17, 20, 21, 24, 26, 27, 28, 29, 32, 33, 34, 35, 36, 37, 39, 40, 41, 42, 44, 47, 48, 51, 52, 53, 54, 56, 59, 61, 62, 65, 67, 68, 69, 70, 71, 72, 73, 76, 78, 79, 82, 83, 84, 87, 89, 90, 91, 92, 95, 97, 98, 101, 102]
set_option maxRecDepth 100000 in
theorem sd_Mo_ends : pm_Sl prog_10_method_25_code 6 R_Mo "ends" (none) pm_Y (pm_b bp_Mo_ends) 0 tb_Mo_ends := by
  refine ⟨so_aloadn d_Mo_ends_0 rfl rfl, ?_⟩
  refine ⟨so_iloadn d_Mo_ends_1 rfl rfl, ?_⟩
  refine ⟨so_iloadn d_Mo_ends_2 rfl rfl, ?_⟩
  refine ⟨so_callv (ci := 8) rfl rfl mc_Mo_openerOf mi_Mo mj_Mo_openerOf ms_Mo_openerOf ml_Mo_80 yd_Mo_openerOf (by decide) d_Mo_ends_3 rfl, ?_⟩
  refine ⟨so_istore d_Mo_ends_6 (by decide) rfl, ?_⟩
  refine ⟨so_aloadn d_Mo_ends_8 rfl rfl, ?_⟩
  refine ⟨so_iloadn d_Mo_ends_9 rfl rfl, ?_⟩
  refine ⟨so_iload d_Mo_ends_10 rfl, ?_⟩
  refine ⟨so_callv (ci := 8) rfl rfl mc_Mo_kindAt mi_Mo mj_Mo_kindAt ms_Mo_kindAt ml_Mo_72 yd_Mo_kindAt (by decide) d_Mo_ends_12 rfl, ?_⟩
  refine ⟨so_const2 d_Mo_ends_15 (by decide) rfl, ?_⟩
  refine ⟨so_icmp_ne d_Mo_ends_17 rfl rfl, ?_⟩
  refine ⟨so_aloadn d_Mo_ends_20 rfl rfl, ?_⟩
  refine ⟨so_getr (ci := 8) (k := 15) rfl (by decide) rfl rfl fl_Mo_46 d_Mo_ends_21 rfl, ?_⟩
  refine ⟨so_const2 d_Mo_ends_24 (by decide) rfl, ?_⟩
  refine ⟨so_iloadn d_Mo_ends_26 rfl rfl, ?_⟩
  refine ⟨so_imul d_Mo_ends_27 rfl, ?_⟩
  refine ⟨so_aloadn d_Mo_ends_28 rfl rfl, ?_⟩
  refine ⟨so_getr (ci := 8) (k := 13) rfl (by decide) rfl rfl fl_Mo_40 d_Mo_ends_29 rfl, ?_⟩
  refine ⟨so_iloadn d_Mo_ends_32 rfl rfl, ?_⟩
  refine ⟨so_iald d_Mo_ends_33 rfl, ?_⟩
  refine ⟨so_iadd d_Mo_ends_34 rfl, ?_⟩
  refine ⟨so_const1 d_Mo_ends_35 (by decide) rfl, ?_⟩
  refine ⟨so_isub d_Mo_ends_36 rfl, ?_⟩
  refine ⟨so_iload d_Mo_ends_37 rfl, ?_⟩
  refine ⟨so_iast d_Mo_ends_39 rfl, ?_⟩
  refine ⟨so_aloadn d_Mo_ends_40 rfl rfl, ?_⟩
  refine ⟨so_iloadn d_Mo_ends_41 rfl rfl, ?_⟩
  refine ⟨so_iload d_Mo_ends_42 rfl, ?_⟩
  refine ⟨so_callv (ci := 8) rfl rfl mc_Mo_kindAt mi_Mo mj_Mo_kindAt ms_Mo_kindAt ml_Mo_72 yd_Mo_kindAt (by decide) d_Mo_ends_44 rfl, ?_⟩
  refine ⟨so_const1 d_Mo_ends_47 (by decide) rfl, ?_⟩
  refine ⟨so_icmp_eq d_Mo_ends_48 rfl rfl, ?_⟩
  refine ⟨so_vret d_Mo_ends_51 rfl, ?_⟩
  refine ⟨so_aloadn d_Mo_ends_52 rfl rfl, ?_⟩
  refine ⟨so_iloadn d_Mo_ends_53 rfl rfl, ?_⟩
  refine ⟨so_iload d_Mo_ends_54 rfl, ?_⟩
  refine ⟨so_callv (ci := 8) rfl rfl mc_Mo_numberAt mi_Mo mj_Mo_numberAt ms_Mo_numberAt ml_Mo_95 yd_Mo_numberAt (by decide) d_Mo_ends_56 rfl, ?_⟩
  refine ⟨so_istore d_Mo_ends_59 (by decide) rfl, ?_⟩
  refine ⟨so_aloadn d_Mo_ends_61 rfl rfl, ?_⟩
  refine ⟨so_getr (ci := 8) (k := 9) rfl (by decide) rfl rfl fl_Mo_31 d_Mo_ends_62 rfl, ?_⟩
  refine ⟨so_iload d_Mo_ends_65 rfl, ?_⟩
  refine ⟨so_dup2 d_Mo_ends_67 rfl, ?_⟩
  refine ⟨so_iald d_Mo_ends_68 rfl, ?_⟩
  refine ⟨so_const1 d_Mo_ends_69 (by decide) rfl, ?_⟩
  refine ⟨so_isub d_Mo_ends_70 rfl, ?_⟩
  refine ⟨so_iast d_Mo_ends_71 rfl, ?_⟩
  refine ⟨so_aloadn d_Mo_ends_72 rfl rfl, ?_⟩
  refine ⟨so_getr (ci := 8) (k := 9) rfl (by decide) rfl rfl fl_Mo_31 d_Mo_ends_73 rfl, ?_⟩
  refine ⟨so_iload d_Mo_ends_76 rfl, ?_⟩
  refine ⟨so_iald d_Mo_ends_78 rfl, ?_⟩
  refine ⟨so_if_le d_Mo_ends_79 rfl rfl, ?_⟩
  refine ⟨so_vret d_Mo_ends_82 rfl, ?_⟩
  refine ⟨so_aloadn d_Mo_ends_83 rfl rfl, ?_⟩
  refine ⟨so_getr (ci := 8) (k := 8) rfl (by decide) rfl rfl fl_Mo_28 d_Mo_ends_84 rfl, ?_⟩
  refine ⟨so_iload d_Mo_ends_87 rfl, ?_⟩
  refine ⟨so_const1 d_Mo_ends_89 (by decide) rfl, ?_⟩
  refine ⟨so_iast d_Mo_ends_90 rfl, ?_⟩
  refine ⟨so_aloadn d_Mo_ends_91 rfl rfl, ?_⟩
  refine ⟨so_getr (ci := 8) (k := 10) rfl (by decide) rfl rfl fl_Mo_34 d_Mo_ends_92 rfl, ?_⟩
  refine ⟨so_iload d_Mo_ends_95 rfl, ?_⟩
  refine ⟨so_aloadn d_Mo_ends_97 rfl rfl, ?_⟩
  refine ⟨so_geti (ci := 8) (k := 17) rfl (by decide) rfl rfl fl_Mo_123 d_Mo_ends_98 rfl, ?_⟩
  refine ⟨so_iast d_Mo_ends_101 rfl, ?_⟩
  refine ⟨so_vret d_Mo_ends_102 rfl, ?_⟩
  exact trivial
theorem d_Mo_has_0 : decode prog_10_method_28_code 0 = .ok (.aload_n 0, 1) := by decide +kernel
theorem d_Mo_has_1 : decode prog_10_method_28_code 1 = .ok (.iload_n 1, 1) := by decide +kernel
theorem d_Mo_has_2 : decode prog_10_method_28_code 2 = .ok (.invokevirtual 133, 3) := by decide +kernel
theorem d_Mo_has_5 : decode prog_10_method_28_code 5 = .ok (.ifCond .eq 12, 3) := by decide +kernel
theorem d_Mo_has_8 : decode prog_10_method_28_code 8 = .ok (.aload_n 0, 1) := by decide +kernel
theorem d_Mo_has_9 : decode prog_10_method_28_code 9 = .ok (.getfield 37, 3) := by decide +kernel
theorem d_Mo_has_12 : decode prog_10_method_28_code 12 = .ok (.iload_n 1, 1) := by decide +kernel
theorem d_Mo_has_13 : decode prog_10_method_28_code 13 = .ok (.iaload, 1) := by decide +kernel
theorem d_Mo_has_14 : decode prog_10_method_28_code 14 = .ok (.goto 4, 3) := by decide +kernel
theorem d_Mo_has_17 : decode prog_10_method_28_code 17 = .ok (.iconst 0, 1) := by decide +kernel
theorem d_Mo_has_18 : decode prog_10_method_28_code 18 = .ok (.ireturn, 1) := by decide +kernel
def tb_Mo_has : List pm_I := [
  pm_aload 1 0,
  pm_iload 2 1,
  pm_callv 3 89 2 8,
  pm_if 9 4 (fun a => decide (a = 0)),
  pm_aload 5 0,
  pm_getr 6 8 12,
  pm_iload 7 1,
  pm_iald 8 0,
  pm_goto 10,
  pm_const 10 0,
  pm_iret]
def bp_Mo_has : List Nat := [0, 1, 2, 5, 8, 9, 12, 13, 14, 17, 18]
set_option maxRecDepth 100000 in
theorem sd_Mo_has : pm_Sl prog_10_method_28_code 2 R_Mo "has" (some .int) pm_Y (pm_b bp_Mo_has) 0 tb_Mo_has := by
  refine ⟨so_aloadn d_Mo_has_0 rfl rfl, ?_⟩
  refine ⟨so_iloadn d_Mo_has_1 rfl rfl, ?_⟩
  refine ⟨so_callv (ci := 8) rfl rfl mc_Mo_isThread mi_Mo mj_Mo_isThread ms_Mo_isThread ml_Mo_133 yd_Mo_isThread (by decide) d_Mo_has_2 rfl, ?_⟩
  refine ⟨so_if_eq d_Mo_has_5 rfl rfl, ?_⟩
  refine ⟨so_aloadn d_Mo_has_8 rfl rfl, ?_⟩
  refine ⟨so_getr (ci := 8) (k := 12) rfl (by decide) rfl rfl fl_Mo_37 d_Mo_has_9 rfl, ?_⟩
  refine ⟨so_iloadn d_Mo_has_12 rfl rfl, ?_⟩
  refine ⟨so_iald d_Mo_has_13 rfl, ?_⟩
  refine ⟨so_goto d_Mo_has_14 rfl, ?_⟩
  refine ⟨so_const1 d_Mo_has_17 (by decide) rfl, ?_⟩
  refine ⟨so_iret d_Mo_has_18 rfl, ?_⟩
  exact trivial
theorem d_Mo_cell_0 : decode prog_10_method_29_code 0 = .ok (.aload_n 0, 1) := by decide +kernel
theorem d_Mo_cell_1 : decode prog_10_method_29_code 1 = .ok (.getfield 119, 3) := by decide +kernel
theorem d_Mo_cell_4 : decode prog_10_method_29_code 4 = .ok (.ifCond .eq 21, 3) := by decide +kernel
theorem d_Mo_cell_7 : decode prog_10_method_29_code 7 = .ok (.iload_n 1, 1) := by decide +kernel
theorem d_Mo_cell_8 : decode prog_10_method_29_code 8 = .ok (.bipush 8, 2) := by decide +kernel
theorem d_Mo_cell_10 : decode prog_10_method_29_code 10 = .ok (.invokestatic 68, 3) := by decide +kernel
theorem d_Mo_cell_13 : decode prog_10_method_29_code 13 = .ok (.ifCond .eq 12, 3) := by decide +kernel
theorem d_Mo_cell_16 : decode prog_10_method_29_code 16 = .ok (.aload_n 0, 1) := by decide +kernel
theorem d_Mo_cell_17 : decode prog_10_method_29_code 17 = .ok (.getfield 25, 3) := by decide +kernel
theorem d_Mo_cell_20 : decode prog_10_method_29_code 20 = .ok (.iload_n 1, 1) := by decide +kernel
theorem d_Mo_cell_21 : decode prog_10_method_29_code 21 = .ok (.iaload, 1) := by decide +kernel
theorem d_Mo_cell_22 : decode prog_10_method_29_code 22 = .ok (.goto 4, 3) := by decide +kernel
theorem d_Mo_cell_25 : decode prog_10_method_29_code 25 = .ok (.iconst 0, 1) := by decide +kernel
theorem d_Mo_cell_26 : decode prog_10_method_29_code 26 = .ok (.ireturn, 1) := by decide +kernel
def tb_Mo_cell : List pm_I := [
  pm_aload 1 0,
  pm_geti 2 8 6,
  pm_if 12 3 (fun a => decide (a = 0)),
  pm_iload 4 1,
  pm_const 5 8,
  pm_calls 6 71 2,
  pm_if 12 7 (fun a => decide (a = 0)),
  pm_aload 8 0,
  pm_getr 9 8 7,
  pm_iload 10 1,
  pm_iald 11 0,
  pm_goto 13,
  pm_const 13 0,
  pm_iret]
def bp_Mo_cell : List Nat := [0, 1, 4, 7, 8, 10, 13, 16, 17, 20, 21, 22, 25, 26]
set_option maxRecDepth 100000 in
theorem sd_Mo_cell : pm_Sl prog_10_method_29_code 2 R_Mo "cell" (some .int) pm_Y (pm_b bp_Mo_cell) 0 tb_Mo_cell := by
  refine ⟨so_aloadn d_Mo_cell_0 rfl rfl, ?_⟩
  refine ⟨so_geti (ci := 8) (k := 6) rfl (by decide) rfl rfl fl_Mo_119 d_Mo_cell_1 rfl, ?_⟩
  refine ⟨so_if_eq d_Mo_cell_4 rfl rfl, ?_⟩
  refine ⟨so_iloadn d_Mo_cell_7 rfl rfl, ?_⟩
  refine ⟨so_const2 d_Mo_cell_8 (by decide) rfl, ?_⟩
  refine ⟨so_calls rfl mc_Mo_isIn mi_Mo mt_Mo_isIn ml_Mo_68 yd_Mo_isIn (by decide) d_Mo_cell_10 rfl, ?_⟩
  refine ⟨so_if_eq d_Mo_cell_13 rfl rfl, ?_⟩
  refine ⟨so_aloadn d_Mo_cell_16 rfl rfl, ?_⟩
  refine ⟨so_getr (ci := 8) (k := 7) rfl (by decide) rfl rfl fl_Mo_25 d_Mo_cell_17 rfl, ?_⟩
  refine ⟨so_iloadn d_Mo_cell_20 rfl rfl, ?_⟩
  refine ⟨so_iald d_Mo_cell_21 rfl, ?_⟩
  refine ⟨so_goto d_Mo_cell_22 rfl, ?_⟩
  refine ⟨so_const1 d_Mo_cell_25 (by decide) rfl, ?_⟩
  refine ⟨so_iret d_Mo_cell_26 rfl, ?_⟩
  exact trivial
theorem d_Mo_holder_0 : decode prog_10_method_30_code 0 = .ok (.aload_n 0, 1) := by decide +kernel
theorem d_Mo_holder_1 : decode prog_10_method_30_code 1 = .ok (.getfield 119, 3) := by decide +kernel
theorem d_Mo_holder_4 : decode prog_10_method_30_code 4 = .ok (.ifCond .eq 20, 3) := by decide +kernel
theorem d_Mo_holder_7 : decode prog_10_method_30_code 7 = .ok (.iload_n 1, 1) := by decide +kernel
theorem d_Mo_holder_8 : decode prog_10_method_30_code 8 = .ok (.iconst 4, 1) := by decide +kernel
theorem d_Mo_holder_9 : decode prog_10_method_30_code 9 = .ok (.invokestatic 68, 3) := by decide +kernel
theorem d_Mo_holder_12 : decode prog_10_method_30_code 12 = .ok (.ifCond .eq 12, 3) := by decide +kernel
theorem d_Mo_holder_15 : decode prog_10_method_30_code 15 = .ok (.aload_n 0, 1) := by decide +kernel
theorem d_Mo_holder_16 : decode prog_10_method_30_code 16 = .ok (.getfield 28, 3) := by decide +kernel
theorem d_Mo_holder_19 : decode prog_10_method_30_code 19 = .ok (.iload_n 1, 1) := by decide +kernel
theorem d_Mo_holder_20 : decode prog_10_method_30_code 20 = .ok (.iaload, 1) := by decide +kernel
theorem d_Mo_holder_21 : decode prog_10_method_30_code 21 = .ok (.goto 4, 3) := by decide +kernel
theorem d_Mo_holder_24 : decode prog_10_method_30_code 24 = .ok (.iconst (-1), 1) := by decide +kernel
theorem d_Mo_holder_25 : decode prog_10_method_30_code 25 = .ok (.ireturn, 1) := by decide +kernel
def tb_Mo_holder : List pm_I := [
  pm_aload 1 0,
  pm_geti 2 8 6,
  pm_if 12 3 (fun a => decide (a = 0)),
  pm_iload 4 1,
  pm_const 5 4,
  pm_calls 6 71 2,
  pm_if 12 7 (fun a => decide (a = 0)),
  pm_aload 8 0,
  pm_getr 9 8 8,
  pm_iload 10 1,
  pm_iald 11 0,
  pm_goto 13,
  pm_const 13 (-1),
  pm_iret]
def bp_Mo_holder : List Nat := [0, 1, 4, 7, 8, 9, 12, 15, 16, 19, 20, 21, 24, 25]
set_option maxRecDepth 100000 in
theorem sd_Mo_holder : pm_Sl prog_10_method_30_code 2 R_Mo "holder" (some .int) pm_Y (pm_b bp_Mo_holder) 0 tb_Mo_holder := by
  refine ⟨so_aloadn d_Mo_holder_0 rfl rfl, ?_⟩
  refine ⟨so_geti (ci := 8) (k := 6) rfl (by decide) rfl rfl fl_Mo_119 d_Mo_holder_1 rfl, ?_⟩
  refine ⟨so_if_eq d_Mo_holder_4 rfl rfl, ?_⟩
  refine ⟨so_iloadn d_Mo_holder_7 rfl rfl, ?_⟩
  refine ⟨so_const1 d_Mo_holder_8 (by decide) rfl, ?_⟩
  refine ⟨so_calls rfl mc_Mo_isIn mi_Mo mt_Mo_isIn ml_Mo_68 yd_Mo_isIn (by decide) d_Mo_holder_9 rfl, ?_⟩
  refine ⟨so_if_eq d_Mo_holder_12 rfl rfl, ?_⟩
  refine ⟨so_aloadn d_Mo_holder_15 rfl rfl, ?_⟩
  refine ⟨so_getr (ci := 8) (k := 8) rfl (by decide) rfl rfl fl_Mo_28 d_Mo_holder_16 rfl, ?_⟩
  refine ⟨so_iloadn d_Mo_holder_19 rfl rfl, ?_⟩
  refine ⟨so_iald d_Mo_holder_20 rfl, ?_⟩
  refine ⟨so_goto d_Mo_holder_21 rfl, ?_⟩
  refine ⟨so_const1 d_Mo_holder_24 (by decide) rfl, ?_⟩
  refine ⟨so_iret d_Mo_holder_25 rfl, ?_⟩
  exact trivial
theorem d_Mo_state_0 : decode prog_10_method_31_code 0 = .ok (.aload_n 0, 1) := by decide +kernel
theorem d_Mo_state_1 : decode prog_10_method_31_code 1 = .ok (.iload_n 1, 1) := by decide +kernel
theorem d_Mo_state_2 : decode prog_10_method_31_code 2 = .ok (.invokevirtual 133, 3) := by decide +kernel
theorem d_Mo_state_5 : decode prog_10_method_31_code 5 = .ok (.ifCond .ne 7, 3) := by decide +kernel
theorem d_Mo_state_8 : decode prog_10_method_31_code 8 = .ok (.iconst (-1), 1) := by decide +kernel
theorem d_Mo_state_9 : decode prog_10_method_31_code 9 = .ok (.goto 29, 3) := by decide +kernel
theorem d_Mo_state_12 : decode prog_10_method_31_code 12 = .ok (.aload_n 0, 1) := by decide +kernel
theorem d_Mo_state_13 : decode prog_10_method_31_code 13 = .ok (.getfield 40, 3) := by decide +kernel
theorem d_Mo_state_16 : decode prog_10_method_31_code 16 = .ok (.iload_n 1, 1) := by decide +kernel
theorem d_Mo_state_17 : decode prog_10_method_31_code 17 = .ok (.iaload, 1) := by decide +kernel
theorem d_Mo_state_18 : decode prog_10_method_31_code 18 = .ok (.ifCond .ne 7, 3) := by decide +kernel
theorem d_Mo_state_21 : decode prog_10_method_31_code 21 = .ok (.iconst 2, 1) := by decide +kernel
theorem d_Mo_state_22 : decode prog_10_method_31_code 22 = .ok (.goto 16, 3) := by decide +kernel
theorem d_Mo_state_25 : decode prog_10_method_31_code 25 = .ok (.aload_n 0, 1) := by decide +kernel
theorem d_Mo_state_26 : decode prog_10_method_31_code 26 = .ok (.iload_n 1, 1) := by decide +kernel
theorem d_Mo_state_27 : decode prog_10_method_31_code 27 = .ok (.invokevirtual 136, 3) := by decide +kernel
theorem d_Mo_state_30 : decode prog_10_method_31_code 30 = .ok (.ifCond .lt 7, 3) := by decide +kernel
theorem d_Mo_state_33 : decode prog_10_method_31_code 33 = .ok (.iconst 1, 1) := by decide +kernel
theorem d_Mo_state_34 : decode prog_10_method_31_code 34 = .ok (.goto 4, 3) := by decide +kernel
theorem d_Mo_state_37 : decode prog_10_method_31_code 37 = .ok (.iconst 0, 1) := by decide +kernel
theorem d_Mo_state_38 : decode prog_10_method_31_code 38 = .ok (.ireturn, 1) := by decide +kernel
def tb_Mo_state : List pm_I := [
  pm_aload 1 0,
  pm_iload 2 1,
  pm_callv 3 89 2 8,
  pm_if 6 4 (fun a => decide (a ≠ 0)),
  pm_const 5 (-1),
  pm_goto 20,
  pm_aload 7 0,
  pm_getr 8 8 13,
  pm_iload 9 1,
  pm_iald 10 0,
  pm_if 13 11 (fun a => decide (a ≠ 0)),
  pm_const 12 2,
  pm_goto 20,
  pm_aload 14 0,
  pm_iload 15 1,
  pm_callv 16 90 2 8,
  pm_if 19 17 (fun a => decide (a < 0)),
  pm_const 18 1,
  pm_goto 20,
  pm_const 20 0,
  pm_iret]
def bp_Mo_state : List Nat := [0, 1, 2, 5, 8, 9, 12, 13, 16, 17, 18, 21, 22, 25, 26, 27, 30, 33, 34, 37, 38]
set_option maxRecDepth 100000 in
theorem sd_Mo_state : pm_Sl prog_10_method_31_code 2 R_Mo "state" (some .int) pm_Y (pm_b bp_Mo_state) 0 tb_Mo_state := by
  refine ⟨so_aloadn d_Mo_state_0 rfl rfl, ?_⟩
  refine ⟨so_iloadn d_Mo_state_1 rfl rfl, ?_⟩
  refine ⟨so_callv (ci := 8) rfl rfl mc_Mo_isThread mi_Mo mj_Mo_isThread ms_Mo_isThread ml_Mo_133 yd_Mo_isThread (by decide) d_Mo_state_2 rfl, ?_⟩
  refine ⟨so_if_ne d_Mo_state_5 rfl rfl, ?_⟩
  refine ⟨so_const1 d_Mo_state_8 (by decide) rfl, ?_⟩
  refine ⟨so_goto d_Mo_state_9 rfl, ?_⟩
  refine ⟨so_aloadn d_Mo_state_12 rfl rfl, ?_⟩
  refine ⟨so_getr (ci := 8) (k := 13) rfl (by decide) rfl rfl fl_Mo_40 d_Mo_state_13 rfl, ?_⟩
  refine ⟨so_iloadn d_Mo_state_16 rfl rfl, ?_⟩
  refine ⟨so_iald d_Mo_state_17 rfl, ?_⟩
  refine ⟨so_if_ne d_Mo_state_18 rfl rfl, ?_⟩
  refine ⟨so_const1 d_Mo_state_21 (by decide) rfl, ?_⟩
  refine ⟨so_goto d_Mo_state_22 rfl, ?_⟩
  refine ⟨so_aloadn d_Mo_state_25 rfl rfl, ?_⟩
  refine ⟨so_iloadn d_Mo_state_26 rfl rfl, ?_⟩
  refine ⟨so_callv (ci := 8) rfl rfl mc_Mo_waitsFor mi_Mo mj_Mo_waitsFor ms_Mo_waitsFor ml_Mo_136 yd_Mo_waitsFor (by decide) d_Mo_state_27 rfl, ?_⟩
  refine ⟨so_if_lt d_Mo_state_30 rfl rfl, ?_⟩
  refine ⟨so_const1 d_Mo_state_33 (by decide) rfl, ?_⟩
  refine ⟨so_goto d_Mo_state_34 rfl, ?_⟩
  refine ⟨so_const1 d_Mo_state_37 (by decide) rfl, ?_⟩
  refine ⟨so_iret d_Mo_state_38 rfl, ?_⟩
  exact trivial
theorem d_Mo_count_0 : decode prog_10_method_32_code 0 = .ok (.aload_n 0, 1) := by decide +kernel
theorem d_Mo_count_1 : decode prog_10_method_32_code 1 = .ok (.getfield 119, 3) := by decide +kernel
theorem d_Mo_count_4 : decode prog_10_method_32_code 4 = .ok (.ifCond .ne 7, 3) := by decide +kernel
theorem d_Mo_count_7 : decode prog_10_method_32_code 7 = .ok (.iconst (-1), 1) := by decide +kernel
theorem d_Mo_count_8 : decode prog_10_method_32_code 8 = .ok (.goto 39, 3) := by decide +kernel
theorem d_Mo_count_11 : decode prog_10_method_32_code 11 = .ok (.iload_n 1, 1) := by decide +kernel
theorem d_Mo_count_12 : decode prog_10_method_32_code 12 = .ok (.ifCond .ne 10, 3) := by decide +kernel
theorem d_Mo_count_15 : decode prog_10_method_32_code 15 = .ok (.aload_n 0, 1) := by decide +kernel
theorem d_Mo_count_16 : decode prog_10_method_32_code 16 = .ok (.getfield 108, 3) := by decide +kernel
theorem d_Mo_count_19 : decode prog_10_method_32_code 19 = .ok (.goto 28, 3) := by decide +kernel
theorem d_Mo_count_22 : decode prog_10_method_32_code 22 = .ok (.iload_n 1, 1) := by decide +kernel
theorem d_Mo_count_23 : decode prog_10_method_32_code 23 = .ok (.iconst 1, 1) := by decide +kernel
theorem d_Mo_count_24 : decode prog_10_method_32_code 24 = .ok (.if_icmp .ne 10, 3) := by decide +kernel
theorem d_Mo_count_27 : decode prog_10_method_32_code 27 = .ok (.aload_n 0, 1) := by decide +kernel
theorem d_Mo_count_28 : decode prog_10_method_32_code 28 = .ok (.getfield 123, 3) := by decide +kernel
theorem d_Mo_count_31 : decode prog_10_method_32_code 31 = .ok (.goto 16, 3) := by decide +kernel
theorem d_Mo_count_34 : decode prog_10_method_32_code 34 = .ok (.iload_n 1, 1) := by decide +kernel
theorem d_Mo_count_35 : decode prog_10_method_32_code 35 = .ok (.iconst 2, 1) := by decide +kernel
theorem d_Mo_count_36 : decode prog_10_method_32_code 36 = .ok (.if_icmp .ne 10, 3) := by decide +kernel
theorem d_Mo_count_39 : decode prog_10_method_32_code 39 = .ok (.aload_n 0, 1) := by decide +kernel
theorem d_Mo_count_40 : decode prog_10_method_32_code 40 = .ok (.getfield 126, 3) := by decide +kernel
theorem d_Mo_count_43 : decode prog_10_method_32_code 43 = .ok (.goto 4, 3) := by decide +kernel
theorem d_Mo_count_46 : decode prog_10_method_32_code 46 = .ok (.iconst (-1), 1) := by decide +kernel
theorem d_Mo_count_47 : decode prog_10_method_32_code 47 = .ok (.ireturn, 1) := by decide +kernel
def tb_Mo_count : List pm_I := [
  pm_aload 1 0,
  pm_geti 2 8 6,
  pm_if 5 3 (fun a => decide (a ≠ 0)),
  pm_const 4 (-1),
  pm_goto 23,
  pm_iload 6 1,
  pm_if 10 7 (fun a => decide (a ≠ 0)),
  pm_aload 8 0,
  pm_geti 9 8 11,
  pm_goto 23,
  pm_iload 11 1,
  pm_const 12 1,
  pm_icmp 16 13 (fun a b => decide (a ≠ b)),
  pm_aload 14 0,
  pm_geti 15 8 17,
  pm_goto 23,
  pm_iload 17 1,
  pm_const 18 2,
  pm_icmp 22 19 (fun a b => decide (a ≠ b)),
  pm_aload 20 0,
  pm_geti 21 8 22,
  pm_goto 23,
  pm_const 23 (-1),
  pm_iret]
def bp_Mo_count : List Nat := [0, 1, 4, 7, 8, 11, 12, 15, 16, 19, 22, 23, 24, 27, 28, 31, 34, 35, 36, 39, 40, 43, 46, 47]
set_option maxRecDepth 100000 in
theorem sd_Mo_count : pm_Sl prog_10_method_32_code 2 R_Mo "count" (some .int) pm_Y (pm_b bp_Mo_count) 0 tb_Mo_count := by
  refine ⟨so_aloadn d_Mo_count_0 rfl rfl, ?_⟩
  refine ⟨so_geti (ci := 8) (k := 6) rfl (by decide) rfl rfl fl_Mo_119 d_Mo_count_1 rfl, ?_⟩
  refine ⟨so_if_ne d_Mo_count_4 rfl rfl, ?_⟩
  refine ⟨so_const1 d_Mo_count_7 (by decide) rfl, ?_⟩
  refine ⟨so_goto d_Mo_count_8 rfl, ?_⟩
  refine ⟨so_iloadn d_Mo_count_11 rfl rfl, ?_⟩
  refine ⟨so_if_ne d_Mo_count_12 rfl rfl, ?_⟩
  refine ⟨so_aloadn d_Mo_count_15 rfl rfl, ?_⟩
  refine ⟨so_geti (ci := 8) (k := 11) rfl (by decide) rfl rfl fl_Mo_108 d_Mo_count_16 rfl, ?_⟩
  refine ⟨so_goto d_Mo_count_19 rfl, ?_⟩
  refine ⟨so_iloadn d_Mo_count_22 rfl rfl, ?_⟩
  refine ⟨so_const1 d_Mo_count_23 (by decide) rfl, ?_⟩
  refine ⟨so_icmp_ne d_Mo_count_24 rfl rfl, ?_⟩
  refine ⟨so_aloadn d_Mo_count_27 rfl rfl, ?_⟩
  refine ⟨so_geti (ci := 8) (k := 17) rfl (by decide) rfl rfl fl_Mo_123 d_Mo_count_28 rfl, ?_⟩
  refine ⟨so_goto d_Mo_count_31 rfl, ?_⟩
  refine ⟨so_iloadn d_Mo_count_34 rfl rfl, ?_⟩
  refine ⟨so_const1 d_Mo_count_35 (by decide) rfl, ?_⟩
  refine ⟨so_icmp_ne d_Mo_count_36 rfl rfl, ?_⟩
  refine ⟨so_aloadn d_Mo_count_39 rfl rfl, ?_⟩
  refine ⟨so_geti (ci := 8) (k := 22) rfl (by decide) rfl rfl fl_Mo_126 d_Mo_count_40 rfl, ?_⟩
  refine ⟨so_goto d_Mo_count_43 rfl, ?_⟩
  refine ⟨so_const1 d_Mo_count_46 (by decide) rfl, ?_⟩
  refine ⟨so_iret d_Mo_count_47 rfl, ?_⟩
  exact trivial
theorem d_Mo_race_0 : decode prog_10_method_33_code 0 = .ok (.aload_n 0, 1) := by decide +kernel
theorem d_Mo_race_1 : decode prog_10_method_33_code 1 = .ok (.getfield 119, 3) := by decide +kernel
theorem d_Mo_race_4 : decode prog_10_method_33_code 4 = .ok (.ifCond .eq 21, 3) := by decide +kernel
theorem d_Mo_race_7 : decode prog_10_method_33_code 7 = .ok (.iload_n 1, 1) := by decide +kernel
theorem d_Mo_race_8 : decode prog_10_method_33_code 8 = .ok (.ifCond .lt 17, 3) := by decide +kernel
theorem d_Mo_race_11 : decode prog_10_method_33_code 11 = .ok (.iload_n 1, 1) := by decide +kernel
theorem d_Mo_race_12 : decode prog_10_method_33_code 12 = .ok (.aload_n 0, 1) := by decide +kernel
theorem d_Mo_race_13 : decode prog_10_method_33_code 13 = .ok (.getfield 126, 3) := by decide +kernel
theorem d_Mo_race_16 : decode prog_10_method_33_code 16 = .ok (.if_icmp .ge 9, 3) := by decide +kernel
theorem d_Mo_race_19 : decode prog_10_method_33_code 19 = .ok (.iload_n 1, 1) := by decide +kernel
theorem d_Mo_race_20 : decode prog_10_method_33_code 20 = .ok (.bipush 64, 2) := by decide +kernel
theorem d_Mo_race_22 : decode prog_10_method_33_code 22 = .ok (.if_icmp .lt 5, 3) := by decide +kernel
theorem d_Mo_race_25 : decode prog_10_method_33_code 25 = .ok (.iconst (-1), 1) := by decide +kernel
theorem d_Mo_race_26 : decode prog_10_method_33_code 26 = .ok (.ireturn, 1) := by decide +kernel
theorem d_Mo_race_27 : decode prog_10_method_33_code 27 = .ok (.aload_n 0, 1) := by decide +kernel
theorem d_Mo_race_28 : decode prog_10_method_33_code 28 = .ok (.getfield 65, 3) := by decide +kernel
theorem d_Mo_race_31 : decode prog_10_method_33_code 31 = .ok (.iload_n 1, 1) := by decide +kernel
theorem d_Mo_race_32 : decode prog_10_method_33_code 32 = .ok (.iaload, 1) := by decide +kernel
theorem d_Mo_race_33 : decode prog_10_method_33_code 33 = .ok (.istore_n 3, 1) := by decide +kernel
theorem d_Mo_race_34 : decode prog_10_method_33_code 34 = .ok (.iload_n 2, 1) := by decide +kernel
theorem d_Mo_race_35 : decode prog_10_method_33_code 35 = .ok (.tableswitch 62 0 3 #[29, 31, 41, 53], 29) := by decide +kernel
theorem d_Mo_race_64 : decode prog_10_method_33_code 64 = .ok (.iload_n 3, 1) := by decide +kernel
theorem d_Mo_race_65 : decode prog_10_method_33_code 65 = .ok (.ireturn, 1) := by decide +kernel
theorem d_Mo_race_66 : decode prog_10_method_33_code 66 = .ok (.aload_n 0, 1) := by decide +kernel
theorem d_Mo_race_67 : decode prog_10_method_33_code 67 = .ok (.getfield 58, 3) := by decide +kernel
theorem d_Mo_race_70 : decode prog_10_method_33_code 70 = .ok (.iload_n 3, 1) := by decide +kernel
theorem d_Mo_race_71 : decode prog_10_method_33_code 71 = .ok (.iaload, 1) := by decide +kernel
theorem d_Mo_race_72 : decode prog_10_method_33_code 72 = .ok (.bipush 16, 2) := by decide +kernel
theorem d_Mo_race_74 : decode prog_10_method_33_code 74 = .ok (.idiv, 1) := by decide +kernel
theorem d_Mo_race_75 : decode prog_10_method_33_code 75 = .ok (.ireturn, 1) := by decide +kernel
theorem d_Mo_race_76 : decode prog_10_method_33_code 76 = .ok (.aload_n 0, 1) := by decide +kernel
theorem d_Mo_race_77 : decode prog_10_method_33_code 77 = .ok (.getfield 58, 3) := by decide +kernel
theorem d_Mo_race_80 : decode prog_10_method_33_code 80 = .ok (.iload_n 3, 1) := by decide +kernel
theorem d_Mo_race_81 : decode prog_10_method_33_code 81 = .ok (.iaload, 1) := by decide +kernel
theorem d_Mo_race_82 : decode prog_10_method_33_code 82 = .ok (.iconst 2, 1) := by decide +kernel
theorem d_Mo_race_83 : decode prog_10_method_33_code 83 = .ok (.idiv, 1) := by decide +kernel
theorem d_Mo_race_84 : decode prog_10_method_33_code 84 = .ok (.bipush 8, 2) := by decide +kernel
theorem d_Mo_race_86 : decode prog_10_method_33_code 86 = .ok (.irem, 1) := by decide +kernel
theorem d_Mo_race_87 : decode prog_10_method_33_code 87 = .ok (.ireturn, 1) := by decide +kernel
theorem d_Mo_race_88 : decode prog_10_method_33_code 88 = .ok (.aload_n 0, 1) := by decide +kernel
theorem d_Mo_race_89 : decode prog_10_method_33_code 89 = .ok (.getfield 58, 3) := by decide +kernel
theorem d_Mo_race_92 : decode prog_10_method_33_code 92 = .ok (.iload_n 3, 1) := by decide +kernel
theorem d_Mo_race_93 : decode prog_10_method_33_code 93 = .ok (.iaload, 1) := by decide +kernel
theorem d_Mo_race_94 : decode prog_10_method_33_code 94 = .ok (.iconst 2, 1) := by decide +kernel
theorem d_Mo_race_95 : decode prog_10_method_33_code 95 = .ok (.irem, 1) := by decide +kernel
theorem d_Mo_race_96 : decode prog_10_method_33_code 96 = .ok (.ireturn, 1) := by decide +kernel
theorem d_Mo_race_97 : decode prog_10_method_33_code 97 = .ok (.iconst (-1), 1) := by decide +kernel
theorem d_Mo_race_98 : decode prog_10_method_33_code 98 = .ok (.ireturn, 1) := by decide +kernel
def tb_Mo_race : List pm_I := [
  pm_aload 1 0,
  pm_geti 2 8 6,
  pm_if 12 3 (fun a => decide (a = 0)),
  pm_iload 4 1,
  pm_if 12 5 (fun a => decide (a < 0)),
  pm_iload 6 1,
  pm_aload 7 0,
  pm_geti 8 8 22,
  pm_icmp 12 9 (fun a b => decide (b ≤ a)),
  pm_iload 10 1,
  pm_const 11 64,
  pm_icmp 14 12 (fun a b => decide (a < b)),
  pm_const 13 (-1),
  pm_iret,
  pm_aload 15 0,
  pm_getr 16 8 23,
  pm_iload 17 1,
  pm_iald 18 0,
  pm_istore 19 3,
  pm_iload 20 2,
  pm_sw [(0, 21), (1, 23), (2, 30), (3, 39)] 46,
  pm_iload 22 3,
  pm_iret,
  pm_aload 24 0,
  pm_getr 25 8 20,
  pm_iload 26 3,
  pm_iald 27 0,
  pm_const 28 16,
  pm_div 29 (fun a b => a / b),
  pm_iret,
  pm_aload 31 0,
  pm_getr 32 8 20,
  pm_iload 33 3,
  pm_iald 34 0,
  pm_const 35 2,
  pm_div 36 (fun a b => a / b),
  pm_const 37 8,
  pm_div 38 (fun a b => a - a / b * b),
  pm_iret,
  pm_aload 40 0,
  pm_getr 41 8 20,
  pm_iload 42 3,
  pm_iald 43 0,
  pm_const 44 2,
  pm_div 45 (fun a b => a - a / b * b),
  pm_iret,
  pm_const 47 (-1),
  pm_iret]
def bp_Mo_race : List Nat := [0, 1, 4, 7, 8, 11, 12, 13, 16, 19, 20, 22, 25, 26, 27, 28, 31, 32, 33, 34, 35, 64, 65, 66, 67, 70, 71, 72, 74, 75, 76, 77, 80, 81, 82, 83, 84, 86, 87, 88, 89, 92, 93, 94, 95, 96, 97, 98]
set_option maxRecDepth 100000 in
theorem sd_Mo_race : pm_Sl prog_10_method_33_code 4 R_Mo "race" (some .int) pm_Y (pm_b bp_Mo_race) 0 tb_Mo_race := by
  refine ⟨so_aloadn d_Mo_race_0 rfl rfl, ?_⟩
  refine ⟨so_geti (ci := 8) (k := 6) rfl (by decide) rfl rfl fl_Mo_119 d_Mo_race_1 rfl, ?_⟩
  refine ⟨so_if_eq d_Mo_race_4 rfl rfl, ?_⟩
  refine ⟨so_iloadn d_Mo_race_7 rfl rfl, ?_⟩
  refine ⟨so_if_lt d_Mo_race_8 rfl rfl, ?_⟩
  refine ⟨so_iloadn d_Mo_race_11 rfl rfl, ?_⟩
  refine ⟨so_aloadn d_Mo_race_12 rfl rfl, ?_⟩
  refine ⟨so_geti (ci := 8) (k := 22) rfl (by decide) rfl rfl fl_Mo_126 d_Mo_race_13 rfl, ?_⟩
  refine ⟨so_icmp_ge d_Mo_race_16 rfl rfl, ?_⟩
  refine ⟨so_iloadn d_Mo_race_19 rfl rfl, ?_⟩
  refine ⟨so_const2 d_Mo_race_20 (by decide) rfl, ?_⟩
  refine ⟨so_icmp_lt d_Mo_race_22 rfl rfl, ?_⟩
  refine ⟨so_const1 d_Mo_race_25 (by decide) rfl, ?_⟩
  refine ⟨so_iret d_Mo_race_26 rfl, ?_⟩
  refine ⟨so_aloadn d_Mo_race_27 rfl rfl, ?_⟩
  refine ⟨so_getr (ci := 8) (k := 23) rfl (by decide) rfl rfl fl_Mo_65 d_Mo_race_28 rfl, ?_⟩
  refine ⟨so_iloadn d_Mo_race_31 rfl rfl, ?_⟩
  refine ⟨so_iald d_Mo_race_32 rfl, ?_⟩
  refine ⟨so_istoren d_Mo_race_33 rfl (by decide) rfl, ?_⟩
  refine ⟨so_iloadn d_Mo_race_34 rfl rfl, ?_⟩
  refine ⟨so_tsw d_Mo_race_35 (by decide +kernel) (by decide +kernel) rfl, ?_⟩
  refine ⟨so_iloadn d_Mo_race_64 rfl rfl, ?_⟩
  refine ⟨so_iret d_Mo_race_65 rfl, ?_⟩
  refine ⟨so_aloadn d_Mo_race_66 rfl rfl, ?_⟩
  refine ⟨so_getr (ci := 8) (k := 20) rfl (by decide) rfl rfl fl_Mo_58 d_Mo_race_67 rfl, ?_⟩
  refine ⟨so_iloadn d_Mo_race_70 rfl rfl, ?_⟩
  refine ⟨so_iald d_Mo_race_71 rfl, ?_⟩
  refine ⟨so_const2 d_Mo_race_72 (by decide) rfl, ?_⟩
  refine ⟨so_idiv d_Mo_race_74 rfl, ?_⟩
  refine ⟨so_iret d_Mo_race_75 rfl, ?_⟩
  refine ⟨so_aloadn d_Mo_race_76 rfl rfl, ?_⟩
  refine ⟨so_getr (ci := 8) (k := 20) rfl (by decide) rfl rfl fl_Mo_58 d_Mo_race_77 rfl, ?_⟩
  refine ⟨so_iloadn d_Mo_race_80 rfl rfl, ?_⟩
  refine ⟨so_iald d_Mo_race_81 rfl, ?_⟩
  refine ⟨so_const1 d_Mo_race_82 (by decide) rfl, ?_⟩
  refine ⟨so_idiv d_Mo_race_83 rfl, ?_⟩
  refine ⟨so_const2 d_Mo_race_84 (by decide) rfl, ?_⟩
  refine ⟨so_irem d_Mo_race_86 rfl, ?_⟩
  refine ⟨so_iret d_Mo_race_87 rfl, ?_⟩
  refine ⟨so_aloadn d_Mo_race_88 rfl rfl, ?_⟩
  refine ⟨so_getr (ci := 8) (k := 20) rfl (by decide) rfl rfl fl_Mo_58 d_Mo_race_89 rfl, ?_⟩
  refine ⟨so_iloadn d_Mo_race_92 rfl rfl, ?_⟩
  refine ⟨so_iald d_Mo_race_93 rfl, ?_⟩
  refine ⟨so_const1 d_Mo_race_94 (by decide) rfl, ?_⟩
  refine ⟨so_irem d_Mo_race_95 rfl, ?_⟩
  refine ⟨so_iret d_Mo_race_96 rfl, ?_⟩
  refine ⟨so_const1 d_Mo_race_97 (by decide) rfl, ?_⟩
  refine ⟨so_iret d_Mo_race_98 rfl, ?_⟩
  exact trivial
theorem d_Mo_stuck_0 : decode prog_10_method_34_code 0 = .ok (.iconst 0, 1) := by decide +kernel
theorem d_Mo_stuck_1 : decode prog_10_method_34_code 1 = .ok (.istore_n 1, 1) := by decide +kernel
theorem d_Mo_stuck_2 : decode prog_10_method_34_code 2 = .ok (.iconst 0, 1) := by decide +kernel
theorem d_Mo_stuck_3 : decode prog_10_method_34_code 3 = .ok (.istore_n 2, 1) := by decide +kernel
theorem d_Mo_stuck_4 : decode prog_10_method_34_code 4 = .ok (.iload_n 2, 1) := by decide +kernel
theorem d_Mo_stuck_5 : decode prog_10_method_34_code 5 = .ok (.aload_n 0, 1) := by decide +kernel
theorem d_Mo_stuck_6 : decode prog_10_method_34_code 6 = .ok (.getfield 108, 3) := by decide +kernel
theorem d_Mo_stuck_9 : decode prog_10_method_34_code 9 = .ok (.if_icmp .ge 43, 3) := by decide +kernel
theorem d_Mo_stuck_12 : decode prog_10_method_34_code 12 = .ok (.aload_n 0, 1) := by decide +kernel
theorem d_Mo_stuck_13 : decode prog_10_method_34_code 13 = .ok (.getfield 119, 3) := by decide +kernel
theorem d_Mo_stuck_16 : decode prog_10_method_34_code 16 = .ok (.ifCond .eq 36, 3) := by decide +kernel
theorem d_Mo_stuck_19 : decode prog_10_method_34_code 19 = .ok (.aload_n 0, 1) := by decide +kernel
theorem d_Mo_stuck_20 : decode prog_10_method_34_code 20 = .ok (.iload_n 2, 1) := by decide +kernel
theorem d_Mo_stuck_21 : decode prog_10_method_34_code 21 = .ok (.invokevirtual 154, 3) := by decide +kernel
theorem d_Mo_stuck_24 : decode prog_10_method_34_code 24 = .ok (.ifCond .ne 5, 3) := by decide +kernel
theorem d_Mo_stuck_27 : decode prog_10_method_34_code 27 = .ok (.iconst 0, 1) := by decide +kernel
theorem d_Mo_stuck_28 : decode prog_10_method_34_code 28 = .ok (.ireturn, 1) := by decide +kernel
theorem d_Mo_stuck_29 : decode prog_10_method_34_code 29 = .ok (.iload_n 1, 1) := by decide +kernel
theorem d_Mo_stuck_30 : decode prog_10_method_34_code 30 = .ok (.aload_n 0, 1) := by decide +kernel
theorem d_Mo_stuck_31 : decode prog_10_method_34_code 31 = .ok (.iload_n 2, 1) := by decide +kernel
theorem d_Mo_stuck_32 : decode prog_10_method_34_code 32 = .ok (.invokevirtual 154, 3) := by decide +kernel
theorem d_Mo_stuck_35 : decode prog_10_method_34_code 35 = .ok (.iconst 2, 1) := by decide +kernel
theorem d_Mo_stuck_36 : decode prog_10_method_34_code 36 = .ok (.if_icmp .ne 7, 3) := by decide +kernel
theorem d_Mo_stuck_39 : decode prog_10_method_34_code 39 = .ok (.iconst 1, 1) := by decide +kernel
theorem d_Mo_stuck_40 : decode prog_10_method_34_code 40 = .ok (.goto 4, 3) := by decide +kernel
theorem d_Mo_stuck_43 : decode prog_10_method_34_code 43 = .ok (.iconst 0, 1) := by decide +kernel
theorem d_Mo_stuck_44 : decode prog_10_method_34_code 44 = .ok (.iadd, 1) := by decide +kernel
theorem d_Mo_stuck_45 : decode prog_10_method_34_code 45 = .ok (.istore_n 1, 1) := by decide +kernel
theorem d_Mo_stuck_46 : decode prog_10_method_34_code 46 = .ok (.iinc 2 1, 3) := by decide +kernel
theorem d_Mo_stuck_49 : decode prog_10_method_34_code 49 = .ok (.goto (-45), 3) := by decide +kernel
theorem d_Mo_stuck_52 : decode prog_10_method_34_code 52 = .ok (.aload_n 0, 1) := by decide +kernel
theorem d_Mo_stuck_53 : decode prog_10_method_34_code 53 = .ok (.getfield 119, 3) := by decide +kernel
theorem d_Mo_stuck_56 : decode prog_10_method_34_code 56 = .ok (.ifCond .eq 15, 3) := by decide +kernel
theorem d_Mo_stuck_59 : decode prog_10_method_34_code 59 = .ok (.iload_n 1, 1) := by decide +kernel
theorem d_Mo_stuck_60 : decode prog_10_method_34_code 60 = .ok (.aload_n 0, 1) := by decide +kernel
theorem d_Mo_stuck_61 : decode prog_10_method_34_code 61 = .ok (.getfield 108, 3) := by decide +kernel
theorem d_Mo_stuck_64 : decode prog_10_method_34_code 64 = .ok (.if_icmp .ge 7, 3) := by decide +kernel
theorem d_Mo_stuck_67 : decode prog_10_method_34_code 67 = .ok (.iconst 1, 1) := by decide +kernel
theorem d_Mo_stuck_68 : decode prog_10_method_34_code 68 = .ok (.goto 4, 3) := by decide +kernel
theorem d_Mo_stuck_71 : decode prog_10_method_34_code 71 = .ok (.iconst 0, 1) := by decide +kernel
theorem d_Mo_stuck_72 : decode prog_10_method_34_code 72 = .ok (.ireturn, 1) := by decide +kernel
def tb_Mo_stuck : List pm_I := [
  pm_const 1 0,
  pm_istore 2 1,
  pm_const 3 0,
  pm_istore 4 2,
  pm_iload 5 2,
  pm_aload 6 0,
  pm_geti 7 8 11,
  pm_icmp 30 8 (fun a b => decide (b ≤ a)),
  pm_aload 9 0,
  pm_geti 10 8 6,
  pm_if 30 11 (fun a => decide (a = 0)),
  pm_aload 12 0,
  pm_iload 13 2,
  pm_callv 14 99 2 8,
  pm_if 17 15 (fun a => decide (a ≠ 0)),
  pm_const 16 0,
  pm_zret,
  pm_iload 18 1,
  pm_aload 19 0,
  pm_iload 20 2,
  pm_callv 21 99 2 8,
  pm_const 22 2,
  pm_icmp 25 23 (fun a b => decide (a ≠ b)),
  pm_const 24 1,
  pm_goto 26,
  pm_const 26 0,
  pm_bin 27 (fun a b => a + b),
  pm_istore 28 1,
  pm_iinc 29 2 1,
  pm_goto 4,
  pm_aload 31 0,
  pm_geti 32 8 6,
  pm_if 39 33 (fun a => decide (a = 0)),
  pm_iload 34 1,
  pm_aload 35 0,
  pm_geti 36 8 11,
  pm_icmp 39 37 (fun a b => decide (b ≤ a)),
  pm_const 38 1,
  pm_goto 40,
  pm_const 40 0,
  pm_zret]
def bp_Mo_stuck : List Nat := [0, 1, 2, 3, 4, 5, 6, 9, 12, 13, 16, 19, 20, 21, 24, 27, 28, 29, 30, 31, 32, 35, 36, 39, 40, 43, 44, 45, 46, 49, 52, 53, 56, 59, 60, 61, 64, 67, 68, 71, 72]
set_option maxRecDepth 100000 in
theorem sd_Mo_stuck : pm_Sl prog_10_method_34_code 3 R_Mo "stuck" (some .boolean) pm_Y (pm_b bp_Mo_stuck) 0 tb_Mo_stuck := by
  refine ⟨so_const1 d_Mo_stuck_0 (by decide) rfl, ?_⟩
  refine ⟨so_istoren d_Mo_stuck_1 rfl (by decide) rfl, ?_⟩
  refine ⟨so_const1 d_Mo_stuck_2 (by decide) rfl, ?_⟩
  refine ⟨so_istoren d_Mo_stuck_3 rfl (by decide) rfl, ?_⟩
  refine ⟨so_iloadn d_Mo_stuck_4 rfl rfl, ?_⟩
  refine ⟨so_aloadn d_Mo_stuck_5 rfl rfl, ?_⟩
  refine ⟨so_geti (ci := 8) (k := 11) rfl (by decide) rfl rfl fl_Mo_108 d_Mo_stuck_6 rfl, ?_⟩
  refine ⟨so_icmp_ge d_Mo_stuck_9 rfl rfl, ?_⟩
  refine ⟨so_aloadn d_Mo_stuck_12 rfl rfl, ?_⟩
  refine ⟨so_geti (ci := 8) (k := 6) rfl (by decide) rfl rfl fl_Mo_119 d_Mo_stuck_13 rfl, ?_⟩
  refine ⟨so_if_eq d_Mo_stuck_16 rfl rfl, ?_⟩
  refine ⟨so_aloadn d_Mo_stuck_19 rfl rfl, ?_⟩
  refine ⟨so_iloadn d_Mo_stuck_20 rfl rfl, ?_⟩
  refine ⟨so_callv (ci := 8) rfl rfl mc_Mo_state mi_Mo mj_Mo_state ms_Mo_state ml_Mo_154 yd_Mo_state (by decide) d_Mo_stuck_21 rfl, ?_⟩
  refine ⟨so_if_ne d_Mo_stuck_24 rfl rfl, ?_⟩
  refine ⟨so_const1 d_Mo_stuck_27 (by decide) rfl, ?_⟩
  refine ⟨so_zret d_Mo_stuck_28 rfl, ?_⟩
  refine ⟨so_iloadn d_Mo_stuck_29 rfl rfl, ?_⟩
  refine ⟨so_aloadn d_Mo_stuck_30 rfl rfl, ?_⟩
  refine ⟨so_iloadn d_Mo_stuck_31 rfl rfl, ?_⟩
  refine ⟨so_callv (ci := 8) rfl rfl mc_Mo_state mi_Mo mj_Mo_state ms_Mo_state ml_Mo_154 yd_Mo_state (by decide) d_Mo_stuck_32 rfl, ?_⟩
  refine ⟨so_const1 d_Mo_stuck_35 (by decide) rfl, ?_⟩
  refine ⟨so_icmp_ne d_Mo_stuck_36 rfl rfl, ?_⟩
  refine ⟨so_const1 d_Mo_stuck_39 (by decide) rfl, ?_⟩
  refine ⟨so_goto d_Mo_stuck_40 rfl, ?_⟩
  refine ⟨so_const1 d_Mo_stuck_43 (by decide) rfl, ?_⟩
  refine ⟨so_iadd d_Mo_stuck_44 rfl, ?_⟩
  refine ⟨so_istoren d_Mo_stuck_45 rfl (by decide) rfl, ?_⟩
  refine ⟨so_iinc d_Mo_stuck_46 (by decide) (by decide) rfl, ?_⟩
  refine ⟨so_goto d_Mo_stuck_49 rfl, ?_⟩
  refine ⟨so_aloadn d_Mo_stuck_52 rfl rfl, ?_⟩
  refine ⟨so_geti (ci := 8) (k := 6) rfl (by decide) rfl rfl fl_Mo_119 d_Mo_stuck_53 rfl, ?_⟩
  refine ⟨so_if_eq d_Mo_stuck_56 rfl rfl, ?_⟩
  refine ⟨so_iloadn d_Mo_stuck_59 rfl rfl, ?_⟩
  refine ⟨so_aloadn d_Mo_stuck_60 rfl rfl, ?_⟩
  refine ⟨so_geti (ci := 8) (k := 11) rfl (by decide) rfl rfl fl_Mo_108 d_Mo_stuck_61 rfl, ?_⟩
  refine ⟨so_icmp_ge d_Mo_stuck_64 rfl rfl, ?_⟩
  refine ⟨so_const1 d_Mo_stuck_67 (by decide) rfl, ?_⟩
  refine ⟨so_goto d_Mo_stuck_68 rfl, ?_⟩
  refine ⟨so_const1 d_Mo_stuck_71 (by decide) rfl, ?_⟩
  refine ⟨so_zret d_Mo_stuck_72 rfl, ?_⟩
  exact trivial
end
section
def pm_T (k : Nat) : Nat → Option pm_I := match k with
  | 0 => fun j => tb_Lo_init[j]?
  | 1 => fun j => tb_Lo_statement[j]?
  | 2 => fun j => tb_Lo_isBelow[j]?
  | 3 => fun j => tb_Lo_body[j]?
  | 4 => fun j => tb_Lo_guard[j]?
  | 5 => fun j => tb_Lo_check[j]?
  | 6 => fun j => tb_Lo_sound[j]?
  | 7 => fun j => tb_Lo_start[j]?
  | 8 => fun j => tb_Lo_step[j]?
  | 9 => fun j => tb_Lo_has[j]?
  | 10 => fun j => tb_Lo_cell[j]?
  | 11 => fun j => tb_Lo_holder[j]?
  | 12 => fun j => tb_Lo_state[j]?
  | 13 => fun j => tb_Lo_count[j]?
  | 14 => fun j => tb_Lo_race[j]?
  | 15 => fun j => tb_Lo_stuck[j]?
  | 16 => fun j => tb_Sh_init[j]?
  | 17 => fun j => tb_Sh_addStatement[j]?
  | 18 => fun j => tb_Sh_fits[j]?
  | 19 => fun j => tb_Sh_closeText[j]?
  | 20 => fun j => tb_Sh_setGuard[j]?
  | 21 => fun j => tb_Sh_contains[j]?
  | 22 => fun j => tb_Sh_firstWrong[j]?
  | 23 => fun j => tb_Sh_isRight[j]?
  | 24 => fun j => tb_Sh_guardHeld[j]?
  | 25 => fun j => tb_Sh_allRight[j]?
  | 26 => fun j => tb_Bo_init[j]?
  | 27 => fun j => tb_Bo_append[j]?
  | 28 => fun j => tb_Bo_joinBlocks[j]?
  | 29 => fun j => tb_Bo_closeBlock[j]?
  | 30 => fun j => tb_Bo_clear[j]?
  | 31 => fun j => tb_Ru_init[j]?
  | 32 => fun j => tb_Ru_begin[j]?
  | 33 => fun j => tb_Ru_leaveEnded[j]?
  | 34 => fun j => tb_Ru_placeOf[j]?
  | 35 => fun j => tb_Ru_bodyOf[j]?
  | 36 => fun j => tb_Ru_advance[j]?
  | 37 => fun j => tb_Ru_wouldWait[j]?
  | 38 => fun j => tb_Ru_perform[j]?
  | 39 => fun j => tb_Ru_readCell[j]?
  | 40 => fun j => tb_Ru_noteRace[j]?
  | 41 => fun j => tb_Ru_writeCell[j]?
  | 42 => fun j => tb_Ru_endBlock[j]?
  | 43 => fun j => tb_Ru_fork[j]?
  | 44 => fun j => tb_Ru_valueOf[j]?
  | 45 => fun j => tb_Ru_contentOf[j]?
  | 46 => fun j => tb_Ru_holderOf[j]?
  | 47 => fun j => tb_Ru_stateOf[j]?
  | 48 => fun j => tb_Ru_countOf[j]?
  | 49 => fun j => tb_Ru_racePart[j]?
  | 50 => fun j => tb_Ru_isStuck[j]?
  | 51 => fun j => tb_Rl_init[j]?
  | 52 => fun j => tb_Rl_clear[j]?
  | 53 => fun j => tb_Rl_add[j]?
  | 54 => fun j => tb_Rl_part[j]?
  | 55 => fun j => tb_Sd_init[j]?
  | 56 => fun j => tb_Sd_begin[j]?
  | 57 => fun j => tb_Sd_enter[j]?
  | 58 => fun j => tb_Sd_isDone[j]?
  | 59 => fun j => tb_Sd_moveTo[j]?
  | 60 => fun j => tb_Sd_learn[j]?
  | 61 => fun j => tb_Lk_init[j]?
  | 62 => fun j => tb_Lk_clear[j]?
  | 63 => fun j => tb_Lk_refuses[j]?
  | 64 => fun j => tb_Lk_take[j]?
  | 65 => fun j => tb_Lk_release[j]?
  | 66 => fun j => tb_Ce_init[j]?
  | 67 => fun j => tb_Ce_clear[j]?
  | 68 => fun j => tb_Ce_races[j]?
  | 69 => fun j => tb_Mo_init[j]?
  | 70 => fun j => tb_Mo_statement[j]?
  | 71 => fun j => tb_Mo_isIn[j]?
  | 72 => fun j => tb_Mo_body[j]?
  | 73 => fun j => tb_Mo_isWhole[j]?
  | 74 => fun j => tb_Mo_kindAt[j]?
  | 75 => fun j => tb_Mo_openerOf[j]?
  | 76 => fun j => tb_Mo_opens[j]?
  | 77 => fun j => tb_Mo_closerOf[j]?
  | 78 => fun j => tb_Mo_numberAt[j]?
  | 79 => fun j => tb_Mo_guard[j]?
  | 80 => fun j => tb_Mo_check[j]?
  | 81 => fun j => tb_Mo_isRight[j]?
  | 82 => fun j => tb_Mo_heldAt[j]?
  | 83 => fun j => tb_Mo_sound[j]?
  | 84 => fun j => tb_Mo_start[j]?
  | 85 => fun j => tb_Mo_begin[j]?
  | 86 => fun j => tb_Mo_enter[j]?
  | 87 => fun j => tb_Mo_leave[j]?
  | 88 => fun j => tb_Mo_step[j]?
  | 89 => fun j => tb_Mo_isThread[j]?
  | 90 => fun j => tb_Mo_waitsFor[j]?
  | 91 => fun j => tb_Mo_does[j]?
  | 92 => fun j => tb_Mo_meets[j]?
  | 93 => fun j => tb_Mo_mark[j]?
  | 94 => fun j => tb_Mo_takes[j]?
  | 95 => fun j => tb_Mo_ends[j]?
  | 96 => fun j => tb_Mo_has[j]?
  | 97 => fun j => tb_Mo_cell[j]?
  | 98 => fun j => tb_Mo_holder[j]?
  | 99 => fun j => tb_Mo_state[j]?
  | 100 => fun j => tb_Mo_count[j]?
  | 101 => fun j => tb_Mo_race[j]?
  | 102 => fun j => tb_Mo_stuck[j]?
  | 103 => fun j => tb_Ar_fill[j]?
  | _ => fun _ => none
def pm_bp (k : Nat) : Nat → Nat := match k with
  | 0 => pm_b bp_Lo_init
  | 1 => pm_b bp_Lo_statement
  | 2 => pm_b bp_Lo_isBelow
  | 3 => pm_b bp_Lo_body
  | 4 => pm_b bp_Lo_guard
  | 5 => pm_b bp_Lo_check
  | 6 => pm_b bp_Lo_sound
  | 7 => pm_b bp_Lo_start
  | 8 => pm_b bp_Lo_step
  | 9 => pm_b bp_Lo_has
  | 10 => pm_b bp_Lo_cell
  | 11 => pm_b bp_Lo_holder
  | 12 => pm_b bp_Lo_state
  | 13 => pm_b bp_Lo_count
  | 14 => pm_b bp_Lo_race
  | 15 => pm_b bp_Lo_stuck
  | 16 => pm_b bp_Sh_init
  | 17 => pm_b bp_Sh_addStatement
  | 18 => pm_b bp_Sh_fits
  | 19 => pm_b bp_Sh_closeText
  | 20 => pm_b bp_Sh_setGuard
  | 21 => pm_b bp_Sh_contains
  | 22 => pm_b bp_Sh_firstWrong
  | 23 => pm_b bp_Sh_isRight
  | 24 => pm_b bp_Sh_guardHeld
  | 25 => pm_b bp_Sh_allRight
  | 26 => pm_b bp_Bo_init
  | 27 => pm_b bp_Bo_append
  | 28 => pm_b bp_Bo_joinBlocks
  | 29 => pm_b bp_Bo_closeBlock
  | 30 => pm_b bp_Bo_clear
  | 31 => pm_b bp_Ru_init
  | 32 => pm_b bp_Ru_begin
  | 33 => pm_b bp_Ru_leaveEnded
  | 34 => pm_b bp_Ru_placeOf
  | 35 => pm_b bp_Ru_bodyOf
  | 36 => pm_b bp_Ru_advance
  | 37 => pm_b bp_Ru_wouldWait
  | 38 => pm_b bp_Ru_perform
  | 39 => pm_b bp_Ru_readCell
  | 40 => pm_b bp_Ru_noteRace
  | 41 => pm_b bp_Ru_writeCell
  | 42 => pm_b bp_Ru_endBlock
  | 43 => pm_b bp_Ru_fork
  | 44 => pm_b bp_Ru_valueOf
  | 45 => pm_b bp_Ru_contentOf
  | 46 => pm_b bp_Ru_holderOf
  | 47 => pm_b bp_Ru_stateOf
  | 48 => pm_b bp_Ru_countOf
  | 49 => pm_b bp_Ru_racePart
  | 50 => pm_b bp_Ru_isStuck
  | 51 => pm_b bp_Rl_init
  | 52 => pm_b bp_Rl_clear
  | 53 => pm_b bp_Rl_add
  | 54 => pm_b bp_Rl_part
  | 55 => pm_b bp_Sd_init
  | 56 => pm_b bp_Sd_begin
  | 57 => pm_b bp_Sd_enter
  | 58 => pm_b bp_Sd_isDone
  | 59 => pm_b bp_Sd_moveTo
  | 60 => pm_b bp_Sd_learn
  | 61 => pm_b bp_Lk_init
  | 62 => pm_b bp_Lk_clear
  | 63 => pm_b bp_Lk_refuses
  | 64 => pm_b bp_Lk_take
  | 65 => pm_b bp_Lk_release
  | 66 => pm_b bp_Ce_init
  | 67 => pm_b bp_Ce_clear
  | 68 => pm_b bp_Ce_races
  | 69 => pm_b bp_Mo_init
  | 70 => pm_b bp_Mo_statement
  | 71 => pm_b bp_Mo_isIn
  | 72 => pm_b bp_Mo_body
  | 73 => pm_b bp_Mo_isWhole
  | 74 => pm_b bp_Mo_kindAt
  | 75 => pm_b bp_Mo_openerOf
  | 76 => pm_b bp_Mo_opens
  | 77 => pm_b bp_Mo_closerOf
  | 78 => pm_b bp_Mo_numberAt
  | 79 => pm_b bp_Mo_guard
  | 80 => pm_b bp_Mo_check
  | 81 => pm_b bp_Mo_isRight
  | 82 => pm_b bp_Mo_heldAt
  | 83 => pm_b bp_Mo_sound
  | 84 => pm_b bp_Mo_start
  | 85 => pm_b bp_Mo_begin
  | 86 => pm_b bp_Mo_enter
  | 87 => pm_b bp_Mo_leave
  | 88 => pm_b bp_Mo_step
  | 89 => pm_b bp_Mo_isThread
  | 90 => pm_b bp_Mo_waitsFor
  | 91 => pm_b bp_Mo_does
  | 92 => pm_b bp_Mo_meets
  | 93 => pm_b bp_Mo_mark
  | 94 => pm_b bp_Mo_takes
  | 95 => pm_b bp_Mo_ends
  | 96 => pm_b bp_Mo_has
  | 97 => pm_b bp_Mo_cell
  | 98 => pm_b bp_Mo_holder
  | 99 => pm_b bp_Mo_state
  | 100 => pm_b bp_Mo_count
  | 101 => pm_b bp_Mo_race
  | 102 => pm_b bp_Mo_stuck
  | 103 => pm_b bp_Ar_fill
  | _ => fun _ => 0
theorem pm_hT : ∀ (mid j : Nat) (f : pm_I), pm_T mid j = some f → pm_S (pm_Y mid).2.1 (pm_Y mid).2.2.1 (pm_Y mid).1.cls (pm_Y mid).1.name (pm_Y mid).2.2.2 pm_Y (pm_bp mid) j f := by
  intro mid j f h
  rw [show j = 0 + j from (Nat.zero_add j).symm]
  match mid, h with
  | 0, h => exact pm_Sl_at _ 0 sd_Lo_init j f h
  | 1, h => exact pm_Sl_at _ 0 sd_Lo_statement j f h
  | 2, h => exact pm_Sl_at _ 0 sd_Lo_isBelow j f h
  | 3, h => exact pm_Sl_at _ 0 sd_Lo_body j f h
  | 4, h => exact pm_Sl_at _ 0 sd_Lo_guard j f h
  | 5, h => exact pm_Sl_at _ 0 sd_Lo_check j f h
  | 6, h => exact pm_Sl_at _ 0 sd_Lo_sound j f h
  | 7, h => exact pm_Sl_at _ 0 sd_Lo_start j f h
  | 8, h => exact pm_Sl_at _ 0 sd_Lo_step j f h
  | 9, h => exact pm_Sl_at _ 0 sd_Lo_has j f h
  | 10, h => exact pm_Sl_at _ 0 sd_Lo_cell j f h
  | 11, h => exact pm_Sl_at _ 0 sd_Lo_holder j f h
  | 12, h => exact pm_Sl_at _ 0 sd_Lo_state j f h
  | 13, h => exact pm_Sl_at _ 0 sd_Lo_count j f h
  | 14, h => exact pm_Sl_at _ 0 sd_Lo_race j f h
  | 15, h => exact pm_Sl_at _ 0 sd_Lo_stuck j f h
  | 16, h => exact pm_Sl_at _ 0 sd_Sh_init j f h
  | 17, h => exact pm_Sl_at _ 0 sd_Sh_addStatement j f h
  | 18, h => exact pm_Sl_at _ 0 sd_Sh_fits j f h
  | 19, h => exact pm_Sl_at _ 0 sd_Sh_closeText j f h
  | 20, h => exact pm_Sl_at _ 0 sd_Sh_setGuard j f h
  | 21, h => exact pm_Sl_at _ 0 sd_Sh_contains j f h
  | 22, h => exact pm_Sl_at _ 0 sd_Sh_firstWrong j f h
  | 23, h => exact pm_Sl_at _ 0 sd_Sh_isRight j f h
  | 24, h => exact pm_Sl_at _ 0 sd_Sh_guardHeld j f h
  | 25, h => exact pm_Sl_at _ 0 sd_Sh_allRight j f h
  | 26, h => exact pm_Sl_at _ 0 sd_Bo_init j f h
  | 27, h => exact pm_Sl_at _ 0 sd_Bo_append j f h
  | 28, h => exact pm_Sl_at _ 0 sd_Bo_joinBlocks j f h
  | 29, h => exact pm_Sl_at _ 0 sd_Bo_closeBlock j f h
  | 30, h => exact pm_Sl_at _ 0 sd_Bo_clear j f h
  | 31, h => exact pm_Sl_at _ 0 sd_Ru_init j f h
  | 32, h => exact pm_Sl_at _ 0 sd_Ru_begin j f h
  | 33, h => exact pm_Sl_at _ 0 sd_Ru_leaveEnded j f h
  | 34, h => exact pm_Sl_at _ 0 sd_Ru_placeOf j f h
  | 35, h => exact pm_Sl_at _ 0 sd_Ru_bodyOf j f h
  | 36, h => exact pm_Sl_at _ 0 sd_Ru_advance j f h
  | 37, h => exact pm_Sl_at _ 0 sd_Ru_wouldWait j f h
  | 38, h => exact pm_Sl_at _ 0 sd_Ru_perform j f h
  | 39, h => exact pm_Sl_at _ 0 sd_Ru_readCell j f h
  | 40, h => exact pm_Sl_at _ 0 sd_Ru_noteRace j f h
  | 41, h => exact pm_Sl_at _ 0 sd_Ru_writeCell j f h
  | 42, h => exact pm_Sl_at _ 0 sd_Ru_endBlock j f h
  | 43, h => exact pm_Sl_at _ 0 sd_Ru_fork j f h
  | 44, h => exact pm_Sl_at _ 0 sd_Ru_valueOf j f h
  | 45, h => exact pm_Sl_at _ 0 sd_Ru_contentOf j f h
  | 46, h => exact pm_Sl_at _ 0 sd_Ru_holderOf j f h
  | 47, h => exact pm_Sl_at _ 0 sd_Ru_stateOf j f h
  | 48, h => exact pm_Sl_at _ 0 sd_Ru_countOf j f h
  | 49, h => exact pm_Sl_at _ 0 sd_Ru_racePart j f h
  | 50, h => exact pm_Sl_at _ 0 sd_Ru_isStuck j f h
  | 51, h => exact pm_Sl_at _ 0 sd_Rl_init j f h
  | 52, h => exact pm_Sl_at _ 0 sd_Rl_clear j f h
  | 53, h => exact pm_Sl_at _ 0 sd_Rl_add j f h
  | 54, h => exact pm_Sl_at _ 0 sd_Rl_part j f h
  | 55, h => exact pm_Sl_at _ 0 sd_Sd_init j f h
  | 56, h => exact pm_Sl_at _ 0 sd_Sd_begin j f h
  | 57, h => exact pm_Sl_at _ 0 sd_Sd_enter j f h
  | 58, h => exact pm_Sl_at _ 0 sd_Sd_isDone j f h
  | 59, h => exact pm_Sl_at _ 0 sd_Sd_moveTo j f h
  | 60, h => exact pm_Sl_at _ 0 sd_Sd_learn j f h
  | 61, h => exact pm_Sl_at _ 0 sd_Lk_init j f h
  | 62, h => exact pm_Sl_at _ 0 sd_Lk_clear j f h
  | 63, h => exact pm_Sl_at _ 0 sd_Lk_refuses j f h
  | 64, h => exact pm_Sl_at _ 0 sd_Lk_take j f h
  | 65, h => exact pm_Sl_at _ 0 sd_Lk_release j f h
  | 66, h => exact pm_Sl_at _ 0 sd_Ce_init j f h
  | 67, h => exact pm_Sl_at _ 0 sd_Ce_clear j f h
  | 68, h => exact pm_Sl_at _ 0 sd_Ce_races j f h
  | 69, h => exact pm_Sl_at _ 0 sd_Mo_init j f h
  | 70, h => exact pm_Sl_at _ 0 sd_Mo_statement j f h
  | 71, h => exact pm_Sl_at _ 0 sd_Mo_isIn j f h
  | 72, h => exact pm_Sl_at _ 0 sd_Mo_body j f h
  | 73, h => exact pm_Sl_at _ 0 sd_Mo_isWhole j f h
  | 74, h => exact pm_Sl_at _ 0 sd_Mo_kindAt j f h
  | 75, h => exact pm_Sl_at _ 0 sd_Mo_openerOf j f h
  | 76, h => exact pm_Sl_at _ 0 sd_Mo_opens j f h
  | 77, h => exact pm_Sl_at _ 0 sd_Mo_closerOf j f h
  | 78, h => exact pm_Sl_at _ 0 sd_Mo_numberAt j f h
  | 79, h => exact pm_Sl_at _ 0 sd_Mo_guard j f h
  | 80, h => exact pm_Sl_at _ 0 sd_Mo_check j f h
  | 81, h => exact pm_Sl_at _ 0 sd_Mo_isRight j f h
  | 82, h => exact pm_Sl_at _ 0 sd_Mo_heldAt j f h
  | 83, h => exact pm_Sl_at _ 0 sd_Mo_sound j f h
  | 84, h => exact pm_Sl_at _ 0 sd_Mo_start j f h
  | 85, h => exact pm_Sl_at _ 0 sd_Mo_begin j f h
  | 86, h => exact pm_Sl_at _ 0 sd_Mo_enter j f h
  | 87, h => exact pm_Sl_at _ 0 sd_Mo_leave j f h
  | 88, h => exact pm_Sl_at _ 0 sd_Mo_step j f h
  | 89, h => exact pm_Sl_at _ 0 sd_Mo_isThread j f h
  | 90, h => exact pm_Sl_at _ 0 sd_Mo_waitsFor j f h
  | 91, h => exact pm_Sl_at _ 0 sd_Mo_does j f h
  | 92, h => exact pm_Sl_at _ 0 sd_Mo_meets j f h
  | 93, h => exact pm_Sl_at _ 0 sd_Mo_mark j f h
  | 94, h => exact pm_Sl_at _ 0 sd_Mo_takes j f h
  | 95, h => exact pm_Sl_at _ 0 sd_Mo_ends j f h
  | 96, h => exact pm_Sl_at _ 0 sd_Mo_has j f h
  | 97, h => exact pm_Sl_at _ 0 sd_Mo_cell j f h
  | 98, h => exact pm_Sl_at _ 0 sd_Mo_holder j f h
  | 99, h => exact pm_Sl_at _ 0 sd_Mo_state j f h
  | 100, h => exact pm_Sl_at _ 0 sd_Mo_count j f h
  | 101, h => exact pm_Sl_at _ 0 sd_Mo_race j f h
  | 102, h => exact pm_Sl_at _ 0 sd_Mo_stuck j f h
  | 103, h => exact pm_Sl_at _ 0 sd_Ar_fill j f h
  | _ + 104, h => cases h
theorem pm_hpl : ∀ mid : Nat, plainName (pm_Y mid).1.cls = true := by
  intro mid
  match mid with
  | 0 => decide
  | 1 => decide
  | 2 => decide
  | 3 => decide
  | 4 => decide
  | 5 => decide
  | 6 => decide
  | 7 => decide
  | 8 => decide
  | 9 => decide
  | 10 => decide
  | 11 => decide
  | 12 => decide
  | 13 => decide
  | 14 => decide
  | 15 => decide
  | 16 => decide
  | 17 => decide
  | 18 => decide
  | 19 => decide
  | 20 => decide
  | 21 => decide
  | 22 => decide
  | 23 => decide
  | 24 => decide
  | 25 => decide
  | 26 => decide
  | 27 => decide
  | 28 => decide
  | 29 => decide
  | 30 => decide
  | 31 => decide
  | 32 => decide
  | 33 => decide
  | 34 => decide
  | 35 => decide
  | 36 => decide
  | 37 => decide
  | 38 => decide
  | 39 => decide
  | 40 => decide
  | 41 => decide
  | 42 => decide
  | 43 => decide
  | 44 => decide
  | 45 => decide
  | 46 => decide
  | 47 => decide
  | 48 => decide
  | 49 => decide
  | 50 => decide
  | 51 => decide
  | 52 => decide
  | 53 => decide
  | 54 => decide
  | 55 => decide
  | 56 => decide
  | 57 => decide
  | 58 => decide
  | 59 => decide
  | 60 => decide
  | 61 => decide
  | 62 => decide
  | 63 => decide
  | 64 => decide
  | 65 => decide
  | 66 => decide
  | 67 => decide
  | 68 => decide
  | 69 => decide
  | 70 => decide
  | 71 => decide
  | 72 => decide
  | 73 => decide
  | 74 => decide
  | 75 => decide
  | 76 => decide
  | 77 => decide
  | 78 => decide
  | 79 => decide
  | 80 => decide
  | 81 => decide
  | 82 => decide
  | 83 => decide
  | 84 => decide
  | 85 => decide
  | 86 => decide
  | 87 => decide
  | 88 => decide
  | 89 => decide
  | 90 => decide
  | 91 => decide
  | 92 => decide
  | 93 => decide
  | 94 => decide
  | 95 => decide
  | 96 => decide
  | 97 => decide
  | 98 => decide
  | 99 => decide
  | 100 => decide
  | 101 => decide
  | 102 => decide
  | 103 => decide
  | _ + 104 =>
    show plainName R_Lo = true
    decide
theorem pm_hb0 : ∀ mid : Nat, pm_bp mid 0 = 0 := by
  intro mid
  match mid with
  | 0 => rfl
  | 1 => rfl
  | 2 => rfl
  | 3 => rfl
  | 4 => rfl
  | 5 => rfl
  | 6 => rfl
  | 7 => rfl
  | 8 => rfl
  | 9 => rfl
  | 10 => rfl
  | 11 => rfl
  | 12 => rfl
  | 13 => rfl
  | 14 => rfl
  | 15 => rfl
  | 16 => rfl
  | 17 => rfl
  | 18 => rfl
  | 19 => rfl
  | 20 => rfl
  | 21 => rfl
  | 22 => rfl
  | 23 => rfl
  | 24 => rfl
  | 25 => rfl
  | 26 => rfl
  | 27 => rfl
  | 28 => rfl
  | 29 => rfl
  | 30 => rfl
  | 31 => rfl
  | 32 => rfl
  | 33 => rfl
  | 34 => rfl
  | 35 => rfl
  | 36 => rfl
  | 37 => rfl
  | 38 => rfl
  | 39 => rfl
  | 40 => rfl
  | 41 => rfl
  | 42 => rfl
  | 43 => rfl
  | 44 => rfl
  | 45 => rfl
  | 46 => rfl
  | 47 => rfl
  | 48 => rfl
  | 49 => rfl
  | 50 => rfl
  | 51 => rfl
  | 52 => rfl
  | 53 => rfl
  | 54 => rfl
  | 55 => rfl
  | 56 => rfl
  | 57 => rfl
  | 58 => rfl
  | 59 => rfl
  | 60 => rfl
  | 61 => rfl
  | 62 => rfl
  | 63 => rfl
  | 64 => rfl
  | 65 => rfl
  | 66 => rfl
  | 67 => rfl
  | 68 => rfl
  | 69 => rfl
  | 70 => rfl
  | 71 => rfl
  | 72 => rfl
  | 73 => rfl
  | 74 => rfl
  | 75 => rfl
  | 76 => rfl
  | 77 => rfl
  | 78 => rfl
  | 79 => rfl
  | 80 => rfl
  | 81 => rfl
  | 82 => rfl
  | 83 => rfl
  | 84 => rfl
  | 85 => rfl
  | 86 => rfl
  | 87 => rfl
  | 88 => rfl
  | 89 => rfl
  | 90 => rfl
  | 91 => rfl
  | 92 => rfl
  | 93 => rfl
  | 94 => rfl
  | 95 => rfl
  | 96 => rfl
  | 97 => rfl
  | 98 => rfl
  | 99 => rfl
  | 100 => rfl
  | 101 => rfl
  | 102 => rfl
  | 103 => rfl
  | _ + 104 => rfl
theorem pm_cI : ∀ (ci : Nat) (q : vw_C), vwCl[ci]? = some q → Cond.instantiable q.1 q.2.2 ∈ lw_tbl := by
  intro ci q hq
  match ci, hq with
  | 0, hq => cases hq; exact pm_in1 (List.mem_append_left _ (List.mem_of_getElem? (i := 14) rfl))
  | 1, hq => cases hq; exact pm_in1 (List.mem_append_left _ (List.mem_of_getElem? (i := 22) rfl))
  | 2, hq => cases hq; exact pm_in1 (List.mem_append_left _ (List.mem_of_getElem? (i := 29) rfl))
  | 3, hq => cases hq; exact pm_in1 (List.mem_append_left _ (List.mem_of_getElem? (i := 81) rfl))
  | 4, hq => cases hq; exact pm_in1 (List.mem_append_left _ (List.mem_of_getElem? (i := 93) rfl))
  | 5, hq => cases hq; exact pm_in1 (List.mem_append_left _ (List.mem_of_getElem? (i := 106) rfl))
  | 6, hq => cases hq; exact pm_in1 (List.mem_append_left _ (List.mem_of_getElem? (i := 138) rfl))
  | 7, hq => cases hq; exact pm_in1 (List.mem_append_left _ (List.mem_of_getElem? (i := 154) rfl))
  | 8, hq => cases hq; exact pm_in1 (List.mem_append_right _ (List.mem_append_left _ (List.mem_of_getElem? (i := 223) rfl)))
  | n + 9, hq => cases hq
theorem pm_arrC {s : State} {args : Array Value} {ty : FieldType} (h : (Cond.arrayClass ty).before args s = true) (hn : ∀ C, ty ≠ .object C) : ∃ cA : ClassId, ArrOfT s cA ty ∧ va_RA s cA ty ∧ pm_mk ty s := by
  obtain ⟨cA, kA, comp, h1, h2, h3⟩ := Cond.arrayClass_spec h
  refine ⟨cA, fun n w => ⟨fun k g => (by cases g), kA, h2, comp, h3⟩, ?_, ?_⟩
  · cases ty with
    | object C => exact absurd rfl (hn C)
    | _ => exact h1
  · cases ty with
    | object C => exact absurd rfl (hn C)
    | _ => exact word_at (State.WarmedH.refl s) (Or.inr ⟨_, rfl⟩) h
theorem pm_arrO {s : State} {args : Array Value} {C : String} (h : (Cond.arrayOver (.object C)).before args s = true) : ∃ cA : ClassId, ArrOfT s cA (.object C) ∧ va_RA s cA (.object C) ∧ pm_mk (.object C) s := by
  obtain ⟨comp, cA, kA, h1, h2, h3, h4, h5⟩ := Cond.arrayOver_spec h
  exact ⟨cA, fun n w => ⟨fun k g => (by cases g), kA, h3, comp, h4⟩, ⟨kA, comp, h3, h4, h1, h5⟩, va_AO.of h⟩
theorem pm_G_of {s : State} {args : Array Value} (hts : ∀ w ∈ lw_tbl, w.before args s = true) : ∃ (D : va_G) (aC : Nat → ClassId), pm_G D aC s := by
  have k1 : ∀ ci : Nat, ∃ d : ClassId × (Nat → Nat), ∀ q : vw_C, vwCl[ci]? = some q → u_Kn s q.1 q.2.1 q.2.2 d.1 d.2 := by
    intro ci
    cases hq : vwCl[ci]? with
    | none => exact ⟨(0, fun _ => 0), fun q h => by cases h⟩
    | some q =>
      obtain ⟨cC, iS, hK⟩ := u_known (ws := u_ws q.1 q.2.1 q.2.2) (n := q.2.2) (fun w hw => hts w (pm_cF ci q hq w hw).1) (fun _ h => h) (hts _ (pm_cI ci q hq))
      exact ⟨(cC, iS), fun q' h => by cases h; exact hK⟩
  have k2 : ∀ t : Nat, ∃ cA : ClassId, ∀ ty, pm_tg[t]? = some ty → ArrOfT s cA ty ∧ va_RA s cA ty ∧ pm_mk ty s := by
    intro t
    match t with
    | 0 => obtain ⟨cA, h⟩ := pm_arrC (hts (.arrayClass .int) (pm_in1 (List.mem_append_left _ (List.mem_of_getElem? (i := 62) rfl)))) (fun _ g => by cases g); exact ⟨cA, fun ty g => by cases g; exact h⟩
    | 1 => obtain ⟨cA, h⟩ := pm_arrC (hts (.arrayClass .boolean) (pm_in1 (List.mem_append_right _ (List.mem_append_right _ (List.mem_of_getElem? (i := 61) rfl))))) (fun _ g => by cases g); exact ⟨cA, fun ty g => by cases g; exact h⟩
    | 2 => obtain ⟨cA, h⟩ := pm_arrO (hts (.arrayOver (.object "LockLoom$Body")) (pm_in1 (List.mem_append_left _ (List.mem_of_getElem? (i := 28) rfl)))); exact ⟨cA, fun ty g => by cases g; exact h⟩
    | 3 => obtain ⟨cA, h⟩ := pm_arrO (hts (.arrayOver (.object "LockLoom$Strand")) (pm_in1 (List.mem_append_left _ (List.mem_of_getElem? (i := 87) rfl)))); exact ⟨cA, fun ty g => by cases g; exact h⟩
    | 4 => obtain ⟨cA, h⟩ := pm_arrO (hts (.arrayOver (.object "LockLoom$Lock")) (pm_in1 (List.mem_append_left _ (List.mem_of_getElem? (i := 89) rfl)))); exact ⟨cA, fun ty g => by cases g; exact h⟩
    | 5 => obtain ⟨cA, h⟩ := pm_arrO (hts (.arrayOver (.object "LockLoom$Cell")) (pm_in1 (List.mem_append_left _ (List.mem_of_getElem? (i := 91) rfl)))); exact ⟨cA, fun ty g => by cases g; exact h⟩
    | n + 6 => exact ⟨0, fun ty g => by cases g⟩
  refine ⟨(fun ci => (Classical.choose (k1 ci)).1, fun ci => (Classical.choose (k1 ci)).2), fun t => Classical.choose (k2 t), fun w h1 h2 => ?_, fun ci q hq => Classical.choose_spec (k1 ci) q hq, fun t ty ht => Classical.choose_spec (k2 t) ty ht⟩
  simp only [pm_gd, Bool.and_eq_true] at h2
  exact va_Nw.of h2.1 (hts w h1)
theorem d_law_0 : decode code 0 = .ok (.new 7, 3) := by decide +kernel
theorem d_law_3 : decode code 3 = .ok (.dup, 1) := by decide +kernel
theorem d_law_4 : decode code 4 = .ok (.invokespecial 9, 3) := by decide +kernel
theorem d_law_7 : decode code 7 = .ok (.astore_n 1, 1) := by decide +kernel
theorem d_law_8 : decode code 8 = .ok (.new 10, 3) := by decide +kernel
theorem d_law_11 : decode code 11 = .ok (.dup, 1) := by decide +kernel
theorem d_law_12 : decode code 12 = .ok (.invokespecial 12, 3) := by decide +kernel
theorem d_law_15 : decode code 15 = .ok (.astore_n 2, 1) := by decide +kernel
theorem d_law_16 : decode code 16 = .ok (.iconst 0, 1) := by decide +kernel
theorem d_law_17 : decode code 17 = .ok (.istore_n 3, 1) := by decide +kernel
theorem d_law_18 : decode code 18 = .ok (.iload_n 3, 1) := by decide +kernel
theorem d_law_19 : decode code 19 = .ok (.aload_n 0, 1) := by decide +kernel
theorem d_law_20 : decode code 20 = .ok (.arraylength, 1) := by decide +kernel
theorem d_law_21 : decode code 21 = .ok (.iconst 3, 1) := by decide +kernel
theorem d_law_22 : decode code 22 = .ok (.isub, 1) := by decide +kernel
theorem d_law_23 : decode code 23 = .ok (.if_icmp .gt 429, 3) := by decide +kernel
theorem d_law_26 : decode code 26 = .ok (.aload_n 0, 1) := by decide +kernel
theorem d_law_27 : decode code 27 = .ok (.iload_n 3, 1) := by decide +kernel
theorem d_law_28 : decode code 28 = .ok (.iaload, 1) := by decide +kernel
theorem d_law_29 : decode code 29 = .ok (.bipush 15, 2) := by decide +kernel
theorem d_law_31 : decode code 31 = .ok (.iand, 1) := by decide +kernel
theorem d_law_32 : decode code 32 = .ok (.tableswitch 414 0 13 #[72, 105, 128, 161, 184, 197, 230, 253, 276, 299, 322, 345, 368, 401], 72) := by decide +kernel
theorem d_law_104 : decode code 104 = .ok (.aload_n 1, 1) := by decide +kernel
theorem d_law_105 : decode code 105 = .ok (.aload_n 0, 1) := by decide +kernel
theorem d_law_106 : decode code 106 = .ok (.iload_n 3, 1) := by decide +kernel
theorem d_law_107 : decode code 107 = .ok (.iconst 1, 1) := by decide +kernel
theorem d_law_108 : decode code 108 = .ok (.iadd, 1) := by decide +kernel
theorem d_law_109 : decode code 109 = .ok (.iaload, 1) := by decide +kernel
theorem d_law_110 : decode code 110 = .ok (.aload_n 0, 1) := by decide +kernel
theorem d_law_111 : decode code 111 = .ok (.iload_n 3, 1) := by decide +kernel
theorem d_law_112 : decode code 112 = .ok (.iconst 2, 1) := by decide +kernel
theorem d_law_113 : decode code 113 = .ok (.iadd, 1) := by decide +kernel
theorem d_law_114 : decode code 114 = .ok (.iaload, 1) := by decide +kernel
theorem d_law_115 : decode code 115 = .ok (.invokevirtual 13, 3) := by decide +kernel
theorem d_law_118 : decode code 118 = .ok (.aload_n 2, 1) := by decide +kernel
theorem d_law_119 : decode code 119 = .ok (.aload_n 0, 1) := by decide +kernel
theorem d_law_120 : decode code 120 = .ok (.iload_n 3, 1) := by decide +kernel
theorem d_law_121 : decode code 121 = .ok (.iconst 1, 1) := by decide +kernel
theorem d_law_122 : decode code 122 = .ok (.iadd, 1) := by decide +kernel
theorem d_law_123 : decode code 123 = .ok (.iaload, 1) := by decide +kernel
theorem d_law_124 : decode code 124 = .ok (.aload_n 0, 1) := by decide +kernel
theorem d_law_125 : decode code 125 = .ok (.iload_n 3, 1) := by decide +kernel
theorem d_law_126 : decode code 126 = .ok (.iconst 2, 1) := by decide +kernel
theorem d_law_127 : decode code 127 = .ok (.iadd, 1) := by decide +kernel
theorem d_law_128 : decode code 128 = .ok (.iaload, 1) := by decide +kernel
theorem d_law_129 : decode code 129 = .ok (.invokevirtual 17, 3) := by decide +kernel
theorem d_law_132 : decode code 132 = .ok (.if_icmp .eq 314, 3) := by decide +kernel
theorem d_law_135 : decode code 135 = .ok (.iconst 0, 1) := by decide +kernel
theorem d_law_136 : decode code 136 = .ok (.ireturn, 1) := by decide +kernel
theorem d_law_137 : decode code 137 = .ok (.aload_n 1, 1) := by decide +kernel
theorem d_law_138 : decode code 138 = .ok (.aload_n 0, 1) := by decide +kernel
theorem d_law_139 : decode code 139 = .ok (.iload_n 3, 1) := by decide +kernel
theorem d_law_140 : decode code 140 = .ok (.iconst 1, 1) := by decide +kernel
theorem d_law_141 : decode code 141 = .ok (.iadd, 1) := by decide +kernel
theorem d_law_142 : decode code 142 = .ok (.iaload, 1) := by decide +kernel
theorem d_law_143 : decode code 143 = .ok (.invokevirtual 18, 3) := by decide +kernel
theorem d_law_146 : decode code 146 = .ok (.aload_n 2, 1) := by decide +kernel
theorem d_law_147 : decode code 147 = .ok (.aload_n 0, 1) := by decide +kernel
theorem d_law_148 : decode code 148 = .ok (.iload_n 3, 1) := by decide +kernel
theorem d_law_149 : decode code 149 = .ok (.iconst 1, 1) := by decide +kernel
theorem d_law_150 : decode code 150 = .ok (.iadd, 1) := by decide +kernel
theorem d_law_151 : decode code 151 = .ok (.iaload, 1) := by decide +kernel
theorem d_law_152 : decode code 152 = .ok (.invokevirtual 22, 3) := by decide +kernel
theorem d_law_155 : decode code 155 = .ok (.if_icmp .eq 291, 3) := by decide +kernel
theorem d_law_158 : decode code 158 = .ok (.iconst 0, 1) := by decide +kernel
theorem d_law_159 : decode code 159 = .ok (.ireturn, 1) := by decide +kernel
theorem d_law_160 : decode code 160 = .ok (.aload_n 1, 1) := by decide +kernel
theorem d_law_161 : decode code 161 = .ok (.aload_n 0, 1) := by decide +kernel
theorem d_law_162 : decode code 162 = .ok (.iload_n 3, 1) := by decide +kernel
theorem d_law_163 : decode code 163 = .ok (.iconst 1, 1) := by decide +kernel
theorem d_law_164 : decode code 164 = .ok (.iadd, 1) := by decide +kernel
theorem d_law_165 : decode code 165 = .ok (.iaload, 1) := by decide +kernel
theorem d_law_166 : decode code 166 = .ok (.aload_n 0, 1) := by decide +kernel
theorem d_law_167 : decode code 167 = .ok (.iload_n 3, 1) := by decide +kernel
theorem d_law_168 : decode code 168 = .ok (.iconst 2, 1) := by decide +kernel
theorem d_law_169 : decode code 169 = .ok (.iadd, 1) := by decide +kernel
theorem d_law_170 : decode code 170 = .ok (.iaload, 1) := by decide +kernel
theorem d_law_171 : decode code 171 = .ok (.invokevirtual 23, 3) := by decide +kernel
theorem d_law_174 : decode code 174 = .ok (.aload_n 2, 1) := by decide +kernel
theorem d_law_175 : decode code 175 = .ok (.aload_n 0, 1) := by decide +kernel
theorem d_law_176 : decode code 176 = .ok (.iload_n 3, 1) := by decide +kernel
theorem d_law_177 : decode code 177 = .ok (.iconst 1, 1) := by decide +kernel
theorem d_law_178 : decode code 178 = .ok (.iadd, 1) := by decide +kernel
theorem d_law_179 : decode code 179 = .ok (.iaload, 1) := by decide +kernel
theorem d_law_180 : decode code 180 = .ok (.aload_n 0, 1) := by decide +kernel
theorem d_law_181 : decode code 181 = .ok (.iload_n 3, 1) := by decide +kernel
theorem d_law_182 : decode code 182 = .ok (.iconst 2, 1) := by decide +kernel
theorem d_law_183 : decode code 183 = .ok (.iadd, 1) := by decide +kernel
theorem d_law_184 : decode code 184 = .ok (.iaload, 1) := by decide +kernel
theorem d_law_185 : decode code 185 = .ok (.invokevirtual 27, 3) := by decide +kernel
theorem d_law_188 : decode code 188 = .ok (.if_icmp .eq 258, 3) := by decide +kernel
theorem d_law_191 : decode code 191 = .ok (.iconst 0, 1) := by decide +kernel
theorem d_law_192 : decode code 192 = .ok (.ireturn, 1) := by decide +kernel
theorem d_law_193 : decode code 193 = .ok (.aload_n 1, 1) := by decide +kernel
theorem d_law_194 : decode code 194 = .ok (.aload_n 0, 1) := by decide +kernel
theorem d_law_195 : decode code 195 = .ok (.iload_n 3, 1) := by decide +kernel
theorem d_law_196 : decode code 196 = .ok (.iconst 1, 1) := by decide +kernel
theorem d_law_197 : decode code 197 = .ok (.iadd, 1) := by decide +kernel
theorem d_law_198 : decode code 198 = .ok (.iaload, 1) := by decide +kernel
theorem d_law_199 : decode code 199 = .ok (.invokevirtual 28, 3) := by decide +kernel
theorem d_law_202 : decode code 202 = .ok (.aload_n 2, 1) := by decide +kernel
theorem d_law_203 : decode code 203 = .ok (.aload_n 0, 1) := by decide +kernel
theorem d_law_204 : decode code 204 = .ok (.iload_n 3, 1) := by decide +kernel
theorem d_law_205 : decode code 205 = .ok (.iconst 1, 1) := by decide +kernel
theorem d_law_206 : decode code 206 = .ok (.iadd, 1) := by decide +kernel
theorem d_law_207 : decode code 207 = .ok (.iaload, 1) := by decide +kernel
theorem d_law_208 : decode code 208 = .ok (.invokevirtual 31, 3) := by decide +kernel
theorem d_law_211 : decode code 211 = .ok (.if_icmp .eq 235, 3) := by decide +kernel
theorem d_law_214 : decode code 214 = .ok (.iconst 0, 1) := by decide +kernel
theorem d_law_215 : decode code 215 = .ok (.ireturn, 1) := by decide +kernel
theorem d_law_216 : decode code 216 = .ok (.aload_n 1, 1) := by decide +kernel
theorem d_law_217 : decode code 217 = .ok (.invokevirtual 32, 3) := by decide +kernel
theorem d_law_220 : decode code 220 = .ok (.aload_n 2, 1) := by decide +kernel
theorem d_law_221 : decode code 221 = .ok (.invokevirtual 36, 3) := by decide +kernel
theorem d_law_224 : decode code 224 = .ok (.if_icmp .eq 222, 3) := by decide +kernel
theorem d_law_227 : decode code 227 = .ok (.iconst 0, 1) := by decide +kernel
theorem d_law_228 : decode code 228 = .ok (.ireturn, 1) := by decide +kernel
theorem d_law_229 : decode code 229 = .ok (.aload_n 1, 1) := by decide +kernel
theorem d_law_230 : decode code 230 = .ok (.aload_n 0, 1) := by decide +kernel
theorem d_law_231 : decode code 231 = .ok (.iload_n 3, 1) := by decide +kernel
theorem d_law_232 : decode code 232 = .ok (.iconst 1, 1) := by decide +kernel
theorem d_law_233 : decode code 233 = .ok (.iadd, 1) := by decide +kernel
theorem d_law_234 : decode code 234 = .ok (.iaload, 1) := by decide +kernel
theorem d_law_235 : decode code 235 = .ok (.aload_n 0, 1) := by decide +kernel
theorem d_law_236 : decode code 236 = .ok (.iload_n 3, 1) := by decide +kernel
theorem d_law_237 : decode code 237 = .ok (.iconst 2, 1) := by decide +kernel
theorem d_law_238 : decode code 238 = .ok (.iadd, 1) := by decide +kernel
theorem d_law_239 : decode code 239 = .ok (.iaload, 1) := by decide +kernel
theorem d_law_240 : decode code 240 = .ok (.invokevirtual 37, 3) := by decide +kernel
theorem d_law_243 : decode code 243 = .ok (.aload_n 2, 1) := by decide +kernel
theorem d_law_244 : decode code 244 = .ok (.aload_n 0, 1) := by decide +kernel
theorem d_law_245 : decode code 245 = .ok (.iload_n 3, 1) := by decide +kernel
theorem d_law_246 : decode code 246 = .ok (.iconst 1, 1) := by decide +kernel
theorem d_law_247 : decode code 247 = .ok (.iadd, 1) := by decide +kernel
theorem d_law_248 : decode code 248 = .ok (.iaload, 1) := by decide +kernel
theorem d_law_249 : decode code 249 = .ok (.aload_n 0, 1) := by decide +kernel
theorem d_law_250 : decode code 250 = .ok (.iload_n 3, 1) := by decide +kernel
theorem d_law_251 : decode code 251 = .ok (.iconst 2, 1) := by decide +kernel
theorem d_law_252 : decode code 252 = .ok (.iadd, 1) := by decide +kernel
theorem d_law_253 : decode code 253 = .ok (.iaload, 1) := by decide +kernel
theorem d_law_254 : decode code 254 = .ok (.invokevirtual 40, 3) := by decide +kernel
theorem d_law_257 : decode code 257 = .ok (.if_icmp .eq 189, 3) := by decide +kernel
theorem d_law_260 : decode code 260 = .ok (.iconst 0, 1) := by decide +kernel
theorem d_law_261 : decode code 261 = .ok (.ireturn, 1) := by decide +kernel
theorem d_law_262 : decode code 262 = .ok (.aload_n 1, 1) := by decide +kernel
theorem d_law_263 : decode code 263 = .ok (.aload_n 0, 1) := by decide +kernel
theorem d_law_264 : decode code 264 = .ok (.iload_n 3, 1) := by decide +kernel
theorem d_law_265 : decode code 265 = .ok (.iconst 1, 1) := by decide +kernel
theorem d_law_266 : decode code 266 = .ok (.iadd, 1) := by decide +kernel
theorem d_law_267 : decode code 267 = .ok (.iaload, 1) := by decide +kernel
theorem d_law_268 : decode code 268 = .ok (.invokevirtual 41, 3) := by decide +kernel
theorem d_law_271 : decode code 271 = .ok (.aload_n 2, 1) := by decide +kernel
theorem d_law_272 : decode code 272 = .ok (.aload_n 0, 1) := by decide +kernel
theorem d_law_273 : decode code 273 = .ok (.iload_n 3, 1) := by decide +kernel
theorem d_law_274 : decode code 274 = .ok (.iconst 1, 1) := by decide +kernel
theorem d_law_275 : decode code 275 = .ok (.iadd, 1) := by decide +kernel
theorem d_law_276 : decode code 276 = .ok (.iaload, 1) := by decide +kernel
theorem d_law_277 : decode code 277 = .ok (.invokevirtual 44, 3) := by decide +kernel
theorem d_law_280 : decode code 280 = .ok (.if_icmp .eq 166, 3) := by decide +kernel
theorem d_law_283 : decode code 283 = .ok (.iconst 0, 1) := by decide +kernel
theorem d_law_284 : decode code 284 = .ok (.ireturn, 1) := by decide +kernel
theorem d_law_285 : decode code 285 = .ok (.aload_n 1, 1) := by decide +kernel
theorem d_law_286 : decode code 286 = .ok (.aload_n 0, 1) := by decide +kernel
theorem d_law_287 : decode code 287 = .ok (.iload_n 3, 1) := by decide +kernel
theorem d_law_288 : decode code 288 = .ok (.iconst 1, 1) := by decide +kernel
theorem d_law_289 : decode code 289 = .ok (.iadd, 1) := by decide +kernel
theorem d_law_290 : decode code 290 = .ok (.iaload, 1) := by decide +kernel
theorem d_law_291 : decode code 291 = .ok (.invokevirtual 45, 3) := by decide +kernel
theorem d_law_294 : decode code 294 = .ok (.aload_n 2, 1) := by decide +kernel
theorem d_law_295 : decode code 295 = .ok (.aload_n 0, 1) := by decide +kernel
theorem d_law_296 : decode code 296 = .ok (.iload_n 3, 1) := by decide +kernel
theorem d_law_297 : decode code 297 = .ok (.iconst 1, 1) := by decide +kernel
theorem d_law_298 : decode code 298 = .ok (.iadd, 1) := by decide +kernel
theorem d_law_299 : decode code 299 = .ok (.iaload, 1) := by decide +kernel
theorem d_law_300 : decode code 300 = .ok (.invokevirtual 48, 3) := by decide +kernel
theorem d_law_303 : decode code 303 = .ok (.if_icmp .eq 143, 3) := by decide +kernel
theorem d_law_306 : decode code 306 = .ok (.iconst 0, 1) := by decide +kernel
theorem d_law_307 : decode code 307 = .ok (.ireturn, 1) := by decide +kernel
theorem d_law_308 : decode code 308 = .ok (.aload_n 1, 1) := by decide +kernel
theorem d_law_309 : decode code 309 = .ok (.aload_n 0, 1) := by decide +kernel
theorem d_law_310 : decode code 310 = .ok (.iload_n 3, 1) := by decide +kernel
theorem d_law_311 : decode code 311 = .ok (.iconst 1, 1) := by decide +kernel
theorem d_law_312 : decode code 312 = .ok (.iadd, 1) := by decide +kernel
theorem d_law_313 : decode code 313 = .ok (.iaload, 1) := by decide +kernel
theorem d_law_314 : decode code 314 = .ok (.invokevirtual 49, 3) := by decide +kernel
theorem d_law_317 : decode code 317 = .ok (.aload_n 2, 1) := by decide +kernel
theorem d_law_318 : decode code 318 = .ok (.aload_n 0, 1) := by decide +kernel
theorem d_law_319 : decode code 319 = .ok (.iload_n 3, 1) := by decide +kernel
theorem d_law_320 : decode code 320 = .ok (.iconst 1, 1) := by decide +kernel
theorem d_law_321 : decode code 321 = .ok (.iadd, 1) := by decide +kernel
theorem d_law_322 : decode code 322 = .ok (.iaload, 1) := by decide +kernel
theorem d_law_323 : decode code 323 = .ok (.invokevirtual 52, 3) := by decide +kernel
theorem d_law_326 : decode code 326 = .ok (.if_icmp .eq 120, 3) := by decide +kernel
theorem d_law_329 : decode code 329 = .ok (.iconst 0, 1) := by decide +kernel
theorem d_law_330 : decode code 330 = .ok (.ireturn, 1) := by decide +kernel
theorem d_law_331 : decode code 331 = .ok (.aload_n 1, 1) := by decide +kernel
theorem d_law_332 : decode code 332 = .ok (.aload_n 0, 1) := by decide +kernel
theorem d_law_333 : decode code 333 = .ok (.iload_n 3, 1) := by decide +kernel
theorem d_law_334 : decode code 334 = .ok (.iconst 1, 1) := by decide +kernel
theorem d_law_335 : decode code 335 = .ok (.iadd, 1) := by decide +kernel
theorem d_law_336 : decode code 336 = .ok (.iaload, 1) := by decide +kernel
theorem d_law_337 : decode code 337 = .ok (.invokevirtual 53, 3) := by decide +kernel
theorem d_law_340 : decode code 340 = .ok (.aload_n 2, 1) := by decide +kernel
theorem d_law_341 : decode code 341 = .ok (.aload_n 0, 1) := by decide +kernel
theorem d_law_342 : decode code 342 = .ok (.iload_n 3, 1) := by decide +kernel
theorem d_law_343 : decode code 343 = .ok (.iconst 1, 1) := by decide +kernel
theorem d_law_344 : decode code 344 = .ok (.iadd, 1) := by decide +kernel
theorem d_law_345 : decode code 345 = .ok (.iaload, 1) := by decide +kernel
theorem d_law_346 : decode code 346 = .ok (.invokevirtual 56, 3) := by decide +kernel
theorem d_law_349 : decode code 349 = .ok (.if_icmp .eq 97, 3) := by decide +kernel
theorem d_law_352 : decode code 352 = .ok (.iconst 0, 1) := by decide +kernel
theorem d_law_353 : decode code 353 = .ok (.ireturn, 1) := by decide +kernel
theorem d_law_354 : decode code 354 = .ok (.aload_n 1, 1) := by decide +kernel
theorem d_law_355 : decode code 355 = .ok (.aload_n 0, 1) := by decide +kernel
theorem d_law_356 : decode code 356 = .ok (.iload_n 3, 1) := by decide +kernel
theorem d_law_357 : decode code 357 = .ok (.iconst 1, 1) := by decide +kernel
theorem d_law_358 : decode code 358 = .ok (.iadd, 1) := by decide +kernel
theorem d_law_359 : decode code 359 = .ok (.iaload, 1) := by decide +kernel
theorem d_law_360 : decode code 360 = .ok (.invokevirtual 57, 3) := by decide +kernel
theorem d_law_363 : decode code 363 = .ok (.aload_n 2, 1) := by decide +kernel
theorem d_law_364 : decode code 364 = .ok (.aload_n 0, 1) := by decide +kernel
theorem d_law_365 : decode code 365 = .ok (.iload_n 3, 1) := by decide +kernel
theorem d_law_366 : decode code 366 = .ok (.iconst 1, 1) := by decide +kernel
theorem d_law_367 : decode code 367 = .ok (.iadd, 1) := by decide +kernel
theorem d_law_368 : decode code 368 = .ok (.iaload, 1) := by decide +kernel
theorem d_law_369 : decode code 369 = .ok (.invokevirtual 60, 3) := by decide +kernel
theorem d_law_372 : decode code 372 = .ok (.if_icmp .eq 74, 3) := by decide +kernel
theorem d_law_375 : decode code 375 = .ok (.iconst 0, 1) := by decide +kernel
theorem d_law_376 : decode code 376 = .ok (.ireturn, 1) := by decide +kernel
theorem d_law_377 : decode code 377 = .ok (.aload_n 1, 1) := by decide +kernel
theorem d_law_378 : decode code 378 = .ok (.aload_n 0, 1) := by decide +kernel
theorem d_law_379 : decode code 379 = .ok (.iload_n 3, 1) := by decide +kernel
theorem d_law_380 : decode code 380 = .ok (.iconst 1, 1) := by decide +kernel
theorem d_law_381 : decode code 381 = .ok (.iadd, 1) := by decide +kernel
theorem d_law_382 : decode code 382 = .ok (.iaload, 1) := by decide +kernel
theorem d_law_383 : decode code 383 = .ok (.invokevirtual 61, 3) := by decide +kernel
theorem d_law_386 : decode code 386 = .ok (.aload_n 2, 1) := by decide +kernel
theorem d_law_387 : decode code 387 = .ok (.aload_n 0, 1) := by decide +kernel
theorem d_law_388 : decode code 388 = .ok (.iload_n 3, 1) := by decide +kernel
theorem d_law_389 : decode code 389 = .ok (.iconst 1, 1) := by decide +kernel
theorem d_law_390 : decode code 390 = .ok (.iadd, 1) := by decide +kernel
theorem d_law_391 : decode code 391 = .ok (.iaload, 1) := by decide +kernel
theorem d_law_392 : decode code 392 = .ok (.invokevirtual 64, 3) := by decide +kernel
theorem d_law_395 : decode code 395 = .ok (.if_icmp .eq 51, 3) := by decide +kernel
theorem d_law_398 : decode code 398 = .ok (.iconst 0, 1) := by decide +kernel
theorem d_law_399 : decode code 399 = .ok (.ireturn, 1) := by decide +kernel
theorem d_law_400 : decode code 400 = .ok (.aload_n 1, 1) := by decide +kernel
theorem d_law_401 : decode code 401 = .ok (.aload_n 0, 1) := by decide +kernel
theorem d_law_402 : decode code 402 = .ok (.iload_n 3, 1) := by decide +kernel
theorem d_law_403 : decode code 403 = .ok (.iconst 1, 1) := by decide +kernel
theorem d_law_404 : decode code 404 = .ok (.iadd, 1) := by decide +kernel
theorem d_law_405 : decode code 405 = .ok (.iaload, 1) := by decide +kernel
theorem d_law_406 : decode code 406 = .ok (.aload_n 0, 1) := by decide +kernel
theorem d_law_407 : decode code 407 = .ok (.iload_n 3, 1) := by decide +kernel
theorem d_law_408 : decode code 408 = .ok (.iconst 2, 1) := by decide +kernel
theorem d_law_409 : decode code 409 = .ok (.iadd, 1) := by decide +kernel
theorem d_law_410 : decode code 410 = .ok (.iaload, 1) := by decide +kernel
theorem d_law_411 : decode code 411 = .ok (.invokevirtual 65, 3) := by decide +kernel
theorem d_law_414 : decode code 414 = .ok (.aload_n 2, 1) := by decide +kernel
theorem d_law_415 : decode code 415 = .ok (.aload_n 0, 1) := by decide +kernel
theorem d_law_416 : decode code 416 = .ok (.iload_n 3, 1) := by decide +kernel
theorem d_law_417 : decode code 417 = .ok (.iconst 1, 1) := by decide +kernel
theorem d_law_418 : decode code 418 = .ok (.iadd, 1) := by decide +kernel
theorem d_law_419 : decode code 419 = .ok (.iaload, 1) := by decide +kernel
theorem d_law_420 : decode code 420 = .ok (.aload_n 0, 1) := by decide +kernel
theorem d_law_421 : decode code 421 = .ok (.iload_n 3, 1) := by decide +kernel
theorem d_law_422 : decode code 422 = .ok (.iconst 2, 1) := by decide +kernel
theorem d_law_423 : decode code 423 = .ok (.iadd, 1) := by decide +kernel
theorem d_law_424 : decode code 424 = .ok (.iaload, 1) := by decide +kernel
theorem d_law_425 : decode code 425 = .ok (.invokevirtual 68, 3) := by decide +kernel
theorem d_law_428 : decode code 428 = .ok (.if_icmp .eq 18, 3) := by decide +kernel
theorem d_law_431 : decode code 431 = .ok (.iconst 0, 1) := by decide +kernel
theorem d_law_432 : decode code 432 = .ok (.ireturn, 1) := by decide +kernel
theorem d_law_433 : decode code 433 = .ok (.aload_n 1, 1) := by decide +kernel
theorem d_law_434 : decode code 434 = .ok (.invokevirtual 69, 3) := by decide +kernel
theorem d_law_437 : decode code 437 = .ok (.aload_n 2, 1) := by decide +kernel
theorem d_law_438 : decode code 438 = .ok (.invokevirtual 72, 3) := by decide +kernel
theorem d_law_441 : decode code 441 = .ok (.if_icmp .eq 5, 3) := by decide +kernel
theorem d_law_444 : decode code 444 = .ok (.iconst 0, 1) := by decide +kernel
theorem d_law_445 : decode code 445 = .ok (.ireturn, 1) := by decide +kernel
theorem d_law_446 : decode code 446 = .ok (.iinc 3 3, 3) := by decide +kernel
theorem d_law_449 : decode code 449 = .ok (.goto (-431), 3) := by decide +kernel
theorem d_law_452 : decode code 452 = .ok (.iconst 1, 1) := by decide +kernel
theorem d_law_453 : decode code 453 = .ok (.ireturn, 1) := by decide +kernel
def tb_law (L : Nat) (xs : Nat → Int32) : List pm_I := [
  pm_newo 1 0 2,
  pm_dup 2,
  pm_callc 3 0 1,
  pm_astore 4 1,
  pm_newo 5 8 24,
  pm_dup 6,
  pm_callc 7 69 1,
  pm_astore 8 2,
  pm_const 9 0,
  pm_istore 10 3,
  pm_iload 11 3,
  pm_aload 12 0,
  pm_slen 13 L,
  pm_const 14 3,
  pm_bin 15 (fun a b => a - b),
  pm_icmp 282 16 (fun a b => decide (b < a)),
  pm_aload 17 0,
  pm_iload 18 3,
  pm_sld 19 L xs,
  pm_const 20 15,
  pm_bin 21 (fun a b => a &&& b),
  pm_sw [(0, 22), (1, 49), (2, 66), (3, 93), (4, 110), (5, 117), (6, 144), (7, 161), (8, 178), (9, 195), (10, 212), (11, 229), (12, 246), (13, 273)] 280,
  pm_aload 23 1,
  pm_aload 24 0,
  pm_iload 25 3,
  pm_const 26 1,
  pm_bin 27 (fun a b => a + b),
  pm_sld 28 L xs,
  pm_aload 29 0,
  pm_iload 30 3,
  pm_const 31 2,
  pm_bin 32 (fun a b => a + b),
  pm_sld 33 L xs,
  pm_callv 34 1 3 0,
  pm_aload 35 2,
  pm_aload 36 0,
  pm_iload 37 3,
  pm_const 38 1,
  pm_bin 39 (fun a b => a + b),
  pm_sld 40 L xs,
  pm_aload 41 0,
  pm_iload 42 3,
  pm_const 43 2,
  pm_bin 44 (fun a b => a + b),
  pm_sld 45 L xs,
  pm_callv 46 70 3 8,
  pm_icmp 280 47 (fun a b => decide (a = b)),
  pm_const 48 0,
  pm_zret,
  pm_aload 50 1,
  pm_aload 51 0,
  pm_iload 52 3,
  pm_const 53 1,
  pm_bin 54 (fun a b => a + b),
  pm_sld 55 L xs,
  pm_callv 56 3 2 0,
  pm_aload 57 2,
  pm_aload 58 0,
  pm_iload 59 3,
  pm_const 60 1,
  pm_bin 61 (fun a b => a + b),
  pm_sld 62 L xs,
  pm_callv 63 72 2 8,
  pm_icmp 280 64 (fun a b => decide (a = b)),
  pm_const 65 0,
  pm_zret,
  pm_aload 67 1,
  pm_aload 68 0,
  pm_iload 69 3,
  pm_const 70 1,
  pm_bin 71 (fun a b => a + b),
  pm_sld 72 L xs,
  pm_aload 73 0,
  pm_iload 74 3,
  pm_const 75 2,
  pm_bin 76 (fun a b => a + b),
  pm_sld 77 L xs,
  pm_callv 78 4 3 0,
  pm_aload 79 2,
  pm_aload 80 0,
  pm_iload 81 3,
  pm_const 82 1,
  pm_bin 83 (fun a b => a + b),
  pm_sld 84 L xs,
  pm_aload 85 0,
  pm_iload 86 3,
  pm_const 87 2,
  pm_bin 88 (fun a b => a + b),
  pm_sld 89 L xs,
  pm_callv 90 79 3 8,
  pm_icmp 280 91 (fun a b => decide (a = b)),
  pm_const 92 0,
  pm_zret,
  pm_aload 94 1,
  pm_aload 95 0,
  pm_iload 96 3,
  pm_const 97 1,
  pm_bin 98 (fun a b => a + b),
  pm_sld 99 L xs,
  pm_callv 100 5 2 0,
  pm_aload 101 2,
  pm_aload 102 0,
  pm_iload 103 3,
  pm_const 104 1,
  pm_bin 105 (fun a b => a + b),
  pm_sld 106 L xs,
  pm_callv 107 80 2 8,
  pm_icmp 280 108 (fun a b => decide (a = b)),
  pm_const 109 0,
  pm_zret,
  pm_aload 111 1,
  pm_callv 112 6 1 0,
  pm_aload 113 2,
  pm_callv 114 83 1 8,
  pm_icmp 280 115 (fun a b => decide (a = b)),
  pm_const 116 0,
  pm_zret,
  pm_aload 118 1,
  pm_aload 119 0,
  pm_iload 120 3,
  pm_const 121 1,
  pm_bin 122 (fun a b => a + b),
  pm_sld 123 L xs,
  pm_aload 124 0,
  pm_iload 125 3,
  pm_const 126 2,
  pm_bin 127 (fun a b => a + b),
  pm_sld 128 L xs,
  pm_callv 129 7 3 0,
  pm_aload 130 2,
  pm_aload 131 0,
  pm_iload 132 3,
  pm_const 133 1,
  pm_bin 134 (fun a b => a + b),
  pm_sld 135 L xs,
  pm_aload 136 0,
  pm_iload 137 3,
  pm_const 138 2,
  pm_bin 139 (fun a b => a + b),
  pm_sld 140 L xs,
  pm_callv 141 84 3 8,
  pm_icmp 280 142 (fun a b => decide (a = b)),
  pm_const 143 0,
  pm_zret,
  pm_aload 145 1,
  pm_aload 146 0,
  pm_iload 147 3,
  pm_const 148 1,
  pm_bin 149 (fun a b => a + b),
  pm_sld 150 L xs,
  pm_callv 151 8 2 0,
  pm_aload 152 2,
  pm_aload 153 0,
  pm_iload 154 3,
  pm_const 155 1,
  pm_bin 156 (fun a b => a + b),
  pm_sld 157 L xs,
  pm_callv 158 88 2 8,
  pm_icmp 280 159 (fun a b => decide (a = b)),
  pm_const 160 0,
  pm_zret,
  pm_aload 162 1,
  pm_aload 163 0,
  pm_iload 164 3,
  pm_const 165 1,
  pm_bin 166 (fun a b => a + b),
  pm_sld 167 L xs,
  pm_callv 168 9 2 0,
  pm_aload 169 2,
  pm_aload 170 0,
  pm_iload 171 3,
  pm_const 172 1,
  pm_bin 173 (fun a b => a + b),
  pm_sld 174 L xs,
  pm_callv 175 96 2 8,
  pm_icmp 280 176 (fun a b => decide (a = b)),
  pm_const 177 0,
  pm_zret,
  pm_aload 179 1,
  pm_aload 180 0,
  pm_iload 181 3,
  pm_const 182 1,
  pm_bin 183 (fun a b => a + b),
  pm_sld 184 L xs,
  pm_callv 185 10 2 0,
  pm_aload 186 2,
  pm_aload 187 0,
  pm_iload 188 3,
  pm_const 189 1,
  pm_bin 190 (fun a b => a + b),
  pm_sld 191 L xs,
  pm_callv 192 97 2 8,
  pm_icmp 280 193 (fun a b => decide (a = b)),
  pm_const 194 0,
  pm_zret,
  pm_aload 196 1,
  pm_aload 197 0,
  pm_iload 198 3,
  pm_const 199 1,
  pm_bin 200 (fun a b => a + b),
  pm_sld 201 L xs,
  pm_callv 202 11 2 0,
  pm_aload 203 2,
  pm_aload 204 0,
  pm_iload 205 3,
  pm_const 206 1,
  pm_bin 207 (fun a b => a + b),
  pm_sld 208 L xs,
  pm_callv 209 98 2 8,
  pm_icmp 280 210 (fun a b => decide (a = b)),
  pm_const 211 0,
  pm_zret,
  pm_aload 213 1,
  pm_aload 214 0,
  pm_iload 215 3,
  pm_const 216 1,
  pm_bin 217 (fun a b => a + b),
  pm_sld 218 L xs,
  pm_callv 219 12 2 0,
  pm_aload 220 2,
  pm_aload 221 0,
  pm_iload 222 3,
  pm_const 223 1,
  pm_bin 224 (fun a b => a + b),
  pm_sld 225 L xs,
  pm_callv 226 99 2 8,
  pm_icmp 280 227 (fun a b => decide (a = b)),
  pm_const 228 0,
  pm_zret,
  pm_aload 230 1,
  pm_aload 231 0,
  pm_iload 232 3,
  pm_const 233 1,
  pm_bin 234 (fun a b => a + b),
  pm_sld 235 L xs,
  pm_callv 236 13 2 0,
  pm_aload 237 2,
  pm_aload 238 0,
  pm_iload 239 3,
  pm_const 240 1,
  pm_bin 241 (fun a b => a + b),
  pm_sld 242 L xs,
  pm_callv 243 100 2 8,
  pm_icmp 280 244 (fun a b => decide (a = b)),
  pm_const 245 0,
  pm_zret,
  pm_aload 247 1,
  pm_aload 248 0,
  pm_iload 249 3,
  pm_const 250 1,
  pm_bin 251 (fun a b => a + b),
  pm_sld 252 L xs,
  pm_aload 253 0,
  pm_iload 254 3,
  pm_const 255 2,
  pm_bin 256 (fun a b => a + b),
  pm_sld 257 L xs,
  pm_callv 258 14 3 0,
  pm_aload 259 2,
  pm_aload 260 0,
  pm_iload 261 3,
  pm_const 262 1,
  pm_bin 263 (fun a b => a + b),
  pm_sld 264 L xs,
  pm_aload 265 0,
  pm_iload 266 3,
  pm_const 267 2,
  pm_bin 268 (fun a b => a + b),
  pm_sld 269 L xs,
  pm_callv 270 101 3 8,
  pm_icmp 280 271 (fun a b => decide (a = b)),
  pm_const 272 0,
  pm_zret,
  pm_aload 274 1,
  pm_callv 275 15 1 0,
  pm_aload 276 2,
  pm_callv 277 102 1 8,
  pm_icmp 280 278 (fun a b => decide (a = b)),
  pm_const 279 0,
  pm_zret,
  pm_iinc 281 3 3,
  pm_goto 10,
  pm_const 283 1,
  pm_zret]
def bp_law : List Nat := [0, 3, 4, 7, 8, 11, 12, 15, 16, 17, 18, 19, 20, 21, 22, 23, 26, 27, 28, 29, 31, 32, 104, 105, 106, 107, 108, 109, 110, 111, 112, 113, 114, 115, 118, 119, 120, 121, 122, 123, 124, 125, 126, 127, 128, 129, 132, 135, 136, 137, 138, 139, 140, 141, 142, 143, 146, 147, 148, 149, 150, 151, 152, 155, 158, 159, 160, 161, 162, 163, 164, 165, 166, 167, 168, 169, 170, 171, 174, 175, 176, 177, 178, 179, 180, 181, 182, 183, 184, 185, 188, 191, 192, 193, 194, 195, 196, 197, 198, 199, 202, 203, 204, 205, 206, 207, 208, 211, 214, 215, 216, 217, 220, 221, 224, 227, 228, 229, 230, 231, 232, 233, 234, 235, 236, 237, 238, 239, 240, 243, 244, 245, 246, 247, 248, 249, 250, 251, 252, 253, 254, 257, 260, 261, 262, 263, 264, 265, 266, 267, 268, 271, 272, 273, 274, 275, 276, 277, 280, 283, 284, 285, 286, 287, 288, 289, 290, 291, 294, 295, 296, 297, 298, 299, 300, 303, 306, 307, 308, 309, 310, 311, 312, 313, 314, 317, 318, 319, 320, 321, 322, 323, 326, 329, 330, 331, 332, 333, 334, 335, 336, 337, 340, 341, 342, 343, 344, 345, 346, 349, 352, 353, 354, 355, 356, 357, 358, 359, 360, 363, 364, 365, 366, 367, 368, 369, 372, 375, 376, 377, 378, 379, 380, 381, 382, 383, 386, 387, 388, 389, 390, 391, 392, 395, 398, 399, 400, 401, 402, 403, 404, 405, 406, 407, 408, 409, 410, 411, 414, 415, 416, 417, 418, 419, 420, 421, 422, 423, 424, 425, 428, 431, 432, 433, 434, 437, 438, 441, 444, 445, 446, 449, 452, 453]
def pm_Sk (P : Nat → pm_I → Prop) : Nat → List pm_I → Prop
  | _, [] => True
  | i, f :: l => P i f ∧ pm_Sk P (i + 1) l
theorem pm_Sk_at {P : Nat → pm_I → Prop} : ∀ (l : List pm_I) (i : Nat), pm_Sk P i l → ∀ (j : Nat) (f : pm_I), l[j]? = some f → P (i + j) f := by
  intro l
  induction l with
  | nil => intro i _ j f h; cases h
  | cons g l ih =>
    intro i h j f hj
    cases j with
    | zero => cases hj; exact h.1
    | succ j =>
      have := ih (i + 1) h.2 j f (by simpa using hj)
      rw [show i + (j + 1) = i + 1 + j by omega]
      exact this
section LAW
variable {p : Program} {l : Launch} {e : Env} {R : Room} {s : State} {m : MethodId} {args : Array Value} {below : List Frame} {meth : Method} {c : Code} {Q : State → Prop} {D : va_G} {aC : Nat → ClassId} {z bS : Nat}
/-- an instruction of the law's, in its one activation -/
def pm_cx (p : Program) (l : Launch) (e : Env) (R : Room) (s : State) (m : MethodId) (args : Array Value) (below : List Frame) (meth : Method) (c : Code) (Q : State → Prop) (D : va_G) (aC : Nat → ClassId) (z bS : Nat) (i : Nat) (f : pm_I) : Prop :=
  ∀ (lc st : List Value) (h : pm_H) (o : pm_O), f lc st h = some o → pm_Sm p l e R s m args below meth c Q D aC z bS 4 (pm_b bp_law) i code ret pm_Y lc st h o
theorem pm_of (X : pm_X p R s m meth c code 4 R_Law meth.name D aC z) {i : Nat} {f : pm_I} (h : pm_S code 4 R_Law meth.name ret pm_Y (pm_b bp_law) i f) : pm_cx p l e R s m args below meth c Q D aC z bS i f := fun lc st g o ho => h p l e R s m args below meth c Q D aC z bS X lc st g o ho
theorem so_sld (X : pm_X p R s m meth c code 4 R_Law meth.name D aC z) {L : Nat} {xs : Nat → Int32} (hX : va_X bS L xs s s.heap) (hbz : bS < z) {i x : Nat} (hd : decode code (pm_b bp_law i) = .ok (.iaload, 1)) (hx : pm_b bp_law x = pm_b bp_law i + 1) : pm_cx p l e R s m args below meth c Q D aC z bS i (pm_sld x L xs) := by
  intro lc st h o ho
  unfold pm_sld at ho
  split at ho
  · split at ho
    · rename_i j w st' hj
      cases ho
      simp only [Bool.not_eq_true', Bool.or_eq_false_iff, decide_eq_false_iff_not] at hj
      refine pm_keep fun H locs ls kc ks hL hkc hks k => ?_
      have k := k ls hL.2.2
      rw [hx] at k
      exact va_sld X.1 X.2.1 hX (Nat.lt_of_lt_of_le hbz X.2.2.2.2.2.1) (show ¬ z ≤ bS by omega) hL.2.1 (fun g => g.elim hj.1 hj.2) hd k
    · cases ho
  · cases ho
theorem so_slen (X : pm_X p R s m meth c code 4 R_Law meth.name D aC z) {L : Nat} {xs : Nat → Int32} (hX : va_X bS L xs s s.heap) (hbz : bS < z) {i x : Nat} (hd : decode code (pm_b bp_law i) = .ok (.arraylength, 1)) (hx : pm_b bp_law x = pm_b bp_law i + 1) : pm_cx p l e R s m args below meth c Q D aC z bS i (pm_slen x L) := by
  intro lc st h o ho
  unfold pm_slen at ho
  split at ho
  · cases ho
    refine pm_keep fun H locs ls kc ks hL hkc hks k => ?_
    have k := k ls hL.2.2
    rw [hx] at k
    exact va_slen X.1 X.2.1 hX (Nat.lt_of_lt_of_le hbz X.2.2.2.2.2.1) (show ¬ z ≤ bS by omega) hL.2.1 hd k
  · cases ho
set_option maxRecDepth 100000 in
theorem sd_law (X : pm_X p R s m meth c code 4 R_Law meth.name D aC z) {L : Nat} {xs : Nat → Int32} (hX : va_X bS L xs s s.heap) (hbz : bS < z) : pm_Sk (pm_cx p l e R s m args below meth c Q D aC z bS) 0 (tb_law L xs) := by
  refine ⟨pm_of X (so_newo (ci := 0) rfl (by decide +kernel) (pm_in1 (List.mem_append_left _ (List.mem_of_getElem? (i := 13) rfl))) (pm_in1 (List.mem_append_left _ (List.mem_of_getElem? (i := 14) rfl))) (pm_in1 (List.mem_append_left _ (List.mem_of_getElem? (i := 1) rfl))) d_law_0 rfl), ?_⟩
  refine ⟨pm_of X (so_dup d_law_3 rfl), ?_⟩
  refine ⟨pm_of X (so_callc rfl rfl mc_Lo_init mi_Lo mj_Lo_init ml_Law_9 yd_Lo_init (by decide) d_law_4 rfl), ?_⟩
  refine ⟨pm_of X (so_astoren d_law_7 rfl (by decide) rfl), ?_⟩
  refine ⟨pm_of X (so_newo (ci := 8) rfl (by decide +kernel) (pm_in1 (List.mem_append_right _ (List.mem_append_left _ (List.mem_of_getElem? (i := 222) rfl)))) (pm_in1 (List.mem_append_right _ (List.mem_append_left _ (List.mem_of_getElem? (i := 223) rfl)))) (pm_in1 (List.mem_append_left _ (List.mem_of_getElem? (i := 10) rfl))) d_law_8 rfl), ?_⟩
  refine ⟨pm_of X (so_dup d_law_11 rfl), ?_⟩
  refine ⟨pm_of X (so_callc rfl rfl mc_Mo_init mi_Mo mj_Mo_init ml_Law_12 yd_Mo_init (by decide) d_law_12 rfl), ?_⟩
  refine ⟨pm_of X (so_astoren d_law_15 rfl (by decide) rfl), ?_⟩
  refine ⟨pm_of X (so_const1 d_law_16 (by decide) rfl), ?_⟩
  refine ⟨pm_of X (so_istoren d_law_17 rfl (by decide) rfl), ?_⟩
  refine ⟨pm_of X (so_iloadn d_law_18 rfl rfl), ?_⟩
  refine ⟨pm_of X (so_aloadn d_law_19 rfl rfl), ?_⟩
  refine ⟨so_slen X hX hbz d_law_20 rfl, ?_⟩
  refine ⟨pm_of X (so_const1 d_law_21 (by decide) rfl), ?_⟩
  refine ⟨pm_of X (so_isub d_law_22 rfl), ?_⟩
  refine ⟨pm_of X (so_icmp_gt d_law_23 rfl rfl), ?_⟩
  refine ⟨pm_of X (so_aloadn d_law_26 rfl rfl), ?_⟩
  refine ⟨pm_of X (so_iloadn d_law_27 rfl rfl), ?_⟩
  refine ⟨so_sld X hX hbz d_law_28 rfl, ?_⟩
  refine ⟨pm_of X (so_const2 d_law_29 (by decide) rfl), ?_⟩
  refine ⟨pm_of X (so_iand d_law_31 rfl), ?_⟩
  refine ⟨pm_of X (so_tsw d_law_32 (by decide +kernel) (by decide +kernel) rfl), ?_⟩
  refine ⟨pm_of X (so_aloadn d_law_104 rfl rfl), ?_⟩
  refine ⟨pm_of X (so_aloadn d_law_105 rfl rfl), ?_⟩
  refine ⟨pm_of X (so_iloadn d_law_106 rfl rfl), ?_⟩
  refine ⟨pm_of X (so_const1 d_law_107 (by decide) rfl), ?_⟩
  refine ⟨pm_of X (so_iadd d_law_108 rfl), ?_⟩
  refine ⟨so_sld X hX hbz d_law_109 rfl, ?_⟩
  refine ⟨pm_of X (so_aloadn d_law_110 rfl rfl), ?_⟩
  refine ⟨pm_of X (so_iloadn d_law_111 rfl rfl), ?_⟩
  refine ⟨pm_of X (so_const1 d_law_112 (by decide) rfl), ?_⟩
  refine ⟨pm_of X (so_iadd d_law_113 rfl), ?_⟩
  refine ⟨so_sld X hX hbz d_law_114 rfl, ?_⟩
  refine ⟨pm_of X (so_callv (ci := 0) rfl rfl mc_Lo_statement mi_Lo mj_Lo_statement ms_Lo_statement ml_Law_13 yd_Lo_statement (by decide) d_law_115 rfl), ?_⟩
  refine ⟨pm_of X (so_aloadn d_law_118 rfl rfl), ?_⟩
  refine ⟨pm_of X (so_aloadn d_law_119 rfl rfl), ?_⟩
  refine ⟨pm_of X (so_iloadn d_law_120 rfl rfl), ?_⟩
  refine ⟨pm_of X (so_const1 d_law_121 (by decide) rfl), ?_⟩
  refine ⟨pm_of X (so_iadd d_law_122 rfl), ?_⟩
  refine ⟨so_sld X hX hbz d_law_123 rfl, ?_⟩
  refine ⟨pm_of X (so_aloadn d_law_124 rfl rfl), ?_⟩
  refine ⟨pm_of X (so_iloadn d_law_125 rfl rfl), ?_⟩
  refine ⟨pm_of X (so_const1 d_law_126 (by decide) rfl), ?_⟩
  refine ⟨pm_of X (so_iadd d_law_127 rfl), ?_⟩
  refine ⟨so_sld X hX hbz d_law_128 rfl, ?_⟩
  refine ⟨pm_of X (so_callv (ci := 8) rfl rfl mc_Mo_statement mi_Mo mj_Mo_statement ms_Mo_statement ml_Law_17 yd_Mo_statement (by decide) d_law_129 rfl), ?_⟩
  refine ⟨pm_of X (so_icmp_eq d_law_132 rfl rfl), ?_⟩
  refine ⟨pm_of X (so_const1 d_law_135 (by decide) rfl), ?_⟩
  refine ⟨pm_of X (so_zret d_law_136 rfl), ?_⟩
  refine ⟨pm_of X (so_aloadn d_law_137 rfl rfl), ?_⟩
  refine ⟨pm_of X (so_aloadn d_law_138 rfl rfl), ?_⟩
  refine ⟨pm_of X (so_iloadn d_law_139 rfl rfl), ?_⟩
  refine ⟨pm_of X (so_const1 d_law_140 (by decide) rfl), ?_⟩
  refine ⟨pm_of X (so_iadd d_law_141 rfl), ?_⟩
  refine ⟨so_sld X hX hbz d_law_142 rfl, ?_⟩
  refine ⟨pm_of X (so_callv (ci := 0) rfl rfl mc_Lo_body mi_Lo mj_Lo_body ms_Lo_body ml_Law_18 yd_Lo_body (by decide) d_law_143 rfl), ?_⟩
  refine ⟨pm_of X (so_aloadn d_law_146 rfl rfl), ?_⟩
  refine ⟨pm_of X (so_aloadn d_law_147 rfl rfl), ?_⟩
  refine ⟨pm_of X (so_iloadn d_law_148 rfl rfl), ?_⟩
  refine ⟨pm_of X (so_const1 d_law_149 (by decide) rfl), ?_⟩
  refine ⟨pm_of X (so_iadd d_law_150 rfl), ?_⟩
  refine ⟨so_sld X hX hbz d_law_151 rfl, ?_⟩
  refine ⟨pm_of X (so_callv (ci := 8) rfl rfl mc_Mo_body mi_Mo mj_Mo_body ms_Mo_body ml_Law_22 yd_Mo_body (by decide) d_law_152 rfl), ?_⟩
  refine ⟨pm_of X (so_icmp_eq d_law_155 rfl rfl), ?_⟩
  refine ⟨pm_of X (so_const1 d_law_158 (by decide) rfl), ?_⟩
  refine ⟨pm_of X (so_zret d_law_159 rfl), ?_⟩
  refine ⟨pm_of X (so_aloadn d_law_160 rfl rfl), ?_⟩
  refine ⟨pm_of X (so_aloadn d_law_161 rfl rfl), ?_⟩
  refine ⟨pm_of X (so_iloadn d_law_162 rfl rfl), ?_⟩
  refine ⟨pm_of X (so_const1 d_law_163 (by decide) rfl), ?_⟩
  refine ⟨pm_of X (so_iadd d_law_164 rfl), ?_⟩
  refine ⟨so_sld X hX hbz d_law_165 rfl, ?_⟩
  refine ⟨pm_of X (so_aloadn d_law_166 rfl rfl), ?_⟩
  refine ⟨pm_of X (so_iloadn d_law_167 rfl rfl), ?_⟩
  refine ⟨pm_of X (so_const1 d_law_168 (by decide) rfl), ?_⟩
  refine ⟨pm_of X (so_iadd d_law_169 rfl), ?_⟩
  refine ⟨so_sld X hX hbz d_law_170 rfl, ?_⟩
  refine ⟨pm_of X (so_callv (ci := 0) rfl rfl mc_Lo_guard mi_Lo mj_Lo_guard ms_Lo_guard ml_Law_23 yd_Lo_guard (by decide) d_law_171 rfl), ?_⟩
  refine ⟨pm_of X (so_aloadn d_law_174 rfl rfl), ?_⟩
  refine ⟨pm_of X (so_aloadn d_law_175 rfl rfl), ?_⟩
  refine ⟨pm_of X (so_iloadn d_law_176 rfl rfl), ?_⟩
  refine ⟨pm_of X (so_const1 d_law_177 (by decide) rfl), ?_⟩
  refine ⟨pm_of X (so_iadd d_law_178 rfl), ?_⟩
  refine ⟨so_sld X hX hbz d_law_179 rfl, ?_⟩
  refine ⟨pm_of X (so_aloadn d_law_180 rfl rfl), ?_⟩
  refine ⟨pm_of X (so_iloadn d_law_181 rfl rfl), ?_⟩
  refine ⟨pm_of X (so_const1 d_law_182 (by decide) rfl), ?_⟩
  refine ⟨pm_of X (so_iadd d_law_183 rfl), ?_⟩
  refine ⟨so_sld X hX hbz d_law_184 rfl, ?_⟩
  refine ⟨pm_of X (so_callv (ci := 8) rfl rfl mc_Mo_guard mi_Mo mj_Mo_guard ms_Mo_guard ml_Law_27 yd_Mo_guard (by decide) d_law_185 rfl), ?_⟩
  refine ⟨pm_of X (so_icmp_eq d_law_188 rfl rfl), ?_⟩
  refine ⟨pm_of X (so_const1 d_law_191 (by decide) rfl), ?_⟩
  refine ⟨pm_of X (so_zret d_law_192 rfl), ?_⟩
  refine ⟨pm_of X (so_aloadn d_law_193 rfl rfl), ?_⟩
  refine ⟨pm_of X (so_aloadn d_law_194 rfl rfl), ?_⟩
  refine ⟨pm_of X (so_iloadn d_law_195 rfl rfl), ?_⟩
  refine ⟨pm_of X (so_const1 d_law_196 (by decide) rfl), ?_⟩
  refine ⟨pm_of X (so_iadd d_law_197 rfl), ?_⟩
  refine ⟨so_sld X hX hbz d_law_198 rfl, ?_⟩
  refine ⟨pm_of X (so_callv (ci := 0) rfl rfl mc_Lo_check mi_Lo mj_Lo_check ms_Lo_check ml_Law_28 yd_Lo_check (by decide) d_law_199 rfl), ?_⟩
  refine ⟨pm_of X (so_aloadn d_law_202 rfl rfl), ?_⟩
  refine ⟨pm_of X (so_aloadn d_law_203 rfl rfl), ?_⟩
  refine ⟨pm_of X (so_iloadn d_law_204 rfl rfl), ?_⟩
  refine ⟨pm_of X (so_const1 d_law_205 (by decide) rfl), ?_⟩
  refine ⟨pm_of X (so_iadd d_law_206 rfl), ?_⟩
  refine ⟨so_sld X hX hbz d_law_207 rfl, ?_⟩
  refine ⟨pm_of X (so_callv (ci := 8) rfl rfl mc_Mo_check mi_Mo mj_Mo_check ms_Mo_check ml_Law_31 yd_Mo_check (by decide) d_law_208 rfl), ?_⟩
  refine ⟨pm_of X (so_icmp_eq d_law_211 rfl rfl), ?_⟩
  refine ⟨pm_of X (so_const1 d_law_214 (by decide) rfl), ?_⟩
  refine ⟨pm_of X (so_zret d_law_215 rfl), ?_⟩
  refine ⟨pm_of X (so_aloadn d_law_216 rfl rfl), ?_⟩
  refine ⟨pm_of X (so_callv (ci := 0) rfl rfl mc_Lo_sound mi_Lo mj_Lo_sound ms_Lo_sound ml_Law_32 yd_Lo_sound (by decide) d_law_217 rfl), ?_⟩
  refine ⟨pm_of X (so_aloadn d_law_220 rfl rfl), ?_⟩
  refine ⟨pm_of X (so_callv (ci := 8) rfl rfl mc_Mo_sound mi_Mo mj_Mo_sound ms_Mo_sound ml_Law_36 yd_Mo_sound (by decide) d_law_221 rfl), ?_⟩
  refine ⟨pm_of X (so_icmp_eq d_law_224 rfl rfl), ?_⟩
  refine ⟨pm_of X (so_const1 d_law_227 (by decide) rfl), ?_⟩
  refine ⟨pm_of X (so_zret d_law_228 rfl), ?_⟩
  refine ⟨pm_of X (so_aloadn d_law_229 rfl rfl), ?_⟩
  refine ⟨pm_of X (so_aloadn d_law_230 rfl rfl), ?_⟩
  refine ⟨pm_of X (so_iloadn d_law_231 rfl rfl), ?_⟩
  refine ⟨pm_of X (so_const1 d_law_232 (by decide) rfl), ?_⟩
  refine ⟨pm_of X (so_iadd d_law_233 rfl), ?_⟩
  refine ⟨so_sld X hX hbz d_law_234 rfl, ?_⟩
  refine ⟨pm_of X (so_aloadn d_law_235 rfl rfl), ?_⟩
  refine ⟨pm_of X (so_iloadn d_law_236 rfl rfl), ?_⟩
  refine ⟨pm_of X (so_const1 d_law_237 (by decide) rfl), ?_⟩
  refine ⟨pm_of X (so_iadd d_law_238 rfl), ?_⟩
  refine ⟨so_sld X hX hbz d_law_239 rfl, ?_⟩
  refine ⟨pm_of X (so_callv (ci := 0) rfl rfl mc_Lo_start mi_Lo mj_Lo_start ms_Lo_start ml_Law_37 yd_Lo_start (by decide) d_law_240 rfl), ?_⟩
  refine ⟨pm_of X (so_aloadn d_law_243 rfl rfl), ?_⟩
  refine ⟨pm_of X (so_aloadn d_law_244 rfl rfl), ?_⟩
  refine ⟨pm_of X (so_iloadn d_law_245 rfl rfl), ?_⟩
  refine ⟨pm_of X (so_const1 d_law_246 (by decide) rfl), ?_⟩
  refine ⟨pm_of X (so_iadd d_law_247 rfl), ?_⟩
  refine ⟨so_sld X hX hbz d_law_248 rfl, ?_⟩
  refine ⟨pm_of X (so_aloadn d_law_249 rfl rfl), ?_⟩
  refine ⟨pm_of X (so_iloadn d_law_250 rfl rfl), ?_⟩
  refine ⟨pm_of X (so_const1 d_law_251 (by decide) rfl), ?_⟩
  refine ⟨pm_of X (so_iadd d_law_252 rfl), ?_⟩
  refine ⟨so_sld X hX hbz d_law_253 rfl, ?_⟩
  refine ⟨pm_of X (so_callv (ci := 8) rfl rfl mc_Mo_start mi_Mo mj_Mo_start ms_Mo_start ml_Law_40 yd_Mo_start (by decide) d_law_254 rfl), ?_⟩
  refine ⟨pm_of X (so_icmp_eq d_law_257 rfl rfl), ?_⟩
  refine ⟨pm_of X (so_const1 d_law_260 (by decide) rfl), ?_⟩
  refine ⟨pm_of X (so_zret d_law_261 rfl), ?_⟩
  refine ⟨pm_of X (so_aloadn d_law_262 rfl rfl), ?_⟩
  refine ⟨pm_of X (so_aloadn d_law_263 rfl rfl), ?_⟩
  refine ⟨pm_of X (so_iloadn d_law_264 rfl rfl), ?_⟩
  refine ⟨pm_of X (so_const1 d_law_265 (by decide) rfl), ?_⟩
  refine ⟨pm_of X (so_iadd d_law_266 rfl), ?_⟩
  refine ⟨so_sld X hX hbz d_law_267 rfl, ?_⟩
  refine ⟨pm_of X (so_callv (ci := 0) rfl rfl mc_Lo_step mi_Lo mj_Lo_step ms_Lo_step ml_Law_41 yd_Lo_step (by decide) d_law_268 rfl), ?_⟩
  refine ⟨pm_of X (so_aloadn d_law_271 rfl rfl), ?_⟩
  refine ⟨pm_of X (so_aloadn d_law_272 rfl rfl), ?_⟩
  refine ⟨pm_of X (so_iloadn d_law_273 rfl rfl), ?_⟩
  refine ⟨pm_of X (so_const1 d_law_274 (by decide) rfl), ?_⟩
  refine ⟨pm_of X (so_iadd d_law_275 rfl), ?_⟩
  refine ⟨so_sld X hX hbz d_law_276 rfl, ?_⟩
  refine ⟨pm_of X (so_callv (ci := 8) rfl rfl mc_Mo_step mi_Mo mj_Mo_step ms_Mo_step ml_Law_44 yd_Mo_step (by decide) d_law_277 rfl), ?_⟩
  refine ⟨pm_of X (so_icmp_eq d_law_280 rfl rfl), ?_⟩
  refine ⟨pm_of X (so_const1 d_law_283 (by decide) rfl), ?_⟩
  refine ⟨pm_of X (so_zret d_law_284 rfl), ?_⟩
  refine ⟨pm_of X (so_aloadn d_law_285 rfl rfl), ?_⟩
  refine ⟨pm_of X (so_aloadn d_law_286 rfl rfl), ?_⟩
  refine ⟨pm_of X (so_iloadn d_law_287 rfl rfl), ?_⟩
  refine ⟨pm_of X (so_const1 d_law_288 (by decide) rfl), ?_⟩
  refine ⟨pm_of X (so_iadd d_law_289 rfl), ?_⟩
  refine ⟨so_sld X hX hbz d_law_290 rfl, ?_⟩
  refine ⟨pm_of X (so_callv (ci := 0) rfl rfl mc_Lo_has mi_Lo mj_Lo_has ms_Lo_has ml_Law_45 yd_Lo_has (by decide) d_law_291 rfl), ?_⟩
  refine ⟨pm_of X (so_aloadn d_law_294 rfl rfl), ?_⟩
  refine ⟨pm_of X (so_aloadn d_law_295 rfl rfl), ?_⟩
  refine ⟨pm_of X (so_iloadn d_law_296 rfl rfl), ?_⟩
  refine ⟨pm_of X (so_const1 d_law_297 (by decide) rfl), ?_⟩
  refine ⟨pm_of X (so_iadd d_law_298 rfl), ?_⟩
  refine ⟨so_sld X hX hbz d_law_299 rfl, ?_⟩
  refine ⟨pm_of X (so_callv (ci := 8) rfl rfl mc_Mo_has mi_Mo mj_Mo_has ms_Mo_has ml_Law_48 yd_Mo_has (by decide) d_law_300 rfl), ?_⟩
  refine ⟨pm_of X (so_icmp_eq d_law_303 rfl rfl), ?_⟩
  refine ⟨pm_of X (so_const1 d_law_306 (by decide) rfl), ?_⟩
  refine ⟨pm_of X (so_zret d_law_307 rfl), ?_⟩
  refine ⟨pm_of X (so_aloadn d_law_308 rfl rfl), ?_⟩
  refine ⟨pm_of X (so_aloadn d_law_309 rfl rfl), ?_⟩
  refine ⟨pm_of X (so_iloadn d_law_310 rfl rfl), ?_⟩
  refine ⟨pm_of X (so_const1 d_law_311 (by decide) rfl), ?_⟩
  refine ⟨pm_of X (so_iadd d_law_312 rfl), ?_⟩
  refine ⟨so_sld X hX hbz d_law_313 rfl, ?_⟩
  refine ⟨pm_of X (so_callv (ci := 0) rfl rfl mc_Lo_cell mi_Lo mj_Lo_cell ms_Lo_cell ml_Law_49 yd_Lo_cell (by decide) d_law_314 rfl), ?_⟩
  refine ⟨pm_of X (so_aloadn d_law_317 rfl rfl), ?_⟩
  refine ⟨pm_of X (so_aloadn d_law_318 rfl rfl), ?_⟩
  refine ⟨pm_of X (so_iloadn d_law_319 rfl rfl), ?_⟩
  refine ⟨pm_of X (so_const1 d_law_320 (by decide) rfl), ?_⟩
  refine ⟨pm_of X (so_iadd d_law_321 rfl), ?_⟩
  refine ⟨so_sld X hX hbz d_law_322 rfl, ?_⟩
  refine ⟨pm_of X (so_callv (ci := 8) rfl rfl mc_Mo_cell mi_Mo mj_Mo_cell ms_Mo_cell ml_Law_52 yd_Mo_cell (by decide) d_law_323 rfl), ?_⟩
  refine ⟨pm_of X (so_icmp_eq d_law_326 rfl rfl), ?_⟩
  refine ⟨pm_of X (so_const1 d_law_329 (by decide) rfl), ?_⟩
  refine ⟨pm_of X (so_zret d_law_330 rfl), ?_⟩
  refine ⟨pm_of X (so_aloadn d_law_331 rfl rfl), ?_⟩
  refine ⟨pm_of X (so_aloadn d_law_332 rfl rfl), ?_⟩
  refine ⟨pm_of X (so_iloadn d_law_333 rfl rfl), ?_⟩
  refine ⟨pm_of X (so_const1 d_law_334 (by decide) rfl), ?_⟩
  refine ⟨pm_of X (so_iadd d_law_335 rfl), ?_⟩
  refine ⟨so_sld X hX hbz d_law_336 rfl, ?_⟩
  refine ⟨pm_of X (so_callv (ci := 0) rfl rfl mc_Lo_holder mi_Lo mj_Lo_holder ms_Lo_holder ml_Law_53 yd_Lo_holder (by decide) d_law_337 rfl), ?_⟩
  refine ⟨pm_of X (so_aloadn d_law_340 rfl rfl), ?_⟩
  refine ⟨pm_of X (so_aloadn d_law_341 rfl rfl), ?_⟩
  refine ⟨pm_of X (so_iloadn d_law_342 rfl rfl), ?_⟩
  refine ⟨pm_of X (so_const1 d_law_343 (by decide) rfl), ?_⟩
  refine ⟨pm_of X (so_iadd d_law_344 rfl), ?_⟩
  refine ⟨so_sld X hX hbz d_law_345 rfl, ?_⟩
  refine ⟨pm_of X (so_callv (ci := 8) rfl rfl mc_Mo_holder mi_Mo mj_Mo_holder ms_Mo_holder ml_Law_56 yd_Mo_holder (by decide) d_law_346 rfl), ?_⟩
  refine ⟨pm_of X (so_icmp_eq d_law_349 rfl rfl), ?_⟩
  refine ⟨pm_of X (so_const1 d_law_352 (by decide) rfl), ?_⟩
  refine ⟨pm_of X (so_zret d_law_353 rfl), ?_⟩
  refine ⟨pm_of X (so_aloadn d_law_354 rfl rfl), ?_⟩
  refine ⟨pm_of X (so_aloadn d_law_355 rfl rfl), ?_⟩
  refine ⟨pm_of X (so_iloadn d_law_356 rfl rfl), ?_⟩
  refine ⟨pm_of X (so_const1 d_law_357 (by decide) rfl), ?_⟩
  refine ⟨pm_of X (so_iadd d_law_358 rfl), ?_⟩
  refine ⟨so_sld X hX hbz d_law_359 rfl, ?_⟩
  refine ⟨pm_of X (so_callv (ci := 0) rfl rfl mc_Lo_state mi_Lo mj_Lo_state ms_Lo_state ml_Law_57 yd_Lo_state (by decide) d_law_360 rfl), ?_⟩
  refine ⟨pm_of X (so_aloadn d_law_363 rfl rfl), ?_⟩
  refine ⟨pm_of X (so_aloadn d_law_364 rfl rfl), ?_⟩
  refine ⟨pm_of X (so_iloadn d_law_365 rfl rfl), ?_⟩
  refine ⟨pm_of X (so_const1 d_law_366 (by decide) rfl), ?_⟩
  refine ⟨pm_of X (so_iadd d_law_367 rfl), ?_⟩
  refine ⟨so_sld X hX hbz d_law_368 rfl, ?_⟩
  refine ⟨pm_of X (so_callv (ci := 8) rfl rfl mc_Mo_state mi_Mo mj_Mo_state ms_Mo_state ml_Law_60 yd_Mo_state (by decide) d_law_369 rfl), ?_⟩
  refine ⟨pm_of X (so_icmp_eq d_law_372 rfl rfl), ?_⟩
  refine ⟨pm_of X (so_const1 d_law_375 (by decide) rfl), ?_⟩
  refine ⟨pm_of X (so_zret d_law_376 rfl), ?_⟩
  refine ⟨pm_of X (so_aloadn d_law_377 rfl rfl), ?_⟩
  refine ⟨pm_of X (so_aloadn d_law_378 rfl rfl), ?_⟩
  refine ⟨pm_of X (so_iloadn d_law_379 rfl rfl), ?_⟩
  refine ⟨pm_of X (so_const1 d_law_380 (by decide) rfl), ?_⟩
  refine ⟨pm_of X (so_iadd d_law_381 rfl), ?_⟩
  refine ⟨so_sld X hX hbz d_law_382 rfl, ?_⟩
  refine ⟨pm_of X (so_callv (ci := 0) rfl rfl mc_Lo_count mi_Lo mj_Lo_count ms_Lo_count ml_Law_61 yd_Lo_count (by decide) d_law_383 rfl), ?_⟩
  refine ⟨pm_of X (so_aloadn d_law_386 rfl rfl), ?_⟩
  refine ⟨pm_of X (so_aloadn d_law_387 rfl rfl), ?_⟩
  refine ⟨pm_of X (so_iloadn d_law_388 rfl rfl), ?_⟩
  refine ⟨pm_of X (so_const1 d_law_389 (by decide) rfl), ?_⟩
  refine ⟨pm_of X (so_iadd d_law_390 rfl), ?_⟩
  refine ⟨so_sld X hX hbz d_law_391 rfl, ?_⟩
  refine ⟨pm_of X (so_callv (ci := 8) rfl rfl mc_Mo_count mi_Mo mj_Mo_count ms_Mo_count ml_Law_64 yd_Mo_count (by decide) d_law_392 rfl), ?_⟩
  refine ⟨pm_of X (so_icmp_eq d_law_395 rfl rfl), ?_⟩
  refine ⟨pm_of X (so_const1 d_law_398 (by decide) rfl), ?_⟩
  refine ⟨pm_of X (so_zret d_law_399 rfl), ?_⟩
  refine ⟨pm_of X (so_aloadn d_law_400 rfl rfl), ?_⟩
  refine ⟨pm_of X (so_aloadn d_law_401 rfl rfl), ?_⟩
  refine ⟨pm_of X (so_iloadn d_law_402 rfl rfl), ?_⟩
  refine ⟨pm_of X (so_const1 d_law_403 (by decide) rfl), ?_⟩
  refine ⟨pm_of X (so_iadd d_law_404 rfl), ?_⟩
  refine ⟨so_sld X hX hbz d_law_405 rfl, ?_⟩
  refine ⟨pm_of X (so_aloadn d_law_406 rfl rfl), ?_⟩
  refine ⟨pm_of X (so_iloadn d_law_407 rfl rfl), ?_⟩
  refine ⟨pm_of X (so_const1 d_law_408 (by decide) rfl), ?_⟩
  refine ⟨pm_of X (so_iadd d_law_409 rfl), ?_⟩
  refine ⟨so_sld X hX hbz d_law_410 rfl, ?_⟩
  refine ⟨pm_of X (so_callv (ci := 0) rfl rfl mc_Lo_race mi_Lo mj_Lo_race ms_Lo_race ml_Law_65 yd_Lo_race (by decide) d_law_411 rfl), ?_⟩
  refine ⟨pm_of X (so_aloadn d_law_414 rfl rfl), ?_⟩
  refine ⟨pm_of X (so_aloadn d_law_415 rfl rfl), ?_⟩
  refine ⟨pm_of X (so_iloadn d_law_416 rfl rfl), ?_⟩
  refine ⟨pm_of X (so_const1 d_law_417 (by decide) rfl), ?_⟩
  refine ⟨pm_of X (so_iadd d_law_418 rfl), ?_⟩
  refine ⟨so_sld X hX hbz d_law_419 rfl, ?_⟩
  refine ⟨pm_of X (so_aloadn d_law_420 rfl rfl), ?_⟩
  refine ⟨pm_of X (so_iloadn d_law_421 rfl rfl), ?_⟩
  refine ⟨pm_of X (so_const1 d_law_422 (by decide) rfl), ?_⟩
  refine ⟨pm_of X (so_iadd d_law_423 rfl), ?_⟩
  refine ⟨so_sld X hX hbz d_law_424 rfl, ?_⟩
  refine ⟨pm_of X (so_callv (ci := 8) rfl rfl mc_Mo_race mi_Mo mj_Mo_race ms_Mo_race ml_Law_68 yd_Mo_race (by decide) d_law_425 rfl), ?_⟩
  refine ⟨pm_of X (so_icmp_eq d_law_428 rfl rfl), ?_⟩
  refine ⟨pm_of X (so_const1 d_law_431 (by decide) rfl), ?_⟩
  refine ⟨pm_of X (so_zret d_law_432 rfl), ?_⟩
  refine ⟨pm_of X (so_aloadn d_law_433 rfl rfl), ?_⟩
  refine ⟨pm_of X (so_callv (ci := 0) rfl rfl mc_Lo_stuck mi_Lo mj_Lo_stuck ms_Lo_stuck ml_Law_69 yd_Lo_stuck (by decide) d_law_434 rfl), ?_⟩
  refine ⟨pm_of X (so_aloadn d_law_437 rfl rfl), ?_⟩
  refine ⟨pm_of X (so_callv (ci := 8) rfl rfl mc_Mo_stuck mi_Mo mj_Mo_stuck ms_Mo_stuck ml_Law_72 yd_Mo_stuck (by decide) d_law_438 rfl), ?_⟩
  refine ⟨pm_of X (so_icmp_eq d_law_441 rfl rfl), ?_⟩
  refine ⟨pm_of X (so_const1 d_law_444 (by decide) rfl), ?_⟩
  refine ⟨pm_of X (so_zret d_law_445 rfl), ?_⟩
  refine ⟨pm_of X (so_iinc d_law_446 (by decide) (by decide) rfl), ?_⟩
  refine ⟨pm_of X (so_goto d_law_449 rfl), ?_⟩
  refine ⟨pm_of X (so_const1 d_law_452 (by decide) rfl), ?_⟩
  refine ⟨pm_of X (so_zret d_law_453 rfl), ?_⟩
  exact trivial
end LAW
end
section
/-! Runs of the pure machine, instruction by instruction: pm_E, a method comes to an end with Q; pm_B, its body does from a place on. -/
def pm_cl (Y : Nat → pm_N) (T : Nat → Nat → Option pm_I) (N : Nat) : Nat → Nat → List Value → pm_H → Option pm_R
  | 0 => fun _ _ _ => none
  | d + 1 => pm_run Y T N d
def pm_E (Y : Nat → pm_N) (T : Nat → Nat → Option pm_I) (d mid : Nat) (a : List Value) (h : pm_H) (Q : pm_R → Prop) : Prop := ∃ N r, pm_run Y T N d mid a h = some r ∧ Q r
def pm_B (Y : Nat → pm_N) (T : Nat → Nat → Option pm_I) (d : Nat) (tb : Nat → Option pm_I) (q : pm_C) (Q : pm_R → Prop) : Prop := ∃ N n r, pm_ex (pm_cl Y T N d) tb n q = some r ∧ Q r
section RULES
variable {Y : Nat → pm_N} {T : Nat → Nat → Option pm_I} {d mid : Nat} {Q : pm_R → Prop} {tb : Nat → Option pm_I}
theorem pm_run_cl (N d : Nat) : pm_run Y T N d = pm_go Y T N (pm_cl Y T N d) := by cases d <;> rfl
theorem pm_go_mono {call call' : Nat → List Value → pm_H → Option pm_R} (hc : ∀ m a h r, call m a h = some r → call' m a h = some r) {N N' : Nat} (hN : N ≤ N') {m : Nat} {a : List Value} {h : pm_H} {r : pm_R} (hr : pm_go Y T N call m a h = some r) : pm_go Y T N' call' m a h = some r := by
  obtain ⟨h1, h2, h3, h4, h5⟩ := pm_go_spec hr
  have h6 := pm_ex_mono hc N N' _ _ hN h3
  unfold pm_go
  simp only [h1, h2, h6, h4, h5, decide_true, Bool.and_self, if_true]
theorem pm_cl_mono {N N' : Nat} (hN : N ≤ N') : ∀ (d m : Nat) (a : List Value) (h : pm_H) (r : pm_R), pm_cl Y T N d m a h = some r → pm_cl Y T N' d m a h = some r := by
  intro d
  induction d with
  | zero => intro m a h r q; cases q
  | succ d ih =>
    intro m a h r q
    have q1 : pm_run Y T N d m a h = some r := q
    show pm_run Y T N' d m a h = some r
    rw [pm_run_cl] at q1 ⊢
    exact pm_go_mono ih hN q1
theorem pm_cl_up {N : Nat} : ∀ (d m : Nat) (a : List Value) (h : pm_H) (r : pm_R), pm_cl Y T N d m a h = some r → pm_cl Y T N (d + 1) m a h = some r := by
  intro d
  induction d with
  | zero => intro m a h r q; cases q
  | succ d ih =>
    intro m a h r q
    have q1 : pm_run Y T N d m a h = some r := q
    show pm_run Y T N (d + 1) m a h = some r
    rw [pm_run_cl] at q1 ⊢
    exact pm_go_mono ih (Nat.le_refl _) q1
theorem pm_E.up {m : Nat} {a : List Value} {h : pm_H} (k : pm_E Y T d m a h Q) : pm_E Y T (d + 1) m a h Q := by
  obtain ⟨N, r, hN, hQ⟩ := k
  exact ⟨N, r, pm_cl_up (d + 1) m a h r hN, hQ⟩
theorem pm_E.ups {m d' : Nat} {a : List Value} {h : pm_H} (k : pm_E Y T d m a h Q) (hd : d ≤ d') : pm_E Y T d' m a h Q := by
  obtain ⟨e, rfl⟩ : ∃ e, d' = d + e := ⟨d' - d, by omega⟩
  clear hd
  induction e with
  | zero => exact k
  | succ e ih => exact ih.up
theorem pm_E.weaken {m : Nat} {a : List Value} {h : pm_H} {Q' : pm_R → Prop} (k : pm_E Y T d m a h Q) (hq : ∀ r, Q r → Q' r) : pm_E Y T d m a h Q' := by
  obtain ⟨N, r, hN, hQ⟩ := k
  exact ⟨N, r, hN, hq r hQ⟩
theorem pm_E.of {a : List Value} {h : pm_H} (hT : T mid = tb) (ha : a.all pm_ok = true) (hl : a.length ≤ (Y mid).2.2.1) (k : pm_B Y T d tb (0, a ++ List.replicate ((Y mid).2.2.1 - a.length) .null, [], h) (fun r => (h.1 ≤ r.1.1 ∧ h.2.1 ≤ r.1.2.1) ∧ Q r)) : pm_E Y T d mid a h Q := by
  subst hT
  obtain ⟨N, n, r, k, ⟨h1, h2⟩, hQ⟩ := k
  refine ⟨max N n, r, ?_, hQ⟩
  have k2 := pm_ex_mono (pm_cl_mono (Nat.le_max_left N n) d) n (max N n) _ _ (Nat.le_max_right N n) k
  rw [pm_run_cl]
  unfold pm_go
  simp only [ha, hl, k2, h1, h2, decide_true, Bool.and_self, if_true]
variable {pc x : Nat} {lc st : List Value} {h : pm_H} {f : pm_I}
theorem pm_B.weaken {q : pm_C} {Q' : pm_R → Prop} (k : pm_B Y T d tb q Q) (hq : ∀ r, Q r → Q' r) : pm_B Y T d tb q Q' := by
  obtain ⟨N, n, r, hN, hQ⟩ := k
  exact ⟨N, n, r, hN, hq r hQ⟩
theorem pm_B.next {q : pm_C} (hf : tb pc = some f) (hq : f lc st h = some (.inr (.inl q))) (k : pm_B Y T d tb q Q) : pm_B Y T d tb (pc, lc, st, h) Q := by
  obtain ⟨N, n, r, k, hQ⟩ := k
  refine ⟨N, n + 1, r, ?_, hQ⟩
  simp only [pm_ex, hf, hq]
  exact k
theorem pm_B.ret {r : pm_R} (hf : tb pc = some f) (hq : f lc st h = some (.inl r)) (hQ : Q r) : pm_B Y T d tb (pc, lc, st, h) Q := by
  refine ⟨0, 1, r, ?_, hQ⟩
  simp only [pm_ex, hf, hq]
theorem pm_B.call {m : Nat} {a : List Value} {lc' st' : List Value} {Qc : pm_R → Prop} (hf : tb pc = some f) (hq : f lc st h = some (.inr (.inr (m, a, (x, lc', st', h))))) (hc : pm_E Y T d m a h Qc) (k : ∀ (h1 : pm_H) (v : Option Value), Qc (h1, v) → pm_B Y T (d + 1) tb (x, lc', v.toList ++ st', h1) Q) : pm_B Y T (d + 1) tb (pc, lc, st, h) Q := by
  obtain ⟨N', r', hc, hQc⟩ := hc
  obtain ⟨h1, v⟩ := r'
  obtain ⟨N, n, r, k, hQ⟩ := k h1 v hQc
  refine ⟨max N N', n + 1, r, ?_, hQ⟩
  have k2 := pm_ex_mono (pm_cl_mono (Nat.le_max_left N N') (d + 1)) n n _ _ (Nat.le_refl _) k
  have c2 : pm_cl Y T (max N N') (d + 1) m a h = some (h1, v) := pm_cl_mono (Nat.le_max_right N N') (d + 1) m a h (h1, v) hc
  simp only [pm_ex, hf, hq, c2]
  exact k2
theorem r_geti {ci k n c : Nat} {v : Int32} (hf : tb pc = some (pm_geti x ci k)) (hc : c < h.1) (hs : h.2.2.1 c = (16 + ci, n)) (hk : k < n) (hv : h.2.2.2.1 c k = v) (kk : pm_B Y T d tb (x, lc, .int v :: st, h) Q) : pm_B Y T d tb (pc, lc, .ref c :: st, h) Q := by
  refine pm_B.next hf ?_ kk
  simp [pm_geti, pm_obj, hc, hs, hk, pm_nx, hv]
theorem r_getr {ci k n c v : Nat} (hf : tb pc = some (pm_getr x ci k)) (hc : c < h.1) (hs : h.2.2.1 c = (16 + ci, n)) (hk : k < n) (hv : h.2.2.2.2 c k = some v) (kk : pm_B Y T d tb (x, lc, .ref v :: st, h) Q) : pm_B Y T d tb (pc, lc, .ref c :: st, h) Q := by
  refine pm_B.next hf ?_ kk
  simp [pm_getr, pm_obj, hc, hs, hk, pm_nx, hv]
theorem r_puti {ci k n c : Nat} {v : Int32} (hf : tb pc = some (pm_puti x ci k)) (hc : c < h.1) (hs : h.2.2.1 c = (16 + ci, n)) (hk : k < n) (kk : pm_B Y T d tb (x, lc, st, pm_sA h c k v) Q) : pm_B Y T d tb (pc, lc, .int v :: .ref c :: st, h) Q := by
  refine pm_B.next hf ?_ kk
  simp [pm_puti, pm_obj, hc, hs, hk, pm_nx]
theorem r_putz {ci k n c : Nat} {v : Int32} (hf : tb pc = some (pm_putz x ci k)) (hc : c < h.1) (hs : h.2.2.1 c = (16 + ci, n)) (hk : k < n) (hz : v = 0 ∨ v = 1) (kk : pm_B Y T d tb (x, lc, st, pm_sA h c k v) Q) : pm_B Y T d tb (pc, lc, .int v :: .ref c :: st, h) Q := by
  refine pm_B.next hf ?_ kk
  simp [pm_putz, pm_obj, hc, hs, hk, pm_nx, hz]
theorem r_putr {ci k n c v : Nat} (hf : tb pc = some (pm_putr x ci k)) (hc : c < h.1) (hs : h.2.2.1 c = (16 + ci, n)) (hk : k < n) (kk : pm_B Y T d tb (x, lc, st, pm_sP h c k (some v)) Q) : pm_B Y T d tb (pc, lc, .ref v :: .ref c :: st, h) Q := by
  refine pm_B.next hf ?_ kk
  simp [pm_putr, pm_obj, hc, hs, hk, pm_nx]
theorem pm_arr_ok {c t n j : Nat} {i : Int32} (hc : c < h.1) (hs : h.2.2.1 c = (t, n)) (hi : i = nI j) (hj : j < n) (hn : n < 2 ^ 31) : pm_arr h c t i = true ∧ i.toNatClampNeg = j := by
  subst hi
  have h1 := nI_clamp (n := j) (by omega)
  have h2 := nI_pos (n := j) (by omega)
  refine ⟨?_, h1⟩
  have h3 : ¬ n ≤ j := by omega
  simp [pm_arr, hc, hs, h1, h2, h3]
theorem r_iald {c t n j : Nat} {i v : Int32} (hf : tb pc = some (pm_iald x t)) (hc : c < h.1) (hs : h.2.2.1 c = (t, n)) (hi : i = nI j) (hj : j < n) (hn : n < 2 ^ 31) (hv : h.2.2.2.1 c j = v) (kk : pm_B Y T d tb (x, lc, .int v :: st, h) Q) : pm_B Y T d tb (pc, lc, .int i :: .ref c :: st, h) Q := by
  obtain ⟨h1, h2⟩ := pm_arr_ok hc hs hi hj hn
  refine pm_B.next hf ?_ kk
  simp [pm_iald, h1, h2, pm_nx, hv]
theorem r_iast {c n j : Nat} {i v : Int32} (hf : tb pc = some (pm_iast x)) (hc : c < h.1) (hs : h.2.2.1 c = (0, n)) (hi : i = nI j) (hj : j < n) (hn : n < 2 ^ 31) (kk : pm_B Y T d tb (x, lc, st, pm_sA h c j v) Q) : pm_B Y T d tb (pc, lc, .int v :: .int i :: .ref c :: st, h) Q := by
  obtain ⟨h1, h2⟩ := pm_arr_ok hc hs hi hj hn
  refine pm_B.next hf ?_ kk
  simp [pm_iast, h1, h2, pm_nx]
theorem r_zast {c n j : Nat} {i v : Int32} (hf : tb pc = some (pm_zast x)) (hc : c < h.1) (hs : h.2.2.1 c = (1, n)) (hi : i = nI j) (hj : j < n) (hn : n < 2 ^ 31) (kk : pm_B Y T d tb (x, lc, st, pm_sA h c j (v &&& 1)) Q) : pm_B Y T d tb (pc, lc, .int v :: .int i :: .ref c :: st, h) Q := by
  obtain ⟨h1, h2⟩ := pm_arr_ok hc hs hi hj hn
  refine pm_B.next hf ?_ kk
  simp [pm_zast, h1, h2, pm_nx]
theorem r_aald {c t n j v : Nat} {i : Int32} (hf : tb pc = some (pm_aald x t)) (hc : c < h.1) (hs : h.2.2.1 c = (t, n)) (hi : i = nI j) (hj : j < n) (hn : n < 2 ^ 31) (hv : h.2.2.2.2 c j = some v) (kk : pm_B Y T d tb (x, lc, .ref v :: st, h) Q) : pm_B Y T d tb (pc, lc, .int i :: .ref c :: st, h) Q := by
  obtain ⟨h1, h2⟩ := pm_arr_ok hc hs hi hj hn
  refine pm_B.next hf ?_ kk
  simp [pm_aald, h1, h2, pm_nx, hv]
theorem r_aast {c t ci n j v n' : Nat} {i : Int32} (hf : tb pc = some (pm_aast x t ci)) (hc : c < h.1) (hs : h.2.2.1 c = (t, n)) (hi : i = nI j) (hj : j < n) (hn : n < 2 ^ 31) (hv : v < h.1) (hvs : h.2.2.1 v = (16 + ci, n')) (kk : pm_B Y T d tb (x, lc, st, pm_sP h c j (some v)) Q) : pm_B Y T d tb (pc, lc, .ref v :: .int i :: .ref c :: st, h) Q := by
  obtain ⟨h1, h2⟩ := pm_arr_ok hc hs hi hj hn
  refine pm_B.next hf ?_ kk
  simp [pm_aast, h1, h2, pm_nx, hv, hvs]
theorem r_alen {c t n : Nat} {v : Int32} (hf : tb pc = some (pm_alen x t)) (hc : c < h.1) (hs : h.2.2.1 c = (t, n)) (hv : nI n = v) (kk : pm_B Y T d tb (x, lc, .int v :: st, h) Q) : pm_B Y T d tb (pc, lc, .ref c :: st, h) Q := by
  refine pm_B.next hf ?_ kk
  subst hv
  simp [pm_alen, hc, hs, pm_nx, nI]
theorem r_icT {t : Nat} {q : Int32 → Int32 → Bool} {u w : Int32} (hf : tb pc = some (pm_icmp t x q)) (hq : q u w = true) (kk : pm_B Y T d tb (t, lc, st, h) Q) : pm_B Y T d tb (pc, lc, .int w :: .int u :: st, h) Q := by
  refine pm_B.next hf ?_ kk
  simp only [pm_icmp, hq, if_true]
  rfl
theorem r_icF {t : Nat} {q : Int32 → Int32 → Bool} {u w : Int32} (hf : tb pc = some (pm_icmp t x q)) (hq : q u w = false) (kk : pm_B Y T d tb (x, lc, st, h) Q) : pm_B Y T d tb (pc, lc, .int w :: .int u :: st, h) Q := by
  refine pm_B.next hf ?_ kk
  simp only [pm_icmp, hq]
  rfl
theorem r_ifT {t : Nat} {q : Int32 → Bool} {u : Int32} (hf : tb pc = some (pm_if t x q)) (hq : q u = true) (kk : pm_B Y T d tb (t, lc, st, h) Q) : pm_B Y T d tb (pc, lc, .int u :: st, h) Q := by
  refine pm_B.next hf ?_ kk
  simp only [pm_if, hq, if_true]
  rfl
theorem r_ifF {t : Nat} {q : Int32 → Bool} {u : Int32} (hf : tb pc = some (pm_if t x q)) (hq : q u = false) (kk : pm_B Y T d tb (x, lc, st, h) Q) : pm_B Y T d tb (pc, lc, .int u :: st, h) Q := by
  refine pm_B.next hf ?_ kk
  simp only [pm_if, hq]
  rfl
theorem r_ic {t : Nat} {q : Int32 → Int32 → Bool} {u w : Int32} (hf : tb pc = some (pm_icmp t x q)) (k1 : q u w = true → pm_B Y T d tb (t, lc, st, h) Q) (k2 : q u w = false → pm_B Y T d tb (x, lc, st, h) Q) : pm_B Y T d tb (pc, lc, .int w :: .int u :: st, h) Q := by
  cases hq : q u w with
  | true => exact r_icT hf hq (k1 hq)
  | false => exact r_icF hf hq (k2 hq)
theorem r_if {t : Nat} {q : Int32 → Bool} {u : Int32} (hf : tb pc = some (pm_if t x q)) (k1 : q u = true → pm_B Y T d tb (t, lc, st, h) Q) (k2 : q u = false → pm_B Y T d tb (x, lc, st, h) Q) : pm_B Y T d tb (pc, lc, .int u :: st, h) Q := by
  cases hq : q u with
  | true => exact r_ifT hf hq (k1 hq)
  | false => exact r_ifF hf hq (k2 hq)
end RULES
end
section
/-! THE CLAIM OUT OF ONE WALK OF THE LAW'S BODY. Your part is whole_start (and what it stands on); all else here is the same for every law, but numbers. -/
def R_law : String := "LockLoomLaw"
def lw_P (b : Addr) (xs : List Int32) (args : Array Value) (s : State) : Prop := args = #[.ref b] ∧ s.IntsAt b xs ∧ xs.length ≤ 1536 ∧ (Jvm.Cond.and given_1 narrow_1).before args s = true
def lw_Q (_ : Array Value) (s : State) (o : Outcome) (t : State) : Prop := o = .returned (some (.int 1)) ∧ Framed s o t [] 600000 7302250
def lw_Z (below : List Frame) (a : Array Value) (s : State) : State → Prop := fun t => ∃ o, t.status = .running ∧ Ended t below o ∧ lw_Q a s o t
/-- the law's own end, with 1 on the stack, nothing written that was there before, its room as the claim has it -/
theorem lw_ret {p : Program} {l : Launch} {e : Env} {s : State} {m : MethodId} {below : List Frame} {meth : Method} {c : Code} {b : Nat} (hx : p.tables.exec = Jvm.exec) (hb : c.code = code) (hr : meth.sig.returnType = ret) (hlocks : meth.locks = false) {pc : Nat} {H : Heap} {ls : Array Slot} (hdg : decode code pc = .ok (.ireturn, 1)) : W p l e room_1 s m #[Value.ref b] below meth c H [] 600000 7302250 (lw_Z below #[Value.ref b] s) (F0 m pc ls [.int 1]) := by
  intro T hT X
  obtain ⟨fs, hret, hrun, hended, hW, hframe⟩ := X.leave (v := some (.int 1)) (hlocks := hlocks) (fun h => by rw [hr] at h; cases h)
  have hmeth' : T.vm.method? m = some meth := X.method'
  refine ⟨T.setFrames fs, ?_, .returned (some (.int 1)), hrun, hended, rfl, ⟨_, rfl⟩, hW, hframe⟩
  jvm_step X.here [X.here.top, hx, hb, hdg, hmeth', hr, ret, narrow_b1]
  (try refine ⟨rfl, ?_⟩); (try refine ⟨rfl, ?_⟩)
  first | (intro acts; rw [hret _ acts rfl rfl rfl]) | rw [hret _ _ rfl rfl rfl]
  exact Steps.refl _
/-- what holds at the law's entry: the machine, the code, the tables' words (any of lw_tbl by 'hts w (by decide +kernel)'), the script of L ints xs at the cell b, what the Statement gives of the start (any of its parts by flat_of_before) -/
def lw_At (p : Program) (s : State) (m : MethodId) (meth : Method) (c : Code) (b L : Nat) (xs : Nat → Int32) : Prop :=
  p.tables.exec = Jvm.exec ∧ c.code = code ∧ meth.sig.returnType = ret ∧ c.maxLocals = 4 ∧ s.vm.findClass R_law = some m.cls ∧ (∀ w ∈ lw_tbl, w.before #[Value.ref b] s = true) ∧ va_X b L xs s s.heap ∧ b < s.heap.size ∧ meth.locks = false ∧ (Jvm.Cond.and given_1 narrow_1).before #[Value.ref b] s = true
def pm_h0 : pm_H := (0, 0, fun _ => (0, 0), fun _ _ => 0, fun _ _ => none)
/-- the walk of the law's body, out of a run of the pure machine that ends with 1 -/
theorem whole_red {p : Program} {e : Env} {s : State} {m : MethodId} {below : List Frame} {meth : Method} {c : Code} (l : Launch) {b L : Nat} {xs : Nat → Int32} (C0 : lw_At p s m meth c b L xs)
    (hrun : ∃ (N n : Nat) (hf : pm_H), pm_ex (pm_cl pm_Y pm_T N 7) (fun j => (tb_law L xs)[j]?) n (0, [.retAddr 0, .null, .null, .null], [], pm_h0) = some (hf, some (.int 1)) ∧ hf.1 ≤ 600000 ∧ hf.2.1 ≤ 7302250) :
    W p l e room_1 s m #[Value.ref b] below meth c s.heap [] 0 0 (lw_Z below #[Value.ref b] s) (entryFrame m ([Value.ref b] : List Value).toArray 4) := by
  obtain ⟨hx, hb, hr, hml, hown, hts, hX, hbl, hlocks, hgv⟩ := C0
  obtain ⟨D, aC, hG⟩ := pm_G_of hts
  obtain ⟨N, n, hf, hex, hc, hs⟩ := hrun
  have X : pm_X p room_1 s m meth c code 4 R_Law meth.name D aC s.heap.size := ⟨hx, hb, hml, hown, hG, Nat.le_refl _, by decide, by decide, rfl⟩
  have hW0 : pm_W D aC s.heap.size pm_h0 s.heap := ⟨rfl, fun k hk => absurd hk (Nat.not_lt_zero k)⟩
  have hV := pm_V_entry (z := s.heap.size) (bS := b) (nL := 4) (a := [.retAddr 0]) rfl (by decide)
  rw [lg_entry_eq]
  have sim0 := pm_simC (p := p) (l := l) (e := e) (R := room_1) (s := s) (m := m) (args := #[Value.ref b]) (below := below) (meth := meth) (c := c) (Q := lw_Z below #[Value.ref b] s) (D := D) (aC := aC) (z := s.heap.size) (bS := b) (cc := code) (nL := 4) (ret := ret) (Y := pm_Y) (b := pm_b bp_law) (T := fun j => (tb_law L xs)[j]?)
    (fun j f hf => by
      have h1 := pm_Sk_at _ 0 (sd_law (l := l) (e := e) (args := #[Value.ref b]) (below := below) (Q := lw_Z below #[Value.ref b] s) (bS := b) X hX hbl) j f hf
      rw [Nat.zero_add] at h1
      exact h1)
    (fun mid a g r hr' => ⟨6, by decide, by decide, pm_runs pm_hpl pm_hb0 pm_hT l D aC s.heap.size b N 6 mid a g r hr'⟩) n _ _ hex
  have sim := sim0.2 s.heap [] _ 0 0 ⟨hW0, va_S.rf, hV⟩ (by show 0 + (hf.1 - 0) ≤ 600000; omega) (by show 0 + (hf.2.1 - 0) ≤ 7302250; omega) (fun H' locs' ls' pc a1 a2 a3 => by
      refine va_forget (fun q hq => a2.2.2 q hq) ?_
      refine W.widen (k := 600000) (n := 7302250) (by show 0 + (hf.1 - 0) ≤ 600000; omega) (by show 0 + (hf.2.1 - 0) ≤ 7302250; omega) ?_
      exact lw_ret hx hb hr hlocks a3.1)
  exact sim
end
section
/-! The two constructors, run as they stand; what the heap is then. -/
def lx_r1 : Option pm_R := pm_run pm_Y pm_T 400 6 M_Lo_init [.ref 0] (pm_new pm_h0 16 2)
def lx_h1 : pm_H := match lx_r1 with
  | some r => r.1
  | none => pm_h0
def lx_c (r : Option pm_R) : Bool := match r with
  | some (_, none) => true
  | _ => false
theorem lx_c_spec {r : Option pm_R} (h : lx_c r = true) : r = some ((match r with | some r => r.1 | none => pm_h0), none) := by
  match r, h with
  | some (a, none), _ => rfl
set_option maxRecDepth 100000 in
theorem lx_ok1 : lx_c lx_r1 = true := by decide +kernel
def lx_r2 : Option pm_R := pm_run pm_Y pm_T 400 6 M_Mo_init [.ref 111] (pm_new lx_h1 24 24)
def lx_h2 : pm_H := match lx_r2 with
  | some r => r.1
  | none => pm_h0
set_option maxRecDepth 100000 in
theorem lx_ok2 : lx_c lx_r2 = true := by decide +kernel
end
section
theorem lx_n1 : lx_h1.1 = 111 := by decide +kernel
theorem lx_n2 : lx_h2.1 = 131 := by decide +kernel
theorem lx_s2 : lx_h2.2.1 ≤ 30000 := by decide +kernel
/-- the kinds and lengths of the cells -/
def lx_S (c : Nat) : Nat × Nat :=
  if c = 0 then (16, 2) else if c = 1 then (17, 4) else if c = 2 then (2, 8) else if c = 3 then (0, 8)
  else if c < 49 then (if (c - 4) % 5 = 0 then (18, 6) else (0, 64))
  else if c = 49 then (19, 7) else if c = 50 then (3, 6) else if c = 51 then (4, 4) else if c = 52 then (5, 8) else if c = 53 then (20, 2) else if c = 54 then (0, 256)
  else if c < 79 then (if (c - 55) % 4 = 0 then (21, 6) else if (c - 55) % 4 = 3 then (0, 6) else (0, 8))
  else if c < 87 then (if (c - 79) % 2 = 0 then (22, 3) else (0, 6))
  else if c < 111 then (if (c - 87) % 3 = 0 then (23, 3) else (0, 6))
  else if c = 111 then (24, 24) else if c = 112 then (0, 576) else if c = 113 then (0, 576) else if c = 114 then (0, 9) else if c = 115 then (0, 8) else if c = 116 then (0, 8)
  else if c = 117 then (0, 8) else if c = 118 then (0, 4) else if c = 119 then (0, 4) else if c = 120 then (0, 4) else if c = 121 then (0, 6) else if c = 122 then (0, 6)
  else if c = 123 then (0, 48) else if c = 124 then (0, 48) else if c = 125 then (0, 6) else if c = 126 then (0, 4000) else if c = 127 then (0, 4000) else if c = 128 then (0, 4000)
  else if c = 129 then (1, 4000) else (0, 64)
set_option maxRecDepth 100000 in
theorem lx_sh : ∀ c, c < 131 → lx_h2.2.2.1 c = lx_S c := by decide +kernel
/-- the ints at the start -/
def lx_A (c i : Nat) : Int32 := if c = 3 ∨ c = 116 then -1 else if c < 55 then 0 else if c < 79 then (if (c - 55) % 4 = 0 ∧ i = 0 then Int32.ofNat ((c - 55) / 4) else 0) else if c < 87 then (if (c - 79) % 2 = 0 ∧ i = 1 then -1 else 0) else 0
/-- the references at the start -/
def lx_P (c i : Nat) : Option Nat :=
  if c = 0 then (if i = 0 then some 1 else some 49)
  else if c = 1 then (if i = 0 then some 2 else if i = 1 then some 3 else if i = 2 then some 4 else none)
  else if c = 2 then some (9 + 5 * i)
  else if c < 49 then (if (c - 4) % 5 = 0 ∧ i < 4 ∧ 4 ≤ c then some (c + 1 + i) else none)
  else if c = 49 then (if i = 0 then some 1 else if i = 1 then some 50 else if i = 2 then some 51 else if i = 3 then some 52 else if i = 4 then some 53 else none)
  else if c = 50 then some (55 + 4 * i) else if c = 51 then some (79 + 2 * i) else if c = 52 then some (87 + 3 * i)
  else if c = 53 then (if i = 0 then some 54 else none)
  else if c < 79 then (if (c - 55) % 4 = 0 ∧ 1 ≤ i ∧ i < 4 ∧ 55 ≤ c then some (c + i) else none)
  else if c < 87 then (if (c - 79) % 2 = 0 ∧ i = 0 then some (c + 1) else none)
  else if c < 111 then (if (c - 87) % 3 = 0 ∧ i < 2 then some (c + 1 + i) else none)
  else none
set_option maxRecDepth 100000 in
theorem lx_pa : ∀ c, c < 111 → ∀ i, i < (lx_S c).2 → lx_h2.2.2.2.1 c i = lx_A c i ∧ lx_h2.2.2.2.2 c i = lx_P c i := by decide +kernel
end
section
/-! The rules once more, over heaps that are written out: 131 cells of the kinds S, ints A, references P. -/
def pm_is (S : Nat → Nat × Nat) (c t n : Nat) : Prop := c < 131 ∧ S c = (t, n)
section QR
variable {d : Nat} {Q : pm_R → Prop} {tb : Nat → Option pm_I} {pc x : Nat} {lc st : List Value} {SL : Nat} {S : Nat → Nat × Nat} {A : Nat → Nat → Int32} {P : Nat → Nat → Option Nat}
/-- a method: what it comes to -/
abbrev EE (d mid : Nat) (a : List Value) (SL : Nat) (S : Nat → Nat × Nat) (A : Nat → Nat → Int32) (P : Nat → Nat → Option Nat) (Q : pm_R → Prop) : Prop := pm_E pm_Y pm_T d mid a (131, SL, S, A, P) Q
abbrev BB (d : Nat) (tb : Nat → Option pm_I) (pc : Nat) (lc st : List Value) (SL : Nat) (S : Nat → Nat × Nat) (A : Nat → Nat → Int32) (P : Nat → Nat → Option Nat) (Q : pm_R → Prop) : Prop := pm_B pm_Y pm_T d tb (pc, lc, st, (131, SL, S, A, P)) Q
theorem q_geti {ci k n c : Nat} {v : Int32} (hf : tb pc = some (pm_geti x ci k)) (hs : pm_is S c (16 + ci) n) (hk : k < n) (hv : A c k = v) (kk : BB d tb x lc (.int v :: st) SL S A P Q) : BB d tb pc lc (.ref c :: st) SL S A P Q := r_geti hf hs.1 hs.2 hk hv kk
theorem q_getr {ci k n c v : Nat} (hf : tb pc = some (pm_getr x ci k)) (hs : pm_is S c (16 + ci) n) (hk : k < n) (hv : P c k = some v) (kk : BB d tb x lc (.ref v :: st) SL S A P Q) : BB d tb pc lc (.ref c :: st) SL S A P Q := r_getr hf hs.1 hs.2 hk hv kk
theorem q_puti {ci k n c : Nat} {v : Int32} (hf : tb pc = some (pm_puti x ci k)) (hs : pm_is S c (16 + ci) n) (hk : k < n) (kk : BB d tb x lc st SL S (pm_u A c k v) P Q) : BB d tb pc lc (.int v :: .ref c :: st) SL S A P Q := r_puti hf hs.1 hs.2 hk kk
theorem q_putz {ci k n c : Nat} {v : Int32} (hf : tb pc = some (pm_putz x ci k)) (hs : pm_is S c (16 + ci) n) (hk : k < n) (hz : v = 0 ∨ v = 1) (kk : BB d tb x lc st SL S (pm_u A c k v) P Q) : BB d tb pc lc (.int v :: .ref c :: st) SL S A P Q := r_putz hf hs.1 hs.2 hk hz kk
theorem q_putr {ci k n c v : Nat} (hf : tb pc = some (pm_putr x ci k)) (hs : pm_is S c (16 + ci) n) (hk : k < n) (kk : BB d tb x lc st SL S A (pm_u P c k (some v)) Q) : BB d tb pc lc (.ref v :: .ref c :: st) SL S A P Q := r_putr hf hs.1 hs.2 hk kk
theorem q_iald {c t n : Nat} {v i : Int32} (hf : tb pc = some (pm_iald x t)) (hs : pm_is S c t n) (j : Nat) (hi : i = nI j) (hj : j < n) (hn : n < 2 ^ 31) (hv : A c j = v) (kk : BB d tb x lc (.int v :: st) SL S A P Q) : BB d tb pc lc (.int i :: .ref c :: st) SL S A P Q := r_iald hf hs.1 hs.2 hi hj hn hv kk
theorem q_iast {c n : Nat} {v i : Int32} (hf : tb pc = some (pm_iast x)) (hs : pm_is S c 0 n) (j : Nat) (hi : i = nI j) (hj : j < n) (hn : n < 2 ^ 31) (kk : BB d tb x lc st SL S (pm_u A c j v) P Q) : BB d tb pc lc (.int v :: .int i :: .ref c :: st) SL S A P Q := r_iast hf hs.1 hs.2 hi hj hn kk
theorem q_zast {c n : Nat} {v i : Int32} (hf : tb pc = some (pm_zast x)) (hs : pm_is S c 1 n) (j : Nat) (hi : i = nI j) (hj : j < n) (hn : n < 2 ^ 31) (kk : BB d tb x lc st SL S (pm_u A c j (v &&& 1)) P Q) : BB d tb pc lc (.int v :: .int i :: .ref c :: st) SL S A P Q := r_zast hf hs.1 hs.2 hi hj hn kk
theorem q_aald {c t n v : Nat} {i : Int32} (hf : tb pc = some (pm_aald x t)) (hs : pm_is S c t n) (j : Nat) (hi : i = nI j) (hj : j < n) (hn : n < 2 ^ 31) (hv : P c j = some v) (kk : BB d tb x lc (.ref v :: st) SL S A P Q) : BB d tb pc lc (.int i :: .ref c :: st) SL S A P Q := r_aald hf hs.1 hs.2 hi hj hn hv kk
theorem q_aast {c t ci n n' v : Nat} {i : Int32} (hf : tb pc = some (pm_aast x t ci)) (hs : pm_is S c t n) (j : Nat) (hi : i = nI j) (hj : j < n) (hn : n < 2 ^ 31) (hv : pm_is S v (16 + ci) n') (kk : BB d tb x lc st SL S A (pm_u P c j (some v)) Q) : BB d tb pc lc (.ref v :: .int i :: .ref c :: st) SL S A P Q := r_aast hf hs.1 hs.2 hi hj hn hv.1 hv.2 kk
theorem q_alen {c t n : Nat} {v : Int32} (hf : tb pc = some (pm_alen x t)) (hs : pm_is S c t n) (hv : nI n = v) (kk : BB d tb x lc (.int v :: st) SL S A P Q) : BB d tb pc lc (.ref c :: st) SL S A P Q := r_alen hf hs.1 hs.2 hv kk
/-- a number on the stack gets another name -/
theorem q_top {v w : Int32} (h : v = w) (kk : BB d tb pc lc (.int w :: st) SL S A P Q) : BB d tb pc lc (.int v :: st) SL S A P Q := h ▸ kk
theorem q_lc {lc' : List Value} (h : lc = lc') (kk : BB d tb pc lc' st SL S A P Q) : BB d tb pc lc st SL S A P Q := h ▸ kk
/-- calls; the receiver's kind is asked for -/
theorem q_callv {m n ci k n0 : Nat} {a : List Value} {Qc : pm_R → Prop} (hf : tb pc = some (pm_callv x m n ci)) (hs : pm_is S k (16 + ci) n0) (ha : (st.take n).reverse = .ref k :: a) (hn : n ≤ st.length) (hcat : pm_cat (st.drop n) ≤ 8) (hc : EE d m (.ref k :: a) SL S A P Qc) (kk : ∀ (h1 : pm_H) (v : Option Value), Qc (h1, v) → pm_B pm_Y pm_T (d + 1) tb (x, lc, v.toList ++ st.drop n, h1) Q) : BB (d + 1) tb pc lc st SL S A P Q := by
  refine pm_B.call hf ?_ hc kk
  simp [pm_callv, pm_calls, ha, hs.1, hs.2, hn, hcat]
theorem q_calls {m n : Nat} {a : List Value} {Qc : pm_R → Prop} (hf : tb pc = some (pm_calls x m n)) (ha : (st.take n).reverse = a) (hn : n ≤ st.length) (hcat : pm_cat (st.drop n) ≤ 8) (hc : EE d m a SL S A P Qc) (kk : ∀ (h1 : pm_H) (v : Option Value), Qc (h1, v) → pm_B pm_Y pm_T (d + 1) tb (x, lc, v.toList ++ st.drop n, h1) Q) : BB (d + 1) tb pc lc st SL S A P Q := by
  refine pm_B.call hf ?_ hc kk
  simp [pm_calls, ha, hn, hcat]
/-- calls of methods whose end is known exactly -/
theorem q_cv {m n ci k n0 : Nat} {a : List Value} {A' : Nat → Nat → Int32} {P' : Nat → Nat → Option Nat} {v : Option Value} (hf : tb pc = some (pm_callv x m n ci)) (hs : pm_is S k (16 + ci) n0) (ha : (st.take n).reverse = .ref k :: a) (hn : n ≤ st.length) (hcat : pm_cat (st.drop n) ≤ 8) (hc : EE d m (.ref k :: a) SL S A P (fun r => r = ((131, SL, S, A', P'), v))) (kk : BB (d + 1) tb x lc (v.toList ++ st.drop n) SL S A' P' Q) : BB (d + 1) tb pc lc st SL S A P Q := by
  refine q_callv hf hs ha hn hcat hc (fun h1 v1 e => ?_)
  cases e
  exact kk
theorem q_cs {m n : Nat} {a : List Value} {A' : Nat → Nat → Int32} {P' : Nat → Nat → Option Nat} {v : Option Value} (hf : tb pc = some (pm_calls x m n)) (ha : (st.take n).reverse = a) (hn : n ≤ st.length) (hcat : pm_cat (st.drop n) ≤ 8) (hc : EE d m a SL S A P (fun r => r = ((131, SL, S, A', P'), v))) (kk : BB (d + 1) tb x lc (v.toList ++ st.drop n) SL S A' P' Q) : BB (d + 1) tb pc lc st SL S A P Q := by
  refine q_calls hf ha hn hcat hc (fun h1 v1 e => ?_)
  cases e
  exact kk
/-- a method's start: its cells stay in number -/
theorem q_of {mid : Nat} {a : List Value} (hT : pm_T mid = tb) (ha : a.all pm_ok = true) (hl : a.length ≤ (pm_Y mid).2.2.1) (kk : BB d tb 0 (a ++ List.replicate ((pm_Y mid).2.2.1 - a.length) .null) [] SL S A P (fun r => (131 ≤ r.1.1 ∧ SL ≤ r.1.2.1) ∧ Q r)) : EE d mid a SL S A P Q := pm_E.of hT ha hl kk
theorem q_iret {v : Int32} (hf : tb pc = some pm_iret) (hQ : Q ((131, SL, S, A, P), some (.int v))) : BB d tb pc lc [.int v] SL S A P (fun r => (131 ≤ r.1.1 ∧ SL ≤ r.1.2.1) ∧ Q r) := pm_B.ret hf rfl ⟨⟨Nat.le_refl _, Nat.le_refl _⟩, hQ⟩
theorem q_vret (hf : tb pc = some pm_vret) (hQ : Q ((131, SL, S, A, P), none)) : BB d tb pc lc [] SL S A P (fun r => (131 ≤ r.1.1 ∧ SL ≤ r.1.2.1) ∧ Q r) := pm_B.ret hf rfl ⟨⟨Nat.le_refl _, Nat.le_refl _⟩, hQ⟩
theorem q_aret {v : Nat} (hf : tb pc = some pm_aret) (hQ : Q ((131, SL, S, A, P), some (.ref v))) : BB d tb pc lc [.ref v] SL S A P (fun r => (131 ≤ r.1.1 ∧ SL ≤ r.1.2.1) ∧ Q r) := pm_B.ret hf rfl ⟨⟨Nat.le_refl _, Nat.le_refl _⟩, hQ⟩
theorem q_zret {v : Int32} (hf : tb pc = some pm_zret) (hz : v = 0 ∨ v = 1) (hQ : Q ((131, SL, S, A, P), some (.int v))) : BB d tb pc lc [.int v] SL S A P (fun r => (131 ≤ r.1.1 ∧ SL ≤ r.1.2.1) ∧ Q r) := by
  refine pm_B.ret hf ?_ ⟨⟨Nat.le_refl _, Nat.le_refl _⟩, hQ⟩
  rcases hz with rfl | rfl <;> rfl
end QR
end
section
section LEAF
variable {d : Nat} {SL : Nat} {S : Nat → Nat × Nat} {A : Nat → Nat → Int32} {P : Nat → Nat → Option Nat}
/-- a number below another: 1, else 0 -/
def in_ (x l : Int32) : Int32 := if ¬ x < 0 ∧ ¬ l ≤ x then 1 else 0
theorem in_z (x l : Int32) : in_ x l = 0 ∨ in_ x l = 1 := by
  unfold in_
  split
  · exact Or.inr rfl
  · exact Or.inl rfl
theorem x_isBelow (x l : Int32) : EE d M_Lo_isBelow [.int x, .int l] SL S A P (fun r => r = ((131, SL, S, A, P), some (.int (in_ x l)))) := by
  refine q_of (tb := fun j => tb_Lo_isBelow[j]?) rfl rfl (Nat.le_of_ble_eq_true rfl) ?_
  show BB _ _ 0 [.int x, .int l] [] _ _ _ _ _
  repeat refine pm_B.next rfl rfl ?_
  refine r_if rfl (fun h => ?_) (fun h => ?_)
  · repeat refine pm_B.next rfl rfl ?_
    refine q_zret rfl (Or.inl rfl) ?_
    have h := of_decide_eq_true h
    simp [in_, h]
  · have h := of_decide_eq_false h
    repeat refine pm_B.next rfl rfl ?_
    refine r_ic rfl (fun g => ?_) (fun g => ?_)
    · repeat refine pm_B.next rfl rfl ?_
      refine q_zret rfl (Or.inl rfl) ?_
      have g := of_decide_eq_true g
      simp [in_, h, g]
    · repeat refine pm_B.next rfl rfl ?_
      refine q_zret rfl (Or.inr rfl) ?_
      have g := of_decide_eq_false g
      simp only [in_]
      rw [if_pos ⟨h, g⟩]
theorem x_isIn (x l : Int32) : EE d M_Mo_isIn [.int x, .int l] SL S A P (fun r => r = ((131, SL, S, A, P), some (.int (in_ x l)))) := by
  refine q_of (tb := fun j => tb_Mo_isIn[j]?) rfl rfl (Nat.le_of_ble_eq_true rfl) ?_
  show BB _ _ 0 [.int x, .int l] [] _ _ _ _ _
  repeat refine pm_B.next rfl rfl ?_
  refine r_if rfl (fun h => ?_) (fun h => ?_)
  · repeat refine pm_B.next rfl rfl ?_
    refine q_zret rfl (Or.inl rfl) ?_
    have h := of_decide_eq_true h
    simp [in_, h]
  · have h := of_decide_eq_false h
    repeat refine pm_B.next rfl rfl ?_
    refine r_ic rfl (fun g => ?_) (fun g => ?_)
    · repeat refine pm_B.next rfl rfl ?_
      refine q_zret rfl (Or.inl rfl) ?_
      have g := of_decide_eq_true g
      simp [in_, h, g]
    · repeat refine pm_B.next rfl rfl ?_
      refine q_zret rfl (Or.inr rfl) ?_
      have g := of_decide_eq_false g
      simp only [in_]
      rw [if_pos ⟨h, g⟩]
end LEAF
end
section
/-! What is fixed of the objects: their kinds, and the references in them. -/
def kB (S : Nat → Nat × Nat) (P : Nat → Nat → Option Nat) (q : Nat) : Prop := (pm_is S q 18 6 ∧ pm_is S (q + 1) 0 64 ∧ pm_is S (q + 2) 0 64 ∧ pm_is S (q + 3) 0 64 ∧ pm_is S (q + 4) 0 64) ∧ P q 0 = some (q + 1) ∧ P q 1 = some (q + 2) ∧ P q 2 = some (q + 3) ∧ P q 3 = some (q + 4)
def kS (S : Nat → Nat × Nat) (P : Nat → Nat → Option Nat) (s : Nat) : Prop := (pm_is S s 21 6 ∧ pm_is S (s + 1) 0 8 ∧ pm_is S (s + 2) 0 8 ∧ pm_is S (s + 3) 0 6) ∧ P s 1 = some (s + 1) ∧ P s 2 = some (s + 2) ∧ P s 3 = some (s + 3)
def kL (S : Nat → Nat × Nat) (P : Nat → Nat → Option Nat) (l : Nat) : Prop := (pm_is S l 22 3 ∧ pm_is S (l + 1) 0 6) ∧ P l 0 = some (l + 1)
def kC (S : Nat → Nat × Nat) (P : Nat → Nat → Option Nat) (c : Nat) : Prop := (pm_is S c 23 3 ∧ pm_is S (c + 1) 0 6 ∧ pm_is S (c + 2) 0 6) ∧ P c 0 = some (c + 1) ∧ P c 1 = some (c + 2)
def kR (S : Nat → Nat × Nat) (P : Nat → Nat → Option Nat) : Prop := (pm_is S 53 20 2 ∧ pm_is S 54 0 256) ∧ P 53 0 = some 54
theorem u_eq {α : Type} {f : Nat → Nat → α} {c i : Nat} {x : α} : pm_u f c i x c i = x := by simp [pm_u]
theorem u_nc {α : Type} {f : Nat → Nat → α} {c i a b : Nat} {x : α} (h : a ≠ c) : pm_u f c i x a b = f a b := by simp [pm_u, h]
theorem u_ni {α : Type} {f : Nat → Nat → α} {c i a b : Nat} {x : α} (h : b ≠ i) : pm_u f c i x a b = f a b := by simp [pm_u, h]
theorem u_uu {α : Type} {f : Nat → Nat → α} {c i : Nat} {x y : α} : pm_u (pm_u f c i x) c i y = pm_u f c i y := by
  funext a b
  simp only [pm_u]
  split <;> rfl
theorem u_id {α : Type} {f : Nat → Nat → α} {c i : Nat} : pm_u f c i (f c i) = f := by
  funext a b
  simp only [pm_u]
  split
  · rename_i h
    rw [h.1, h.2]
  · rfl
section OBJS
variable {d : Nat} {SL : Nat} {S : Nat → Nat × Nat} {A : Nat → Nat → Int32} {P : Nat → Nat → Option Nat}
theorem x_Bo_clear {q : Nat} (k : kB S P q) : EE d M_Bo_clear [.ref q] SL S A P (fun r => r = ((131, SL, S, pm_u A q 4 0, P), none)) := by
  obtain ⟨⟨s0, s1, s2, s3, s4⟩, p0, p1, p2, p3⟩ := k
  refine q_of (tb := fun j => tb_Bo_clear[j]?) rfl rfl (Nat.le_of_ble_eq_true rfl) ?_
  show BB _ _ 0 [.ref q] [] _ _ _ _ _
  repeat (first | refine pm_B.next rfl rfl ?_ | refine q_getr rfl (by assumption) (by decide) (by assumption) ?_ | refine q_geti rfl (by assumption) (by decide) (by assumption) ?_ | refine q_iald rfl (by assumption) _ rfl (by first | assumption | omega) (by decide) rfl ?_ | refine q_puti rfl (by assumption) (by decide) ?_ | refine q_iast rfl (by assumption) _ rfl (by first | assumption | omega) (by decide) ?_)
  exact q_vret rfl rfl
theorem x_Bo_append {q sz : Nat} {kd nm : Int32} (k : kB S P q) (hs : A q 4 = nI sz) (h64 : sz ≤ 64) : EE d M_Bo_append [.ref q, .int kd, .int nm] SL S A P (fun r => (sz = 64 ∧ r = ((131, SL, S, A, P), some (.int (-1)))) ∨ (sz < 64 ∧ r = ((131, SL, S, pm_u (pm_u (pm_u A (q + 1) sz kd) (q + 2) sz nm) q 4 (nI (sz + 1)), P), some (.int (nI (sz + 1)))))) := by
  obtain ⟨⟨s0, s1, s2, s3, s4⟩, p0, p1, p2, p3⟩ := k
  refine q_of (tb := fun j => tb_Bo_append[j]?) rfl rfl (Nat.le_of_ble_eq_true rfl) ?_
  show BB _ _ 0 [.ref q, .int kd, .int nm] [] _ _ _ _ _
  repeat (first | refine pm_B.next rfl rfl ?_ | refine q_getr rfl (by assumption) (by decide) (by assumption) ?_ | refine q_geti rfl (by assumption) (by decide) (by assumption) ?_ | refine q_iald rfl (by assumption) _ rfl (by first | assumption | omega) (by decide) rfl ?_ | refine q_puti rfl (by assumption) (by decide) ?_ | refine q_iast rfl (by assumption) _ rfl (by first | assumption | omega) (by decide) ?_)
  refine r_ic rfl (fun h => ?_) (fun h => ?_)
  · have hlt : sz < 64 := by
      have h := of_decide_eq_true h
      exact (nI_ltI (a := sz) (b := 64) (by omega) (by omega)).mp h
    repeat (first | refine pm_B.next rfl rfl ?_ | refine q_getr rfl (by assumption) (by decide) (by assumption) ?_ | refine q_geti rfl (by assumption) (by decide) (by assumption) ?_ | refine q_iald rfl (by assumption) _ rfl (by first | assumption | omega) (by decide) rfl ?_ | refine q_puti rfl (by assumption) (by decide) ?_ | refine q_iast rfl (by assumption) _ rfl (by first | assumption | omega) (by decide) ?_)
    refine q_geti rfl s0 (by decide) (v := nI sz) ?_ ?_
    · rw [u_nc (by omega), hs]
    repeat (first | refine pm_B.next rfl rfl ?_ | refine q_getr rfl (by assumption) (by decide) (by assumption) ?_ | refine q_geti rfl (by assumption) (by decide) (by assumption) ?_ | refine q_iald rfl (by assumption) _ rfl (by first | assumption | omega) (by decide) rfl ?_ | refine q_puti rfl (by assumption) (by decide) ?_ | refine q_iast rfl (by assumption) _ rfl (by first | assumption | omega) (by decide) ?_)
    refine q_geti rfl s0 (by decide) (v := nI sz) ?_ ?_
    · rw [u_nc (by omega), u_nc (by omega), hs]
    repeat refine pm_B.next rfl rfl ?_
    refine q_top (nI_1 sz) ?_
    repeat (first | refine pm_B.next rfl rfl ?_ | refine q_getr rfl (by assumption) (by decide) (by assumption) ?_ | refine q_geti rfl (by assumption) (by decide) (by assumption) ?_ | refine q_iald rfl (by assumption) _ rfl (by first | assumption | omega) (by decide) rfl ?_ | refine q_puti rfl (by assumption) (by decide) ?_ | refine q_iast rfl (by assumption) _ rfl (by first | assumption | omega) (by decide) ?_)
    refine q_geti rfl s0 (by decide) (v := nI (sz + 1)) u_eq ?_
    exact q_iret rfl (Or.inr ⟨hlt, rfl⟩)
  · have hge : sz = 64 := by
      have h := of_decide_eq_false h
      have := mt (nI_ltI (a := sz) (b := 64) (by omega) (by omega)).mpr h
      omega
    repeat refine pm_B.next rfl rfl ?_
    exact q_iret rfl (Or.inl ⟨hge, rfl⟩)
theorem x_Sd_isDone {s : Nat} {v : Int32} (k : kS S P s) (hd : A s 4 = v) : EE d M_Sd_isDone [.ref s] SL S A P (fun r => r = ((131, SL, S, A, P), some (.int (if v = 0 then 1 else 0)))) := by
  obtain ⟨⟨s0, s1, s2, s3⟩, p1, p2, p3⟩ := k
  refine q_of (tb := fun j => tb_Sd_isDone[j]?) rfl rfl (Nat.le_of_ble_eq_true rfl) ?_
  show BB _ _ 0 [.ref s] [] _ _ _ _ _
  repeat (first | refine pm_B.next rfl rfl ?_ | refine q_getr rfl (by assumption) (by decide) (by assumption) ?_ | refine q_geti rfl (by assumption) (by decide) (by assumption) ?_ | refine q_iald rfl (by assumption) _ rfl (by first | assumption | omega) (by decide) rfl ?_ | refine q_puti rfl (by assumption) (by decide) ?_ | refine q_iast rfl (by assumption) _ rfl (by first | assumption | omega) (by decide) ?_)
  refine r_if rfl (fun h => ?_) (fun h => ?_)
  · have h := of_decide_eq_true h
    repeat refine pm_B.next rfl rfl ?_
    exact q_zret rfl (Or.inl rfl) (by rw [if_neg h])
  · have h := of_decide_eq_false h
    repeat refine pm_B.next rfl rfl ?_
    exact q_zret rfl (Or.inr rfl) (by rw [if_pos (Decidable.not_not.mp h)])
theorem x_Sd_moveTo {s n : Nat} {v : Int32} (k : kS S P s) (hd : A s 4 = nI (n + 1)) (hn : n < 8) : EE d M_Sd_moveTo [.ref s, .int v] SL S A P (fun r => r = ((131, SL, S, pm_u A (s + 2) n v, P), none)) := by
  obtain ⟨⟨s0, s1, s2, s3⟩, p1, p2, p3⟩ := k
  refine q_of (tb := fun j => tb_Sd_moveTo[j]?) rfl rfl (Nat.le_of_ble_eq_true rfl) ?_
  show BB _ _ 0 [.ref s, .int v] [] _ _ _ _ _
  repeat (first | refine pm_B.next rfl rfl ?_ | refine q_getr rfl (by assumption) (by decide) (by assumption) ?_ | refine q_geti rfl (by assumption) (by decide) (by assumption) ?_ | refine q_iald rfl (by assumption) _ rfl (by first | assumption | omega) (by decide) rfl ?_ | refine q_puti rfl (by assumption) (by decide) ?_ | refine q_iast rfl (by assumption) _ rfl (by first | assumption | omega) (by decide) ?_)
  refine q_iast rfl s2 n (nI_pred n) hn (by decide) ?_
  exact q_vret rfl rfl
theorem x_Sd_enter {s n : Nat} {v : Int32} (k : kS S P s) (hd : A s 4 = nI n) (hn : n ≤ 8) : EE d M_Sd_enter [.ref s, .int v] SL S A P (fun r => (n = 8 ∧ r = ((131, SL, S, A, P), none)) ∨ (n < 8 ∧ r = ((131, SL, S, pm_u (pm_u (pm_u A (s + 1) n v) (s + 2) n 0) s 4 (nI (n + 1)), P), none))) := by
  obtain ⟨⟨s0, s1, s2, s3⟩, p1, p2, p3⟩ := k
  refine q_of (tb := fun j => tb_Sd_enter[j]?) rfl rfl (Nat.le_of_ble_eq_true rfl) ?_
  show BB _ _ 0 [.ref s, .int v] [] _ _ _ _ _
  repeat (first | refine pm_B.next rfl rfl ?_ | refine q_getr rfl (by assumption) (by decide) (by assumption) ?_ | refine q_geti rfl (by assumption) (by decide) (by assumption) ?_ | refine q_iald rfl (by assumption) _ rfl (by first | assumption | omega) (by decide) rfl ?_ | refine q_puti rfl (by assumption) (by decide) ?_ | refine q_iast rfl (by assumption) _ rfl (by first | assumption | omega) (by decide) ?_)
  refine r_ic rfl (fun h => ?_) (fun h => ?_)
  · have h : n = 8 := by
      have h := of_decide_eq_true h
      have := (nI_leI (a := 8) (b := n) (by omega) (by omega)).mp h
      omega
    repeat refine pm_B.next rfl rfl ?_
    exact q_vret rfl (Or.inl ⟨h, rfl⟩)
  · have hlt : n < 8 := by
      have h := of_decide_eq_false h
      have := mt (nI_leI (a := 8) (b := n) (by omega) (by omega)).mpr h
      omega
    repeat (first | refine pm_B.next rfl rfl ?_ | refine q_getr rfl (by assumption) (by decide) (by assumption) ?_ | refine q_geti rfl (by assumption) (by decide) (by assumption) ?_ | refine q_iald rfl (by assumption) _ rfl (by first | assumption | omega) (by decide) rfl ?_ | refine q_puti rfl (by assumption) (by decide) ?_ | refine q_iast rfl (by assumption) _ rfl (by first | assumption | omega) (by decide) ?_)
    refine q_geti rfl s0 (by decide) (v := nI n) (by rw [u_nc (by omega), hd]) ?_
    repeat (first | refine pm_B.next rfl rfl ?_ | refine q_getr rfl (by assumption) (by decide) (by assumption) ?_ | refine q_geti rfl (by assumption) (by decide) (by assumption) ?_ | refine q_iald rfl (by assumption) _ rfl (by first | assumption | omega) (by decide) rfl ?_ | refine q_puti rfl (by assumption) (by decide) ?_ | refine q_iast rfl (by assumption) _ rfl (by first | assumption | omega) (by decide) ?_)
    refine q_geti rfl s0 (by decide) (v := nI n) (by rw [u_nc (by omega), u_nc (by omega), hd]) ?_
    repeat refine pm_B.next rfl rfl ?_
    refine q_top (nI_1 n) ?_
    repeat (first | refine pm_B.next rfl rfl ?_ | refine q_getr rfl (by assumption) (by decide) (by assumption) ?_ | refine q_geti rfl (by assumption) (by decide) (by assumption) ?_ | refine q_iald rfl (by assumption) _ rfl (by first | assumption | omega) (by decide) rfl ?_ | refine q_puti rfl (by assumption) (by decide) ?_ | refine q_iast rfl (by assumption) _ rfl (by first | assumption | omega) (by decide) ?_)
    exact q_vret rfl (Or.inr ⟨hlt, rfl⟩)
end OBJS
end
section
/-- the first n ints of a row are v -/
def fl (A : Nat → Nat → Int32) (c n : Nat) (v : Int32) : Nat → Nat → Int32 := fun a b => if a = c ∧ b < n then v else A a b
theorem fl_0 {A : Nat → Nat → Int32} {c : Nat} {v : Int32} : fl A c 0 v = A := by
  funext a b
  simp [fl]
theorem fl_s {A : Nat → Nat → Int32} {c i : Nat} {v : Int32} : pm_u (fl A c i v) c i v = fl A c (i + 1) v := by
  funext a b
  simp only [pm_u, fl]
  by_cases h1 : a = c
  · by_cases h2 : b = i
    · simp [h1, h2]
    · by_cases h3 : b < i
      · have : b < i + 1 := by omega
        simp [h1, h2, h3, this]
      · have : ¬ b < i + 1 := by omega
        simp [h1, h2, h3, this]
  · simp [h1]
theorem fl_in {A : Nat → Nat → Int32} {c n b : Nat} {v : Int32} (h : b < n) : fl A c n v c b = v := by simp [fl, h]
theorem fl_nc {A : Nat → Nat → Int32} {c n a b : Nat} {v : Int32} (h : a ≠ c) : fl A c n v a b = A a b := by simp [fl, h]
section OBJS2
variable {d : Nat} {SL : Nat} {S : Nat → Nat × Nat} {A : Nat → Nat → Int32} {P : Nat → Nat → Option Nat}
theorem x_fill {c n : Nat} {v : Int32} (hs : pm_is S c 0 n) (hn : n < 2 ^ 31) : EE d M_Ar_fill [.ref c, .int v] SL S A P (fun r => r = ((131, SL, S, fl A c n v, P), none)) := by
  refine q_of (tb := fun j => tb_Ar_fill[j]?) rfl rfl (Nat.le_of_ble_eq_true rfl) ?_
  show BB _ _ 0 [.ref c, .int v, .null, .null] [] _ _ _ _ _
  repeat refine pm_B.next rfl rfl ?_
  refine q_alen rfl hs rfl ?_
  iterate 1 refine pm_B.next rfl rfl ?_
  suffices h : ∀ k i, i + k = n → BB d (fun j => tb_Ar_fill[j]?) 5 [.ref c, .int v, .int (nI i), .int (nI n)] [] SL S (fl A c i v) P (fun r => (131 ≤ r.1.1 ∧ SL ≤ r.1.2.1) ∧ r = ((131, SL, S, fl A c n v, P), none)) by
    have := h n 0 (by omega)
    rw [fl_0] at this
    exact this
  intro k
  induction k with
  | zero =>
    intro i hi
    have : i = n := by omega
    subst this
    repeat refine pm_B.next rfl rfl ?_
    refine r_icT rfl (decide_eq_true (nI_le (Nat.le_refl _) hn)) ?_
    exact q_vret rfl rfl
  | succ k ih =>
    intro i hi
    repeat refine pm_B.next rfl rfl ?_
    refine r_icF rfl (decide_eq_false (nI_ge (by omega) hn)) ?_
    repeat refine pm_B.next rfl rfl ?_
    refine q_iast rfl hs i rfl (by omega) hn ?_
    rw [fl_s]
    iterate 2 refine pm_B.next rfl rfl ?_
    refine q_lc (lc' := [.ref c, .int v, .int (nI (i + 1)), .int (nI n)]) (by rw [nI_succ]; rfl) ?_
    exact ih (i + 1) (by omega)
theorem x_Lk_clear {l : Nat} (k : kL S P l) : EE (d + 1) M_Lk_clear [.ref l] SL S A P (fun r => r = ((131, SL, S, pm_u (pm_u (fl A (l + 1) 6 0) l 1 (-1)) l 2 0, P), none)) := by
  obtain ⟨⟨s0, s1⟩, p0⟩ := k
  refine q_of (tb := fun j => tb_Lk_clear[j]?) rfl rfl (Nat.le_of_ble_eq_true rfl) ?_
  show BB _ _ 0 [.ref l] [] _ _ _ _ _
  repeat (first | refine pm_B.next rfl rfl ?_ | refine q_getr rfl (by assumption) (by decide) (by assumption) ?_ | refine q_geti rfl (by assumption) (by decide) (by assumption) ?_ | refine q_iald rfl (by assumption) _ rfl (by first | assumption | omega) (by decide) rfl ?_ | refine q_puti rfl (by assumption) (by decide) ?_ | refine q_iast rfl (by assumption) _ rfl (by first | assumption | omega) (by decide) ?_)
  refine q_cs rfl rfl (Nat.le_of_ble_eq_true rfl) (Nat.le_of_ble_eq_true rfl) (x_fill s1 (by decide)) ?_
  repeat (first | refine pm_B.next rfl rfl ?_ | refine q_getr rfl (by assumption) (by decide) (by assumption) ?_ | refine q_geti rfl (by assumption) (by decide) (by assumption) ?_ | refine q_iald rfl (by assumption) _ rfl (by first | assumption | omega) (by decide) rfl ?_ | refine q_puti rfl (by assumption) (by decide) ?_ | refine q_iast rfl (by assumption) _ rfl (by first | assumption | omega) (by decide) ?_)
  exact q_vret rfl rfl
theorem x_Ce_clear {c : Nat} (k : kC S P c) : EE (d + 1) M_Ce_clear [.ref c] SL S A P (fun r => r = ((131, SL, S, pm_u (fl (fl A (c + 1) 6 0) (c + 2) 6 0) c 2 0, P), none)) := by
  obtain ⟨⟨s0, s1, s2⟩, p0, p1⟩ := k
  refine q_of (tb := fun j => tb_Ce_clear[j]?) rfl rfl (Nat.le_of_ble_eq_true rfl) ?_
  show BB _ _ 0 [.ref c] [] _ _ _ _ _
  repeat (first | refine pm_B.next rfl rfl ?_ | refine q_getr rfl (by assumption) (by decide) (by assumption) ?_ | refine q_geti rfl (by assumption) (by decide) (by assumption) ?_ | refine q_iald rfl (by assumption) _ rfl (by first | assumption | omega) (by decide) rfl ?_ | refine q_puti rfl (by assumption) (by decide) ?_ | refine q_iast rfl (by assumption) _ rfl (by first | assumption | omega) (by decide) ?_)
  refine q_cs rfl rfl (Nat.le_of_ble_eq_true rfl) (Nat.le_of_ble_eq_true rfl) (x_fill s1 (by decide)) ?_
  repeat (first | refine pm_B.next rfl rfl ?_ | refine q_getr rfl (by assumption) (by decide) (by assumption) ?_ | refine q_geti rfl (by assumption) (by decide) (by assumption) ?_ | refine q_iald rfl (by assumption) _ rfl (by first | assumption | omega) (by decide) rfl ?_ | refine q_puti rfl (by assumption) (by decide) ?_ | refine q_iast rfl (by assumption) _ rfl (by first | assumption | omega) (by decide) ?_)
  refine q_cs rfl rfl (Nat.le_of_ble_eq_true rfl) (Nat.le_of_ble_eq_true rfl) (x_fill s2 (by decide)) ?_
  repeat (first | refine pm_B.next rfl rfl ?_ | refine q_getr rfl (by assumption) (by decide) (by assumption) ?_ | refine q_geti rfl (by assumption) (by decide) (by assumption) ?_ | refine q_iald rfl (by assumption) _ rfl (by first | assumption | omega) (by decide) rfl ?_ | refine q_puti rfl (by assumption) (by decide) ?_ | refine q_iast rfl (by assumption) _ rfl (by first | assumption | omega) (by decide) ?_)
  exact q_vret rfl rfl
theorem x_Rl_clear (k : kR S P) : EE d M_Rl_clear [.ref 53] SL S A P (fun r => r = ((131, SL, S, pm_u A 53 1 0, P), none)) := by
  obtain ⟨⟨s0, s1⟩, p0⟩ := k
  refine q_of (tb := fun j => tb_Rl_clear[j]?) rfl rfl (Nat.le_of_ble_eq_true rfl) ?_
  show BB _ _ 0 [.ref 53] [] _ _ _ _ _
  repeat (first | refine pm_B.next rfl rfl ?_ | refine q_getr rfl (by assumption) (by decide) (by assumption) ?_ | refine q_geti rfl (by assumption) (by decide) (by assumption) ?_ | refine q_iald rfl (by assumption) _ rfl (by first | assumption | omega) (by decide) rfl ?_ | refine q_puti rfl (by assumption) (by decide) ?_ | refine q_iast rfl (by assumption) _ rfl (by first | assumption | omega) (by decide) ?_)
  exact q_vret rfl rfl
theorem x_Lk_refuses {l s : Nat} {hd nb : Int32} (k : kL S P l) (ks : kS S P s) (hh : A l 1 = hd) (hb : A s 0 = nb) : EE d M_Lk_refuses [.ref l, .ref s] SL S A P (fun r => r = ((131, SL, S, A, P), some (.int (if hd = -1 ∨ hd = nb then 0 else 1)))) := by
  obtain ⟨⟨s0, s1⟩, p0⟩ := k
  obtain ⟨⟨t0, t1, t2, t3⟩, p1, p2, p3⟩ := ks
  refine q_of (tb := fun j => tb_Lk_refuses[j]?) rfl rfl (Nat.le_of_ble_eq_true rfl) ?_
  show BB _ _ 0 [.ref l, .ref s] [] _ _ _ _ _
  repeat (first | refine pm_B.next rfl rfl ?_ | refine q_getr rfl (by assumption) (by decide) (by assumption) ?_ | refine q_geti rfl (by assumption) (by decide) (by assumption) ?_ | refine q_iald rfl (by assumption) _ rfl (by first | assumption | omega) (by decide) rfl ?_ | refine q_puti rfl (by assumption) (by decide) ?_ | refine q_iast rfl (by assumption) _ rfl (by first | assumption | omega) (by decide) ?_)
  refine r_ic rfl (fun h => ?_) (fun h => ?_)
  · have h := of_decide_eq_true h
    repeat refine pm_B.next rfl rfl ?_
    exact q_zret rfl (Or.inl rfl) (by rw [if_pos (Or.inl h)])
  · have h := of_decide_eq_false h
    repeat (first | refine pm_B.next rfl rfl ?_ | refine q_getr rfl (by assumption) (by decide) (by assumption) ?_ | refine q_geti rfl (by assumption) (by decide) (by assumption) ?_ | refine q_iald rfl (by assumption) _ rfl (by first | assumption | omega) (by decide) rfl ?_ | refine q_puti rfl (by assumption) (by decide) ?_ | refine q_iast rfl (by assumption) _ rfl (by first | assumption | omega) (by decide) ?_)
    refine r_ic rfl (fun g => ?_) (fun g => ?_)
    · have g := of_decide_eq_true g
      repeat refine pm_B.next rfl rfl ?_
      exact q_zret rfl (Or.inl rfl) (by rw [if_pos (Or.inr g)])
    · have g := of_decide_eq_false g
      repeat refine pm_B.next rfl rfl ?_
      exact q_zret rfl (Or.inr rfl) (by rw [if_neg (fun e => e.elim h g)])
/-- a row of n ints becomes the greater of its own and another row's -/
def mxr (A : Nat → Nat → Int32) (c e n : Nat) : Nat → Nat → Int32 := fun a b => if a = c ∧ b < n then (if A c b < A e b then A e b else A c b) else A a b
theorem mxr_0 {A : Nat → Nat → Int32} {c e : Nat} : mxr A c e 0 = A := by
  funext a b
  simp [mxr]
theorem mxr_s {A : Nat → Nat → Int32} {c e i : Nat} : pm_u (mxr A c e i) c i (if A c i < A e i then A e i else A c i) = mxr A c e (i + 1) := by
  funext a b
  simp only [pm_u, mxr]
  by_cases h1 : a = c
  · by_cases h2 : b = i
    · simp [h1, h2]
    · by_cases h3 : b < i
      · have : b < i + 1 := by omega
        simp [h1, h2, h3, this]
      · have : ¬ b < i + 1 := by omega
        simp [h1, h2, h3, this]
  · simp [h1]
theorem x_Sd_learn {s e : Nat} (k : kS S P s) (he : pm_is S e 0 6) (hne : e ≠ s + 3) : EE d M_Sd_learn [.ref s, .ref e] SL S A P (fun r => r = ((131, SL, S, mxr A (s + 3) e 6, P), none)) := by
  obtain ⟨⟨s0, s1, s2, s3⟩, p1, p2, p3⟩ := k
  refine q_of (tb := fun j => tb_Sd_learn[j]?) rfl rfl (Nat.le_of_ble_eq_true rfl) ?_
  show BB _ _ 0 [.ref s, .ref e, .null] [] _ _ _ _ _
  iterate 2 refine pm_B.next rfl rfl ?_
  suffices h : ∀ k i, i + k = 6 → BB d (fun j => tb_Sd_learn[j]?) 2 [.ref s, .ref e, .int (nI i)] [] SL S (mxr A (s + 3) e i) P (fun r => (131 ≤ r.1.1 ∧ SL ≤ r.1.2.1) ∧ r = ((131, SL, S, mxr A (s + 3) e 6, P), none)) by
    have := h 6 0 (by omega)
    rw [mxr_0] at this
    exact this
  intro k
  induction k with
  | zero =>
    intro i hi
    have : i = 6 := by omega
    subst this
    repeat refine pm_B.next rfl rfl ?_
    exact q_vret rfl rfl
  | succ k ih =>
    intro i hi
    repeat refine pm_B.next rfl rfl ?_
    refine r_icF rfl (decide_eq_false (nI_ge (a := i) (b := 6) (by omega) (by decide))) ?_
    repeat (first | refine pm_B.next rfl rfl ?_ | refine q_getr rfl (by assumption) (by decide) (by assumption) ?_ | refine q_geti rfl (by assumption) (by decide) (by assumption) ?_ | refine q_iald rfl (by assumption) _ rfl (by first | assumption | omega) (by decide) rfl ?_)
    refine q_iast rfl s3 i rfl (by omega) (by decide) ?_
    rw [show mxr A (s + 3) e i (s + 3) i = A (s + 3) i by simp [mxr], show mxr A (s + 3) e i e i = A e i by simp [mxr, hne], mxr_s]
    iterate 2 refine pm_B.next rfl rfl ?_
    refine q_lc (lc' := [.ref s, .ref e, .int (nI (i + 1))]) (by rw [nI_succ]; rfl) ?_
    exact ih (i + 1) (by omega)
end OBJS2
end
section
/-- a row of six ints becomes another's -/
def cp6 (A : Nat → Nat → Int32) (e c : Nat) : Nat → Nat → Int32 := fun a b => if a = e ∧ b < 6 then A c b else A a b
section OBJS3
variable {d : Nat} {SL : Nat} {S : Nat → Nat × Nat} {A : Nat → Nat → Int32} {P : Nat → Nat → Option Nat}
theorem q_copy6 {Q : pm_R → Prop} {tb : Nat → Option pm_I} {pc x : Nat} {lc st : List Value} {c e : Nat} (hf : tb pc = some (pm_copy x)) (hc : pm_is S c 0 6) (he : pm_is S e 0 6) (hcat : pm_cat st ≤ 8) (kk : BB d tb x lc st SL S (cp6 A e c) P Q) : BB d tb pc lc (.int 6 :: .int 0 :: .ref e :: .int 0 :: .ref c :: st) SL S A P Q := by
  refine pm_B.next hf ?_ kk
  have h1 : ((6 : Int32) < 0) = False := by simp [show ¬ (6 : Int32) < 0 by decide]
  have h2 : (6 : Int32).toNatClampNeg = 6 := by decide
  have h3 : (0 : Int32).toNatClampNeg = 0 := by decide
  have h4 : pm_row A e (va_cpy (A c) (A e) 0 0 6) = cp6 A e c := by
    funext a b
    simp only [pm_row, va_cpy, cp6]
    by_cases ha : a = e
    · by_cases hb : b < 6
      · simp [ha, hb]
      · simp [ha, hb]
    · simp [ha]
  simp only [pm_copy, hc.1, hc.2, he.1, he.2, h2, h3, hcat, pm_nx, ← h4]
  simp
theorem x_Lk_take {l s : Nat} {hd nb t : Int32} (k : kL S P l) (ks : kS S P s) (hh : A l 1 = hd) (hb : A s 0 = nb) (ht : A l 2 = t) (hls : l + 1 ≠ s + 3 ∧ s + 3 ≠ l ∧ s + 3 ≠ s) : EE (d + 1) M_Lk_take [.ref l, .ref s] SL S A P (fun r => (hd = -1 ∧ r = ((131, SL, S, pm_u (pm_u (mxr A (s + 3) (l + 1) 6) l 1 nb) l 2 (t + 1), P), none)) ∨ (hd ≠ -1 ∧ r = ((131, SL, S, pm_u A l 2 (t + 1), P), none))) := by
  obtain ⟨⟨s0, s1⟩, p0⟩ := k
  have ks' := ks
  obtain ⟨⟨t0, t1, t2, t3⟩, p1, p2, p3⟩ := ks
  obtain ⟨n1, n2, n3⟩ := hls
  refine q_of (tb := fun j => tb_Lk_take[j]?) rfl rfl (Nat.le_of_ble_eq_true rfl) ?_
  show BB _ _ 0 [.ref l, .ref s] [] _ _ _ _ _
  repeat (first | refine pm_B.next rfl rfl ?_ | refine q_getr rfl (by assumption) (by decide) (by assumption) ?_ | refine q_geti rfl (by assumption) (by decide) (by assumption) ?_ | refine q_iald rfl (by assumption) _ rfl (by first | assumption | omega) (by decide) rfl ?_)
  refine r_ic rfl (fun h => ?_) (fun h => ?_)
  · have h := of_decide_eq_true h
    repeat (first | refine pm_B.next rfl rfl ?_ | refine q_getr rfl (by assumption) (by decide) (by assumption) ?_ | refine q_geti rfl (by assumption) (by decide) (by assumption) ?_ | refine q_iald rfl (by assumption) _ rfl (by first | assumption | omega) (by decide) rfl ?_ | refine q_puti rfl (by assumption) (by decide) ?_ | refine q_iast rfl (by assumption) _ rfl (by first | assumption | omega) (by decide) ?_)
    exact q_vret rfl (Or.inr ⟨h, rfl⟩)
  · have h := Decidable.not_not.mp (of_decide_eq_false h)
    repeat (first | refine pm_B.next rfl rfl ?_ | refine q_getr rfl (by assumption) (by decide) (by assumption) ?_ | refine q_geti rfl (by assumption) (by decide) (by assumption) ?_ | refine q_iald rfl (by assumption) _ rfl (by first | assumption | omega) (by decide) rfl ?_)
    refine q_cv rfl t0 rfl (Nat.le_of_ble_eq_true rfl) (Nat.le_of_ble_eq_true rfl) (x_Sd_learn ks' s1 n1) ?_
    iterate 2 refine pm_B.next rfl rfl ?_
    refine q_geti rfl t0 (by decide) (v := nb) (by simp [mxr, Ne.symm n3, hb]) ?_
    refine q_puti rfl s0 (by decide) ?_
    iterate 2 refine pm_B.next rfl rfl ?_
    refine q_geti rfl s0 (by decide) (v := t) (by rw [u_ni (by decide)]; simp [mxr, Ne.symm n2, ht]) ?_
    iterate 2 refine pm_B.next rfl rfl ?_
    refine q_puti rfl s0 (by decide) ?_
    exact q_vret rfl (Or.inl ⟨h, rfl⟩)
theorem x_Lk_release {l s : Nat} {t : Int32} (k : kL S P l) (ks : kS S P s) (ht : A l 2 = t) : EE d M_Lk_release [.ref l, .ref s] SL S A P (fun r => (t - 1 ≠ 0 ∧ r = ((131, SL, S, pm_u A l 2 (t - 1), P), none)) ∨ (t - 1 = 0 ∧ r = ((131, SL, S, cp6 (pm_u (pm_u A l 2 (t - 1)) l 1 (-1)) (l + 1) (s + 3), P), none))) := by
  obtain ⟨⟨s0, s1⟩, p0⟩ := k
  obtain ⟨⟨t0, t1, t2, t3⟩, p1, p2, p3⟩ := ks
  refine q_of (tb := fun j => tb_Lk_release[j]?) rfl rfl (Nat.le_of_ble_eq_true rfl) ?_
  show BB _ _ 0 [.ref l, .ref s] [] _ _ _ _ _
  repeat (first | refine pm_B.next rfl rfl ?_ | refine q_getr rfl (by assumption) (by decide) (by assumption) ?_ | refine q_geti rfl (by assumption) (by decide) (by assumption) ?_ | refine q_iald rfl (by assumption) _ rfl (by first | assumption | omega) (by decide) rfl ?_)
  refine q_puti rfl s0 (by decide) ?_
  iterate 1 refine pm_B.next rfl rfl ?_
  refine q_geti rfl s0 (by decide) (v := t - 1) u_eq ?_
  refine r_if rfl (fun h => ?_) (fun h => ?_)
  · have h := of_decide_eq_true h
    exact q_vret rfl (Or.inl ⟨h, rfl⟩)
  · have h := Decidable.not_not.mp (of_decide_eq_false h)
    repeat (first | refine pm_B.next rfl rfl ?_ | refine q_getr rfl (by assumption) (by decide) (by assumption) ?_ | refine q_geti rfl (by assumption) (by decide) (by assumption) ?_ | refine q_iald rfl (by assumption) _ rfl (by first | assumption | omega) (by decide) rfl ?_ | refine q_puti rfl (by assumption) (by decide) ?_ | refine q_iast rfl (by assumption) _ rfl (by first | assumption | omega) (by decide) ?_)
    refine q_copy6 rfl t3 s1 (Nat.le_of_ble_eq_true rfl) ?_
    exact q_vret rfl (Or.inr ⟨h, rfl⟩)
/-- a race: a write, or for a write a read, of which the clock doesn't know -/
def rc_ (A : Nat → Nat → Int32) (c k : Nat) (w : Int32) (t : Nat) : Prop := A k t < A (c + 2) t ∨ (w ≠ 0 ∧ A k t < A (c + 1) t)
theorem x_Ce_races {c e : Nat} {w : Int32} (k : kC S P c) (he : pm_is S e 0 6) : EE d M_Ce_races [.ref c, .ref e, .int w] SL S A P (fun r => ((∃ t, t < 6 ∧ rc_ A c e w t) ∧ r = ((131, SL, S, A, P), some (.int 1))) ∨ ((∀ t, t < 6 → ¬ rc_ A c e w t) ∧ r = ((131, SL, S, A, P), some (.int 0)))) := by
  obtain ⟨⟨s0, s1, s2⟩, p0, p1⟩ := k
  refine q_of (tb := fun j => tb_Ce_races[j]?) rfl rfl (Nat.le_of_ble_eq_true rfl) ?_
  show BB _ _ 0 [.ref c, .ref e, .int w, .null] [] _ _ _ _ _
  iterate 2 refine pm_B.next rfl rfl ?_
  suffices h : ∀ k i, i + k = 6 → (∀ t, t < i → ¬ rc_ A c e w t) → BB d (fun j => tb_Ce_races[j]?) 2 [.ref c, .ref e, .int w, .int (nI i)] [] SL S A P (fun r => (131 ≤ r.1.1 ∧ SL ≤ r.1.2.1) ∧ (((∃ t, t < 6 ∧ rc_ A c e w t) ∧ r = ((131, SL, S, A, P), some (.int 1))) ∨ ((∀ t, t < 6 → ¬ rc_ A c e w t) ∧ r = ((131, SL, S, A, P), some (.int 0))))) from h 6 0 (by omega) (fun t ht => absurd ht (Nat.not_lt_zero t))
  intro k
  induction k with
  | zero =>
    intro i hi hno
    have : i = 6 := by omega
    subst this
    repeat refine pm_B.next rfl rfl ?_
    exact q_zret (Q := fun r => ((∃ t, t < 6 ∧ rc_ A c e w t) ∧ r = ((131, SL, S, A, P), some (.int 1))) ∨ ((∀ t, t < 6 → ¬ rc_ A c e w t) ∧ r = ((131, SL, S, A, P), some (.int 0)))) rfl (Or.inl rfl) (Or.inr ⟨hno, rfl⟩)
  | succ k ih =>
    intro i hi hno
    have hyes : rc_ A c e w i → BB d (fun j => tb_Ce_races[j]?) 23 [.ref c, .ref e, .int w, .int (nI i)] [] SL S A P (fun r => (131 ≤ r.1.1 ∧ SL ≤ r.1.2.1) ∧ (((∃ t, t < 6 ∧ rc_ A c e w t) ∧ r = ((131, SL, S, A, P), some (.int 1))) ∨ ((∀ t, t < 6 → ¬ rc_ A c e w t) ∧ r = ((131, SL, S, A, P), some (.int 0))))) := by
      intro hr
      iterate 1 refine pm_B.next rfl rfl ?_
      exact q_zret (Q := fun r => ((∃ t, t < 6 ∧ rc_ A c e w t) ∧ r = ((131, SL, S, A, P), some (.int 1))) ∨ ((∀ t, t < 6 → ¬ rc_ A c e w t) ∧ r = ((131, SL, S, A, P), some (.int 0)))) rfl (Or.inr rfl) (Or.inl ⟨⟨i, by omega, hr⟩, rfl⟩)
    have hon : ¬ rc_ A c e w i → BB d (fun j => tb_Ce_races[j]?) 25 [.ref c, .ref e, .int w, .int (nI i)] [] SL S A P (fun r => (131 ≤ r.1.1 ∧ SL ≤ r.1.2.1) ∧ (((∃ t, t < 6 ∧ rc_ A c e w t) ∧ r = ((131, SL, S, A, P), some (.int 1))) ∨ ((∀ t, t < 6 → ¬ rc_ A c e w t) ∧ r = ((131, SL, S, A, P), some (.int 0))))) := by
      intro hr
      iterate 2 refine pm_B.next rfl rfl ?_
      refine q_lc (lc' := [.ref c, .ref e, .int w, .int (nI (i + 1))]) (by rw [nI_succ]; rfl) ?_
      exact ih (i + 1) (by omega) (lt_s hno hr)
    repeat refine pm_B.next rfl rfl ?_
    refine r_icF rfl (decide_eq_false (nI_ge (a := i) (b := 6) (by omega) (by decide))) ?_
    repeat (first | refine pm_B.next rfl rfl ?_ | refine q_getr rfl (by assumption) (by decide) (by assumption) ?_ | refine q_geti rfl (by assumption) (by decide) (by assumption) ?_ | refine q_iald rfl (by assumption) _ rfl (by first | assumption | omega) (by decide) rfl ?_)
    refine r_ic rfl (fun h => ?_) (fun h => ?_)
    · exact hyes (Or.inl (of_decide_eq_true h))
    · have h := of_decide_eq_false h
      repeat refine pm_B.next rfl rfl ?_
      refine r_if rfl (fun g => ?_) (fun g => ?_)
      · have g := of_decide_eq_true g
        exact hon (fun q => q.elim h (fun z => z.1 g))
      · have g := of_decide_eq_false g
        repeat (first | refine pm_B.next rfl rfl ?_ | refine q_getr rfl (by assumption) (by decide) (by assumption) ?_ | refine q_geti rfl (by assumption) (by decide) (by assumption) ?_ | refine q_iald rfl (by assumption) _ rfl (by first | assumption | omega) (by decide) rfl ?_)
        refine r_ic rfl (fun f => ?_) (fun f => ?_)
        · have f := of_decide_eq_true f
          exact hon (fun q => q.elim h (fun z => absurd z.2 (Int32.not_lt.mpr f)))
        · have f := of_decide_eq_false f
          exact hyes (Or.inr ⟨g, Int32.not_le.mp f⟩)
end OBJS3
end
section
def kU (S : Nat → Nat × Nat) (P : Nat → Nat → Option Nat) : Prop :=
  (pm_is S 49 19 7 ∧ pm_is S 50 3 6 ∧ pm_is S 51 4 4 ∧ pm_is S 52 5 8 ∧ pm_is S 1 17 4 ∧ pm_is S 2 2 8 ∧ pm_is S 3 0 8) ∧ (P 49 0 = some 1 ∧ P 49 1 = some 50 ∧ P 49 2 = some 51 ∧ P 49 3 = some 52 ∧ P 49 4 = some 53 ∧ P 1 0 = some 2 ∧ P 1 1 = some 3) ∧
  (∀ t, t < 6 → P 50 t = some (55 + 4 * t) ∧ kS S P (55 + 4 * t)) ∧ (∀ l, l < 4 → P 51 l = some (79 + 2 * l) ∧ kL S P (79 + 2 * l)) ∧ (∀ c, c < 8 → P 52 c = some (87 + 3 * c) ∧ kC S P (87 + 3 * c)) ∧ kR S P
section RUN1
variable {d : Nat} {SL : Nat} {S : Nat → Nat × Nat} {A : Nat → Nat → Int32} {P : Nat → Nat → Option Nat}
theorem x_Bo_closeBlock {q o e : Nat} {v : Int32} (k : kB S P q) (ho : o < 64) (he : e < 64) (hv : A (q + 3) o = v) : EE d M_Bo_closeBlock [.ref q, .int (nI o), .int (nI e)] SL S A P (fun r => r = ((131, SL, S, pm_u (pm_u A (q + 3) o (nI e)) (q + 3) e (nI o), P), some (.int v))) := by
  obtain ⟨⟨s0, s1, s2, s3, s4⟩, p0, p1, p2, p3⟩ := k
  refine q_of (tb := fun j => tb_Bo_closeBlock[j]?) rfl rfl (Nat.le_of_ble_eq_true rfl) ?_
  show BB _ _ 0 [.ref q, .int (nI o), .int (nI e), .null] [] _ _ _ _ _
  iterate 1 refine pm_B.next rfl rfl ?_
  refine q_getr rfl s0 (by decide) p2 ?_
  iterate 1 refine pm_B.next rfl rfl ?_
  refine q_iald rfl s3 o rfl ho (by decide) hv ?_
  repeat (first | refine pm_B.next rfl rfl ?_ | refine q_getr rfl (by assumption) (by decide) (by assumption) ?_ | refine q_geti rfl (by assumption) (by decide) (by assumption) ?_ | refine q_iald rfl (by assumption) _ rfl (by first | assumption | omega) (by decide) rfl ?_ | refine q_puti rfl (by assumption) (by decide) ?_ | refine q_iast rfl (by assumption) _ rfl (by first | assumption | omega) (by decide) ?_)
  exact q_iret rfl rfl
theorem x_Rl_add {n : Nat} {st th c w : Int32} (k : kR S P) (hn : A 53 1 = nI n) (hn31 : n < 2 ^ 30) : EE d M_Rl_add [.ref 53, .int st, .int th, .int c, .int w] SL S A P (fun r => (64 ≤ n ∧ r = ((131, SL, S, pm_u A 53 1 (nI (n + 1)), P), none)) ∨ (n < 64 ∧ r = ((131, SL, S, pm_u (pm_u (pm_u (pm_u (pm_u A 54 (4 * n) st) 54 (4 * n + 1) th) 54 (4 * n + 2) c) 54 (4 * n + 3) (if w = 0 then 0 else 1)) 53 1 (nI (n + 1)), P), none))) := by
  obtain ⟨⟨s0, s1⟩, p0⟩ := k
  refine q_of (tb := fun j => tb_Rl_add[j]?) rfl rfl (Nat.le_of_ble_eq_true rfl) ?_
  show BB _ _ 0 [.ref 53, .int st, .int th, .int c, .int w, .null] [] _ _ _ _ _
  repeat (first | refine pm_B.next rfl rfl ?_ | refine q_getr rfl (by assumption) (by decide) (by assumption) ?_ | refine q_geti rfl (by assumption) (by decide) (by assumption) ?_ | refine q_iald rfl (by assumption) _ rfl (by first | assumption | omega) (by decide) rfl ?_)
  refine r_ic rfl (fun h => ?_) (fun h => ?_)
  · have h : 64 ≤ n := (nI_leI (a := 64) (b := n) (by omega) (by omega)).mp (of_decide_eq_true h)
    repeat (first | refine pm_B.next rfl rfl ?_ | refine q_getr rfl (by assumption) (by decide) (by assumption) ?_ | refine q_geti rfl (by assumption) (by decide) (by assumption) ?_ | refine q_iald rfl (by assumption) _ rfl (by first | assumption | omega) (by decide) rfl ?_)
    refine q_top (nI_1 n) ?_
    repeat (first | refine pm_B.next rfl rfl ?_ | refine q_getr rfl (by assumption) (by decide) (by assumption) ?_ | refine q_geti rfl (by assumption) (by decide) (by assumption) ?_ | refine q_iald rfl (by assumption) _ rfl (by first | assumption | omega) (by decide) rfl ?_ | refine q_puti rfl (by assumption) (by decide) ?_ | refine q_iast rfl (by assumption) _ rfl (by first | assumption | omega) (by decide) ?_)
    exact q_vret rfl (Or.inl ⟨h, rfl⟩)
  · have h : n < 64 := by
      have := mt (nI_leI (a := 64) (b := n) (by omega) (by omega)).mpr (of_decide_eq_false h)
      omega
    have e4 : nI n * 4 = nI (4 * n) := by rw [show (4 : Int32) = nI 4 from rfl, pk_mul, Nat.mul_comm]
    iterate 1 refine pm_B.next rfl rfl ?_
    refine q_geti rfl s0 (by decide) hn ?_
    iterate 2 refine pm_B.next rfl rfl ?_
    refine q_top e4 ?_
    repeat (first | refine pm_B.next rfl rfl ?_ | refine q_getr rfl (by assumption) (by decide) (by assumption) ?_ | refine q_geti rfl (by assumption) (by decide) (by assumption) ?_ | refine q_iald rfl (by assumption) _ rfl (by first | assumption | omega) (by decide) rfl ?_)
    refine q_iast rfl s1 (4 * n) rfl (by omega) (by decide) ?_
    repeat (first | refine pm_B.next rfl rfl ?_ | refine q_getr rfl (by assumption) (by decide) (by assumption) ?_ | refine q_geti rfl (by assumption) (by decide) (by assumption) ?_ | refine q_iald rfl (by assumption) _ rfl (by first | assumption | omega) (by decide) rfl ?_)
    refine q_iast rfl s1 (4 * n + 1) (nI_add (4 * n) 1) (by omega) (by decide) ?_
    repeat (first | refine pm_B.next rfl rfl ?_ | refine q_getr rfl (by assumption) (by decide) (by assumption) ?_ | refine q_geti rfl (by assumption) (by decide) (by assumption) ?_ | refine q_iald rfl (by assumption) _ rfl (by first | assumption | omega) (by decide) rfl ?_)
    refine q_iast rfl s1 (4 * n + 2) (nI_add (4 * n) 2) (by omega) (by decide) ?_
    repeat (first | refine pm_B.next rfl rfl ?_ | refine q_getr rfl (by assumption) (by decide) (by assumption) ?_ | refine q_geti rfl (by assumption) (by decide) (by assumption) ?_ | refine q_iald rfl (by assumption) _ rfl (by first | assumption | omega) (by decide) rfl ?_)
    have fin : ∀ v : Int32, BB d (fun j => tb_Rl_add[j]?) 38 [.ref 53, .int st, .int th, .int c, .int w, .int (nI (4 * n))] [.int v, .int (nI (4 * n) + 3), .ref 54] SL S (pm_u (pm_u (pm_u A 54 (4 * n) st) 54 (4 * n + 1) th) 54 (4 * n + 2) c) P (fun r => (131 ≤ r.1.1 ∧ SL ≤ r.1.2.1) ∧ r = ((131, SL, S, pm_u (pm_u (pm_u (pm_u (pm_u A 54 (4 * n) st) 54 (4 * n + 1) th) 54 (4 * n + 2) c) 54 (4 * n + 3) v) 53 1 (nI (n + 1)), P), none)) := by
      intro v
      refine q_iast rfl s1 (4 * n + 3) (nI_add (4 * n) 3) (by omega) (by decide) ?_
      repeat refine pm_B.next rfl rfl ?_
      refine q_geti rfl s0 (by decide) (v := nI n) (by rw [u_nc (by decide), u_nc (by decide), u_nc (by decide), u_nc (by decide), hn]) ?_
      repeat refine pm_B.next rfl rfl ?_
      refine q_top (nI_1 n) ?_
      repeat (first | refine pm_B.next rfl rfl ?_ | refine q_getr rfl (by assumption) (by decide) (by assumption) ?_ | refine q_geti rfl (by assumption) (by decide) (by assumption) ?_ | refine q_iald rfl (by assumption) _ rfl (by first | assumption | omega) (by decide) rfl ?_ | refine q_puti rfl (by assumption) (by decide) ?_ | refine q_iast rfl (by assumption) _ rfl (by first | assumption | omega) (by decide) ?_)
      exact q_vret rfl rfl
    refine r_if rfl (fun g => ?_) (fun g => ?_)
    · have g := of_decide_eq_true g
      iterate 1 refine pm_B.next rfl rfl ?_
      refine pm_B.weaken (fin 0) (fun r hr => ⟨hr.1, Or.inr ⟨h, ?_⟩⟩)
      rw [hr.2, if_pos g]
    · have g := of_decide_eq_false g
      iterate 2 refine pm_B.next rfl rfl ?_
      refine pm_B.weaken (fin 1) (fun r hr => ⟨hr.1, Or.inr ⟨h, ?_⟩⟩)
      rw [hr.2, if_neg g]
theorem x_placeOf {s n : Nat} {v : Int32} (ks : kS S P s) (hd : A s 4 = nI (n + 1)) (hn : n < 8) (hv : A (s + 2) n = v) : EE d M_Ru_placeOf [.ref s] SL S A P (fun r => r = ((131, SL, S, A, P), some (.int v))) := by
  obtain ⟨⟨s0, s1, s2, s3⟩, p1, p2, p3⟩ := ks
  refine q_of (tb := fun j => tb_Ru_placeOf[j]?) rfl rfl (Nat.le_of_ble_eq_true rfl) ?_
  show BB _ _ 0 [.ref s] [] _ _ _ _ _
  repeat (first | refine pm_B.next rfl rfl ?_ | refine q_getr rfl (by assumption) (by decide) (by assumption) ?_ | refine q_geti rfl (by assumption) (by decide) (by assumption) ?_ | refine q_iald rfl (by assumption) _ rfl (by first | assumption | omega) (by decide) rfl ?_)
  refine q_iald rfl s2 n (nI_pred n) hn (by decide) hv ?_
  exact q_iret rfl rfl
theorem x_bodyOf {s n b q : Nat} (u : kU S P) (ks : kS S P s) (hd : A s 4 = nI (n + 1)) (hn : n < 8) (hb : A (s + 1) n = nI b) (hb8 : b < 8) (hq : P 2 b = some q) : EE d M_Ru_bodyOf [.ref 49, .ref s] SL S A P (fun r => r = ((131, SL, S, A, P), some (.ref q))) := by
  obtain ⟨⟨u0, u1, u2, u3, u4, u5, u6⟩, ⟨w0, w1, w2, w3, w4, w5, w6⟩, hT, hL, hC, hR⟩ := u
  obtain ⟨⟨s0, s1, s2, s3⟩, p1, p2, p3⟩ := ks
  refine q_of (tb := fun j => tb_Ru_bodyOf[j]?) rfl rfl (Nat.le_of_ble_eq_true rfl) ?_
  show BB _ _ 0 [.ref 49, .ref s] [] _ _ _ _ _
  repeat (first | refine pm_B.next rfl rfl ?_ | refine q_getr rfl (by assumption) (by decide) (by assumption) ?_ | refine q_geti rfl (by assumption) (by decide) (by assumption) ?_ | refine q_iald rfl (by assumption) _ rfl (by first | assumption | omega) (by decide) rfl ?_)
  refine q_iald rfl s1 n (nI_pred n) hn (by decide) hb ?_
  refine q_aald rfl u5 b rfl hb8 (by decide) hq ?_
  exact q_aret rfl rfl
/-- the frames that stay, of n, when those at the top with f are left -/
def lvn (f : Nat → Bool) : Nat → Nat
  | 0 => 0
  | n + 1 => if f n then lvn f n else n + 1
theorem x_leaveEnded {s : Nat} {bb qq pl sz : Nat → Nat} (u : kU S P) (ks : kS S P s) : ∀ (n : Nat) (A : Nat → Nat → Int32), n ≤ 8 → A s 4 = nI n → (∀ j, j < n → A (s + 1) j = nI (bb j) ∧ bb j < 8 ∧ P 2 (bb j) = some (qq j) ∧ pm_is S (qq j) 18 6 ∧ A (s + 2) j = nI (pl j) ∧ pl j < 1000 ∧ A (qq j) 4 = nI (sz j) ∧ sz j < 1000 ∧ qq j ≠ s) → s + 1 ≠ s →
    BB (d + 1) (fun j => tb_Ru_leaveEnded[j]?) 0 [.ref 49, .ref s] [] SL S A P (fun r => (131 ≤ r.1.1 ∧ SL ≤ r.1.2.1) ∧ r = ((131, SL, S, pm_u A s 4 (nI (lvn (fun j => decide (sz j ≤ pl j)) n)), P), none)) := by
  have ks' := ks
  obtain ⟨⟨s0, s1, s2, s3⟩, p1, p2, p3⟩ := ks
  intro n
  induction n with
  | zero =>
    intro A _ hd _ _
    iterate 1 refine pm_B.next rfl rfl ?_
    refine q_geti rfl s0 (by decide) hd ?_
    refine r_ifT rfl rfl ?_
    refine q_vret rfl ?_
    rw [show nI (lvn (fun j => decide (sz j ≤ pl j)) 0) = A s 4 from hd.symm, u_id]
  | succ n ih =>
    intro A hn hd hf hss
    obtain ⟨f1, f2, f3, f4, f5, f6, f7, f8, f9⟩ := hf n (by omega)
    iterate 1 refine pm_B.next rfl rfl ?_
    refine q_geti rfl s0 (by decide) hd ?_
    refine r_ifF rfl (decide_eq_false (fun h => nI_nle (n := n + 1) (by omega) (by omega) h)) ?_
    iterate 1 refine pm_B.next rfl rfl ?_
    refine q_cs rfl rfl (Nat.le_of_ble_eq_true rfl) (Nat.le_of_ble_eq_true rfl) (x_placeOf ks' hd (by omega) f5) ?_
    iterate 2 refine pm_B.next rfl rfl ?_
    refine q_cv rfl u.1.1 rfl (Nat.le_of_ble_eq_true rfl) (Nat.le_of_ble_eq_true rfl) (x_bodyOf u ks' hd (by omega) f1 f2 f3) ?_
    refine q_geti rfl f4 (by decide) f7 ?_
    by_cases hle : sz n ≤ pl n
    · refine r_icF rfl (decide_eq_false (nI_nlt hle (by omega))) ?_
      iterate 2 refine pm_B.next rfl rfl ?_
      refine q_geti rfl s0 (by decide) hd ?_
      iterate 2 refine pm_B.next rfl rfl ?_
      refine q_top (nI_pred n) ?_
      refine q_puti rfl s0 (by decide) ?_
      iterate 1 refine pm_B.next rfl rfl ?_
      have h2 := ih (pm_u A s 4 (nI n)) (by omega) u_eq (fun j hj => by
        obtain ⟨g1, g2, g3, g4, g5, g6, g7, g8, g9⟩ := hf j (by omega)
        exact ⟨by rw [u_nc (by omega)]; exact g1, g2, g3, g4, by rw [u_nc (by omega)]; exact g5, g6, by rw [u_nc g9]; exact g7, g8, g9⟩) hss
      refine pm_B.weaken h2 (fun r hr => ⟨hr.1, ?_⟩)
      rw [hr.2, u_uu]
      simp [lvn, hle]
    · refine r_icT rfl (decide_eq_true (nI_lt (by omega) (by omega))) ?_
      refine q_vret rfl ?_
      have e1 : lvn (fun j => decide (sz j ≤ pl j)) (n + 1) = n + 1 := by simp [lvn, hle]
      rw [e1, ← hd, u_id]
end RUN1
end
section
def kH (S : Nat → Nat × Nat) (P : Nat → Nat → Option Nat) : Prop := (pm_is S 1 17 4 ∧ pm_is S 2 2 8 ∧ pm_is S 3 0 8) ∧ P 1 0 = some 2 ∧ P 1 1 = some 3
/-- which numbers a statement of a kind may have -/
def fit_ (kd nm : Int32) : Int32 := if kd = 0 ∨ kd = 1 then in_ nm 8 else if kd = 4 then in_ nm 4 else if kd = 9 ∨ kd = 10 then in_ nm 8 else in_ kd 11
theorem fit_z (kd nm : Int32) : fit_ kd nm = 0 ∨ fit_ kd nm = 1 := by
  unfold fit_
  split
  · exact in_z _ _
  · split
    · exact in_z _ _
    · split
      · exact in_z _ _
      · exact in_z _ _
section SHELF
variable {d : Nat} {SL : Nat} {S : Nat → Nat × Nat} {A : Nat → Nat → Int32} {P : Nat → Nat → Option Nat}
theorem x_contains {n v : Int32} (k : kH S P) (hn : A 1 3 = n) : EE (d + 1) M_Sh_contains [.ref 1, .int v] SL S A P (fun r => r = ((131, SL, S, A, P), some (.int (in_ v n)))) := by
  obtain ⟨⟨s1, s2, s3⟩, p0, p1⟩ := k
  refine q_of (tb := fun j => tb_Sh_contains[j]?) rfl rfl (Nat.le_of_ble_eq_true rfl) ?_
  show BB _ _ 0 [.ref 1, .int v] [] _ _ _ _ _
  repeat (first | refine pm_B.next rfl rfl ?_ | refine q_getr rfl (by assumption) (by decide) (by assumption) ?_ | refine q_geti rfl (by assumption) (by decide) (by assumption) ?_ | refine q_iald rfl (by assumption) _ rfl (by first | assumption | omega) (by decide) rfl ?_)
  refine q_cs rfl rfl (Nat.le_of_ble_eq_true rfl) (Nat.le_of_ble_eq_true rfl) (x_isBelow v n) ?_
  exact q_zret rfl (in_z v n) rfl
theorem pm_sw_hit {ps : List (Int32 × Nat)} {d' t : Nat} {v : Int32} {lc st : List Value} {h : pm_H} (e : pm_swt ps d' v (fun t => pm_nx t lc st h) = pm_nx t lc st h) : pm_sw ps d' lc (.int v :: st) h = some (.inr (.inl (t, lc, st, h))) := e
theorem x_fits {kd nm : Int32} : EE (d + 1) M_Sh_fits [.int kd, .int nm] SL S A P (fun r => r = ((131, SL, S, A, P), some (.int (fit_ kd nm)))) := by
  refine q_of (tb := fun j => tb_Sh_fits[j]?) rfl rfl (Nat.le_of_ble_eq_true rfl) ?_
  show BB _ _ 0 [.int kd, .int nm] [] _ _ _ _ _
  iterate 1 refine pm_B.next rfl rfl ?_
  have e8 : BB (d + 1) (fun j => tb_Sh_fits[j]?) 2 [.int kd, .int nm] [] SL S A P (fun r => (131 ≤ r.1.1 ∧ SL ≤ r.1.2.1) ∧ r = ((131, SL, S, A, P), some (.int (in_ nm 8)))) := by
    repeat refine pm_B.next rfl rfl ?_
    refine q_cs rfl rfl (Nat.le_of_ble_eq_true rfl) (Nat.le_of_ble_eq_true rfl) (x_isBelow nm 8) ?_
    exact q_zret rfl (in_z _ _) rfl
  have e4 : BB (d + 1) (fun j => tb_Sh_fits[j]?) 6 [.int kd, .int nm] [] SL S A P (fun r => (131 ≤ r.1.1 ∧ SL ≤ r.1.2.1) ∧ r = ((131, SL, S, A, P), some (.int (in_ nm 4)))) := by
    repeat refine pm_B.next rfl rfl ?_
    refine q_cs rfl rfl (Nat.le_of_ble_eq_true rfl) (Nat.le_of_ble_eq_true rfl) (x_isBelow nm 4) ?_
    exact q_zret rfl (in_z _ _) rfl
  have eb : BB (d + 1) (fun j => tb_Sh_fits[j]?) 10 [.int kd, .int nm] [] SL S A P (fun r => (131 ≤ r.1.1 ∧ SL ≤ r.1.2.1) ∧ r = ((131, SL, S, A, P), some (.int (in_ nm 8)))) := by
    repeat refine pm_B.next rfl rfl ?_
    refine q_cs rfl rfl (Nat.le_of_ble_eq_true rfl) (Nat.le_of_ble_eq_true rfl) (x_isBelow nm 8) ?_
    exact q_zret rfl (in_z _ _) rfl
  have ek : BB (d + 1) (fun j => tb_Sh_fits[j]?) 14 [.int kd, .int nm] [] SL S A P (fun r => (131 ≤ r.1.1 ∧ SL ≤ r.1.2.1) ∧ r = ((131, SL, S, A, P), some (.int (in_ kd 11)))) := by
    repeat refine pm_B.next rfl rfl ?_
    refine q_cs rfl rfl (Nat.le_of_ble_eq_true rfl) (Nat.le_of_ble_eq_true rfl) (x_isBelow kd 11) ?_
    exact q_zret rfl (in_z _ _) rfl
  by_cases h0 : kd = 0
  · subst h0; refine pm_B.next rfl rfl ?_; exact e8
  by_cases h1 : kd = 1
  · subst h1; refine pm_B.next rfl rfl ?_; exact e8
  by_cases h4 : kd = 4
  · subst h4; refine pm_B.next rfl rfl ?_; exact e4
  by_cases h9 : kd = 9
  · subst h9; refine pm_B.next rfl rfl ?_; exact eb
  by_cases h10 : kd = 10
  · subst h10; refine pm_B.next rfl rfl ?_; exact eb
  refine pm_B.next (q := (14, [.int kd, .int nm], [], (131, SL, S, A, P))) rfl (pm_sw_hit ?_) ?_
  · simp only [pm_swt, h0, h1, h4, h9, h10, if_false]
    repeat (split; · rfl)
    rfl
  · simp only [fit_, h0, h1, h4, h9, h10, if_false, or_self]
    exact ek
theorem x_setGuard {c l : Int32} (k : kH S P) : EE (d + 1) M_Sh_setGuard [.ref 1, .int c, .int l] SL S A P (fun r => (((in_ c 8 = 0 ∨ (l ≠ -1 ∧ in_ l 4 = 0)) ∧ r = ((131, SL, S, A, P), some (.int 0)))) ∨ (∃ j, j < 8 ∧ c = nI j ∧ (l = -1 ∨ in_ l 4 = 1) ∧ r = ((131, SL, S, pm_u A 3 j l, P), some (.int 1)))) := by
  obtain ⟨⟨s1, s2, s3⟩, p0, p1⟩ := k
  refine q_of (tb := fun j => tb_Sh_setGuard[j]?) rfl rfl (Nat.le_of_ble_eq_true rfl) ?_
  show BB _ _ 0 [.ref 1, .int c, .int l] [] _ _ _ _ _
  repeat refine pm_B.next rfl rfl ?_
  refine q_cs rfl rfl (Nat.le_of_ble_eq_true rfl) (Nat.le_of_ble_eq_true rfl) (x_isBelow c 8) ?_
  refine r_if rfl (fun h => ?_) (fun h => ?_)
  · have h := of_decide_eq_true h
    repeat refine pm_B.next rfl rfl ?_
    exact q_zret rfl (Or.inl rfl) (Or.inl ⟨Or.inl h, rfl⟩)
  · have h := of_decide_eq_false h
    have hj : ∃ j, j < 8 ∧ c = nI j := by
      unfold in_ at h
      split at h
      · rename_i g
        rcases pk_ix c (n := 8) (by decide) with z | z | z
        · exact absurd z g.1
        · exact absurd z g.2
        · exact z
      · exact absurd rfl h
    obtain ⟨j, hj8, rfl⟩ := hj
    have fin : (l = -1 ∨ in_ l 4 = 1) → BB (d + 1) (fun j => tb_Sh_setGuard[j]?) 13 [.ref 1, .int (nI j), .int l] [] SL S A P (fun r => (131 ≤ r.1.1 ∧ SL ≤ r.1.2.1) ∧ r = ((131, SL, S, pm_u A 3 j l, P), some (.int 1))) := by
      intro _
      repeat (first | refine pm_B.next rfl rfl ?_ | refine q_getr rfl (by assumption) (by decide) (by assumption) ?_ | refine q_geti rfl (by assumption) (by decide) (by assumption) ?_ | refine q_iald rfl (by assumption) _ rfl (by first | assumption | omega) (by decide) rfl ?_ | refine q_puti rfl (by assumption) (by decide) ?_ | refine q_iast rfl (by assumption) _ rfl (by first | assumption | omega) (by decide) ?_)
      exact q_zret rfl (Or.inr rfl) rfl
    repeat refine pm_B.next rfl rfl ?_
    refine r_ic rfl (fun g => ?_) (fun g => ?_)
    · have g := of_decide_eq_true g
      exact pm_B.weaken (fin (Or.inl g)) (fun r hr => ⟨hr.1, Or.inr ⟨j, hj8, rfl, Or.inl g, hr.2⟩⟩)
    · have g := of_decide_eq_false g
      repeat refine pm_B.next rfl rfl ?_
      refine q_cs rfl rfl (Nat.le_of_ble_eq_true rfl) (Nat.le_of_ble_eq_true rfl) (x_isBelow l 4) ?_
      refine r_if rfl (fun f => ?_) (fun f => ?_)
      · have f : in_ l 4 = 1 := (in_z l 4).resolve_left (of_decide_eq_true f)
        exact pm_B.weaken (fin (Or.inr f)) (fun r hr => ⟨hr.1, Or.inr ⟨j, hj8, rfl, Or.inr f, hr.2⟩⟩)
      · have f := Decidable.not_not.mp (of_decide_eq_false f)
        repeat refine pm_B.next rfl rfl ?_
        exact q_zret rfl (Or.inl rfl) (Or.inl ⟨Or.inr ⟨g, f⟩, rfl⟩)
theorem x_addStatement {q sz : Nat} {kd nm : Int32} (k : kH S P) (hq : P 1 2 = some q) (kb : kB S P q) (hs : A q 4 = nI sz) (h64 : sz ≤ 64) : EE (d + 2) M_Sh_addStatement [.ref 1, .int kd, .int nm] SL S A P (fun r => ((fit_ kd nm = 0 ∨ sz = 64) ∧ r = ((131, SL, S, A, P), some (.int (-1)))) ∨ (fit_ kd nm = 1 ∧ sz < 64 ∧ r = ((131, SL, S, pm_u (pm_u (pm_u A (q + 1) sz kd) (q + 2) sz nm) q 4 (nI (sz + 1)), P), some (.int (nI (sz + 1)))))) := by
  obtain ⟨⟨s1, s2, s3⟩, p0, p1⟩ := k
  refine q_of (tb := fun j => tb_Sh_addStatement[j]?) rfl rfl (Nat.le_of_ble_eq_true rfl) ?_
  show BB _ _ 0 [.ref 1, .int kd, .int nm] [] _ _ _ _ _
  repeat refine pm_B.next rfl rfl ?_
  refine q_cs rfl rfl (Nat.le_of_ble_eq_true rfl) (Nat.le_of_ble_eq_true rfl) x_fits ?_
  refine r_if rfl (fun h => ?_) (fun h => ?_)
  · have h := of_decide_eq_true h
    repeat refine pm_B.next rfl rfl ?_
    exact q_iret rfl (Or.inl ⟨Or.inl h, rfl⟩)
  · have h : fit_ kd nm = 1 := (fit_z kd nm).resolve_left (of_decide_eq_false h)
    iterate 1 refine pm_B.next rfl rfl ?_
    refine q_getr rfl s1 (by decide) hq ?_
    repeat refine pm_B.next rfl rfl ?_
    refine q_callv rfl kb.1.1 rfl (Nat.le_of_ble_eq_true rfl) (Nat.le_of_ble_eq_true rfl) (x_Bo_append kb hs h64) (fun h1 v hr => ?_)
    rcases hr with ⟨z1, z2⟩ | ⟨z1, z2⟩
    · cases z2
      repeat refine pm_B.next rfl rfl ?_
      exact q_iret rfl (Or.inl ⟨Or.inr z1, rfl⟩)
    · cases z2
      repeat refine pm_B.next rfl rfl ?_
      exact q_iret rfl (Or.inr ⟨h, z1, rfl⟩)
end SHELF
end
