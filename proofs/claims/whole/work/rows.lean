section
-- ===== PART A: goes FIRST, ahead of the names: the tables' words, and 'selects' of the private methods out of them =====
/-- a private method of a class that the tables say can be made, by its rows of tables_1 -/
def lw_okq (q : MethodName × Nat) : Prop := (q.1.cls ≠ "java/lang/invoke/MethodHandle" ∧ q.1.cls ≠ "java/lang/invoke/VarHandle") ∧ Cond.instantiable q.1.cls q.2 ∈ tables_1 ∧ Cond.privateMethod q.1 ∈ tables_1 ∧ Cond.instanceMethod q.1 ∈ tables_1
theorem lw_p0 : lw_okq (⟨"LockLoom$Body", "closeBlock", "(II)I"⟩, 6) := ⟨⟨by decide +kernel, by decide +kernel⟩, List.mem_of_getElem? (i := 29) (by decide +kernel), List.mem_of_getElem? (i := 232) (by decide +kernel), List.mem_of_getElem? (i := 233) (by decide +kernel)⟩
theorem lw_p1 : lw_okq (⟨"LockLoom$Shelf", "isRight", "(LLockLoom$Body;I)Z"⟩, 4) := ⟨⟨by decide +kernel, by decide +kernel⟩, List.mem_of_getElem? (i := 22) (by decide +kernel), List.mem_of_getElem? (i := 260) (by decide +kernel), List.mem_of_getElem? (i := 261) (by decide +kernel)⟩
theorem lw_p2 : lw_okq (⟨"LockLoom$Shelf", "guardHeld", "(II)Z"⟩, 4) := ⟨⟨by decide +kernel, by decide +kernel⟩, List.mem_of_getElem? (i := 22) (by decide +kernel), List.mem_of_getElem? (i := 264) (by decide +kernel), List.mem_of_getElem? (i := 265) (by decide +kernel)⟩
theorem lw_p3 : lw_okq (⟨"LockLoom$Run", "leaveEnded", "(LLockLoom$Strand;)V"⟩, 7) := ⟨⟨by decide +kernel, by decide +kernel⟩, List.mem_of_getElem? (i := 81) (by decide +kernel), List.mem_of_getElem? (i := 309) (by decide +kernel), List.mem_of_getElem? (i := 310) (by decide +kernel)⟩
theorem lw_p4 : lw_okq (⟨"LockLoom$Run", "bodyOf", "(LLockLoom$Strand;)LLockLoom$Body;"⟩, 7) := ⟨⟨by decide +kernel, by decide +kernel⟩, List.mem_of_getElem? (i := 81) (by decide +kernel), List.mem_of_getElem? (i := 316) (by decide +kernel), List.mem_of_getElem? (i := 317) (by decide +kernel)⟩
theorem lw_p5 : lw_okq (⟨"LockLoom$Run", "wouldWait", "(LLockLoom$Strand;)Z"⟩, 7) := ⟨⟨by decide +kernel, by decide +kernel⟩, List.mem_of_getElem? (i := 81) (by decide +kernel), List.mem_of_getElem? (i := 333) (by decide +kernel), List.mem_of_getElem? (i := 334) (by decide +kernel)⟩
theorem lw_p6 : lw_okq (⟨"LockLoom$Run", "perform", "(LLockLoom$Strand;)V"⟩, 7) := ⟨⟨by decide +kernel, by decide +kernel⟩, List.mem_of_getElem? (i := 81) (by decide +kernel), List.mem_of_getElem? (i := 341) (by decide +kernel), List.mem_of_getElem? (i := 342) (by decide +kernel)⟩
theorem lw_p7 : lw_okq (⟨"LockLoom$Run", "readCell", "(LLockLoom$Strand;I)V"⟩, 7) := ⟨⟨by decide +kernel, by decide +kernel⟩, List.mem_of_getElem? (i := 81) (by decide +kernel), List.mem_of_getElem? (i := 349) (by decide +kernel), List.mem_of_getElem? (i := 350) (by decide +kernel)⟩
theorem lw_p8 : lw_okq (⟨"LockLoom$Run", "noteRace", "(LLockLoom$Strand;IZ)V"⟩, 7) := ⟨⟨by decide +kernel, by decide +kernel⟩, List.mem_of_getElem? (i := 81) (by decide +kernel), List.mem_of_getElem? (i := 353) (by decide +kernel), List.mem_of_getElem? (i := 354) (by decide +kernel)⟩
theorem lw_p9 : lw_okq (⟨"LockLoom$Run", "writeCell", "(LLockLoom$Strand;I)V"⟩, 7) := ⟨⟨by decide +kernel, by decide +kernel⟩, List.mem_of_getElem? (i := 81) (by decide +kernel), List.mem_of_getElem? (i := 365) (by decide +kernel), List.mem_of_getElem? (i := 366) (by decide +kernel)⟩
theorem lw_p10 : lw_okq (⟨"LockLoom$Run", "endBlock", "(LLockLoom$Strand;LLockLoom$Body;I)V"⟩, 7) := ⟨⟨by decide +kernel, by decide +kernel⟩, List.mem_of_getElem? (i := 81) (by decide +kernel), List.mem_of_getElem? (i := 380) (by decide +kernel), List.mem_of_getElem? (i := 381) (by decide +kernel)⟩
theorem lw_p11 : lw_okq (⟨"LockLoom$Run", "fork", "(LLockLoom$Strand;I)V"⟩, 7) := ⟨⟨by decide +kernel, by decide +kernel⟩, List.mem_of_getElem? (i := 81) (by decide +kernel), List.mem_of_getElem? (i := 391) (by decide +kernel), List.mem_of_getElem? (i := 392) (by decide +kernel)⟩
theorem lw_p12 : lw_okq (⟨"LockLoomModel", "isWhole", "()Z"⟩, 24) := ⟨⟨by decide +kernel, by decide +kernel⟩, List.mem_of_getElem? (i := 463) (by decide +kernel), List.mem_of_getElem? (i := 554) (by decide +kernel), List.mem_of_getElem? (i := 555) (by decide +kernel)⟩
theorem lw_p13 : lw_okq (⟨"LockLoomModel", "kindAt", "(II)I"⟩, 24) := ⟨⟨by decide +kernel, by decide +kernel⟩, List.mem_of_getElem? (i := 463) (by decide +kernel), List.mem_of_getElem? (i := 558) (by decide +kernel), List.mem_of_getElem? (i := 559) (by decide +kernel)⟩
theorem lw_p14 : lw_okq (⟨"LockLoomModel", "openerOf", "(II)I"⟩, 24) := ⟨⟨by decide +kernel, by decide +kernel⟩, List.mem_of_getElem? (i := 463) (by decide +kernel), List.mem_of_getElem? (i := 562) (by decide +kernel), List.mem_of_getElem? (i := 563) (by decide +kernel)⟩
theorem lw_p15 : lw_okq (⟨"LockLoomModel", "closerOf", "(IIZ)I"⟩, 24) := ⟨⟨by decide +kernel, by decide +kernel⟩, List.mem_of_getElem? (i := 463) (by decide +kernel), List.mem_of_getElem? (i := 569) (by decide +kernel), List.mem_of_getElem? (i := 570) (by decide +kernel)⟩
def lw_privs_1 : List (MethodName × Nat) := [(⟨"LockLoom$Body", "closeBlock", "(II)I"⟩, 6), (⟨"LockLoom$Shelf", "isRight", "(LLockLoom$Body;I)Z"⟩, 4), (⟨"LockLoom$Shelf", "guardHeld", "(II)Z"⟩, 4), (⟨"LockLoom$Run", "leaveEnded", "(LLockLoom$Strand;)V"⟩, 7), (⟨"LockLoom$Run", "bodyOf", "(LLockLoom$Strand;)LLockLoom$Body;"⟩, 7), (⟨"LockLoom$Run", "wouldWait", "(LLockLoom$Strand;)Z"⟩, 7), (⟨"LockLoom$Run", "perform", "(LLockLoom$Strand;)V"⟩, 7), (⟨"LockLoom$Run", "readCell", "(LLockLoom$Strand;I)V"⟩, 7), (⟨"LockLoom$Run", "noteRace", "(LLockLoom$Strand;IZ)V"⟩, 7), (⟨"LockLoom$Run", "writeCell", "(LLockLoom$Strand;I)V"⟩, 7), (⟨"LockLoom$Run", "endBlock", "(LLockLoom$Strand;LLockLoom$Body;I)V"⟩, 7), (⟨"LockLoom$Run", "fork", "(LLockLoom$Strand;I)V"⟩, 7), (⟨"LockLoomModel", "isWhole", "()Z"⟩, 24), (⟨"LockLoomModel", "kindAt", "(II)I"⟩, 24), (⟨"LockLoomModel", "openerOf", "(II)I"⟩, 24), (⟨"LockLoomModel", "closerOf", "(IIZ)I"⟩, 24)]
theorem lw_r1 : ∀ q ∈ lw_privs_1, lw_okq q := List.forall_mem_cons.mpr ⟨lw_p0, List.forall_mem_cons.mpr ⟨lw_p1, List.forall_mem_cons.mpr ⟨lw_p2, List.forall_mem_cons.mpr ⟨lw_p3, List.forall_mem_cons.mpr ⟨lw_p4, List.forall_mem_cons.mpr ⟨lw_p5, List.forall_mem_cons.mpr ⟨lw_p6, List.forall_mem_cons.mpr ⟨lw_p7, List.forall_mem_cons.mpr ⟨lw_p8, List.forall_mem_cons.mpr ⟨lw_p9, List.forall_mem_cons.mpr ⟨lw_p10, List.forall_mem_cons.mpr ⟨lw_p11, List.forall_mem_cons.mpr ⟨lw_p12, List.forall_mem_cons.mpr ⟨lw_p13, List.forall_mem_cons.mpr ⟨lw_p14, List.forall_mem_cons.mpr ⟨lw_p15, fun _ h => absurd h List.not_mem_nil⟩⟩⟩⟩⟩⟩⟩⟩⟩⟩⟩⟩⟩⟩⟩⟩
theorem lw_p16 : lw_okq (⟨"LockLoomModel", "numberAt", "(II)I"⟩, 24) := ⟨⟨by decide +kernel, by decide +kernel⟩, List.mem_of_getElem? (i := 463) (by decide +kernel), List.mem_of_getElem? (i := 573) (by decide +kernel), List.mem_of_getElem? (i := 574) (by decide +kernel)⟩
theorem lw_p17 : lw_okq (⟨"LockLoomModel", "isRight", "(II)Z"⟩, 24) := ⟨⟨by decide +kernel, by decide +kernel⟩, List.mem_of_getElem? (i := 463) (by decide +kernel), List.mem_of_getElem? (i := 585) (by decide +kernel), List.mem_of_getElem? (i := 586) (by decide +kernel)⟩
theorem lw_p18 : lw_okq (⟨"LockLoomModel", "heldAt", "(II)I"⟩, 24) := ⟨⟨by decide +kernel, by decide +kernel⟩, List.mem_of_getElem? (i := 463) (by decide +kernel), List.mem_of_getElem? (i := 589) (by decide +kernel), List.mem_of_getElem? (i := 590) (by decide +kernel)⟩
theorem lw_p19 : lw_okq (⟨"LockLoomModel", "begin", "(III)V"⟩, 24) := ⟨⟨by decide +kernel, by decide +kernel⟩, List.mem_of_getElem? (i := 463) (by decide +kernel), List.mem_of_getElem? (i := 602) (by decide +kernel), List.mem_of_getElem? (i := 603) (by decide +kernel)⟩
theorem lw_p20 : lw_okq (⟨"LockLoomModel", "enter", "(II)V"⟩, 24) := ⟨⟨by decide +kernel, by decide +kernel⟩, List.mem_of_getElem? (i := 463) (by decide +kernel), List.mem_of_getElem? (i := 606) (by decide +kernel), List.mem_of_getElem? (i := 607) (by decide +kernel)⟩
theorem lw_p21 : lw_okq (⟨"LockLoomModel", "leave", "(I)V"⟩, 24) := ⟨⟨by decide +kernel, by decide +kernel⟩, List.mem_of_getElem? (i := 463) (by decide +kernel), List.mem_of_getElem? (i := 610) (by decide +kernel), List.mem_of_getElem? (i := 611) (by decide +kernel)⟩
theorem lw_p22 : lw_okq (⟨"LockLoomModel", "isThread", "(I)Z"⟩, 24) := ⟨⟨by decide +kernel, by decide +kernel⟩, List.mem_of_getElem? (i := 463) (by decide +kernel), List.mem_of_getElem? (i := 618) (by decide +kernel), List.mem_of_getElem? (i := 619) (by decide +kernel)⟩
theorem lw_p23 : lw_okq (⟨"LockLoomModel", "waitsFor", "(I)I"⟩, 24) := ⟨⟨by decide +kernel, by decide +kernel⟩, List.mem_of_getElem? (i := 463) (by decide +kernel), List.mem_of_getElem? (i := 622) (by decide +kernel), List.mem_of_getElem? (i := 623) (by decide +kernel)⟩
theorem lw_p24 : lw_okq (⟨"LockLoomModel", "does", "(III)V"⟩, 24) := ⟨⟨by decide +kernel, by decide +kernel⟩, List.mem_of_getElem? (i := 463) (by decide +kernel), List.mem_of_getElem? (i := 626) (by decide +kernel), List.mem_of_getElem? (i := 627) (by decide +kernel)⟩
theorem lw_p25 : lw_okq (⟨"LockLoomModel", "meets", "(III)V"⟩, 24) := ⟨⟨by decide +kernel, by decide +kernel⟩, List.mem_of_getElem? (i := 463) (by decide +kernel), List.mem_of_getElem? (i := 630) (by decide +kernel), List.mem_of_getElem? (i := 631) (by decide +kernel)⟩
theorem lw_p26 : lw_okq (⟨"LockLoomModel", "mark", "()V"⟩, 24) := ⟨⟨by decide +kernel, by decide +kernel⟩, List.mem_of_getElem? (i := 463) (by decide +kernel), List.mem_of_getElem? (i := 634) (by decide +kernel), List.mem_of_getElem? (i := 635) (by decide +kernel)⟩
theorem lw_p27 : lw_okq (⟨"LockLoomModel", "takes", "(II)V"⟩, 24) := ⟨⟨by decide +kernel, by decide +kernel⟩, List.mem_of_getElem? (i := 463) (by decide +kernel), List.mem_of_getElem? (i := 638) (by decide +kernel), List.mem_of_getElem? (i := 639) (by decide +kernel)⟩
theorem lw_p28 : lw_okq (⟨"LockLoomModel", "ends", "(III)V"⟩, 24) := ⟨⟨by decide +kernel, by decide +kernel⟩, List.mem_of_getElem? (i := 463) (by decide +kernel), List.mem_of_getElem? (i := 642) (by decide +kernel), List.mem_of_getElem? (i := 643) (by decide +kernel)⟩
def lw_privs_2 : List (MethodName × Nat) := [(⟨"LockLoomModel", "numberAt", "(II)I"⟩, 24), (⟨"LockLoomModel", "isRight", "(II)Z"⟩, 24), (⟨"LockLoomModel", "heldAt", "(II)I"⟩, 24), (⟨"LockLoomModel", "begin", "(III)V"⟩, 24), (⟨"LockLoomModel", "enter", "(II)V"⟩, 24), (⟨"LockLoomModel", "leave", "(I)V"⟩, 24), (⟨"LockLoomModel", "isThread", "(I)Z"⟩, 24), (⟨"LockLoomModel", "waitsFor", "(I)I"⟩, 24), (⟨"LockLoomModel", "does", "(III)V"⟩, 24), (⟨"LockLoomModel", "meets", "(III)V"⟩, 24), (⟨"LockLoomModel", "mark", "()V"⟩, 24), (⟨"LockLoomModel", "takes", "(II)V"⟩, 24), (⟨"LockLoomModel", "ends", "(III)V"⟩, 24)]
theorem lw_r2 : ∀ q ∈ lw_privs_2, lw_okq q := List.forall_mem_cons.mpr ⟨lw_p16, List.forall_mem_cons.mpr ⟨lw_p17, List.forall_mem_cons.mpr ⟨lw_p18, List.forall_mem_cons.mpr ⟨lw_p19, List.forall_mem_cons.mpr ⟨lw_p20, List.forall_mem_cons.mpr ⟨lw_p21, List.forall_mem_cons.mpr ⟨lw_p22, List.forall_mem_cons.mpr ⟨lw_p23, List.forall_mem_cons.mpr ⟨lw_p24, List.forall_mem_cons.mpr ⟨lw_p25, List.forall_mem_cons.mpr ⟨lw_p26, List.forall_mem_cons.mpr ⟨lw_p27, List.forall_mem_cons.mpr ⟨lw_p28, fun _ h => absurd h List.not_mem_nil⟩⟩⟩⟩⟩⟩⟩⟩⟩⟩⟩⟩⟩
def lw_privs : List (MethodName × Nat) := lw_privs_1 ++ (lw_privs_2)
def lw_tbl : List Cond := k2_sels lw_privs ++ tables_1
theorem lw_privs_ok : ∀ q ∈ lw_privs, lw_okq q := by
  show ∀ q ∈ lw_privs_1 ++ (lw_privs_2), lw_okq q
  exact List.forall_mem_append.mpr ⟨lw_r1, lw_r2⟩
end
section
theorem pm_in1 {w : Cond} (h : w ∈ tables_1_1 ++ (tables_1_2 ++ tables_1_3)) : w ∈ lw_tbl := List.mem_append_right _ h
theorem pm_in0 {w : Cond} (h : w ∈ k2_sels lw_privs) : w ∈ lw_tbl := List.mem_append_left _ h
def pm_gd (w : Cond) : Bool := w.onTables && w.keepsH
abbrev R_Lo : String := "LockLoom"
abbrev R_Sh : String := "LockLoom$Shelf"
abbrev R_Bo : String := "LockLoom$Body"
abbrev R_Ru : String := "LockLoom$Run"
abbrev R_Rl : String := "LockLoom$RaceLog"
abbrev R_Sd : String := "LockLoom$Strand"
abbrev R_Lk : String := "LockLoom$Lock"
abbrev R_Ce : String := "LockLoom$Cell"
abbrev R_Mo : String := "LockLoomModel"
abbrev R_Ar : String := "java/util/Arrays"
abbrev R_Law : String := "LockLoomLaw"
def T_Lo : u_T := fun k => match k with
  | 0 => ("LockLoom", "shelf", "LLockLoom$Shelf;", true)
  | _ => ("LockLoom", "run", "LLockLoom$Run;", true)
def T_Sh : u_T := fun k => match k with
  | 0 => ("LockLoom$Shelf", "bodies", "[LLockLoom$Body;", true)
  | 1 => ("LockLoom$Shelf", "guards", "[I", true)
  | 2 => ("LockLoom$Shelf", "text", "LLockLoom$Body;", false)
  | _ => ("LockLoom$Shelf", "bodyCount", "I", false)
def T_Bo : u_T := fun k => match k with
  | 0 => ("LockLoom$Body", "kinds", "[I", true)
  | 1 => ("LockLoom$Body", "numbers", "[I", true)
  | 2 => ("LockLoom$Body", "partners", "[I", true)
  | 3 => ("LockLoom$Body", "held", "[I", true)
  | 4 => ("LockLoom$Body", "size", "I", false)
  | _ => ("LockLoom$Body", "requires", "I", false)
def T_Ru : u_T := fun k => match k with
  | 0 => ("LockLoom$Run", "shelf", "LLockLoom$Shelf;", true)
  | 1 => ("LockLoom$Run", "strands", "[LLockLoom$Strand;", true)
  | 2 => ("LockLoom$Run", "locks", "[LLockLoom$Lock;", true)
  | 3 => ("LockLoom$Run", "cells", "[LLockLoom$Cell;", true)
  | 4 => ("LockLoom$Run", "raceLog", "LLockLoom$RaceLog;", true)
  | 5 => ("LockLoom$Run", "strandCount", "I", false)
  | _ => ("LockLoom$Run", "steps", "I", false)
def T_Rl : u_T := fun k => match k with
  | 0 => ("LockLoom$RaceLog", "parts", "[I", true)
  | _ => ("LockLoom$RaceLog", "total", "I", false)
def T_Sd : u_T := fun k => match k with
  | 0 => ("LockLoom$Strand", "number", "I", true)
  | 1 => ("LockLoom$Strand", "bodies", "[I", true)
  | 2 => ("LockLoom$Strand", "places", "[I", true)
  | 3 => ("LockLoom$Strand", "clock", "[I", true)
  | 4 => ("LockLoom$Strand", "depth", "I", false)
  | _ => ("LockLoom$Strand", "value", "I", false)
def T_Lk : u_T := fun k => match k with
  | 0 => ("LockLoom$Lock", "clock", "[I", true)
  | 1 => ("LockLoom$Lock", "holder", "I", false)
  | _ => ("LockLoom$Lock", "times", "I", false)
def T_Ce : u_T := fun k => match k with
  | 0 => ("LockLoom$Cell", "reads", "[I", true)
  | 1 => ("LockLoom$Cell", "writes", "[I", true)
  | _ => ("LockLoom$Cell", "value", "I", false)
def T_Mo : u_T := fun k => match k with
  | 0 => ("LockLoomModel", "kinds", "[I", true)
  | 1 => ("LockLoomModel", "numbers", "[I", true)
  | 2 => ("LockLoomModel", "sizes", "[I", true)
  | 3 => ("LockLoomModel", "required", "[I", true)
  | 4 => ("LockLoomModel", "bodies", "I", false)
  | 5 => ("LockLoomModel", "guards", "[I", true)
  | 6 => ("LockLoomModel", "runs", "Z", false)
  | 7 => ("LockLoomModel", "cells", "[I", true)
  | 8 => ("LockLoomModel", "owner", "[I", true)
  | 9 => ("LockLoomModel", "times", "[I", true)
  | 10 => ("LockLoomModel", "freed", "[I", true)
  | 11 => ("LockLoomModel", "threads", "I", false)
  | 12 => ("LockLoomModel", "has", "[I", true)
  | 13 => ("LockLoomModel", "depth", "[I", true)
  | 14 => ("LockLoomModel", "inBody", "[I", true)
  | 15 => ("LockLoomModel", "places", "[I", true)
  | 16 => ("LockLoomModel", "latest", "[I", true)
  | 17 => ("LockLoomModel", "steps", "I", false)
  | 18 => ("LockLoomModel", "ahead", "[I", true)
  | 19 => ("LockLoomModel", "other", "[I", true)
  | 20 => ("LockLoomModel", "access", "[I", true)
  | 21 => ("LockLoomModel", "before", "[Z", true)
  | 22 => ("LockLoomModel", "races", "I", false)
  | _ => ("LockLoomModel", "racing", "[I", true)
/-- the types of an array's elements, of an object's fields -/
def pm_ft (t : Nat) : Nat → FieldType := match t with
  | 0 => fun _ => .int
  | 1 => fun _ => .boolean
  | 2 => fun _ => .object "LockLoom$Body"
  | 3 => fun _ => .object "LockLoom$Strand"
  | 4 => fun _ => .object "LockLoom$Lock"
  | 5 => fun _ => .object "LockLoom$Cell"
  | 16 => fun k => match k with
    | 0 => .object "LockLoom$Shelf"
    | _ => .object "LockLoom$Run"
  | 17 => fun k => match k with
    | 0 => .array (.object "LockLoom$Body")
    | 1 => .array (.int)
    | 2 => .object "LockLoom$Body"
    | _ => .int
  | 18 => fun k => match k with
    | 0 => .array (.int)
    | 1 => .array (.int)
    | 2 => .array (.int)
    | 3 => .array (.int)
    | 4 => .int
    | _ => .int
  | 19 => fun k => match k with
    | 0 => .object "LockLoom$Shelf"
    | 1 => .array (.object "LockLoom$Strand")
    | 2 => .array (.object "LockLoom$Lock")
    | 3 => .array (.object "LockLoom$Cell")
    | 4 => .object "LockLoom$RaceLog"
    | 5 => .int
    | _ => .int
  | 20 => fun k => match k with
    | 0 => .array (.int)
    | _ => .int
  | 21 => fun k => match k with
    | 0 => .int
    | 1 => .array (.int)
    | 2 => .array (.int)
    | 3 => .array (.int)
    | 4 => .int
    | _ => .int
  | 22 => fun k => match k with
    | 0 => .array (.int)
    | 1 => .int
    | _ => .int
  | 23 => fun k => match k with
    | 0 => .array (.int)
    | 1 => .array (.int)
    | _ => .int
  | 24 => fun k => match k with
    | 0 => .array (.int)
    | 1 => .array (.int)
    | 2 => .array (.int)
    | 3 => .array (.int)
    | 4 => .int
    | 5 => .array (.int)
    | 6 => .boolean
    | 7 => .array (.int)
    | 8 => .array (.int)
    | 9 => .array (.int)
    | 10 => .array (.int)
    | 11 => .int
    | 12 => .array (.int)
    | 13 => .array (.int)
    | 14 => .array (.int)
    | 15 => .array (.int)
    | 16 => .array (.int)
    | 17 => .int
    | 18 => .array (.int)
    | 19 => .array (.int)
    | 20 => .array (.int)
    | 21 => .array (.boolean)
    | 22 => .int
    | _ => .array (.int)
  | _ => fun _ => .int
def pm_tg : List FieldType := [.int, .boolean, .object "LockLoom$Body", .object "LockLoom$Strand", .object "LockLoom$Lock", .object "LockLoom$Cell"]
abbrev vwCl : List vw_C := [(R_Lo, T_Lo, 2), (R_Sh, T_Sh, 4), (R_Bo, T_Bo, 6), (R_Ru, T_Ru, 7), (R_Rl, T_Rl, 2), (R_Sd, T_Sd, 6), (R_Lk, T_Lk, 3), (R_Ce, T_Ce, 3), (R_Mo, T_Mo, 24)]
theorem lay_Lo_0 : u_lay R_Lo T_Lo 0 ∈ lw_tbl ∧ pm_gd (u_lay R_Lo T_Lo 0) = true := ⟨pm_in1 (List.mem_append_left _ (List.mem_of_getElem? (i := 196) rfl)), rfl⟩
theorem lay_Lo_1 : u_lay R_Lo T_Lo 1 ∈ lw_tbl ∧ pm_gd (u_lay R_Lo T_Lo 1) = true := ⟨pm_in1 (List.mem_append_left _ (List.mem_of_getElem? (i := 198) rfl)), rfl⟩
theorem lay_Sh_0 : u_lay R_Sh T_Sh 0 ∈ lw_tbl ∧ pm_gd (u_lay R_Sh T_Sh 0) = true := ⟨pm_in1 (List.mem_append_left _ (List.mem_of_getElem? (i := 71) rfl)), rfl⟩
theorem lay_Sh_1 : u_lay R_Sh T_Sh 1 ∈ lw_tbl ∧ pm_gd (u_lay R_Sh T_Sh 1) = true := ⟨pm_in1 (List.mem_append_left _ (List.mem_of_getElem? (i := 73) rfl)), rfl⟩
theorem lay_Sh_2 : u_lay R_Sh T_Sh 2 ∈ lw_tbl ∧ pm_gd (u_lay R_Sh T_Sh 2) = true := ⟨pm_in1 (List.mem_append_left _ (List.mem_of_getElem? (i := 75) rfl)), rfl⟩
theorem lay_Sh_3 : u_lay R_Sh T_Sh 3 ∈ lw_tbl ∧ pm_gd (u_lay R_Sh T_Sh 3) = true := ⟨pm_in1 (List.mem_append_left _ (List.mem_of_getElem? (i := 77) rfl)), rfl⟩
theorem lay_Bo_0 : u_lay R_Bo T_Bo 0 ∈ lw_tbl ∧ pm_gd (u_lay R_Bo T_Bo 0) = true := ⟨pm_in1 (List.mem_append_left _ (List.mem_of_getElem? (i := 49) rfl)), rfl⟩
theorem lay_Bo_1 : u_lay R_Bo T_Bo 1 ∈ lw_tbl ∧ pm_gd (u_lay R_Bo T_Bo 1) = true := ⟨pm_in1 (List.mem_append_left _ (List.mem_of_getElem? (i := 51) rfl)), rfl⟩
theorem lay_Bo_2 : u_lay R_Bo T_Bo 2 ∈ lw_tbl ∧ pm_gd (u_lay R_Bo T_Bo 2) = true := ⟨pm_in1 (List.mem_append_left _ (List.mem_of_getElem? (i := 53) rfl)), rfl⟩
theorem lay_Bo_3 : u_lay R_Bo T_Bo 3 ∈ lw_tbl ∧ pm_gd (u_lay R_Bo T_Bo 3) = true := ⟨pm_in1 (List.mem_append_left _ (List.mem_of_getElem? (i := 55) rfl)), rfl⟩
theorem lay_Bo_4 : u_lay R_Bo T_Bo 4 ∈ lw_tbl ∧ pm_gd (u_lay R_Bo T_Bo 4) = true := ⟨pm_in1 (List.mem_append_left _ (List.mem_of_getElem? (i := 57) rfl)), rfl⟩
theorem lay_Bo_5 : u_lay R_Bo T_Bo 5 ∈ lw_tbl ∧ pm_gd (u_lay R_Bo T_Bo 5) = true := ⟨pm_in1 (List.mem_append_left _ (List.mem_of_getElem? (i := 59) rfl)), rfl⟩
theorem lay_Ru_0 : u_lay R_Ru T_Ru 0 ∈ lw_tbl ∧ pm_gd (u_lay R_Ru T_Ru 0) = true := ⟨pm_in1 (List.mem_append_left _ (List.mem_of_getElem? (i := 179) rfl)), rfl⟩
theorem lay_Ru_1 : u_lay R_Ru T_Ru 1 ∈ lw_tbl ∧ pm_gd (u_lay R_Ru T_Ru 1) = true := ⟨pm_in1 (List.mem_append_left _ (List.mem_of_getElem? (i := 181) rfl)), rfl⟩
theorem lay_Ru_2 : u_lay R_Ru T_Ru 2 ∈ lw_tbl ∧ pm_gd (u_lay R_Ru T_Ru 2) = true := ⟨pm_in1 (List.mem_append_left _ (List.mem_of_getElem? (i := 183) rfl)), rfl⟩
theorem lay_Ru_3 : u_lay R_Ru T_Ru 3 ∈ lw_tbl ∧ pm_gd (u_lay R_Ru T_Ru 3) = true := ⟨pm_in1 (List.mem_append_left _ (List.mem_of_getElem? (i := 185) rfl)), rfl⟩
theorem lay_Ru_4 : u_lay R_Ru T_Ru 4 ∈ lw_tbl ∧ pm_gd (u_lay R_Ru T_Ru 4) = true := ⟨pm_in1 (List.mem_append_left _ (List.mem_of_getElem? (i := 187) rfl)), rfl⟩
theorem lay_Ru_5 : u_lay R_Ru T_Ru 5 ∈ lw_tbl ∧ pm_gd (u_lay R_Ru T_Ru 5) = true := ⟨pm_in1 (List.mem_append_left _ (List.mem_of_getElem? (i := 189) rfl)), rfl⟩
theorem lay_Ru_6 : u_lay R_Ru T_Ru 6 ∈ lw_tbl ∧ pm_gd (u_lay R_Ru T_Ru 6) = true := ⟨pm_in1 (List.mem_append_left _ (List.mem_of_getElem? (i := 191) rfl)), rfl⟩
theorem lay_Rl_0 : u_lay R_Rl T_Rl 0 ∈ lw_tbl ∧ pm_gd (u_lay R_Rl T_Rl 0) = true := ⟨pm_in1 (List.mem_append_left _ (List.mem_of_getElem? (i := 101) rfl)), rfl⟩
theorem lay_Rl_1 : u_lay R_Rl T_Rl 1 ∈ lw_tbl ∧ pm_gd (u_lay R_Rl T_Rl 1) = true := ⟨pm_in1 (List.mem_append_left _ (List.mem_of_getElem? (i := 103) rfl)), rfl⟩
theorem lay_Sd_0 : u_lay R_Sd T_Sd 0 ∈ lw_tbl ∧ pm_gd (u_lay R_Sd T_Sd 0) = true := ⟨pm_in1 (List.mem_append_left _ (List.mem_of_getElem? (i := 125) rfl)), rfl⟩
theorem lay_Sd_1 : u_lay R_Sd T_Sd 1 ∈ lw_tbl ∧ pm_gd (u_lay R_Sd T_Sd 1) = true := ⟨pm_in1 (List.mem_append_left _ (List.mem_of_getElem? (i := 127) rfl)), rfl⟩
theorem lay_Sd_2 : u_lay R_Sd T_Sd 2 ∈ lw_tbl ∧ pm_gd (u_lay R_Sd T_Sd 2) = true := ⟨pm_in1 (List.mem_append_left _ (List.mem_of_getElem? (i := 129) rfl)), rfl⟩
theorem lay_Sd_3 : u_lay R_Sd T_Sd 3 ∈ lw_tbl ∧ pm_gd (u_lay R_Sd T_Sd 3) = true := ⟨pm_in1 (List.mem_append_left _ (List.mem_of_getElem? (i := 131) rfl)), rfl⟩
theorem lay_Sd_4 : u_lay R_Sd T_Sd 4 ∈ lw_tbl ∧ pm_gd (u_lay R_Sd T_Sd 4) = true := ⟨pm_in1 (List.mem_append_left _ (List.mem_of_getElem? (i := 133) rfl)), rfl⟩
theorem lay_Sd_5 : u_lay R_Sd T_Sd 5 ∈ lw_tbl ∧ pm_gd (u_lay R_Sd T_Sd 5) = true := ⟨pm_in1 (List.mem_append_left _ (List.mem_of_getElem? (i := 135) rfl)), rfl⟩
theorem lay_Lk_0 : u_lay R_Lk T_Lk 0 ∈ lw_tbl ∧ pm_gd (u_lay R_Lk T_Lk 0) = true := ⟨pm_in1 (List.mem_append_left _ (List.mem_of_getElem? (i := 147) rfl)), rfl⟩
theorem lay_Lk_1 : u_lay R_Lk T_Lk 1 ∈ lw_tbl ∧ pm_gd (u_lay R_Lk T_Lk 1) = true := ⟨pm_in1 (List.mem_append_left _ (List.mem_of_getElem? (i := 149) rfl)), rfl⟩
theorem lay_Lk_2 : u_lay R_Lk T_Lk 2 ∈ lw_tbl ∧ pm_gd (u_lay R_Lk T_Lk 2) = true := ⟨pm_in1 (List.mem_append_left _ (List.mem_of_getElem? (i := 151) rfl)), rfl⟩
theorem lay_Ce_0 : u_lay R_Ce T_Ce 0 ∈ lw_tbl ∧ pm_gd (u_lay R_Ce T_Ce 0) = true := ⟨pm_in1 (List.mem_append_left _ (List.mem_of_getElem? (i := 165) rfl)), rfl⟩
theorem lay_Ce_1 : u_lay R_Ce T_Ce 1 ∈ lw_tbl ∧ pm_gd (u_lay R_Ce T_Ce 1) = true := ⟨pm_in1 (List.mem_append_left _ (List.mem_of_getElem? (i := 167) rfl)), rfl⟩
theorem lay_Ce_2 : u_lay R_Ce T_Ce 2 ∈ lw_tbl ∧ pm_gd (u_lay R_Ce T_Ce 2) = true := ⟨pm_in1 (List.mem_append_left _ (List.mem_of_getElem? (i := 169) rfl)), rfl⟩
theorem lay_Mo_0 : u_lay R_Mo T_Mo 0 ∈ lw_tbl ∧ pm_gd (u_lay R_Mo T_Mo 0) = true := ⟨pm_in1 (List.mem_append_right _ (List.mem_append_right _ (List.mem_of_getElem? (i := 12) rfl))), rfl⟩
theorem lay_Mo_1 : u_lay R_Mo T_Mo 1 ∈ lw_tbl ∧ pm_gd (u_lay R_Mo T_Mo 1) = true := ⟨pm_in1 (List.mem_append_right _ (List.mem_append_right _ (List.mem_of_getElem? (i := 14) rfl))), rfl⟩
theorem lay_Mo_2 : u_lay R_Mo T_Mo 2 ∈ lw_tbl ∧ pm_gd (u_lay R_Mo T_Mo 2) = true := ⟨pm_in1 (List.mem_append_right _ (List.mem_append_right _ (List.mem_of_getElem? (i := 16) rfl))), rfl⟩
theorem lay_Mo_3 : u_lay R_Mo T_Mo 3 ∈ lw_tbl ∧ pm_gd (u_lay R_Mo T_Mo 3) = true := ⟨pm_in1 (List.mem_append_right _ (List.mem_append_right _ (List.mem_of_getElem? (i := 18) rfl))), rfl⟩
theorem lay_Mo_4 : u_lay R_Mo T_Mo 4 ∈ lw_tbl ∧ pm_gd (u_lay R_Mo T_Mo 4) = true := ⟨pm_in1 (List.mem_append_right _ (List.mem_append_right _ (List.mem_of_getElem? (i := 20) rfl))), rfl⟩
theorem lay_Mo_5 : u_lay R_Mo T_Mo 5 ∈ lw_tbl ∧ pm_gd (u_lay R_Mo T_Mo 5) = true := ⟨pm_in1 (List.mem_append_right _ (List.mem_append_right _ (List.mem_of_getElem? (i := 22) rfl))), rfl⟩
theorem lay_Mo_6 : u_lay R_Mo T_Mo 6 ∈ lw_tbl ∧ pm_gd (u_lay R_Mo T_Mo 6) = true := ⟨pm_in1 (List.mem_append_right _ (List.mem_append_right _ (List.mem_of_getElem? (i := 24) rfl))), rfl⟩
theorem lay_Mo_7 : u_lay R_Mo T_Mo 7 ∈ lw_tbl ∧ pm_gd (u_lay R_Mo T_Mo 7) = true := ⟨pm_in1 (List.mem_append_right _ (List.mem_append_right _ (List.mem_of_getElem? (i := 26) rfl))), rfl⟩
theorem lay_Mo_8 : u_lay R_Mo T_Mo 8 ∈ lw_tbl ∧ pm_gd (u_lay R_Mo T_Mo 8) = true := ⟨pm_in1 (List.mem_append_right _ (List.mem_append_right _ (List.mem_of_getElem? (i := 28) rfl))), rfl⟩
theorem lay_Mo_9 : u_lay R_Mo T_Mo 9 ∈ lw_tbl ∧ pm_gd (u_lay R_Mo T_Mo 9) = true := ⟨pm_in1 (List.mem_append_right _ (List.mem_append_right _ (List.mem_of_getElem? (i := 30) rfl))), rfl⟩
theorem lay_Mo_10 : u_lay R_Mo T_Mo 10 ∈ lw_tbl ∧ pm_gd (u_lay R_Mo T_Mo 10) = true := ⟨pm_in1 (List.mem_append_right _ (List.mem_append_right _ (List.mem_of_getElem? (i := 32) rfl))), rfl⟩
theorem lay_Mo_11 : u_lay R_Mo T_Mo 11 ∈ lw_tbl ∧ pm_gd (u_lay R_Mo T_Mo 11) = true := ⟨pm_in1 (List.mem_append_right _ (List.mem_append_right _ (List.mem_of_getElem? (i := 34) rfl))), rfl⟩
theorem lay_Mo_12 : u_lay R_Mo T_Mo 12 ∈ lw_tbl ∧ pm_gd (u_lay R_Mo T_Mo 12) = true := ⟨pm_in1 (List.mem_append_right _ (List.mem_append_right _ (List.mem_of_getElem? (i := 36) rfl))), rfl⟩
theorem lay_Mo_13 : u_lay R_Mo T_Mo 13 ∈ lw_tbl ∧ pm_gd (u_lay R_Mo T_Mo 13) = true := ⟨pm_in1 (List.mem_append_right _ (List.mem_append_right _ (List.mem_of_getElem? (i := 38) rfl))), rfl⟩
theorem lay_Mo_14 : u_lay R_Mo T_Mo 14 ∈ lw_tbl ∧ pm_gd (u_lay R_Mo T_Mo 14) = true := ⟨pm_in1 (List.mem_append_right _ (List.mem_append_right _ (List.mem_of_getElem? (i := 40) rfl))), rfl⟩
theorem lay_Mo_15 : u_lay R_Mo T_Mo 15 ∈ lw_tbl ∧ pm_gd (u_lay R_Mo T_Mo 15) = true := ⟨pm_in1 (List.mem_append_right _ (List.mem_append_right _ (List.mem_of_getElem? (i := 42) rfl))), rfl⟩
theorem lay_Mo_16 : u_lay R_Mo T_Mo 16 ∈ lw_tbl ∧ pm_gd (u_lay R_Mo T_Mo 16) = true := ⟨pm_in1 (List.mem_append_right _ (List.mem_append_right _ (List.mem_of_getElem? (i := 44) rfl))), rfl⟩
theorem lay_Mo_17 : u_lay R_Mo T_Mo 17 ∈ lw_tbl ∧ pm_gd (u_lay R_Mo T_Mo 17) = true := ⟨pm_in1 (List.mem_append_right _ (List.mem_append_right _ (List.mem_of_getElem? (i := 46) rfl))), rfl⟩
theorem lay_Mo_18 : u_lay R_Mo T_Mo 18 ∈ lw_tbl ∧ pm_gd (u_lay R_Mo T_Mo 18) = true := ⟨pm_in1 (List.mem_append_right _ (List.mem_append_right _ (List.mem_of_getElem? (i := 48) rfl))), rfl⟩
theorem lay_Mo_19 : u_lay R_Mo T_Mo 19 ∈ lw_tbl ∧ pm_gd (u_lay R_Mo T_Mo 19) = true := ⟨pm_in1 (List.mem_append_right _ (List.mem_append_right _ (List.mem_of_getElem? (i := 50) rfl))), rfl⟩
theorem lay_Mo_20 : u_lay R_Mo T_Mo 20 ∈ lw_tbl ∧ pm_gd (u_lay R_Mo T_Mo 20) = true := ⟨pm_in1 (List.mem_append_right _ (List.mem_append_right _ (List.mem_of_getElem? (i := 52) rfl))), rfl⟩
theorem lay_Mo_21 : u_lay R_Mo T_Mo 21 ∈ lw_tbl ∧ pm_gd (u_lay R_Mo T_Mo 21) = true := ⟨pm_in1 (List.mem_append_right _ (List.mem_append_right _ (List.mem_of_getElem? (i := 54) rfl))), rfl⟩
theorem lay_Mo_22 : u_lay R_Mo T_Mo 22 ∈ lw_tbl ∧ pm_gd (u_lay R_Mo T_Mo 22) = true := ⟨pm_in1 (List.mem_append_right _ (List.mem_append_right _ (List.mem_of_getElem? (i := 56) rfl))), rfl⟩
theorem lay_Mo_23 : u_lay R_Mo T_Mo 23 ∈ lw_tbl ∧ pm_gd (u_lay R_Mo T_Mo 23) = true := ⟨pm_in1 (List.mem_append_right _ (List.mem_append_right _ (List.mem_of_getElem? (i := 58) rfl))), rfl⟩
theorem cF_Lo : ∀ w ∈ u_ws R_Lo T_Lo 2, w ∈ lw_tbl ∧ pm_gd w = true := by
  intro w hw
  obtain ⟨k, hk, rfl⟩ := List.mem_map.mp hw
  have hk := List.mem_range.mp hk
  match k, hk with
  | 0, _ => exact lay_Lo_0
  | 1, _ => exact lay_Lo_1
  | _ + 2, hk => exact absurd hk (by omega)
theorem cT_Lo : ∀ k, k < 2 → parseFieldDescriptor (T_Lo k).2.2.1 = some (pm_ft 16 k) := by decide +kernel
theorem cN_Lo : ∀ a, a < 2 → ∀ b, b < 2 → a ≠ b → (T_Lo a).2.1 ≠ (T_Lo b).2.1 := by decide +kernel
theorem cF_Sh : ∀ w ∈ u_ws R_Sh T_Sh 4, w ∈ lw_tbl ∧ pm_gd w = true := by
  intro w hw
  obtain ⟨k, hk, rfl⟩ := List.mem_map.mp hw
  have hk := List.mem_range.mp hk
  match k, hk with
  | 0, _ => exact lay_Sh_0
  | 1, _ => exact lay_Sh_1
  | 2, _ => exact lay_Sh_2
  | 3, _ => exact lay_Sh_3
  | _ + 4, hk => exact absurd hk (by omega)
theorem cT_Sh : ∀ k, k < 4 → parseFieldDescriptor (T_Sh k).2.2.1 = some (pm_ft 17 k) := by decide +kernel
theorem cN_Sh : ∀ a, a < 4 → ∀ b, b < 4 → a ≠ b → (T_Sh a).2.1 ≠ (T_Sh b).2.1 := by decide +kernel
theorem cF_Bo : ∀ w ∈ u_ws R_Bo T_Bo 6, w ∈ lw_tbl ∧ pm_gd w = true := by
  intro w hw
  obtain ⟨k, hk, rfl⟩ := List.mem_map.mp hw
  have hk := List.mem_range.mp hk
  match k, hk with
  | 0, _ => exact lay_Bo_0
  | 1, _ => exact lay_Bo_1
  | 2, _ => exact lay_Bo_2
  | 3, _ => exact lay_Bo_3
  | 4, _ => exact lay_Bo_4
  | 5, _ => exact lay_Bo_5
  | _ + 6, hk => exact absurd hk (by omega)
theorem cT_Bo : ∀ k, k < 6 → parseFieldDescriptor (T_Bo k).2.2.1 = some (pm_ft 18 k) := by decide +kernel
theorem cN_Bo : ∀ a, a < 6 → ∀ b, b < 6 → a ≠ b → (T_Bo a).2.1 ≠ (T_Bo b).2.1 := by decide +kernel
theorem cF_Ru : ∀ w ∈ u_ws R_Ru T_Ru 7, w ∈ lw_tbl ∧ pm_gd w = true := by
  intro w hw
  obtain ⟨k, hk, rfl⟩ := List.mem_map.mp hw
  have hk := List.mem_range.mp hk
  match k, hk with
  | 0, _ => exact lay_Ru_0
  | 1, _ => exact lay_Ru_1
  | 2, _ => exact lay_Ru_2
  | 3, _ => exact lay_Ru_3
  | 4, _ => exact lay_Ru_4
  | 5, _ => exact lay_Ru_5
  | 6, _ => exact lay_Ru_6
  | _ + 7, hk => exact absurd hk (by omega)
theorem cT_Ru : ∀ k, k < 7 → parseFieldDescriptor (T_Ru k).2.2.1 = some (pm_ft 19 k) := by decide +kernel
theorem cN_Ru : ∀ a, a < 7 → ∀ b, b < 7 → a ≠ b → (T_Ru a).2.1 ≠ (T_Ru b).2.1 := by decide +kernel
theorem cF_Rl : ∀ w ∈ u_ws R_Rl T_Rl 2, w ∈ lw_tbl ∧ pm_gd w = true := by
  intro w hw
  obtain ⟨k, hk, rfl⟩ := List.mem_map.mp hw
  have hk := List.mem_range.mp hk
  match k, hk with
  | 0, _ => exact lay_Rl_0
  | 1, _ => exact lay_Rl_1
  | _ + 2, hk => exact absurd hk (by omega)
theorem cT_Rl : ∀ k, k < 2 → parseFieldDescriptor (T_Rl k).2.2.1 = some (pm_ft 20 k) := by decide +kernel
theorem cN_Rl : ∀ a, a < 2 → ∀ b, b < 2 → a ≠ b → (T_Rl a).2.1 ≠ (T_Rl b).2.1 := by decide +kernel
theorem cF_Sd : ∀ w ∈ u_ws R_Sd T_Sd 6, w ∈ lw_tbl ∧ pm_gd w = true := by
  intro w hw
  obtain ⟨k, hk, rfl⟩ := List.mem_map.mp hw
  have hk := List.mem_range.mp hk
  match k, hk with
  | 0, _ => exact lay_Sd_0
  | 1, _ => exact lay_Sd_1
  | 2, _ => exact lay_Sd_2
  | 3, _ => exact lay_Sd_3
  | 4, _ => exact lay_Sd_4
  | 5, _ => exact lay_Sd_5
  | _ + 6, hk => exact absurd hk (by omega)
theorem cT_Sd : ∀ k, k < 6 → parseFieldDescriptor (T_Sd k).2.2.1 = some (pm_ft 21 k) := by decide +kernel
theorem cN_Sd : ∀ a, a < 6 → ∀ b, b < 6 → a ≠ b → (T_Sd a).2.1 ≠ (T_Sd b).2.1 := by decide +kernel
theorem cF_Lk : ∀ w ∈ u_ws R_Lk T_Lk 3, w ∈ lw_tbl ∧ pm_gd w = true := by
  intro w hw
  obtain ⟨k, hk, rfl⟩ := List.mem_map.mp hw
  have hk := List.mem_range.mp hk
  match k, hk with
  | 0, _ => exact lay_Lk_0
  | 1, _ => exact lay_Lk_1
  | 2, _ => exact lay_Lk_2
  | _ + 3, hk => exact absurd hk (by omega)
theorem cT_Lk : ∀ k, k < 3 → parseFieldDescriptor (T_Lk k).2.2.1 = some (pm_ft 22 k) := by decide +kernel
theorem cN_Lk : ∀ a, a < 3 → ∀ b, b < 3 → a ≠ b → (T_Lk a).2.1 ≠ (T_Lk b).2.1 := by decide +kernel
theorem cF_Ce : ∀ w ∈ u_ws R_Ce T_Ce 3, w ∈ lw_tbl ∧ pm_gd w = true := by
  intro w hw
  obtain ⟨k, hk, rfl⟩ := List.mem_map.mp hw
  have hk := List.mem_range.mp hk
  match k, hk with
  | 0, _ => exact lay_Ce_0
  | 1, _ => exact lay_Ce_1
  | 2, _ => exact lay_Ce_2
  | _ + 3, hk => exact absurd hk (by omega)
theorem cT_Ce : ∀ k, k < 3 → parseFieldDescriptor (T_Ce k).2.2.1 = some (pm_ft 23 k) := by decide +kernel
theorem cN_Ce : ∀ a, a < 3 → ∀ b, b < 3 → a ≠ b → (T_Ce a).2.1 ≠ (T_Ce b).2.1 := by decide +kernel
theorem cF_Mo : ∀ w ∈ u_ws R_Mo T_Mo 24, w ∈ lw_tbl ∧ pm_gd w = true := by
  intro w hw
  obtain ⟨k, hk, rfl⟩ := List.mem_map.mp hw
  have hk := List.mem_range.mp hk
  match k, hk with
  | 0, _ => exact lay_Mo_0
  | 1, _ => exact lay_Mo_1
  | 2, _ => exact lay_Mo_2
  | 3, _ => exact lay_Mo_3
  | 4, _ => exact lay_Mo_4
  | 5, _ => exact lay_Mo_5
  | 6, _ => exact lay_Mo_6
  | 7, _ => exact lay_Mo_7
  | 8, _ => exact lay_Mo_8
  | 9, _ => exact lay_Mo_9
  | 10, _ => exact lay_Mo_10
  | 11, _ => exact lay_Mo_11
  | 12, _ => exact lay_Mo_12
  | 13, _ => exact lay_Mo_13
  | 14, _ => exact lay_Mo_14
  | 15, _ => exact lay_Mo_15
  | 16, _ => exact lay_Mo_16
  | 17, _ => exact lay_Mo_17
  | 18, _ => exact lay_Mo_18
  | 19, _ => exact lay_Mo_19
  | 20, _ => exact lay_Mo_20
  | 21, _ => exact lay_Mo_21
  | 22, _ => exact lay_Mo_22
  | 23, _ => exact lay_Mo_23
  | _ + 24, hk => exact absurd hk (by omega)
theorem cT_Mo : ∀ k, k < 24 → parseFieldDescriptor (T_Mo k).2.2.1 = some (pm_ft 24 k) := by decide +kernel
theorem cN_Mo : ∀ a, a < 24 → ∀ b, b < 24 → a ≠ b → (T_Mo a).2.1 ≠ (T_Mo b).2.1 := by decide +kernel
theorem pm_cF : ∀ (ci : Nat) (q : vw_C), vwCl[ci]? = some q → ∀ w ∈ u_ws q.1 q.2.1 q.2.2, w ∈ lw_tbl ∧ pm_gd w = true := by
  intro ci q hq
  match ci, hq with
  | 0, hq => cases hq; exact cF_Lo
  | 1, hq => cases hq; exact cF_Sh
  | 2, hq => cases hq; exact cF_Bo
  | 3, hq => cases hq; exact cF_Ru
  | 4, hq => cases hq; exact cF_Rl
  | 5, hq => cases hq; exact cF_Sd
  | 6, hq => cases hq; exact cF_Lk
  | 7, hq => cases hq; exact cF_Ce
  | 8, hq => cases hq; exact cF_Mo
  | n + 9, hq => cases hq
theorem pm_cT : ∀ (ci : Nat) (q : vw_C), vwCl[ci]? = some q → ∀ k, k < q.2.2 → parseFieldDescriptor (q.2.1 k).2.2.1 = some (pm_ft (16 + ci) k) := by
  intro ci q hq
  match ci, hq with
  | 0, hq => cases hq; exact cT_Lo
  | 1, hq => cases hq; exact cT_Sh
  | 2, hq => cases hq; exact cT_Bo
  | 3, hq => cases hq; exact cT_Ru
  | 4, hq => cases hq; exact cT_Rl
  | 5, hq => cases hq; exact cT_Sd
  | 6, hq => cases hq; exact cT_Lk
  | 7, hq => cases hq; exact cT_Ce
  | 8, hq => cases hq; exact cT_Mo
  | n + 9, hq => cases hq
theorem pm_cN : ∀ (ci : Nat) (q : vw_C), vwCl[ci]? = some q → ∀ a, a < q.2.2 → ∀ b, b < q.2.2 → a ≠ b → (q.2.1 a).2.1 ≠ (q.2.1 b).2.1 := by
  intro ci q hq
  match ci, hq with
  | 0, hq => cases hq; exact cN_Lo
  | 1, hq => cases hq; exact cN_Sh
  | 2, hq => cases hq; exact cN_Bo
  | 3, hq => cases hq; exact cN_Ru
  | 4, hq => cases hq; exact cN_Rl
  | 5, hq => cases hq; exact cN_Sd
  | 6, hq => cases hq; exact cN_Lk
  | 7, hq => cases hq; exact cN_Ce
  | 8, hq => cases hq; exact cN_Mo
  | n + 9, hq => cases hq
end
section
/-! The pure machine: a heap of numbered cells (h.1 cells, h.2.1 slots in all; h.2.2.1 c: the kind and the length of cell c, kinds below 16 are arrays, 16 + ci objects of class ci; h.2.2.2.1 c j: the int at place j; h.2.2.2.2 c j: the reference there), a list of locals, a list of operands. An instruction is a function. -/
abbrev pm_H : Type := Nat × Nat × (Nat → Nat × Nat) × (Nat → Nat → Int32) × (Nat → Nat → Option Nat)
abbrev pm_R : Type := pm_H × Option Value
abbrev pm_C : Type := Nat × List Value × List Value × pm_H
abbrev pm_O : Type := pm_R ⊕ (pm_C ⊕ (Nat × List Value × pm_C))
abbrev pm_I : Type := List Value → List Value → pm_H → Option pm_O
def pm_u {α : Type} (f : Nat → Nat → α) (c i : Nat) (x : α) : Nat → Nat → α := fun a b => if a = c ∧ b = i then x else f a b
def pm_row {α : Type} (f : Nat → Nat → α) (c : Nat) (g : Nat → α) : Nat → Nat → α := fun a b => if a = c then g b else f a b
def pm_sA (h : pm_H) (c i : Nat) (x : Int32) : pm_H := (h.1, h.2.1, h.2.2.1, pm_u h.2.2.2.1 c i x, h.2.2.2.2)
def pm_sP (h : pm_H) (c i : Nat) (x : Option Nat) : pm_H := (h.1, h.2.1, h.2.2.1, h.2.2.2.1, pm_u h.2.2.2.2 c i x)
def pm_new (h : pm_H) (t n : Nat) : pm_H := (h.1 + 1, h.2.1 + n, va_up h.2.2.1 h.1 (t, n), pm_row h.2.2.2.1 h.1 (fun _ => 0), pm_row h.2.2.2.2 h.1 (fun _ => none))
def pm_rf : FieldType → Bool
  | .object _ => true
  | .array _ => true
  | _ => false
def pm_nx (x : Nat) (lc st : List Value) (h : pm_H) : Option pm_O := some (.inr (.inl (x, lc, st, h)))
-- the instructions; x is the number of the next one
def pm_const (x : Nat) (v : Int32) : pm_I := fun lc st h => pm_nx x lc (.int v :: st) h
def pm_iload (x a : Nat) : pm_I := fun lc st h => match lc[a]? with
  | some (.int v) => pm_nx x lc (.int v :: st) h
  | _ => none
def pm_aload (x a : Nat) : pm_I := fun lc st h => match lc[a]? with
  | some (.ref v) => pm_nx x lc (.ref v :: st) h
  | some (.retAddr v) => pm_nx x lc (.retAddr v :: st) h
  | _ => none
def pm_istore (x a : Nat) : pm_I := fun lc st h => match st with
  | .int v :: st => pm_nx x (lc.set a (.int v)) st h
  | _ => none
def pm_astore (x a : Nat) : pm_I := fun lc st h => match st with
  | .ref v :: st => pm_nx x (lc.set a (.ref v)) st h
  | _ => none
def pm_iinc (x a : Nat) (v : Int32) : pm_I := fun lc st h => match lc[a]? with
  | some (.int w) => pm_nx x (lc.set a (.int (w + v))) st h
  | _ => none
def pm_bin (x : Nat) (f : Int32 → Int32 → Int32) : pm_I := fun lc st h => match st with
  | .int b :: .int a :: st => pm_nx x lc (.int (f a b) :: st) h
  | _ => none
def pm_div (x : Nat) (f : Int32 → Int32 → Int32) : pm_I := fun lc st h => match st with
  | .int b :: .int a :: st => if b = 0 then none else pm_nx x lc (.int (f a b) :: st) h
  | _ => none
def pm_ok (v : Value) : Bool := match v with
  | .int _ => true
  | .ref _ => true
  | .retAddr _ => true
  | _ => false
def pm_dup (x : Nat) : pm_I := fun lc st h => match st with
  | v :: st => if pm_ok v then pm_nx x lc (v :: v :: st) h else none
  | _ => none
def pm_dupx1 (x : Nat) : pm_I := fun lc st h => match st with
  | v :: w :: st => if pm_ok v && pm_ok w then pm_nx x lc (v :: w :: v :: st) h else none
  | _ => none
def pm_dup2 (x : Nat) : pm_I := fun lc st h => match st with
  | v :: w :: st => if pm_ok v && pm_ok w then pm_nx x lc (v :: w :: v :: w :: st) h else none
  | _ => none
def pm_pop (x : Nat) : pm_I := fun lc st h => match st with
  | v :: st => if pm_ok v then pm_nx x lc st h else none
  | _ => none
/-- t: where to, if so; x: where to, if not -/
def pm_if (t x : Nat) (q : Int32 → Bool) : pm_I := fun lc st h => match st with
  | .int a :: st => if q a then pm_nx t lc st h else pm_nx x lc st h
  | _ => none
def pm_icmp (t x : Nat) (q : Int32 → Int32 → Bool) : pm_I := fun lc st h => match st with
  | .int b :: .int a :: st => if q a b then pm_nx t lc st h else pm_nx x lc st h
  | _ => none
def pm_goto (t : Nat) : pm_I := fun lc st h => pm_nx t lc st h
def pm_swt (ps : List (Int32 × Nat)) (d : Nat) (v : Int32) (k : Nat → Option pm_O) : Option pm_O := match ps with
  | [] => k d
  | (a, t) :: ps => if v = a then k t else pm_swt ps d v k
def pm_sw (ps : List (Int32 × Nat)) (d : Nat) : pm_I := fun lc st h => match st with
  | .int v :: st => pm_swt ps d v (fun t => pm_nx t lc st h)
  | _ => none
def pm_obj (h : pm_H) (c ci k : Nat) : Bool := decide (c < h.1) && ((h.2.2.1 c).1 == 16 + ci) && decide (k < (h.2.2.1 c).2)
def pm_arr (h : pm_H) (c t : Nat) (i : Int32) : Bool := decide (c < h.1) && ((h.2.2.1 c).1 == t) && !(decide (i < 0) || decide ((h.2.2.1 c).2 ≤ i.toNatClampNeg))
def pm_geti (x ci k : Nat) : pm_I := fun lc st h => match st with
  | .ref c :: st => if pm_obj h c ci k then pm_nx x lc (.int (h.2.2.2.1 c k) :: st) h else none
  | _ => none
def pm_getr (x ci k : Nat) : pm_I := fun lc st h => match st with
  | .ref c :: st => if pm_obj h c ci k then (match h.2.2.2.2 c k with
    | some r => pm_nx x lc (.ref r :: st) h
    | none => none) else none
  | _ => none
def pm_puti (x ci k : Nat) : pm_I := fun lc st h => match st with
  | .int v :: .ref c :: st => if pm_obj h c ci k then pm_nx x lc st (pm_sA h c k v) else none
  | _ => none
def pm_putz (x ci k : Nat) : pm_I := fun lc st h => match st with
  | .int v :: .ref c :: st => if pm_obj h c ci k && (v == 0 || v == 1) then pm_nx x lc st (pm_sA h c k v) else none
  | _ => none
def pm_putr (x ci k : Nat) : pm_I := fun lc st h => match st with
  | .ref r :: .ref c :: st => if pm_obj h c ci k then pm_nx x lc st (pm_sP h c k (some r)) else none
  | _ => none
def pm_iald (x t : Nat) : pm_I := fun lc st h => match st with
  | .int i :: .ref c :: st => if pm_arr h c t i then pm_nx x lc (.int (h.2.2.2.1 c i.toNatClampNeg) :: st) h else none
  | _ => none
def pm_iast (x : Nat) : pm_I := fun lc st h => match st with
  | .int v :: .int i :: .ref c :: st => if pm_arr h c 0 i then pm_nx x lc st (pm_sA h c i.toNatClampNeg v) else none
  | _ => none
def pm_zast (x : Nat) : pm_I := fun lc st h => match st with
  | .int v :: .int i :: .ref c :: st => if pm_arr h c 1 i then pm_nx x lc st (pm_sA h c i.toNatClampNeg (v &&& 1)) else none
  | _ => none
def pm_aald (x t : Nat) : pm_I := fun lc st h => match st with
  | .int i :: .ref c :: st => if pm_arr h c t i then (match h.2.2.2.2 c i.toNatClampNeg with
    | some r => pm_nx x lc (.ref r :: st) h
    | none => none) else none
  | _ => none
/-- t: the array's kind, ci: the class that its elements have -/
def pm_aast (x t ci : Nat) : pm_I := fun lc st h => match st with
  | .ref r :: .int i :: .ref c :: st => if pm_arr h c t i && (decide (r < h.1) && ((h.2.2.1 r).1 == 16 + ci)) then pm_nx x lc st (pm_sP h c i.toNatClampNeg (some r)) else none
  | _ => none
def pm_alen (x t : Nat) : pm_I := fun lc st h => match st with
  | .ref c :: st => if decide (c < h.1) && ((h.2.2.1 c).1 == t) then pm_nx x lc (.int (Int32.ofNat (h.2.2.1 c).2) :: st) h else none
  | _ => none
def pm_sld (x L : Nat) (xs : Nat → Int32) : pm_I := fun lc st h => match st with
  | .int i :: .retAddr _ :: st => if !(decide (i < 0) || decide (L ≤ i.toNatClampNeg)) then pm_nx x lc (.int (xs i.toNatClampNeg) :: st) h else none
  | _ => none
def pm_slen (x L : Nat) : pm_I := fun lc st h => match st with
  | .retAddr _ :: st => pm_nx x lc (.int (Int32.ofNat L) :: st) h
  | _ => none
def pm_newo (x ci N : Nat) : pm_I := fun lc st h => pm_nx x lc (.ref h.1 :: st) (pm_new h (16 + ci) N)
def pm_newa (x t : Nat) : pm_I := fun lc st h => match st with
  | .int i :: st => if decide (i < 0) || decide (100000000 < i.toNatClampNeg) then none else pm_nx x lc (.ref h.1 :: st) (pm_new h t i.toNatClampNeg)
  | _ => none
def pm_cat (st : List Value) : Nat := (st.map fun v => v.category).sum
/-- n values of the stack go along; ci: the receiver's class, where there is one -/
def pm_calls (x mid n : Nat) : pm_I := fun lc st h => if decide (n ≤ st.length) && decide (pm_cat (st.drop n) ≤ 8) then some (.inr (.inr (mid, (st.take n).reverse, (x, lc, st.drop n, h)))) else none
def pm_callv (x mid n ci : Nat) : pm_I := fun lc st h => match (st.take n).reverse with
  | .ref c :: _ => if decide (c < h.1) && ((h.2.2.1 c).1 == 16 + ci) then pm_calls x mid n lc st h else none
  | _ => none
def pm_callc (x mid n : Nat) : pm_I := fun lc st h => match (st.take n).reverse with
  | .ref _ :: _ => pm_calls x mid n lc st h
  | _ => none
def pm_oinit (x : Nat) : pm_I := fun lc st h => match st with
  | .ref _ :: st => if pm_cat st ≤ 8 then pm_nx x lc st h else none
  | _ => none
def pm_max (x : Nat) : pm_I := fun lc st h => match st with
  | .int b :: .int a :: st => if pm_cat st ≤ 8 then pm_nx x lc (.int (if a < b then b else a) :: st) h else none
  | _ => none
def pm_min (x : Nat) : pm_I := fun lc st h => match st with
  | .int b :: .int a :: st => if pm_cat st ≤ 8 then pm_nx x lc (.int (if b < a then b else a) :: st) h else none
  | _ => none
def pm_copy (x : Nat) : pm_I := fun lc st h => match st with
  | .int n :: .int dp :: .ref d :: .int sp :: .ref c :: st =>
    if (decide (c < h.1) && ((h.2.2.1 c).1 == 0)) && (decide (d < h.1) && ((h.2.2.1 d).1 == 0)) && !(decide (sp < 0) || (decide (dp < 0) || decide (n < 0))) && (decide (sp.toNatClampNeg + n.toNatClampNeg ≤ (h.2.2.1 c).2) && decide (dp.toNatClampNeg + n.toNatClampNeg ≤ (h.2.2.1 d).2)) && decide (pm_cat st ≤ 8) then
      pm_nx x lc st (h.1, h.2.1, h.2.2.1, pm_row h.2.2.2.1 d (va_cpy (h.2.2.2.1 c) (h.2.2.2.1 d) sp.toNatClampNeg dp.toNatClampNeg n.toNatClampNeg), h.2.2.2.2)
    else none
  | _ => none
def pm_vret : pm_I := fun _ st h => match st with
  | [] => some (.inl (h, none))
  | _ => none
def pm_iret : pm_I := fun _ st h => match st with
  | [.int v] => some (.inl (h, some (.int v)))
  | _ => none
def pm_zret : pm_I := fun _ st h => match st with
  | [.int v] => if v == 0 || v == 1 then some (.inl (h, some (.int v))) else none
  | _ => none
def pm_aret : pm_I := fun _ st h => match st with
  | [.ref v] => some (.inl (h, some (.ref v)))
  | _ => none
/-- n steps of a method with the instructions T -/
def pm_ex (call : Nat → List Value → pm_H → Option pm_R) (T : Nat → Option pm_I) : Nat → pm_C → Option pm_R
  | 0, _ => none
  | n + 1, c => match T c.1 with
    | none => none
    | some f => match f c.2.1 c.2.2.1 c.2.2.2 with
      | none => none
      | some (.inl r) => some r
      | some (.inr (.inl q)) => pm_ex call T n q
      | some (.inr (.inr q)) => match call q.1 q.2.1 q.2.2.2.2.2 with
        | none => none
        | some r => pm_ex call T n (q.2.2.1, q.2.2.2.1, r.2.toList ++ q.2.2.2.2.1, r.1)
theorem pm_ex_mono {call call' : Nat → List Value → pm_H → Option pm_R} {T : Nat → Option pm_I} (hc : ∀ m a h r, call m a h = some r → call' m a h = some r) : ∀ (n n' : Nat) (c : pm_C) (r : pm_R), n ≤ n' → pm_ex call T n c = some r → pm_ex call' T n' c = some r := by
  intro n
  induction n with
  | zero => intro n' c r _ h; cases h
  | succ n ih =>
    intro n' c r hn h
    obtain ⟨n', rfl⟩ : ∃ k, n' = k + 1 := ⟨n' - 1, by omega⟩
    have hn : n ≤ n' := by omega
    cases hf : T c.1 with
    | none => simp [pm_ex, hf] at h
    | some f =>
      cases hw : f c.2.1 c.2.2.1 c.2.2.2 with
      | none => simp [pm_ex, hf, hw] at h
      | some o =>
        rcases o with w | w | w
        · simp only [pm_ex, hf, hw] at h ⊢
          exact h
        · simp only [pm_ex, hf, hw] at h ⊢
          exact ih _ _ _ hn h
        · simp only [pm_ex, hf, hw] at h ⊢
          cases hr : call w.1 w.2.1 w.2.2.2.2.2 with
          | none => simp [hr] at h
          | some r' =>
            simp only [hr] at h
            simp only [hc _ _ _ _ hr]
            exact ih _ _ _ hn h
end
section
/-! What the machine's heap holds, when the pure heap is h: cell c stands at the address z + c. -/
def pm_t (z bS : Nat) (v : Value) : Value := match v with
  | .ref a => .ref (z + a)
  | .retAddr _ => .ref bS
  | w => w
def pm_v (z : Nat) (h : pm_H) (k j : Nat) : Value := if pm_rf (pm_ft (h.2.2.1 k).1 j) then va_rf ((h.2.2.2.2 k j).map (fun a => z + a)) else .int (h.2.2.2.1 k j)
def pm_at (D : va_G) (aC : Nat → ClassId) (z : Nat) (h : pm_H) (H : Heap) (k : Nat) : Prop :=
  ((h.2.2.1 k).1 < 16 → H[z + k]? = some (arrV (aC (h.2.2.1 k).1) (h.2.2.1 k).2 (pm_v z h k))) ∧
  ∀ ci : Nat, (h.2.2.1 k).1 = 16 + ci → ∃ r : vw_C, vwCl[ci]? = some r ∧ r.2.2 = (h.2.2.1 k).2 ∧ t_OB (z + k) (D.1 ci) r.2.2 (D.2 ci) H (pm_v z h k)
def pm_W (D : va_G) (aC : Nat → ClassId) (z : Nat) (h : pm_H) (H : Heap) : Prop := H.size = z + h.1 ∧ ∀ k, k < h.1 → pm_at D aC z h H k
def pm_mk (ty : FieldType) (U : State) : Prop := match ty with
  | .object C => va_AO C U
  | t => (Cond.arrayClass t).before #[] U = true
def pm_G (D : va_G) (aC : Nat → ClassId) (U : State) : Prop :=
  (∀ w ∈ lw_tbl, pm_gd w = true → va_Nw w U) ∧ (∀ (ci : Nat) (q : vw_C), vwCl[ci]? = some q → u_Kn U q.1 q.2.1 q.2.2 (D.1 ci) (D.2 ci)) ∧
  ∀ (t : Nat) (ty : FieldType), pm_tg[t]? = some ty → ArrOfT U (aC t) ty ∧ va_RA U (aC t) ty ∧ pm_mk ty U
theorem pm_mk.moved {s U : State} (hW : s.WarmedH U.vm) {ty : FieldType} (h : pm_mk ty s) : pm_mk ty U := by
  cases ty with
  | object C => exact va_AO.moved hW.alike h
  | _ => exact word_at hW (Or.inr ⟨_, rfl⟩) h
theorem pm_G.moved {D : va_G} {aC : Nat → ClassId} {s U : State} (hW : s.WarmedH U.vm) (h : pm_G D aC s) : pm_G D aC U := by
  refine ⟨fun w h1 h2 => ?_, fun ci q hq => u_Kn_moved hW.alike (h.2.1 ci q hq), fun t ty ht => ?_⟩
  · have h3 := h.1 w h1 h2
    simp only [pm_gd, Bool.and_eq_true] at h2
    exact va_tabs h2.1 (rfl : (s.setVm U.vm).vm = U.vm) (Cond.onTables_warmH (T := s) (args' := #[]) hW h2.1 h2.2 h3)
  · obtain ⟨a1, a2, a3⟩ := h.2.2 t ty ht
    exact ⟨arrOfT_moved hW.alike a1, a2.moved hW.alike, a3.moved hW⟩
theorem pm_word {D : va_G} {aC : Nat → ClassId} {s : State} {args : Array Value} (h : pm_G D aC s) {w : Cond} (h1 : w ∈ lw_tbl) (h2 : pm_gd w = true) : w.before args s = true := by
  have h3 := h.1 w h1 h2
  simp only [pm_gd, Bool.and_eq_true] at h2
  exact va_Nw.use h2.1 h3
-- the locals
def pm_V (z bS : Nat) (ls : Array Slot) (nL : Nat) (lc : List Value) : Prop := ls.size = nL ∧ lv_wf ls ∧ lc.length = nL ∧ ∀ (j : Nat) (w : Value), lc[j]? = some w → pm_ok w = true → ls[j]? = some (.val (pm_t z bS w))
def pm_ll (z bS : Nat) : Nat → List Value → List (Nat × Value)
  | _, [] => []
  | i, v :: l => if pm_ok v then (i, pm_t z bS v) :: pm_ll z bS (i + 1) l else pm_ll z bS (i + 1) l
theorem pm_ll_mem {z bS : Nat} {q : Nat × Value} : ∀ (l : List Value) (i : Nat), q ∈ pm_ll z bS i l ↔ ∃ (j : Nat) (w : Value), l[j]? = some w ∧ pm_ok w = true ∧ q = (i + j, pm_t z bS w) := by
  intro l
  induction l with
  | nil => intro i; simp [pm_ll]
  | cons v l ih =>
    intro i
    have key : (∃ (j : Nat) (w : Value), (v :: l)[j]? = some w ∧ pm_ok w = true ∧ q = (i + j, pm_t z bS w)) ↔ (pm_ok v = true ∧ q = (i, pm_t z bS v)) ∨ ∃ (j : Nat) (w : Value), l[j]? = some w ∧ pm_ok w = true ∧ q = (i + 1 + j, pm_t z bS w) := by
      constructor
      · rintro ⟨j, w, h1, h2, h3⟩
        cases j with
        | zero =>
          simp at h1
          subst h1
          exact Or.inl ⟨h2, by simpa using h3⟩
        | succ j => exact Or.inr ⟨j, w, by simpa using h1, h2, by rw [h3]; congr 1; omega⟩
      · rintro (⟨h1, h2⟩ | ⟨j, w, h1, h2, h3⟩)
        · exact ⟨0, v, by simp, h1, by simpa using h2⟩
        · exact ⟨j + 1, w, by simpa using h1, h2, by rw [h3]; congr 1; omega⟩
    rw [key]
    simp only [pm_ll]
    split
    · rename_i hv
      simp [ih, hv]
    · rename_i hv
      simp [ih, hv]
theorem pm_V.has {z bS nL : Nat} {ls : Array Slot} {lc : List Value} (h : pm_V z bS ls nL lc) : lv_has ls nL (pm_ll z bS 0 lc) := by
  refine ⟨h.1, h.2.1, fun q hq => ?_⟩
  obtain ⟨j, w, h1, h2, h3⟩ := (pm_ll_mem lc 0).mp hq
  rw [h3]
  simpa using h.2.2.2 j w h1 h2
theorem pm_t_cat {z bS : Nat} {w : Value} (h : pm_ok w = true) : (pm_t z bS w).category = 1 := by
  cases w <;> first | rfl | cases h
theorem pm_V.set {z bS nL i : Nat} {ls ls' : Array Slot} {lc : List Value} {v : Value} (h : pm_V z bS ls nL lc) (hv : pm_ok v = true) (h' : lv_has ls' nL ((i, pm_t z bS v) :: (pm_ll z bS 0 lc).filter (fun q => !(q.1 == i) && !(q.1 + 1 == i && q.2.category == 2)))) : pm_V z bS ls' nL (lc.set i v) := by
  refine ⟨h'.1, h'.2.1, by rw [List.length_set]; exact h.2.2.1, fun j w hj hw => ?_⟩
  by_cases hji : j = i
  · subst hji
    have hl : j < lc.length := by
      have := (List.getElem?_eq_some_iff.mp hj).1
      simpa using this
    rw [List.getElem?_set_self hl] at hj
    cases hj
    exact h'.2.2 (j, pm_t z bS v) List.mem_cons_self
  · rw [List.getElem?_set_ne (Ne.symm hji)] at hj
    refine h'.2.2 (j, pm_t z bS w) (List.mem_cons_of_mem _ (List.mem_filter.mpr ⟨(pm_ll_mem lc 0).mpr ⟨j, w, hj, hw, by simp⟩, ?_⟩))
    simp [hji, pm_t_cat hw]
def pm_L (s : State) (D : va_G) (aC : Nat → ClassId) (z bS nL : Nat) (lc : List Value) (h : pm_H) (H : Heap) (locs : List Loc) (ls : Array Slot) : Prop := pm_W D aC z h H ∧ va_S (fun q => z ≤ q) s.heap H locs ∧ pm_V z bS ls nL lc
/-- what holds in a whole activation of a method: its code cc with nL locals, of class own, its name nm -/
def pm_X (p : Program) (R : Room) (s : State) (m : MethodId) (meth : Method) (c : Code) (cc : ByteArray) (nL : Nat) (own nm : String) (D : va_G) (aC : Nat → ClassId) (z : Nat) : Prop :=
  p.tables.exec = Jvm.exec ∧ c.code = cc ∧ c.maxLocals = nL ∧ s.vm.findClass own = some m.cls ∧ pm_G D aC s ∧ z ≤ s.heap.size ∧ 1 ≤ R.frames ∧ 40 ≤ R.locals ∧ meth.name = nm
/-- a method's contract: from the pure heap h with the values a it comes to h' with the answer v -/
def pm_Pc (D : va_G) (aC : Nat → ClassId) (z bS : Nat) (a : List Value) (h : pm_H) : Array Value → State → Prop := va_Pc (a.map (pm_t z bS)) (fun U => pm_W D aC z h U.heap ∧ pm_G D aC U)
def pm_Qc (D : va_G) (aC : Nat → ClassId) (z bS : Nat) (h : pm_H) (v : Option Value) : Array Value → State → Outcome → State → Prop := fun _ st oc t => oc = .returned (v.map (pm_t z bS)) ∧ pm_W D aC z h t.heap ∧ va_F (fun q => z ≤ q) st t
abbrev pm_N : Type := MethodName × ByteArray × Nat × Option FieldType
def pm_rm (d mc ms : Nat) : Room := { frames := d + 1, cells := mc, slots := ms, locals := 40 + 30 * d }
def pm_M (l : Launch) (D : va_G) (aC : Nat → ClassId) (z bS d : Nat) (y : pm_N) (a : List Value) (h h' : pm_H) (v : Option Value) : Prop :=
  (h.1 ≤ h'.1 ∧ h.2.1 ≤ h'.2.1) ∧ Met l y.1 [Cond.code y.1 y.2.1 y.2.2.1 y.2.2.2] (pm_rm d (h'.1 - h.1) (h'.2.1 - h.2.1)) (pm_Pc D aC z bS a h) (pm_Qc D aC z bS h' v) (h'.1 - h.1) (h'.2.1 - h.2.1) (fun q => z ≤ q)
/-- an end: which instruction may stand there -/
def pm_rd (cc : ByteArray) (pc : Nat) (ret : Option FieldType) (v : Option Value) : Prop := match v with
  | none => decode cc pc = .ok (.return_, 1) ∧ ret = none
  | some (.int w) => decode cc pc = .ok (.ireturn, 1) ∧ ∃ ty, ret = some ty ∧ narrow ty (.int w) = .int w
  | some (.ref _) => decode cc pc = .ok (.areturn, 1) ∧ ∃ C, ret = some (.object C)
  | _ => False
section SND
variable (p : Program) (l : Launch) (e : Env) (R : Room) (s : State) (m : MethodId) (args : Array Value) (below : List Frame) (meth : Method) (c : Code) (Q : State → Prop) (D : va_G) (aC : Nat → ClassId) (z bS nL : Nat) (b : Nat → Nat) (i : Nat)
def pm_SN (lc st : List Value) (h : pm_H) (q : pm_C) : Prop :=
  (h.1 ≤ q.2.2.2.1 ∧ h.2.1 ≤ q.2.2.2.2.1) ∧ ∀ (H : Heap) (locs : List Loc) (ls : Array Slot) (kc ks : Nat), pm_L s D aC z bS nL lc h H locs ls → kc + (q.2.2.2.1 - h.1) ≤ R.cells → ks + (q.2.2.2.2.1 - h.2.1) ≤ R.slots →
    (∀ (H' : Heap) (locs' : List Loc) (ls' : Array Slot), pm_L s D aC z bS nL q.2.1 q.2.2.2 H' locs' ls' → W p l e R s m args below meth c H' locs' (kc + (q.2.2.2.1 - h.1)) (ks + (q.2.2.2.2.1 - h.2.1)) Q (F0 m (b q.1) ls' (q.2.2.1.map (pm_t z bS)))) →
    W p l e R s m args below meth c H locs kc ks Q (F0 m (b i) ls (st.map (pm_t z bS)))
def pm_SC (Y : Nat → pm_N) (lc st : List Value) (h : pm_H) (q : Nat × List Value × pm_C) : Prop :=
  q.2.2.2.2.2 = h ∧ ∀ (d : Nat) (h' : pm_H) (v : Option Value), d + 2 ≤ R.frames → 70 + 30 * d ≤ R.locals → pm_M l D aC z bS d (Y q.1) q.2.1 h h' v → ∀ (H : Heap) (locs : List Loc) (ls : Array Slot) (kc ks : Nat), pm_L s D aC z bS nL lc h H locs ls → kc + (h'.1 - h.1) ≤ R.cells → ks + (h'.2.1 - h.2.1) ≤ R.slots →
    (∀ (H' : Heap) (locs' : List Loc), pm_L s D aC z bS nL q.2.2.2.1 h' H' locs' ls → W p l e R s m args below meth c H' locs' (kc + (h'.1 - h.1)) (ks + (h'.2.1 - h.2.1)) Q (F0 m (b q.2.2.1) ls ((v.toList ++ q.2.2.2.2.1).map (pm_t z bS)))) →
    W p l e R s m args below meth c H locs kc ks Q (F0 m (b i) ls (st.map (pm_t z bS)))
def pm_SR (cc : ByteArray) (ret : Option FieldType) (st : List Value) (h : pm_H) (q : pm_R) : Prop :=
  q.1 = h ∧ st = q.2.toList ∧ pm_rd cc (b i) ret q.2
def pm_Sm (cc : ByteArray) (ret : Option FieldType) (Y : Nat → pm_N) (lc st : List Value) (h : pm_H) (o : pm_O) : Prop := match o with
  | .inl q => pm_SR b i cc ret st h q
  | .inr (.inl q) => pm_SN p l e R s m args below meth c Q D aC z bS nL b i lc st h q
  | .inr (.inr q) => pm_SC p l e R s m args below meth c Q D aC z bS nL b i Y lc st h q
end SND
/-- an instruction f at number i is what stands in the code at b i -/
def pm_S (cc : ByteArray) (nL : Nat) (own nm : String) (ret : Option FieldType) (Y : Nat → pm_N) (b : Nat → Nat) (i : Nat) (f : pm_I) : Prop :=
  ∀ (p : Program) (l : Launch) (e : Env) (R : Room) (s : State) (m : MethodId) (args : Array Value) (below : List Frame) (meth : Method) (c : Code) (Q : State → Prop) (D : va_G) (aC : Nat → ClassId) (z bS : Nat), pm_X p R s m meth c cc nL own nm D aC z →
    ∀ (lc st : List Value) (h : pm_H) (o : pm_O), f lc st h = some o → pm_Sm p l e R s m args below meth c Q D aC z bS nL b i cc ret Y lc st h o
theorem pm_keep {p : Program} {l : Launch} {e : Env} {R : Room} {s : State} {m : MethodId} {args : Array Value} {below : List Frame} {meth : Method} {c : Code} {Q : State → Prop} {D : va_G} {aC : Nat → ClassId} {z bS nL : Nat} {b : Nat → Nat} {i x : Nat} {lc lc' st st' : List Value} {h : pm_H}
    (k : ∀ (H : Heap) (locs : List Loc) (ls : Array Slot) (kc ks : Nat), pm_L s D aC z bS nL lc h H locs ls → kc ≤ R.cells → ks ≤ R.slots → (∀ ls' : Array Slot, pm_V z bS ls' nL lc' → W p l e R s m args below meth c H locs kc ks Q (F0 m (b x) ls' (st'.map (pm_t z bS)))) → W p l e R s m args below meth c H locs kc ks Q (F0 m (b i) ls (st.map (pm_t z bS)))) :
    pm_SN p l e R s m args below meth c Q D aC z bS nL b i lc st h (x, lc', st', h) := by
  refine ⟨⟨Nat.le_refl _, Nat.le_refl _⟩, fun H locs ls kc ks hL h1 h2 kk => ?_⟩
  simp only [Nat.sub_self, Nat.add_zero] at h1 h2 kk
  exact k H locs ls kc ks hL h1 h2 (fun ls' hV => kk H locs ls' ⟨hL.1, hL.2.1, hV⟩)
/-- an instruction that changes one cell, and makes none -/
theorem pm_put {p : Program} {l : Launch} {e : Env} {R : Room} {s : State} {m : MethodId} {args : Array Value} {below : List Frame} {meth : Method} {c : Code} {Q : State → Prop} {D : va_G} {aC : Nat → ClassId} {z bS nL : Nat} {b : Nat → Nat} {i x : Nat} {lc st st' : List Value} {h h' : pm_H} (h1 : h'.1 = h.1) (h2 : h'.2.1 = h.2.1)
    (k : ∀ (H : Heap) (locs : List Loc) (ls : Array Slot) (kc ks : Nat), pm_L s D aC z bS nL lc h H locs ls → (∀ (H' : Heap) (locs' : List Loc), pm_W D aC z h' H' → va_S (fun q => z ≤ q) s.heap H' locs' → W p l e R s m args below meth c H' locs' kc ks Q (F0 m (b x) ls (st'.map (pm_t z bS)))) → W p l e R s m args below meth c H locs kc ks Q (F0 m (b i) ls (st.map (pm_t z bS)))) :
    pm_SN p l e R s m args below meth c Q D aC z bS nL b i lc st h (x, lc, st', h') := by
  refine ⟨⟨Nat.le_of_eq h1.symm, Nat.le_of_eq h2.symm⟩, fun H locs ls kc ks hL g1 g2 kk => ?_⟩
  simp only [h1, h2, Nat.sub_self, Nat.add_zero] at kk
  exact k H locs ls kc ks hL (fun H' locs' hW hS => kk H' locs' ls ⟨hW, hS, hL.2.2⟩)
theorem pm_W.set {D : va_G} {aC : Nat → ClassId} {z : Nat} {h h' : pm_H} {H H1 : Heap} {k : Nat} (hW : pm_W D aC z h H) (h1 : h'.1 = h.1) (h2 : h'.2.2.1 = h.2.2.1) (ho : ∀ a, a ≠ k → pm_v z h' a = pm_v z h a) (hz : H1.size = H.size) (oq : ∀ q : Nat, q ≠ z + k → H1[q]? = H[q]?) (hc : pm_at D aC z h' H1 k) : pm_W D aC z h' H1 := by
  refine ⟨by rw [hz, h1]; exact hW.1, fun a ha => ?_⟩
  by_cases hak : a = k
  · rw [hak]; exact hc
  · have hat := hW.2 a (by rw [← h1]; exact ha)
    have hq : H1[z + a]? = H[z + a]? := oq _ (by omega)
    refine ⟨fun hl => ?_, fun ci hci => ?_⟩
    · rw [hq, h2, ho a hak]
      exact hat.1 (by rw [← h2]; exact hl)
    · obtain ⟨r, g1, g2, g3⟩ := hat.2 ci (by rw [← h2]; exact hci)
      exact ⟨r, g1, by rw [h2]; exact g2, by rw [ho a hak]; exact g3.kept hq⟩
end
section
section OPS
variable {cc : ByteArray} {nL : Nat} {own nm : String} {ret : Option FieldType} {Y : Nat → pm_N} {b : Nat → Nat} {i x : Nat}
theorem so_const1 {n : Int} {v : Int32} (hd : decode cc (b i) = .ok (.iconst n, 1)) (hv : Int32.ofInt n = v) (hx : b x = b i + 1) : pm_S cc nL own nm ret Y b i (pm_const x v) := by
  intro p l e R s m args below meth c Q D aC z bS X lc st h o ho
  cases ho
  refine pm_keep fun H locs ls kc ks hL hkc hks k => ?_
  have k := k ls hL.2.2
  rw [hx] at k
  exact lv_iconst X.1 X.2.1 hd hv k
theorem so_const2 {n : Int} {v : Int32} (hd : decode cc (b i) = .ok (.bipush n, 2)) (hv : (Int8.ofInt n).toInt32 = v) (hx : b x = b i + 2) : pm_S cc nL own nm ret Y b i (pm_const x v) := by
  intro p l e R s m args below meth c Q D aC z bS X lc st h o ho
  cases ho
  refine pm_keep fun H locs ls kc ks hL hkc hks k => ?_
  have k := k ls hL.2.2
  rw [hx] at k
  exact lv_bipush X.1 X.2.1 hd hv k
theorem so_const3 {n : Int} {v : Int32} (hd : decode cc (b i) = .ok (.sipush n, 3)) (hv : (Int16.ofInt n).toInt32 = v) (hx : b x = b i + 3) : pm_S cc nL own nm ret Y b i (pm_const x v) := by
  intro p l e R s m args below meth c Q D aC z bS X lc st h o ho
  cases ho
  refine pm_keep fun H locs ls kc ks hL hkc hks k => ?_
  have k := k ls hL.2.2
  rw [hx] at k
  exact lv_sipush X.1 X.2.1 hd hv k
theorem so_iload {a : Nat} (hd : decode cc (b i) = .ok (.iload a, 2)) (hx : b x = b i + 2) : pm_S cc nL own nm ret Y b i (pm_iload x a) := by
  intro p l e R s m args below meth c Q D aC z bS X lc st h o ho
  unfold pm_iload at ho
  split at ho
  · rename_i v hv
    cases ho
    refine pm_keep fun H locs ls kc ks hL hkc hks k => ?_
    have k := k ls hL.2.2
    rw [hx] at k
    exact lv_iload X.1 X.2.1 hd (hL.2.2.2.2.2 _ _ hv rfl) k
  · cases ho
theorem so_iloadn {a : Nat} {n : Fin 4} (hd : decode cc (b i) = .ok (.iload_n n, 1)) (hn : (n : Nat) = a) (hx : b x = b i + 1) : pm_S cc nL own nm ret Y b i (pm_iload x a) := by
  intro p l e R s m args below meth c Q D aC z bS X lc st h o ho
  unfold pm_iload at ho
  split at ho
  · rename_i v hv
    cases ho
    refine pm_keep fun H locs ls kc ks hL hkc hks k => ?_
    have k := k ls hL.2.2
    rw [hx] at k
    exact lv_iload_n X.1 X.2.1 hd hn (hL.2.2.2.2.2 _ _ hv rfl) k
  · cases ho
theorem so_aload {a : Nat} (hd : decode cc (b i) = .ok (.aload a, 2)) (hx : b x = b i + 2) : pm_S cc nL own nm ret Y b i (pm_aload x a) := by
  intro p l e R s m args below meth c Q D aC z bS X lc st h o ho
  unfold pm_aload at ho
  split at ho
  · rename_i v hv
    cases ho
    refine pm_keep fun H locs ls kc ks hL hkc hks k => ?_
    have k := k ls hL.2.2
    rw [hx] at k
    exact lv_aload X.1 X.2.1 hd (hL.2.2.2.2.2 _ _ hv rfl) k
  · rename_i v hv
    cases ho
    refine pm_keep fun H locs ls kc ks hL hkc hks k => ?_
    have k := k ls hL.2.2
    rw [hx] at k
    exact lv_aload X.1 X.2.1 hd (hL.2.2.2.2.2 _ _ hv rfl) k
  · cases ho
theorem so_aloadn {a : Nat} {n : Fin 4} (hd : decode cc (b i) = .ok (.aload_n n, 1)) (hn : (n : Nat) = a) (hx : b x = b i + 1) : pm_S cc nL own nm ret Y b i (pm_aload x a) := by
  intro p l e R s m args below meth c Q D aC z bS X lc st h o ho
  unfold pm_aload at ho
  split at ho
  · rename_i v hv
    cases ho
    refine pm_keep fun H locs ls kc ks hL hkc hks k => ?_
    have k := k ls hL.2.2
    rw [hx] at k
    exact lv_aload_n X.1 X.2.1 hd hn (hL.2.2.2.2.2 _ _ hv rfl) k
  · rename_i v hv
    cases ho
    refine pm_keep fun H locs ls kc ks hL hkc hks k => ?_
    have k := k ls hL.2.2
    rw [hx] at k
    exact lv_aload_n X.1 X.2.1 hd hn (hL.2.2.2.2.2 _ _ hv rfl) k
  · cases ho
theorem so_istore {a : Nat} (hd : decode cc (b i) = .ok (.istore a, 2)) (ha : a < nL) (hx : b x = b i + 2) : pm_S cc nL own nm ret Y b i (pm_istore x a) := by
  intro p l e R s m args below meth c Q D aC z bS X lc st h o ho
  unfold pm_istore at ho
  split at ho
  · rename_i v st'
    cases ho
    refine pm_keep fun H locs ls kc ks hL hkc hks k => ?_
    refine lv_istore X.1 X.2.1 hd hL.2.2.has ha rfl (fun ls' h' => ?_)
    have k := k ls' (hL.2.2.set rfl h')
    rw [hx] at k
    exact k
  · cases ho
theorem so_istoren {a : Nat} {n : Fin 4} (hd : decode cc (b i) = .ok (.istore_n n, 1)) (hn : (n : Nat) = a) (ha : a < nL) (hx : b x = b i + 1) : pm_S cc nL own nm ret Y b i (pm_istore x a) := by
  intro p l e R s m args below meth c Q D aC z bS X lc st h o ho
  unfold pm_istore at ho
  split at ho
  · rename_i v st'
    cases ho
    refine pm_keep fun H locs ls kc ks hL hkc hks k => ?_
    refine lv_istore_n X.1 X.2.1 hd hn hL.2.2.has ha rfl (fun ls' h' => ?_)
    have k := k ls' (hL.2.2.set rfl h')
    rw [hx] at k
    exact k
  · cases ho
theorem so_astore {a : Nat} (hd : decode cc (b i) = .ok (.astore a, 2)) (ha : a < nL) (hx : b x = b i + 2) : pm_S cc nL own nm ret Y b i (pm_astore x a) := by
  intro p l e R s m args below meth c Q D aC z bS X lc st h o ho
  unfold pm_astore at ho
  split at ho
  · rename_i v st'
    cases ho
    refine pm_keep fun H locs ls kc ks hL hkc hks k => ?_
    refine lv_astore X.1 X.2.1 hd hL.2.2.has ha rfl (fun ls' h' => ?_)
    have k := k ls' (hL.2.2.set rfl h')
    rw [hx] at k
    exact k
  · cases ho
theorem so_astoren {a : Nat} {n : Fin 4} (hd : decode cc (b i) = .ok (.astore_n n, 1)) (hn : (n : Nat) = a) (ha : a < nL) (hx : b x = b i + 1) : pm_S cc nL own nm ret Y b i (pm_astore x a) := by
  intro p l e R s m args below meth c Q D aC z bS X lc st h o ho
  unfold pm_astore at ho
  split at ho
  · rename_i v st'
    cases ho
    refine pm_keep fun H locs ls kc ks hL hkc hks k => ?_
    refine lv_astore_n X.1 X.2.1 hd hn hL.2.2.has ha rfl (fun ls' h' => ?_)
    have k := k ls' (hL.2.2.set rfl h')
    rw [hx] at k
    exact k
  · cases ho
theorem so_iinc {a : Nat} {n : Int} {v : Int32} (hd : decode cc (b i) = .ok (.iinc a n, 3)) (hv : Int32.ofInt n = v) (ha : a < nL) (hx : b x = b i + 3) : pm_S cc nL own nm ret Y b i (pm_iinc x a v) := by
  intro p l e R s m args below meth c Q D aC z bS X lc st h o ho
  unfold pm_iinc at ho
  split at ho
  · rename_i w hw
    cases ho
    refine pm_keep fun H locs ls kc ks hL hkc hks k => ?_
    obtain ⟨j, hj⟩ := List.getElem?_of_mem ((pm_ll_mem (z := z) (bS := bS) lc 0).mpr ⟨a, .int w, hw, rfl, rfl⟩)
    rw [Nat.zero_add] at hj
    refine lv_iinc X.1 X.2.1 hd hL.2.2.has hj (by rw [hv]) ha rfl (fun ls' h' => ?_)
    have k := k ls' (hL.2.2.set (v := .int (w + v)) rfl h')
    rw [hx] at k
    exact k
  · cases ho
theorem so_iadd (hd : decode cc (b i) = .ok (.iadd, 1)) (hx : b x = b i + 1) : pm_S cc nL own nm ret Y b i (pm_bin x (fun a b => a + b)) := by
  intro p l e R s m args below meth c Q D aC z bS X lc st h o ho
  unfold pm_bin at ho
  split at ho
  · cases ho
    refine pm_keep fun H locs ls kc ks hL hkc hks k => ?_
    have k := k ls hL.2.2
    rw [hx] at k
    exact lv_iadd X.1 X.2.1 hd k
  · cases ho
theorem so_isub (hd : decode cc (b i) = .ok (.isub, 1)) (hx : b x = b i + 1) : pm_S cc nL own nm ret Y b i (pm_bin x (fun a b => a - b)) := by
  intro p l e R s m args below meth c Q D aC z bS X lc st h o ho
  unfold pm_bin at ho
  split at ho
  · cases ho
    refine pm_keep fun H locs ls kc ks hL hkc hks k => ?_
    have k := k ls hL.2.2
    rw [hx] at k
    exact lv_isub X.1 X.2.1 hd k
  · cases ho
theorem so_imul (hd : decode cc (b i) = .ok (.imul, 1)) (hx : b x = b i + 1) : pm_S cc nL own nm ret Y b i (pm_bin x (fun a b => a * b)) := by
  intro p l e R s m args below meth c Q D aC z bS X lc st h o ho
  unfold pm_bin at ho
  split at ho
  · cases ho
    refine pm_keep fun H locs ls kc ks hL hkc hks k => ?_
    have k := k ls hL.2.2
    rw [hx] at k
    exact lv_imul X.1 X.2.1 hd k
  · cases ho
theorem so_iand (hd : decode cc (b i) = .ok (.iand, 1)) (hx : b x = b i + 1) : pm_S cc nL own nm ret Y b i (pm_bin x (fun a b => a &&& b)) := by
  intro p l e R s m args below meth c Q D aC z bS X lc st h o ho
  unfold pm_bin at ho
  split at ho
  · cases ho
    refine pm_keep fun H locs ls kc ks hL hkc hks k => ?_
    have k := k ls hL.2.2
    rw [hx] at k
    exact lv_iand X.1 X.2.1 hd k
  · cases ho
theorem so_ior (hd : decode cc (b i) = .ok (.ior, 1)) (hx : b x = b i + 1) : pm_S cc nL own nm ret Y b i (pm_bin x (fun a b => a ||| b)) := by
  intro p l e R s m args below meth c Q D aC z bS X lc st h o ho
  unfold pm_bin at ho
  split at ho
  · cases ho
    refine pm_keep fun H locs ls kc ks hL hkc hks k => ?_
    have k := k ls hL.2.2
    rw [hx] at k
    exact lv_ior X.1 X.2.1 hd k
  · cases ho
theorem so_ixor (hd : decode cc (b i) = .ok (.ixor, 1)) (hx : b x = b i + 1) : pm_S cc nL own nm ret Y b i (pm_bin x (fun a b => a ^^^ b)) := by
  intro p l e R s m args below meth c Q D aC z bS X lc st h o ho
  unfold pm_bin at ho
  split at ho
  · cases ho
    refine pm_keep fun H locs ls kc ks hL hkc hks k => ?_
    have k := k ls hL.2.2
    rw [hx] at k
    exact lv_ixor X.1 X.2.1 hd k
  · cases ho
theorem so_ishl (hd : decode cc (b i) = .ok (.ishl, 1)) (hx : b x = b i + 1) : pm_S cc nL own nm ret Y b i (pm_bin x (fun a b => a <<< (b &&& 31))) := by
  intro p l e R s m args below meth c Q D aC z bS X lc st h o ho
  unfold pm_bin at ho
  split at ho
  · cases ho
    refine pm_keep fun H locs ls kc ks hL hkc hks k => ?_
    have k := k ls hL.2.2
    rw [hx] at k
    exact lv_ishl X.1 X.2.1 hd k
  · cases ho
theorem so_ishr (hd : decode cc (b i) = .ok (.ishr, 1)) (hx : b x = b i + 1) : pm_S cc nL own nm ret Y b i (pm_bin x (fun a b => a >>> (b &&& 31))) := by
  intro p l e R s m args below meth c Q D aC z bS X lc st h o ho
  unfold pm_bin at ho
  split at ho
  · cases ho
    refine pm_keep fun H locs ls kc ks hL hkc hks k => ?_
    have k := k ls hL.2.2
    rw [hx] at k
    exact lv_ishr X.1 X.2.1 hd k
  · cases ho
theorem so_idiv (hd : decode cc (b i) = .ok (.idiv, 1)) (hx : b x = b i + 1) : pm_S cc nL own nm ret Y b i (pm_div x (fun a b => a / b)) := by
  intro p l e R s m args below meth c Q D aC z bS X lc st h o ho
  unfold pm_div at ho
  split at ho
  · split at ho
    · cases ho
    · rename_i hne
      cases ho
      refine pm_keep fun H locs ls kc ks hL hkc hks k => ?_
      have k := k ls hL.2.2
      rw [hx] at k
      exact lv_idiv X.1 X.2.1 hd hne k
  · cases ho
theorem so_irem (hd : decode cc (b i) = .ok (.irem, 1)) (hx : b x = b i + 1) : pm_S cc nL own nm ret Y b i (pm_div x (fun a b => a - a / b * b)) := by
  intro p l e R s m args below meth c Q D aC z bS X lc st h o ho
  unfold pm_div at ho
  split at ho
  · split at ho
    · cases ho
    · rename_i hne
      cases ho
      refine pm_keep fun H locs ls kc ks hL hkc hks k => ?_
      have k := k ls hL.2.2
      rw [hx] at k
      exact lv_irem X.1 X.2.1 hd hne k
  · cases ho
theorem so_dup (hd : decode cc (b i) = .ok (.dup, 1)) (hx : b x = b i + 1) : pm_S cc nL own nm ret Y b i (pm_dup x) := by
  intro p l e R s m args below meth c Q D aC z bS X lc st h o ho
  unfold pm_dup at ho
  split at ho
  · split at ho
    · rename_i hv
      cases ho
      refine pm_keep fun H locs ls kc ks hL hkc hks k => ?_
      have k := k ls hL.2.2
      rw [hx] at k
      exact lv_dup X.1 X.2.1 hd (pm_t_cat hv) k
    · cases ho
  · cases ho
theorem so_dupx1 (hd : decode cc (b i) = .ok (.dup_x1, 1)) (hx : b x = b i + 1) : pm_S cc nL own nm ret Y b i (pm_dupx1 x) := by
  intro p l e R s m args below meth c Q D aC z bS X lc st h o ho
  unfold pm_dupx1 at ho
  split at ho
  · split at ho
    · rename_i hv
      cases ho
      simp only [Bool.and_eq_true] at hv
      refine pm_keep fun H locs ls kc ks hL hkc hks k => ?_
      have k := k ls hL.2.2
      rw [hx] at k
      exact lv_dup_x1 X.1 X.2.1 hd (pm_t_cat hv.1) (pm_t_cat hv.2) k
    · cases ho
  · cases ho
theorem so_dup2 (hd : decode cc (b i) = .ok (.dup2, 1)) (hx : b x = b i + 1) : pm_S cc nL own nm ret Y b i (pm_dup2 x) := by
  intro p l e R s m args below meth c Q D aC z bS X lc st h o ho
  unfold pm_dup2 at ho
  split at ho
  · split at ho
    · rename_i hv
      cases ho
      simp only [Bool.and_eq_true] at hv
      refine pm_keep fun H locs ls kc ks hL hkc hks k => ?_
      have k := k ls hL.2.2
      rw [hx] at k
      exact lv_dup2_11 X.1 X.2.1 hd (pm_t_cat hv.1) (pm_t_cat hv.2) k
    · cases ho
  · cases ho
theorem so_pop (hd : decode cc (b i) = .ok (.pop, 1)) (hx : b x = b i + 1) : pm_S cc nL own nm ret Y b i (pm_pop x) := by
  intro p l e R s m args below meth c Q D aC z bS X lc st h o ho
  unfold pm_pop at ho
  split at ho
  · split at ho
    · rename_i hv
      cases ho
      refine pm_keep fun H locs ls kc ks hL hkc hks k => ?_
      have k := k ls hL.2.2
      rw [hx] at k
      exact lv_pop X.1 X.2.1 hd (pm_t_cat hv) k
    · cases ho
  · cases ho
theorem so_if_eq {t : Nat} {off : Int} (hd : decode cc (b i) = .ok (.ifCond .eq off, 3)) (ht : ((b i : Nat) : Int) + off = ((b t : Nat) : Int)) (hx : b x = b i + 3) : pm_S cc nL own nm ret Y b i (pm_if t x (fun a => decide (a = 0))) := by
  intro p l e R s m args below meth c Q D aC z bS X lc st h o ho
  unfold pm_if at ho
  split at ho
  · split at ho
    · rename_i hq
      cases ho
      rw [decide_eq_true_eq] at hq
      refine pm_keep fun H locs ls kc ks hL hkc hks k => ?_
      exact lv_if_eq X.1 X.2.1 hd ht (fun _ => k ls hL.2.2) (fun g => absurd hq g)
    · rename_i hq
      cases ho
      rw [decide_eq_true_eq] at hq
      refine pm_keep fun H locs ls kc ks hL hkc hks k => ?_
      have k := k ls hL.2.2
      rw [hx] at k
      exact lv_if_eq X.1 X.2.1 hd ht (fun g => absurd g hq) (fun _ => k)
  · cases ho
theorem so_icmp_eq {t : Nat} {off : Int} (hd : decode cc (b i) = .ok (.if_icmp .eq off, 3)) (ht : ((b i : Nat) : Int) + off = ((b t : Nat) : Int)) (hx : b x = b i + 3) : pm_S cc nL own nm ret Y b i (pm_icmp t x (fun a b => decide (a = b))) := by
  intro p l e R s m args below meth c Q D aC z bS X lc st h o ho
  unfold pm_icmp at ho
  split at ho
  · split at ho
    · rename_i hq
      cases ho
      rw [decide_eq_true_eq] at hq
      refine pm_keep fun H locs ls kc ks hL hkc hks k => ?_
      exact lv_icmp_eq X.1 X.2.1 hd ht (fun _ => k ls hL.2.2) (fun g => absurd hq g)
    · rename_i hq
      cases ho
      rw [decide_eq_true_eq] at hq
      refine pm_keep fun H locs ls kc ks hL hkc hks k => ?_
      have k := k ls hL.2.2
      rw [hx] at k
      exact lv_icmp_eq X.1 X.2.1 hd ht (fun g => absurd g hq) (fun _ => k)
  · cases ho
theorem so_if_ne {t : Nat} {off : Int} (hd : decode cc (b i) = .ok (.ifCond .ne off, 3)) (ht : ((b i : Nat) : Int) + off = ((b t : Nat) : Int)) (hx : b x = b i + 3) : pm_S cc nL own nm ret Y b i (pm_if t x (fun a => decide (a ≠ 0))) := by
  intro p l e R s m args below meth c Q D aC z bS X lc st h o ho
  unfold pm_if at ho
  split at ho
  · split at ho
    · rename_i hq
      cases ho
      rw [decide_eq_true_eq] at hq
      refine pm_keep fun H locs ls kc ks hL hkc hks k => ?_
      exact lv_if_ne X.1 X.2.1 hd ht (fun _ => k ls hL.2.2) (fun g => absurd g hq)
    · rename_i hq
      cases ho
      rw [decide_eq_true_eq] at hq
      refine pm_keep fun H locs ls kc ks hL hkc hks k => ?_
      have k := k ls hL.2.2
      rw [hx] at k
      exact lv_if_ne X.1 X.2.1 hd ht (fun g => absurd g hq) (fun _ => k)
  · cases ho
theorem so_icmp_ne {t : Nat} {off : Int} (hd : decode cc (b i) = .ok (.if_icmp .ne off, 3)) (ht : ((b i : Nat) : Int) + off = ((b t : Nat) : Int)) (hx : b x = b i + 3) : pm_S cc nL own nm ret Y b i (pm_icmp t x (fun a b => decide (a ≠ b))) := by
  intro p l e R s m args below meth c Q D aC z bS X lc st h o ho
  unfold pm_icmp at ho
  split at ho
  · split at ho
    · rename_i hq
      cases ho
      rw [decide_eq_true_eq] at hq
      refine pm_keep fun H locs ls kc ks hL hkc hks k => ?_
      exact lv_icmp_ne X.1 X.2.1 hd ht (fun _ => k ls hL.2.2) (fun g => absurd g hq)
    · rename_i hq
      cases ho
      rw [decide_eq_true_eq] at hq
      refine pm_keep fun H locs ls kc ks hL hkc hks k => ?_
      have k := k ls hL.2.2
      rw [hx] at k
      exact lv_icmp_ne X.1 X.2.1 hd ht (fun g => absurd g hq) (fun _ => k)
  · cases ho
theorem so_if_lt {t : Nat} {off : Int} (hd : decode cc (b i) = .ok (.ifCond .lt off, 3)) (ht : ((b i : Nat) : Int) + off = ((b t : Nat) : Int)) (hx : b x = b i + 3) : pm_S cc nL own nm ret Y b i (pm_if t x (fun a => decide (a < 0))) := by
  intro p l e R s m args below meth c Q D aC z bS X lc st h o ho
  unfold pm_if at ho
  split at ho
  · split at ho
    · rename_i hq
      cases ho
      rw [decide_eq_true_eq] at hq
      refine pm_keep fun H locs ls kc ks hL hkc hks k => ?_
      exact lv_if_lt X.1 X.2.1 hd ht (fun _ => k ls hL.2.2) (fun g => absurd hq g)
    · rename_i hq
      cases ho
      rw [decide_eq_true_eq] at hq
      refine pm_keep fun H locs ls kc ks hL hkc hks k => ?_
      have k := k ls hL.2.2
      rw [hx] at k
      exact lv_if_lt X.1 X.2.1 hd ht (fun g => absurd g hq) (fun _ => k)
  · cases ho
theorem so_icmp_lt {t : Nat} {off : Int} (hd : decode cc (b i) = .ok (.if_icmp .lt off, 3)) (ht : ((b i : Nat) : Int) + off = ((b t : Nat) : Int)) (hx : b x = b i + 3) : pm_S cc nL own nm ret Y b i (pm_icmp t x (fun a b => decide (a < b))) := by
  intro p l e R s m args below meth c Q D aC z bS X lc st h o ho
  unfold pm_icmp at ho
  split at ho
  · split at ho
    · rename_i hq
      cases ho
      rw [decide_eq_true_eq] at hq
      refine pm_keep fun H locs ls kc ks hL hkc hks k => ?_
      exact lv_icmp_lt X.1 X.2.1 hd ht (fun _ => k ls hL.2.2) (fun g => absurd hq g)
    · rename_i hq
      cases ho
      rw [decide_eq_true_eq] at hq
      refine pm_keep fun H locs ls kc ks hL hkc hks k => ?_
      have k := k ls hL.2.2
      rw [hx] at k
      exact lv_icmp_lt X.1 X.2.1 hd ht (fun g => absurd g hq) (fun _ => k)
  · cases ho
theorem so_if_ge {t : Nat} {off : Int} (hd : decode cc (b i) = .ok (.ifCond .ge off, 3)) (ht : ((b i : Nat) : Int) + off = ((b t : Nat) : Int)) (hx : b x = b i + 3) : pm_S cc nL own nm ret Y b i (pm_if t x (fun a => decide (0 ≤ a))) := by
  intro p l e R s m args below meth c Q D aC z bS X lc st h o ho
  unfold pm_if at ho
  split at ho
  · split at ho
    · rename_i hq
      cases ho
      rw [decide_eq_true_eq] at hq
      refine pm_keep fun H locs ls kc ks hL hkc hks k => ?_
      exact lv_if_ge X.1 X.2.1 hd ht (fun _ => k ls hL.2.2) (fun g => absurd hq g)
    · rename_i hq
      cases ho
      rw [decide_eq_true_eq] at hq
      refine pm_keep fun H locs ls kc ks hL hkc hks k => ?_
      have k := k ls hL.2.2
      rw [hx] at k
      exact lv_if_ge X.1 X.2.1 hd ht (fun g => absurd g hq) (fun _ => k)
  · cases ho
theorem so_icmp_ge {t : Nat} {off : Int} (hd : decode cc (b i) = .ok (.if_icmp .ge off, 3)) (ht : ((b i : Nat) : Int) + off = ((b t : Nat) : Int)) (hx : b x = b i + 3) : pm_S cc nL own nm ret Y b i (pm_icmp t x (fun a b => decide (b ≤ a))) := by
  intro p l e R s m args below meth c Q D aC z bS X lc st h o ho
  unfold pm_icmp at ho
  split at ho
  · split at ho
    · rename_i hq
      cases ho
      rw [decide_eq_true_eq] at hq
      refine pm_keep fun H locs ls kc ks hL hkc hks k => ?_
      exact lv_icmp_ge X.1 X.2.1 hd ht (fun _ => k ls hL.2.2) (fun g => absurd hq g)
    · rename_i hq
      cases ho
      rw [decide_eq_true_eq] at hq
      refine pm_keep fun H locs ls kc ks hL hkc hks k => ?_
      have k := k ls hL.2.2
      rw [hx] at k
      exact lv_icmp_ge X.1 X.2.1 hd ht (fun g => absurd g hq) (fun _ => k)
  · cases ho
theorem so_if_gt {t : Nat} {off : Int} (hd : decode cc (b i) = .ok (.ifCond .gt off, 3)) (ht : ((b i : Nat) : Int) + off = ((b t : Nat) : Int)) (hx : b x = b i + 3) : pm_S cc nL own nm ret Y b i (pm_if t x (fun a => decide (0 < a))) := by
  intro p l e R s m args below meth c Q D aC z bS X lc st h o ho
  unfold pm_if at ho
  split at ho
  · split at ho
    · rename_i hq
      cases ho
      rw [decide_eq_true_eq] at hq
      refine pm_keep fun H locs ls kc ks hL hkc hks k => ?_
      exact lv_if_gt X.1 X.2.1 hd ht (fun _ => k ls hL.2.2) (fun g => absurd hq g)
    · rename_i hq
      cases ho
      rw [decide_eq_true_eq] at hq
      refine pm_keep fun H locs ls kc ks hL hkc hks k => ?_
      have k := k ls hL.2.2
      rw [hx] at k
      exact lv_if_gt X.1 X.2.1 hd ht (fun g => absurd g hq) (fun _ => k)
  · cases ho
theorem so_icmp_gt {t : Nat} {off : Int} (hd : decode cc (b i) = .ok (.if_icmp .gt off, 3)) (ht : ((b i : Nat) : Int) + off = ((b t : Nat) : Int)) (hx : b x = b i + 3) : pm_S cc nL own nm ret Y b i (pm_icmp t x (fun a b => decide (b < a))) := by
  intro p l e R s m args below meth c Q D aC z bS X lc st h o ho
  unfold pm_icmp at ho
  split at ho
  · split at ho
    · rename_i hq
      cases ho
      rw [decide_eq_true_eq] at hq
      refine pm_keep fun H locs ls kc ks hL hkc hks k => ?_
      exact lv_icmp_gt X.1 X.2.1 hd ht (fun _ => k ls hL.2.2) (fun g => absurd hq g)
    · rename_i hq
      cases ho
      rw [decide_eq_true_eq] at hq
      refine pm_keep fun H locs ls kc ks hL hkc hks k => ?_
      have k := k ls hL.2.2
      rw [hx] at k
      exact lv_icmp_gt X.1 X.2.1 hd ht (fun g => absurd g hq) (fun _ => k)
  · cases ho
theorem so_if_le {t : Nat} {off : Int} (hd : decode cc (b i) = .ok (.ifCond .le off, 3)) (ht : ((b i : Nat) : Int) + off = ((b t : Nat) : Int)) (hx : b x = b i + 3) : pm_S cc nL own nm ret Y b i (pm_if t x (fun a => decide (a ≤ 0))) := by
  intro p l e R s m args below meth c Q D aC z bS X lc st h o ho
  unfold pm_if at ho
  split at ho
  · split at ho
    · rename_i hq
      cases ho
      rw [decide_eq_true_eq] at hq
      refine pm_keep fun H locs ls kc ks hL hkc hks k => ?_
      exact lv_if_le X.1 X.2.1 hd ht (fun _ => k ls hL.2.2) (fun g => absurd hq g)
    · rename_i hq
      cases ho
      rw [decide_eq_true_eq] at hq
      refine pm_keep fun H locs ls kc ks hL hkc hks k => ?_
      have k := k ls hL.2.2
      rw [hx] at k
      exact lv_if_le X.1 X.2.1 hd ht (fun g => absurd g hq) (fun _ => k)
  · cases ho
theorem so_icmp_le {t : Nat} {off : Int} (hd : decode cc (b i) = .ok (.if_icmp .le off, 3)) (ht : ((b i : Nat) : Int) + off = ((b t : Nat) : Int)) (hx : b x = b i + 3) : pm_S cc nL own nm ret Y b i (pm_icmp t x (fun a b => decide (a ≤ b))) := by
  intro p l e R s m args below meth c Q D aC z bS X lc st h o ho
  unfold pm_icmp at ho
  split at ho
  · split at ho
    · rename_i hq
      cases ho
      rw [decide_eq_true_eq] at hq
      refine pm_keep fun H locs ls kc ks hL hkc hks k => ?_
      exact lv_icmp_le X.1 X.2.1 hd ht (fun _ => k ls hL.2.2) (fun g => absurd hq g)
    · rename_i hq
      cases ho
      rw [decide_eq_true_eq] at hq
      refine pm_keep fun H locs ls kc ks hL hkc hks k => ?_
      have k := k ls hL.2.2
      rw [hx] at k
      exact lv_icmp_le X.1 X.2.1 hd ht (fun g => absurd g hq) (fun _ => k)
  · cases ho
theorem so_goto {t : Nat} {off : Int} (hd : decode cc (b i) = .ok (.goto off, 3)) (ht : ((b i : Nat) : Int) + off = ((b t : Nat) : Int)) : pm_S cc nL own nm ret Y b i (pm_goto t) := by
  intro p l e R s m args below meth c Q D aC z bS X lc st h o ho
  cases ho
  refine pm_keep fun H locs ls kc ks hL hkc hks k => ?_
  exact lv_goto X.1 X.2.1 hd ht (k ls hL.2.2)
theorem so_vret (hd : decode cc (b i) = .ok (.return_, 1)) (hr : ret = none) : pm_S cc nL own nm ret Y b i (pm_vret) := by
  intro p l e R s m args below meth c Q D aC z bS X lc st h o ho
  unfold pm_vret at ho
  split at ho
  · cases ho
    exact ⟨rfl, rfl, hd, hr⟩
  · cases ho
theorem so_iret (hd : decode cc (b i) = .ok (.ireturn, 1)) (hr : ret = some .int) : pm_S cc nL own nm ret Y b i (pm_iret) := by
  intro p l e R s m args below meth c Q D aC z bS X lc st h o ho
  unfold pm_iret at ho
  split at ho
  · cases ho
    exact ⟨rfl, rfl, hd, .int, hr, rfl⟩
  · cases ho
theorem so_zret (hd : decode cc (b i) = .ok (.ireturn, 1)) (hr : ret = some .boolean) : pm_S cc nL own nm ret Y b i (pm_zret) := by
  intro p l e R s m args below meth c Q D aC z bS X lc st h o ho
  unfold pm_zret at ho
  split at ho
  · split at ho
    · rename_i hv
      cases ho
      refine ⟨rfl, rfl, hd, .boolean, hr, ?_⟩
      simp only [Bool.or_eq_true, beq_iff_eq] at hv
      rcases hv with rfl | rfl <;> rfl
    · cases ho
  · cases ho
theorem so_aret {C : String} (hd : decode cc (b i) = .ok (.areturn, 1)) (hr : ret = some (.object C)) : pm_S cc nL own nm ret Y b i (pm_aret) := by
  intro p l e R s m args below meth c Q D aC z bS X lc st h o ho
  unfold pm_aret at ho
  split at ho
  · cases ho
    exact ⟨rfl, rfl, hd, C, hr⟩
  · cases ho
end OPS
end
section
-- ===== fields =====
theorem pm_v_i {z : Nat} {h : pm_H} {k j : Nat} (h0 : pm_rf (pm_ft (h.2.2.1 k).1 j) = false) : pm_v z h k j = .int (h.2.2.2.1 k j) := by
  unfold pm_v
  rw [h0]
  rfl
theorem pm_v_r {z : Nat} {h : pm_H} {k j r : Nat} (h0 : pm_rf (pm_ft (h.2.2.1 k).1 j) = true) (hr : h.2.2.2.2 k j = some r) : pm_v z h k j = .ref (z + r) := by
  unfold pm_v
  rw [h0, hr]
  rfl
theorem pm_obj_spec {h : pm_H} {k ci j : Nat} (hq : pm_obj h k ci j = true) : k < h.1 ∧ (h.2.2.1 k).1 = 16 + ci ∧ j < (h.2.2.1 k).2 := by
  simp only [pm_obj, Bool.and_eq_true, decide_eq_true_eq, beq_iff_eq] at hq
  exact ⟨hq.1.1, hq.1.2, hq.2⟩
theorem pm_arr_spec {h : pm_H} {k t : Nat} {i : Int32} (hq : pm_arr h k t i = true) : k < h.1 ∧ (h.2.2.1 k).1 = t ∧ ¬ (i < 0 ∨ (h.2.2.1 k).2 ≤ i.toNatClampNeg) := by
  simp only [pm_arr, Bool.and_eq_true, decide_eq_true_eq, beq_iff_eq, Bool.not_eq_true', Bool.or_eq_false_iff, decide_eq_false_iff_not] at hq
  exact ⟨hq.1.1, hq.1.2, fun g => g.elim hq.2.1 hq.2.2⟩
section FLD
variable {p : Program} {l : Launch} {e : Env} {R : Room} {s : State} {m : MethodId} {args : Array Value} {below : List Frame} {meth : Method} {c : Code} {H : Heap} {locs : List Loc} {cells slots : Nat} {Q : State → Prop}
variable {cc : ByteArray} {nL : Nat} {own nm : String} {D : va_G} {aC : Nat → ClassId} {z : Nat} {pc : Nat} {ls : Array Slot} {rest : List Value}
def pm_fl (own : String) (idx : Nat) (C n d : String) : Prop := Cond.fieldLink own idx C n d ∈ lw_tbl ∨ ∃ host, Cond.fieldLinkNest own idx C n d host ∈ lw_tbl
theorem pm_Wget (X : pm_X p R s m meth c cc nL own nm D aC z) {ci k idx N a : Nat} {C : String} {T : u_T} (hq : vwCl[ci]? = some (C, T, N)) (hk : k < N) (ho : (T k).1 = C) (hl : pm_fl own idx C (T k).2.1 (T k).2.2.1) {V : Nat → Value} (hob : t_OB a (D.1 ci) N (D.2 ci) H V) (hdg : decode cc pc = .ok (.getfield idx, 3))
    (kk : W p l e R s m args below meth c H locs cells slots Q (F0 m (pc + 3) ls (V k :: rest))) : W p l e R s m args below meth c H locs cells slots Q (F0 m pc ls (.ref a :: rest)) := by
  obtain ⟨hexec, hb, -, hown, hG, -⟩ := X
  obtain ⟨cell, q1, q2, q3, q4⟩ := hob
  obtain ⟨hS, hfc, kC, hkC, hkind⟩ := hG.2.1 ci _ hq
  obtain ⟨cf, kf, fi, f, hi, hsl⟩ := hS k hk
  have hts : ∀ w ∈ u_ws C T N, w.before args s = true := fun w hw => pm_word hG (pm_cF ci _ hq w hw).1 (pm_cF ci _ hq w hw).2
  have hst := (u_facts hfc hkC (u_lays hts (fun _ h => h) hk) hi).1
  have hi' : s.fieldFound? C (T k).2.1 (T k).2.2.1 = some (cf, kf, fi, f) := by rw [← hi]; exact congrArg (fun o => s.fieldFound? o (T k).2.1 (T k).2.2.1) ho.symm
  rcases hl with hl | ⟨host, hl⟩
  · exact W.getf hexec hb hown (pm_word hG hl rfl) hi' hst q1 (by rw [q3]; exact fun h => by cases h) (v := V k) (by rw [hsl]; exact q4 k hk) rfl rfl hdg kk
  · exact va_Wgetf hexec hb hown (pm_word hG hl rfl) hi' hst q1 (by rw [q3]; exact fun h => by cases h) (v := V k) (by rw [hsl]; exact q4 k hk) rfl rfl hdg kk
/-- which fields may be written: those that aren't final, and final ones in their own constructor -/
def pm_fw (own nm : String) (idx : Nat) (C : String) (q : String × String × String × Bool) : Prop := (q.2.2.2 = false ∧ pm_fl own idx C q.2.1 q.2.2.1) ∨ (q.2.2.2 = true ∧ nm = "<init>" ∧ q.1 = own ∧ Cond.fieldLink own idx C q.2.1 q.2.2.1 ∈ lw_tbl)
theorem pm_Wput (X : pm_X p R s m meth c cc nL own nm D aC z) {ci k idx N a : Nat} {C : String} {T : u_T} (hq : vwCl[ci]? = some (C, T, N)) (hk : k < N) (ho : (T k).1 = C) (hl : pm_fw own nm idx C (T k)) {V : Nat → Value} (hob : t_OB a (D.1 ci) N (D.2 ci) H V) {v : Value} (hn : narrow (pm_ft (16 + ci) k) v = v) (hfit : fits (pm_ft (16 + ci) k) v = true) (hdg : decode cc pc = .ok (.putfield idx, 3))
    (kk : ∀ (H1 : Heap) (locs1 : List Loc), t_OB a (D.1 ci) N (D.2 ci) H1 (updV V k v) → H1.size = H.size → (∀ q : Nat, q ≠ a → H1[q]? = H[q]?) → (∃ w, locs1 = locs ++ [⟨a, w⟩]) → W p l e R s m args below meth c H1 locs1 cells slots Q (F0 m (pc + 3) ls rest)) : W p l e R s m args below meth c H locs cells slots Q (F0 m pc ls (v :: .ref a :: rest)) := by
  obtain ⟨hexec, hb, -, hown, hG, -, -, -, hnm⟩ := X
  obtain ⟨cell, q1, q2, q3, q4⟩ := hob
  obtain ⟨hS, hfc, kC, hkC, hkind⟩ := hG.2.1 ci _ hq
  have hts : ∀ w ∈ u_ws C T N, w.before args s = true := fun w hw => pm_word hG (pm_cF ci _ hq w hw).1 (pm_cF ci _ hq w hw).2
  have hap : ∀ x y, x < N → y < N → x ≠ y → (D.2 ci) x ≠ (D.2 ci) y := by
    intro x y hx hy hne
    obtain ⟨_, _, _, fa, hia, ea⟩ := hS x hx
    obtain ⟨_, _, _, fb, hib, eb⟩ := hS y hy
    rw [← ea, ← eb]
    refine u_apart (u_lays hts (fun _ h => h) hx) (u_lays hts (fun _ h => h) hy) hia hib ?_
    rw [(State.fieldFound?_type hia (pm_cT ci _ hq x hx)).1, (State.fieldFound?_type hib (pm_cT ci _ hq y hy)).1]
    exact pm_cN ci _ hq x hx y hy hne
  obtain ⟨cf, kf, fi, f, hi, hsl⟩ := hS k hk
  have hst := (u_facts hfc hkC (u_lays hts (fun _ h => h) hk) hi).1
  have hi' : s.fieldFound? C (T k).2.1 (T k).2.2.1 = some (cf, kf, fi, f) := by rw [← hi]; exact congrArg (fun o => s.fieldFound? o (T k).2.1 (T k).2.2.1) ho.symm
  have hlay := hts _ (u_in_lay hk)
  unfold u_lay at hlay
  have hd := pm_cT ci _ hq k hk
  rcases hl with ⟨hfin, hl⟩ | ⟨hfin, hini, hdecl, hl⟩
  · rw [if_neg (by rw [hfin]; decide)] at hlay
    have h6 := u_store hfc hkC hkind hlay hi hd hn hfit
    rcases hl with hl | ⟨host, hl⟩
    · refine W.putK hexec hb (f := f) ⟨hown, pm_word hG hl rfl, ⟨_, _, _, hi'⟩, hst⟩ (by rw [q2]; exact h6) q1 q3 (by rw [hsl]; exact k2_hasslot (q4 k hk)) rfl rfl hdg fun H' e1 e2 e3 => ?_
      rw [hsl] at e1 ⊢
      exact kk H' _ ⟨_, e1, q2, q3, t_set q4 hap hk v⟩ e2 e3 ⟨_, rfl⟩
    · refine va_WputK hexec hb (f := f) hown (pm_word hG hl rfl) hi' hst (by rw [q2]; exact h6) q1 q3 (by rw [hsl]; exact k2_hasslot (q4 k hk)) rfl rfl hdg fun H' e1 e2 e3 => ?_
      rw [hsl] at e1 ⊢
      exact kk H' _ ⟨_, e1, q2, q3, t_set q4 hap hk v⟩ e2 e3 ⟨_, rfl⟩
  · rw [if_pos hfin] at hlay
    have hcf : m.cls = cf := by
      obtain ⟨_, _, c', _, _, _, -, -, hf', -, -, -, hown2, -⟩ := Cond.laysFinal_spec hlay
      have e1 : c' = cf := by have := hi.symm.trans hf'; simp at this; exact this.1.symm
      rw [hdecl] at hown2
      rw [← e1]; exact Option.some.inj (hown.symm.trans hown2)
    have h6 := u_fits hfc hkC hkind (Or.inr hlay) hi hd hn hfit
    refine W.putFinK hexec hb hown (pm_word hG hl rfl) hi' hst hcf (hnm.trans hini) (by rw [q2]; exact h6) q1 q3 (by rw [hsl]; exact k2_hasslot (q4 k hk)) rfl rfl hdg fun H' e1 e2 e3 => ?_
    rw [hsl] at e1 ⊢
    exact kk H' _ ⟨_, e1, q2, q3, t_set q4 hap hk v⟩ e2 e3 ⟨_, rfl⟩
end FLD
theorem pm_at_obj {D : va_G} {aC : Nat → ClassId} {z : Nat} {h : pm_H} {H : Heap} {k ci : Nat} {C : String} {T : u_T} {N : Nat} (hq : vwCl[ci]? = some (C, T, N)) (h1 : (h.2.2.1 k).1 = 16 + ci) : pm_at D aC z h H k ↔ (N = (h.2.2.1 k).2 ∧ t_OB (z + k) (D.1 ci) N (D.2 ci) H (pm_v z h k)) := by
  constructor
  · intro g
    obtain ⟨r, g1, g2, g3⟩ := g.2 ci h1
    rw [hq] at g1
    cases g1
    exact ⟨g2, g3⟩
  · intro g
    refine ⟨fun hl => absurd hl (by omega), fun ci' h' => ?_⟩
    have : ci' = ci := by omega
    subst this
    exact ⟨_, hq, g.1, g.2⟩
theorem pm_at_arr {D : va_G} {aC : Nat → ClassId} {z : Nat} {h : pm_H} {H : Heap} {k t : Nat} (ht : t < 16) (h1 : (h.2.2.1 k).1 = t) : pm_at D aC z h H k ↔ H[z + k]? = some (arrV (aC t) (h.2.2.1 k).2 (pm_v z h k)) := by
  constructor
  · intro g
    have := g.1 (by omega)
    rw [h1] at this
    exact this
  · intro g
    exact ⟨fun _ => by rw [h1]; exact g, fun ci h' => by omega⟩
section OPF
variable {cc : ByteArray} {nL : Nat} {own nm : String} {ret : Option FieldType} {Y : Nat → pm_N} {b : Nat → Nat} {i x : Nat}
theorem so_geti {ci k idx N : Nat} {C : String} {T : u_T} (hq : vwCl[ci]? = some (C, T, N)) (hk : k < N) (ho : (T k).1 = C) (hr : pm_rf (pm_ft (16 + ci) k) = false) (hl : pm_fl own idx C (T k).2.1 (T k).2.2.1) (hd : decode cc (b i) = .ok (.getfield idx, 3)) (hx : b x = b i + 3) : pm_S cc nL own nm ret Y b i (pm_geti x ci k) := by
  intro p l e R s m args below meth c Q D aC z bS X lc st h o ho'
  unfold pm_geti at ho'
  split at ho'
  · split at ho'
    · rename_i a st' hobj
      cases ho'
      obtain ⟨g1, g2, g3⟩ := pm_obj_spec hobj
      refine pm_keep fun H locs ls kc ks hL hkc hks kk => ?_
      have kk := kk ls hL.2.2
      rw [hx] at kk
      have hat := ((pm_at_obj hq g2).mp (hL.1.2 a g1)).2
      refine pm_Wget X hq hk ho hl hat hd ?_
      rw [pm_v_i (by rw [g2]; exact hr)]
      exact kk
    · cases ho'
  · cases ho'
theorem so_getr {ci k idx N : Nat} {C : String} {T : u_T} (hq : vwCl[ci]? = some (C, T, N)) (hk : k < N) (ho : (T k).1 = C) (hr : pm_rf (pm_ft (16 + ci) k) = true) (hl : pm_fl own idx C (T k).2.1 (T k).2.2.1) (hd : decode cc (b i) = .ok (.getfield idx, 3)) (hx : b x = b i + 3) : pm_S cc nL own nm ret Y b i (pm_getr x ci k) := by
  intro p l e R s m args below meth c Q D aC z bS X lc st h o ho'
  unfold pm_getr at ho'
  split at ho'
  · split at ho'
    · rename_i a st' hobj
      split at ho'
      · rename_i r hrr
        cases ho'
        obtain ⟨g1, g2, g3⟩ := pm_obj_spec hobj
        refine pm_keep fun H locs ls kc ks hL hkc hks kk => ?_
        have kk := kk ls hL.2.2
        rw [hx] at kk
        have hat := ((pm_at_obj hq g2).mp (hL.1.2 a g1)).2
        refine pm_Wget X hq hk ho hl hat hd ?_
        rw [pm_v_r (by rw [g2]; exact hr) hrr]
        exact kk
      · cases ho'
    · cases ho'
  · cases ho'
theorem pm_puts {p : Program} {l : Launch} {e : Env} {R : Room} {s : State} {m : MethodId} {args : Array Value} {below : List Frame} {meth : Method} {c : Code} {Q : State → Prop} {D : va_G} {aC : Nat → ClassId} {z bS : Nat} (X : pm_X p R s m meth c cc nL own nm D aC z) {ci k idx N : Nat} {C : String} {T : u_T} (hq : vwCl[ci]? = some (C, T, N)) (hk : k < N) (ho : (T k).1 = C) (hl : pm_fw own nm idx C (T k)) (hd : decode cc (b i) = .ok (.putfield idx, 3)) (hx : b x = b i + 3)
    {lc st : List Value} {h h' : pm_H} {a : Nat} {v : Value} (g1 : a < h.1) (g2 : (h.2.2.1 a).1 = 16 + ci) (h1 : h'.1 = h.1) (h2 : h'.2.1 = h.2.1) (h3 : h'.2.2.1 = h.2.2.1) (hn : narrow (pm_ft (16 + ci) k) (pm_t z bS v) = pm_t z bS v) (hfit : fits (pm_ft (16 + ci) k) (pm_t z bS v) = true) (hv : ∀ j, j ≠ a → pm_v z h' j = pm_v z h j) (hu : updV (pm_v z h a) k (pm_t z bS v) = pm_v z h' a) : pm_SN p l e R s m args below meth c Q D aC z bS nL b i lc (v :: .ref a :: st) h (x, lc, st, h') := by
  refine pm_put h1 h2 fun H locs ls kc ks hL kk => ?_
  rw [hx] at kk
  obtain ⟨hN, hat⟩ := (pm_at_obj hq g2).mp (hL.1.2 a g1)
  refine pm_Wput X hq hk ho hl hat hn hfit hd (fun H1 locs1 hob hz oq hlo => ?_)
  obtain ⟨w, rfl⟩ := hlo
  refine kk H1 _ (hL.1.set h1 h3 hv hz oq ?_) (hL.2.1.put hz oq (Nat.le_add_right z a))
  refine (pm_at_obj hq (by rw [h3]; exact g2)).mpr ⟨by rw [h3]; exact hN, ?_⟩
  rw [← hu]
  exact hob
theorem pm_v_sA {z : Nat} {h : pm_H} {a k : Nat} {v : Int32} : (∀ j, j ≠ a → pm_v z (pm_sA h a k v) j = pm_v z h j) ∧ (pm_rf (pm_ft (h.2.2.1 a).1 k) = false → updV (pm_v z h a) k (.int v) = pm_v z (pm_sA h a k v) a) := by
  refine ⟨fun j hj => ?_, fun h0 => ?_⟩
  · funext q
    simp [pm_v, pm_sA, pm_u, hj]
  · funext q
    by_cases hqk : q = k
    · subst hqk
      simp [updV, pm_v, pm_sA, pm_u, h0]
    · simp [updV, pm_v, pm_sA, pm_u, hqk]
theorem pm_v_sP {z : Nat} {h : pm_H} {a k r : Nat} : (∀ j, j ≠ a → pm_v z (pm_sP h a k (some r)) j = pm_v z h j) ∧ (pm_rf (pm_ft (h.2.2.1 a).1 k) = true → updV (pm_v z h a) k (.ref (z + r)) = pm_v z (pm_sP h a k (some r)) a) := by
  refine ⟨fun j hj => ?_, fun h0 => ?_⟩
  · funext q
    simp [pm_v, pm_sP, pm_u, hj]
  · funext q
    by_cases hqk : q = k
    · subst hqk
      simp [updV, pm_v, pm_sP, pm_u, h0, va_rf]
    · simp [updV, pm_v, pm_sP, pm_u, hqk]
theorem so_puti {ci k idx N : Nat} {C : String} {T : u_T} (hq : vwCl[ci]? = some (C, T, N)) (hk : k < N) (ho : (T k).1 = C) (hr : pm_ft (16 + ci) k = .int) (hl : pm_fw own nm idx C (T k)) (hd : decode cc (b i) = .ok (.putfield idx, 3)) (hx : b x = b i + 3) : pm_S cc nL own nm ret Y b i (pm_puti x ci k) := by
  intro p l e R s m args below meth c Q D aC z bS X lc st h o ho'
  unfold pm_puti at ho'
  split at ho'
  · split at ho'
    · rename_i v a st' hobj
      cases ho'
      obtain ⟨g1, g2, g3⟩ := pm_obj_spec hobj
      exact pm_puts X hq hk ho hl hd hx g1 g2 rfl rfl rfl (by rw [hr]; rfl) (by rw [hr]; rfl) pm_v_sA.1 (pm_v_sA.2 (by rw [g2, hr]; rfl))
    · cases ho'
  · cases ho'
theorem so_putz {ci k idx N : Nat} {C : String} {T : u_T} (hq : vwCl[ci]? = some (C, T, N)) (hk : k < N) (ho : (T k).1 = C) (hr : pm_ft (16 + ci) k = .boolean) (hl : pm_fw own nm idx C (T k)) (hd : decode cc (b i) = .ok (.putfield idx, 3)) (hx : b x = b i + 3) : pm_S cc nL own nm ret Y b i (pm_putz x ci k) := by
  intro p l e R s m args below meth c Q D aC z bS X lc st h o ho'
  unfold pm_putz at ho'
  split at ho'
  · split at ho'
    · rename_i v a st' hobj
      cases ho'
      rw [Bool.and_eq_true] at hobj
      obtain ⟨g1, g2, g3⟩ := pm_obj_spec hobj.1
      have hv := hobj.2
      simp only [Bool.or_eq_true, beq_iff_eq] at hv
      exact pm_puts X hq hk ho hl hd hx g1 g2 rfl rfl rfl (by rw [hr]; rcases hv with rfl | rfl <;> rfl) (by rw [hr]; rcases hv with rfl | rfl <;> rfl) pm_v_sA.1 (pm_v_sA.2 (by rw [g2, hr]; rfl))
    · cases ho'
  · cases ho'
theorem so_putr {ci k idx N : Nat} {C : String} {T : u_T} (hq : vwCl[ci]? = some (C, T, N)) (hk : k < N) (ho : (T k).1 = C) (hr : pm_rf (pm_ft (16 + ci) k) = true) (hl : pm_fw own nm idx C (T k)) (hd : decode cc (b i) = .ok (.putfield idx, 3)) (hx : b x = b i + 3) : pm_S cc nL own nm ret Y b i (pm_putr x ci k) := by
  intro p l e R s m args below meth c Q D aC z bS X lc st h o ho'
  unfold pm_putr at ho'
  split at ho'
  · split at ho'
    · rename_i r a st' hobj
      cases ho'
      obtain ⟨g1, g2, g3⟩ := pm_obj_spec hobj
      have hn : narrow (pm_ft (16 + ci) k) (.ref (z + r)) = .ref (z + r) := by
        revert hr; cases pm_ft (16 + ci) k <;> intro hr <;> first | rfl | cases hr
      have hfit : fits (pm_ft (16 + ci) k) (.ref (z + r)) = true := by
        revert hr; cases pm_ft (16 + ci) k <;> intro hr <;> first | rfl | cases hr
      exact pm_puts X hq hk ho hl hd hx g1 g2 rfl rfl rfl hn hfit pm_v_sP.1 (pm_v_sP.2 (by rw [g2]; exact hr))
    · cases ho'
  · cases ho'
-- ===== arrays =====
theorem so_iald (hd : decode cc (b i) = .ok (.iaload, 1)) (hx : b x = b i + 1) : pm_S cc nL own nm ret Y b i (pm_iald x 0) := by
  intro p l e R s m args below meth c Q D aC z bS X lc st h o ho'
  unfold pm_iald at ho'
  split at ho'
  · split at ho'
    · rename_i j a st' harr
      cases ho'
      obtain ⟨g1, g2, g3⟩ := pm_arr_spec harr
      refine pm_keep fun H locs ls kc ks hL hkc hks kk => ?_
      have kk := kk ls hL.2.2
      rw [hx] at kk
      have hat := (pm_at_arr (by omega) g2).mp (hL.1.2 a g1)
      have hlt : j.toNatClampNeg < (h.2.2.1 a).2 := Nat.not_le.mp fun q => g3 (Or.inr q)
      exact W.iald (v := .int (h.2.2.2.1 a j.toNatClampNeg)) X.1 X.2.1 hat ((X.2.2.2.2.1.2.2 0 .int rfl).1 _ _) (fun q => by cases q) (by rw [arrV_size]; exact g3) (by rw [arrV_read _ _ hlt, pm_v_i (by rw [g2]; rfl)]) rfl rfl hd kk
    · cases ho'
  · cases ho'
theorem so_zald (hd : decode cc (b i) = .ok (.baload, 1)) (hx : b x = b i + 1) : pm_S cc nL own nm ret Y b i (pm_iald x 1) := by
  intro p l e R s m args below meth c Q D aC z bS X lc st h o ho'
  unfold pm_iald at ho'
  split at ho'
  · split at ho'
    · rename_i j a st' harr
      cases ho'
      obtain ⟨g1, g2, g3⟩ := pm_arr_spec harr
      refine pm_keep fun H locs ls kc ks hL hkc hks kk => ?_
      have kk := kk ls hL.2.2
      rw [hx] at kk
      have hat := (pm_at_arr (by omega) g2).mp (hL.1.2 a g1)
      have hlt : j.toNatClampNeg < (h.2.2.1 a).2 := Nat.not_le.mp fun q => g3 (Or.inr q)
      exact W.zald (v := .int (h.2.2.2.1 a j.toNatClampNeg)) X.1 X.2.1 hat ((X.2.2.2.2.1.2.2 1 .boolean rfl).1 _ _) (fun q => by cases q) (by rw [arrV_size]; exact g3) (by rw [arrV_read _ _ hlt, pm_v_i (by rw [g2]; rfl)]) rfl rfl hd kk
    · cases ho'
  · cases ho'
theorem so_iast (hd : decode cc (b i) = .ok (.iastore, 1)) (hx : b x = b i + 1) : pm_S cc nL own nm ret Y b i (pm_iast x) := by
  intro p l e R s m args below meth c Q D aC z bS X lc st h o ho'
  unfold pm_iast at ho'
  split at ho'
  · split at ho'
    · rename_i v j a st' harr
      cases ho'
      obtain ⟨g1, g2, g3⟩ := pm_arr_spec harr
      refine pm_put rfl rfl fun H locs ls kc ks hL kk => ?_
      rw [hx] at kk
      have hat := (pm_at_arr (by omega) g2).mp (hL.1.2 a g1)
      refine W.iast X.1 X.2.1 hat ((X.2.2.2.2.1.2.2 0 .int rfl).1 _ _) (fun q => by cases q) (by rw [arrV_size]; exact g3) rfl rfl hd fun H1 e1 hz oq => ?_
      refine kk H1 _ (hL.1.set rfl rfl pm_v_sA.1 hz oq ((pm_at_arr (h := pm_sA h a j.toNatClampNeg v) (t := 0) (by omega) g2).mpr ?_)) (hL.2.1.put hz oq (Nat.le_add_right z a))
      rw [e1, arrV_store, pm_v_sA.2 (by rw [g2]; rfl)]
      rfl
    · cases ho'
  · cases ho'
theorem so_zast (hd : decode cc (b i) = .ok (.bastore, 1)) (hx : b x = b i + 1) : pm_S cc nL own nm ret Y b i (pm_zast x) := by
  intro p l e R s m args below meth c Q D aC z bS X lc st h o ho'
  unfold pm_zast at ho'
  split at ho'
  · split at ho'
    · rename_i v j a st' harr
      cases ho'
      obtain ⟨g1, g2, g3⟩ := pm_arr_spec harr
      refine pm_put rfl rfl fun H locs ls kc ks hL kk => ?_
      rw [hx] at kk
      have hat := (pm_at_arr (by omega) g2).mp (hL.1.2 a g1)
      refine W.zast X.1 X.2.1 hat ((X.2.2.2.2.1.2.2 1 .boolean rfl).1 _ _) (fun q => by cases q) (by rw [arrV_size]; exact g3) rfl rfl hd fun H1 e1 hz oq => ?_
      refine kk H1 _ (hL.1.set rfl rfl pm_v_sA.1 hz oq ((pm_at_arr (h := pm_sA h a j.toNatClampNeg (v &&& 1)) (t := 1) (by omega) g2).mpr ?_)) (hL.2.1.put hz oq (Nat.le_add_right z a))
      rw [e1, arrV_store, show narrow .boolean (.int v) = .int (v &&& 1) from rfl, pm_v_sA.2 (by rw [g2]; rfl)]
      rfl
    · cases ho'
  · cases ho'
theorem so_aald {t : Nat} {C : String} (ht : pm_tg[t]? = some (.object C)) (h16 : t < 16) (hr : ∀ j, pm_rf (pm_ft t j) = true) (hd : decode cc (b i) = .ok (.aaload, 1)) (hx : b x = b i + 1) : pm_S cc nL own nm ret Y b i (pm_aald x t) := by
  intro p l e R s m args below meth c Q D aC z bS X lc st h o ho'
  unfold pm_aald at ho'
  split at ho'
  · split at ho'
    · rename_i j a st' harr
      split at ho'
      · rename_i r hrr
        cases ho'
        obtain ⟨g1, g2, g3⟩ := pm_arr_spec harr
        refine pm_keep fun H locs ls kc ks hL hkc hks kk => ?_
        have kk := kk ls hL.2.2
        rw [hx] at kk
        have hat := (pm_at_arr h16 g2).mp (hL.1.2 a g1)
        have hlt : j.toNatClampNeg < (h.2.2.1 a).2 := Nat.not_le.mp fun q => g3 (Or.inr q)
        exact W.aald (v := .ref (z + r)) (ty := .object C) X.1 X.2.1 hat ((X.2.2.2.2.1.2.2 t _ ht).1 _ _) rfl (fun q => by cases q) (by rw [arrV_size]; exact g3) (by rw [arrV_read _ _ hlt, pm_v_r (by rw [g2]; exact hr _) hrr]) rfl rfl hd kk
      · cases ho'
    · cases ho'
  · cases ho'
theorem so_aast {t ci N : Nat} {C : String} {T : u_T} (ht : pm_tg[t]? = some (.object C)) (hq : vwCl[ci]? = some (C, T, N)) (h16 : t < 16) (hr : ∀ j, pm_rf (pm_ft t j) = true) (hd : decode cc (b i) = .ok (.aastore, 1)) (hx : b x = b i + 1) : pm_S cc nL own nm ret Y b i (pm_aast x t ci) := by
  intro p l e R s m args below meth c Q D aC z bS X lc st h o ho'
  unfold pm_aast at ho'
  split at ho'
  · split at ho'
    · rename_i r j a st' harr
      cases ho'
      simp only [Bool.and_eq_true, decide_eq_true_eq, beq_iff_eq] at harr
      obtain ⟨harr, hr1, hr2⟩ := harr
      obtain ⟨g1, g2, g3⟩ := pm_arr_spec harr
      refine pm_put rfl rfl fun H locs ls kc ks hL kk => ?_
      rw [hx] at kk
      have hat := (pm_at_arr h16 g2).mp (hL.1.2 a g1)
      have hlt : j.toNatClampNeg < (h.2.2.1 a).2 := Nat.not_le.mp fun q => g3 (Or.inr q)
      obtain ⟨-, cellV, v1, v2, v3, -⟩ := (pm_at_obj hq hr2).mp (hL.1.2 r hr1)
      have hG := X.2.2.2.2.1
      have hcls := (hG.2.1 ci _ hq).2
      obtain ⟨hAr, ⟨kA, comp, k1, k2, k3, -⟩, -⟩ := hG.2.2 t _ ht
      have hcomp : comp = D.1 ci := Option.some.inj (k3.symm.trans hcls.1)
      subst hcomp
      obtain ⟨kC, hkC, -⟩ := hcls.2
      refine W.aast X.1 X.2.1 hat (fun q h => by cases h) (fun h => by cases h) k1 k2 rfl hkC ⟨fun q => g3 (Or.inl q), by rw [arrV_size]; exact hlt⟩ v1 (fun q h => by rw [v3] at h; cases h) (by rw [v2]; exact hkC) (by rw [v2]; exact va_assign hcls) rfl rfl hd fun H1 e1 hz oq => ?_
      refine kk H1 _ (hL.1.set rfl rfl pm_v_sP.1 hz oq ((pm_at_arr (h := pm_sP h a j.toNatClampNeg (some r)) (t := t) h16 g2).mpr ?_)) (hL.2.1.put hz oq (Nat.le_add_right z a))
      rw [e1, arrV_store, pm_v_sP.2 (by rw [g2]; exact hr _)]
      rfl
    · cases ho'
  · cases ho'
theorem so_alen {t : Nat} {ty : FieldType} (ht : pm_tg[t]? = some ty) (h16 : t < 16) (hd : decode cc (b i) = .ok (.arraylength, 1)) (hx : b x = b i + 1) : pm_S cc nL own nm ret Y b i (pm_alen x t) := by
  intro p l e R s m args below meth c Q D aC z bS X lc st h o ho'
  unfold pm_alen at ho'
  split at ho'
  · split at ho'
    · rename_i a st' harr
      cases ho'
      simp only [Bool.and_eq_true, decide_eq_true_eq, beq_iff_eq] at harr
      obtain ⟨g1, g2⟩ := harr
      refine pm_keep fun H locs ls kc ks hL hkc hks kk => ?_
      have kk := kk ls hL.2.2
      rw [hx] at kk
      have hat := (pm_at_arr h16 g2).mp (hL.1.2 a g1)
      exact W.alen (n := Int32.ofNat (h.2.2.1 a).2) X.1 X.2.1 hat ((X.2.2.2.2.1.2.2 t _ ht).1 _ _) (by rw [arrV_size] <;> rfl) rfl rfl hd kk
    · cases ho'
  · cases ho'
end OPF
end
section
-- ===== new cells =====
theorem pm_W.push {D : va_G} {aC : Nat → ClassId} {z : Nat} {h : pm_H} {H H1 : Heap} {t n : Nat} (hW : pm_W D aC z h H) (hz : H1.size = H.size + 1) (o1 : ∀ q : Nat, q < H.size → H1[q]? = H[q]?) (hc : pm_at D aC z (pm_new h t n) H1 h.1) : pm_W D aC z (pm_new h t n) H1 := by
  refine ⟨by rw [hz, hW.1]; show z + h.1 + 1 = z + (h.1 + 1); omega, fun k hk => ?_⟩
  by_cases hkn : k = h.1
  · rw [hkn]; exact hc
  · have hk' : k < h.1 := by
      have : k < h.1 + 1 := hk
      omega
    have hat := hW.2 k hk'
    have hq : H1[z + k]? = H[z + k]? := o1 _ (by rw [hW.1]; omega)
    have e1 : (pm_new h t n).2.2.1 k = h.2.2.1 k := by simp [pm_new, va_up, hkn]
    have e2 : pm_v z (pm_new h t n) k = pm_v z h k := by
      funext j
      simp [pm_v, pm_new, va_up, pm_row, hkn]
    refine ⟨fun hl => ?_, fun ci hci => ?_⟩
    · rw [hq, e1, e2]
      exact hat.1 (by rw [← e1]; exact hl)
    · obtain ⟨r, g1, g2, g3⟩ := hat.2 ci (by rw [← e1]; exact hci)
      exact ⟨r, g1, by rw [e1]; exact g2, by rw [e2]; exact g3.kept hq⟩
theorem pm_S_push {z : Nat} {s : State} {H H1 : Heap} {locs : List Loc} (hS : va_S (fun q => z ≤ q) s.heap H locs) (hz : H1.size = H.size + 1) (o1 : ∀ q : Nat, q < H.size → H1[q]? = H[q]?) : va_S (fun q => z ≤ q) s.heap H1 locs := ⟨Nat.le_trans hS.1 (by omega), fun q h1 h2 => (o1 q (Nat.lt_of_lt_of_le h1 hS.1)).trans (hS.2.1 q h1 h2), hS.2.2⟩
theorem pm_newk {h : pm_H} {t n : Nat} : (pm_new h t n).2.2.1 h.1 = (t, n) := by simp [pm_new, va_up]
theorem pm_newv {z : Nat} {h : pm_H} {t n j : Nat} : pm_v z (pm_new h t n) h.1 j = if pm_rf (pm_ft t j) then .null else .int 0 := by
  simp [pm_v, pm_new, va_up, pm_row, va_rf]
section OPN
variable {cc : ByteArray} {nL : Nat} {own nm : String} {ret : Option FieldType} {Y : Nat → pm_N} {b : Nat → Nat} {i x : Nat}
theorem pm_mkn {p : Program} {l : Launch} {e : Env} {R : Room} {s : State} {m : MethodId} {args : Array Value} {below : List Frame} {meth : Method} {c : Code} {Q : State → Prop} {D : va_G} {aC : Nat → ClassId} {z bS : Nat} {lc st st' : List Value} {h : pm_H} {t n : Nat}
    (k : ∀ (H : Heap) (locs : List Loc) (ls : Array Slot) (kc ks : Nat), pm_W D aC z h H → kc + 1 ≤ R.cells → ks + n ≤ R.slots → (∀ H1 : Heap, H1.size = H.size + 1 → (∀ q : Nat, q < H.size → H1[q]? = H[q]?) → pm_at D aC z (pm_new h t n) H1 h.1 → W p l e R s m args below meth c H1 locs (kc + 1) (ks + n) Q (F0 m (b x) ls (st'.map (pm_t z bS)))) → W p l e R s m args below meth c H locs kc ks Q (F0 m (b i) ls (st.map (pm_t z bS)))) :
    pm_SN p l e R s m args below meth c Q D aC z bS nL b i lc st h (x, lc, st', pm_new h t n) := by
  have e1 : (pm_new h t n).1 - h.1 = 1 := by show h.1 + 1 - h.1 = 1; omega
  have e2 : (pm_new h t n).2.1 - h.2.1 = n := by show h.2.1 + n - h.2.1 = n; omega
  refine ⟨⟨by show h.1 ≤ h.1 + 1; omega, by show h.2.1 ≤ h.2.1 + n; omega⟩, fun H locs ls kc ks hL g1 g2 kk => ?_⟩
  simp only [e1, e2] at g1 g2 kk
  exact k H locs ls kc ks hL.1 g1 g2 (fun H1 hz o1 hat => kk H1 locs ls ⟨hL.1.push hz o1 hat, pm_S_push hL.2.1 hz o1, hL.2.2⟩)
theorem so_newo {ci idx N : Nat} {C : String} {T : u_T} (hq : vwCl[ci]? = some (C, T, N)) (hdf : ∀ k, k < N → defaultValue (pm_ft (16 + ci) k) = if pm_rf (pm_ft (16 + ci) k) then .null else .int 0) (hcl : Cond.classLink own idx C ∈ lw_tbl) (hin : Cond.instantiable C N ∈ lw_tbl) (hini : Cond.initialized C ∈ lw_tbl) (hd : decode cc (b i) = .ok (.new idx, 3)) (hx : b x = b i + 3) : pm_S cc nL own nm ret Y b i (pm_newo x ci N) := by
  intro p l e R s m args below meth c Q D aC z bS X lc st h o ho'
  cases ho'
  refine pm_mkn fun H locs ls kc ks hW hkc hks kk => ?_
  rw [hx] at kk
  have hG := X.2.2.2.2.1
  have hKn := hG.2.1 ci _ hq
  have hts : ∀ w ∈ u_ws C T N, w.before args s = true := fun w hw => pm_word hG (pm_cF ci _ hq w hw).1 (pm_cF ci _ hq w hw).2
  refine W.newcK X.1 X.2.1 X.2.2.2.1 (pm_word hG hcl rfl) (pm_word hG hin rfl) (pm_word hG hini rfl) rfl hd hkc hks hKn.2.1 hW.1 fun H1 kC hkC e1 z1 o1 => ?_
  refine kk H1 (by rw [z1, hW.1]) (fun q hq' => o1 q (by rw [← hW.1]; exact hq')) ((pm_at_obj hq (by rw [pm_newk])).mpr ⟨by rw [pm_newk], ?_⟩)
  exact (u_born (pm_ft (16 + ci)) hts (fun _ h => h) hKn hkC e1 (fun k hk => pm_cT ci _ hq k hk)).to (fun k hk => by rw [pm_newv]; exact hdf k hk)
theorem pm_newprim {ty : FieldType} {atype : ArrayType} {t : Nat} (hty : newarray.typeOf atype = ty) (ht : pm_tg[t]? = some ty) (h16 : t < 16) (hft : ∀ j, pm_ft t j = ty) (hra : ∀ (U : State) (cA : ClassId), va_RA U cA ty → U.vm.findClass ("[" ++ ty.toString) = some cA) (hmk : ∀ U : State, pm_mk ty U → (Cond.arrayClass ty).before #[] U = true) (hdv : defaultValue ty = if pm_rf ty then .null else .int 0) (hbt : componentBytes ty ≤ 4) (hd : decode cc (b i) = .ok (.newarray atype, 2)) (hx : b x = b i + 2) : pm_S cc nL own nm ret Y b i (pm_newa x t) := by
  subst hty
  intro p l e R s m args below meth c Q D aC z bS X lc st h o ho'
  unfold pm_newa at ho'
  split at ho'
  · split at ho'
    · cases ho'
    · rename_i n st' hn
      cases ho'
      simp only [Bool.or_eq_true, decide_eq_true_eq, not_or] at hn
      refine pm_mkn fun H locs ls kc ks hW hkc hks kk => ?_
      rw [hx] at kk
      obtain ⟨a1, a2, a3⟩ := X.2.2.2.2.1.2.2 t _ ht
      refine va_newaK X.1 X.2.1 (word_at (State.WarmedH.refl s) (Or.inr ⟨_, rfl⟩) (hmk s a3)) rfl hd rfl hn.1 rfl ?_ hkc hks hW.1 fun H1 cA e1 z1 o1 _ hNm => ?_
      · have h1 := hn.2
        have h2 := Nat.mul_le_mul (Nat.not_lt.mp h1) hbt
        omega
      · have hcA : cA = aC t := Option.some.inj (hNm.symm.trans (hra _ _ a2))
        subst hcA
        refine kk H1 (by rw [z1, hW.1]) (fun q hq' => o1 q (by rw [← hW.1]; exact hq')) ((pm_at_arr (t := t) h16 (by rw [pm_newk])).mpr ?_)
        rw [e1, pm_newk]
        congr 2
        funext j
        rw [pm_newv, hft, hdv]
  · cases ho'
theorem so_newi (hd : decode cc (b i) = .ok (.newarray .int, 2)) (hx : b x = b i + 2) : pm_S cc nL own nm ret Y b i (pm_newa x 0) := pm_newprim (ty := .int) rfl rfl (by decide) (fun _ => rfl) (fun _ _ h => h) (fun _ h => h) rfl (by decide) hd hx
theorem so_newz (hd : decode cc (b i) = .ok (.newarray .boolean, 2)) (hx : b x = b i + 2) : pm_S cc nL own nm ret Y b i (pm_newa x 1) := pm_newprim (ty := .boolean) rfl rfl (by decide) (fun _ => rfl) (fun _ _ h => h) (fun _ h => h) rfl (by decide) hd hx
theorem so_anew {t idx : Nat} {C : String} (ht : pm_tg[t]? = some (.object C)) (h16 : t < 16) (hft : ∀ j, pm_ft t j = .object C) (hcl : Cond.classLink own idx C ∈ lw_tbl) (hd : decode cc (b i) = .ok (.anewarray idx, 3)) (hx : b x = b i + 3) : pm_S cc nL own nm ret Y b i (pm_newa x t) := by
  intro p l e R s m args below meth c Q D aC z bS X lc st h o ho'
  unfold pm_newa at ho'
  split at ho'
  · split at ho'
    · cases ho'
    · rename_i n st' hn
      cases ho'
      simp only [Bool.or_eq_true, decide_eq_true_eq, not_or] at hn
      refine pm_mkn fun H locs ls kc ks hW hkc hks kk => ?_
      rw [hx] at kk
      obtain ⟨a1, a2, a3⟩ := X.2.2.2.2.1.2.2 t _ ht
      refine W.anew X.1 X.2.1 X.2.2.2.1 (pm_word X.2.2.2.2.1 hcl rfl) (va_AO.use a3) rfl hd rfl hn.1 (by omega) hkc hks fun cA kA comp f1 f2 f3 f4 => ?_
      obtain ⟨kA', comp', -, -, -, k4⟩ := a2
      have hcA : cA = aC t := Option.some.inj (f1.symm.trans k4)
      subst hcA
      rw [hW.1]
      refine kk _ (by rw [Array.size_push]) (fun q hq' => by rw [Array.getElem?_push, if_neg (Nat.ne_of_lt hq')]) ((pm_at_arr (t := t) h16 (by rw [pm_newk])).mpr ?_)
      rw [← hW.1, Array.getElem?_push_size, arrV_new, pm_newk]
      congr 2
      funext j
      rw [pm_newv, hft]
      rfl
  · cases ho'
end OPN
-- ===== calls =====
theorem pm_blind {D : va_G} {aC : Nat → ClassId} {z bS : Nat} {a : List Value} {h : pm_H} : FrameBlind (pm_Pc D aC z bS a h) := by
  intro v U g mk q
  obtain ⟨q0, q1, q2⟩ := q
  exact ⟨q0, q1, q2.moved (U := U.calling g mk v) (State.WarmedH.refl U)⟩
theorem pm_pre {D : va_G} {aC : Nat → ClassId} {z bS : Nat} {a : List Value} {h : pm_H} {s : State} {H : Heap} (hG : pm_G D aC s) (hW : pm_W D aC z h H) : ∀ U : State, U.heap = H → s.WarmedH U.vm → pm_Pc D aC z bS a h (a.map (pm_t z bS)).toArray U := fun U hU hw => ⟨rfl, by rw [hU]; exact hW, hG.moved hw⟩
theorem pm_cat_t {z bS : Nat} (st : List Value) : ((st.map (pm_t z bS)).map fun v => v.category).sum = pm_cat st := by
  unfold pm_cat
  rw [List.map_map]
  congr 1
  apply List.map_congr_left
  intro v _
  cases v <;> rfl
section RUN
variable {p : Program} {l : Launch} {e : Env} {R : Room} {s : State} {m : MethodId} {args : Array Value} {below : List Frame} {meth : Method} {c : Code} {H : Heap} {locs : List Loc} {cells slots : Nat} {Q : State → Prop}
theorem pm_back {D : va_G} {aC : Nat → ClassId} {z bS mc ms pc : Nat} {ls : Array Slot} {st0 rest : List Value} {h' : pm_H} {v : Option Value} {a0 : Array Value} (hr : va_Run p l e R s m args below meth c H locs cells slots mc ms (F0 m pc ls st0) rest (pm_Qc D aC z bS h' v a0) (fun q => z ≤ q)) (hS : va_S (fun q => z ≤ q) s.heap H locs)
    (kk : ∀ (H' : Heap) (locs' : List Loc), pm_W D aC z h' H' → va_S (fun q => z ≤ q) s.heap H' locs' → W p l e R s m args below meth c H' locs' (cells + mc) (slots + ms) Q (F0 m (pc + 3) ls ((v.map (pm_t z bS)).toList ++ rest))) : W p l e R s m args below meth c H locs cells slots Q (F0 m pc ls st0) := by
  intro T hT X
  obtain ⟨v', st₀, t, T', L, h0, X', hL, e1, e2, ⟨hv, hw, hz, hk⟩, st⟩ := hr T hT X
  cases hv
  rw [h0] at hz hk
  obtain ⟨t2, a1, b1⟩ := kk T'.heap (locs ++ L) (by rw [e1]; exact hw)
    ⟨Nat.le_trans hS.1 (by rw [e1]; exact hz), fun q h1 h2 => by rw [e1, hk q (Nat.lt_of_lt_of_le h1 hS.1) h2]; exact hS.2.1 q h1 h2, fun q hq => by
      rcases List.mem_append.mp hq with h | h
      · exact hS.2.2 q h
      · exact hL q h⟩ T' rfl X'
  exact ⟨t2, st t2 a1, b1⟩
end RUN
def pm_ml (own : String) (idx : Nat) (y : MethodName) : Prop := Cond.methodLink own idx y ∈ lw_tbl ∨ ∃ host, Cond.methodLinkNest own idx y host ∈ lw_tbl
def pm_yd (y : MethodName) (n : Nat) : Prop := y.cls ≠ "java/lang/invoke/MethodHandle" ∧ y.cls ≠ "java/lang/invoke/VarHandle" ∧ (parseMethodDescriptor y.desc).map (fun d => d.parameters.length) = some n
theorem pm_calls_spec {x mid n : Nat} {lc st : List Value} {h : pm_H} {o : pm_O} (ho : pm_calls x mid n lc st h = some o) : o = .inr (.inr (mid, (st.take n).reverse, (x, lc, st.drop n, h))) ∧ n ≤ st.length ∧ pm_cat (st.drop n) ≤ 8 := by
  unfold pm_calls at ho
  split at ho
  · rename_i hq
    cases ho
    simp only [Bool.and_eq_true, decide_eq_true_eq] at hq
    exact ⟨rfl, hq.1, hq.2⟩
  · cases ho
section OPC
variable {cc : ByteArray} {nL : Nat} {own nm : String} {ret : Option FieldType} {Y : Nat → pm_N} {b : Nat → Nat} {i x : Nat}
theorem so_callv {mid n ci idx mL N : Nat} {y : MethodName} {bytes : ByteArray} {rt : Option FieldType} {T : u_T} (hY : Y mid = (y, bytes, mL, rt)) (hq : vwCl[ci]? = some (y.cls, T, N)) (hcode : Cond.code y bytes mL rt ∈ lw_tbl) (hini : Cond.initialized y.cls ∈ lw_tbl) (hins : Cond.instanceMethod y ∈ lw_tbl) (hsel : Cond.selects y.cls y y ∈ lw_tbl) (hl : pm_ml own idx y) (hyd : pm_yd y n) (hm : mL ≤ 11) (hd : decode cc (b i) = .ok (.invokevirtual idx, 3)) (hx : b x = b i + 3) : pm_S cc nL own nm ret Y b i (pm_callv x mid (n + 1) ci) := by
  intro p l e R s m args below meth c Q D aC z bS X lc st h o ho
  unfold pm_callv at ho
  split at ho
  · rename_i k As hargs
    split at ho
    · rename_i hk
      simp only [Bool.and_eq_true, decide_eq_true_eq, beq_iff_eq] at hk
      obtain ⟨rfl, hlen, hcat⟩ := pm_calls_spec ho
      refine ⟨rfl, fun d h' v hf hlo hM H locs ls kc ks hL hc hs kk => ?_⟩
      rw [hY] at hM
      dsimp only at hM hc hs kk
      rw [hargs] at hM
      rw [hx] at kk
      have hst : st = As.reverse ++ .ref k :: st.drop (n + 1) := by
        have h1 : st.take (n + 1) = As.reverse ++ [.ref k] := by rw [← List.reverse_reverse (st.take (n + 1)), hargs, List.reverse_cons]
        have h2 : st = st.take (n + 1) ++ st.drop (n + 1) := (List.take_append_drop _ _).symm
        rw [h1] at h2
        simpa using h2
      have hAs : (As.map (pm_t z bS)).length = n := by
        have h1 := congrArg List.length hargs
        simp only [List.length_reverse, List.length_take, List.length_cons] at h1
        rw [List.length_map]
        omega
      have hG := X.2.2.2.2.1
      obtain ⟨-, cellB, v1, v2, v3, -⟩ := (pm_at_obj hq hk.2).mp (hL.1.2 k hk.1)
      have hrec : ∃ cellB : Cell, H[z + k]? = some cellB ∧ cellB.vm.isStatics = false ∧ s.vm.findClass y.cls = some cellB.cls := ⟨cellB, v1, by rw [v3]; rfl, by rw [v2]; exact (hG.2.1 ci _ hq).2.1⟩
      have hpre := pm_pre (bS := bS) (a := .ref k :: As) hG hL.1
      have ht : ∀ w ∈ [Cond.code y bytes mL rt], w.before args s = true := fun w hw => by rw [List.mem_singleton.mp hw]; exact pm_word hG hcode rfl
      have hGi : GoodIn [Cond.code y bytes mL rt] [Cond.code y bytes mL rt] := fun w hw => ⟨hw, by rw [List.mem_singleton.mp hw]; exact Or.inl rfl⟩
      have hroom : (pm_rm d (h'.1 - h.1) (h'.2.1 - h.2.1)).frames + 1 ≤ R.frames ∧ 8 + (mL + 11) + (pm_rm d (h'.1 - h.1) (h'.2.1 - h.2.1)).locals ≤ R.locals := by
        simp only [pm_rm]
        omega
      have hcat' : ((((st.drop (n + 1)).map (pm_t z bS)).map fun v => v.category).sum) ≤ 8 := by rw [pm_cat_t]; exact hcat
      have hgo : va_Run p l e R s m args below meth c H locs kc ks (h'.1 - h.1) (h'.2.1 - h.2.1) (F0 m (b i) ls (st.map (pm_t z bS))) ((st.drop (n + 1)).map (pm_t z bS)) (pm_Qc D aC z bS h' v (Value.ref (z + k) :: As.map (pm_t z bS)).toArray) (fun q => z ≤ q) := by
        have hstk : st.map (pm_t z bS) = (As.map (pm_t z bS)).reverse ++ .ref (z + k) :: (st.drop (n + 1)).map (pm_t z bS) := by
          conv => lhs; rw [hst]
          rw [List.map_append, List.map_reverse]
          rfl
        rcases hl with hl | ⟨host, hl⟩
        · exact va_runV (C := y.cls) ⟨X.1, X.2.1, X.2.2.1, X.2.2.2.1, ht⟩ hM.2 ⟨callB_of n ht hGi rfl rfl rfl (pm_word hG hini rfl) (pm_word hG hl rfl) hyd hroom, pm_word hG hins rfl, pm_word hG hsel rfl⟩ ⟨pm_blind, hrec, hpre⟩ rfl hAs hL.2.2.1 hstk (lv_room hcat') hd ⟨hc, hs⟩
        · exact va_runVN (C := y.cls) ⟨X.1, X.2.1, X.2.2.1, X.2.2.2.1, ht⟩ hM.2 ⟨va_cnB n ht hGi rfl rfl rfl (hG.1 _ hl rfl) (pm_word hG hini rfl) hyd hroom, pm_word hG hins rfl, pm_word hG hsel rfl⟩ ⟨pm_blind, hrec, hpre⟩ rfl hAs hL.2.2.1 hstk (lv_room hcat') hd ⟨hc, hs⟩
      refine pm_back hgo hL.2.1 (fun H' locs' hW hS => ?_)
      have k2 := kk H' locs' ⟨hW, hS, hL.2.2⟩
      rw [List.map_append] at k2
      cases v <;> exact k2
    · cases ho
  · cases ho
theorem so_callc {mid n idx mL : Nat} {y : MethodName} {bytes : ByteArray} (hY : Y mid = (y, bytes, mL, none)) (hyn : y.name = "<init>") (hcode : Cond.code y bytes mL none ∈ lw_tbl) (hini : Cond.initialized y.cls ∈ lw_tbl) (hins : Cond.instanceMethod y ∈ lw_tbl) (hl : pm_ml own idx y) (hyd : pm_yd y n) (hm : mL ≤ 11) (hd : decode cc (b i) = .ok (.invokespecial idx, 3)) (hx : b x = b i + 3) : pm_S cc nL own nm ret Y b i (pm_callc x mid (n + 1)) := by
  intro p l e R s m args below meth c Q D aC z bS X lc st h o ho
  unfold pm_callc at ho
  split at ho
  · rename_i k As hargs
    obtain ⟨rfl, hlen, hcat⟩ := pm_calls_spec ho
    refine ⟨rfl, fun d h' v hf hlo hM H locs ls kc ks hL hc hs kk => ?_⟩
    rw [hY] at hM
    dsimp only at hM hc hs kk
    rw [hargs] at hM
    rw [hx] at kk
    have hst : st = As.reverse ++ .ref k :: st.drop (n + 1) := by
      have h1 : st.take (n + 1) = As.reverse ++ [.ref k] := by rw [← List.reverse_reverse (st.take (n + 1)), hargs, List.reverse_cons]
      have h2 : st = st.take (n + 1) ++ st.drop (n + 1) := (List.take_append_drop _ _).symm
      rw [h1] at h2
      simpa using h2
    have hAs : (As.map (pm_t z bS)).length = n := by
      have h1 := congrArg List.length hargs
      simp only [List.length_reverse, List.length_take, List.length_cons] at h1
      rw [List.length_map]
      omega
    have hG := X.2.2.2.2.1
    have hpre := pm_pre (bS := bS) (a := .ref k :: As) hG hL.1
    have ht : ∀ w ∈ [Cond.code y bytes mL none], w.before args s = true := fun w hw => by rw [List.mem_singleton.mp hw]; exact pm_word hG hcode rfl
    have hGi : GoodIn [Cond.code y bytes mL none] [Cond.code y bytes mL none] := fun w hw => ⟨hw, by rw [List.mem_singleton.mp hw]; exact Or.inl rfl⟩
    have hroom : (pm_rm d (h'.1 - h.1) (h'.2.1 - h.2.1)).frames + 1 ≤ R.frames ∧ 8 + (mL + 11) + (pm_rm d (h'.1 - h.1) (h'.2.1 - h.2.1)).locals ≤ R.locals := by
      simp only [pm_rm]
      omega
    have hcat' : ((((st.drop (n + 1)).map (pm_t z bS)).map fun v => v.category).sum) ≤ 8 := by rw [pm_cat_t]; exact hcat
    have hgo : va_Run p l e R s m args below meth c H locs kc ks (h'.1 - h.1) (h'.2.1 - h.2.1) (F0 m (b i) ls (st.map (pm_t z bS))) ((st.drop (n + 1)).map (pm_t z bS)) (pm_Qc D aC z bS h' v (Value.ref (z + k) :: As.map (pm_t z bS)).toArray) (fun q => z ≤ q) := by
      have hstk : st.map (pm_t z bS) = (As.map (pm_t z bS)).reverse ++ .ref (z + k) :: (st.drop (n + 1)).map (pm_t z bS) := by
        conv => lhs; rw [hst]
        rw [List.map_append, List.map_reverse]
        rfl
      rcases hl with hl | ⟨host, hl⟩
      · exact va_runI ⟨X.1, X.2.1, X.2.2.1, X.2.2.2.1, ht⟩ hM.2 ⟨callB_of n ht hGi rfl rfl rfl (pm_word hG hini rfl) (pm_word hG hl rfl) hyd hroom, hyn, pm_word hG hins rfl⟩ ⟨pm_blind, hpre⟩ rfl hAs hL.2.2.1 hstk (lv_room hcat') hd ⟨hc, hs⟩
      · exact va_runIN ⟨X.1, X.2.1, X.2.2.1, X.2.2.2.1, ht⟩ hM.2 ⟨va_cnB n ht hGi rfl rfl rfl (hG.1 _ hl rfl) (pm_word hG hini rfl) hyd hroom, hyn, pm_word hG hins rfl⟩ ⟨pm_blind, hpre⟩ rfl hAs hL.2.2.1 hstk (lv_room hcat') hd ⟨hc, hs⟩
    refine pm_back hgo hL.2.1 (fun H' locs' hW hS => ?_)
    have k2 := kk H' locs' ⟨hW, hS, hL.2.2⟩
    rw [List.map_append] at k2
    cases v <;> exact k2
  · cases ho
theorem so_calls {mid n idx mL : Nat} {y : MethodName} {bytes : ByteArray} {rt : Option FieldType} (hY : Y mid = (y, bytes, mL, rt)) (hcode : Cond.code y bytes mL rt ∈ lw_tbl) (hini : Cond.initialized y.cls ∈ lw_tbl) (hstt : Cond.static y ∈ lw_tbl) (hl : pm_ml own idx y) (hyd : pm_yd y n) (hm : mL ≤ 11) (hd : decode cc (b i) = .ok (.invokestatic idx, 3)) (hx : b x = b i + 3) : pm_S cc nL own nm ret Y b i (pm_calls x mid n) := by
  intro p l e R s m args below meth c Q D aC z bS X lc st h o ho
  obtain ⟨rfl, hlen, hcat⟩ := pm_calls_spec ho
  refine ⟨rfl, fun d h' v hf hlo hM H locs ls kc ks hL hc hs kk => ?_⟩
  rw [hY] at hM
  dsimp only at hM hc hs kk
  rw [hx] at kk
  have hAs : (((st.take n).reverse).map (pm_t z bS)).length = n := by
    simp only [List.length_map, List.length_reverse, List.length_take]
    omega
  have hG := X.2.2.2.2.1
  have hpre := pm_pre (bS := bS) (a := (st.take n).reverse) hG hL.1
  have ht : ∀ w ∈ [Cond.code y bytes mL rt], w.before args s = true := fun w hw => by rw [List.mem_singleton.mp hw]; exact pm_word hG hcode rfl
  have hGi : GoodIn [Cond.code y bytes mL rt] [Cond.code y bytes mL rt] := fun w hw => ⟨hw, by rw [List.mem_singleton.mp hw]; exact Or.inl rfl⟩
  have hroom : (pm_rm d (h'.1 - h.1) (h'.2.1 - h.2.1)).frames + 1 ≤ R.frames ∧ 8 + (mL + 11) + (pm_rm d (h'.1 - h.1) (h'.2.1 - h.2.1)).locals ≤ R.locals := by
    simp only [pm_rm]
    omega
  have hcat' : ((((st.drop n).map (pm_t z bS)).map fun v => v.category).sum) ≤ 8 := by rw [pm_cat_t]; exact hcat
  have hgo : va_Run p l e R s m args below meth c H locs kc ks (h'.1 - h.1) (h'.2.1 - h.2.1) (F0 m (b i) ls (st.map (pm_t z bS))) ((st.drop n).map (pm_t z bS)) (pm_Qc D aC z bS h' v (((st.take n).reverse).map (pm_t z bS)).toArray) (fun q => z ≤ q) := by
    have hstk : st.map (pm_t z bS) = (((st.take n).reverse).map (pm_t z bS)).reverse ++ (st.drop n).map (pm_t z bS) := by
      rw [← List.map_reverse, List.reverse_reverse, ← List.map_append, List.take_append_drop]
    rcases hl with hl | ⟨host, hl⟩
    · exact va_runS ⟨X.1, X.2.1, X.2.2.1, X.2.2.2.1, ht⟩ hM.2 ⟨callB_of n ht hGi rfl rfl rfl (pm_word hG hini rfl) (pm_word hG hl rfl) hyd hroom, pm_word hG hstt rfl⟩ ⟨pm_blind, hpre⟩ rfl hAs hL.2.2.1 hstk (lv_room hcat') hd ⟨hc, hs⟩
    · exact va_runSN ⟨X.1, X.2.1, X.2.2.1, X.2.2.2.1, ht⟩ hM.2 ⟨va_cnB n ht hGi rfl rfl rfl (hG.1 _ hl rfl) (pm_word hG hini rfl) hyd hroom, pm_word hG hstt rfl, trivial⟩ ⟨pm_blind, hpre⟩ rfl hAs hL.2.2.1 hstk (lv_room hcat') hd ⟨hc, hs⟩
  refine pm_back hgo hL.2.1 (fun H' locs' hW hS => ?_)
  have k2 := kk H' locs' ⟨hW, hS, hL.2.2⟩
  rw [List.map_append] at k2
  cases v <;> exact k2
end OPC
end
section
section OPM
variable {cc : ByteArray} {nL : Nat} {own nm : String} {ret : Option FieldType} {Y : Nat → pm_N} {b : Nat → Nat} {i x : Nat}
theorem so_oinit {idx : Nat} (hl : Cond.methodLink own idx objectInit ∈ lw_tbl) (hin : Cond.instanceMethod objectInit ∈ lw_tbl) (hcode : Cond.code objectInit ⟨#[0xb1]⟩ 1 none ∈ lw_tbl) (hd : decode cc (b i) = .ok (.invokespecial idx, 3)) (hx : b x = b i + 3) : pm_S cc nL own nm ret Y b i (pm_oinit x) := by
  intro p l e R s m args below meth c Q D aC z bS X lc st h o ho
  unfold pm_oinit at ho
  split at ho
  · split at ho
    · rename_i a st' hcat
      cases ho
      refine pm_keep fun H locs ls kc ks hL hkc hks k => ?_
      have k := k ls hL.2.2
      rw [hx] at k
      have hG := X.2.2.2.2.1
      refine W.objInit X.1 X.2.1 X.2.2.2.1 (pm_word hG hl rfl) (pm_word hG hin rfl) (pm_word hG hcode rfl) rfl (by rw [X.2.2.1]; exact hL.2.2.1) rfl hd X.2.2.2.2.2.2.1 ?_ k
      have h40 := X.2.2.2.2.2.2.2.1
      show 2 * 0 + _ + 12 ≤ R.locals
      rw [pm_cat_t]
      omega
    · cases ho
  · cases ho
theorem so_max {idx : Nat} (hl : Cond.methodLink own idx Lib.Math.max.name ∈ lw_tbl) (hs : Cond.static Lib.Math.max.name ∈ lw_tbl) (hi : Cond.initialized "java/lang/Math" ∈ lw_tbl) (hcode : Cond.code Lib.Math.max.name Lib.Math.max.code 2 (some .int) ∈ lw_tbl) (hd : decode cc (b i) = .ok (.invokestatic idx, 3)) (hx : b x = b i + 3) : pm_S cc nL own nm ret Y b i (pm_max x) := by
  intro p l e R s m args below meth c Q D aC z bS X lc st h o ho
  unfold pm_max at ho
  split at ho
  · split at ho
    · rename_i v w st' hcat
      cases ho
      refine pm_keep fun H locs ls kc ks hL hkc hks k => ?_
      have k := k ls hL.2.2
      rw [hx] at k
      have hG := X.2.2.2.2.1
      refine va_mmax X.1 X.2.1 (by rw [X.2.2.1]; exact hL.2.2.1.symm) X.2.2.2.1 (pm_word hG hl rfl) (pm_word hG hs rfl) (pm_word hG hi rfl) (pm_word hG hcode rfl) X.2.2.2.2.2.2.1 ?_ hkc hks hd k
      have h40 := X.2.2.2.2.2.2.2.1
      rw [pm_cat_t]
      omega
    · cases ho
  · cases ho
theorem so_min {idx : Nat} (hl : Cond.methodLink own idx Lib.Math.min.name ∈ lw_tbl) (hs : Cond.static Lib.Math.min.name ∈ lw_tbl) (hi : Cond.initialized "java/lang/Math" ∈ lw_tbl) (hcode : Cond.code Lib.Math.min.name Lib.Math.min.code 2 (some .int) ∈ lw_tbl) (hd : decode cc (b i) = .ok (.invokestatic idx, 3)) (hx : b x = b i + 3) : pm_S cc nL own nm ret Y b i (pm_min x) := by
  intro p l e R s m args below meth c Q D aC z bS X lc st h o ho
  unfold pm_min at ho
  split at ho
  · split at ho
    · rename_i v w st' hcat
      cases ho
      refine pm_keep fun H locs ls kc ks hL hkc hks k => ?_
      have k := k ls hL.2.2
      rw [hx] at k
      have hG := X.2.2.2.2.1
      refine va_mmin X.1 X.2.1 (by rw [X.2.2.1]; exact hL.2.2.1.symm) X.2.2.2.1 (pm_word hG hl rfl) (pm_word hG hs rfl) (pm_word hG hi rfl) (pm_word hG hcode rfl) X.2.2.2.2.2.2.1 ?_ hkc hks hd k
      have h40 := X.2.2.2.2.2.2.2.1
      rw [pm_cat_t]
      omega
    · cases ho
  · cases ho
theorem pm_nn {w : Int32} (hw : ¬ w < 0) : w.toInt = (w.toNatClampNeg : Int) := by
  have hz0 : (0 : Int) ≤ w.toInt := by
    have := Int32.not_lt.mp hw
    simpa using Int32.le_iff_toInt_le.mp this
  show w.toInt = ((w.toInt.toNat : Nat) : Int)
  omega
theorem so_copy {idx : Nat} (hl : Cond.methodLink own idx arraycopyName ∈ lw_tbl) (hnat : Cond.native arraycopyName ∈ lw_tbl) (hstat : Cond.static arraycopyName ∈ lw_tbl) (hini : Cond.initialized "java/lang/System" ∈ lw_tbl) (hd : decode cc (b i) = .ok (.invokestatic idx, 3)) (hx : b x = b i + 3) : pm_S cc nL own nm ret Y b i (pm_copy x) := by
  intro p l e R s m args below meth c Q D aC z bS X lc st h o ho
  unfold pm_copy at ho
  split at ho
  · split at ho
    · rename_i n dp a sp a0 st' hq
      cases ho
      simp only [Bool.and_eq_true, decide_eq_true_eq, beq_iff_eq, Bool.not_eq_true', Bool.or_eq_false_iff, decide_eq_false_iff_not] at hq
      obtain ⟨⟨⟨⟨⟨c1, c2⟩, d1, d2⟩, s1, s2, s3⟩, l1, l2⟩, hcat⟩ := hq
      refine pm_put rfl rfl fun H locs ls kc ks hL kk => ?_
      rw [hx] at kk
      have hG := X.2.2.2.2.1
      have hA := (hG.2.2 0 .int rfl).1
      have hf : ∀ k, (h.2.2.1 k).1 = 0 → pm_v z h k = fun j => .int (h.2.2.2.1 k j) := fun k hk => by
        funext j
        exact pm_v_i (by rw [hk]; rfl)
      have hc0 := (pm_at_arr (by omega) c2).mp (hL.1.2 a0 c1)
      have hc1 := (pm_at_arr (by omega) d2).mp (hL.1.2 a d1)
      rw [hf a0 c2] at hc0
      rw [hf a d2] at hc1
      intro T hT XX
      obtain ⟨-, k0, hk0, cm0, hkk0⟩ := hA (h.2.2.1 a0).2 (fun j => .int (h.2.2.2.1 a0 j))
      obtain ⟨-, k1, hk1, cm1, hkk1⟩ := hA (h.2.2.1 a).2 (fun j => .int (h.2.2.2.1 a j))
      obtain ⟨vm', X', step⟩ := XX.arraycopy X.1 X.2.2.2.1 (pm_word hG hl rfl) (pm_word hG hnat rfl) (pm_word hG hstat rfl) (pm_word hG hini rfl) (src := z + a0) (dst := z + a) (srcPos := sp) (destPos := dp) (n := n) (by rw [hT]; exact hc0) (by rw [hT]; exact hc1)
        (fun _ h => by cases h) (fun _ h => by cases h) (fun h => by cases h) (fun h => by cases h) hk0 hk1 hkk0 hkk1 (by simp [refKind]) s1 s2 s3
        (by rw [pm_nn s1, pm_nn s3, arrV_size]; omega)
        (by rw [pm_nn s2, pm_nn s3, arrV_size]; omega)
        (fun vm₁ _ j hj => by
          have e1 : (arrV (aC 0) (h.2.2.1 a0).2 (fun j => Value.int (h.2.2.2.1 a0 j))).slots.getD (sp.toNatClampNeg + j) .null = .int (h.2.2.2.1 a0 (sp.toNatClampNeg + j)) := by
            rw [Array.getD_eq_getD_getElem?, arrV_read _ _ (by omega)]
            rfl
          refine ⟨?_, ?_⟩
          · rw [e1]
            rfl
          · rw [e1]
            exact trivial)
        (g := F0 m (b i) ls ((Value.int n :: .int dp :: .ref a :: .int sp :: .ref a0 :: st').map (pm_t z bS))) rfl (by rw [X.2.2.1]; exact hL.2.2.1) (rest := st'.map (pm_t z bS)) rfl (by rw [X.2.1]; exact hd) X.2.2.2.2.2.2.1 (by
          have h40 := X.2.2.2.2.2.2.2.1
          have e3 : nativeFrameWords "java/lang/System" "arraycopy" 5 + 11 ≤ 32 := by decide +kernel
          show 2 * 0 + _ + _ ≤ _
          rw [pm_cat_t]
          omega)
      have e1 : copied (arrV (aC 0) (h.2.2.1 a0).2 (fun j => Value.int (h.2.2.2.1 a0 j))) (arrV (aC 0) (h.2.2.1 a).2 (fun j => Value.int (h.2.2.2.1 a j))) sp dp n = arrV (aC 0) (h.2.2.1 a).2 (fun j => Value.int (va_cpy (h.2.2.2.1 a0) (h.2.2.2.1 a) sp.toNatClampNeg dp.toNatClampNeg n.toNatClampNeg j)) := va_copied (fun w => .int w) (aC 0) (aC 0) (h.2.2.2.1 a0) (h.2.2.2.1 a) l1
      rw [e1] at X' step
      have hlt : z + a < H.size := (Array.getElem?_eq_some_iff.mp hc1).1
      generalize hcell : arrV (aC 0) (h.2.2.1 a).2 (fun j => Value.int (va_cpy (h.2.2.2.1 a0) (h.2.2.2.1 a) sp.toNatClampNeg dp.toNatClampNeg n.toNatClampNeg j)) = cell at X' step
      have hheap : ((T.setVm vm').setCell (z + a) cell).heap = H.setIfInBounds (z + a) cell := by rw [← hT]; rfl
      have oq : ∀ q : Nat, q ≠ z + a → (H.setIfInBounds (z + a) cell)[q]? = H[q]? := fun q hq => by simp [Array.getElem?_setIfInBounds, Ne.symm hq]
      obtain ⟨t, a1, b1⟩ := kk _ _ (hL.1.set (k := a) rfl rfl (fun j hj => by funext q; simp [pm_v, pm_row, hj]) (by simp) oq ((pm_at_arr (h := (h.1, h.2.1, h.2.2.1, pm_row h.2.2.2.1 a (va_cpy (h.2.2.2.1 a0) (h.2.2.2.1 a) sp.toNatClampNeg dp.toNatClampNeg n.toNatClampNeg), h.2.2.2.2)) (t := 0) (by omega) d2).mpr (by
          rw [show (H.setIfInBounds (z + a) cell)[z + a]? = some cell by simp [Array.getElem?_setIfInBounds, hlt], ← hcell]
          congr 2
          funext q
          rw [pm_v_i (by show pm_rf (pm_ft (h.2.2.1 a).1 q) = false; rw [d2]; rfl)]
          simp [pm_row]))) ⟨by simp; exact hL.2.1.1, fun q g1 g2 => by
          rw [oq q (fun e => g2 (by rw [e]; exact Nat.le_add_right z a))]
          exact hL.2.1.2.1 q g1 g2, fun q hq => by
          rcases List.mem_append.mp hq with h | h
          · exact hL.2.1.2.2 q h
          · obtain ⟨w, -, hw⟩ := List.mem_map.mp h
            rw [← hw]
            exact Nat.le_add_right z a⟩ _ hheap X'
      exact ⟨t, step t a1, b1⟩
    · cases ho
  · cases ho
-- ===== switches =====
def pm_twc (b : Nat → Nat) (pc : Nat) : Int → List Int → List (Int32 × Nat) → Bool
  | _, [], [] => true
  | lo, o :: os, q :: ps => (q.1.toInt == lo) && (((pc : Nat) : Int) + o == ((b q.2 : Nat) : Int)) && pm_twc b pc (lo + 1) os ps
  | _, _, _ => false
theorem pm_tw {pc d : Nat} {v : Int32} {k : Nat → Option pm_O} : ∀ (os : List Int) (ps : List (Int32 × Nat)) (lo : Int), pm_twc b pc lo os ps = true → (∃ (j t : Nat) (o : Int), os[j]? = some o ∧ v.toInt = lo + j ∧ ((pc : Nat) : Int) + o = ((b t : Nat) : Int) ∧ pm_swt ps d v k = k t) ∨ ((v.toInt < lo ∨ lo + os.length ≤ v.toInt) ∧ pm_swt ps d v k = k d) := by
  intro os
  induction os with
  | nil =>
    intro ps lo h
    cases ps with
    | nil => exact Or.inr ⟨by simp only [List.length_nil]; omega, rfl⟩
    | cons q ps => cases h
  | cons o os ih =>
    intro ps lo h
    cases ps with
    | nil => cases h
    | cons q ps =>
      obtain ⟨a, t⟩ := q
      simp only [pm_twc, Bool.and_eq_true, beq_iff_eq] at h
      obtain ⟨⟨h1, h2⟩, h3⟩ := h
      by_cases hv : v = a
      · refine Or.inl ⟨0, t, o, rfl, by rw [hv, h1]; simp, h2, by simp [pm_swt, hv]⟩
      · have hne : v.toInt ≠ lo := fun g => hv (Int32.toInt_inj.mp (by rw [h1]; exact g))
        have e1 : pm_swt ((a, t) :: ps) d v k = pm_swt ps d v k := by simp [pm_swt, hv]
        rcases ih ps (lo + 1) h3 with ⟨j, t', o', g1, g2, g3, g4⟩ | ⟨g1, g2⟩
        · exact Or.inl ⟨j + 1, t', o', by simpa using g1, by rw [g2]; push_cast; omega, g3, by rw [e1]; exact g4⟩
        · refine Or.inr ⟨?_, by rw [e1]; exact g2⟩
          simp only [List.length_cons] at g1 ⊢
          push_cast at g1 ⊢
          omega
theorem so_tsw {ps : List (Int32 × Nat)} {d len : Nat} {df lo hi : Int} {offs : Array Int} (hd : decode cc (b i) = .ok (.tableswitch df lo hi offs, len)) (hw : pm_twc b (b i) lo offs.toList ps = true) (hh : lo + (offs.toList.length : Int) = hi + 1) (hdf : ((b i : Nat) : Int) + df = ((b d : Nat) : Int)) : pm_S cc nL own nm ret Y b i (pm_sw ps d) := by
  intro p l e R s m args below meth c Q D aC z bS X lc st h o ho
  unfold pm_sw at ho
  split at ho
  · rename_i v st'
    rcases pm_tw (b := b) (d := d) (v := v) (k := fun t => pm_nx t lc st' h) offs.toList ps lo hw with ⟨j, t, o', g1, g2, g3, g4⟩ | ⟨g1, g2⟩
    · rw [g4] at ho
      cases ho
      have hj := (List.getElem?_eq_some_iff.mp g1).1
      refine pm_keep fun H locs ls kc ks hL hkc hks k => ?_
      refine lv_tableIn X.1 X.2.1 hd (by omega) (by omega) (off := o') ?_ g3 (k ls hL.2.2)
      rw [show (v.toInt - lo).toNat = j by omega, ← Array.getElem?_toList]
      exact g1
    · rw [g2] at ho
      cases ho
      refine pm_keep fun H locs ls kc ks hL hkc hks k => ?_
      exact lv_tableOut X.1 X.2.1 hd (by omega) hdf (k ls hL.2.2)
  · cases ho
def pm_lwc (b : Nat → Nat) (pc : Nat) : List (Int × Int) → List (Int32 × Nat) → Bool
  | [], [] => true
  | o :: os, q :: ps => (q.1.toInt == o.1) && (((pc : Nat) : Int) + o.2 == ((b q.2 : Nat) : Int)) && pm_lwc b pc os ps
  | _, _ => false
theorem pm_lw {pc d : Nat} {df : Int} {v : Int32} {k : Nat → Option pm_O} (hdf : ((pc : Nat) : Int) + df = ((b d : Nat) : Int)) : ∀ (os : List (Int × Int)) (ps : List (Int32 × Nat)), pm_lwc b pc os ps = true → ∃ t : Nat, ((pc : Nat) : Int) + Op.lookupswitch.offset os df v.toInt = ((b t : Nat) : Int) ∧ pm_swt ps d v k = k t := by
  intro os
  induction os with
  | nil =>
    intro ps h
    cases ps with
    | nil => exact ⟨d, hdf, rfl⟩
    | cons q ps => cases h
  | cons o os ih =>
    intro ps h
    cases ps with
    | nil => cases h
    | cons q ps =>
      obtain ⟨a, t⟩ := q
      obtain ⟨o1, o2⟩ := o
      simp only [pm_lwc, Bool.and_eq_true, beq_iff_eq] at h
      obtain ⟨⟨h1, h2⟩, h3⟩ := h
      by_cases hv : v = a
      · subst hv
        refine ⟨t, ?_, by simp [pm_swt]⟩
        rw [Op.lookupswitch.offset_cons, if_pos h1.symm]
        exact h2
      · obtain ⟨t', g1, g2⟩ := ih ps h3
        exact ⟨t', by rw [lv_osw hv h1]; exact g1, by simp only [pm_swt, if_neg hv]; exact g2⟩
theorem so_lsw {ps : List (Int32 × Nat)} {d len : Nat} {df : Int} {prs : Array (Int × Int)} (hd : decode cc (b i) = .ok (.lookupswitch df prs, len)) (hsr : (prs.toList.zip (prs.toList.drop 1)).all (fun (a, next) => a.1 < next.1) = true) (hw : pm_lwc b (b i) prs.toList ps = true) (hdf : ((b i : Nat) : Int) + df = ((b d : Nat) : Int)) : pm_S cc nL own nm ret Y b i (pm_sw ps d) := by
  intro p l e R s m args below meth c Q D aC z bS X lc st h o ho
  unfold pm_sw at ho
  split at ho
  · rename_i v st'
    obtain ⟨t, g1, g2⟩ := pm_lw (b := b) (v := v) (k := fun t => pm_nx t lc st' h) hdf prs.toList ps hw
    rw [g2] at ho
    cases ho
    refine pm_keep fun H locs ls kc ks hL hkc hks k => ?_
    exact lv_lookup X.1 X.2.1 hd hsr rfl g1 (k ls hL.2.2)
  · cases ho
end OPM
-- ===== a whole activation =====
section SIM
variable {p : Program} {l : Launch} {e : Env} {R : Room} {s : State} {m : MethodId} {args : Array Value} {below : List Frame} {meth : Method} {c : Code} {Q : State → Prop} {D : va_G} {aC : Nat → ClassId} {z bS : Nat} {cc : ByteArray} {nL : Nat} {own nm : String} {ret : Option FieldType} {Y : Nat → pm_N} {b : Nat → Nat} {T : Nat → Option pm_I} {call : Nat → List Value → pm_H → Option pm_R}
theorem pm_sim (hT : ∀ j f, T j = some f → pm_S cc nL own nm ret Y b j f) (X : pm_X p R s m meth c cc nL own nm D aC z) (hcall : ∀ mid a g r, call mid a g = some r → ∃ d, d + 2 ≤ R.frames ∧ 70 + 30 * d ≤ R.locals ∧ pm_M l D aC z bS d (Y mid) a g r.1 r.2) : ∀ (n : Nat) (q : pm_C) (r : pm_R), pm_ex call T n q = some r →
    (q.2.2.2.1 ≤ r.1.1 ∧ q.2.2.2.2.1 ≤ r.1.2.1) ∧ ∀ (H : Heap) (locs : List Loc) (ls : Array Slot) (kc ks : Nat), pm_L s D aC z bS nL q.2.1 q.2.2.2 H locs ls → kc + (r.1.1 - q.2.2.2.1) ≤ R.cells → ks + (r.1.2.1 - q.2.2.2.2.1) ≤ R.slots →
      (∀ (H' : Heap) (locs' : List Loc) (ls' : Array Slot) (pc : Nat), pm_W D aC z r.1 H' → va_S (fun q => z ≤ q) s.heap H' locs' → pm_rd cc pc ret r.2 → W p l e R s m args below meth c H' locs' (kc + (r.1.1 - q.2.2.2.1)) (ks + (r.1.2.1 - q.2.2.2.2.1)) Q (F0 m pc ls' (r.2.toList.map (pm_t z bS)))) →
      W p l e R s m args below meth c H locs kc ks Q (F0 m (b q.1) ls (q.2.2.1.map (pm_t z bS))) := by
  intro n
  induction n with
  | zero => intro q r h; cases h
  | succ n ih =>
    intro q r h
    obtain ⟨i, lc, st, h0⟩ := q
    cases hf : T i with
    | none => simp [pm_ex, hf] at h
    | some f =>
      have hS := hT _ _ hf p l e R s m args below meth c Q D aC z bS X lc st h0
      cases hw : f lc st h0 with
      | none => simp [pm_ex, hf, hw] at h
      | some o =>
        rcases o with w | w | w
        · simp only [pm_ex, hf, hw, Option.some.injEq] at h
          subst h
          obtain ⟨g1, g2, g3⟩ := hS _ hw
          obtain ⟨r1, r2⟩ := w
          dsimp only at g1 g2 g3
          subst g1
          subst g2
          refine ⟨⟨Nat.le_refl _, Nat.le_refl _⟩, fun H locs ls kc ks hL _ _ kk => ?_⟩
          simp only [Nat.sub_self, Nat.add_zero] at kk
          exact kk H locs ls _ hL.1 hL.2.1 g3
        · simp only [pm_ex, hf, hw] at h
          obtain ⟨g1, g2⟩ := hS _ hw
          obtain ⟨i1, i2⟩ := ih w r h
          dsimp only at g1 g2 i1 i2 ⊢
          refine ⟨⟨Nat.le_trans g1.1 i1.1, Nat.le_trans g1.2 i1.2⟩, fun H locs ls kc ks hL hc hs kk => ?_⟩
          refine g2 H locs ls kc ks hL (by omega) (by omega) (fun H' locs' ls' hL' => i2 H' locs' ls' _ _ hL' (by omega) (by omega) (fun H'' locs'' ls'' pc a1 a2 a3 => ?_))
          have k2 := kk H'' locs'' ls'' pc a1 a2 a3
          refine W.cs ?_ ?_ k2 <;> omega
        · simp only [pm_ex, hf, hw] at h
          obtain ⟨g1, g2⟩ := hS _ hw
          cases hr' : call w.1 w.2.1 w.2.2.2.2.2 with
          | none => simp [hr'] at h
          | some r' =>
            simp only [hr'] at h
            obtain ⟨d, d1, d2, hM⟩ := hcall _ _ _ _ hr'
            rw [g1] at hM
            obtain ⟨i1, i2⟩ := ih _ r h
            have m1 := hM.1
            dsimp only at g1 g2 i1 i2 m1 ⊢
            refine ⟨⟨Nat.le_trans m1.1 i1.1, Nat.le_trans m1.2 i1.2⟩, fun H locs ls kc ks hL hc hs kk => ?_⟩
            refine g2 d r'.1 r'.2 d1 d2 hM H locs ls kc ks hL (by omega) (by omega) (fun H' locs' hL' => i2 H' locs' ls _ _ hL' (by omega) (by omega) (fun H'' locs'' ls'' pc a1 a2 a3 => ?_))
            have k2 := kk H'' locs'' ls'' pc a1 a2 a3
            refine W.cs ?_ ?_ k2 <;> omega
end SIM
theorem pm_V_entry {z bS nL : Nat} {a : List Value} (ha : a.all pm_ok = true) (hl : a.length ≤ nL) : pm_V z bS ((lg_sl (a.map (pm_t z bS)) ++ List.replicate (nL - (lg_sl (a.map (pm_t z bS))).length) Slot.unset).toArray) nL (a ++ List.replicate (nL - a.length) .null) := by
  have hcat : ∀ v ∈ a.map (pm_t z bS), v.category = 1 := by
    intro v hv
    obtain ⟨w, hw, rfl⟩ := List.mem_map.mp hv
    exact pm_t_cat (List.all_eq_true.mp ha w hw)
  have hsl : ∀ vs : List Value, (∀ v ∈ vs, v.category = 1) → lg_sl vs = vs.map Slot.val := by
    intro vs
    induction vs with
    | nil => intro _; rfl
    | cons v vs ih =>
      intro h
      have h1 := h v List.mem_cons_self
      have h2 := ih (fun w hw => h w (List.mem_cons_of_mem _ hw))
      simp only [lg_sl, List.flatMap_cons, List.map_cons] at h2 ⊢
      rw [h2, h1]
      rfl
  have hlen : (lg_sl (a.map (pm_t z bS))).length ≤ nL := by rw [hsl _ hcat]; simpa using hl
  have hh := lv_entry (a.map (pm_t z bS)) (n := nL) hlen
  refine ⟨hh.1, hh.2.1, by simp; omega, fun j w hj hw => ?_⟩
  have hja : j < a.length := by
    rcases Nat.lt_or_ge j a.length with h | h
    · exact h
    · rw [List.getElem?_append_right h] at hj
      have := List.eq_of_mem_replicate (List.mem_of_getElem? hj)
      subst this
      cases hw
  rw [List.getElem?_append_left hja] at hj
  rw [hsl _ hcat]
  have e1 : a[j] = w := (List.getElem?_eq_some_iff.mp hj).2
  simp [hja, List.getElem?_append_left, e1]
/-- a method's contract, out of a run of the pure machine -/
theorem pm_met {d : Nat} {y : MethodName} {cc : ByteArray} {nL : Nat} {ret : Option FieldType} {Y : Nat → pm_N} {b : Nat → Nat} {T : Nat → Option pm_I} {call : Nat → List Value → pm_H → Option pm_R} {n : Nat} {a : List Value} {h : pm_H} {r : pm_R} (hpl : plainName y.cls = true) (hb0 : b 0 = 0) (hT : ∀ j f, T j = some f → pm_S cc nL y.cls y.name ret Y b j f) (l : Launch) (D : va_G) (aC : Nat → ClassId) (z bS : Nat)
    (hcall : ∀ mid a g r, call mid a g = some r → ∃ d', d' + 1 ≤ d ∧ pm_M l D aC z bS d' (Y mid) a g r.1 r.2) (ha : a.all pm_ok = true) (hl : a.length ≤ nL) (hex : pm_ex call T n (0, a ++ List.replicate (nL - a.length) .null, [], h) = some r) (hmono : h.1 ≤ r.1.1 ∧ h.2.1 ≤ r.1.2.1) : pm_M l D aC z bS d (y, cc, nL, ret) a h r.1 r.2 := by
  refine ⟨hmono, Met.ofW (cc := cc) (maxL := nL) (ret := ret) hpl rfl ?_⟩
  intro p e s m args below meth c s₁ B hml hv
  obtain ⟨rfl, hW, hG⟩ := hv
  have hx := B.exec
  have hb := B.bytes
  have hr := B.returns
  have hown : s.vm.findClass y.cls = some m.cls := findClass_of_methodNamed B.named
  have hlocks := B.notSynchronized
  have hnm : meth.name = y.name := (name_of_methodNamed B.named B.method).1
  have X : pm_X p (pm_rm d (r.1.1 - h.1) (r.1.2.1 - h.2.1)) s m meth c cc nL y.cls y.name D aC z := ⟨hx, hb, hml, hown, hG, by rw [hW.1]; omega, by show 1 ≤ d + 1; omega, by show 40 ≤ 40 + 30 * d; omega, hnm⟩
  rw [lg_entry_eq]
  have sim := (pm_sim (l := l) (e := e) (args := (a.map (pm_t z bS)).toArray) (below := below) (Q := MQ below (pm_Qc D aC z bS r.1 r.2) (a.map (pm_t z bS)).toArray s (r.1.1 - h.1) (r.1.2.1 - h.2.1) (fun q => z ≤ q)) (bS := bS) hT X (fun mid a' g r' hr' => by
    obtain ⟨d', e1, e2⟩ := hcall mid a' g r' hr'
    exact ⟨d', by show d' + 2 ≤ d + 1; omega, by show 70 + 30 * d' ≤ 40 + 30 * d; omega, e2⟩) n _ _ hex).2 s.heap [] _ 0 0 ⟨hW, va_S.rf, pm_V_entry ha hl⟩ (by show 0 + (r.1.1 - h.1) ≤ r.1.1 - h.1; omega) (by show 0 + (r.1.2.1 - h.2.1) ≤ r.1.2.1 - h.2.1; omega) (fun H' locs' ls' pc a1 a2 a3 => ?_)
  · dsimp only at sim
    rw [hb0] at sim
    exact sim
  · obtain ⟨r1, r2⟩ := r
    refine W.cs (Nat.zero_add _) (Nat.zero_add _) ?_
    dsimp only at a1 a3 ⊢
    cases r2 with
    | none =>
      obtain ⟨c1, c2⟩ := a3
      exact W.vret hx hb (hr.trans c2) (fun t ht hW' => ⟨rfl, by rw [ht]; exact a1, a2.F ht⟩) a2.2.2 c1
    | some v =>
      cases v with
      | int w =>
        obtain ⟨c1, ty, c2, c3⟩ := a3
        exact W.zret hx hb (hr.trans c2) c3 (fun t ht hW' => ⟨rfl, by rw [ht]; exact a1, a2.F ht⟩) a2.2.2 c1
      | ref w =>
        obtain ⟨c1, C, c2⟩ := a3
        exact W.aret (v := .ref (z + w)) hx hb (hr.trans c2) (Or.inl ⟨C, rfl⟩) (Or.inr ⟨_, rfl⟩) (fun t ht hW' => ⟨rfl, by rw [ht]; exact a1, a2.F ht⟩) a2.2.2 c1
      | _ => exact a3.elim
def pm_go (Y : Nat → pm_N) (T : Nat → Nat → Option pm_I) (N : Nat) (call : Nat → List Value → pm_H → Option pm_R) (mid : Nat) (a : List Value) (h : pm_H) : Option pm_R :=
  if a.all pm_ok && decide (a.length ≤ (Y mid).2.2.1) then (match pm_ex call (T mid) N (0, a ++ List.replicate ((Y mid).2.2.1 - a.length) .null, [], h) with
    | some r => if decide (h.1 ≤ r.1.1) && decide (h.2.1 ≤ r.1.2.1) then some r else none
    | none => none) else none
theorem pm_go_spec {Y : Nat → pm_N} {T : Nat → Nat → Option pm_I} {N : Nat} {call : Nat → List Value → pm_H → Option pm_R} {mid : Nat} {a : List Value} {h : pm_H} {r : pm_R} (hr : pm_go Y T N call mid a h = some r) :
    a.all pm_ok = true ∧ a.length ≤ (Y mid).2.2.1 ∧ pm_ex call (T mid) N (0, a ++ List.replicate ((Y mid).2.2.1 - a.length) .null, [], h) = some r ∧ h.1 ≤ r.1.1 ∧ h.2.1 ≤ r.1.2.1 := by
  unfold pm_go at hr
  split at hr
  · rename_i hq
    simp only [Bool.and_eq_true, decide_eq_true_eq] at hq
    split at hr
    · rename_i r' hx
      split at hr
      · rename_i hm
        cases hr
        simp only [Bool.and_eq_true, decide_eq_true_eq] at hm
        exact ⟨hq.1, hq.2, hx, hm.1, hm.2⟩
      · cases hr
    · cases hr
  · cases hr
/-- method mid with the values a on the heap h, calls d deep, N steps a method -/
def pm_run (Y : Nat → pm_N) (T : Nat → Nat → Option pm_I) (N : Nat) : Nat → Nat → List Value → pm_H → Option pm_R
  | 0 => pm_go Y T N (fun _ _ _ => none)
  | d + 1 => pm_go Y T N (pm_run Y T N d)
theorem pm_runs {Y : Nat → pm_N} {T : Nat → Nat → Option pm_I} {B : Nat → Nat → Nat} (hpl : ∀ mid, plainName (Y mid).1.cls = true) (hb0 : ∀ mid, B mid 0 = 0) (hT : ∀ mid j f, T mid j = some f → pm_S (Y mid).2.1 (Y mid).2.2.1 (Y mid).1.cls (Y mid).1.name (Y mid).2.2.2 Y (B mid) j f) (l : Launch) (D : va_G) (aC : Nat → ClassId) (z bS N : Nat) :
    ∀ (d mid : Nat) (a : List Value) (h : pm_H) (r : pm_R), pm_run Y T N d mid a h = some r → pm_M l D aC z bS d (Y mid) a h r.1 r.2 := by
  intro d
  induction d with
  | zero =>
    intro mid a h r hr
    obtain ⟨h1, h2, h3, h4⟩ := pm_go_spec hr
    exact pm_met (hpl mid) (hb0 mid) (hT mid) l D aC z bS (fun _ _ _ _ q => by cases q) h1 h2 h3 h4
  | succ d ih =>
    intro mid a h r hr
    obtain ⟨h1, h2, h3, h4⟩ := pm_go_spec hr
    exact pm_met (hpl mid) (hb0 mid) (hT mid) l D aC z bS (fun mid' a' g r' q => ⟨d, Nat.le_refl _, ih mid' a' g r' q⟩) h1 h2 h3 h4
/-- a method's instructions one after the other, each as the code has it -/
def pm_Sl (cc : ByteArray) (nL : Nat) (own nm : String) (ret : Option FieldType) (Y : Nat → pm_N) (b : Nat → Nat) : Nat → List pm_I → Prop
  | _, [] => True
  | i, f :: l => pm_S cc nL own nm ret Y b i f ∧ pm_Sl cc nL own nm ret Y b (i + 1) l
theorem pm_Sl_at {cc : ByteArray} {nL : Nat} {own nm : String} {ret : Option FieldType} {Y : Nat → pm_N} {b : Nat → Nat} : ∀ (l : List pm_I) (i : Nat), pm_Sl cc nL own nm ret Y b i l → ∀ (j : Nat) (f : pm_I), l[j]? = some f → pm_S cc nL own nm ret Y b (i + j) f := by
  intro l
  induction l with
  | nil => intro i _ j f h; cases h
  | cons g l ih =>
    intro i h j f hj
    cases j with
    | zero => cases hj; exact h.1
    | succ j =>
      have := ih (i + 1) h.2 j f (by simpa using hj)
      rw [show i + (j + 1) = i + 1 + j by omega]
      exact this
def pm_b (l : List Nat) (i : Nat) : Nat := l.getD i 0
theorem so_none {cc : ByteArray} {nL : Nat} {own nm : String} {ret : Option FieldType} {Y : Nat → pm_N} {b : Nat → Nat} {i : Nat} : pm_S cc nL own nm ret Y b i (fun _ _ _ => none) := by
  intro p l e R s m args below meth c Q D aC z bS X lc st h o ho
  cases ho
end
section
theorem fl_Lo_10 : pm_fl R_Lo 10 R_Lo (T_Lo 0).2.1 (T_Lo 0).2.2.1 := Or.inl (pm_in1 (List.mem_append_left _ (List.mem_of_getElem? (i := 194) rfl)))
theorem fl_Lo_21 : pm_fl R_Lo 21 R_Lo (T_Lo 1).2.1 (T_Lo 1).2.2.1 := Or.inl (pm_in1 (List.mem_append_left _ (List.mem_of_getElem? (i := 195) rfl)))
theorem fl_Sh_11 : pm_fl R_Sh 11 R_Sh (T_Sh 0).2.1 (T_Sh 0).2.2.1 := Or.inl (pm_in1 (List.mem_append_left _ (List.mem_of_getElem? (i := 66) rfl)))
theorem fl_Sh_17 : pm_fl R_Sh 17 R_Sh (T_Sh 1).2.1 (T_Sh 1).2.2.1 := Or.inl (pm_in1 (List.mem_append_left _ (List.mem_of_getElem? (i := 68) rfl)))
theorem fl_Sh_22 : pm_fl R_Sh 22 R_Sh (T_Sh 2).2.1 (T_Sh 2).2.2.1 := Or.inl (pm_in1 (List.mem_append_left _ (List.mem_of_getElem? (i := 69) rfl)))
theorem fl_Sh_32 : pm_fl R_Sh 32 R_Sh (T_Sh 3).2.1 (T_Sh 3).2.2.1 := Or.inl (pm_in1 (List.mem_append_left _ (List.mem_of_getElem? (i := 70) rfl)))
theorem fl_Sh_54 : pm_fl R_Sh 54 R_Bo (T_Bo 4).2.1 (T_Bo 4).2.2.1 := Or.inr ⟨_, pm_in1 (List.mem_append_left _ (List.mem_of_getElem? (i := 46) rfl))⟩
theorem fl_Sh_65 : pm_fl R_Sh 65 R_Bo (T_Bo 1).2.1 (T_Bo 1).2.2.1 := Or.inr ⟨_, pm_in1 (List.mem_append_left _ (List.mem_of_getElem? (i := 39) rfl))⟩
theorem fl_Sh_68 : pm_fl R_Sh 68 R_Bo (T_Bo 3).2.1 (T_Bo 3).2.2.1 := Or.inr ⟨_, pm_in1 (List.mem_append_left _ (List.mem_of_getElem? (i := 43) rfl))⟩
theorem fl_Sh_71 : pm_fl R_Sh 71 R_Bo (T_Bo 0).2.1 (T_Bo 0).2.2.1 := Or.inr ⟨_, pm_in1 (List.mem_append_left _ (List.mem_of_getElem? (i := 36) rfl))⟩
theorem fl_Sh_80 : pm_fl R_Sh 80 R_Bo (T_Bo 5).2.1 (T_Bo 5).2.2.1 := Or.inr ⟨_, pm_in1 (List.mem_append_left _ (List.mem_of_getElem? (i := 48) rfl))⟩
theorem fl_Bo_9 : pm_fl R_Bo 9 R_Bo (T_Bo 0).2.1 (T_Bo 0).2.2.1 := Or.inl (pm_in1 (List.mem_append_left _ (List.mem_of_getElem? (i := 34) rfl)))
theorem fl_Bo_15 : pm_fl R_Bo 15 R_Bo (T_Bo 1).2.1 (T_Bo 1).2.2.1 := Or.inl (pm_in1 (List.mem_append_left _ (List.mem_of_getElem? (i := 37) rfl)))
theorem fl_Bo_18 : pm_fl R_Bo 18 R_Bo (T_Bo 2).2.1 (T_Bo 2).2.2.1 := Or.inl (pm_in1 (List.mem_append_left _ (List.mem_of_getElem? (i := 40) rfl)))
theorem fl_Bo_21 : pm_fl R_Bo 21 R_Bo (T_Bo 3).2.1 (T_Bo 3).2.2.1 := Or.inl (pm_in1 (List.mem_append_left _ (List.mem_of_getElem? (i := 42) rfl)))
theorem fl_Bo_24 : pm_fl R_Bo 24 R_Bo (T_Bo 4).2.1 (T_Bo 4).2.2.1 := Or.inl (pm_in1 (List.mem_append_left _ (List.mem_of_getElem? (i := 44) rfl)))
theorem fl_Bo_28 : pm_fl R_Bo 28 R_Bo (T_Bo 5).2.1 (T_Bo 5).2.2.1 := Or.inl (pm_in1 (List.mem_append_left _ (List.mem_of_getElem? (i := 47) rfl)))
theorem fl_Ru_11 : pm_fl R_Ru 11 R_Ru (T_Ru 1).2.1 (T_Ru 1).2.2.1 := Or.inl (pm_in1 (List.mem_append_left _ (List.mem_of_getElem? (i := 173) rfl)))
theorem fl_Ru_19 : pm_fl R_Ru 19 R_Ru (T_Ru 2).2.1 (T_Ru 2).2.2.1 := Or.inl (pm_in1 (List.mem_append_left _ (List.mem_of_getElem? (i := 174) rfl)))
theorem fl_Ru_25 : pm_fl R_Ru 25 R_Ru (T_Ru 3).2.1 (T_Ru 3).2.2.1 := Or.inl (pm_in1 (List.mem_append_left _ (List.mem_of_getElem? (i := 175) rfl)))
theorem fl_Ru_32 : pm_fl R_Ru 32 R_Ru (T_Ru 4).2.1 (T_Ru 4).2.2.1 := Or.inl (pm_in1 (List.mem_append_left _ (List.mem_of_getElem? (i := 176) rfl)))
theorem fl_Ru_36 : pm_fl R_Ru 36 R_Ru (T_Ru 0).2.1 (T_Ru 0).2.2.1 := Or.inl (pm_in1 (List.mem_append_left _ (List.mem_of_getElem? (i := 172) rfl)))
theorem fl_Ru_50 : pm_fl R_Ru 50 R_Ru (T_Ru 6).2.1 (T_Ru 6).2.2.1 := Or.inl (pm_in1 (List.mem_append_left _ (List.mem_of_getElem? (i := 178) rfl)))
theorem fl_Ru_54 : pm_fl R_Ru 54 R_Ru (T_Ru 5).2.1 (T_Ru 5).2.2.1 := Or.inl (pm_in1 (List.mem_append_left _ (List.mem_of_getElem? (i := 177) rfl)))
theorem fl_Ru_57 : pm_fl R_Ru 57 R_Sd (T_Sd 3).2.1 (T_Sd 3).2.2.1 := Or.inr ⟨_, pm_in1 (List.mem_append_left _ (List.mem_of_getElem? (i := 119) rfl))⟩
theorem fl_Ru_98 : pm_fl R_Ru 98 R_Sd (T_Sd 4).2.1 (T_Sd 4).2.2.1 := Or.inr ⟨_, pm_in1 (List.mem_append_left _ (List.mem_of_getElem? (i := 122) rfl))⟩
theorem fl_Ru_112 : pm_fl R_Ru 112 R_Bo (T_Bo 4).2.1 (T_Bo 4).2.2.1 := Or.inr ⟨_, pm_in1 (List.mem_append_left _ (List.mem_of_getElem? (i := 45) rfl))⟩
theorem fl_Ru_101 : pm_fl R_Ru 101 R_Sd (T_Sd 2).2.1 (T_Sd 2).2.2.1 := Or.inr ⟨_, pm_in1 (List.mem_append_left _ (List.mem_of_getElem? (i := 117) rfl))⟩
theorem fl_Ru_90 : pm_fl R_Ru 90 R_Sh (T_Sh 0).2.1 (T_Sh 0).2.2.1 := Or.inr ⟨_, pm_in1 (List.mem_append_left _ (List.mem_of_getElem? (i := 67) rfl))⟩
theorem fl_Ru_96 : pm_fl R_Ru 96 R_Sd (T_Sd 1).2.1 (T_Sd 1).2.2.1 := Or.inr ⟨_, pm_in1 (List.mem_append_left _ (List.mem_of_getElem? (i := 115) rfl))⟩
theorem fl_Ru_117 : pm_fl R_Ru 117 R_Bo (T_Bo 0).2.1 (T_Bo 0).2.2.1 := Or.inr ⟨_, pm_in1 (List.mem_append_left _ (List.mem_of_getElem? (i := 35) rfl))⟩
theorem fl_Ru_120 : pm_fl R_Ru 120 R_Bo (T_Bo 1).2.1 (T_Bo 1).2.2.1 := Or.inr ⟨_, pm_in1 (List.mem_append_left _ (List.mem_of_getElem? (i := 38) rfl))⟩
theorem fl_Ru_136 : pm_fl R_Ru 136 R_Sd (T_Sd 5).2.1 (T_Sd 5).2.2.1 := Or.inr ⟨_, pm_in1 (List.mem_append_left _ (List.mem_of_getElem? (i := 124) rfl))⟩
theorem fl_Ru_142 : pm_fl R_Ru 142 R_Bo (T_Bo 2).2.1 (T_Bo 2).2.2.1 := Or.inr ⟨_, pm_in1 (List.mem_append_left _ (List.mem_of_getElem? (i := 41) rfl))⟩
theorem fl_Ru_163 : pm_fl R_Ru 163 R_Ce (T_Ce 0).2.1 (T_Ce 0).2.2.1 := Or.inr ⟨_, pm_in1 (List.mem_append_left _ (List.mem_of_getElem? (i := 160) rfl))⟩
theorem fl_Ru_166 : pm_fl R_Ru 166 R_Sd (T_Sd 0).2.1 (T_Sd 0).2.2.1 := Or.inr ⟨_, pm_in1 (List.mem_append_left _ (List.mem_of_getElem? (i := 113) rfl))⟩
theorem fl_Ru_169 : pm_fl R_Ru 169 R_Ce (T_Ce 2).2.1 (T_Ce 2).2.2.1 := Or.inr ⟨_, pm_in1 (List.mem_append_left _ (List.mem_of_getElem? (i := 164) rfl))⟩
theorem fl_Ru_170 : pm_fl R_Ru 170 R_Ce (T_Ce 1).2.1 (T_Ce 1).2.2.1 := Or.inr ⟨_, pm_in1 (List.mem_append_left _ (List.mem_of_getElem? (i := 162) rfl))⟩
theorem fl_Ru_190 : pm_fl R_Ru 190 R_Lk (T_Lk 1).2.1 (T_Lk 1).2.2.1 := Or.inr ⟨_, pm_in1 (List.mem_append_left _ (List.mem_of_getElem? (i := 145) rfl))⟩
theorem fl_Ru_193 : pm_fl R_Ru 193 R_Rl (T_Rl 1).2.1 (T_Rl 1).2.2.1 := Or.inr ⟨_, pm_in1 (List.mem_append_left _ (List.mem_of_getElem? (i := 100) rfl))⟩
theorem fl_Rl_9 : pm_fl R_Rl 9 R_Rl (T_Rl 0).2.1 (T_Rl 0).2.2.1 := Or.inl (pm_in1 (List.mem_append_left _ (List.mem_of_getElem? (i := 98) rfl)))
theorem fl_Rl_15 : pm_fl R_Rl 15 R_Rl (T_Rl 1).2.1 (T_Rl 1).2.2.1 := Or.inl (pm_in1 (List.mem_append_left _ (List.mem_of_getElem? (i := 99) rfl)))
theorem fl_Sd_9 : pm_fl R_Sd 9 R_Sd (T_Sd 1).2.1 (T_Sd 1).2.2.1 := Or.inl (pm_in1 (List.mem_append_left _ (List.mem_of_getElem? (i := 114) rfl)))
theorem fl_Sd_15 : pm_fl R_Sd 15 R_Sd (T_Sd 2).2.1 (T_Sd 2).2.2.1 := Or.inl (pm_in1 (List.mem_append_left _ (List.mem_of_getElem? (i := 116) rfl)))
theorem fl_Sd_18 : pm_fl R_Sd 18 R_Sd (T_Sd 3).2.1 (T_Sd 3).2.2.1 := Or.inl (pm_in1 (List.mem_append_left _ (List.mem_of_getElem? (i := 118) rfl)))
theorem fl_Sd_21 : pm_fl R_Sd 21 R_Sd (T_Sd 0).2.1 (T_Sd 0).2.2.1 := Or.inl (pm_in1 (List.mem_append_left _ (List.mem_of_getElem? (i := 111) rfl)))
theorem fl_Sd_25 : pm_fl R_Sd 25 R_Sd (T_Sd 5).2.1 (T_Sd 5).2.2.1 := Or.inl (pm_in1 (List.mem_append_left _ (List.mem_of_getElem? (i := 123) rfl)))
theorem fl_Sd_28 : pm_fl R_Sd 28 R_Sd (T_Sd 4).2.1 (T_Sd 4).2.2.1 := Or.inl (pm_in1 (List.mem_append_left _ (List.mem_of_getElem? (i := 121) rfl)))
theorem fl_Lk_9 : pm_fl R_Lk 9 R_Lk (T_Lk 0).2.1 (T_Lk 0).2.2.1 := Or.inl (pm_in1 (List.mem_append_left _ (List.mem_of_getElem? (i := 143) rfl)))
theorem fl_Lk_15 : pm_fl R_Lk 15 R_Lk (T_Lk 1).2.1 (T_Lk 1).2.2.1 := Or.inl (pm_in1 (List.mem_append_left _ (List.mem_of_getElem? (i := 144) rfl)))
theorem fl_Lk_25 : pm_fl R_Lk 25 R_Lk (T_Lk 2).2.1 (T_Lk 2).2.2.1 := Or.inl (pm_in1 (List.mem_append_left _ (List.mem_of_getElem? (i := 146) rfl)))
theorem fl_Lk_28 : pm_fl R_Lk 28 R_Sd (T_Sd 0).2.1 (T_Sd 0).2.2.1 := Or.inr ⟨_, pm_in1 (List.mem_append_left _ (List.mem_of_getElem? (i := 112) rfl))⟩
theorem fl_Lk_37 : pm_fl R_Lk 37 R_Sd (T_Sd 3).2.1 (T_Sd 3).2.2.1 := Or.inr ⟨_, pm_in1 (List.mem_append_left _ (List.mem_of_getElem? (i := 120) rfl))⟩
theorem fl_Ce_9 : pm_fl R_Ce 9 R_Ce (T_Ce 0).2.1 (T_Ce 0).2.2.1 := Or.inl (pm_in1 (List.mem_append_left _ (List.mem_of_getElem? (i := 159) rfl)))
theorem fl_Ce_15 : pm_fl R_Ce 15 R_Ce (T_Ce 1).2.1 (T_Ce 1).2.2.1 := Or.inl (pm_in1 (List.mem_append_left _ (List.mem_of_getElem? (i := 161) rfl)))
theorem fl_Ce_24 : pm_fl R_Ce 24 R_Ce (T_Ce 2).2.1 (T_Ce 2).2.2.1 := Or.inl (pm_in1 (List.mem_append_left _ (List.mem_of_getElem? (i := 163) rfl)))
theorem fl_Mo_7 : pm_fl R_Mo 7 R_Mo (T_Mo 0).2.1 (T_Mo 0).2.2.1 := Or.inl (pm_in1 (List.mem_append_right _ (List.mem_append_left _ (List.mem_of_getElem? (i := 228) rfl))))
theorem fl_Mo_13 : pm_fl R_Mo 13 R_Mo (T_Mo 1).2.1 (T_Mo 1).2.2.1 := Or.inl (pm_in1 (List.mem_append_right _ (List.mem_append_left _ (List.mem_of_getElem? (i := 229) rfl))))
theorem fl_Mo_16 : pm_fl R_Mo 16 R_Mo (T_Mo 2).2.1 (T_Mo 2).2.2.1 := Or.inl (pm_in1 (List.mem_append_right _ (List.mem_append_left _ (List.mem_of_getElem? (i := 230) rfl))))
theorem fl_Mo_19 : pm_fl R_Mo 19 R_Mo (T_Mo 3).2.1 (T_Mo 3).2.2.1 := Or.inl (pm_in1 (List.mem_append_right _ (List.mem_append_left _ (List.mem_of_getElem? (i := 231) rfl))))
theorem fl_Mo_22 : pm_fl R_Mo 22 R_Mo (T_Mo 5).2.1 (T_Mo 5).2.2.1 := Or.inl (pm_in1 (List.mem_append_right _ (List.mem_append_left _ (List.mem_of_getElem? (i := 233) rfl))))
theorem fl_Mo_25 : pm_fl R_Mo 25 R_Mo (T_Mo 7).2.1 (T_Mo 7).2.2.1 := Or.inl (pm_in1 (List.mem_append_right _ (List.mem_append_left _ (List.mem_of_getElem? (i := 235) rfl))))
theorem fl_Mo_28 : pm_fl R_Mo 28 R_Mo (T_Mo 8).2.1 (T_Mo 8).2.2.1 := Or.inl (pm_in1 (List.mem_append_right _ (List.mem_append_left _ (List.mem_of_getElem? (i := 236) rfl))))
theorem fl_Mo_31 : pm_fl R_Mo 31 R_Mo (T_Mo 9).2.1 (T_Mo 9).2.2.1 := Or.inl (pm_in1 (List.mem_append_right _ (List.mem_append_left _ (List.mem_of_getElem? (i := 237) rfl))))
theorem fl_Mo_34 : pm_fl R_Mo 34 R_Mo (T_Mo 10).2.1 (T_Mo 10).2.2.1 := Or.inl (pm_in1 (List.mem_append_right _ (List.mem_append_left _ (List.mem_of_getElem? (i := 238) rfl))))
theorem fl_Mo_37 : pm_fl R_Mo 37 R_Mo (T_Mo 12).2.1 (T_Mo 12).2.2.1 := Or.inl (pm_in1 (List.mem_append_right _ (List.mem_append_right _ (List.mem_of_getElem? (i := 0) rfl))))
theorem fl_Mo_40 : pm_fl R_Mo 40 R_Mo (T_Mo 13).2.1 (T_Mo 13).2.2.1 := Or.inl (pm_in1 (List.mem_append_right _ (List.mem_append_right _ (List.mem_of_getElem? (i := 1) rfl))))
theorem fl_Mo_43 : pm_fl R_Mo 43 R_Mo (T_Mo 14).2.1 (T_Mo 14).2.2.1 := Or.inl (pm_in1 (List.mem_append_right _ (List.mem_append_right _ (List.mem_of_getElem? (i := 2) rfl))))
theorem fl_Mo_46 : pm_fl R_Mo 46 R_Mo (T_Mo 15).2.1 (T_Mo 15).2.2.1 := Or.inl (pm_in1 (List.mem_append_right _ (List.mem_append_right _ (List.mem_of_getElem? (i := 3) rfl))))
theorem fl_Mo_49 : pm_fl R_Mo 49 R_Mo (T_Mo 16).2.1 (T_Mo 16).2.2.1 := Or.inl (pm_in1 (List.mem_append_right _ (List.mem_append_right _ (List.mem_of_getElem? (i := 4) rfl))))
theorem fl_Mo_52 : pm_fl R_Mo 52 R_Mo (T_Mo 18).2.1 (T_Mo 18).2.2.1 := Or.inl (pm_in1 (List.mem_append_right _ (List.mem_append_right _ (List.mem_of_getElem? (i := 6) rfl))))
theorem fl_Mo_55 : pm_fl R_Mo 55 R_Mo (T_Mo 19).2.1 (T_Mo 19).2.2.1 := Or.inl (pm_in1 (List.mem_append_right _ (List.mem_append_right _ (List.mem_of_getElem? (i := 7) rfl))))
theorem fl_Mo_58 : pm_fl R_Mo 58 R_Mo (T_Mo 20).2.1 (T_Mo 20).2.2.1 := Or.inl (pm_in1 (List.mem_append_right _ (List.mem_append_right _ (List.mem_of_getElem? (i := 8) rfl))))
theorem fl_Mo_61 : pm_fl R_Mo 61 R_Mo (T_Mo 21).2.1 (T_Mo 21).2.2.1 := Or.inl (pm_in1 (List.mem_append_right _ (List.mem_append_right _ (List.mem_of_getElem? (i := 9) rfl))))
theorem fl_Mo_65 : pm_fl R_Mo 65 R_Mo (T_Mo 23).2.1 (T_Mo 23).2.2.1 := Or.inl (pm_in1 (List.mem_append_right _ (List.mem_append_right _ (List.mem_of_getElem? (i := 11) rfl))))
theorem fl_Mo_87 : pm_fl R_Mo 87 R_Mo (T_Mo 4).2.1 (T_Mo 4).2.2.1 := Or.inl (pm_in1 (List.mem_append_right _ (List.mem_append_left _ (List.mem_of_getElem? (i := 232) rfl))))
theorem fl_Mo_119 : pm_fl R_Mo 119 R_Mo (T_Mo 6).2.1 (T_Mo 6).2.2.1 := Or.inl (pm_in1 (List.mem_append_right _ (List.mem_append_left _ (List.mem_of_getElem? (i := 234) rfl))))
theorem fl_Mo_108 : pm_fl R_Mo 108 R_Mo (T_Mo 11).2.1 (T_Mo 11).2.2.1 := Or.inl (pm_in1 (List.mem_append_right _ (List.mem_append_left _ (List.mem_of_getElem? (i := 239) rfl))))
theorem fl_Mo_123 : pm_fl R_Mo 123 R_Mo (T_Mo 17).2.1 (T_Mo 17).2.2.1 := Or.inl (pm_in1 (List.mem_append_right _ (List.mem_append_right _ (List.mem_of_getElem? (i := 5) rfl))))
theorem fl_Mo_126 : pm_fl R_Mo 126 R_Mo (T_Mo 22).2.1 (T_Mo 22).2.2.1 := Or.inl (pm_in1 (List.mem_append_right _ (List.mem_append_right _ (List.mem_of_getElem? (i := 10) rfl))))
abbrev y_Lo_init : MethodName := ⟨R_Lo, "<init>", "()V"⟩
theorem mc_Lo_init : Cond.code y_Lo_init prog_1_method_1_code 1 (none) ∈ lw_tbl := pm_in1 (List.mem_append_left _ (List.mem_of_getElem? (i := 17) rfl))
theorem yd_Lo_init : pm_yd y_Lo_init 0 := ⟨by decide +kernel, by decide +kernel, by decide +kernel⟩
theorem mj_Lo_init : Cond.instanceMethod y_Lo_init ∈ lw_tbl := pm_in1 (List.mem_append_left _ (List.mem_of_getElem? (i := 16) rfl))
abbrev y_Lo_statement : MethodName := ⟨R_Lo, "statement", "(II)I"⟩
theorem mc_Lo_statement : Cond.code y_Lo_statement prog_1_method_2_code 3 (some .int) ∈ lw_tbl := pm_in1 (List.mem_append_left _ (List.mem_of_getElem? (i := 204) rfl))
theorem yd_Lo_statement : pm_yd y_Lo_statement 2 := ⟨by decide +kernel, by decide +kernel, by decide +kernel⟩
theorem mj_Lo_statement : Cond.instanceMethod y_Lo_statement ∈ lw_tbl := pm_in1 (List.mem_append_left _ (List.mem_of_getElem? (i := 202) rfl))
theorem ms_Lo_statement : Cond.selects R_Lo y_Lo_statement y_Lo_statement ∈ lw_tbl := pm_in1 (List.mem_append_left _ (List.mem_of_getElem? (i := 203) rfl))
abbrev y_Lo_isBelow : MethodName := ⟨R_Lo, "isBelow", "(II)Z"⟩
theorem mc_Lo_isBelow : Cond.code y_Lo_isBelow prog_1_method_16_code 2 (some .boolean) ∈ lw_tbl := pm_in1 (List.mem_append_left _ (List.mem_of_getElem? (i := 214) rfl))
theorem yd_Lo_isBelow : pm_yd y_Lo_isBelow 2 := ⟨by decide +kernel, by decide +kernel, by decide +kernel⟩
theorem mt_Lo_isBelow : Cond.static y_Lo_isBelow ∈ lw_tbl := pm_in1 (List.mem_append_left _ (List.mem_of_getElem? (i := 213) rfl))
abbrev y_Lo_body : MethodName := ⟨R_Lo, "body", "(I)I"⟩
theorem mc_Lo_body : Cond.code y_Lo_body prog_1_method_3_code 2 (some .int) ∈ lw_tbl := pm_in1 (List.mem_append_left _ (List.mem_of_getElem? (i := 222) rfl))
theorem yd_Lo_body : pm_yd y_Lo_body 1 := ⟨by decide +kernel, by decide +kernel, by decide +kernel⟩
theorem mj_Lo_body : Cond.instanceMethod y_Lo_body ∈ lw_tbl := pm_in1 (List.mem_append_left _ (List.mem_of_getElem? (i := 220) rfl))
theorem ms_Lo_body : Cond.selects R_Lo y_Lo_body y_Lo_body ∈ lw_tbl := pm_in1 (List.mem_append_left _ (List.mem_of_getElem? (i := 221) rfl))
abbrev y_Lo_guard : MethodName := ⟨R_Lo, "guard", "(II)Z"⟩
theorem mc_Lo_guard : Cond.code y_Lo_guard prog_1_method_4_code 3 (some .boolean) ∈ lw_tbl := pm_in1 (List.mem_append_right _ (List.mem_append_left _ (List.mem_of_getElem? (i := 2) rfl)))
theorem yd_Lo_guard : pm_yd y_Lo_guard 2 := ⟨by decide +kernel, by decide +kernel, by decide +kernel⟩
theorem mj_Lo_guard : Cond.instanceMethod y_Lo_guard ∈ lw_tbl := pm_in1 (List.mem_append_right _ (List.mem_append_left _ (List.mem_of_getElem? (i := 0) rfl)))
theorem ms_Lo_guard : Cond.selects R_Lo y_Lo_guard y_Lo_guard ∈ lw_tbl := pm_in1 (List.mem_append_right _ (List.mem_append_left _ (List.mem_of_getElem? (i := 1) rfl)))
abbrev y_Lo_check : MethodName := ⟨R_Lo, "check", "(I)I"⟩
theorem mc_Lo_check : Cond.code y_Lo_check prog_1_method_5_code 2 (some .int) ∈ lw_tbl := pm_in1 (List.mem_append_right _ (List.mem_append_left _ (List.mem_of_getElem? (i := 10) rfl)))
theorem yd_Lo_check : pm_yd y_Lo_check 1 := ⟨by decide +kernel, by decide +kernel, by decide +kernel⟩
theorem mj_Lo_check : Cond.instanceMethod y_Lo_check ∈ lw_tbl := pm_in1 (List.mem_append_right _ (List.mem_append_left _ (List.mem_of_getElem? (i := 8) rfl)))
theorem ms_Lo_check : Cond.selects R_Lo y_Lo_check y_Lo_check ∈ lw_tbl := pm_in1 (List.mem_append_right _ (List.mem_append_left _ (List.mem_of_getElem? (i := 9) rfl)))
abbrev y_Lo_sound : MethodName := ⟨R_Lo, "sound", "()Z"⟩
theorem mc_Lo_sound : Cond.code y_Lo_sound prog_1_method_6_code 1 (some .boolean) ∈ lw_tbl := pm_in1 (List.mem_append_right _ (List.mem_append_left _ (List.mem_of_getElem? (i := 31) rfl)))
theorem yd_Lo_sound : pm_yd y_Lo_sound 0 := ⟨by decide +kernel, by decide +kernel, by decide +kernel⟩
theorem mj_Lo_sound : Cond.instanceMethod y_Lo_sound ∈ lw_tbl := pm_in1 (List.mem_append_right _ (List.mem_append_left _ (List.mem_of_getElem? (i := 29) rfl)))
theorem ms_Lo_sound : Cond.selects R_Lo y_Lo_sound y_Lo_sound ∈ lw_tbl := pm_in1 (List.mem_append_right _ (List.mem_append_left _ (List.mem_of_getElem? (i := 30) rfl)))
abbrev y_Lo_start : MethodName := ⟨R_Lo, "start", "(II)Z"⟩
theorem mc_Lo_start : Cond.code y_Lo_start prog_1_method_7_code 3 (some .boolean) ∈ lw_tbl := pm_in1 (List.mem_append_right _ (List.mem_append_left _ (List.mem_of_getElem? (i := 40) rfl)))
theorem yd_Lo_start : pm_yd y_Lo_start 2 := ⟨by decide +kernel, by decide +kernel, by decide +kernel⟩
theorem mj_Lo_start : Cond.instanceMethod y_Lo_start ∈ lw_tbl := pm_in1 (List.mem_append_right _ (List.mem_append_left _ (List.mem_of_getElem? (i := 38) rfl)))
theorem ms_Lo_start : Cond.selects R_Lo y_Lo_start y_Lo_start ∈ lw_tbl := pm_in1 (List.mem_append_right _ (List.mem_append_left _ (List.mem_of_getElem? (i := 39) rfl)))
abbrev y_Lo_step : MethodName := ⟨R_Lo, "step", "(I)I"⟩
theorem mc_Lo_step : Cond.code y_Lo_step prog_1_method_8_code 2 (some .int) ∈ lw_tbl := pm_in1 (List.mem_append_right _ (List.mem_append_left _ (List.mem_of_getElem? (i := 82) rfl)))
theorem yd_Lo_step : pm_yd y_Lo_step 1 := ⟨by decide +kernel, by decide +kernel, by decide +kernel⟩
theorem mj_Lo_step : Cond.instanceMethod y_Lo_step ∈ lw_tbl := pm_in1 (List.mem_append_right _ (List.mem_append_left _ (List.mem_of_getElem? (i := 80) rfl)))
theorem ms_Lo_step : Cond.selects R_Lo y_Lo_step y_Lo_step ∈ lw_tbl := pm_in1 (List.mem_append_right _ (List.mem_append_left _ (List.mem_of_getElem? (i := 81) rfl)))
abbrev y_Lo_has : MethodName := ⟨R_Lo, "has", "(I)I"⟩
theorem mc_Lo_has : Cond.code y_Lo_has prog_1_method_9_code 2 (some .int) ∈ lw_tbl := pm_in1 (List.mem_append_right _ (List.mem_append_left _ (List.mem_of_getElem? (i := 160) rfl)))
theorem yd_Lo_has : pm_yd y_Lo_has 1 := ⟨by decide +kernel, by decide +kernel, by decide +kernel⟩
theorem mj_Lo_has : Cond.instanceMethod y_Lo_has ∈ lw_tbl := pm_in1 (List.mem_append_right _ (List.mem_append_left _ (List.mem_of_getElem? (i := 158) rfl)))
theorem ms_Lo_has : Cond.selects R_Lo y_Lo_has y_Lo_has ∈ lw_tbl := pm_in1 (List.mem_append_right _ (List.mem_append_left _ (List.mem_of_getElem? (i := 159) rfl)))
abbrev y_Lo_cell : MethodName := ⟨R_Lo, "cell", "(I)I"⟩
theorem mc_Lo_cell : Cond.code y_Lo_cell prog_1_method_10_code 2 (some .int) ∈ lw_tbl := pm_in1 (List.mem_append_right _ (List.mem_append_left _ (List.mem_of_getElem? (i := 168) rfl)))
theorem yd_Lo_cell : pm_yd y_Lo_cell 1 := ⟨by decide +kernel, by decide +kernel, by decide +kernel⟩
theorem mj_Lo_cell : Cond.instanceMethod y_Lo_cell ∈ lw_tbl := pm_in1 (List.mem_append_right _ (List.mem_append_left _ (List.mem_of_getElem? (i := 166) rfl)))
theorem ms_Lo_cell : Cond.selects R_Lo y_Lo_cell y_Lo_cell ∈ lw_tbl := pm_in1 (List.mem_append_right _ (List.mem_append_left _ (List.mem_of_getElem? (i := 167) rfl)))
abbrev y_Lo_holder : MethodName := ⟨R_Lo, "holder", "(I)I"⟩
theorem mc_Lo_holder : Cond.code y_Lo_holder prog_1_method_11_code 2 (some .int) ∈ lw_tbl := pm_in1 (List.mem_append_right _ (List.mem_append_left _ (List.mem_of_getElem? (i := 176) rfl)))
theorem yd_Lo_holder : pm_yd y_Lo_holder 1 := ⟨by decide +kernel, by decide +kernel, by decide +kernel⟩
theorem mj_Lo_holder : Cond.instanceMethod y_Lo_holder ∈ lw_tbl := pm_in1 (List.mem_append_right _ (List.mem_append_left _ (List.mem_of_getElem? (i := 174) rfl)))
theorem ms_Lo_holder : Cond.selects R_Lo y_Lo_holder y_Lo_holder ∈ lw_tbl := pm_in1 (List.mem_append_right _ (List.mem_append_left _ (List.mem_of_getElem? (i := 175) rfl)))
abbrev y_Lo_state : MethodName := ⟨R_Lo, "state", "(I)I"⟩
theorem mc_Lo_state : Cond.code y_Lo_state prog_1_method_12_code 2 (some .int) ∈ lw_tbl := pm_in1 (List.mem_append_right _ (List.mem_append_left _ (List.mem_of_getElem? (i := 184) rfl)))
theorem yd_Lo_state : pm_yd y_Lo_state 1 := ⟨by decide +kernel, by decide +kernel, by decide +kernel⟩
theorem mj_Lo_state : Cond.instanceMethod y_Lo_state ∈ lw_tbl := pm_in1 (List.mem_append_right _ (List.mem_append_left _ (List.mem_of_getElem? (i := 182) rfl)))
theorem ms_Lo_state : Cond.selects R_Lo y_Lo_state y_Lo_state ∈ lw_tbl := pm_in1 (List.mem_append_right _ (List.mem_append_left _ (List.mem_of_getElem? (i := 183) rfl)))
abbrev y_Lo_count : MethodName := ⟨R_Lo, "count", "(I)I"⟩
theorem mc_Lo_count : Cond.code y_Lo_count prog_1_method_13_code 2 (some .int) ∈ lw_tbl := pm_in1 (List.mem_append_right _ (List.mem_append_left _ (List.mem_of_getElem? (i := 192) rfl)))
theorem yd_Lo_count : pm_yd y_Lo_count 1 := ⟨by decide +kernel, by decide +kernel, by decide +kernel⟩
theorem mj_Lo_count : Cond.instanceMethod y_Lo_count ∈ lw_tbl := pm_in1 (List.mem_append_right _ (List.mem_append_left _ (List.mem_of_getElem? (i := 190) rfl)))
theorem ms_Lo_count : Cond.selects R_Lo y_Lo_count y_Lo_count ∈ lw_tbl := pm_in1 (List.mem_append_right _ (List.mem_append_left _ (List.mem_of_getElem? (i := 191) rfl)))
abbrev y_Lo_race : MethodName := ⟨R_Lo, "race", "(II)I"⟩
theorem mc_Lo_race : Cond.code y_Lo_race prog_1_method_14_code 3 (some .int) ∈ lw_tbl := pm_in1 (List.mem_append_right _ (List.mem_append_left _ (List.mem_of_getElem? (i := 200) rfl)))
theorem yd_Lo_race : pm_yd y_Lo_race 2 := ⟨by decide +kernel, by decide +kernel, by decide +kernel⟩
theorem mj_Lo_race : Cond.instanceMethod y_Lo_race ∈ lw_tbl := pm_in1 (List.mem_append_right _ (List.mem_append_left _ (List.mem_of_getElem? (i := 198) rfl)))
theorem ms_Lo_race : Cond.selects R_Lo y_Lo_race y_Lo_race ∈ lw_tbl := pm_in1 (List.mem_append_right _ (List.mem_append_left _ (List.mem_of_getElem? (i := 199) rfl)))
abbrev y_Lo_stuck : MethodName := ⟨R_Lo, "stuck", "()Z"⟩
theorem mc_Lo_stuck : Cond.code y_Lo_stuck prog_1_method_15_code 1 (some .boolean) ∈ lw_tbl := pm_in1 (List.mem_append_right _ (List.mem_append_left _ (List.mem_of_getElem? (i := 216) rfl)))
theorem yd_Lo_stuck : pm_yd y_Lo_stuck 0 := ⟨by decide +kernel, by decide +kernel, by decide +kernel⟩
theorem mj_Lo_stuck : Cond.instanceMethod y_Lo_stuck ∈ lw_tbl := pm_in1 (List.mem_append_right _ (List.mem_append_left _ (List.mem_of_getElem? (i := 214) rfl)))
theorem ms_Lo_stuck : Cond.selects R_Lo y_Lo_stuck y_Lo_stuck ∈ lw_tbl := pm_in1 (List.mem_append_right _ (List.mem_append_left _ (List.mem_of_getElem? (i := 215) rfl)))
abbrev y_Sh_init : MethodName := ⟨R_Sh, "<init>", "()V"⟩
theorem mc_Sh_init : Cond.code y_Sh_init prog_7_method_1_code 2 (none) ∈ lw_tbl := pm_in1 (List.mem_append_left _ (List.mem_of_getElem? (i := 25) rfl))
theorem yd_Sh_init : pm_yd y_Sh_init 0 := ⟨by decide +kernel, by decide +kernel, by decide +kernel⟩
theorem mj_Sh_init : Cond.instanceMethod y_Sh_init ∈ lw_tbl := pm_in1 (List.mem_append_left _ (List.mem_of_getElem? (i := 24) rfl))
abbrev y_Sh_addStatement : MethodName := ⟨R_Sh, "addStatement", "(II)I"⟩
theorem mc_Sh_addStatement : Cond.code y_Sh_addStatement prog_7_method_3_code 3 (some .int) ∈ lw_tbl := pm_in1 (List.mem_append_left _ (List.mem_of_getElem? (i := 208) rfl))
theorem yd_Sh_addStatement : pm_yd y_Sh_addStatement 2 := ⟨by decide +kernel, by decide +kernel, by decide +kernel⟩
theorem mj_Sh_addStatement : Cond.instanceMethod y_Sh_addStatement ∈ lw_tbl := pm_in1 (List.mem_append_left _ (List.mem_of_getElem? (i := 206) rfl))
theorem ms_Sh_addStatement : Cond.selects R_Sh y_Sh_addStatement y_Sh_addStatement ∈ lw_tbl := pm_in1 (List.mem_append_left _ (List.mem_of_getElem? (i := 207) rfl))
abbrev y_Sh_fits : MethodName := ⟨R_Sh, "fits", "(II)Z"⟩
theorem mc_Sh_fits : Cond.code y_Sh_fits prog_7_method_4_code 2 (some .boolean) ∈ lw_tbl := pm_in1 (List.mem_append_left _ (List.mem_of_getElem? (i := 211) rfl))
theorem yd_Sh_fits : pm_yd y_Sh_fits 2 := ⟨by decide +kernel, by decide +kernel, by decide +kernel⟩
theorem mt_Sh_fits : Cond.static y_Sh_fits ∈ lw_tbl := pm_in1 (List.mem_append_left _ (List.mem_of_getElem? (i := 210) rfl))
abbrev y_Sh_closeText : MethodName := ⟨R_Sh, "closeText", "(I)I"⟩
theorem mc_Sh_closeText : Cond.code y_Sh_closeText prog_7_method_5_code 3 (some .int) ∈ lw_tbl := pm_in1 (List.mem_append_left _ (List.mem_of_getElem? (i := 226) rfl))
theorem yd_Sh_closeText : pm_yd y_Sh_closeText 1 := ⟨by decide +kernel, by decide +kernel, by decide +kernel⟩
theorem mj_Sh_closeText : Cond.instanceMethod y_Sh_closeText ∈ lw_tbl := pm_in1 (List.mem_append_left _ (List.mem_of_getElem? (i := 224) rfl))
theorem ms_Sh_closeText : Cond.selects R_Sh y_Sh_closeText y_Sh_closeText ∈ lw_tbl := pm_in1 (List.mem_append_left _ (List.mem_of_getElem? (i := 225) rfl))
abbrev y_Sh_setGuard : MethodName := ⟨R_Sh, "setGuard", "(II)Z"⟩
theorem mc_Sh_setGuard : Cond.code y_Sh_setGuard prog_7_method_6_code 3 (some .boolean) ∈ lw_tbl := pm_in1 (List.mem_append_right _ (List.mem_append_left _ (List.mem_of_getElem? (i := 6) rfl)))
theorem yd_Sh_setGuard : pm_yd y_Sh_setGuard 2 := ⟨by decide +kernel, by decide +kernel, by decide +kernel⟩
theorem mj_Sh_setGuard : Cond.instanceMethod y_Sh_setGuard ∈ lw_tbl := pm_in1 (List.mem_append_right _ (List.mem_append_left _ (List.mem_of_getElem? (i := 4) rfl)))
theorem ms_Sh_setGuard : Cond.selects R_Sh y_Sh_setGuard y_Sh_setGuard ∈ lw_tbl := pm_in1 (List.mem_append_right _ (List.mem_append_left _ (List.mem_of_getElem? (i := 5) rfl)))
abbrev y_Sh_contains : MethodName := ⟨R_Sh, "contains", "(I)Z"⟩
theorem mc_Sh_contains : Cond.code y_Sh_contains prog_7_method_2_code 2 (some .boolean) ∈ lw_tbl := pm_in1 (List.mem_append_right _ (List.mem_append_left _ (List.mem_of_getElem? (i := 14) rfl)))
theorem yd_Sh_contains : pm_yd y_Sh_contains 1 := ⟨by decide +kernel, by decide +kernel, by decide +kernel⟩
theorem mj_Sh_contains : Cond.instanceMethod y_Sh_contains ∈ lw_tbl := pm_in1 (List.mem_append_right _ (List.mem_append_left _ (List.mem_of_getElem? (i := 12) rfl)))
theorem ms_Sh_contains : Cond.selects R_Sh y_Sh_contains y_Sh_contains ∈ lw_tbl := pm_in1 (List.mem_append_right _ (List.mem_append_left _ (List.mem_of_getElem? (i := 13) rfl)))
abbrev y_Sh_firstWrong : MethodName := ⟨R_Sh, "firstWrong", "(I)I"⟩
theorem mc_Sh_firstWrong : Cond.code y_Sh_firstWrong prog_7_method_7_code 4 (some .int) ∈ lw_tbl := pm_in1 (List.mem_append_right _ (List.mem_append_left _ (List.mem_of_getElem? (i := 18) rfl)))
theorem yd_Sh_firstWrong : pm_yd y_Sh_firstWrong 1 := ⟨by decide +kernel, by decide +kernel, by decide +kernel⟩
theorem mj_Sh_firstWrong : Cond.instanceMethod y_Sh_firstWrong ∈ lw_tbl := pm_in1 (List.mem_append_right _ (List.mem_append_left _ (List.mem_of_getElem? (i := 16) rfl)))
theorem ms_Sh_firstWrong : Cond.selects R_Sh y_Sh_firstWrong y_Sh_firstWrong ∈ lw_tbl := pm_in1 (List.mem_append_right _ (List.mem_append_left _ (List.mem_of_getElem? (i := 17) rfl)))
abbrev y_Sh_isRight : MethodName := ⟨R_Sh, "isRight", "(LLockLoom$Body;I)Z"⟩
theorem mc_Sh_isRight : Cond.code y_Sh_isRight prog_7_method_9_code 5 (some .boolean) ∈ lw_tbl := pm_in1 (List.mem_append_right _ (List.mem_append_left _ (List.mem_of_getElem? (i := 22) rfl)))
theorem yd_Sh_isRight : pm_yd y_Sh_isRight 2 := ⟨by decide +kernel, by decide +kernel, by decide +kernel⟩
theorem mj_Sh_isRight : Cond.instanceMethod y_Sh_isRight ∈ lw_tbl := pm_in1 (List.mem_append_right _ (List.mem_append_left _ (List.mem_of_getElem? (i := 21) rfl)))
theorem ms_Sh_isRight : Cond.selects R_Sh y_Sh_isRight y_Sh_isRight ∈ lw_tbl := pm_in0 (List.mem_of_getElem? (i := 1) rfl)
abbrev y_Sh_guardHeld : MethodName := ⟨R_Sh, "guardHeld", "(II)Z"⟩
theorem mc_Sh_guardHeld : Cond.code y_Sh_guardHeld prog_7_method_10_code 3 (some .boolean) ∈ lw_tbl := pm_in1 (List.mem_append_right _ (List.mem_append_left _ (List.mem_of_getElem? (i := 26) rfl)))
theorem yd_Sh_guardHeld : pm_yd y_Sh_guardHeld 2 := ⟨by decide +kernel, by decide +kernel, by decide +kernel⟩
theorem mj_Sh_guardHeld : Cond.instanceMethod y_Sh_guardHeld ∈ lw_tbl := pm_in1 (List.mem_append_right _ (List.mem_append_left _ (List.mem_of_getElem? (i := 25) rfl)))
theorem ms_Sh_guardHeld : Cond.selects R_Sh y_Sh_guardHeld y_Sh_guardHeld ∈ lw_tbl := pm_in0 (List.mem_of_getElem? (i := 2) rfl)
abbrev y_Sh_allRight : MethodName := ⟨R_Sh, "allRight", "()Z"⟩
theorem mc_Sh_allRight : Cond.code y_Sh_allRight prog_7_method_8_code 2 (some .boolean) ∈ lw_tbl := pm_in1 (List.mem_append_right _ (List.mem_append_left _ (List.mem_of_getElem? (i := 35) rfl)))
theorem yd_Sh_allRight : pm_yd y_Sh_allRight 0 := ⟨by decide +kernel, by decide +kernel, by decide +kernel⟩
theorem mj_Sh_allRight : Cond.instanceMethod y_Sh_allRight ∈ lw_tbl := pm_in1 (List.mem_append_right _ (List.mem_append_left _ (List.mem_of_getElem? (i := 33) rfl)))
theorem ms_Sh_allRight : Cond.selects R_Sh y_Sh_allRight y_Sh_allRight ∈ lw_tbl := pm_in1 (List.mem_append_right _ (List.mem_append_left _ (List.mem_of_getElem? (i := 34) rfl)))
abbrev y_Bo_init : MethodName := ⟨R_Bo, "<init>", "()V"⟩
theorem mc_Bo_init : Cond.code y_Bo_init prog_2_method_1_code 1 (none) ∈ lw_tbl := pm_in1 (List.mem_append_left _ (List.mem_of_getElem? (i := 32) rfl))
theorem yd_Bo_init : pm_yd y_Bo_init 0 := ⟨by decide +kernel, by decide +kernel, by decide +kernel⟩
theorem mj_Bo_init : Cond.instanceMethod y_Bo_init ∈ lw_tbl := pm_in1 (List.mem_append_left _ (List.mem_of_getElem? (i := 31) rfl))
abbrev y_Bo_append : MethodName := ⟨R_Bo, "append", "(II)I"⟩
theorem mc_Bo_append : Cond.code y_Bo_append prog_2_method_3_code 3 (some .int) ∈ lw_tbl := pm_in1 (List.mem_append_left _ (List.mem_of_getElem? (i := 218) rfl))
theorem yd_Bo_append : pm_yd y_Bo_append 2 := ⟨by decide +kernel, by decide +kernel, by decide +kernel⟩
theorem mj_Bo_append : Cond.instanceMethod y_Bo_append ∈ lw_tbl := pm_in1 (List.mem_append_left _ (List.mem_of_getElem? (i := 216) rfl))
theorem ms_Bo_append : Cond.selects R_Bo y_Bo_append y_Bo_append ∈ lw_tbl := pm_in1 (List.mem_append_left _ (List.mem_of_getElem? (i := 217) rfl))
abbrev y_Bo_joinBlocks : MethodName := ⟨R_Bo, "joinBlocks", "(I)Z"⟩
theorem mc_Bo_joinBlocks : Cond.code y_Bo_joinBlocks prog_2_method_4_code 5 (some .boolean) ∈ lw_tbl := pm_in1 (List.mem_append_left _ (List.mem_of_getElem? (i := 230) rfl))
theorem yd_Bo_joinBlocks : pm_yd y_Bo_joinBlocks 1 := ⟨by decide +kernel, by decide +kernel, by decide +kernel⟩
theorem mj_Bo_joinBlocks : Cond.instanceMethod y_Bo_joinBlocks ∈ lw_tbl := pm_in1 (List.mem_append_left _ (List.mem_of_getElem? (i := 228) rfl))
theorem ms_Bo_joinBlocks : Cond.selects R_Bo y_Bo_joinBlocks y_Bo_joinBlocks ∈ lw_tbl := pm_in1 (List.mem_append_left _ (List.mem_of_getElem? (i := 229) rfl))
abbrev y_Bo_closeBlock : MethodName := ⟨R_Bo, "closeBlock", "(II)I"⟩
theorem mc_Bo_closeBlock : Cond.code y_Bo_closeBlock prog_2_method_5_code 4 (some .int) ∈ lw_tbl := pm_in1 (List.mem_append_left _ (List.mem_of_getElem? (i := 234) rfl))
theorem yd_Bo_closeBlock : pm_yd y_Bo_closeBlock 2 := ⟨by decide +kernel, by decide +kernel, by decide +kernel⟩
theorem mj_Bo_closeBlock : Cond.instanceMethod y_Bo_closeBlock ∈ lw_tbl := pm_in1 (List.mem_append_left _ (List.mem_of_getElem? (i := 233) rfl))
theorem ms_Bo_closeBlock : Cond.selects R_Bo y_Bo_closeBlock y_Bo_closeBlock ∈ lw_tbl := pm_in0 (List.mem_of_getElem? (i := 0) rfl)
abbrev y_Bo_clear : MethodName := ⟨R_Bo, "clear", "()V"⟩
theorem mc_Bo_clear : Cond.code y_Bo_clear prog_2_method_2_code 1 (none) ∈ lw_tbl := pm_in1 (List.mem_append_left _ (List.mem_of_getElem? (i := 238) rfl))
theorem yd_Bo_clear : pm_yd y_Bo_clear 0 := ⟨by decide +kernel, by decide +kernel, by decide +kernel⟩
theorem mj_Bo_clear : Cond.instanceMethod y_Bo_clear ∈ lw_tbl := pm_in1 (List.mem_append_left _ (List.mem_of_getElem? (i := 236) rfl))
theorem ms_Bo_clear : Cond.selects R_Bo y_Bo_clear y_Bo_clear ∈ lw_tbl := pm_in1 (List.mem_append_left _ (List.mem_of_getElem? (i := 237) rfl))
abbrev y_Ru_init : MethodName := ⟨R_Ru, "<init>", "(LLockLoom$Shelf;)V"⟩
theorem mc_Ru_init : Cond.code y_Ru_init prog_6_method_1_code 3 (none) ∈ lw_tbl := pm_in1 (List.mem_append_left _ (List.mem_of_getElem? (i := 84) rfl))
theorem yd_Ru_init : pm_yd y_Ru_init 1 := ⟨by decide +kernel, by decide +kernel, by decide +kernel⟩
theorem mj_Ru_init : Cond.instanceMethod y_Ru_init ∈ lw_tbl := pm_in1 (List.mem_append_left _ (List.mem_of_getElem? (i := 83) rfl))
abbrev y_Ru_begin : MethodName := ⟨R_Ru, "begin", "(II)V"⟩
theorem mc_Ru_begin : Cond.code y_Ru_begin prog_6_method_2_code 4 (none) ∈ lw_tbl := pm_in1 (List.mem_append_right _ (List.mem_append_left _ (List.mem_of_getElem? (i := 44) rfl)))
theorem yd_Ru_begin : pm_yd y_Ru_begin 2 := ⟨by decide +kernel, by decide +kernel, by decide +kernel⟩
theorem mj_Ru_begin : Cond.instanceMethod y_Ru_begin ∈ lw_tbl := pm_in1 (List.mem_append_right _ (List.mem_append_left _ (List.mem_of_getElem? (i := 42) rfl)))
theorem ms_Ru_begin : Cond.selects R_Ru y_Ru_begin y_Ru_begin ∈ lw_tbl := pm_in1 (List.mem_append_right _ (List.mem_append_left _ (List.mem_of_getElem? (i := 43) rfl)))
abbrev y_Ru_leaveEnded : MethodName := ⟨R_Ru, "leaveEnded", "(LLockLoom$Strand;)V"⟩
theorem mc_Ru_leaveEnded : Cond.code y_Ru_leaveEnded prog_6_method_6_code 2 (none) ∈ lw_tbl := pm_in1 (List.mem_append_right _ (List.mem_append_left _ (List.mem_of_getElem? (i := 71) rfl)))
theorem yd_Ru_leaveEnded : pm_yd y_Ru_leaveEnded 1 := ⟨by decide +kernel, by decide +kernel, by decide +kernel⟩
theorem mj_Ru_leaveEnded : Cond.instanceMethod y_Ru_leaveEnded ∈ lw_tbl := pm_in1 (List.mem_append_right _ (List.mem_append_left _ (List.mem_of_getElem? (i := 70) rfl)))
theorem ms_Ru_leaveEnded : Cond.selects R_Ru y_Ru_leaveEnded y_Ru_leaveEnded ∈ lw_tbl := pm_in0 (List.mem_of_getElem? (i := 3) rfl)
abbrev y_Ru_placeOf : MethodName := ⟨R_Ru, "placeOf", "(LLockLoom$Strand;)I"⟩
theorem mc_Ru_placeOf : Cond.code y_Ru_placeOf prog_6_method_5_code 1 (some .int) ∈ lw_tbl := pm_in1 (List.mem_append_right _ (List.mem_append_left _ (List.mem_of_getElem? (i := 74) rfl)))
theorem yd_Ru_placeOf : pm_yd y_Ru_placeOf 1 := ⟨by decide +kernel, by decide +kernel, by decide +kernel⟩
theorem mt_Ru_placeOf : Cond.static y_Ru_placeOf ∈ lw_tbl := pm_in1 (List.mem_append_right _ (List.mem_append_left _ (List.mem_of_getElem? (i := 73) rfl)))
abbrev y_Ru_bodyOf : MethodName := ⟨R_Ru, "bodyOf", "(LLockLoom$Strand;)LLockLoom$Body;"⟩
theorem mc_Ru_bodyOf : Cond.code y_Ru_bodyOf prog_6_method_4_code 2 (some (.object "LockLoom$Body")) ∈ lw_tbl := pm_in1 (List.mem_append_right _ (List.mem_append_left _ (List.mem_of_getElem? (i := 78) rfl)))
theorem yd_Ru_bodyOf : pm_yd y_Ru_bodyOf 1 := ⟨by decide +kernel, by decide +kernel, by decide +kernel⟩
theorem mj_Ru_bodyOf : Cond.instanceMethod y_Ru_bodyOf ∈ lw_tbl := pm_in1 (List.mem_append_right _ (List.mem_append_left _ (List.mem_of_getElem? (i := 77) rfl)))
theorem ms_Ru_bodyOf : Cond.selects R_Ru y_Ru_bodyOf y_Ru_bodyOf ∈ lw_tbl := pm_in0 (List.mem_of_getElem? (i := 4) rfl)
abbrev y_Ru_advance : MethodName := ⟨R_Ru, "advance", "(I)I"⟩
theorem mc_Ru_advance : Cond.code y_Ru_advance prog_6_method_3_code 3 (some .int) ∈ lw_tbl := pm_in1 (List.mem_append_right _ (List.mem_append_left _ (List.mem_of_getElem? (i := 86) rfl)))
theorem yd_Ru_advance : pm_yd y_Ru_advance 1 := ⟨by decide +kernel, by decide +kernel, by decide +kernel⟩
theorem mj_Ru_advance : Cond.instanceMethod y_Ru_advance ∈ lw_tbl := pm_in1 (List.mem_append_right _ (List.mem_append_left _ (List.mem_of_getElem? (i := 84) rfl)))
theorem ms_Ru_advance : Cond.selects R_Ru y_Ru_advance y_Ru_advance ∈ lw_tbl := pm_in1 (List.mem_append_right _ (List.mem_append_left _ (List.mem_of_getElem? (i := 85) rfl)))
abbrev y_Ru_wouldWait : MethodName := ⟨R_Ru, "wouldWait", "(LLockLoom$Strand;)Z"⟩
theorem mc_Ru_wouldWait : Cond.code y_Ru_wouldWait prog_6_method_7_code 4 (some .boolean) ∈ lw_tbl := pm_in1 (List.mem_append_right _ (List.mem_append_left _ (List.mem_of_getElem? (i := 95) rfl)))
theorem yd_Ru_wouldWait : pm_yd y_Ru_wouldWait 1 := ⟨by decide +kernel, by decide +kernel, by decide +kernel⟩
theorem mj_Ru_wouldWait : Cond.instanceMethod y_Ru_wouldWait ∈ lw_tbl := pm_in1 (List.mem_append_right _ (List.mem_append_left _ (List.mem_of_getElem? (i := 94) rfl)))
theorem ms_Ru_wouldWait : Cond.selects R_Ru y_Ru_wouldWait y_Ru_wouldWait ∈ lw_tbl := pm_in0 (List.mem_of_getElem? (i := 5) rfl)
abbrev y_Ru_perform : MethodName := ⟨R_Ru, "perform", "(LLockLoom$Strand;)V"⟩
theorem mc_Ru_perform : Cond.code y_Ru_perform prog_6_method_8_code 5 (none) ∈ lw_tbl := pm_in1 (List.mem_append_right _ (List.mem_append_left _ (List.mem_of_getElem? (i := 103) rfl)))
theorem yd_Ru_perform : pm_yd y_Ru_perform 1 := ⟨by decide +kernel, by decide +kernel, by decide +kernel⟩
theorem mj_Ru_perform : Cond.instanceMethod y_Ru_perform ∈ lw_tbl := pm_in1 (List.mem_append_right _ (List.mem_append_left _ (List.mem_of_getElem? (i := 102) rfl)))
theorem ms_Ru_perform : Cond.selects R_Ru y_Ru_perform y_Ru_perform ∈ lw_tbl := pm_in0 (List.mem_of_getElem? (i := 6) rfl)
abbrev y_Ru_readCell : MethodName := ⟨R_Ru, "readCell", "(LLockLoom$Strand;I)V"⟩
theorem mc_Ru_readCell : Cond.code y_Ru_readCell prog_6_method_9_code 3 (none) ∈ lw_tbl := pm_in1 (List.mem_append_right _ (List.mem_append_left _ (List.mem_of_getElem? (i := 111) rfl)))
theorem yd_Ru_readCell : pm_yd y_Ru_readCell 2 := ⟨by decide +kernel, by decide +kernel, by decide +kernel⟩
theorem mj_Ru_readCell : Cond.instanceMethod y_Ru_readCell ∈ lw_tbl := pm_in1 (List.mem_append_right _ (List.mem_append_left _ (List.mem_of_getElem? (i := 110) rfl)))
theorem ms_Ru_readCell : Cond.selects R_Ru y_Ru_readCell y_Ru_readCell ∈ lw_tbl := pm_in0 (List.mem_of_getElem? (i := 7) rfl)
abbrev y_Ru_noteRace : MethodName := ⟨R_Ru, "noteRace", "(LLockLoom$Strand;IZ)V"⟩
theorem mc_Ru_noteRace : Cond.code y_Ru_noteRace prog_6_method_11_code 4 (none) ∈ lw_tbl := pm_in1 (List.mem_append_right _ (List.mem_append_left _ (List.mem_of_getElem? (i := 115) rfl)))
theorem yd_Ru_noteRace : pm_yd y_Ru_noteRace 3 := ⟨by decide +kernel, by decide +kernel, by decide +kernel⟩
theorem mj_Ru_noteRace : Cond.instanceMethod y_Ru_noteRace ∈ lw_tbl := pm_in1 (List.mem_append_right _ (List.mem_append_left _ (List.mem_of_getElem? (i := 114) rfl)))
theorem ms_Ru_noteRace : Cond.selects R_Ru y_Ru_noteRace y_Ru_noteRace ∈ lw_tbl := pm_in0 (List.mem_of_getElem? (i := 8) rfl)
abbrev y_Ru_writeCell : MethodName := ⟨R_Ru, "writeCell", "(LLockLoom$Strand;I)V"⟩
theorem mc_Ru_writeCell : Cond.code y_Ru_writeCell prog_6_method_10_code 3 (none) ∈ lw_tbl := pm_in1 (List.mem_append_right _ (List.mem_append_left _ (List.mem_of_getElem? (i := 127) rfl)))
theorem yd_Ru_writeCell : pm_yd y_Ru_writeCell 2 := ⟨by decide +kernel, by decide +kernel, by decide +kernel⟩
theorem mj_Ru_writeCell : Cond.instanceMethod y_Ru_writeCell ∈ lw_tbl := pm_in1 (List.mem_append_right _ (List.mem_append_left _ (List.mem_of_getElem? (i := 126) rfl)))
theorem ms_Ru_writeCell : Cond.selects R_Ru y_Ru_writeCell y_Ru_writeCell ∈ lw_tbl := pm_in0 (List.mem_of_getElem? (i := 9) rfl)
abbrev y_Ru_endBlock : MethodName := ⟨R_Ru, "endBlock", "(LLockLoom$Strand;LLockLoom$Body;I)V"⟩
theorem mc_Ru_endBlock : Cond.code y_Ru_endBlock prog_6_method_12_code 4 (none) ∈ lw_tbl := pm_in1 (List.mem_append_right _ (List.mem_append_left _ (List.mem_of_getElem? (i := 142) rfl)))
theorem yd_Ru_endBlock : pm_yd y_Ru_endBlock 3 := ⟨by decide +kernel, by decide +kernel, by decide +kernel⟩
theorem mj_Ru_endBlock : Cond.instanceMethod y_Ru_endBlock ∈ lw_tbl := pm_in1 (List.mem_append_right _ (List.mem_append_left _ (List.mem_of_getElem? (i := 141) rfl)))
theorem ms_Ru_endBlock : Cond.selects R_Ru y_Ru_endBlock y_Ru_endBlock ∈ lw_tbl := pm_in0 (List.mem_of_getElem? (i := 10) rfl)
abbrev y_Ru_fork : MethodName := ⟨R_Ru, "fork", "(LLockLoom$Strand;I)V"⟩
theorem mc_Ru_fork : Cond.code y_Ru_fork prog_6_method_13_code 4 (none) ∈ lw_tbl := pm_in1 (List.mem_append_right _ (List.mem_append_left _ (List.mem_of_getElem? (i := 153) rfl)))
theorem yd_Ru_fork : pm_yd y_Ru_fork 2 := ⟨by decide +kernel, by decide +kernel, by decide +kernel⟩
theorem mj_Ru_fork : Cond.instanceMethod y_Ru_fork ∈ lw_tbl := pm_in1 (List.mem_append_right _ (List.mem_append_left _ (List.mem_of_getElem? (i := 152) rfl)))
theorem ms_Ru_fork : Cond.selects R_Ru y_Ru_fork y_Ru_fork ∈ lw_tbl := pm_in0 (List.mem_of_getElem? (i := 11) rfl)
abbrev y_Ru_valueOf : MethodName := ⟨R_Ru, "valueOf", "(I)I"⟩
theorem mc_Ru_valueOf : Cond.code y_Ru_valueOf prog_6_method_14_code 2 (some .int) ∈ lw_tbl := pm_in1 (List.mem_append_right _ (List.mem_append_left _ (List.mem_of_getElem? (i := 164) rfl)))
theorem yd_Ru_valueOf : pm_yd y_Ru_valueOf 1 := ⟨by decide +kernel, by decide +kernel, by decide +kernel⟩
theorem mj_Ru_valueOf : Cond.instanceMethod y_Ru_valueOf ∈ lw_tbl := pm_in1 (List.mem_append_right _ (List.mem_append_left _ (List.mem_of_getElem? (i := 162) rfl)))
theorem ms_Ru_valueOf : Cond.selects R_Ru y_Ru_valueOf y_Ru_valueOf ∈ lw_tbl := pm_in1 (List.mem_append_right _ (List.mem_append_left _ (List.mem_of_getElem? (i := 163) rfl)))
abbrev y_Ru_contentOf : MethodName := ⟨R_Ru, "contentOf", "(I)I"⟩
theorem mc_Ru_contentOf : Cond.code y_Ru_contentOf prog_6_method_15_code 2 (some .int) ∈ lw_tbl := pm_in1 (List.mem_append_right _ (List.mem_append_left _ (List.mem_of_getElem? (i := 172) rfl)))
theorem yd_Ru_contentOf : pm_yd y_Ru_contentOf 1 := ⟨by decide +kernel, by decide +kernel, by decide +kernel⟩
theorem mj_Ru_contentOf : Cond.instanceMethod y_Ru_contentOf ∈ lw_tbl := pm_in1 (List.mem_append_right _ (List.mem_append_left _ (List.mem_of_getElem? (i := 170) rfl)))
theorem ms_Ru_contentOf : Cond.selects R_Ru y_Ru_contentOf y_Ru_contentOf ∈ lw_tbl := pm_in1 (List.mem_append_right _ (List.mem_append_left _ (List.mem_of_getElem? (i := 171) rfl)))
abbrev y_Ru_holderOf : MethodName := ⟨R_Ru, "holderOf", "(I)I"⟩
theorem mc_Ru_holderOf : Cond.code y_Ru_holderOf prog_6_method_16_code 2 (some .int) ∈ lw_tbl := pm_in1 (List.mem_append_right _ (List.mem_append_left _ (List.mem_of_getElem? (i := 180) rfl)))
theorem yd_Ru_holderOf : pm_yd y_Ru_holderOf 1 := ⟨by decide +kernel, by decide +kernel, by decide +kernel⟩
theorem mj_Ru_holderOf : Cond.instanceMethod y_Ru_holderOf ∈ lw_tbl := pm_in1 (List.mem_append_right _ (List.mem_append_left _ (List.mem_of_getElem? (i := 178) rfl)))
theorem ms_Ru_holderOf : Cond.selects R_Ru y_Ru_holderOf y_Ru_holderOf ∈ lw_tbl := pm_in1 (List.mem_append_right _ (List.mem_append_left _ (List.mem_of_getElem? (i := 179) rfl)))
abbrev y_Ru_stateOf : MethodName := ⟨R_Ru, "stateOf", "(I)I"⟩
theorem mc_Ru_stateOf : Cond.code y_Ru_stateOf prog_6_method_17_code 2 (some .int) ∈ lw_tbl := pm_in1 (List.mem_append_right _ (List.mem_append_left _ (List.mem_of_getElem? (i := 188) rfl)))
theorem yd_Ru_stateOf : pm_yd y_Ru_stateOf 1 := ⟨by decide +kernel, by decide +kernel, by decide +kernel⟩
theorem mj_Ru_stateOf : Cond.instanceMethod y_Ru_stateOf ∈ lw_tbl := pm_in1 (List.mem_append_right _ (List.mem_append_left _ (List.mem_of_getElem? (i := 186) rfl)))
theorem ms_Ru_stateOf : Cond.selects R_Ru y_Ru_stateOf y_Ru_stateOf ∈ lw_tbl := pm_in1 (List.mem_append_right _ (List.mem_append_left _ (List.mem_of_getElem? (i := 187) rfl)))
abbrev y_Ru_countOf : MethodName := ⟨R_Ru, "countOf", "(I)I"⟩
theorem mc_Ru_countOf : Cond.code y_Ru_countOf prog_6_method_18_code 2 (some .int) ∈ lw_tbl := pm_in1 (List.mem_append_right _ (List.mem_append_left _ (List.mem_of_getElem? (i := 196) rfl)))
theorem yd_Ru_countOf : pm_yd y_Ru_countOf 1 := ⟨by decide +kernel, by decide +kernel, by decide +kernel⟩
theorem mj_Ru_countOf : Cond.instanceMethod y_Ru_countOf ∈ lw_tbl := pm_in1 (List.mem_append_right _ (List.mem_append_left _ (List.mem_of_getElem? (i := 194) rfl)))
theorem ms_Ru_countOf : Cond.selects R_Ru y_Ru_countOf y_Ru_countOf ∈ lw_tbl := pm_in1 (List.mem_append_right _ (List.mem_append_left _ (List.mem_of_getElem? (i := 195) rfl)))
abbrev y_Ru_racePart : MethodName := ⟨R_Ru, "racePart", "(II)I"⟩
theorem mc_Ru_racePart : Cond.code y_Ru_racePart prog_6_method_19_code 3 (some .int) ∈ lw_tbl := pm_in1 (List.mem_append_right _ (List.mem_append_left _ (List.mem_of_getElem? (i := 204) rfl)))
theorem yd_Ru_racePart : pm_yd y_Ru_racePart 2 := ⟨by decide +kernel, by decide +kernel, by decide +kernel⟩
theorem mj_Ru_racePart : Cond.instanceMethod y_Ru_racePart ∈ lw_tbl := pm_in1 (List.mem_append_right _ (List.mem_append_left _ (List.mem_of_getElem? (i := 202) rfl)))
theorem ms_Ru_racePart : Cond.selects R_Ru y_Ru_racePart y_Ru_racePart ∈ lw_tbl := pm_in1 (List.mem_append_right _ (List.mem_append_left _ (List.mem_of_getElem? (i := 203) rfl)))
abbrev y_Ru_isStuck : MethodName := ⟨R_Ru, "isStuck", "()Z"⟩
theorem mc_Ru_isStuck : Cond.code y_Ru_isStuck prog_6_method_20_code 4 (some .boolean) ∈ lw_tbl := pm_in1 (List.mem_append_right _ (List.mem_append_left _ (List.mem_of_getElem? (i := 220) rfl)))
theorem yd_Ru_isStuck : pm_yd y_Ru_isStuck 0 := ⟨by decide +kernel, by decide +kernel, by decide +kernel⟩
theorem mj_Ru_isStuck : Cond.instanceMethod y_Ru_isStuck ∈ lw_tbl := pm_in1 (List.mem_append_right _ (List.mem_append_left _ (List.mem_of_getElem? (i := 218) rfl)))
theorem ms_Ru_isStuck : Cond.selects R_Ru y_Ru_isStuck y_Ru_isStuck ∈ lw_tbl := pm_in1 (List.mem_append_right _ (List.mem_append_left _ (List.mem_of_getElem? (i := 219) rfl)))
abbrev y_Rl_init : MethodName := ⟨R_Rl, "<init>", "()V"⟩
theorem mc_Rl_init : Cond.code y_Rl_init prog_5_method_1_code 1 (none) ∈ lw_tbl := pm_in1 (List.mem_append_left _ (List.mem_of_getElem? (i := 96) rfl))
theorem yd_Rl_init : pm_yd y_Rl_init 0 := ⟨by decide +kernel, by decide +kernel, by decide +kernel⟩
theorem mj_Rl_init : Cond.instanceMethod y_Rl_init ∈ lw_tbl := pm_in1 (List.mem_append_left _ (List.mem_of_getElem? (i := 95) rfl))
abbrev y_Rl_clear : MethodName := ⟨R_Rl, "clear", "()V"⟩
theorem mc_Rl_clear : Cond.code y_Rl_clear prog_5_method_2_code 1 (none) ∈ lw_tbl := pm_in1 (List.mem_append_right _ (List.mem_append_left _ (List.mem_of_getElem? (i := 58) rfl)))
theorem yd_Rl_clear : pm_yd y_Rl_clear 0 := ⟨by decide +kernel, by decide +kernel, by decide +kernel⟩
theorem mj_Rl_clear : Cond.instanceMethod y_Rl_clear ∈ lw_tbl := pm_in1 (List.mem_append_right _ (List.mem_append_left _ (List.mem_of_getElem? (i := 56) rfl)))
theorem ms_Rl_clear : Cond.selects R_Rl y_Rl_clear y_Rl_clear ∈ lw_tbl := pm_in1 (List.mem_append_right _ (List.mem_append_left _ (List.mem_of_getElem? (i := 57) rfl)))
abbrev y_Rl_add : MethodName := ⟨R_Rl, "add", "(IIIZ)V"⟩
theorem mc_Rl_add : Cond.code y_Rl_add prog_5_method_3_code 6 (none) ∈ lw_tbl := pm_in1 (List.mem_append_right _ (List.mem_append_left _ (List.mem_of_getElem? (i := 123) rfl)))
theorem yd_Rl_add : pm_yd y_Rl_add 4 := ⟨by decide +kernel, by decide +kernel, by decide +kernel⟩
theorem mj_Rl_add : Cond.instanceMethod y_Rl_add ∈ lw_tbl := pm_in1 (List.mem_append_right _ (List.mem_append_left _ (List.mem_of_getElem? (i := 121) rfl)))
theorem ms_Rl_add : Cond.selects R_Rl y_Rl_add y_Rl_add ∈ lw_tbl := pm_in1 (List.mem_append_right _ (List.mem_append_left _ (List.mem_of_getElem? (i := 122) rfl)))
abbrev y_Rl_part : MethodName := ⟨R_Rl, "part", "(II)I"⟩
theorem mc_Rl_part : Cond.code y_Rl_part prog_5_method_4_code 4 (some .int) ∈ lw_tbl := pm_in1 (List.mem_append_right _ (List.mem_append_left _ (List.mem_of_getElem? (i := 208) rfl)))
theorem yd_Rl_part : pm_yd y_Rl_part 2 := ⟨by decide +kernel, by decide +kernel, by decide +kernel⟩
theorem mj_Rl_part : Cond.instanceMethod y_Rl_part ∈ lw_tbl := pm_in1 (List.mem_append_right _ (List.mem_append_left _ (List.mem_of_getElem? (i := 206) rfl)))
theorem ms_Rl_part : Cond.selects R_Rl y_Rl_part y_Rl_part ∈ lw_tbl := pm_in1 (List.mem_append_right _ (List.mem_append_left _ (List.mem_of_getElem? (i := 207) rfl)))
abbrev y_Sd_init : MethodName := ⟨R_Sd, "<init>", "(I)V"⟩
theorem mc_Sd_init : Cond.code y_Sd_init prog_8_method_1_code 2 (none) ∈ lw_tbl := pm_in1 (List.mem_append_left _ (List.mem_of_getElem? (i := 109) rfl))
theorem yd_Sd_init : pm_yd y_Sd_init 1 := ⟨by decide +kernel, by decide +kernel, by decide +kernel⟩
theorem mj_Sd_init : Cond.instanceMethod y_Sd_init ∈ lw_tbl := pm_in1 (List.mem_append_left _ (List.mem_of_getElem? (i := 108) rfl))
abbrev y_Sd_begin : MethodName := ⟨R_Sd, "begin", "(II)V"⟩
theorem mc_Sd_begin : Cond.code y_Sd_begin prog_8_method_2_code 3 (none) ∈ lw_tbl := pm_in1 (List.mem_append_right _ (List.mem_append_left _ (List.mem_of_getElem? (i := 63) rfl)))
theorem yd_Sd_begin : pm_yd y_Sd_begin 2 := ⟨by decide +kernel, by decide +kernel, by decide +kernel⟩
theorem mj_Sd_begin : Cond.instanceMethod y_Sd_begin ∈ lw_tbl := pm_in1 (List.mem_append_right _ (List.mem_append_left _ (List.mem_of_getElem? (i := 61) rfl)))
theorem ms_Sd_begin : Cond.selects R_Sd y_Sd_begin y_Sd_begin ∈ lw_tbl := pm_in1 (List.mem_append_right _ (List.mem_append_left _ (List.mem_of_getElem? (i := 62) rfl)))
abbrev y_Sd_enter : MethodName := ⟨R_Sd, "enter", "(I)V"⟩
theorem mc_Sd_enter : Cond.code y_Sd_enter prog_8_method_3_code 2 (none) ∈ lw_tbl := pm_in1 (List.mem_append_right _ (List.mem_append_left _ (List.mem_of_getElem? (i := 67) rfl)))
theorem yd_Sd_enter : pm_yd y_Sd_enter 1 := ⟨by decide +kernel, by decide +kernel, by decide +kernel⟩
theorem mj_Sd_enter : Cond.instanceMethod y_Sd_enter ∈ lw_tbl := pm_in1 (List.mem_append_right _ (List.mem_append_left _ (List.mem_of_getElem? (i := 65) rfl)))
theorem ms_Sd_enter : Cond.selects R_Sd y_Sd_enter y_Sd_enter ∈ lw_tbl := pm_in1 (List.mem_append_right _ (List.mem_append_left _ (List.mem_of_getElem? (i := 66) rfl)))
abbrev y_Sd_isDone : MethodName := ⟨R_Sd, "isDone", "()Z"⟩
theorem mc_Sd_isDone : Cond.code y_Sd_isDone prog_8_method_4_code 1 (some .boolean) ∈ lw_tbl := pm_in1 (List.mem_append_right _ (List.mem_append_left _ (List.mem_of_getElem? (i := 91) rfl)))
theorem yd_Sd_isDone : pm_yd y_Sd_isDone 0 := ⟨by decide +kernel, by decide +kernel, by decide +kernel⟩
theorem mj_Sd_isDone : Cond.instanceMethod y_Sd_isDone ∈ lw_tbl := pm_in1 (List.mem_append_right _ (List.mem_append_left _ (List.mem_of_getElem? (i := 89) rfl)))
theorem ms_Sd_isDone : Cond.selects R_Sd y_Sd_isDone y_Sd_isDone ∈ lw_tbl := pm_in1 (List.mem_append_right _ (List.mem_append_left _ (List.mem_of_getElem? (i := 90) rfl)))
abbrev y_Sd_moveTo : MethodName := ⟨R_Sd, "moveTo", "(I)V"⟩
theorem mc_Sd_moveTo : Cond.code y_Sd_moveTo prog_8_method_5_code 2 (none) ∈ lw_tbl := pm_in1 (List.mem_append_right _ (List.mem_append_left _ (List.mem_of_getElem? (i := 107) rfl)))
theorem yd_Sd_moveTo : pm_yd y_Sd_moveTo 1 := ⟨by decide +kernel, by decide +kernel, by decide +kernel⟩
theorem mj_Sd_moveTo : Cond.instanceMethod y_Sd_moveTo ∈ lw_tbl := pm_in1 (List.mem_append_right _ (List.mem_append_left _ (List.mem_of_getElem? (i := 105) rfl)))
theorem ms_Sd_moveTo : Cond.selects R_Sd y_Sd_moveTo y_Sd_moveTo ∈ lw_tbl := pm_in1 (List.mem_append_right _ (List.mem_append_left _ (List.mem_of_getElem? (i := 106) rfl)))
abbrev y_Sd_learn : MethodName := ⟨R_Sd, "learn", "([I)V"⟩
theorem mc_Sd_learn : Cond.code y_Sd_learn prog_8_method_6_code 3 (none) ∈ lw_tbl := pm_in1 (List.mem_append_right _ (List.mem_append_left _ (List.mem_of_getElem? (i := 135) rfl)))
theorem yd_Sd_learn : pm_yd y_Sd_learn 1 := ⟨by decide +kernel, by decide +kernel, by decide +kernel⟩
theorem mj_Sd_learn : Cond.instanceMethod y_Sd_learn ∈ lw_tbl := pm_in1 (List.mem_append_right _ (List.mem_append_left _ (List.mem_of_getElem? (i := 133) rfl)))
theorem ms_Sd_learn : Cond.selects R_Sd y_Sd_learn y_Sd_learn ∈ lw_tbl := pm_in1 (List.mem_append_right _ (List.mem_append_left _ (List.mem_of_getElem? (i := 134) rfl)))
abbrev y_Lk_init : MethodName := ⟨R_Lk, "<init>", "()V"⟩
theorem mc_Lk_init : Cond.code y_Lk_init prog_4_method_1_code 1 (none) ∈ lw_tbl := pm_in1 (List.mem_append_left _ (List.mem_of_getElem? (i := 141) rfl))
theorem yd_Lk_init : pm_yd y_Lk_init 0 := ⟨by decide +kernel, by decide +kernel, by decide +kernel⟩
theorem mj_Lk_init : Cond.instanceMethod y_Lk_init ∈ lw_tbl := pm_in1 (List.mem_append_left _ (List.mem_of_getElem? (i := 140) rfl))
abbrev y_Lk_clear : MethodName := ⟨R_Lk, "clear", "()V"⟩
theorem mc_Lk_clear : Cond.code y_Lk_clear prog_4_method_2_code 1 (none) ∈ lw_tbl := pm_in1 (List.mem_append_right _ (List.mem_append_left _ (List.mem_of_getElem? (i := 48) rfl)))
theorem yd_Lk_clear : pm_yd y_Lk_clear 0 := ⟨by decide +kernel, by decide +kernel, by decide +kernel⟩
theorem mj_Lk_clear : Cond.instanceMethod y_Lk_clear ∈ lw_tbl := pm_in1 (List.mem_append_right _ (List.mem_append_left _ (List.mem_of_getElem? (i := 46) rfl)))
theorem ms_Lk_clear : Cond.selects R_Lk y_Lk_clear y_Lk_clear ∈ lw_tbl := pm_in1 (List.mem_append_right _ (List.mem_append_left _ (List.mem_of_getElem? (i := 47) rfl)))
abbrev y_Lk_refuses : MethodName := ⟨R_Lk, "refuses", "(LLockLoom$Strand;)Z"⟩
theorem mc_Lk_refuses : Cond.code y_Lk_refuses prog_4_method_3_code 2 (some .boolean) ∈ lw_tbl := pm_in1 (List.mem_append_right _ (List.mem_append_left _ (List.mem_of_getElem? (i := 99) rfl)))
theorem yd_Lk_refuses : pm_yd y_Lk_refuses 1 := ⟨by decide +kernel, by decide +kernel, by decide +kernel⟩
theorem mj_Lk_refuses : Cond.instanceMethod y_Lk_refuses ∈ lw_tbl := pm_in1 (List.mem_append_right _ (List.mem_append_left _ (List.mem_of_getElem? (i := 97) rfl)))
theorem ms_Lk_refuses : Cond.selects R_Lk y_Lk_refuses y_Lk_refuses ∈ lw_tbl := pm_in1 (List.mem_append_right _ (List.mem_append_left _ (List.mem_of_getElem? (i := 98) rfl)))
abbrev y_Lk_take : MethodName := ⟨R_Lk, "take", "(LLockLoom$Strand;)V"⟩
theorem mc_Lk_take : Cond.code y_Lk_take prog_4_method_4_code 2 (none) ∈ lw_tbl := pm_in1 (List.mem_append_right _ (List.mem_append_left _ (List.mem_of_getElem? (i := 131) rfl)))
theorem yd_Lk_take : pm_yd y_Lk_take 1 := ⟨by decide +kernel, by decide +kernel, by decide +kernel⟩
theorem mj_Lk_take : Cond.instanceMethod y_Lk_take ∈ lw_tbl := pm_in1 (List.mem_append_right _ (List.mem_append_left _ (List.mem_of_getElem? (i := 129) rfl)))
theorem ms_Lk_take : Cond.selects R_Lk y_Lk_take y_Lk_take ∈ lw_tbl := pm_in1 (List.mem_append_right _ (List.mem_append_left _ (List.mem_of_getElem? (i := 130) rfl)))
abbrev y_Lk_release : MethodName := ⟨R_Lk, "release", "(LLockLoom$Strand;)V"⟩
theorem mc_Lk_release : Cond.code y_Lk_release prog_4_method_5_code 2 (none) ∈ lw_tbl := pm_in1 (List.mem_append_right _ (List.mem_append_left _ (List.mem_of_getElem? (i := 146) rfl)))
theorem yd_Lk_release : pm_yd y_Lk_release 1 := ⟨by decide +kernel, by decide +kernel, by decide +kernel⟩
theorem mj_Lk_release : Cond.instanceMethod y_Lk_release ∈ lw_tbl := pm_in1 (List.mem_append_right _ (List.mem_append_left _ (List.mem_of_getElem? (i := 144) rfl)))
theorem ms_Lk_release : Cond.selects R_Lk y_Lk_release y_Lk_release ∈ lw_tbl := pm_in1 (List.mem_append_right _ (List.mem_append_left _ (List.mem_of_getElem? (i := 145) rfl)))
abbrev y_Ce_init : MethodName := ⟨R_Ce, "<init>", "()V"⟩
theorem mc_Ce_init : Cond.code y_Ce_init prog_3_method_1_code 1 (none) ∈ lw_tbl := pm_in1 (List.mem_append_left _ (List.mem_of_getElem? (i := 157) rfl))
theorem yd_Ce_init : pm_yd y_Ce_init 0 := ⟨by decide +kernel, by decide +kernel, by decide +kernel⟩
theorem mj_Ce_init : Cond.instanceMethod y_Ce_init ∈ lw_tbl := pm_in1 (List.mem_append_left _ (List.mem_of_getElem? (i := 156) rfl))
abbrev y_Ce_clear : MethodName := ⟨R_Ce, "clear", "()V"⟩
theorem mc_Ce_clear : Cond.code y_Ce_clear prog_3_method_2_code 1 (none) ∈ lw_tbl := pm_in1 (List.mem_append_right _ (List.mem_append_left _ (List.mem_of_getElem? (i := 53) rfl)))
theorem yd_Ce_clear : pm_yd y_Ce_clear 0 := ⟨by decide +kernel, by decide +kernel, by decide +kernel⟩
theorem mj_Ce_clear : Cond.instanceMethod y_Ce_clear ∈ lw_tbl := pm_in1 (List.mem_append_right _ (List.mem_append_left _ (List.mem_of_getElem? (i := 51) rfl)))
theorem ms_Ce_clear : Cond.selects R_Ce y_Ce_clear y_Ce_clear ∈ lw_tbl := pm_in1 (List.mem_append_right _ (List.mem_append_left _ (List.mem_of_getElem? (i := 52) rfl)))
abbrev y_Ce_races : MethodName := ⟨R_Ce, "races", "([IZ)Z"⟩
theorem mc_Ce_races : Cond.code y_Ce_races prog_3_method_3_code 4 (some .boolean) ∈ lw_tbl := pm_in1 (List.mem_append_right _ (List.mem_append_left _ (List.mem_of_getElem? (i := 119) rfl)))
theorem yd_Ce_races : pm_yd y_Ce_races 2 := ⟨by decide +kernel, by decide +kernel, by decide +kernel⟩
theorem mj_Ce_races : Cond.instanceMethod y_Ce_races ∈ lw_tbl := pm_in1 (List.mem_append_right _ (List.mem_append_left _ (List.mem_of_getElem? (i := 117) rfl)))
theorem ms_Ce_races : Cond.selects R_Ce y_Ce_races y_Ce_races ∈ lw_tbl := pm_in1 (List.mem_append_right _ (List.mem_append_left _ (List.mem_of_getElem? (i := 118) rfl)))
abbrev y_Mo_init : MethodName := ⟨R_Mo, "<init>", "()V"⟩
theorem mc_Mo_init : Cond.code y_Mo_init prog_10_method_1_code 2 (none) ∈ lw_tbl := pm_in1 (List.mem_append_right _ (List.mem_append_left _ (List.mem_of_getElem? (i := 226) rfl)))
theorem yd_Mo_init : pm_yd y_Mo_init 0 := ⟨by decide +kernel, by decide +kernel, by decide +kernel⟩
theorem mj_Mo_init : Cond.instanceMethod y_Mo_init ∈ lw_tbl := pm_in1 (List.mem_append_right _ (List.mem_append_left _ (List.mem_of_getElem? (i := 225) rfl)))
abbrev y_Mo_statement : MethodName := ⟨R_Mo, "statement", "(II)I"⟩
theorem mc_Mo_statement : Cond.code y_Mo_statement prog_10_method_3_code 4 (some .int) ∈ lw_tbl := pm_in1 (List.mem_append_right _ (List.mem_append_right _ (List.mem_of_getElem? (i := 65) rfl)))
theorem yd_Mo_statement : pm_yd y_Mo_statement 2 := ⟨by decide +kernel, by decide +kernel, by decide +kernel⟩
theorem mj_Mo_statement : Cond.instanceMethod y_Mo_statement ∈ lw_tbl := pm_in1 (List.mem_append_right _ (List.mem_append_right _ (List.mem_of_getElem? (i := 63) rfl)))
theorem ms_Mo_statement : Cond.selects R_Mo y_Mo_statement y_Mo_statement ∈ lw_tbl := pm_in1 (List.mem_append_right _ (List.mem_append_right _ (List.mem_of_getElem? (i := 64) rfl)))
abbrev y_Mo_isIn : MethodName := ⟨R_Mo, "isIn", "(II)Z"⟩
theorem mc_Mo_isIn : Cond.code y_Mo_isIn prog_10_method_2_code 2 (some .boolean) ∈ lw_tbl := pm_in1 (List.mem_append_right _ (List.mem_append_right _ (List.mem_of_getElem? (i := 68) rfl)))
theorem yd_Mo_isIn : pm_yd y_Mo_isIn 2 := ⟨by decide +kernel, by decide +kernel, by decide +kernel⟩
theorem mt_Mo_isIn : Cond.static y_Mo_isIn ∈ lw_tbl := pm_in1 (List.mem_append_right _ (List.mem_append_right _ (List.mem_of_getElem? (i := 67) rfl)))
abbrev y_Mo_body : MethodName := ⟨R_Mo, "body", "(I)I"⟩
theorem mc_Mo_body : Cond.code y_Mo_body prog_10_method_10_code 4 (some .int) ∈ lw_tbl := pm_in1 (List.mem_append_right _ (List.mem_append_right _ (List.mem_of_getElem? (i := 72) rfl)))
theorem yd_Mo_body : pm_yd y_Mo_body 1 := ⟨by decide +kernel, by decide +kernel, by decide +kernel⟩
theorem mj_Mo_body : Cond.instanceMethod y_Mo_body ∈ lw_tbl := pm_in1 (List.mem_append_right _ (List.mem_append_right _ (List.mem_of_getElem? (i := 70) rfl)))
theorem ms_Mo_body : Cond.selects R_Mo y_Mo_body y_Mo_body ∈ lw_tbl := pm_in1 (List.mem_append_right _ (List.mem_append_right _ (List.mem_of_getElem? (i := 71) rfl)))
abbrev y_Mo_isWhole : MethodName := ⟨R_Mo, "isWhole", "()Z"⟩
theorem mc_Mo_isWhole : Cond.code y_Mo_isWhole prog_10_method_9_code 5 (some .boolean) ∈ lw_tbl := pm_in1 (List.mem_append_right _ (List.mem_append_right _ (List.mem_of_getElem? (i := 76) rfl)))
theorem yd_Mo_isWhole : pm_yd y_Mo_isWhole 0 := ⟨by decide +kernel, by decide +kernel, by decide +kernel⟩
theorem mj_Mo_isWhole : Cond.instanceMethod y_Mo_isWhole ∈ lw_tbl := pm_in1 (List.mem_append_right _ (List.mem_append_right _ (List.mem_of_getElem? (i := 75) rfl)))
theorem ms_Mo_isWhole : Cond.selects R_Mo y_Mo_isWhole y_Mo_isWhole ∈ lw_tbl := pm_in0 (List.mem_of_getElem? (i := 12) rfl)
abbrev y_Mo_kindAt : MethodName := ⟨R_Mo, "kindAt", "(II)I"⟩
theorem mc_Mo_kindAt : Cond.code y_Mo_kindAt prog_10_method_4_code 3 (some .int) ∈ lw_tbl := pm_in1 (List.mem_append_right _ (List.mem_append_right _ (List.mem_of_getElem? (i := 80) rfl)))
theorem yd_Mo_kindAt : pm_yd y_Mo_kindAt 2 := ⟨by decide +kernel, by decide +kernel, by decide +kernel⟩
theorem mj_Mo_kindAt : Cond.instanceMethod y_Mo_kindAt ∈ lw_tbl := pm_in1 (List.mem_append_right _ (List.mem_append_right _ (List.mem_of_getElem? (i := 79) rfl)))
theorem ms_Mo_kindAt : Cond.selects R_Mo y_Mo_kindAt y_Mo_kindAt ∈ lw_tbl := pm_in0 (List.mem_of_getElem? (i := 13) rfl)
abbrev y_Mo_openerOf : MethodName := ⟨R_Mo, "openerOf", "(II)I"⟩
theorem mc_Mo_openerOf : Cond.code y_Mo_openerOf prog_10_method_7_code 5 (some .int) ∈ lw_tbl := pm_in1 (List.mem_append_right _ (List.mem_append_right _ (List.mem_of_getElem? (i := 84) rfl)))
theorem yd_Mo_openerOf : pm_yd y_Mo_openerOf 2 := ⟨by decide +kernel, by decide +kernel, by decide +kernel⟩
theorem mj_Mo_openerOf : Cond.instanceMethod y_Mo_openerOf ∈ lw_tbl := pm_in1 (List.mem_append_right _ (List.mem_append_right _ (List.mem_of_getElem? (i := 83) rfl)))
theorem ms_Mo_openerOf : Cond.selects R_Mo y_Mo_openerOf y_Mo_openerOf ∈ lw_tbl := pm_in0 (List.mem_of_getElem? (i := 14) rfl)
abbrev y_Mo_opens : MethodName := ⟨R_Mo, "opens", "(I)Z"⟩
theorem mc_Mo_opens : Cond.code y_Mo_opens prog_10_method_6_code 1 (some .boolean) ∈ lw_tbl := pm_in1 (List.mem_append_right _ (List.mem_append_right _ (List.mem_of_getElem? (i := 87) rfl)))
theorem yd_Mo_opens : pm_yd y_Mo_opens 1 := ⟨by decide +kernel, by decide +kernel, by decide +kernel⟩
theorem mt_Mo_opens : Cond.static y_Mo_opens ∈ lw_tbl := pm_in1 (List.mem_append_right _ (List.mem_append_right _ (List.mem_of_getElem? (i := 86) rfl)))
abbrev y_Mo_closerOf : MethodName := ⟨R_Mo, "closerOf", "(IIZ)I"⟩
theorem mc_Mo_closerOf : Cond.code y_Mo_closerOf prog_10_method_8_code 7 (some .int) ∈ lw_tbl := pm_in1 (List.mem_append_right _ (List.mem_append_right _ (List.mem_of_getElem? (i := 91) rfl)))
theorem yd_Mo_closerOf : pm_yd y_Mo_closerOf 3 := ⟨by decide +kernel, by decide +kernel, by decide +kernel⟩
theorem mj_Mo_closerOf : Cond.instanceMethod y_Mo_closerOf ∈ lw_tbl := pm_in1 (List.mem_append_right _ (List.mem_append_right _ (List.mem_of_getElem? (i := 90) rfl)))
theorem ms_Mo_closerOf : Cond.selects R_Mo y_Mo_closerOf y_Mo_closerOf ∈ lw_tbl := pm_in0 (List.mem_of_getElem? (i := 15) rfl)
abbrev y_Mo_numberAt : MethodName := ⟨R_Mo, "numberAt", "(II)I"⟩
theorem mc_Mo_numberAt : Cond.code y_Mo_numberAt prog_10_method_5_code 3 (some .int) ∈ lw_tbl := pm_in1 (List.mem_append_right _ (List.mem_append_right _ (List.mem_of_getElem? (i := 95) rfl)))
theorem yd_Mo_numberAt : pm_yd y_Mo_numberAt 2 := ⟨by decide +kernel, by decide +kernel, by decide +kernel⟩
theorem mj_Mo_numberAt : Cond.instanceMethod y_Mo_numberAt ∈ lw_tbl := pm_in1 (List.mem_append_right _ (List.mem_append_right _ (List.mem_of_getElem? (i := 94) rfl)))
theorem ms_Mo_numberAt : Cond.selects R_Mo y_Mo_numberAt y_Mo_numberAt ∈ lw_tbl := pm_in0 (List.mem_of_getElem? (i := 16) rfl)
abbrev y_Mo_guard : MethodName := ⟨R_Mo, "guard", "(II)Z"⟩
theorem mc_Mo_guard : Cond.code y_Mo_guard prog_10_method_11_code 3 (some .boolean) ∈ lw_tbl := pm_in1 (List.mem_append_right _ (List.mem_append_right _ (List.mem_of_getElem? (i := 99) rfl)))
theorem yd_Mo_guard : pm_yd y_Mo_guard 2 := ⟨by decide +kernel, by decide +kernel, by decide +kernel⟩
theorem mj_Mo_guard : Cond.instanceMethod y_Mo_guard ∈ lw_tbl := pm_in1 (List.mem_append_right _ (List.mem_append_right _ (List.mem_of_getElem? (i := 97) rfl)))
theorem ms_Mo_guard : Cond.selects R_Mo y_Mo_guard y_Mo_guard ∈ lw_tbl := pm_in1 (List.mem_append_right _ (List.mem_append_right _ (List.mem_of_getElem? (i := 98) rfl)))
abbrev y_Mo_check : MethodName := ⟨R_Mo, "check", "(I)I"⟩
theorem mc_Mo_check : Cond.code y_Mo_check prog_10_method_14_code 3 (some .int) ∈ lw_tbl := pm_in1 (List.mem_append_right _ (List.mem_append_right _ (List.mem_of_getElem? (i := 103) rfl)))
theorem yd_Mo_check : pm_yd y_Mo_check 1 := ⟨by decide +kernel, by decide +kernel, by decide +kernel⟩
theorem mj_Mo_check : Cond.instanceMethod y_Mo_check ∈ lw_tbl := pm_in1 (List.mem_append_right _ (List.mem_append_right _ (List.mem_of_getElem? (i := 101) rfl)))
theorem ms_Mo_check : Cond.selects R_Mo y_Mo_check y_Mo_check ∈ lw_tbl := pm_in1 (List.mem_append_right _ (List.mem_append_right _ (List.mem_of_getElem? (i := 102) rfl)))
abbrev y_Mo_isRight : MethodName := ⟨R_Mo, "isRight", "(II)Z"⟩
theorem mc_Mo_isRight : Cond.code y_Mo_isRight prog_10_method_13_code 6 (some .boolean) ∈ lw_tbl := pm_in1 (List.mem_append_right _ (List.mem_append_right _ (List.mem_of_getElem? (i := 107) rfl)))
theorem yd_Mo_isRight : pm_yd y_Mo_isRight 2 := ⟨by decide +kernel, by decide +kernel, by decide +kernel⟩
theorem mj_Mo_isRight : Cond.instanceMethod y_Mo_isRight ∈ lw_tbl := pm_in1 (List.mem_append_right _ (List.mem_append_right _ (List.mem_of_getElem? (i := 106) rfl)))
theorem ms_Mo_isRight : Cond.selects R_Mo y_Mo_isRight y_Mo_isRight ∈ lw_tbl := pm_in0 (List.mem_of_getElem? (i := 17) rfl)
abbrev y_Mo_heldAt : MethodName := ⟨R_Mo, "heldAt", "(II)I"⟩
theorem mc_Mo_heldAt : Cond.code y_Mo_heldAt prog_10_method_12_code 5 (some .int) ∈ lw_tbl := pm_in1 (List.mem_append_right _ (List.mem_append_right _ (List.mem_of_getElem? (i := 111) rfl)))
theorem yd_Mo_heldAt : pm_yd y_Mo_heldAt 2 := ⟨by decide +kernel, by decide +kernel, by decide +kernel⟩
theorem mj_Mo_heldAt : Cond.instanceMethod y_Mo_heldAt ∈ lw_tbl := pm_in1 (List.mem_append_right _ (List.mem_append_right _ (List.mem_of_getElem? (i := 110) rfl)))
theorem ms_Mo_heldAt : Cond.selects R_Mo y_Mo_heldAt y_Mo_heldAt ∈ lw_tbl := pm_in0 (List.mem_of_getElem? (i := 18) rfl)
abbrev y_Mo_sound : MethodName := ⟨R_Mo, "sound", "()Z"⟩
theorem mc_Mo_sound : Cond.code y_Mo_sound prog_10_method_15_code 2 (some .boolean) ∈ lw_tbl := pm_in1 (List.mem_append_right _ (List.mem_append_right _ (List.mem_of_getElem? (i := 115) rfl)))
theorem yd_Mo_sound : pm_yd y_Mo_sound 0 := ⟨by decide +kernel, by decide +kernel, by decide +kernel⟩
theorem mj_Mo_sound : Cond.instanceMethod y_Mo_sound ∈ lw_tbl := pm_in1 (List.mem_append_right _ (List.mem_append_right _ (List.mem_of_getElem? (i := 113) rfl)))
theorem ms_Mo_sound : Cond.selects R_Mo y_Mo_sound y_Mo_sound ∈ lw_tbl := pm_in1 (List.mem_append_right _ (List.mem_append_right _ (List.mem_of_getElem? (i := 114) rfl)))
abbrev y_Mo_start : MethodName := ⟨R_Mo, "start", "(II)Z"⟩
theorem mc_Mo_start : Cond.code y_Mo_start prog_10_method_19_code 4 (some .boolean) ∈ lw_tbl := pm_in1 (List.mem_append_right _ (List.mem_append_right _ (List.mem_of_getElem? (i := 120) rfl)))
theorem yd_Mo_start : pm_yd y_Mo_start 2 := ⟨by decide +kernel, by decide +kernel, by decide +kernel⟩
theorem mj_Mo_start : Cond.instanceMethod y_Mo_start ∈ lw_tbl := pm_in1 (List.mem_append_right _ (List.mem_append_right _ (List.mem_of_getElem? (i := 118) rfl)))
theorem ms_Mo_start : Cond.selects R_Mo y_Mo_start y_Mo_start ∈ lw_tbl := pm_in1 (List.mem_append_right _ (List.mem_append_right _ (List.mem_of_getElem? (i := 119) rfl)))
abbrev y_Mo_begin : MethodName := ⟨R_Mo, "begin", "(III)V"⟩
theorem mc_Mo_begin : Cond.code y_Mo_begin prog_10_method_18_code 4 (none) ∈ lw_tbl := pm_in1 (List.mem_append_right _ (List.mem_append_right _ (List.mem_of_getElem? (i := 124) rfl)))
theorem yd_Mo_begin : pm_yd y_Mo_begin 3 := ⟨by decide +kernel, by decide +kernel, by decide +kernel⟩
theorem mj_Mo_begin : Cond.instanceMethod y_Mo_begin ∈ lw_tbl := pm_in1 (List.mem_append_right _ (List.mem_append_right _ (List.mem_of_getElem? (i := 123) rfl)))
theorem ms_Mo_begin : Cond.selects R_Mo y_Mo_begin y_Mo_begin ∈ lw_tbl := pm_in0 (List.mem_of_getElem? (i := 19) rfl)
abbrev y_Mo_enter : MethodName := ⟨R_Mo, "enter", "(II)V"⟩
theorem mc_Mo_enter : Cond.code y_Mo_enter prog_10_method_16_code 3 (none) ∈ lw_tbl := pm_in1 (List.mem_append_right _ (List.mem_append_right _ (List.mem_of_getElem? (i := 128) rfl)))
theorem yd_Mo_enter : pm_yd y_Mo_enter 2 := ⟨by decide +kernel, by decide +kernel, by decide +kernel⟩
theorem mj_Mo_enter : Cond.instanceMethod y_Mo_enter ∈ lw_tbl := pm_in1 (List.mem_append_right _ (List.mem_append_right _ (List.mem_of_getElem? (i := 127) rfl)))
theorem ms_Mo_enter : Cond.selects R_Mo y_Mo_enter y_Mo_enter ∈ lw_tbl := pm_in0 (List.mem_of_getElem? (i := 20) rfl)
abbrev y_Mo_leave : MethodName := ⟨R_Mo, "leave", "(I)V"⟩
theorem mc_Mo_leave : Cond.code y_Mo_leave prog_10_method_17_code 3 (none) ∈ lw_tbl := pm_in1 (List.mem_append_right _ (List.mem_append_right _ (List.mem_of_getElem? (i := 132) rfl)))
theorem yd_Mo_leave : pm_yd y_Mo_leave 1 := ⟨by decide +kernel, by decide +kernel, by decide +kernel⟩
theorem mj_Mo_leave : Cond.instanceMethod y_Mo_leave ∈ lw_tbl := pm_in1 (List.mem_append_right _ (List.mem_append_right _ (List.mem_of_getElem? (i := 131) rfl)))
theorem ms_Mo_leave : Cond.selects R_Mo y_Mo_leave y_Mo_leave ∈ lw_tbl := pm_in0 (List.mem_of_getElem? (i := 21) rfl)
abbrev y_Mo_step : MethodName := ⟨R_Mo, "step", "(I)I"⟩
theorem mc_Mo_step : Cond.code y_Mo_step prog_10_method_22_code 4 (some .int) ∈ lw_tbl := pm_in1 (List.mem_append_right _ (List.mem_append_right _ (List.mem_of_getElem? (i := 136) rfl)))
theorem yd_Mo_step : pm_yd y_Mo_step 1 := ⟨by decide +kernel, by decide +kernel, by decide +kernel⟩
theorem mj_Mo_step : Cond.instanceMethod y_Mo_step ∈ lw_tbl := pm_in1 (List.mem_append_right _ (List.mem_append_right _ (List.mem_of_getElem? (i := 134) rfl)))
theorem ms_Mo_step : Cond.selects R_Mo y_Mo_step y_Mo_step ∈ lw_tbl := pm_in1 (List.mem_append_right _ (List.mem_append_right _ (List.mem_of_getElem? (i := 135) rfl)))
abbrev y_Mo_isThread : MethodName := ⟨R_Mo, "isThread", "(I)Z"⟩
theorem mc_Mo_isThread : Cond.code y_Mo_isThread prog_10_method_20_code 2 (some .boolean) ∈ lw_tbl := pm_in1 (List.mem_append_right _ (List.mem_append_right _ (List.mem_of_getElem? (i := 140) rfl)))
theorem yd_Mo_isThread : pm_yd y_Mo_isThread 1 := ⟨by decide +kernel, by decide +kernel, by decide +kernel⟩
theorem mj_Mo_isThread : Cond.instanceMethod y_Mo_isThread ∈ lw_tbl := pm_in1 (List.mem_append_right _ (List.mem_append_right _ (List.mem_of_getElem? (i := 139) rfl)))
theorem ms_Mo_isThread : Cond.selects R_Mo y_Mo_isThread y_Mo_isThread ∈ lw_tbl := pm_in0 (List.mem_of_getElem? (i := 22) rfl)
abbrev y_Mo_waitsFor : MethodName := ⟨R_Mo, "waitsFor", "(I)I"⟩
theorem mc_Mo_waitsFor : Cond.code y_Mo_waitsFor prog_10_method_21_code 4 (some .int) ∈ lw_tbl := pm_in1 (List.mem_append_right _ (List.mem_append_right _ (List.mem_of_getElem? (i := 144) rfl)))
theorem yd_Mo_waitsFor : pm_yd y_Mo_waitsFor 1 := ⟨by decide +kernel, by decide +kernel, by decide +kernel⟩
theorem mj_Mo_waitsFor : Cond.instanceMethod y_Mo_waitsFor ∈ lw_tbl := pm_in1 (List.mem_append_right _ (List.mem_append_right _ (List.mem_of_getElem? (i := 143) rfl)))
theorem ms_Mo_waitsFor : Cond.selects R_Mo y_Mo_waitsFor y_Mo_waitsFor ∈ lw_tbl := pm_in0 (List.mem_of_getElem? (i := 23) rfl)
abbrev y_Mo_does : MethodName := ⟨R_Mo, "does", "(III)V"⟩
theorem mc_Mo_does : Cond.code y_Mo_does prog_10_method_23_code 6 (none) ∈ lw_tbl := pm_in1 (List.mem_append_right _ (List.mem_append_right _ (List.mem_of_getElem? (i := 148) rfl)))
theorem yd_Mo_does : pm_yd y_Mo_does 3 := ⟨by decide +kernel, by decide +kernel, by decide +kernel⟩
theorem mj_Mo_does : Cond.instanceMethod y_Mo_does ∈ lw_tbl := pm_in1 (List.mem_append_right _ (List.mem_append_right _ (List.mem_of_getElem? (i := 147) rfl)))
theorem ms_Mo_does : Cond.selects R_Mo y_Mo_does y_Mo_does ∈ lw_tbl := pm_in0 (List.mem_of_getElem? (i := 24) rfl)
abbrev y_Mo_meets : MethodName := ⟨R_Mo, "meets", "(III)V"⟩
theorem mc_Mo_meets : Cond.code y_Mo_meets prog_10_method_27_code 7 (none) ∈ lw_tbl := pm_in1 (List.mem_append_right _ (List.mem_append_right _ (List.mem_of_getElem? (i := 152) rfl)))
theorem yd_Mo_meets : pm_yd y_Mo_meets 3 := ⟨by decide +kernel, by decide +kernel, by decide +kernel⟩
theorem mj_Mo_meets : Cond.instanceMethod y_Mo_meets ∈ lw_tbl := pm_in1 (List.mem_append_right _ (List.mem_append_right _ (List.mem_of_getElem? (i := 151) rfl)))
theorem ms_Mo_meets : Cond.selects R_Mo y_Mo_meets y_Mo_meets ∈ lw_tbl := pm_in0 (List.mem_of_getElem? (i := 25) rfl)
abbrev y_Mo_mark : MethodName := ⟨R_Mo, "mark", "()V"⟩
theorem mc_Mo_mark : Cond.code y_Mo_mark prog_10_method_26_code 2 (none) ∈ lw_tbl := pm_in1 (List.mem_append_right _ (List.mem_append_right _ (List.mem_of_getElem? (i := 156) rfl)))
theorem yd_Mo_mark : pm_yd y_Mo_mark 0 := ⟨by decide +kernel, by decide +kernel, by decide +kernel⟩
theorem mj_Mo_mark : Cond.instanceMethod y_Mo_mark ∈ lw_tbl := pm_in1 (List.mem_append_right _ (List.mem_append_right _ (List.mem_of_getElem? (i := 155) rfl)))
theorem ms_Mo_mark : Cond.selects R_Mo y_Mo_mark y_Mo_mark ∈ lw_tbl := pm_in0 (List.mem_of_getElem? (i := 26) rfl)
abbrev y_Mo_takes : MethodName := ⟨R_Mo, "takes", "(II)V"⟩
theorem mc_Mo_takes : Cond.code y_Mo_takes prog_10_method_24_code 3 (none) ∈ lw_tbl := pm_in1 (List.mem_append_right _ (List.mem_append_right _ (List.mem_of_getElem? (i := 160) rfl)))
theorem yd_Mo_takes : pm_yd y_Mo_takes 2 := ⟨by decide +kernel, by decide +kernel, by decide +kernel⟩
theorem mj_Mo_takes : Cond.instanceMethod y_Mo_takes ∈ lw_tbl := pm_in1 (List.mem_append_right _ (List.mem_append_right _ (List.mem_of_getElem? (i := 159) rfl)))
theorem ms_Mo_takes : Cond.selects R_Mo y_Mo_takes y_Mo_takes ∈ lw_tbl := pm_in0 (List.mem_of_getElem? (i := 27) rfl)
abbrev y_Mo_ends : MethodName := ⟨R_Mo, "ends", "(III)V"⟩
theorem mc_Mo_ends : Cond.code y_Mo_ends prog_10_method_25_code 6 (none) ∈ lw_tbl := pm_in1 (List.mem_append_right _ (List.mem_append_right _ (List.mem_of_getElem? (i := 164) rfl)))
theorem yd_Mo_ends : pm_yd y_Mo_ends 3 := ⟨by decide +kernel, by decide +kernel, by decide +kernel⟩
theorem mj_Mo_ends : Cond.instanceMethod y_Mo_ends ∈ lw_tbl := pm_in1 (List.mem_append_right _ (List.mem_append_right _ (List.mem_of_getElem? (i := 163) rfl)))
theorem ms_Mo_ends : Cond.selects R_Mo y_Mo_ends y_Mo_ends ∈ lw_tbl := pm_in0 (List.mem_of_getElem? (i := 28) rfl)
abbrev y_Mo_has : MethodName := ⟨R_Mo, "has", "(I)I"⟩
theorem mc_Mo_has : Cond.code y_Mo_has prog_10_method_28_code 2 (some .int) ∈ lw_tbl := pm_in1 (List.mem_append_right _ (List.mem_append_right _ (List.mem_of_getElem? (i := 168) rfl)))
theorem yd_Mo_has : pm_yd y_Mo_has 1 := ⟨by decide +kernel, by decide +kernel, by decide +kernel⟩
theorem mj_Mo_has : Cond.instanceMethod y_Mo_has ∈ lw_tbl := pm_in1 (List.mem_append_right _ (List.mem_append_right _ (List.mem_of_getElem? (i := 166) rfl)))
theorem ms_Mo_has : Cond.selects R_Mo y_Mo_has y_Mo_has ∈ lw_tbl := pm_in1 (List.mem_append_right _ (List.mem_append_right _ (List.mem_of_getElem? (i := 167) rfl)))
abbrev y_Mo_cell : MethodName := ⟨R_Mo, "cell", "(I)I"⟩
theorem mc_Mo_cell : Cond.code y_Mo_cell prog_10_method_29_code 2 (some .int) ∈ lw_tbl := pm_in1 (List.mem_append_right _ (List.mem_append_right _ (List.mem_of_getElem? (i := 172) rfl)))
theorem yd_Mo_cell : pm_yd y_Mo_cell 1 := ⟨by decide +kernel, by decide +kernel, by decide +kernel⟩
theorem mj_Mo_cell : Cond.instanceMethod y_Mo_cell ∈ lw_tbl := pm_in1 (List.mem_append_right _ (List.mem_append_right _ (List.mem_of_getElem? (i := 170) rfl)))
theorem ms_Mo_cell : Cond.selects R_Mo y_Mo_cell y_Mo_cell ∈ lw_tbl := pm_in1 (List.mem_append_right _ (List.mem_append_right _ (List.mem_of_getElem? (i := 171) rfl)))
abbrev y_Mo_holder : MethodName := ⟨R_Mo, "holder", "(I)I"⟩
theorem mc_Mo_holder : Cond.code y_Mo_holder prog_10_method_30_code 2 (some .int) ∈ lw_tbl := pm_in1 (List.mem_append_right _ (List.mem_append_right _ (List.mem_of_getElem? (i := 176) rfl)))
theorem yd_Mo_holder : pm_yd y_Mo_holder 1 := ⟨by decide +kernel, by decide +kernel, by decide +kernel⟩
theorem mj_Mo_holder : Cond.instanceMethod y_Mo_holder ∈ lw_tbl := pm_in1 (List.mem_append_right _ (List.mem_append_right _ (List.mem_of_getElem? (i := 174) rfl)))
theorem ms_Mo_holder : Cond.selects R_Mo y_Mo_holder y_Mo_holder ∈ lw_tbl := pm_in1 (List.mem_append_right _ (List.mem_append_right _ (List.mem_of_getElem? (i := 175) rfl)))
abbrev y_Mo_state : MethodName := ⟨R_Mo, "state", "(I)I"⟩
theorem mc_Mo_state : Cond.code y_Mo_state prog_10_method_31_code 2 (some .int) ∈ lw_tbl := pm_in1 (List.mem_append_right _ (List.mem_append_right _ (List.mem_of_getElem? (i := 180) rfl)))
theorem yd_Mo_state : pm_yd y_Mo_state 1 := ⟨by decide +kernel, by decide +kernel, by decide +kernel⟩
theorem mj_Mo_state : Cond.instanceMethod y_Mo_state ∈ lw_tbl := pm_in1 (List.mem_append_right _ (List.mem_append_right _ (List.mem_of_getElem? (i := 178) rfl)))
theorem ms_Mo_state : Cond.selects R_Mo y_Mo_state y_Mo_state ∈ lw_tbl := pm_in1 (List.mem_append_right _ (List.mem_append_right _ (List.mem_of_getElem? (i := 179) rfl)))
abbrev y_Mo_count : MethodName := ⟨R_Mo, "count", "(I)I"⟩
theorem mc_Mo_count : Cond.code y_Mo_count prog_10_method_32_code 2 (some .int) ∈ lw_tbl := pm_in1 (List.mem_append_right _ (List.mem_append_right _ (List.mem_of_getElem? (i := 184) rfl)))
theorem yd_Mo_count : pm_yd y_Mo_count 1 := ⟨by decide +kernel, by decide +kernel, by decide +kernel⟩
theorem mj_Mo_count : Cond.instanceMethod y_Mo_count ∈ lw_tbl := pm_in1 (List.mem_append_right _ (List.mem_append_right _ (List.mem_of_getElem? (i := 182) rfl)))
theorem ms_Mo_count : Cond.selects R_Mo y_Mo_count y_Mo_count ∈ lw_tbl := pm_in1 (List.mem_append_right _ (List.mem_append_right _ (List.mem_of_getElem? (i := 183) rfl)))
abbrev y_Mo_race : MethodName := ⟨R_Mo, "race", "(II)I"⟩
theorem mc_Mo_race : Cond.code y_Mo_race prog_10_method_33_code 4 (some .int) ∈ lw_tbl := pm_in1 (List.mem_append_right _ (List.mem_append_right _ (List.mem_of_getElem? (i := 188) rfl)))
theorem yd_Mo_race : pm_yd y_Mo_race 2 := ⟨by decide +kernel, by decide +kernel, by decide +kernel⟩
theorem mj_Mo_race : Cond.instanceMethod y_Mo_race ∈ lw_tbl := pm_in1 (List.mem_append_right _ (List.mem_append_right _ (List.mem_of_getElem? (i := 186) rfl)))
theorem ms_Mo_race : Cond.selects R_Mo y_Mo_race y_Mo_race ∈ lw_tbl := pm_in1 (List.mem_append_right _ (List.mem_append_right _ (List.mem_of_getElem? (i := 187) rfl)))
abbrev y_Mo_stuck : MethodName := ⟨R_Mo, "stuck", "()Z"⟩
theorem mc_Mo_stuck : Cond.code y_Mo_stuck prog_10_method_34_code 3 (some .boolean) ∈ lw_tbl := pm_in1 (List.mem_append_right _ (List.mem_append_right _ (List.mem_of_getElem? (i := 192) rfl)))
theorem yd_Mo_stuck : pm_yd y_Mo_stuck 0 := ⟨by decide +kernel, by decide +kernel, by decide +kernel⟩
theorem mj_Mo_stuck : Cond.instanceMethod y_Mo_stuck ∈ lw_tbl := pm_in1 (List.mem_append_right _ (List.mem_append_right _ (List.mem_of_getElem? (i := 190) rfl)))
theorem ms_Mo_stuck : Cond.selects R_Mo y_Mo_stuck y_Mo_stuck ∈ lw_tbl := pm_in1 (List.mem_append_right _ (List.mem_append_right _ (List.mem_of_getElem? (i := 191) rfl)))
abbrev y_Ar_fill : MethodName := ⟨R_Ar, "fill", "([II)V"⟩
theorem mc_Ar_fill : Cond.code y_Ar_fill prog_13_method_103_code 4 (none) ∈ lw_tbl := pm_in1 (List.mem_append_left _ (List.mem_of_getElem? (i := 65) rfl))
theorem yd_Ar_fill : pm_yd y_Ar_fill 2 := ⟨by decide +kernel, by decide +kernel, by decide +kernel⟩
theorem mt_Ar_fill : Cond.static y_Ar_fill ∈ lw_tbl := pm_in1 (List.mem_append_left _ (List.mem_of_getElem? (i := 64) rfl))
theorem mi_Lo : Cond.initialized R_Lo ∈ lw_tbl := pm_in1 (List.mem_append_left _ (List.mem_of_getElem? (i := 1) rfl))
theorem mi_Sh : Cond.initialized R_Sh ∈ lw_tbl := pm_in1 (List.mem_append_left _ (List.mem_of_getElem? (i := 2) rfl))
theorem mi_Bo : Cond.initialized R_Bo ∈ lw_tbl := pm_in1 (List.mem_append_left _ (List.mem_of_getElem? (i := 3) rfl))
theorem mi_Ru : Cond.initialized R_Ru ∈ lw_tbl := pm_in1 (List.mem_append_left _ (List.mem_of_getElem? (i := 5) rfl))
theorem mi_Rl : Cond.initialized R_Rl ∈ lw_tbl := pm_in1 (List.mem_append_left _ (List.mem_of_getElem? (i := 6) rfl))
theorem mi_Sd : Cond.initialized R_Sd ∈ lw_tbl := pm_in1 (List.mem_append_left _ (List.mem_of_getElem? (i := 7) rfl))
theorem mi_Lk : Cond.initialized R_Lk ∈ lw_tbl := pm_in1 (List.mem_append_left _ (List.mem_of_getElem? (i := 8) rfl))
theorem mi_Ce : Cond.initialized R_Ce ∈ lw_tbl := pm_in1 (List.mem_append_left _ (List.mem_of_getElem? (i := 9) rfl))
theorem mi_Mo : Cond.initialized R_Mo ∈ lw_tbl := pm_in1 (List.mem_append_left _ (List.mem_of_getElem? (i := 10) rfl))
theorem mi_Ar : Cond.initialized R_Ar ∈ lw_tbl := pm_in1 (List.mem_append_left _ (List.mem_of_getElem? (i := 4) rfl))
def pm_Y (k : Nat) : pm_N := match k with
  | 0 => (y_Lo_init, prog_1_method_1_code, 1, none)
  | 1 => (y_Lo_statement, prog_1_method_2_code, 3, some .int)
  | 2 => (y_Lo_isBelow, prog_1_method_16_code, 2, some .boolean)
  | 3 => (y_Lo_body, prog_1_method_3_code, 2, some .int)
  | 4 => (y_Lo_guard, prog_1_method_4_code, 3, some .boolean)
  | 5 => (y_Lo_check, prog_1_method_5_code, 2, some .int)
  | 6 => (y_Lo_sound, prog_1_method_6_code, 1, some .boolean)
  | 7 => (y_Lo_start, prog_1_method_7_code, 3, some .boolean)
  | 8 => (y_Lo_step, prog_1_method_8_code, 2, some .int)
  | 9 => (y_Lo_has, prog_1_method_9_code, 2, some .int)
  | 10 => (y_Lo_cell, prog_1_method_10_code, 2, some .int)
  | 11 => (y_Lo_holder, prog_1_method_11_code, 2, some .int)
  | 12 => (y_Lo_state, prog_1_method_12_code, 2, some .int)
  | 13 => (y_Lo_count, prog_1_method_13_code, 2, some .int)
  | 14 => (y_Lo_race, prog_1_method_14_code, 3, some .int)
  | 15 => (y_Lo_stuck, prog_1_method_15_code, 1, some .boolean)
  | 16 => (y_Sh_init, prog_7_method_1_code, 2, none)
  | 17 => (y_Sh_addStatement, prog_7_method_3_code, 3, some .int)
  | 18 => (y_Sh_fits, prog_7_method_4_code, 2, some .boolean)
  | 19 => (y_Sh_closeText, prog_7_method_5_code, 3, some .int)
  | 20 => (y_Sh_setGuard, prog_7_method_6_code, 3, some .boolean)
  | 21 => (y_Sh_contains, prog_7_method_2_code, 2, some .boolean)
  | 22 => (y_Sh_firstWrong, prog_7_method_7_code, 4, some .int)
  | 23 => (y_Sh_isRight, prog_7_method_9_code, 5, some .boolean)
  | 24 => (y_Sh_guardHeld, prog_7_method_10_code, 3, some .boolean)
  | 25 => (y_Sh_allRight, prog_7_method_8_code, 2, some .boolean)
  | 26 => (y_Bo_init, prog_2_method_1_code, 1, none)
  | 27 => (y_Bo_append, prog_2_method_3_code, 3, some .int)
  | 28 => (y_Bo_joinBlocks, prog_2_method_4_code, 5, some .boolean)
  | 29 => (y_Bo_closeBlock, prog_2_method_5_code, 4, some .int)
  | 30 => (y_Bo_clear, prog_2_method_2_code, 1, none)
  | 31 => (y_Ru_init, prog_6_method_1_code, 3, none)
  | 32 => (y_Ru_begin, prog_6_method_2_code, 4, none)
  | 33 => (y_Ru_leaveEnded, prog_6_method_6_code, 2, none)
  | 34 => (y_Ru_placeOf, prog_6_method_5_code, 1, some .int)
  | 35 => (y_Ru_bodyOf, prog_6_method_4_code, 2, some (.object "LockLoom$Body"))
  | 36 => (y_Ru_advance, prog_6_method_3_code, 3, some .int)
  | 37 => (y_Ru_wouldWait, prog_6_method_7_code, 4, some .boolean)
  | 38 => (y_Ru_perform, prog_6_method_8_code, 5, none)
  | 39 => (y_Ru_readCell, prog_6_method_9_code, 3, none)
  | 40 => (y_Ru_noteRace, prog_6_method_11_code, 4, none)
  | 41 => (y_Ru_writeCell, prog_6_method_10_code, 3, none)
  | 42 => (y_Ru_endBlock, prog_6_method_12_code, 4, none)
  | 43 => (y_Ru_fork, prog_6_method_13_code, 4, none)
  | 44 => (y_Ru_valueOf, prog_6_method_14_code, 2, some .int)
  | 45 => (y_Ru_contentOf, prog_6_method_15_code, 2, some .int)
  | 46 => (y_Ru_holderOf, prog_6_method_16_code, 2, some .int)
  | 47 => (y_Ru_stateOf, prog_6_method_17_code, 2, some .int)
  | 48 => (y_Ru_countOf, prog_6_method_18_code, 2, some .int)
  | 49 => (y_Ru_racePart, prog_6_method_19_code, 3, some .int)
  | 50 => (y_Ru_isStuck, prog_6_method_20_code, 4, some .boolean)
  | 51 => (y_Rl_init, prog_5_method_1_code, 1, none)
  | 52 => (y_Rl_clear, prog_5_method_2_code, 1, none)
  | 53 => (y_Rl_add, prog_5_method_3_code, 6, none)
  | 54 => (y_Rl_part, prog_5_method_4_code, 4, some .int)
  | 55 => (y_Sd_init, prog_8_method_1_code, 2, none)
  | 56 => (y_Sd_begin, prog_8_method_2_code, 3, none)
  | 57 => (y_Sd_enter, prog_8_method_3_code, 2, none)
  | 58 => (y_Sd_isDone, prog_8_method_4_code, 1, some .boolean)
  | 59 => (y_Sd_moveTo, prog_8_method_5_code, 2, none)
  | 60 => (y_Sd_learn, prog_8_method_6_code, 3, none)
  | 61 => (y_Lk_init, prog_4_method_1_code, 1, none)
  | 62 => (y_Lk_clear, prog_4_method_2_code, 1, none)
  | 63 => (y_Lk_refuses, prog_4_method_3_code, 2, some .boolean)
  | 64 => (y_Lk_take, prog_4_method_4_code, 2, none)
  | 65 => (y_Lk_release, prog_4_method_5_code, 2, none)
  | 66 => (y_Ce_init, prog_3_method_1_code, 1, none)
  | 67 => (y_Ce_clear, prog_3_method_2_code, 1, none)
  | 68 => (y_Ce_races, prog_3_method_3_code, 4, some .boolean)
  | 69 => (y_Mo_init, prog_10_method_1_code, 2, none)
  | 70 => (y_Mo_statement, prog_10_method_3_code, 4, some .int)
  | 71 => (y_Mo_isIn, prog_10_method_2_code, 2, some .boolean)
  | 72 => (y_Mo_body, prog_10_method_10_code, 4, some .int)
  | 73 => (y_Mo_isWhole, prog_10_method_9_code, 5, some .boolean)
  | 74 => (y_Mo_kindAt, prog_10_method_4_code, 3, some .int)
  | 75 => (y_Mo_openerOf, prog_10_method_7_code, 5, some .int)
  | 76 => (y_Mo_opens, prog_10_method_6_code, 1, some .boolean)
  | 77 => (y_Mo_closerOf, prog_10_method_8_code, 7, some .int)
  | 78 => (y_Mo_numberAt, prog_10_method_5_code, 3, some .int)
  | 79 => (y_Mo_guard, prog_10_method_11_code, 3, some .boolean)
  | 80 => (y_Mo_check, prog_10_method_14_code, 3, some .int)
  | 81 => (y_Mo_isRight, prog_10_method_13_code, 6, some .boolean)
  | 82 => (y_Mo_heldAt, prog_10_method_12_code, 5, some .int)
  | 83 => (y_Mo_sound, prog_10_method_15_code, 2, some .boolean)
  | 84 => (y_Mo_start, prog_10_method_19_code, 4, some .boolean)
  | 85 => (y_Mo_begin, prog_10_method_18_code, 4, none)
  | 86 => (y_Mo_enter, prog_10_method_16_code, 3, none)
  | 87 => (y_Mo_leave, prog_10_method_17_code, 3, none)
  | 88 => (y_Mo_step, prog_10_method_22_code, 4, some .int)
  | 89 => (y_Mo_isThread, prog_10_method_20_code, 2, some .boolean)
  | 90 => (y_Mo_waitsFor, prog_10_method_21_code, 4, some .int)
  | 91 => (y_Mo_does, prog_10_method_23_code, 6, none)
  | 92 => (y_Mo_meets, prog_10_method_27_code, 7, none)
  | 93 => (y_Mo_mark, prog_10_method_26_code, 2, none)
  | 94 => (y_Mo_takes, prog_10_method_24_code, 3, none)
  | 95 => (y_Mo_ends, prog_10_method_25_code, 6, none)
  | 96 => (y_Mo_has, prog_10_method_28_code, 2, some .int)
  | 97 => (y_Mo_cell, prog_10_method_29_code, 2, some .int)
  | 98 => (y_Mo_holder, prog_10_method_30_code, 2, some .int)
  | 99 => (y_Mo_state, prog_10_method_31_code, 2, some .int)
  | 100 => (y_Mo_count, prog_10_method_32_code, 2, some .int)
  | 101 => (y_Mo_race, prog_10_method_33_code, 4, some .int)
  | 102 => (y_Mo_stuck, prog_10_method_34_code, 3, some .boolean)
  | 103 => (y_Ar_fill, prog_13_method_103_code, 4, none)
  | _ => (y_Lo_init, prog_1_method_1_code, 1, none)
abbrev M_Lo_init : Nat := 0
abbrev M_Lo_statement : Nat := 1
abbrev M_Lo_isBelow : Nat := 2
abbrev M_Lo_body : Nat := 3
abbrev M_Lo_guard : Nat := 4
abbrev M_Lo_check : Nat := 5
abbrev M_Lo_sound : Nat := 6
abbrev M_Lo_start : Nat := 7
abbrev M_Lo_step : Nat := 8
abbrev M_Lo_has : Nat := 9
abbrev M_Lo_cell : Nat := 10
abbrev M_Lo_holder : Nat := 11
abbrev M_Lo_state : Nat := 12
abbrev M_Lo_count : Nat := 13
abbrev M_Lo_race : Nat := 14
abbrev M_Lo_stuck : Nat := 15
abbrev M_Sh_init : Nat := 16
abbrev M_Sh_addStatement : Nat := 17
abbrev M_Sh_fits : Nat := 18
abbrev M_Sh_closeText : Nat := 19
abbrev M_Sh_setGuard : Nat := 20
abbrev M_Sh_contains : Nat := 21
abbrev M_Sh_firstWrong : Nat := 22
abbrev M_Sh_isRight : Nat := 23
abbrev M_Sh_guardHeld : Nat := 24
abbrev M_Sh_allRight : Nat := 25
abbrev M_Bo_init : Nat := 26
abbrev M_Bo_append : Nat := 27
abbrev M_Bo_joinBlocks : Nat := 28
abbrev M_Bo_closeBlock : Nat := 29
abbrev M_Bo_clear : Nat := 30
abbrev M_Ru_init : Nat := 31
abbrev M_Ru_begin : Nat := 32
abbrev M_Ru_leaveEnded : Nat := 33
abbrev M_Ru_placeOf : Nat := 34
abbrev M_Ru_bodyOf : Nat := 35
abbrev M_Ru_advance : Nat := 36
abbrev M_Ru_wouldWait : Nat := 37
abbrev M_Ru_perform : Nat := 38
abbrev M_Ru_readCell : Nat := 39
abbrev M_Ru_noteRace : Nat := 40
abbrev M_Ru_writeCell : Nat := 41
abbrev M_Ru_endBlock : Nat := 42
abbrev M_Ru_fork : Nat := 43
abbrev M_Ru_valueOf : Nat := 44
abbrev M_Ru_contentOf : Nat := 45
abbrev M_Ru_holderOf : Nat := 46
abbrev M_Ru_stateOf : Nat := 47
abbrev M_Ru_countOf : Nat := 48
abbrev M_Ru_racePart : Nat := 49
abbrev M_Ru_isStuck : Nat := 50
abbrev M_Rl_init : Nat := 51
abbrev M_Rl_clear : Nat := 52
abbrev M_Rl_add : Nat := 53
abbrev M_Rl_part : Nat := 54
abbrev M_Sd_init : Nat := 55
abbrev M_Sd_begin : Nat := 56
abbrev M_Sd_enter : Nat := 57
abbrev M_Sd_isDone : Nat := 58
abbrev M_Sd_moveTo : Nat := 59
abbrev M_Sd_learn : Nat := 60
abbrev M_Lk_init : Nat := 61
abbrev M_Lk_clear : Nat := 62
abbrev M_Lk_refuses : Nat := 63
abbrev M_Lk_take : Nat := 64
abbrev M_Lk_release : Nat := 65
abbrev M_Ce_init : Nat := 66
abbrev M_Ce_clear : Nat := 67
abbrev M_Ce_races : Nat := 68
abbrev M_Mo_init : Nat := 69
abbrev M_Mo_statement : Nat := 70
abbrev M_Mo_isIn : Nat := 71
abbrev M_Mo_body : Nat := 72
abbrev M_Mo_isWhole : Nat := 73
abbrev M_Mo_kindAt : Nat := 74
abbrev M_Mo_openerOf : Nat := 75
abbrev M_Mo_opens : Nat := 76
abbrev M_Mo_closerOf : Nat := 77
abbrev M_Mo_numberAt : Nat := 78
abbrev M_Mo_guard : Nat := 79
abbrev M_Mo_check : Nat := 80
abbrev M_Mo_isRight : Nat := 81
abbrev M_Mo_heldAt : Nat := 82
abbrev M_Mo_sound : Nat := 83
abbrev M_Mo_start : Nat := 84
abbrev M_Mo_begin : Nat := 85
abbrev M_Mo_enter : Nat := 86
abbrev M_Mo_leave : Nat := 87
abbrev M_Mo_step : Nat := 88
abbrev M_Mo_isThread : Nat := 89
abbrev M_Mo_waitsFor : Nat := 90
abbrev M_Mo_does : Nat := 91
abbrev M_Mo_meets : Nat := 92
abbrev M_Mo_mark : Nat := 93
abbrev M_Mo_takes : Nat := 94
abbrev M_Mo_ends : Nat := 95
abbrev M_Mo_has : Nat := 96
abbrev M_Mo_cell : Nat := 97
abbrev M_Mo_holder : Nat := 98
abbrev M_Mo_state : Nat := 99
abbrev M_Mo_count : Nat := 100
abbrev M_Mo_race : Nat := 101
abbrev M_Mo_stuck : Nat := 102
abbrev M_Ar_fill : Nat := 103
theorem ml_Lo_9 : pm_ml R_Lo 9 y_Sh_init := Or.inl (pm_in1 (List.mem_append_left _ (List.mem_of_getElem? (i := 23) rfl)))
theorem ml_Lo_18 : pm_ml R_Lo 18 y_Ru_init := Or.inl (pm_in1 (List.mem_append_left _ (List.mem_of_getElem? (i := 82) rfl)))
theorem ml_Lo_25 : pm_ml R_Lo 25 y_Sh_addStatement := Or.inl (pm_in1 (List.mem_append_left _ (List.mem_of_getElem? (i := 205) rfl)))
theorem ml_Lo_29 : pm_ml R_Lo 29 y_Sh_closeText := Or.inl (pm_in1 (List.mem_append_left _ (List.mem_of_getElem? (i := 223) rfl)))
theorem ml_Lo_33 : pm_ml R_Lo 33 y_Sh_setGuard := Or.inl (pm_in1 (List.mem_append_right _ (List.mem_append_left _ (List.mem_of_getElem? (i := 3) rfl))))
theorem ml_Lo_37 : pm_ml R_Lo 37 y_Sh_contains := Or.inl (pm_in1 (List.mem_append_right _ (List.mem_append_left _ (List.mem_of_getElem? (i := 11) rfl))))
theorem ml_Lo_41 : pm_ml R_Lo 41 y_Sh_firstWrong := Or.inl (pm_in1 (List.mem_append_right _ (List.mem_append_left _ (List.mem_of_getElem? (i := 15) rfl))))
theorem ml_Lo_44 : pm_ml R_Lo 44 y_Sh_allRight := Or.inl (pm_in1 (List.mem_append_right _ (List.mem_append_left _ (List.mem_of_getElem? (i := 32) rfl))))
theorem ml_Lo_48 : pm_ml R_Lo 48 y_Ru_begin := Or.inl (pm_in1 (List.mem_append_right _ (List.mem_append_left _ (List.mem_of_getElem? (i := 41) rfl))))
theorem ml_Lo_52 : pm_ml R_Lo 52 y_Ru_advance := Or.inl (pm_in1 (List.mem_append_right _ (List.mem_append_left _ (List.mem_of_getElem? (i := 83) rfl))))
theorem ml_Lo_55 : pm_ml R_Lo 55 y_Ru_valueOf := Or.inl (pm_in1 (List.mem_append_right _ (List.mem_append_left _ (List.mem_of_getElem? (i := 161) rfl))))
theorem ml_Lo_58 : pm_ml R_Lo 58 y_Ru_contentOf := Or.inl (pm_in1 (List.mem_append_right _ (List.mem_append_left _ (List.mem_of_getElem? (i := 169) rfl))))
theorem ml_Lo_61 : pm_ml R_Lo 61 y_Ru_holderOf := Or.inl (pm_in1 (List.mem_append_right _ (List.mem_append_left _ (List.mem_of_getElem? (i := 177) rfl))))
theorem ml_Lo_64 : pm_ml R_Lo 64 y_Ru_stateOf := Or.inl (pm_in1 (List.mem_append_right _ (List.mem_append_left _ (List.mem_of_getElem? (i := 185) rfl))))
theorem ml_Lo_67 : pm_ml R_Lo 67 y_Ru_countOf := Or.inl (pm_in1 (List.mem_append_right _ (List.mem_append_left _ (List.mem_of_getElem? (i := 193) rfl))))
theorem ml_Lo_70 : pm_ml R_Lo 70 y_Ru_racePart := Or.inl (pm_in1 (List.mem_append_right _ (List.mem_append_left _ (List.mem_of_getElem? (i := 201) rfl))))
theorem ml_Lo_73 : pm_ml R_Lo 73 y_Ru_isStuck := Or.inl (pm_in1 (List.mem_append_right _ (List.mem_append_left _ (List.mem_of_getElem? (i := 217) rfl))))
theorem ml_Sh_21 : pm_ml R_Sh 21 y_Bo_init := Or.inr ⟨_, pm_in1 (List.mem_append_left _ (List.mem_of_getElem? (i := 30) rfl))⟩
theorem ml_Sh_26 : pm_ml R_Sh 26 y_Ar_fill := Or.inl (pm_in1 (List.mem_append_left _ (List.mem_of_getElem? (i := 63) rfl)))
theorem ml_Sh_40 : pm_ml R_Sh 40 y_Sh_fits := Or.inl (pm_in1 (List.mem_append_left _ (List.mem_of_getElem? (i := 209) rfl)))
theorem ml_Sh_43 : pm_ml R_Sh 43 y_Bo_append := Or.inl (pm_in1 (List.mem_append_left _ (List.mem_of_getElem? (i := 215) rfl)))
theorem ml_Sh_36 : pm_ml R_Sh 36 y_Lo_isBelow := Or.inr ⟨_, pm_in1 (List.mem_append_left _ (List.mem_of_getElem? (i := 212) rfl))⟩
theorem ml_Sh_47 : pm_ml R_Sh 47 y_Bo_joinBlocks := Or.inl (pm_in1 (List.mem_append_left _ (List.mem_of_getElem? (i := 227) rfl)))
theorem ml_Sh_51 : pm_ml R_Sh 51 y_Bo_clear := Or.inl (pm_in1 (List.mem_append_left _ (List.mem_of_getElem? (i := 235) rfl)))
theorem ml_Sh_57 : pm_ml R_Sh 57 y_Sh_isRight := Or.inl (pm_in1 (List.mem_append_right _ (List.mem_append_left _ (List.mem_of_getElem? (i := 19) rfl))))
theorem ml_Sh_74 : pm_ml R_Sh 74 y_Sh_guardHeld := Or.inl (pm_in1 (List.mem_append_right _ (List.mem_append_left _ (List.mem_of_getElem? (i := 23) rfl))))
theorem ml_Sh_77 : pm_ml R_Sh 77 y_Sh_contains := Or.inl (pm_in1 (List.mem_append_right _ (List.mem_append_left _ (List.mem_of_getElem? (i := 27) rfl))))
theorem ml_Sh_61 : pm_ml R_Sh 61 y_Sh_firstWrong := Or.inl (pm_in1 (List.mem_append_right _ (List.mem_append_left _ (List.mem_of_getElem? (i := 36) rfl))))
theorem ml_Bo_31 : pm_ml R_Bo 31 y_Bo_closeBlock := Or.inl (pm_in1 (List.mem_append_left _ (List.mem_of_getElem? (i := 231) rfl)))
theorem ml_Ru_31 : pm_ml R_Ru 31 y_Rl_init := Or.inr ⟨_, pm_in1 (List.mem_append_left _ (List.mem_of_getElem? (i := 94) rfl))⟩
theorem ml_Ru_40 : pm_ml R_Ru 40 y_Sd_init := Or.inl (pm_in1 (List.mem_append_left _ (List.mem_of_getElem? (i := 107) rfl)))
theorem ml_Ru_43 : pm_ml R_Ru 43 y_Lk_init := Or.inr ⟨_, pm_in1 (List.mem_append_left _ (List.mem_of_getElem? (i := 139) rfl))⟩
theorem ml_Ru_44 : pm_ml R_Ru 44 y_Ce_init := Or.inr ⟨_, pm_in1 (List.mem_append_left _ (List.mem_of_getElem? (i := 155) rfl))⟩
theorem ml_Ru_45 : pm_ml R_Ru 45 y_Lk_clear := Or.inl (pm_in1 (List.mem_append_right _ (List.mem_append_left _ (List.mem_of_getElem? (i := 45) rfl))))
theorem ml_Ru_48 : pm_ml R_Ru 48 y_Ce_clear := Or.inl (pm_in1 (List.mem_append_right _ (List.mem_append_left _ (List.mem_of_getElem? (i := 50) rfl))))
theorem ml_Ru_49 : pm_ml R_Ru 49 y_Rl_clear := Or.inl (pm_in1 (List.mem_append_right _ (List.mem_append_left _ (List.mem_of_getElem? (i := 55) rfl))))
theorem ml_Ru_61 : pm_ml R_Ru 61 y_Ar_fill := Or.inl (pm_in1 (List.mem_append_right _ (List.mem_append_left _ (List.mem_of_getElem? (i := 59) rfl))))
theorem ml_Ru_67 : pm_ml R_Ru 67 y_Sd_begin := Or.inl (pm_in1 (List.mem_append_right _ (List.mem_append_left _ (List.mem_of_getElem? (i := 60) rfl))))
theorem ml_Ru_71 : pm_ml R_Ru 71 y_Ru_leaveEnded := Or.inl (pm_in1 (List.mem_append_right _ (List.mem_append_left _ (List.mem_of_getElem? (i := 68) rfl))))
theorem ml_Ru_104 : pm_ml R_Ru 104 y_Ru_placeOf := Or.inl (pm_in1 (List.mem_append_right _ (List.mem_append_left _ (List.mem_of_getElem? (i := 72) rfl))))
theorem ml_Ru_108 : pm_ml R_Ru 108 y_Ru_bodyOf := Or.inl (pm_in1 (List.mem_append_right _ (List.mem_append_left _ (List.mem_of_getElem? (i := 75) rfl))))
theorem ml_Ru_75 : pm_ml R_Ru 75 y_Lo_isBelow := Or.inr ⟨_, pm_in1 (List.mem_append_right _ (List.mem_append_left _ (List.mem_of_getElem? (i := 87) rfl)))⟩
theorem ml_Ru_79 : pm_ml R_Ru 79 y_Sd_isDone := Or.inl (pm_in1 (List.mem_append_right _ (List.mem_append_left _ (List.mem_of_getElem? (i := 88) rfl))))
theorem ml_Ru_83 : pm_ml R_Ru 83 y_Ru_wouldWait := Or.inl (pm_in1 (List.mem_append_right _ (List.mem_append_left _ (List.mem_of_getElem? (i := 92) rfl))))
theorem ml_Ru_87 : pm_ml R_Ru 87 y_Ru_perform := Or.inl (pm_in1 (List.mem_append_right _ (List.mem_append_left _ (List.mem_of_getElem? (i := 100) rfl))))
theorem ml_Ru_123 : pm_ml R_Ru 123 y_Lk_refuses := Or.inl (pm_in1 (List.mem_append_right _ (List.mem_append_left _ (List.mem_of_getElem? (i := 96) rfl))))
theorem ml_Ru_126 : pm_ml R_Ru 126 y_Sd_moveTo := Or.inl (pm_in1 (List.mem_append_right _ (List.mem_append_left _ (List.mem_of_getElem? (i := 104) rfl))))
theorem ml_Ru_129 : pm_ml R_Ru 129 y_Ru_readCell := Or.inl (pm_in1 (List.mem_append_right _ (List.mem_append_left _ (List.mem_of_getElem? (i := 108) rfl))))
theorem ml_Ru_133 : pm_ml R_Ru 133 y_Ru_writeCell := Or.inl (pm_in1 (List.mem_append_right _ (List.mem_append_left _ (List.mem_of_getElem? (i := 124) rfl))))
theorem ml_Ru_139 : pm_ml R_Ru 139 y_Lk_take := Or.inl (pm_in1 (List.mem_append_right _ (List.mem_append_left _ (List.mem_of_getElem? (i := 128) rfl))))
theorem ml_Ru_145 : pm_ml R_Ru 145 y_Ru_endBlock := Or.inl (pm_in1 (List.mem_append_right _ (List.mem_append_left _ (List.mem_of_getElem? (i := 139) rfl))))
theorem ml_Ru_149 : pm_ml R_Ru 149 y_Ru_fork := Or.inl (pm_in1 (List.mem_append_right _ (List.mem_append_left _ (List.mem_of_getElem? (i := 150) rfl))))
theorem ml_Ru_152 : pm_ml R_Ru 152 y_Sh_contains := Or.inl (pm_in1 (List.mem_append_right _ (List.mem_append_left _ (List.mem_of_getElem? (i := 154) rfl))))
theorem ml_Ru_156 : pm_ml R_Ru 156 y_Sd_enter := Or.inl (pm_in1 (List.mem_append_right _ (List.mem_append_left _ (List.mem_of_getElem? (i := 156) rfl))))
theorem ml_Ru_159 : pm_ml R_Ru 159 y_Ru_noteRace := Or.inl (pm_in1 (List.mem_append_right _ (List.mem_append_left _ (List.mem_of_getElem? (i := 112) rfl))))
theorem ml_Ru_173 : pm_ml R_Ru 173 y_Ce_races := Or.inl (pm_in1 (List.mem_append_right _ (List.mem_append_left _ (List.mem_of_getElem? (i := 116) rfl))))
theorem ml_Ru_177 : pm_ml R_Ru 177 y_Rl_add := Or.inl (pm_in1 (List.mem_append_right _ (List.mem_append_left _ (List.mem_of_getElem? (i := 120) rfl))))
theorem ml_Ru_181 : pm_ml R_Ru 181 y_Lk_release := Or.inl (pm_in1 (List.mem_append_right _ (List.mem_append_left _ (List.mem_of_getElem? (i := 143) rfl))))
theorem ml_Ru_196 : pm_ml R_Ru 196 y_Rl_part := Or.inl (pm_in1 (List.mem_append_right _ (List.mem_append_left _ (List.mem_of_getElem? (i := 205) rfl))))
theorem ml_Ru_200 : pm_ml R_Ru 200 y_Ru_stateOf := Or.inl (pm_in1 (List.mem_append_right _ (List.mem_append_left _ (List.mem_of_getElem? (i := 221) rfl))))
theorem ml_Rl_25 : pm_ml R_Rl 25 y_Lo_isBelow := Or.inr ⟨_, pm_in1 (List.mem_append_right _ (List.mem_append_left _ (List.mem_of_getElem? (i := 212) rfl)))⟩
theorem ml_Sd_31 : pm_ml R_Sd 31 y_Sd_enter := Or.inl (pm_in1 (List.mem_append_right _ (List.mem_append_left _ (List.mem_of_getElem? (i := 64) rfl))))
theorem ml_Lk_19 : pm_ml R_Lk 19 y_Ar_fill := Or.inl (pm_in1 (List.mem_append_right _ (List.mem_append_left _ (List.mem_of_getElem? (i := 49) rfl))))
theorem ml_Lk_33 : pm_ml R_Lk 33 y_Sd_learn := Or.inl (pm_in1 (List.mem_append_right _ (List.mem_append_left _ (List.mem_of_getElem? (i := 132) rfl))))
theorem ml_Ce_18 : pm_ml R_Ce 18 y_Ar_fill := Or.inl (pm_in1 (List.mem_append_right _ (List.mem_append_left _ (List.mem_of_getElem? (i := 54) rfl))))
theorem ml_Mo_68 : pm_ml R_Mo 68 y_Mo_isIn := Or.inl (pm_in1 (List.mem_append_right _ (List.mem_append_right _ (List.mem_of_getElem? (i := 66) rfl))))
theorem ml_Mo_91 : pm_ml R_Mo 91 y_Mo_isWhole := Or.inl (pm_in1 (List.mem_append_right _ (List.mem_append_right _ (List.mem_of_getElem? (i := 73) rfl))))
theorem ml_Mo_72 : pm_ml R_Mo 72 y_Mo_kindAt := Or.inl (pm_in1 (List.mem_append_right _ (List.mem_append_right _ (List.mem_of_getElem? (i := 77) rfl))))
theorem ml_Mo_95 : pm_ml R_Mo 95 y_Mo_numberAt := Or.inl (pm_in1 (List.mem_append_right _ (List.mem_append_right _ (List.mem_of_getElem? (i := 92) rfl))))
theorem ml_Mo_80 : pm_ml R_Mo 80 y_Mo_openerOf := Or.inl (pm_in1 (List.mem_append_right _ (List.mem_append_right _ (List.mem_of_getElem? (i := 81) rfl))))
theorem ml_Mo_76 : pm_ml R_Mo 76 y_Mo_opens := Or.inl (pm_in1 (List.mem_append_right _ (List.mem_append_right _ (List.mem_of_getElem? (i := 85) rfl))))
theorem ml_Mo_83 : pm_ml R_Mo 83 y_Mo_closerOf := Or.inl (pm_in1 (List.mem_append_right _ (List.mem_append_right _ (List.mem_of_getElem? (i := 88) rfl))))
theorem ml_Mo_101 : pm_ml R_Mo 101 y_Mo_isRight := Or.inl (pm_in1 (List.mem_append_right _ (List.mem_append_right _ (List.mem_of_getElem? (i := 104) rfl))))
theorem ml_Mo_98 : pm_ml R_Mo 98 y_Mo_heldAt := Or.inl (pm_in1 (List.mem_append_right _ (List.mem_append_right _ (List.mem_of_getElem? (i := 108) rfl))))
theorem ml_Mo_104 : pm_ml R_Mo 104 y_Mo_check := Or.inl (pm_in1 (List.mem_append_right _ (List.mem_append_right _ (List.mem_of_getElem? (i := 116) rfl))))
theorem ml_Mo_129 : pm_ml R_Mo 129 y_Mo_begin := Or.inl (pm_in1 (List.mem_append_right _ (List.mem_append_right _ (List.mem_of_getElem? (i := 121) rfl))))
theorem ml_Mo_111 : pm_ml R_Mo 111 y_Mo_enter := Or.inl (pm_in1 (List.mem_append_right _ (List.mem_append_right _ (List.mem_of_getElem? (i := 125) rfl))))
theorem ml_Mo_115 : pm_ml R_Mo 115 y_Mo_leave := Or.inl (pm_in1 (List.mem_append_right _ (List.mem_append_right _ (List.mem_of_getElem? (i := 129) rfl))))
theorem ml_Mo_133 : pm_ml R_Mo 133 y_Mo_isThread := Or.inl (pm_in1 (List.mem_append_right _ (List.mem_append_right _ (List.mem_of_getElem? (i := 137) rfl))))
theorem ml_Mo_136 : pm_ml R_Mo 136 y_Mo_waitsFor := Or.inl (pm_in1 (List.mem_append_right _ (List.mem_append_right _ (List.mem_of_getElem? (i := 141) rfl))))
theorem ml_Mo_139 : pm_ml R_Mo 139 y_Mo_does := Or.inl (pm_in1 (List.mem_append_right _ (List.mem_append_right _ (List.mem_of_getElem? (i := 145) rfl))))
theorem ml_Mo_142 : pm_ml R_Mo 142 y_Mo_meets := Or.inl (pm_in1 (List.mem_append_right _ (List.mem_append_right _ (List.mem_of_getElem? (i := 149) rfl))))
theorem ml_Mo_145 : pm_ml R_Mo 145 y_Mo_takes := Or.inl (pm_in1 (List.mem_append_right _ (List.mem_append_right _ (List.mem_of_getElem? (i := 157) rfl))))
theorem ml_Mo_148 : pm_ml R_Mo 148 y_Mo_ends := Or.inl (pm_in1 (List.mem_append_right _ (List.mem_append_right _ (List.mem_of_getElem? (i := 161) rfl))))
theorem ml_Mo_151 : pm_ml R_Mo 151 y_Mo_mark := Or.inl (pm_in1 (List.mem_append_right _ (List.mem_append_right _ (List.mem_of_getElem? (i := 153) rfl))))
theorem ml_Mo_154 : pm_ml R_Mo 154 y_Mo_state := Or.inl (pm_in1 (List.mem_append_right _ (List.mem_append_right _ (List.mem_of_getElem? (i := 193) rfl))))
theorem ml_Law_9 : pm_ml R_Law 9 y_Lo_init := Or.inl (pm_in1 (List.mem_append_left _ (List.mem_of_getElem? (i := 15) rfl)))
theorem ml_Law_12 : pm_ml R_Law 12 y_Mo_init := Or.inl (pm_in1 (List.mem_append_right _ (List.mem_append_left _ (List.mem_of_getElem? (i := 224) rfl))))
theorem ml_Law_13 : pm_ml R_Law 13 y_Lo_statement := Or.inl (pm_in1 (List.mem_append_left _ (List.mem_of_getElem? (i := 201) rfl)))
theorem ml_Law_17 : pm_ml R_Law 17 y_Mo_statement := Or.inl (pm_in1 (List.mem_append_right _ (List.mem_append_right _ (List.mem_of_getElem? (i := 62) rfl))))
theorem ml_Law_18 : pm_ml R_Law 18 y_Lo_body := Or.inl (pm_in1 (List.mem_append_left _ (List.mem_of_getElem? (i := 219) rfl)))
theorem ml_Law_22 : pm_ml R_Law 22 y_Mo_body := Or.inl (pm_in1 (List.mem_append_right _ (List.mem_append_right _ (List.mem_of_getElem? (i := 69) rfl))))
theorem ml_Law_23 : pm_ml R_Law 23 y_Lo_guard := Or.inl (pm_in1 (List.mem_append_left _ (List.mem_of_getElem? (i := 239) rfl)))
theorem ml_Law_27 : pm_ml R_Law 27 y_Mo_guard := Or.inl (pm_in1 (List.mem_append_right _ (List.mem_append_right _ (List.mem_of_getElem? (i := 96) rfl))))
theorem ml_Law_28 : pm_ml R_Law 28 y_Lo_check := Or.inl (pm_in1 (List.mem_append_right _ (List.mem_append_left _ (List.mem_of_getElem? (i := 7) rfl))))
theorem ml_Law_31 : pm_ml R_Law 31 y_Mo_check := Or.inl (pm_in1 (List.mem_append_right _ (List.mem_append_right _ (List.mem_of_getElem? (i := 100) rfl))))
theorem ml_Law_32 : pm_ml R_Law 32 y_Lo_sound := Or.inl (pm_in1 (List.mem_append_right _ (List.mem_append_left _ (List.mem_of_getElem? (i := 28) rfl))))
theorem ml_Law_36 : pm_ml R_Law 36 y_Mo_sound := Or.inl (pm_in1 (List.mem_append_right _ (List.mem_append_right _ (List.mem_of_getElem? (i := 112) rfl))))
theorem ml_Law_37 : pm_ml R_Law 37 y_Lo_start := Or.inl (pm_in1 (List.mem_append_right _ (List.mem_append_left _ (List.mem_of_getElem? (i := 37) rfl))))
theorem ml_Law_40 : pm_ml R_Law 40 y_Mo_start := Or.inl (pm_in1 (List.mem_append_right _ (List.mem_append_right _ (List.mem_of_getElem? (i := 117) rfl))))
theorem ml_Law_41 : pm_ml R_Law 41 y_Lo_step := Or.inl (pm_in1 (List.mem_append_right _ (List.mem_append_left _ (List.mem_of_getElem? (i := 79) rfl))))
theorem ml_Law_44 : pm_ml R_Law 44 y_Mo_step := Or.inl (pm_in1 (List.mem_append_right _ (List.mem_append_right _ (List.mem_of_getElem? (i := 133) rfl))))
theorem ml_Law_45 : pm_ml R_Law 45 y_Lo_has := Or.inl (pm_in1 (List.mem_append_right _ (List.mem_append_left _ (List.mem_of_getElem? (i := 157) rfl))))
theorem ml_Law_48 : pm_ml R_Law 48 y_Mo_has := Or.inl (pm_in1 (List.mem_append_right _ (List.mem_append_right _ (List.mem_of_getElem? (i := 165) rfl))))
theorem ml_Law_49 : pm_ml R_Law 49 y_Lo_cell := Or.inl (pm_in1 (List.mem_append_right _ (List.mem_append_left _ (List.mem_of_getElem? (i := 165) rfl))))
theorem ml_Law_52 : pm_ml R_Law 52 y_Mo_cell := Or.inl (pm_in1 (List.mem_append_right _ (List.mem_append_right _ (List.mem_of_getElem? (i := 169) rfl))))
theorem ml_Law_53 : pm_ml R_Law 53 y_Lo_holder := Or.inl (pm_in1 (List.mem_append_right _ (List.mem_append_left _ (List.mem_of_getElem? (i := 173) rfl))))
theorem ml_Law_56 : pm_ml R_Law 56 y_Mo_holder := Or.inl (pm_in1 (List.mem_append_right _ (List.mem_append_right _ (List.mem_of_getElem? (i := 173) rfl))))
theorem ml_Law_57 : pm_ml R_Law 57 y_Lo_state := Or.inl (pm_in1 (List.mem_append_right _ (List.mem_append_left _ (List.mem_of_getElem? (i := 181) rfl))))
theorem ml_Law_60 : pm_ml R_Law 60 y_Mo_state := Or.inl (pm_in1 (List.mem_append_right _ (List.mem_append_right _ (List.mem_of_getElem? (i := 177) rfl))))
theorem ml_Law_61 : pm_ml R_Law 61 y_Lo_count := Or.inl (pm_in1 (List.mem_append_right _ (List.mem_append_left _ (List.mem_of_getElem? (i := 189) rfl))))
theorem ml_Law_64 : pm_ml R_Law 64 y_Mo_count := Or.inl (pm_in1 (List.mem_append_right _ (List.mem_append_right _ (List.mem_of_getElem? (i := 181) rfl))))
theorem ml_Law_65 : pm_ml R_Law 65 y_Lo_race := Or.inl (pm_in1 (List.mem_append_right _ (List.mem_append_left _ (List.mem_of_getElem? (i := 197) rfl))))
theorem ml_Law_68 : pm_ml R_Law 68 y_Mo_race := Or.inl (pm_in1 (List.mem_append_right _ (List.mem_append_right _ (List.mem_of_getElem? (i := 185) rfl))))
theorem ml_Law_69 : pm_ml R_Law 69 y_Lo_stuck := Or.inl (pm_in1 (List.mem_append_right _ (List.mem_append_left _ (List.mem_of_getElem? (i := 213) rfl))))
theorem ml_Law_72 : pm_ml R_Law 72 y_Mo_stuck := Or.inl (pm_in1 (List.mem_append_right _ (List.mem_append_right _ (List.mem_of_getElem? (i := 189) rfl))))
end
section
theorem d_Lo_init_0 : decode prog_1_method_1_code 0 = .ok (.aload_n 0, 1) := by decide +kernel
theorem d_Lo_init_1 : decode prog_1_method_1_code 1 = .ok (.invokespecial 1, 3) := by decide +kernel
theorem d_Lo_init_4 : decode prog_1_method_1_code 4 = .ok (.aload_n 0, 1) := by decide +kernel
theorem d_Lo_init_5 : decode prog_1_method_1_code 5 = .ok (.new 7, 3) := by decide +kernel
theorem d_Lo_init_8 : decode prog_1_method_1_code 8 = .ok (.dup, 1) := by decide +kernel
theorem d_Lo_init_9 : decode prog_1_method_1_code 9 = .ok (.invokespecial 9, 3) := by decide +kernel
theorem d_Lo_init_12 : decode prog_1_method_1_code 12 = .ok (.putfield 10, 3) := by decide +kernel
theorem d_Lo_init_15 : decode prog_1_method_1_code 15 = .ok (.aload_n 0, 1) := by decide +kernel
theorem d_Lo_init_16 : decode prog_1_method_1_code 16 = .ok (.new 16, 3) := by decide +kernel
theorem d_Lo_init_19 : decode prog_1_method_1_code 19 = .ok (.dup, 1) := by decide +kernel
theorem d_Lo_init_20 : decode prog_1_method_1_code 20 = .ok (.aload_n 0, 1) := by decide +kernel
theorem d_Lo_init_21 : decode prog_1_method_1_code 21 = .ok (.getfield 10, 3) := by decide +kernel
theorem d_Lo_init_24 : decode prog_1_method_1_code 24 = .ok (.invokespecial 18, 3) := by decide +kernel
theorem d_Lo_init_27 : decode prog_1_method_1_code 27 = .ok (.putfield 21, 3) := by decide +kernel
theorem d_Lo_init_30 : decode prog_1_method_1_code 30 = .ok (.return_, 1) := by decide +kernel
def tb_Lo_init : List pm_I := [
  pm_aload 1 0,
  pm_oinit 2,
  pm_aload 3 0,
  pm_newo 4 1 4,
  pm_dup 5,
  pm_callc 6 16 1,
  pm_putr 7 0 0,
  pm_aload 8 0,
  pm_newo 9 3 7,
  pm_dup 10,
  pm_aload 11 0,
  pm_getr 12 0 0,
  pm_callc 13 31 2,
  pm_putr 14 0 1,
  pm_vret]
def bp_Lo_init : List Nat := [0, 1, 4, 5, 8, 9, 12, 15, 16, 19, 20, 21, 24, 27, 30]
set_option maxRecDepth 100000 in
theorem sd_Lo_init : pm_Sl prog_1_method_1_code 1 R_Lo "<init>" (none) pm_Y (pm_b bp_Lo_init) 0 tb_Lo_init := by
  refine ⟨so_aloadn d_Lo_init_0 rfl rfl, ?_⟩
  refine ⟨so_oinit (pm_in1 (List.mem_append_left _ (List.mem_of_getElem? (i := 18) rfl))) (pm_in1 (List.mem_append_left _ (List.mem_of_getElem? (i := 19) rfl))) (pm_in1 (List.mem_append_left _ (List.mem_of_getElem? (i := 20) rfl))) d_Lo_init_1 rfl, ?_⟩
  refine ⟨so_aloadn d_Lo_init_4 rfl rfl, ?_⟩
  refine ⟨so_newo (ci := 1) rfl (by decide +kernel) (pm_in1 (List.mem_append_left _ (List.mem_of_getElem? (i := 21) rfl))) (pm_in1 (List.mem_append_left _ (List.mem_of_getElem? (i := 22) rfl))) (pm_in1 (List.mem_append_left _ (List.mem_of_getElem? (i := 2) rfl))) d_Lo_init_5 rfl, ?_⟩
  refine ⟨so_dup d_Lo_init_8 rfl, ?_⟩
  refine ⟨so_callc rfl rfl mc_Sh_init mi_Sh mj_Sh_init ml_Lo_9 yd_Sh_init (by decide) d_Lo_init_9 rfl, ?_⟩
  refine ⟨so_putr (ci := 0) (k := 0) rfl (by decide) rfl rfl (Or.inr ⟨rfl, rfl, rfl, pm_in1 (List.mem_append_left _ (List.mem_of_getElem? (i := 194) rfl))⟩) d_Lo_init_12 rfl, ?_⟩
  refine ⟨so_aloadn d_Lo_init_15 rfl rfl, ?_⟩
  refine ⟨so_newo (ci := 3) rfl (by decide +kernel) (pm_in1 (List.mem_append_left _ (List.mem_of_getElem? (i := 80) rfl))) (pm_in1 (List.mem_append_left _ (List.mem_of_getElem? (i := 81) rfl))) (pm_in1 (List.mem_append_left _ (List.mem_of_getElem? (i := 5) rfl))) d_Lo_init_16 rfl, ?_⟩
  refine ⟨so_dup d_Lo_init_19 rfl, ?_⟩
  refine ⟨so_aloadn d_Lo_init_20 rfl rfl, ?_⟩
  refine ⟨so_getr (ci := 0) (k := 0) rfl (by decide) rfl rfl fl_Lo_10 d_Lo_init_21 rfl, ?_⟩
  refine ⟨so_callc rfl rfl mc_Ru_init mi_Ru mj_Ru_init ml_Lo_18 yd_Ru_init (by decide) d_Lo_init_24 rfl, ?_⟩
  refine ⟨so_putr (ci := 0) (k := 1) rfl (by decide) rfl rfl (Or.inr ⟨rfl, rfl, rfl, pm_in1 (List.mem_append_left _ (List.mem_of_getElem? (i := 195) rfl))⟩) d_Lo_init_27 rfl, ?_⟩
  refine ⟨so_vret d_Lo_init_30 rfl, ?_⟩
  exact trivial
theorem d_Lo_statement_0 : decode prog_1_method_2_code 0 = .ok (.aload_n 0, 1) := by decide +kernel
theorem d_Lo_statement_1 : decode prog_1_method_2_code 1 = .ok (.getfield 10, 3) := by decide +kernel
theorem d_Lo_statement_4 : decode prog_1_method_2_code 4 = .ok (.iload_n 1, 1) := by decide +kernel
theorem d_Lo_statement_5 : decode prog_1_method_2_code 5 = .ok (.iload_n 2, 1) := by decide +kernel
theorem d_Lo_statement_6 : decode prog_1_method_2_code 6 = .ok (.invokevirtual 25, 3) := by decide +kernel
theorem d_Lo_statement_9 : decode prog_1_method_2_code 9 = .ok (.ireturn, 1) := by decide +kernel
def tb_Lo_statement : List pm_I := [
  pm_aload 1 0,
  pm_getr 2 0 0,
  pm_iload 3 1,
  pm_iload 4 2,
  pm_callv 5 17 3 1,
  pm_iret]
def bp_Lo_statement : List Nat := [0, 1, 4, 5, 6, 9]
set_option maxRecDepth 100000 in
theorem sd_Lo_statement : pm_Sl prog_1_method_2_code 3 R_Lo "statement" (some .int) pm_Y (pm_b bp_Lo_statement) 0 tb_Lo_statement := by
  refine ⟨so_aloadn d_Lo_statement_0 rfl rfl, ?_⟩
  refine ⟨so_getr (ci := 0) (k := 0) rfl (by decide) rfl rfl fl_Lo_10 d_Lo_statement_1 rfl, ?_⟩
  refine ⟨so_iloadn d_Lo_statement_4 rfl rfl, ?_⟩
  refine ⟨so_iloadn d_Lo_statement_5 rfl rfl, ?_⟩
  refine ⟨so_callv (ci := 1) rfl rfl mc_Sh_addStatement mi_Sh mj_Sh_addStatement ms_Sh_addStatement ml_Lo_25 yd_Sh_addStatement (by decide) d_Lo_statement_6 rfl, ?_⟩
  refine ⟨so_iret d_Lo_statement_9 rfl, ?_⟩
  exact trivial
theorem d_Lo_isBelow_0 : decode prog_1_method_16_code 0 = .ok (.iload_n 0, 1) := by decide +kernel
theorem d_Lo_isBelow_1 : decode prog_1_method_16_code 1 = .ok (.ifCond .lt 12, 3) := by decide +kernel
theorem d_Lo_isBelow_4 : decode prog_1_method_16_code 4 = .ok (.iload_n 0, 1) := by decide +kernel
theorem d_Lo_isBelow_5 : decode prog_1_method_16_code 5 = .ok (.iload_n 1, 1) := by decide +kernel
theorem d_Lo_isBelow_6 : decode prog_1_method_16_code 6 = .ok (.if_icmp .ge 7, 3) := by decide +kernel
theorem d_Lo_isBelow_9 : decode prog_1_method_16_code 9 = .ok (.iconst 1, 1) := by decide +kernel
theorem d_Lo_isBelow_10 : decode prog_1_method_16_code 10 = .ok (.goto 4, 3) := by decide +kernel
theorem d_Lo_isBelow_13 : decode prog_1_method_16_code 13 = .ok (.iconst 0, 1) := by decide +kernel
theorem d_Lo_isBelow_14 : decode prog_1_method_16_code 14 = .ok (.ireturn, 1) := by decide +kernel
def tb_Lo_isBelow : List pm_I := [
  pm_iload 1 0,
  pm_if 7 2 (fun a => decide (a < 0)),
  pm_iload 3 0,
  pm_iload 4 1,
  pm_icmp 7 5 (fun a b => decide (b ≤ a)),
  pm_const 6 1,
  pm_goto 8,
  pm_const 8 0,
  pm_zret]
def bp_Lo_isBelow : List Nat := [0, 1, 4, 5, 6, 9, 10, 13, 14]
set_option maxRecDepth 100000 in
theorem sd_Lo_isBelow : pm_Sl prog_1_method_16_code 2 R_Lo "isBelow" (some .boolean) pm_Y (pm_b bp_Lo_isBelow) 0 tb_Lo_isBelow := by
  refine ⟨so_iloadn d_Lo_isBelow_0 rfl rfl, ?_⟩
  refine ⟨so_if_lt d_Lo_isBelow_1 rfl rfl, ?_⟩
  refine ⟨so_iloadn d_Lo_isBelow_4 rfl rfl, ?_⟩
  refine ⟨so_iloadn d_Lo_isBelow_5 rfl rfl, ?_⟩
  refine ⟨so_icmp_ge d_Lo_isBelow_6 rfl rfl, ?_⟩
  refine ⟨so_const1 d_Lo_isBelow_9 (by decide) rfl, ?_⟩
  refine ⟨so_goto d_Lo_isBelow_10 rfl, ?_⟩
  refine ⟨so_const1 d_Lo_isBelow_13 (by decide) rfl, ?_⟩
  refine ⟨so_zret d_Lo_isBelow_14 rfl, ?_⟩
  exact trivial
theorem d_Lo_body_0 : decode prog_1_method_3_code 0 = .ok (.aload_n 0, 1) := by decide +kernel
theorem d_Lo_body_1 : decode prog_1_method_3_code 1 = .ok (.getfield 10, 3) := by decide +kernel
theorem d_Lo_body_4 : decode prog_1_method_3_code 4 = .ok (.iload_n 1, 1) := by decide +kernel
theorem d_Lo_body_5 : decode prog_1_method_3_code 5 = .ok (.bipush 15, 2) := by decide +kernel
theorem d_Lo_body_7 : decode prog_1_method_3_code 7 = .ok (.iand, 1) := by decide +kernel
theorem d_Lo_body_8 : decode prog_1_method_3_code 8 = .ok (.invokevirtual 29, 3) := by decide +kernel
theorem d_Lo_body_11 : decode prog_1_method_3_code 11 = .ok (.ireturn, 1) := by decide +kernel
def tb_Lo_body : List pm_I := [
  pm_aload 1 0,
  pm_getr 2 0 0,
  pm_iload 3 1,
  pm_const 4 15,
  pm_bin 5 (fun a b => a &&& b),
  pm_callv 6 19 2 1,
  pm_iret]
def bp_Lo_body : List Nat := [0, 1, 4, 5, 7, 8, 11]
set_option maxRecDepth 100000 in
theorem sd_Lo_body : pm_Sl prog_1_method_3_code 2 R_Lo "body" (some .int) pm_Y (pm_b bp_Lo_body) 0 tb_Lo_body := by
  refine ⟨so_aloadn d_Lo_body_0 rfl rfl, ?_⟩
  refine ⟨so_getr (ci := 0) (k := 0) rfl (by decide) rfl rfl fl_Lo_10 d_Lo_body_1 rfl, ?_⟩
  refine ⟨so_iloadn d_Lo_body_4 rfl rfl, ?_⟩
  refine ⟨so_const2 d_Lo_body_5 (by decide) rfl, ?_⟩
  refine ⟨so_iand d_Lo_body_7 rfl, ?_⟩
  refine ⟨so_callv (ci := 1) rfl rfl mc_Sh_closeText mi_Sh mj_Sh_closeText ms_Sh_closeText ml_Lo_29 yd_Sh_closeText (by decide) d_Lo_body_8 rfl, ?_⟩
  refine ⟨so_iret d_Lo_body_11 rfl, ?_⟩
  exact trivial
theorem d_Lo_guard_0 : decode prog_1_method_4_code 0 = .ok (.aload_n 0, 1) := by decide +kernel
theorem d_Lo_guard_1 : decode prog_1_method_4_code 1 = .ok (.getfield 10, 3) := by decide +kernel
theorem d_Lo_guard_4 : decode prog_1_method_4_code 4 = .ok (.iload_n 1, 1) := by decide +kernel
theorem d_Lo_guard_5 : decode prog_1_method_4_code 5 = .ok (.iload_n 2, 1) := by decide +kernel
theorem d_Lo_guard_6 : decode prog_1_method_4_code 6 = .ok (.invokevirtual 33, 3) := by decide +kernel
theorem d_Lo_guard_9 : decode prog_1_method_4_code 9 = .ok (.ireturn, 1) := by decide +kernel
def tb_Lo_guard : List pm_I := [
  pm_aload 1 0,
  pm_getr 2 0 0,
  pm_iload 3 1,
  pm_iload 4 2,
  pm_callv 5 20 3 1,
  pm_zret]
def bp_Lo_guard : List Nat := [0, 1, 4, 5, 6, 9]
set_option maxRecDepth 100000 in
theorem sd_Lo_guard : pm_Sl prog_1_method_4_code 3 R_Lo "guard" (some .boolean) pm_Y (pm_b bp_Lo_guard) 0 tb_Lo_guard := by
  refine ⟨so_aloadn d_Lo_guard_0 rfl rfl, ?_⟩
  refine ⟨so_getr (ci := 0) (k := 0) rfl (by decide) rfl rfl fl_Lo_10 d_Lo_guard_1 rfl, ?_⟩
  refine ⟨so_iloadn d_Lo_guard_4 rfl rfl, ?_⟩
  refine ⟨so_iloadn d_Lo_guard_5 rfl rfl, ?_⟩
  refine ⟨so_callv (ci := 1) rfl rfl mc_Sh_setGuard mi_Sh mj_Sh_setGuard ms_Sh_setGuard ml_Lo_33 yd_Sh_setGuard (by decide) d_Lo_guard_6 rfl, ?_⟩
  refine ⟨so_zret d_Lo_guard_9 rfl, ?_⟩
  exact trivial
theorem d_Lo_check_0 : decode prog_1_method_5_code 0 = .ok (.aload_n 0, 1) := by decide +kernel
theorem d_Lo_check_1 : decode prog_1_method_5_code 1 = .ok (.getfield 10, 3) := by decide +kernel
theorem d_Lo_check_4 : decode prog_1_method_5_code 4 = .ok (.iload_n 1, 1) := by decide +kernel
theorem d_Lo_check_5 : decode prog_1_method_5_code 5 = .ok (.invokevirtual 37, 3) := by decide +kernel
theorem d_Lo_check_8 : decode prog_1_method_5_code 8 = .ok (.ifCond .eq 14, 3) := by decide +kernel
theorem d_Lo_check_11 : decode prog_1_method_5_code 11 = .ok (.aload_n 0, 1) := by decide +kernel
theorem d_Lo_check_12 : decode prog_1_method_5_code 12 = .ok (.getfield 10, 3) := by decide +kernel
theorem d_Lo_check_15 : decode prog_1_method_5_code 15 = .ok (.iload_n 1, 1) := by decide +kernel
theorem d_Lo_check_16 : decode prog_1_method_5_code 16 = .ok (.invokevirtual 41, 3) := by decide +kernel
theorem d_Lo_check_19 : decode prog_1_method_5_code 19 = .ok (.goto 4, 3) := by decide +kernel
theorem d_Lo_check_22 : decode prog_1_method_5_code 22 = .ok (.iconst (-1), 1) := by decide +kernel
theorem d_Lo_check_23 : decode prog_1_method_5_code 23 = .ok (.ireturn, 1) := by decide +kernel
def tb_Lo_check : List pm_I := [
  pm_aload 1 0,
  pm_getr 2 0 0,
  pm_iload 3 1,
  pm_callv 4 21 2 1,
  pm_if 10 5 (fun a => decide (a = 0)),
  pm_aload 6 0,
  pm_getr 7 0 0,
  pm_iload 8 1,
  pm_callv 9 22 2 1,
  pm_goto 11,
  pm_const 11 (-1),
  pm_iret]
def bp_Lo_check : List Nat := [0, 1, 4, 5, 8, 11, 12, 15, 16, 19, 22, 23]
set_option maxRecDepth 100000 in
theorem sd_Lo_check : pm_Sl prog_1_method_5_code 2 R_Lo "check" (some .int) pm_Y (pm_b bp_Lo_check) 0 tb_Lo_check := by
  refine ⟨so_aloadn d_Lo_check_0 rfl rfl, ?_⟩
  refine ⟨so_getr (ci := 0) (k := 0) rfl (by decide) rfl rfl fl_Lo_10 d_Lo_check_1 rfl, ?_⟩
  refine ⟨so_iloadn d_Lo_check_4 rfl rfl, ?_⟩
  refine ⟨so_callv (ci := 1) rfl rfl mc_Sh_contains mi_Sh mj_Sh_contains ms_Sh_contains ml_Lo_37 yd_Sh_contains (by decide) d_Lo_check_5 rfl, ?_⟩
  refine ⟨so_if_eq d_Lo_check_8 rfl rfl, ?_⟩
  refine ⟨so_aloadn d_Lo_check_11 rfl rfl, ?_⟩
  refine ⟨so_getr (ci := 0) (k := 0) rfl (by decide) rfl rfl fl_Lo_10 d_Lo_check_12 rfl, ?_⟩
  refine ⟨so_iloadn d_Lo_check_15 rfl rfl, ?_⟩
  refine ⟨so_callv (ci := 1) rfl rfl mc_Sh_firstWrong mi_Sh mj_Sh_firstWrong ms_Sh_firstWrong ml_Lo_41 yd_Sh_firstWrong (by decide) d_Lo_check_16 rfl, ?_⟩
  refine ⟨so_goto d_Lo_check_19 rfl, ?_⟩
  refine ⟨so_const1 d_Lo_check_22 (by decide) rfl, ?_⟩
  refine ⟨so_iret d_Lo_check_23 rfl, ?_⟩
  exact trivial
theorem d_Lo_sound_0 : decode prog_1_method_6_code 0 = .ok (.aload_n 0, 1) := by decide +kernel
theorem d_Lo_sound_1 : decode prog_1_method_6_code 1 = .ok (.getfield 10, 3) := by decide +kernel
theorem d_Lo_sound_4 : decode prog_1_method_6_code 4 = .ok (.invokevirtual 44, 3) := by decide +kernel
theorem d_Lo_sound_7 : decode prog_1_method_6_code 7 = .ok (.ireturn, 1) := by decide +kernel
def tb_Lo_sound : List pm_I := [
  pm_aload 1 0,
  pm_getr 2 0 0,
  pm_callv 3 25 1 1,
  pm_zret]
def bp_Lo_sound : List Nat := [0, 1, 4, 7]
set_option maxRecDepth 100000 in
theorem sd_Lo_sound : pm_Sl prog_1_method_6_code 1 R_Lo "sound" (some .boolean) pm_Y (pm_b bp_Lo_sound) 0 tb_Lo_sound := by
  refine ⟨so_aloadn d_Lo_sound_0 rfl rfl, ?_⟩
  refine ⟨so_getr (ci := 0) (k := 0) rfl (by decide) rfl rfl fl_Lo_10 d_Lo_sound_1 rfl, ?_⟩
  refine ⟨so_callv (ci := 1) rfl rfl mc_Sh_allRight mi_Sh mj_Sh_allRight ms_Sh_allRight ml_Lo_44 yd_Sh_allRight (by decide) d_Lo_sound_4 rfl, ?_⟩
  refine ⟨so_zret d_Lo_sound_7 rfl, ?_⟩
  exact trivial
theorem d_Lo_start_0 : decode prog_1_method_7_code 0 = .ok (.aload_n 0, 1) := by decide +kernel
theorem d_Lo_start_1 : decode prog_1_method_7_code 1 = .ok (.getfield 10, 3) := by decide +kernel
theorem d_Lo_start_4 : decode prog_1_method_7_code 4 = .ok (.iload_n 1, 1) := by decide +kernel
theorem d_Lo_start_5 : decode prog_1_method_7_code 5 = .ok (.invokevirtual 37, 3) := by decide +kernel
theorem d_Lo_start_8 : decode prog_1_method_7_code 8 = .ok (.ifCond .ne 5, 3) := by decide +kernel
theorem d_Lo_start_11 : decode prog_1_method_7_code 11 = .ok (.iconst 0, 1) := by decide +kernel
theorem d_Lo_start_12 : decode prog_1_method_7_code 12 = .ok (.ireturn, 1) := by decide +kernel
theorem d_Lo_start_13 : decode prog_1_method_7_code 13 = .ok (.aload_n 0, 1) := by decide +kernel
theorem d_Lo_start_14 : decode prog_1_method_7_code 14 = .ok (.getfield 21, 3) := by decide +kernel
theorem d_Lo_start_17 : decode prog_1_method_7_code 17 = .ok (.iload_n 1, 1) := by decide +kernel
theorem d_Lo_start_18 : decode prog_1_method_7_code 18 = .ok (.iload_n 2, 1) := by decide +kernel
theorem d_Lo_start_19 : decode prog_1_method_7_code 19 = .ok (.invokevirtual 48, 3) := by decide +kernel
theorem d_Lo_start_22 : decode prog_1_method_7_code 22 = .ok (.iconst 1, 1) := by decide +kernel
theorem d_Lo_start_23 : decode prog_1_method_7_code 23 = .ok (.ireturn, 1) := by decide +kernel
def tb_Lo_start : List pm_I := [
  pm_aload 1 0,
  pm_getr 2 0 0,
  pm_iload 3 1,
  pm_callv 4 21 2 1,
  pm_if 7 5 (fun a => decide (a ≠ 0)),
  pm_const 6 0,
  pm_zret,
  pm_aload 8 0,
  pm_getr 9 0 1,
  pm_iload 10 1,
  pm_iload 11 2,
  pm_callv 12 32 3 3,
  pm_const 13 1,
  pm_zret]
def bp_Lo_start : List Nat := [0, 1, 4, 5, 8, 11, 12, 13, 14, 17, 18, 19, 22, 23]
set_option maxRecDepth 100000 in
theorem sd_Lo_start : pm_Sl prog_1_method_7_code 3 R_Lo "start" (some .boolean) pm_Y (pm_b bp_Lo_start) 0 tb_Lo_start := by
  refine ⟨so_aloadn d_Lo_start_0 rfl rfl, ?_⟩
  refine ⟨so_getr (ci := 0) (k := 0) rfl (by decide) rfl rfl fl_Lo_10 d_Lo_start_1 rfl, ?_⟩
  refine ⟨so_iloadn d_Lo_start_4 rfl rfl, ?_⟩
  refine ⟨so_callv (ci := 1) rfl rfl mc_Sh_contains mi_Sh mj_Sh_contains ms_Sh_contains ml_Lo_37 yd_Sh_contains (by decide) d_Lo_start_5 rfl, ?_⟩
  refine ⟨so_if_ne d_Lo_start_8 rfl rfl, ?_⟩
  refine ⟨so_const1 d_Lo_start_11 (by decide) rfl, ?_⟩
  refine ⟨so_zret d_Lo_start_12 rfl, ?_⟩
  refine ⟨so_aloadn d_Lo_start_13 rfl rfl, ?_⟩
  refine ⟨so_getr (ci := 0) (k := 1) rfl (by decide) rfl rfl fl_Lo_21 d_Lo_start_14 rfl, ?_⟩
  refine ⟨so_iloadn d_Lo_start_17 rfl rfl, ?_⟩
  refine ⟨so_iloadn d_Lo_start_18 rfl rfl, ?_⟩
  refine ⟨so_callv (ci := 3) rfl rfl mc_Ru_begin mi_Ru mj_Ru_begin ms_Ru_begin ml_Lo_48 yd_Ru_begin (by decide) d_Lo_start_19 rfl, ?_⟩
  refine ⟨so_const1 d_Lo_start_22 (by decide) rfl, ?_⟩
  refine ⟨so_zret d_Lo_start_23 rfl, ?_⟩
  exact trivial
theorem d_Lo_step_0 : decode prog_1_method_8_code 0 = .ok (.aload_n 0, 1) := by decide +kernel
theorem d_Lo_step_1 : decode prog_1_method_8_code 1 = .ok (.getfield 21, 3) := by decide +kernel
theorem d_Lo_step_4 : decode prog_1_method_8_code 4 = .ok (.iload_n 1, 1) := by decide +kernel
theorem d_Lo_step_5 : decode prog_1_method_8_code 5 = .ok (.invokevirtual 52, 3) := by decide +kernel
theorem d_Lo_step_8 : decode prog_1_method_8_code 8 = .ok (.ireturn, 1) := by decide +kernel
def tb_Lo_step : List pm_I := [
  pm_aload 1 0,
  pm_getr 2 0 1,
  pm_iload 3 1,
  pm_callv 4 36 2 3,
  pm_iret]
def bp_Lo_step : List Nat := [0, 1, 4, 5, 8]
set_option maxRecDepth 100000 in
theorem sd_Lo_step : pm_Sl prog_1_method_8_code 2 R_Lo "step" (some .int) pm_Y (pm_b bp_Lo_step) 0 tb_Lo_step := by
  refine ⟨so_aloadn d_Lo_step_0 rfl rfl, ?_⟩
  refine ⟨so_getr (ci := 0) (k := 1) rfl (by decide) rfl rfl fl_Lo_21 d_Lo_step_1 rfl, ?_⟩
  refine ⟨so_iloadn d_Lo_step_4 rfl rfl, ?_⟩
  refine ⟨so_callv (ci := 3) rfl rfl mc_Ru_advance mi_Ru mj_Ru_advance ms_Ru_advance ml_Lo_52 yd_Ru_advance (by decide) d_Lo_step_5 rfl, ?_⟩
  refine ⟨so_iret d_Lo_step_8 rfl, ?_⟩
  exact trivial
theorem d_Lo_has_0 : decode prog_1_method_9_code 0 = .ok (.aload_n 0, 1) := by decide +kernel
theorem d_Lo_has_1 : decode prog_1_method_9_code 1 = .ok (.getfield 21, 3) := by decide +kernel
theorem d_Lo_has_4 : decode prog_1_method_9_code 4 = .ok (.iload_n 1, 1) := by decide +kernel
theorem d_Lo_has_5 : decode prog_1_method_9_code 5 = .ok (.invokevirtual 55, 3) := by decide +kernel
theorem d_Lo_has_8 : decode prog_1_method_9_code 8 = .ok (.ireturn, 1) := by decide +kernel
def tb_Lo_has : List pm_I := [
  pm_aload 1 0,
  pm_getr 2 0 1,
  pm_iload 3 1,
  pm_callv 4 44 2 3,
  pm_iret]
def bp_Lo_has : List Nat := [0, 1, 4, 5, 8]
set_option maxRecDepth 100000 in
theorem sd_Lo_has : pm_Sl prog_1_method_9_code 2 R_Lo "has" (some .int) pm_Y (pm_b bp_Lo_has) 0 tb_Lo_has := by
  refine ⟨so_aloadn d_Lo_has_0 rfl rfl, ?_⟩
  refine ⟨so_getr (ci := 0) (k := 1) rfl (by decide) rfl rfl fl_Lo_21 d_Lo_has_1 rfl, ?_⟩
  refine ⟨so_iloadn d_Lo_has_4 rfl rfl, ?_⟩
  refine ⟨so_callv (ci := 3) rfl rfl mc_Ru_valueOf mi_Ru mj_Ru_valueOf ms_Ru_valueOf ml_Lo_55 yd_Ru_valueOf (by decide) d_Lo_has_5 rfl, ?_⟩
  refine ⟨so_iret d_Lo_has_8 rfl, ?_⟩
  exact trivial
theorem d_Lo_cell_0 : decode prog_1_method_10_code 0 = .ok (.aload_n 0, 1) := by decide +kernel
theorem d_Lo_cell_1 : decode prog_1_method_10_code 1 = .ok (.getfield 21, 3) := by decide +kernel
theorem d_Lo_cell_4 : decode prog_1_method_10_code 4 = .ok (.iload_n 1, 1) := by decide +kernel
theorem d_Lo_cell_5 : decode prog_1_method_10_code 5 = .ok (.invokevirtual 58, 3) := by decide +kernel
theorem d_Lo_cell_8 : decode prog_1_method_10_code 8 = .ok (.ireturn, 1) := by decide +kernel
def tb_Lo_cell : List pm_I := [
  pm_aload 1 0,
  pm_getr 2 0 1,
  pm_iload 3 1,
  pm_callv 4 45 2 3,
  pm_iret]
def bp_Lo_cell : List Nat := [0, 1, 4, 5, 8]
set_option maxRecDepth 100000 in
theorem sd_Lo_cell : pm_Sl prog_1_method_10_code 2 R_Lo "cell" (some .int) pm_Y (pm_b bp_Lo_cell) 0 tb_Lo_cell := by
  refine ⟨so_aloadn d_Lo_cell_0 rfl rfl, ?_⟩
  refine ⟨so_getr (ci := 0) (k := 1) rfl (by decide) rfl rfl fl_Lo_21 d_Lo_cell_1 rfl, ?_⟩
  refine ⟨so_iloadn d_Lo_cell_4 rfl rfl, ?_⟩
  refine ⟨so_callv (ci := 3) rfl rfl mc_Ru_contentOf mi_Ru mj_Ru_contentOf ms_Ru_contentOf ml_Lo_58 yd_Ru_contentOf (by decide) d_Lo_cell_5 rfl, ?_⟩
  refine ⟨so_iret d_Lo_cell_8 rfl, ?_⟩
  exact trivial
theorem d_Lo_holder_0 : decode prog_1_method_11_code 0 = .ok (.aload_n 0, 1) := by decide +kernel
theorem d_Lo_holder_1 : decode prog_1_method_11_code 1 = .ok (.getfield 21, 3) := by decide +kernel
theorem d_Lo_holder_4 : decode prog_1_method_11_code 4 = .ok (.iload_n 1, 1) := by decide +kernel
theorem d_Lo_holder_5 : decode prog_1_method_11_code 5 = .ok (.invokevirtual 61, 3) := by decide +kernel
theorem d_Lo_holder_8 : decode prog_1_method_11_code 8 = .ok (.ireturn, 1) := by decide +kernel
def tb_Lo_holder : List pm_I := [
  pm_aload 1 0,
  pm_getr 2 0 1,
  pm_iload 3 1,
  pm_callv 4 46 2 3,
  pm_iret]
def bp_Lo_holder : List Nat := [0, 1, 4, 5, 8]
set_option maxRecDepth 100000 in
theorem sd_Lo_holder : pm_Sl prog_1_method_11_code 2 R_Lo "holder" (some .int) pm_Y (pm_b bp_Lo_holder) 0 tb_Lo_holder := by
  refine ⟨so_aloadn d_Lo_holder_0 rfl rfl, ?_⟩
  refine ⟨so_getr (ci := 0) (k := 1) rfl (by decide) rfl rfl fl_Lo_21 d_Lo_holder_1 rfl, ?_⟩
  refine ⟨so_iloadn d_Lo_holder_4 rfl rfl, ?_⟩
  refine ⟨so_callv (ci := 3) rfl rfl mc_Ru_holderOf mi_Ru mj_Ru_holderOf ms_Ru_holderOf ml_Lo_61 yd_Ru_holderOf (by decide) d_Lo_holder_5 rfl, ?_⟩
  refine ⟨so_iret d_Lo_holder_8 rfl, ?_⟩
  exact trivial
theorem d_Lo_state_0 : decode prog_1_method_12_code 0 = .ok (.aload_n 0, 1) := by decide +kernel
theorem d_Lo_state_1 : decode prog_1_method_12_code 1 = .ok (.getfield 21, 3) := by decide +kernel
theorem d_Lo_state_4 : decode prog_1_method_12_code 4 = .ok (.iload_n 1, 1) := by decide +kernel
theorem d_Lo_state_5 : decode prog_1_method_12_code 5 = .ok (.invokevirtual 64, 3) := by decide +kernel
theorem d_Lo_state_8 : decode prog_1_method_12_code 8 = .ok (.ireturn, 1) := by decide +kernel
def tb_Lo_state : List pm_I := [
  pm_aload 1 0,
  pm_getr 2 0 1,
  pm_iload 3 1,
  pm_callv 4 47 2 3,
  pm_iret]
def bp_Lo_state : List Nat := [0, 1, 4, 5, 8]
set_option maxRecDepth 100000 in
theorem sd_Lo_state : pm_Sl prog_1_method_12_code 2 R_Lo "state" (some .int) pm_Y (pm_b bp_Lo_state) 0 tb_Lo_state := by
  refine ⟨so_aloadn d_Lo_state_0 rfl rfl, ?_⟩
  refine ⟨so_getr (ci := 0) (k := 1) rfl (by decide) rfl rfl fl_Lo_21 d_Lo_state_1 rfl, ?_⟩
  refine ⟨so_iloadn d_Lo_state_4 rfl rfl, ?_⟩
  refine ⟨so_callv (ci := 3) rfl rfl mc_Ru_stateOf mi_Ru mj_Ru_stateOf ms_Ru_stateOf ml_Lo_64 yd_Ru_stateOf (by decide) d_Lo_state_5 rfl, ?_⟩
  refine ⟨so_iret d_Lo_state_8 rfl, ?_⟩
  exact trivial
theorem d_Lo_count_0 : decode prog_1_method_13_code 0 = .ok (.aload_n 0, 1) := by decide +kernel
theorem d_Lo_count_1 : decode prog_1_method_13_code 1 = .ok (.getfield 21, 3) := by decide +kernel
theorem d_Lo_count_4 : decode prog_1_method_13_code 4 = .ok (.iload_n 1, 1) := by decide +kernel
theorem d_Lo_count_5 : decode prog_1_method_13_code 5 = .ok (.invokevirtual 67, 3) := by decide +kernel
theorem d_Lo_count_8 : decode prog_1_method_13_code 8 = .ok (.ireturn, 1) := by decide +kernel
def tb_Lo_count : List pm_I := [
  pm_aload 1 0,
  pm_getr 2 0 1,
  pm_iload 3 1,
  pm_callv 4 48 2 3,
  pm_iret]
def bp_Lo_count : List Nat := [0, 1, 4, 5, 8]
set_option maxRecDepth 100000 in
theorem sd_Lo_count : pm_Sl prog_1_method_13_code 2 R_Lo "count" (some .int) pm_Y (pm_b bp_Lo_count) 0 tb_Lo_count := by
  refine ⟨so_aloadn d_Lo_count_0 rfl rfl, ?_⟩
  refine ⟨so_getr (ci := 0) (k := 1) rfl (by decide) rfl rfl fl_Lo_21 d_Lo_count_1 rfl, ?_⟩
  refine ⟨so_iloadn d_Lo_count_4 rfl rfl, ?_⟩
  refine ⟨so_callv (ci := 3) rfl rfl mc_Ru_countOf mi_Ru mj_Ru_countOf ms_Ru_countOf ml_Lo_67 yd_Ru_countOf (by decide) d_Lo_count_5 rfl, ?_⟩
  refine ⟨so_iret d_Lo_count_8 rfl, ?_⟩
  exact trivial
theorem d_Lo_race_0 : decode prog_1_method_14_code 0 = .ok (.aload_n 0, 1) := by decide +kernel
theorem d_Lo_race_1 : decode prog_1_method_14_code 1 = .ok (.getfield 21, 3) := by decide +kernel
theorem d_Lo_race_4 : decode prog_1_method_14_code 4 = .ok (.iload_n 1, 1) := by decide +kernel
theorem d_Lo_race_5 : decode prog_1_method_14_code 5 = .ok (.iload_n 2, 1) := by decide +kernel
theorem d_Lo_race_6 : decode prog_1_method_14_code 6 = .ok (.invokevirtual 70, 3) := by decide +kernel
theorem d_Lo_race_9 : decode prog_1_method_14_code 9 = .ok (.ireturn, 1) := by decide +kernel
def tb_Lo_race : List pm_I := [
  pm_aload 1 0,
  pm_getr 2 0 1,
  pm_iload 3 1,
  pm_iload 4 2,
  pm_callv 5 49 3 3,
  pm_iret]
def bp_Lo_race : List Nat := [0, 1, 4, 5, 6, 9]
set_option maxRecDepth 100000 in
theorem sd_Lo_race : pm_Sl prog_1_method_14_code 3 R_Lo "race" (some .int) pm_Y (pm_b bp_Lo_race) 0 tb_Lo_race := by
  refine ⟨so_aloadn d_Lo_race_0 rfl rfl, ?_⟩
  refine ⟨so_getr (ci := 0) (k := 1) rfl (by decide) rfl rfl fl_Lo_21 d_Lo_race_1 rfl, ?_⟩
  refine ⟨so_iloadn d_Lo_race_4 rfl rfl, ?_⟩
  refine ⟨so_iloadn d_Lo_race_5 rfl rfl, ?_⟩
  refine ⟨so_callv (ci := 3) rfl rfl mc_Ru_racePart mi_Ru mj_Ru_racePart ms_Ru_racePart ml_Lo_70 yd_Ru_racePart (by decide) d_Lo_race_6 rfl, ?_⟩
  refine ⟨so_iret d_Lo_race_9 rfl, ?_⟩
  exact trivial
theorem d_Lo_stuck_0 : decode prog_1_method_15_code 0 = .ok (.aload_n 0, 1) := by decide +kernel
theorem d_Lo_stuck_1 : decode prog_1_method_15_code 1 = .ok (.getfield 21, 3) := by decide +kernel
theorem d_Lo_stuck_4 : decode prog_1_method_15_code 4 = .ok (.invokevirtual 73, 3) := by decide +kernel
theorem d_Lo_stuck_7 : decode prog_1_method_15_code 7 = .ok (.ireturn, 1) := by decide +kernel
def tb_Lo_stuck : List pm_I := [
  pm_aload 1 0,
  pm_getr 2 0 1,
  pm_callv 3 50 1 3,
  pm_zret]
def bp_Lo_stuck : List Nat := [0, 1, 4, 7]
set_option maxRecDepth 100000 in
theorem sd_Lo_stuck : pm_Sl prog_1_method_15_code 1 R_Lo "stuck" (some .boolean) pm_Y (pm_b bp_Lo_stuck) 0 tb_Lo_stuck := by
  refine ⟨so_aloadn d_Lo_stuck_0 rfl rfl, ?_⟩
  refine ⟨so_getr (ci := 0) (k := 1) rfl (by decide) rfl rfl fl_Lo_21 d_Lo_stuck_1 rfl, ?_⟩
  refine ⟨so_callv (ci := 3) rfl rfl mc_Ru_isStuck mi_Ru mj_Ru_isStuck ms_Ru_isStuck ml_Lo_73 yd_Ru_isStuck (by decide) d_Lo_stuck_4 rfl, ?_⟩
  refine ⟨so_zret d_Lo_stuck_7 rfl, ?_⟩
  exact trivial
theorem d_Sh_init_0 : decode prog_7_method_1_code 0 = .ok (.aload_n 0, 1) := by decide +kernel
theorem d_Sh_init_1 : decode prog_7_method_1_code 1 = .ok (.invokespecial 3, 3) := by decide +kernel
theorem d_Sh_init_4 : decode prog_7_method_1_code 4 = .ok (.aload_n 0, 1) := by decide +kernel
theorem d_Sh_init_5 : decode prog_7_method_1_code 5 = .ok (.bipush 8, 2) := by decide +kernel
theorem d_Sh_init_7 : decode prog_7_method_1_code 7 = .ok (.anewarray 9, 3) := by decide +kernel
theorem d_Sh_init_10 : decode prog_7_method_1_code 10 = .ok (.putfield 11, 3) := by decide +kernel
theorem d_Sh_init_13 : decode prog_7_method_1_code 13 = .ok (.aload_n 0, 1) := by decide +kernel
theorem d_Sh_init_14 : decode prog_7_method_1_code 14 = .ok (.bipush 8, 2) := by decide +kernel
theorem d_Sh_init_16 : decode prog_7_method_1_code 16 = .ok (.newarray .int, 2) := by decide +kernel
theorem d_Sh_init_18 : decode prog_7_method_1_code 18 = .ok (.putfield 17, 3) := by decide +kernel
theorem d_Sh_init_21 : decode prog_7_method_1_code 21 = .ok (.aload_n 0, 1) := by decide +kernel
theorem d_Sh_init_22 : decode prog_7_method_1_code 22 = .ok (.new 9, 3) := by decide +kernel
theorem d_Sh_init_25 : decode prog_7_method_1_code 25 = .ok (.dup, 1) := by decide +kernel
theorem d_Sh_init_26 : decode prog_7_method_1_code 26 = .ok (.invokespecial 21, 3) := by decide +kernel
theorem d_Sh_init_29 : decode prog_7_method_1_code 29 = .ok (.putfield 22, 3) := by decide +kernel
theorem d_Sh_init_32 : decode prog_7_method_1_code 32 = .ok (.iconst 0, 1) := by decide +kernel
theorem d_Sh_init_33 : decode prog_7_method_1_code 33 = .ok (.istore_n 1, 1) := by decide +kernel
theorem d_Sh_init_34 : decode prog_7_method_1_code 34 = .ok (.iload_n 1, 1) := by decide +kernel
theorem d_Sh_init_35 : decode prog_7_method_1_code 35 = .ok (.bipush 8, 2) := by decide +kernel
theorem d_Sh_init_37 : decode prog_7_method_1_code 37 = .ok (.if_icmp .ge 22, 3) := by decide +kernel
theorem d_Sh_init_40 : decode prog_7_method_1_code 40 = .ok (.aload_n 0, 1) := by decide +kernel
theorem d_Sh_init_41 : decode prog_7_method_1_code 41 = .ok (.getfield 11, 3) := by decide +kernel
theorem d_Sh_init_44 : decode prog_7_method_1_code 44 = .ok (.iload_n 1, 1) := by decide +kernel
theorem d_Sh_init_45 : decode prog_7_method_1_code 45 = .ok (.new 9, 3) := by decide +kernel
theorem d_Sh_init_48 : decode prog_7_method_1_code 48 = .ok (.dup, 1) := by decide +kernel
theorem d_Sh_init_49 : decode prog_7_method_1_code 49 = .ok (.invokespecial 21, 3) := by decide +kernel
theorem d_Sh_init_52 : decode prog_7_method_1_code 52 = .ok (.aastore, 1) := by decide +kernel
theorem d_Sh_init_53 : decode prog_7_method_1_code 53 = .ok (.iinc 1 1, 3) := by decide +kernel
theorem d_Sh_init_56 : decode prog_7_method_1_code 56 = .ok (.goto (-22), 3) := by decide +kernel
theorem d_Sh_init_59 : decode prog_7_method_1_code 59 = .ok (.aload_n 0, 1) := by decide +kernel
theorem d_Sh_init_60 : decode prog_7_method_1_code 60 = .ok (.getfield 17, 3) := by decide +kernel
theorem d_Sh_init_63 : decode prog_7_method_1_code 63 = .ok (.iconst (-1), 1) := by decide +kernel
theorem d_Sh_init_64 : decode prog_7_method_1_code 64 = .ok (.invokestatic 26, 3) := by decide +kernel
theorem d_Sh_init_67 : decode prog_7_method_1_code 67 = .ok (.return_, 1) := by decide +kernel
def tb_Sh_init : List pm_I := [
  pm_aload 1 0,
  pm_oinit 2,
  pm_aload 3 0,
  pm_const 4 8,
  pm_newa 5 2,
  pm_putr 6 1 0,
  pm_aload 7 0,
  pm_const 8 8,
  pm_newa 9 0,
  pm_putr 10 1 1,
  pm_aload 11 0,
  pm_newo 12 2 6,
  pm_dup 13,
  pm_callc 14 26 1,
  pm_putr 15 1 2,
  pm_const 16 0,
  pm_istore 17 1,
  pm_iload 18 1,
  pm_const 19 8,
  pm_icmp 29 20 (fun a b => decide (b ≤ a)),
  pm_aload 21 0,
  pm_getr 22 1 0,
  pm_iload 23 1,
  pm_newo 24 2 6,
  pm_dup 25,
  pm_callc 26 26 1,
  pm_aast 27 2 2,
  pm_iinc 28 1 1,
  pm_goto 17,
  pm_aload 30 0,
  pm_getr 31 1 1,
  pm_const 32 (-1),
  pm_calls 33 103 2,
  pm_vret]
def bp_Sh_init : List Nat := [0, 1, 4, 5, 7, 10, 13, 14, 16, 18, 21, 22, 25, 26, 29, 32, 33, 34, 35, 37, 40, 41, 44, 45, 48, 49, 52, 53, 56, 59, 60, 63, 64, 67]
set_option maxRecDepth 100000 in
theorem sd_Sh_init : pm_Sl prog_7_method_1_code 2 R_Sh "<init>" (none) pm_Y (pm_b bp_Sh_init) 0 tb_Sh_init := by
  refine ⟨so_aloadn d_Sh_init_0 rfl rfl, ?_⟩
  refine ⟨so_oinit (pm_in1 (List.mem_append_left _ (List.mem_of_getElem? (i := 26) rfl))) (pm_in1 (List.mem_append_left _ (List.mem_of_getElem? (i := 19) rfl))) (pm_in1 (List.mem_append_left _ (List.mem_of_getElem? (i := 20) rfl))) d_Sh_init_1 rfl, ?_⟩
  refine ⟨so_aloadn d_Sh_init_4 rfl rfl, ?_⟩
  refine ⟨so_const2 d_Sh_init_5 (by decide) rfl, ?_⟩
  refine ⟨so_anew rfl (by decide) (fun _ => rfl) (pm_in1 (List.mem_append_left _ (List.mem_of_getElem? (i := 27) rfl))) d_Sh_init_7 rfl, ?_⟩
  refine ⟨so_putr (ci := 1) (k := 0) rfl (by decide) rfl rfl (Or.inr ⟨rfl, rfl, rfl, pm_in1 (List.mem_append_left _ (List.mem_of_getElem? (i := 66) rfl))⟩) d_Sh_init_10 rfl, ?_⟩
  refine ⟨so_aloadn d_Sh_init_13 rfl rfl, ?_⟩
  refine ⟨so_const2 d_Sh_init_14 (by decide) rfl, ?_⟩
  refine ⟨so_newi d_Sh_init_16 rfl, ?_⟩
  refine ⟨so_putr (ci := 1) (k := 1) rfl (by decide) rfl rfl (Or.inr ⟨rfl, rfl, rfl, pm_in1 (List.mem_append_left _ (List.mem_of_getElem? (i := 68) rfl))⟩) d_Sh_init_18 rfl, ?_⟩
  refine ⟨so_aloadn d_Sh_init_21 rfl rfl, ?_⟩
  refine ⟨so_newo (ci := 2) rfl (by decide +kernel) (pm_in1 (List.mem_append_left _ (List.mem_of_getElem? (i := 27) rfl))) (pm_in1 (List.mem_append_left _ (List.mem_of_getElem? (i := 29) rfl))) (pm_in1 (List.mem_append_left _ (List.mem_of_getElem? (i := 3) rfl))) d_Sh_init_22 rfl, ?_⟩
  refine ⟨so_dup d_Sh_init_25 rfl, ?_⟩
  refine ⟨so_callc rfl rfl mc_Bo_init mi_Bo mj_Bo_init ml_Sh_21 yd_Bo_init (by decide) d_Sh_init_26 rfl, ?_⟩
  refine ⟨so_putr (ci := 1) (k := 2) rfl (by decide) rfl rfl (Or.inl ⟨rfl, fl_Sh_22⟩) d_Sh_init_29 rfl, ?_⟩
  refine ⟨so_const1 d_Sh_init_32 (by decide) rfl, ?_⟩
  refine ⟨so_istoren d_Sh_init_33 rfl (by decide) rfl, ?_⟩
  refine ⟨so_iloadn d_Sh_init_34 rfl rfl, ?_⟩
  refine ⟨so_const2 d_Sh_init_35 (by decide) rfl, ?_⟩
  refine ⟨so_icmp_ge d_Sh_init_37 rfl rfl, ?_⟩
  refine ⟨so_aloadn d_Sh_init_40 rfl rfl, ?_⟩
  refine ⟨so_getr (ci := 1) (k := 0) rfl (by decide) rfl rfl fl_Sh_11 d_Sh_init_41 rfl, ?_⟩
  refine ⟨so_iloadn d_Sh_init_44 rfl rfl, ?_⟩
  refine ⟨so_newo (ci := 2) rfl (by decide +kernel) (pm_in1 (List.mem_append_left _ (List.mem_of_getElem? (i := 27) rfl))) (pm_in1 (List.mem_append_left _ (List.mem_of_getElem? (i := 29) rfl))) (pm_in1 (List.mem_append_left _ (List.mem_of_getElem? (i := 3) rfl))) d_Sh_init_45 rfl, ?_⟩
  refine ⟨so_dup d_Sh_init_48 rfl, ?_⟩
  refine ⟨so_callc rfl rfl mc_Bo_init mi_Bo mj_Bo_init ml_Sh_21 yd_Bo_init (by decide) d_Sh_init_49 rfl, ?_⟩
  refine ⟨so_aast rfl rfl (by decide) (fun _ => rfl) d_Sh_init_52 rfl, ?_⟩
  refine ⟨so_iinc d_Sh_init_53 (by decide) (by decide) rfl, ?_⟩
  refine ⟨so_goto d_Sh_init_56 rfl, ?_⟩
  refine ⟨so_aloadn d_Sh_init_59 rfl rfl, ?_⟩
  refine ⟨so_getr (ci := 1) (k := 1) rfl (by decide) rfl rfl fl_Sh_17 d_Sh_init_60 rfl, ?_⟩
  refine ⟨so_const1 d_Sh_init_63 (by decide) rfl, ?_⟩
  refine ⟨so_calls rfl mc_Ar_fill mi_Ar mt_Ar_fill ml_Sh_26 yd_Ar_fill (by decide) d_Sh_init_64 rfl, ?_⟩
  refine ⟨so_vret d_Sh_init_67 rfl, ?_⟩
  exact trivial
theorem d_Sh_addStatement_0 : decode prog_7_method_3_code 0 = .ok (.iload_n 1, 1) := by decide +kernel
theorem d_Sh_addStatement_1 : decode prog_7_method_3_code 1 = .ok (.iload_n 2, 1) := by decide +kernel
theorem d_Sh_addStatement_2 : decode prog_7_method_3_code 2 = .ok (.invokestatic 40, 3) := by decide +kernel
theorem d_Sh_addStatement_5 : decode prog_7_method_3_code 5 = .ok (.ifCond .eq 15, 3) := by decide +kernel
theorem d_Sh_addStatement_8 : decode prog_7_method_3_code 8 = .ok (.aload_n 0, 1) := by decide +kernel
theorem d_Sh_addStatement_9 : decode prog_7_method_3_code 9 = .ok (.getfield 22, 3) := by decide +kernel
theorem d_Sh_addStatement_12 : decode prog_7_method_3_code 12 = .ok (.iload_n 1, 1) := by decide +kernel
theorem d_Sh_addStatement_13 : decode prog_7_method_3_code 13 = .ok (.iload_n 2, 1) := by decide +kernel
theorem d_Sh_addStatement_14 : decode prog_7_method_3_code 14 = .ok (.invokevirtual 43, 3) := by decide +kernel
theorem d_Sh_addStatement_17 : decode prog_7_method_3_code 17 = .ok (.goto 4, 3) := by decide +kernel
theorem d_Sh_addStatement_20 : decode prog_7_method_3_code 20 = .ok (.iconst (-1), 1) := by decide +kernel
theorem d_Sh_addStatement_21 : decode prog_7_method_3_code 21 = .ok (.ireturn, 1) := by decide +kernel
def tb_Sh_addStatement : List pm_I := [
  pm_iload 1 1,
  pm_iload 2 2,
  pm_calls 3 18 2,
  pm_if 10 4 (fun a => decide (a = 0)),
  pm_aload 5 0,
  pm_getr 6 1 2,
  pm_iload 7 1,
  pm_iload 8 2,
  pm_callv 9 27 3 2,
  pm_goto 11,
  pm_const 11 (-1),
  pm_iret]
def bp_Sh_addStatement : List Nat := [0, 1, 2, 5, 8, 9, 12, 13, 14, 17, 20, 21]
set_option maxRecDepth 100000 in
theorem sd_Sh_addStatement : pm_Sl prog_7_method_3_code 3 R_Sh "addStatement" (some .int) pm_Y (pm_b bp_Sh_addStatement) 0 tb_Sh_addStatement := by
  refine ⟨so_iloadn d_Sh_addStatement_0 rfl rfl, ?_⟩
  refine ⟨so_iloadn d_Sh_addStatement_1 rfl rfl, ?_⟩
  refine ⟨so_calls rfl mc_Sh_fits mi_Sh mt_Sh_fits ml_Sh_40 yd_Sh_fits (by decide) d_Sh_addStatement_2 rfl, ?_⟩
  refine ⟨so_if_eq d_Sh_addStatement_5 rfl rfl, ?_⟩
  refine ⟨so_aloadn d_Sh_addStatement_8 rfl rfl, ?_⟩
  refine ⟨so_getr (ci := 1) (k := 2) rfl (by decide) rfl rfl fl_Sh_22 d_Sh_addStatement_9 rfl, ?_⟩
  refine ⟨so_iloadn d_Sh_addStatement_12 rfl rfl, ?_⟩
  refine ⟨so_iloadn d_Sh_addStatement_13 rfl rfl, ?_⟩
  refine ⟨so_callv (ci := 2) rfl rfl mc_Bo_append mi_Bo mj_Bo_append ms_Bo_append ml_Sh_43 yd_Bo_append (by decide) d_Sh_addStatement_14 rfl, ?_⟩
  refine ⟨so_goto d_Sh_addStatement_17 rfl, ?_⟩
  refine ⟨so_const1 d_Sh_addStatement_20 (by decide) rfl, ?_⟩
  refine ⟨so_iret d_Sh_addStatement_21 rfl, ?_⟩
  exact trivial
theorem d_Sh_fits_0 : decode prog_7_method_4_code 0 = .ok (.iload_n 0, 1) := by decide +kernel
theorem d_Sh_fits_1 : decode prog_7_method_4_code 1 = .ok (.tableswitch 79 0 10 #[59, 59, 79, 79, 66, 79, 79, 79, 79, 72, 72], 59) := by decide +kernel
theorem d_Sh_fits_60 : decode prog_7_method_4_code 60 = .ok (.iload_n 1, 1) := by decide +kernel
theorem d_Sh_fits_61 : decode prog_7_method_4_code 61 = .ok (.bipush 8, 2) := by decide +kernel
theorem d_Sh_fits_63 : decode prog_7_method_4_code 63 = .ok (.invokestatic 36, 3) := by decide +kernel
theorem d_Sh_fits_66 : decode prog_7_method_4_code 66 = .ok (.ireturn, 1) := by decide +kernel
theorem d_Sh_fits_67 : decode prog_7_method_4_code 67 = .ok (.iload_n 1, 1) := by decide +kernel
theorem d_Sh_fits_68 : decode prog_7_method_4_code 68 = .ok (.iconst 4, 1) := by decide +kernel
theorem d_Sh_fits_69 : decode prog_7_method_4_code 69 = .ok (.invokestatic 36, 3) := by decide +kernel
theorem d_Sh_fits_72 : decode prog_7_method_4_code 72 = .ok (.ireturn, 1) := by decide +kernel
theorem d_Sh_fits_73 : decode prog_7_method_4_code 73 = .ok (.iload_n 1, 1) := by decide +kernel
theorem d_Sh_fits_74 : decode prog_7_method_4_code 74 = .ok (.bipush 8, 2) := by decide +kernel
theorem d_Sh_fits_76 : decode prog_7_method_4_code 76 = .ok (.invokestatic 36, 3) := by decide +kernel
theorem d_Sh_fits_79 : decode prog_7_method_4_code 79 = .ok (.ireturn, 1) := by decide +kernel
theorem d_Sh_fits_80 : decode prog_7_method_4_code 80 = .ok (.iload_n 0, 1) := by decide +kernel
theorem d_Sh_fits_81 : decode prog_7_method_4_code 81 = .ok (.bipush 11, 2) := by decide +kernel
theorem d_Sh_fits_83 : decode prog_7_method_4_code 83 = .ok (.invokestatic 36, 3) := by decide +kernel
theorem d_Sh_fits_86 : decode prog_7_method_4_code 86 = .ok (.ireturn, 1) := by decide +kernel
def tb_Sh_fits : List pm_I := [
  pm_iload 1 0,
  pm_sw [(0, 2), (1, 2), (2, 14), (3, 14), (4, 6), (5, 14), (6, 14), (7, 14), (8, 14), (9, 10), (10, 10)] 14,
  pm_iload 3 1,
  pm_const 4 8,
  pm_calls 5 2 2,
  pm_zret,
  pm_iload 7 1,
  pm_const 8 4,
  pm_calls 9 2 2,
  pm_zret,
  pm_iload 11 1,
  pm_const 12 8,
  pm_calls 13 2 2,
  pm_zret,
  pm_iload 15 0,
  pm_const 16 11,
  pm_calls 17 2 2,
  pm_zret]
def bp_Sh_fits : List Nat := [0, 1, 60, 61, 63, 66, 67, 68, 69, 72, 73, 74, 76, 79, 80, 81, 83, 86]
set_option maxRecDepth 100000 in
theorem sd_Sh_fits : pm_Sl prog_7_method_4_code 2 R_Sh "fits" (some .boolean) pm_Y (pm_b bp_Sh_fits) 0 tb_Sh_fits := by
  refine ⟨so_iloadn d_Sh_fits_0 rfl rfl, ?_⟩
  refine ⟨so_tsw d_Sh_fits_1 (by decide +kernel) (by decide +kernel) rfl, ?_⟩
  refine ⟨so_iloadn d_Sh_fits_60 rfl rfl, ?_⟩
  refine ⟨so_const2 d_Sh_fits_61 (by decide) rfl, ?_⟩
  refine ⟨so_calls rfl mc_Lo_isBelow mi_Lo mt_Lo_isBelow ml_Sh_36 yd_Lo_isBelow (by decide) d_Sh_fits_63 rfl, ?_⟩
  refine ⟨so_zret d_Sh_fits_66 rfl, ?_⟩
  refine ⟨so_iloadn d_Sh_fits_67 rfl rfl, ?_⟩
  refine ⟨so_const1 d_Sh_fits_68 (by decide) rfl, ?_⟩
  refine ⟨so_calls rfl mc_Lo_isBelow mi_Lo mt_Lo_isBelow ml_Sh_36 yd_Lo_isBelow (by decide) d_Sh_fits_69 rfl, ?_⟩
  refine ⟨so_zret d_Sh_fits_72 rfl, ?_⟩
  refine ⟨so_iloadn d_Sh_fits_73 rfl rfl, ?_⟩
  refine ⟨so_const2 d_Sh_fits_74 (by decide) rfl, ?_⟩
  refine ⟨so_calls rfl mc_Lo_isBelow mi_Lo mt_Lo_isBelow ml_Sh_36 yd_Lo_isBelow (by decide) d_Sh_fits_76 rfl, ?_⟩
  refine ⟨so_zret d_Sh_fits_79 rfl, ?_⟩
  refine ⟨so_iloadn d_Sh_fits_80 rfl rfl, ?_⟩
  refine ⟨so_const2 d_Sh_fits_81 (by decide) rfl, ?_⟩
  refine ⟨so_calls rfl mc_Lo_isBelow mi_Lo mt_Lo_isBelow ml_Sh_36 yd_Lo_isBelow (by decide) d_Sh_fits_83 rfl, ?_⟩
  refine ⟨so_zret d_Sh_fits_86 rfl, ?_⟩
  exact trivial
theorem d_Sh_closeText_0 : decode prog_7_method_5_code 0 = .ok (.aload_n 0, 1) := by decide +kernel
theorem d_Sh_closeText_1 : decode prog_7_method_5_code 1 = .ok (.getfield 32, 3) := by decide +kernel
theorem d_Sh_closeText_4 : decode prog_7_method_5_code 4 = .ok (.bipush 8, 2) := by decide +kernel
theorem d_Sh_closeText_6 : decode prog_7_method_5_code 6 = .ok (.if_icmp .ge 14, 3) := by decide +kernel
theorem d_Sh_closeText_9 : decode prog_7_method_5_code 9 = .ok (.aload_n 0, 1) := by decide +kernel
theorem d_Sh_closeText_10 : decode prog_7_method_5_code 10 = .ok (.getfield 22, 3) := by decide +kernel
theorem d_Sh_closeText_13 : decode prog_7_method_5_code 13 = .ok (.iload_n 1, 1) := by decide +kernel
theorem d_Sh_closeText_14 : decode prog_7_method_5_code 14 = .ok (.invokevirtual 47, 3) := by decide +kernel
theorem d_Sh_closeText_17 : decode prog_7_method_5_code 17 = .ok (.ifCond .ne 12, 3) := by decide +kernel
theorem d_Sh_closeText_20 : decode prog_7_method_5_code 20 = .ok (.aload_n 0, 1) := by decide +kernel
theorem d_Sh_closeText_21 : decode prog_7_method_5_code 21 = .ok (.getfield 22, 3) := by decide +kernel
theorem d_Sh_closeText_24 : decode prog_7_method_5_code 24 = .ok (.invokevirtual 51, 3) := by decide +kernel
theorem d_Sh_closeText_27 : decode prog_7_method_5_code 27 = .ok (.iconst (-1), 1) := by decide +kernel
theorem d_Sh_closeText_28 : decode prog_7_method_5_code 28 = .ok (.ireturn, 1) := by decide +kernel
theorem d_Sh_closeText_29 : decode prog_7_method_5_code 29 = .ok (.aload_n 0, 1) := by decide +kernel
theorem d_Sh_closeText_30 : decode prog_7_method_5_code 30 = .ok (.getfield 11, 3) := by decide +kernel
theorem d_Sh_closeText_33 : decode prog_7_method_5_code 33 = .ok (.aload_n 0, 1) := by decide +kernel
theorem d_Sh_closeText_34 : decode prog_7_method_5_code 34 = .ok (.getfield 32, 3) := by decide +kernel
theorem d_Sh_closeText_37 : decode prog_7_method_5_code 37 = .ok (.aaload, 1) := by decide +kernel
theorem d_Sh_closeText_38 : decode prog_7_method_5_code 38 = .ok (.astore_n 2, 1) := by decide +kernel
theorem d_Sh_closeText_39 : decode prog_7_method_5_code 39 = .ok (.aload_n 0, 1) := by decide +kernel
theorem d_Sh_closeText_40 : decode prog_7_method_5_code 40 = .ok (.getfield 11, 3) := by decide +kernel
theorem d_Sh_closeText_43 : decode prog_7_method_5_code 43 = .ok (.aload_n 0, 1) := by decide +kernel
theorem d_Sh_closeText_44 : decode prog_7_method_5_code 44 = .ok (.getfield 32, 3) := by decide +kernel
theorem d_Sh_closeText_47 : decode prog_7_method_5_code 47 = .ok (.aload_n 0, 1) := by decide +kernel
theorem d_Sh_closeText_48 : decode prog_7_method_5_code 48 = .ok (.getfield 22, 3) := by decide +kernel
theorem d_Sh_closeText_51 : decode prog_7_method_5_code 51 = .ok (.aastore, 1) := by decide +kernel
theorem d_Sh_closeText_52 : decode prog_7_method_5_code 52 = .ok (.aload_n 0, 1) := by decide +kernel
theorem d_Sh_closeText_53 : decode prog_7_method_5_code 53 = .ok (.aload_n 2, 1) := by decide +kernel
theorem d_Sh_closeText_54 : decode prog_7_method_5_code 54 = .ok (.putfield 22, 3) := by decide +kernel
theorem d_Sh_closeText_57 : decode prog_7_method_5_code 57 = .ok (.aload_n 0, 1) := by decide +kernel
theorem d_Sh_closeText_58 : decode prog_7_method_5_code 58 = .ok (.dup, 1) := by decide +kernel
theorem d_Sh_closeText_59 : decode prog_7_method_5_code 59 = .ok (.getfield 32, 3) := by decide +kernel
theorem d_Sh_closeText_62 : decode prog_7_method_5_code 62 = .ok (.iconst 1, 1) := by decide +kernel
theorem d_Sh_closeText_63 : decode prog_7_method_5_code 63 = .ok (.iadd, 1) := by decide +kernel
theorem d_Sh_closeText_64 : decode prog_7_method_5_code 64 = .ok (.putfield 32, 3) := by decide +kernel
theorem d_Sh_closeText_67 : decode prog_7_method_5_code 67 = .ok (.aload_n 0, 1) := by decide +kernel
theorem d_Sh_closeText_68 : decode prog_7_method_5_code 68 = .ok (.getfield 32, 3) := by decide +kernel
theorem d_Sh_closeText_71 : decode prog_7_method_5_code 71 = .ok (.iconst 1, 1) := by decide +kernel
theorem d_Sh_closeText_72 : decode prog_7_method_5_code 72 = .ok (.isub, 1) := by decide +kernel
theorem d_Sh_closeText_73 : decode prog_7_method_5_code 73 = .ok (.ireturn, 1) := by decide +kernel
def tb_Sh_closeText : List pm_I := [
  pm_aload 1 0,
  pm_geti 2 1 3,
  pm_const 3 8,
  pm_icmp 9 4 (fun a b => decide (b ≤ a)),
  pm_aload 5 0,
  pm_getr 6 1 2,
  pm_iload 7 1,
  pm_callv 8 28 2 2,
  pm_if 14 9 (fun a => decide (a ≠ 0)),
  pm_aload 10 0,
  pm_getr 11 1 2,
  pm_callv 12 30 1 2,
  pm_const 13 (-1),
  pm_iret,
  pm_aload 15 0,
  pm_getr 16 1 0,
  pm_aload 17 0,
  pm_geti 18 1 3,
  pm_aald 19 2,
  pm_astore 20 2,
  pm_aload 21 0,
  pm_getr 22 1 0,
  pm_aload 23 0,
  pm_geti 24 1 3,
  pm_aload 25 0,
  pm_getr 26 1 2,
  pm_aast 27 2 2,
  pm_aload 28 0,
  pm_aload 29 2,
  pm_putr 30 1 2,
  pm_aload 31 0,
  pm_dup 32,
  pm_geti 33 1 3,
  pm_const 34 1,
  pm_bin 35 (fun a b => a + b),
  pm_puti 36 1 3,
  pm_aload 37 0,
  pm_geti 38 1 3,
  pm_const 39 1,
  pm_bin 40 (fun a b => a - b),
  pm_iret]
def bp_Sh_closeText : List Nat := [0, 1, 4, 6, 9, 10, 13, 14, 17, 20, 21, 24, 27, 28, 29, 30, 33, 34, 37, 38, 39, 40, 43, 44, 47, 48, 51, 52, 53, 54, 57, 58, 59, 62, 63, 64, 67, 68, 71, 72, 73]
set_option maxRecDepth 100000 in
theorem sd_Sh_closeText : pm_Sl prog_7_method_5_code 3 R_Sh "closeText" (some .int) pm_Y (pm_b bp_Sh_closeText) 0 tb_Sh_closeText := by
  refine ⟨so_aloadn d_Sh_closeText_0 rfl rfl, ?_⟩
  refine ⟨so_geti (ci := 1) (k := 3) rfl (by decide) rfl rfl fl_Sh_32 d_Sh_closeText_1 rfl, ?_⟩
  refine ⟨so_const2 d_Sh_closeText_4 (by decide) rfl, ?_⟩
  refine ⟨so_icmp_ge d_Sh_closeText_6 rfl rfl, ?_⟩
  refine ⟨so_aloadn d_Sh_closeText_9 rfl rfl, ?_⟩
  refine ⟨so_getr (ci := 1) (k := 2) rfl (by decide) rfl rfl fl_Sh_22 d_Sh_closeText_10 rfl, ?_⟩
  refine ⟨so_iloadn d_Sh_closeText_13 rfl rfl, ?_⟩
  refine ⟨so_callv (ci := 2) rfl rfl mc_Bo_joinBlocks mi_Bo mj_Bo_joinBlocks ms_Bo_joinBlocks ml_Sh_47 yd_Bo_joinBlocks (by decide) d_Sh_closeText_14 rfl, ?_⟩
  refine ⟨so_if_ne d_Sh_closeText_17 rfl rfl, ?_⟩
  refine ⟨so_aloadn d_Sh_closeText_20 rfl rfl, ?_⟩
  refine ⟨so_getr (ci := 1) (k := 2) rfl (by decide) rfl rfl fl_Sh_22 d_Sh_closeText_21 rfl, ?_⟩
  refine ⟨so_callv (ci := 2) rfl rfl mc_Bo_clear mi_Bo mj_Bo_clear ms_Bo_clear ml_Sh_51 yd_Bo_clear (by decide) d_Sh_closeText_24 rfl, ?_⟩
  refine ⟨so_const1 d_Sh_closeText_27 (by decide) rfl, ?_⟩
  refine ⟨so_iret d_Sh_closeText_28 rfl, ?_⟩
  refine ⟨so_aloadn d_Sh_closeText_29 rfl rfl, ?_⟩
  refine ⟨so_getr (ci := 1) (k := 0) rfl (by decide) rfl rfl fl_Sh_11 d_Sh_closeText_30 rfl, ?_⟩
  refine ⟨so_aloadn d_Sh_closeText_33 rfl rfl, ?_⟩
  refine ⟨so_geti (ci := 1) (k := 3) rfl (by decide) rfl rfl fl_Sh_32 d_Sh_closeText_34 rfl, ?_⟩
  refine ⟨so_aald rfl (by decide) (fun _ => rfl) d_Sh_closeText_37 rfl, ?_⟩
  refine ⟨so_astoren d_Sh_closeText_38 rfl (by decide) rfl, ?_⟩
  refine ⟨so_aloadn d_Sh_closeText_39 rfl rfl, ?_⟩
  refine ⟨so_getr (ci := 1) (k := 0) rfl (by decide) rfl rfl fl_Sh_11 d_Sh_closeText_40 rfl, ?_⟩
  refine ⟨so_aloadn d_Sh_closeText_43 rfl rfl, ?_⟩
  refine ⟨so_geti (ci := 1) (k := 3) rfl (by decide) rfl rfl fl_Sh_32 d_Sh_closeText_44 rfl, ?_⟩
  refine ⟨so_aloadn d_Sh_closeText_47 rfl rfl, ?_⟩
  refine ⟨so_getr (ci := 1) (k := 2) rfl (by decide) rfl rfl fl_Sh_22 d_Sh_closeText_48 rfl, ?_⟩
  refine ⟨so_aast rfl rfl (by decide) (fun _ => rfl) d_Sh_closeText_51 rfl, ?_⟩
  refine ⟨so_aloadn d_Sh_closeText_52 rfl rfl, ?_⟩
  refine ⟨so_aloadn d_Sh_closeText_53 rfl rfl, ?_⟩
  refine ⟨so_putr (ci := 1) (k := 2) rfl (by decide) rfl rfl (Or.inl ⟨rfl, fl_Sh_22⟩) d_Sh_closeText_54 rfl, ?_⟩
  refine ⟨so_aloadn d_Sh_closeText_57 rfl rfl, ?_⟩
  refine ⟨so_dup d_Sh_closeText_58 rfl, ?_⟩
  refine ⟨so_geti (ci := 1) (k := 3) rfl (by decide) rfl rfl fl_Sh_32 d_Sh_closeText_59 rfl, ?_⟩
  refine ⟨so_const1 d_Sh_closeText_62 (by decide) rfl, ?_⟩
  refine ⟨so_iadd d_Sh_closeText_63 rfl, ?_⟩
  refine ⟨so_puti (ci := 1) (k := 3) rfl (by decide) rfl rfl (Or.inl ⟨rfl, fl_Sh_32⟩) d_Sh_closeText_64 rfl, ?_⟩
  refine ⟨so_aloadn d_Sh_closeText_67 rfl rfl, ?_⟩
  refine ⟨so_geti (ci := 1) (k := 3) rfl (by decide) rfl rfl fl_Sh_32 d_Sh_closeText_68 rfl, ?_⟩
  refine ⟨so_const1 d_Sh_closeText_71 (by decide) rfl, ?_⟩
  refine ⟨so_isub d_Sh_closeText_72 rfl, ?_⟩
  refine ⟨so_iret d_Sh_closeText_73 rfl, ?_⟩
  exact trivial
theorem d_Sh_setGuard_0 : decode prog_7_method_6_code 0 = .ok (.iload_n 1, 1) := by decide +kernel
theorem d_Sh_setGuard_1 : decode prog_7_method_6_code 1 = .ok (.bipush 8, 2) := by decide +kernel
theorem d_Sh_setGuard_3 : decode prog_7_method_6_code 3 = .ok (.invokestatic 36, 3) := by decide +kernel
theorem d_Sh_setGuard_6 : decode prog_7_method_6_code 6 = .ok (.ifCond .eq 16, 3) := by decide +kernel
theorem d_Sh_setGuard_9 : decode prog_7_method_6_code 9 = .ok (.iload_n 2, 1) := by decide +kernel
theorem d_Sh_setGuard_10 : decode prog_7_method_6_code 10 = .ok (.iconst (-1), 1) := by decide +kernel
theorem d_Sh_setGuard_11 : decode prog_7_method_6_code 11 = .ok (.if_icmp .eq 13, 3) := by decide +kernel
theorem d_Sh_setGuard_14 : decode prog_7_method_6_code 14 = .ok (.iload_n 2, 1) := by decide +kernel
theorem d_Sh_setGuard_15 : decode prog_7_method_6_code 15 = .ok (.iconst 4, 1) := by decide +kernel
theorem d_Sh_setGuard_16 : decode prog_7_method_6_code 16 = .ok (.invokestatic 36, 3) := by decide +kernel
theorem d_Sh_setGuard_19 : decode prog_7_method_6_code 19 = .ok (.ifCond .ne 5, 3) := by decide +kernel
theorem d_Sh_setGuard_22 : decode prog_7_method_6_code 22 = .ok (.iconst 0, 1) := by decide +kernel
theorem d_Sh_setGuard_23 : decode prog_7_method_6_code 23 = .ok (.ireturn, 1) := by decide +kernel
theorem d_Sh_setGuard_24 : decode prog_7_method_6_code 24 = .ok (.aload_n 0, 1) := by decide +kernel
theorem d_Sh_setGuard_25 : decode prog_7_method_6_code 25 = .ok (.getfield 17, 3) := by decide +kernel
theorem d_Sh_setGuard_28 : decode prog_7_method_6_code 28 = .ok (.iload_n 1, 1) := by decide +kernel
theorem d_Sh_setGuard_29 : decode prog_7_method_6_code 29 = .ok (.iload_n 2, 1) := by decide +kernel
theorem d_Sh_setGuard_30 : decode prog_7_method_6_code 30 = .ok (.iastore, 1) := by decide +kernel
theorem d_Sh_setGuard_31 : decode prog_7_method_6_code 31 = .ok (.iconst 1, 1) := by decide +kernel
theorem d_Sh_setGuard_32 : decode prog_7_method_6_code 32 = .ok (.ireturn, 1) := by decide +kernel
def tb_Sh_setGuard : List pm_I := [
  pm_iload 1 1,
  pm_const 2 8,
  pm_calls 3 2 2,
  pm_if 11 4 (fun a => decide (a = 0)),
  pm_iload 5 2,
  pm_const 6 (-1),
  pm_icmp 13 7 (fun a b => decide (a = b)),
  pm_iload 8 2,
  pm_const 9 4,
  pm_calls 10 2 2,
  pm_if 13 11 (fun a => decide (a ≠ 0)),
  pm_const 12 0,
  pm_zret,
  pm_aload 14 0,
  pm_getr 15 1 1,
  pm_iload 16 1,
  pm_iload 17 2,
  pm_iast 18,
  pm_const 19 1,
  pm_zret]
def bp_Sh_setGuard : List Nat := [0, 1, 3, 6, 9, 10, 11, 14, 15, 16, 19, 22, 23, 24, 25, 28, 29, 30, 31, 32]
set_option maxRecDepth 100000 in
theorem sd_Sh_setGuard : pm_Sl prog_7_method_6_code 3 R_Sh "setGuard" (some .boolean) pm_Y (pm_b bp_Sh_setGuard) 0 tb_Sh_setGuard := by
  refine ⟨so_iloadn d_Sh_setGuard_0 rfl rfl, ?_⟩
  refine ⟨so_const2 d_Sh_setGuard_1 (by decide) rfl, ?_⟩
  refine ⟨so_calls rfl mc_Lo_isBelow mi_Lo mt_Lo_isBelow ml_Sh_36 yd_Lo_isBelow (by decide) d_Sh_setGuard_3 rfl, ?_⟩
  refine ⟨so_if_eq d_Sh_setGuard_6 rfl rfl, ?_⟩
  refine ⟨so_iloadn d_Sh_setGuard_9 rfl rfl, ?_⟩
  refine ⟨so_const1 d_Sh_setGuard_10 (by decide) rfl, ?_⟩
  refine ⟨so_icmp_eq d_Sh_setGuard_11 rfl rfl, ?_⟩
  refine ⟨so_iloadn d_Sh_setGuard_14 rfl rfl, ?_⟩
  refine ⟨so_const1 d_Sh_setGuard_15 (by decide) rfl, ?_⟩
  refine ⟨so_calls rfl mc_Lo_isBelow mi_Lo mt_Lo_isBelow ml_Sh_36 yd_Lo_isBelow (by decide) d_Sh_setGuard_16 rfl, ?_⟩
  refine ⟨so_if_ne d_Sh_setGuard_19 rfl rfl, ?_⟩
  refine ⟨so_const1 d_Sh_setGuard_22 (by decide) rfl, ?_⟩
  refine ⟨so_zret d_Sh_setGuard_23 rfl, ?_⟩
  refine ⟨so_aloadn d_Sh_setGuard_24 rfl rfl, ?_⟩
  refine ⟨so_getr (ci := 1) (k := 1) rfl (by decide) rfl rfl fl_Sh_17 d_Sh_setGuard_25 rfl, ?_⟩
  refine ⟨so_iloadn d_Sh_setGuard_28 rfl rfl, ?_⟩
  refine ⟨so_iloadn d_Sh_setGuard_29 rfl rfl, ?_⟩
  refine ⟨so_iast d_Sh_setGuard_30 rfl, ?_⟩
  refine ⟨so_const1 d_Sh_setGuard_31 (by decide) rfl, ?_⟩
  refine ⟨so_zret d_Sh_setGuard_32 rfl, ?_⟩
  exact trivial
theorem d_Sh_contains_0 : decode prog_7_method_2_code 0 = .ok (.iload_n 1, 1) := by decide +kernel
theorem d_Sh_contains_1 : decode prog_7_method_2_code 1 = .ok (.aload_n 0, 1) := by decide +kernel
theorem d_Sh_contains_2 : decode prog_7_method_2_code 2 = .ok (.getfield 32, 3) := by decide +kernel
theorem d_Sh_contains_5 : decode prog_7_method_2_code 5 = .ok (.invokestatic 36, 3) := by decide +kernel
theorem d_Sh_contains_8 : decode prog_7_method_2_code 8 = .ok (.ireturn, 1) := by decide +kernel
def tb_Sh_contains : List pm_I := [
  pm_iload 1 1,
  pm_aload 2 0,
  pm_geti 3 1 3,
  pm_calls 4 2 2,
  pm_zret]
def bp_Sh_contains : List Nat := [0, 1, 2, 5, 8]
set_option maxRecDepth 100000 in
theorem sd_Sh_contains : pm_Sl prog_7_method_2_code 2 R_Sh "contains" (some .boolean) pm_Y (pm_b bp_Sh_contains) 0 tb_Sh_contains := by
  refine ⟨so_iloadn d_Sh_contains_0 rfl rfl, ?_⟩
  refine ⟨so_aloadn d_Sh_contains_1 rfl rfl, ?_⟩
  refine ⟨so_geti (ci := 1) (k := 3) rfl (by decide) rfl rfl fl_Sh_32 d_Sh_contains_2 rfl, ?_⟩
  refine ⟨so_calls rfl mc_Lo_isBelow mi_Lo mt_Lo_isBelow ml_Sh_36 yd_Lo_isBelow (by decide) d_Sh_contains_5 rfl, ?_⟩
  refine ⟨so_zret d_Sh_contains_8 rfl, ?_⟩
  exact trivial
theorem d_Sh_firstWrong_0 : decode prog_7_method_7_code 0 = .ok (.aload_n 0, 1) := by decide +kernel
theorem d_Sh_firstWrong_1 : decode prog_7_method_7_code 1 = .ok (.getfield 11, 3) := by decide +kernel
theorem d_Sh_firstWrong_4 : decode prog_7_method_7_code 4 = .ok (.iload_n 1, 1) := by decide +kernel
theorem d_Sh_firstWrong_5 : decode prog_7_method_7_code 5 = .ok (.aaload, 1) := by decide +kernel
theorem d_Sh_firstWrong_6 : decode prog_7_method_7_code 6 = .ok (.astore_n 2, 1) := by decide +kernel
theorem d_Sh_firstWrong_7 : decode prog_7_method_7_code 7 = .ok (.iconst 0, 1) := by decide +kernel
theorem d_Sh_firstWrong_8 : decode prog_7_method_7_code 8 = .ok (.istore_n 3, 1) := by decide +kernel
theorem d_Sh_firstWrong_9 : decode prog_7_method_7_code 9 = .ok (.iload_n 3, 1) := by decide +kernel
theorem d_Sh_firstWrong_10 : decode prog_7_method_7_code 10 = .ok (.aload_n 2, 1) := by decide +kernel
theorem d_Sh_firstWrong_11 : decode prog_7_method_7_code 11 = .ok (.getfield 54, 3) := by decide +kernel
theorem d_Sh_firstWrong_14 : decode prog_7_method_7_code 14 = .ok (.if_icmp .ge 20, 3) := by decide +kernel
theorem d_Sh_firstWrong_17 : decode prog_7_method_7_code 17 = .ok (.aload_n 0, 1) := by decide +kernel
theorem d_Sh_firstWrong_18 : decode prog_7_method_7_code 18 = .ok (.aload_n 2, 1) := by decide +kernel
theorem d_Sh_firstWrong_19 : decode prog_7_method_7_code 19 = .ok (.iload_n 3, 1) := by decide +kernel
theorem d_Sh_firstWrong_20 : decode prog_7_method_7_code 20 = .ok (.invokevirtual 57, 3) := by decide +kernel
theorem d_Sh_firstWrong_23 : decode prog_7_method_7_code 23 = .ok (.ifCond .ne 5, 3) := by decide +kernel
theorem d_Sh_firstWrong_26 : decode prog_7_method_7_code 26 = .ok (.iload_n 3, 1) := by decide +kernel
theorem d_Sh_firstWrong_27 : decode prog_7_method_7_code 27 = .ok (.ireturn, 1) := by decide +kernel
theorem d_Sh_firstWrong_28 : decode prog_7_method_7_code 28 = .ok (.iinc 3 1, 3) := by decide +kernel
theorem d_Sh_firstWrong_31 : decode prog_7_method_7_code 31 = .ok (.goto (-22), 3) := by decide +kernel
theorem d_Sh_firstWrong_34 : decode prog_7_method_7_code 34 = .ok (.aload_n 2, 1) := by decide +kernel
theorem d_Sh_firstWrong_35 : decode prog_7_method_7_code 35 = .ok (.getfield 54, 3) := by decide +kernel
theorem d_Sh_firstWrong_38 : decode prog_7_method_7_code 38 = .ok (.ireturn, 1) := by decide +kernel
def tb_Sh_firstWrong : List pm_I := [
  pm_aload 1 0,
  pm_getr 2 1 0,
  pm_iload 3 1,
  pm_aald 4 2,
  pm_astore 5 2,
  pm_const 6 0,
  pm_istore 7 3,
  pm_iload 8 3,
  pm_aload 9 2,
  pm_geti 10 2 4,
  pm_icmp 20 11 (fun a b => decide (b ≤ a)),
  pm_aload 12 0,
  pm_aload 13 2,
  pm_iload 14 3,
  pm_callv 15 23 3 1,
  pm_if 18 16 (fun a => decide (a ≠ 0)),
  pm_iload 17 3,
  pm_iret,
  pm_iinc 19 3 1,
  pm_goto 7,
  pm_aload 21 2,
  pm_geti 22 2 4,
  pm_iret]
def bp_Sh_firstWrong : List Nat := [0, 1, 4, 5, 6, 7, 8, 9, 10, 11, 14, 17, 18, 19, 20, 23, 26, 27, 28, 31, 34, 35, 38]
set_option maxRecDepth 100000 in
theorem sd_Sh_firstWrong : pm_Sl prog_7_method_7_code 4 R_Sh "firstWrong" (some .int) pm_Y (pm_b bp_Sh_firstWrong) 0 tb_Sh_firstWrong := by
  refine ⟨so_aloadn d_Sh_firstWrong_0 rfl rfl, ?_⟩
  refine ⟨so_getr (ci := 1) (k := 0) rfl (by decide) rfl rfl fl_Sh_11 d_Sh_firstWrong_1 rfl, ?_⟩
  refine ⟨so_iloadn d_Sh_firstWrong_4 rfl rfl, ?_⟩
  refine ⟨so_aald rfl (by decide) (fun _ => rfl) d_Sh_firstWrong_5 rfl, ?_⟩
  refine ⟨so_astoren d_Sh_firstWrong_6 rfl (by decide) rfl, ?_⟩
  refine ⟨so_const1 d_Sh_firstWrong_7 (by decide) rfl, ?_⟩
  refine ⟨so_istoren d_Sh_firstWrong_8 rfl (by decide) rfl, ?_⟩
  refine ⟨so_iloadn d_Sh_firstWrong_9 rfl rfl, ?_⟩
  refine ⟨so_aloadn d_Sh_firstWrong_10 rfl rfl, ?_⟩
  refine ⟨so_geti (ci := 2) (k := 4) rfl (by decide) rfl rfl fl_Sh_54 d_Sh_firstWrong_11 rfl, ?_⟩
  refine ⟨so_icmp_ge d_Sh_firstWrong_14 rfl rfl, ?_⟩
  refine ⟨so_aloadn d_Sh_firstWrong_17 rfl rfl, ?_⟩
  refine ⟨so_aloadn d_Sh_firstWrong_18 rfl rfl, ?_⟩
  refine ⟨so_iloadn d_Sh_firstWrong_19 rfl rfl, ?_⟩
  refine ⟨so_callv (ci := 1) rfl rfl mc_Sh_isRight mi_Sh mj_Sh_isRight ms_Sh_isRight ml_Sh_57 yd_Sh_isRight (by decide) d_Sh_firstWrong_20 rfl, ?_⟩
  refine ⟨so_if_ne d_Sh_firstWrong_23 rfl rfl, ?_⟩
  refine ⟨so_iloadn d_Sh_firstWrong_26 rfl rfl, ?_⟩
  refine ⟨so_iret d_Sh_firstWrong_27 rfl, ?_⟩
  refine ⟨so_iinc d_Sh_firstWrong_28 (by decide) (by decide) rfl, ?_⟩
  refine ⟨so_goto d_Sh_firstWrong_31 rfl, ?_⟩
  refine ⟨so_aloadn d_Sh_firstWrong_34 rfl rfl, ?_⟩
  refine ⟨so_geti (ci := 2) (k := 4) rfl (by decide) rfl rfl fl_Sh_54 d_Sh_firstWrong_35 rfl, ?_⟩
  refine ⟨so_iret d_Sh_firstWrong_38 rfl, ?_⟩
  exact trivial
theorem d_Sh_isRight_0 : decode prog_7_method_9_code 0 = .ok (.aload_n 1, 1) := by decide +kernel
theorem d_Sh_isRight_1 : decode prog_7_method_9_code 1 = .ok (.getfield 65, 3) := by decide +kernel
theorem d_Sh_isRight_4 : decode prog_7_method_9_code 4 = .ok (.iload_n 2, 1) := by decide +kernel
theorem d_Sh_isRight_5 : decode prog_7_method_9_code 5 = .ok (.iaload, 1) := by decide +kernel
theorem d_Sh_isRight_6 : decode prog_7_method_9_code 6 = .ok (.istore_n 3, 1) := by decide +kernel
theorem d_Sh_isRight_7 : decode prog_7_method_9_code 7 = .ok (.aload_n 1, 1) := by decide +kernel
theorem d_Sh_isRight_8 : decode prog_7_method_9_code 8 = .ok (.getfield 68, 3) := by decide +kernel
theorem d_Sh_isRight_11 : decode prog_7_method_9_code 11 = .ok (.iload_n 2, 1) := by decide +kernel
theorem d_Sh_isRight_12 : decode prog_7_method_9_code 12 = .ok (.iaload, 1) := by decide +kernel
theorem d_Sh_isRight_13 : decode prog_7_method_9_code 13 = .ok (.istore 4, 2) := by decide +kernel
theorem d_Sh_isRight_15 : decode prog_7_method_9_code 15 = .ok (.aload_n 1, 1) := by decide +kernel
theorem d_Sh_isRight_16 : decode prog_7_method_9_code 16 = .ok (.getfield 71, 3) := by decide +kernel
theorem d_Sh_isRight_19 : decode prog_7_method_9_code 19 = .ok (.iload_n 2, 1) := by decide +kernel
theorem d_Sh_isRight_20 : decode prog_7_method_9_code 20 = .ok (.iaload, 1) := by decide +kernel
theorem d_Sh_isRight_21 : decode prog_7_method_9_code 21 = .ok (.lookupswitch 152 #[(0, 43), (1, 69), (9, 95), (10, 121)], 43) := by decide +kernel
theorem d_Sh_isRight_64 : decode prog_7_method_9_code 64 = .ok (.aload_n 0, 1) := by decide +kernel
theorem d_Sh_isRight_65 : decode prog_7_method_9_code 65 = .ok (.getfield 17, 3) := by decide +kernel
theorem d_Sh_isRight_68 : decode prog_7_method_9_code 68 = .ok (.iload_n 3, 1) := by decide +kernel
theorem d_Sh_isRight_69 : decode prog_7_method_9_code 69 = .ok (.iaload, 1) := by decide +kernel
theorem d_Sh_isRight_70 : decode prog_7_method_9_code 70 = .ok (.iconst (-1), 1) := by decide +kernel
theorem d_Sh_isRight_71 : decode prog_7_method_9_code 71 = .ok (.if_icmp .eq 13, 3) := by decide +kernel
theorem d_Sh_isRight_74 : decode prog_7_method_9_code 74 = .ok (.aload_n 0, 1) := by decide +kernel
theorem d_Sh_isRight_75 : decode prog_7_method_9_code 75 = .ok (.iload_n 3, 1) := by decide +kernel
theorem d_Sh_isRight_76 : decode prog_7_method_9_code 76 = .ok (.iload 4, 2) := by decide +kernel
theorem d_Sh_isRight_78 : decode prog_7_method_9_code 78 = .ok (.invokevirtual 74, 3) := by decide +kernel
theorem d_Sh_isRight_81 : decode prog_7_method_9_code 81 = .ok (.ifCond .eq 7, 3) := by decide +kernel
theorem d_Sh_isRight_84 : decode prog_7_method_9_code 84 = .ok (.iconst 1, 1) := by decide +kernel
theorem d_Sh_isRight_85 : decode prog_7_method_9_code 85 = .ok (.goto 4, 3) := by decide +kernel
theorem d_Sh_isRight_88 : decode prog_7_method_9_code 88 = .ok (.iconst 0, 1) := by decide +kernel
theorem d_Sh_isRight_89 : decode prog_7_method_9_code 89 = .ok (.ireturn, 1) := by decide +kernel
theorem d_Sh_isRight_90 : decode prog_7_method_9_code 90 = .ok (.aload_n 0, 1) := by decide +kernel
theorem d_Sh_isRight_91 : decode prog_7_method_9_code 91 = .ok (.getfield 17, 3) := by decide +kernel
theorem d_Sh_isRight_94 : decode prog_7_method_9_code 94 = .ok (.iload_n 3, 1) := by decide +kernel
theorem d_Sh_isRight_95 : decode prog_7_method_9_code 95 = .ok (.iaload, 1) := by decide +kernel
theorem d_Sh_isRight_96 : decode prog_7_method_9_code 96 = .ok (.iconst (-1), 1) := by decide +kernel
theorem d_Sh_isRight_97 : decode prog_7_method_9_code 97 = .ok (.if_icmp .eq 17, 3) := by decide +kernel
theorem d_Sh_isRight_100 : decode prog_7_method_9_code 100 = .ok (.aload_n 0, 1) := by decide +kernel
theorem d_Sh_isRight_101 : decode prog_7_method_9_code 101 = .ok (.iload_n 3, 1) := by decide +kernel
theorem d_Sh_isRight_102 : decode prog_7_method_9_code 102 = .ok (.iload 4, 2) := by decide +kernel
theorem d_Sh_isRight_104 : decode prog_7_method_9_code 104 = .ok (.invokevirtual 74, 3) := by decide +kernel
theorem d_Sh_isRight_107 : decode prog_7_method_9_code 107 = .ok (.ifCond .eq 7, 3) := by decide +kernel
theorem d_Sh_isRight_110 : decode prog_7_method_9_code 110 = .ok (.iconst 1, 1) := by decide +kernel
theorem d_Sh_isRight_111 : decode prog_7_method_9_code 111 = .ok (.goto 4, 3) := by decide +kernel
theorem d_Sh_isRight_114 : decode prog_7_method_9_code 114 = .ok (.iconst 0, 1) := by decide +kernel
theorem d_Sh_isRight_115 : decode prog_7_method_9_code 115 = .ok (.ireturn, 1) := by decide +kernel
theorem d_Sh_isRight_116 : decode prog_7_method_9_code 116 = .ok (.aload_n 0, 1) := by decide +kernel
theorem d_Sh_isRight_117 : decode prog_7_method_9_code 117 = .ok (.iload_n 3, 1) := by decide +kernel
theorem d_Sh_isRight_118 : decode prog_7_method_9_code 118 = .ok (.invokevirtual 77, 3) := by decide +kernel
theorem d_Sh_isRight_121 : decode prog_7_method_9_code 121 = .ok (.ifCond .eq 19, 3) := by decide +kernel
theorem d_Sh_isRight_124 : decode prog_7_method_9_code 124 = .ok (.aload_n 0, 1) := by decide +kernel
theorem d_Sh_isRight_125 : decode prog_7_method_9_code 125 = .ok (.getfield 11, 3) := by decide +kernel
theorem d_Sh_isRight_128 : decode prog_7_method_9_code 128 = .ok (.iload_n 3, 1) := by decide +kernel
theorem d_Sh_isRight_129 : decode prog_7_method_9_code 129 = .ok (.aaload, 1) := by decide +kernel
theorem d_Sh_isRight_130 : decode prog_7_method_9_code 130 = .ok (.getfield 80, 3) := by decide +kernel
theorem d_Sh_isRight_133 : decode prog_7_method_9_code 133 = .ok (.ifCond .ne 7, 3) := by decide +kernel
theorem d_Sh_isRight_136 : decode prog_7_method_9_code 136 = .ok (.iconst 1, 1) := by decide +kernel
theorem d_Sh_isRight_137 : decode prog_7_method_9_code 137 = .ok (.goto 4, 3) := by decide +kernel
theorem d_Sh_isRight_140 : decode prog_7_method_9_code 140 = .ok (.iconst 0, 1) := by decide +kernel
theorem d_Sh_isRight_141 : decode prog_7_method_9_code 141 = .ok (.ireturn, 1) := by decide +kernel
theorem d_Sh_isRight_142 : decode prog_7_method_9_code 142 = .ok (.aload_n 0, 1) := by decide +kernel
theorem d_Sh_isRight_143 : decode prog_7_method_9_code 143 = .ok (.iload_n 3, 1) := by decide +kernel
theorem d_Sh_isRight_144 : decode prog_7_method_9_code 144 = .ok (.invokevirtual 77, 3) := by decide +kernel
theorem d_Sh_isRight_147 : decode prog_7_method_9_code 147 = .ok (.ifCond .eq 24, 3) := by decide +kernel
theorem d_Sh_isRight_150 : decode prog_7_method_9_code 150 = .ok (.aload_n 0, 1) := by decide +kernel
theorem d_Sh_isRight_151 : decode prog_7_method_9_code 151 = .ok (.getfield 11, 3) := by decide +kernel
theorem d_Sh_isRight_154 : decode prog_7_method_9_code 154 = .ok (.iload_n 3, 1) := by decide +kernel
theorem d_Sh_isRight_155 : decode prog_7_method_9_code 155 = .ok (.aaload, 1) := by decide +kernel
theorem d_Sh_isRight_156 : decode prog_7_method_9_code 156 = .ok (.getfield 80, 3) := by decide +kernel
theorem d_Sh_isRight_159 : decode prog_7_method_9_code 159 = .ok (.iload 4, 2) := by decide +kernel
theorem d_Sh_isRight_161 : decode prog_7_method_9_code 161 = .ok (.iconst (-1), 1) := by decide +kernel
theorem d_Sh_isRight_162 : decode prog_7_method_9_code 162 = .ok (.ixor, 1) := by decide +kernel
theorem d_Sh_isRight_163 : decode prog_7_method_9_code 163 = .ok (.iand, 1) := by decide +kernel
theorem d_Sh_isRight_164 : decode prog_7_method_9_code 164 = .ok (.ifCond .ne 7, 3) := by decide +kernel
theorem d_Sh_isRight_167 : decode prog_7_method_9_code 167 = .ok (.iconst 1, 1) := by decide +kernel
theorem d_Sh_isRight_168 : decode prog_7_method_9_code 168 = .ok (.goto 4, 3) := by decide +kernel
theorem d_Sh_isRight_171 : decode prog_7_method_9_code 171 = .ok (.iconst 0, 1) := by decide +kernel
theorem d_Sh_isRight_172 : decode prog_7_method_9_code 172 = .ok (.ireturn, 1) := by decide +kernel
theorem d_Sh_isRight_173 : decode prog_7_method_9_code 173 = .ok (.iconst 1, 1) := by decide +kernel
theorem d_Sh_isRight_174 : decode prog_7_method_9_code 174 = .ok (.ireturn, 1) := by decide +kernel
def tb_Sh_isRight : List pm_I := [
  pm_aload 1 1,
  pm_getr 2 2 1,
  pm_iload 3 2,
  pm_iald 4 0,
  pm_istore 5 3,
  pm_aload 6 1,
  pm_getr 7 2 3,
  pm_iload 8 2,
  pm_iald 9 0,
  pm_istore 10 4,
  pm_aload 11 1,
  pm_getr 12 2 0,
  pm_iload 13 2,
  pm_iald 14 0,
  pm_sw [(0, 15), (1, 30), (9, 45), (10, 59)] 77,
  pm_aload 16 0,
  pm_getr 17 1 1,
  pm_iload 18 3,
  pm_iald 19 0,
  pm_const 20 (-1),
  pm_icmp 26 21 (fun a b => decide (a = b)),
  pm_aload 22 0,
  pm_iload 23 3,
  pm_iload 24 4,
  pm_callv 25 24 3 1,
  pm_if 28 26 (fun a => decide (a = 0)),
  pm_const 27 1,
  pm_goto 29,
  pm_const 29 0,
  pm_zret,
  pm_aload 31 0,
  pm_getr 32 1 1,
  pm_iload 33 3,
  pm_iald 34 0,
  pm_const 35 (-1),
  pm_icmp 43 36 (fun a b => decide (a = b)),
  pm_aload 37 0,
  pm_iload 38 3,
  pm_iload 39 4,
  pm_callv 40 24 3 1,
  pm_if 43 41 (fun a => decide (a = 0)),
  pm_const 42 1,
  pm_goto 44,
  pm_const 44 0,
  pm_zret,
  pm_aload 46 0,
  pm_iload 47 3,
  pm_callv 48 21 2 1,
  pm_if 57 49 (fun a => decide (a = 0)),
  pm_aload 50 0,
  pm_getr 51 1 0,
  pm_iload 52 3,
  pm_aald 53 2,
  pm_geti 54 2 5,
  pm_if 57 55 (fun a => decide (a ≠ 0)),
  pm_const 56 1,
  pm_goto 58,
  pm_const 58 0,
  pm_zret,
  pm_aload 60 0,
  pm_iload 61 3,
  pm_callv 62 21 2 1,
  pm_if 75 63 (fun a => decide (a = 0)),
  pm_aload 64 0,
  pm_getr 65 1 0,
  pm_iload 66 3,
  pm_aald 67 2,
  pm_geti 68 2 5,
  pm_iload 69 4,
  pm_const 70 (-1),
  pm_bin 71 (fun a b => a ^^^ b),
  pm_bin 72 (fun a b => a &&& b),
  pm_if 75 73 (fun a => decide (a ≠ 0)),
  pm_const 74 1,
  pm_goto 76,
  pm_const 76 0,
  pm_zret,
  pm_const 78 1,
  pm_zret]
def bp_Sh_isRight : List Nat := [0, 1, 4, 5, 6, 7, 8, 11, 12, 13, 15, 16, 19, 20, 21, 64, 65, 68, 69, 70, 71, 74, 75, 76, 78, 81, 84, 85, 88, 89, 90, 91, 94, 95, 96, 97, 100, 101, 102, 104, 107, 110, 111, 114, 115, 116, 117, 118, 121, 124, 125, 128, 129, 130, 133, 136, 137, 140, 141, 142, 143, 144, 147, 150, 151, 154, 155, 156, 159, 161, 162, 163, 164, 167, 168, 171, 172, 173, 174]
set_option maxRecDepth 100000 in
theorem sd_Sh_isRight : pm_Sl prog_7_method_9_code 5 R_Sh "isRight" (some .boolean) pm_Y (pm_b bp_Sh_isRight) 0 tb_Sh_isRight := by
  refine ⟨so_aloadn d_Sh_isRight_0 rfl rfl, ?_⟩
  refine ⟨so_getr (ci := 2) (k := 1) rfl (by decide) rfl rfl fl_Sh_65 d_Sh_isRight_1 rfl, ?_⟩
  refine ⟨so_iloadn d_Sh_isRight_4 rfl rfl, ?_⟩
  refine ⟨so_iald d_Sh_isRight_5 rfl, ?_⟩
  refine ⟨so_istoren d_Sh_isRight_6 rfl (by decide) rfl, ?_⟩
  refine ⟨so_aloadn d_Sh_isRight_7 rfl rfl, ?_⟩
  refine ⟨so_getr (ci := 2) (k := 3) rfl (by decide) rfl rfl fl_Sh_68 d_Sh_isRight_8 rfl, ?_⟩
  refine ⟨so_iloadn d_Sh_isRight_11 rfl rfl, ?_⟩
  refine ⟨so_iald d_Sh_isRight_12 rfl, ?_⟩
  refine ⟨so_istore d_Sh_isRight_13 (by decide) rfl, ?_⟩
  refine ⟨so_aloadn d_Sh_isRight_15 rfl rfl, ?_⟩
  refine ⟨so_getr (ci := 2) (k := 0) rfl (by decide) rfl rfl fl_Sh_71 d_Sh_isRight_16 rfl, ?_⟩
  refine ⟨so_iloadn d_Sh_isRight_19 rfl rfl, ?_⟩
  refine ⟨so_iald d_Sh_isRight_20 rfl, ?_⟩
  refine ⟨so_lsw d_Sh_isRight_21 (by decide +kernel) (by decide +kernel) rfl, ?_⟩
  refine ⟨so_aloadn d_Sh_isRight_64 rfl rfl, ?_⟩
  refine ⟨so_getr (ci := 1) (k := 1) rfl (by decide) rfl rfl fl_Sh_17 d_Sh_isRight_65 rfl, ?_⟩
  refine ⟨so_iloadn d_Sh_isRight_68 rfl rfl, ?_⟩
  refine ⟨so_iald d_Sh_isRight_69 rfl, ?_⟩
  refine ⟨so_const1 d_Sh_isRight_70 (by decide) rfl, ?_⟩
  refine ⟨so_icmp_eq d_Sh_isRight_71 rfl rfl, ?_⟩
  refine ⟨so_aloadn d_Sh_isRight_74 rfl rfl, ?_⟩
  refine ⟨so_iloadn d_Sh_isRight_75 rfl rfl, ?_⟩
  refine ⟨so_iload d_Sh_isRight_76 rfl, ?_⟩
  refine ⟨so_callv (ci := 1) rfl rfl mc_Sh_guardHeld mi_Sh mj_Sh_guardHeld ms_Sh_guardHeld ml_Sh_74 yd_Sh_guardHeld (by decide) d_Sh_isRight_78 rfl, ?_⟩
  refine ⟨so_if_eq d_Sh_isRight_81 rfl rfl, ?_⟩
  refine ⟨so_const1 d_Sh_isRight_84 (by decide) rfl, ?_⟩
  refine ⟨so_goto d_Sh_isRight_85 rfl, ?_⟩
  refine ⟨so_const1 d_Sh_isRight_88 (by decide) rfl, ?_⟩
  refine ⟨so_zret d_Sh_isRight_89 rfl, ?_⟩
  refine ⟨so_aloadn d_Sh_isRight_90 rfl rfl, ?_⟩
  refine ⟨so_getr (ci := 1) (k := 1) rfl (by decide) rfl rfl fl_Sh_17 d_Sh_isRight_91 rfl, ?_⟩
  refine ⟨so_iloadn d_Sh_isRight_94 rfl rfl, ?_⟩
  refine ⟨so_iald d_Sh_isRight_95 rfl, ?_⟩
  refine ⟨so_const1 d_Sh_isRight_96 (by decide) rfl, ?_⟩
  refine ⟨so_icmp_eq d_Sh_isRight_97 rfl rfl, ?_⟩
  refine ⟨so_aloadn d_Sh_isRight_100 rfl rfl, ?_⟩
  refine ⟨so_iloadn d_Sh_isRight_101 rfl rfl, ?_⟩
  refine ⟨so_iload d_Sh_isRight_102 rfl, ?_⟩
  refine ⟨so_callv (ci := 1) rfl rfl mc_Sh_guardHeld mi_Sh mj_Sh_guardHeld ms_Sh_guardHeld ml_Sh_74 yd_Sh_guardHeld (by decide) d_Sh_isRight_104 rfl, ?_⟩
  refine ⟨so_if_eq d_Sh_isRight_107 rfl rfl, ?_⟩
  refine ⟨so_const1 d_Sh_isRight_110 (by decide) rfl, ?_⟩
  refine ⟨so_goto d_Sh_isRight_111 rfl, ?_⟩
  refine ⟨so_const1 d_Sh_isRight_114 (by decide) rfl, ?_⟩
  refine ⟨so_zret d_Sh_isRight_115 rfl, ?_⟩
  refine ⟨so_aloadn d_Sh_isRight_116 rfl rfl, ?_⟩
  refine ⟨so_iloadn d_Sh_isRight_117 rfl rfl, ?_⟩
  refine ⟨so_callv (ci := 1) rfl rfl mc_Sh_contains mi_Sh mj_Sh_contains ms_Sh_contains ml_Sh_77 yd_Sh_contains (by decide) d_Sh_isRight_118 rfl, ?_⟩
  refine ⟨so_if_eq d_Sh_isRight_121 rfl rfl, ?_⟩
  refine ⟨so_aloadn d_Sh_isRight_124 rfl rfl, ?_⟩
  refine ⟨so_getr (ci := 1) (k := 0) rfl (by decide) rfl rfl fl_Sh_11 d_Sh_isRight_125 rfl, ?_⟩
  refine ⟨so_iloadn d_Sh_isRight_128 rfl rfl, ?_⟩
  refine ⟨so_aald rfl (by decide) (fun _ => rfl) d_Sh_isRight_129 rfl, ?_⟩
  refine ⟨so_geti (ci := 2) (k := 5) rfl (by decide) rfl rfl fl_Sh_80 d_Sh_isRight_130 rfl, ?_⟩
  refine ⟨so_if_ne d_Sh_isRight_133 rfl rfl, ?_⟩
  refine ⟨so_const1 d_Sh_isRight_136 (by decide) rfl, ?_⟩
  refine ⟨so_goto d_Sh_isRight_137 rfl, ?_⟩
  refine ⟨so_const1 d_Sh_isRight_140 (by decide) rfl, ?_⟩
  refine ⟨so_zret d_Sh_isRight_141 rfl, ?_⟩
  refine ⟨so_aloadn d_Sh_isRight_142 rfl rfl, ?_⟩
  refine ⟨so_iloadn d_Sh_isRight_143 rfl rfl, ?_⟩
  refine ⟨so_callv (ci := 1) rfl rfl mc_Sh_contains mi_Sh mj_Sh_contains ms_Sh_contains ml_Sh_77 yd_Sh_contains (by decide) d_Sh_isRight_144 rfl, ?_⟩
  refine ⟨so_if_eq d_Sh_isRight_147 rfl rfl, ?_⟩
  refine ⟨so_aloadn d_Sh_isRight_150 rfl rfl, ?_⟩
  refine ⟨so_getr (ci := 1) (k := 0) rfl (by decide) rfl rfl fl_Sh_11 d_Sh_isRight_151 rfl, ?_⟩
  refine ⟨so_iloadn d_Sh_isRight_154 rfl rfl, ?_⟩
  refine ⟨so_aald rfl (by decide) (fun _ => rfl) d_Sh_isRight_155 rfl, ?_⟩
  refine ⟨so_geti (ci := 2) (k := 5) rfl (by decide) rfl rfl fl_Sh_80 d_Sh_isRight_156 rfl, ?_⟩
  refine ⟨so_iload d_Sh_isRight_159 rfl, ?_⟩
  refine ⟨so_const1 d_Sh_isRight_161 (by decide) rfl, ?_⟩
  refine ⟨so_ixor d_Sh_isRight_162 rfl, ?_⟩
  refine ⟨so_iand d_Sh_isRight_163 rfl, ?_⟩
  refine ⟨so_if_ne d_Sh_isRight_164 rfl rfl, ?_⟩
  refine ⟨so_const1 d_Sh_isRight_167 (by decide) rfl, ?_⟩
  refine ⟨so_goto d_Sh_isRight_168 rfl, ?_⟩
  refine ⟨so_const1 d_Sh_isRight_171 (by decide) rfl, ?_⟩
  refine ⟨so_zret d_Sh_isRight_172 rfl, ?_⟩
  refine ⟨so_const1 d_Sh_isRight_173 (by decide) rfl, ?_⟩
  refine ⟨so_zret d_Sh_isRight_174 rfl, ?_⟩
  exact trivial
theorem d_Sh_guardHeld_0 : decode prog_7_method_10_code 0 = .ok (.iload_n 2, 1) := by decide +kernel
theorem d_Sh_guardHeld_1 : decode prog_7_method_10_code 1 = .ok (.iconst 1, 1) := by decide +kernel
theorem d_Sh_guardHeld_2 : decode prog_7_method_10_code 2 = .ok (.aload_n 0, 1) := by decide +kernel
theorem d_Sh_guardHeld_3 : decode prog_7_method_10_code 3 = .ok (.getfield 17, 3) := by decide +kernel
theorem d_Sh_guardHeld_6 : decode prog_7_method_10_code 6 = .ok (.iload_n 1, 1) := by decide +kernel
theorem d_Sh_guardHeld_7 : decode prog_7_method_10_code 7 = .ok (.iaload, 1) := by decide +kernel
theorem d_Sh_guardHeld_8 : decode prog_7_method_10_code 8 = .ok (.ishl, 1) := by decide +kernel
theorem d_Sh_guardHeld_9 : decode prog_7_method_10_code 9 = .ok (.iand, 1) := by decide +kernel
theorem d_Sh_guardHeld_10 : decode prog_7_method_10_code 10 = .ok (.ifCond .eq 7, 3) := by decide +kernel
theorem d_Sh_guardHeld_13 : decode prog_7_method_10_code 13 = .ok (.iconst 1, 1) := by decide +kernel
theorem d_Sh_guardHeld_14 : decode prog_7_method_10_code 14 = .ok (.goto 4, 3) := by decide +kernel
theorem d_Sh_guardHeld_17 : decode prog_7_method_10_code 17 = .ok (.iconst 0, 1) := by decide +kernel
theorem d_Sh_guardHeld_18 : decode prog_7_method_10_code 18 = .ok (.ireturn, 1) := by decide +kernel
def tb_Sh_guardHeld : List pm_I := [
  pm_iload 1 2,
  pm_const 2 1,
  pm_aload 3 0,
  pm_getr 4 1 1,
  pm_iload 5 1,
  pm_iald 6 0,
  pm_bin 7 (fun a b => a <<< (b &&& 31)),
  pm_bin 8 (fun a b => a &&& b),
  pm_if 11 9 (fun a => decide (a = 0)),
  pm_const 10 1,
  pm_goto 12,
  pm_const 12 0,
  pm_zret]
def bp_Sh_guardHeld : List Nat := [0, 1, 2, 3, 6, 7, 8, 9, 10, 13, 14, 17, 18]
set_option maxRecDepth 100000 in
theorem sd_Sh_guardHeld : pm_Sl prog_7_method_10_code 3 R_Sh "guardHeld" (some .boolean) pm_Y (pm_b bp_Sh_guardHeld) 0 tb_Sh_guardHeld := by
  refine ⟨so_iloadn d_Sh_guardHeld_0 rfl rfl, ?_⟩
  refine ⟨so_const1 d_Sh_guardHeld_1 (by decide) rfl, ?_⟩
  refine ⟨so_aloadn d_Sh_guardHeld_2 rfl rfl, ?_⟩
  refine ⟨so_getr (ci := 1) (k := 1) rfl (by decide) rfl rfl fl_Sh_17 d_Sh_guardHeld_3 rfl, ?_⟩
  refine ⟨so_iloadn d_Sh_guardHeld_6 rfl rfl, ?_⟩
  refine ⟨so_iald d_Sh_guardHeld_7 rfl, ?_⟩
  refine ⟨so_ishl d_Sh_guardHeld_8 rfl, ?_⟩
  refine ⟨so_iand d_Sh_guardHeld_9 rfl, ?_⟩
  refine ⟨so_if_eq d_Sh_guardHeld_10 rfl rfl, ?_⟩
  refine ⟨so_const1 d_Sh_guardHeld_13 (by decide) rfl, ?_⟩
  refine ⟨so_goto d_Sh_guardHeld_14 rfl, ?_⟩
  refine ⟨so_const1 d_Sh_guardHeld_17 (by decide) rfl, ?_⟩
  refine ⟨so_zret d_Sh_guardHeld_18 rfl, ?_⟩
  exact trivial
theorem d_Sh_allRight_0 : decode prog_7_method_8_code 0 = .ok (.iconst 0, 1) := by decide +kernel
theorem d_Sh_allRight_1 : decode prog_7_method_8_code 1 = .ok (.istore_n 1, 1) := by decide +kernel
theorem d_Sh_allRight_2 : decode prog_7_method_8_code 2 = .ok (.iload_n 1, 1) := by decide +kernel
theorem d_Sh_allRight_3 : decode prog_7_method_8_code 3 = .ok (.aload_n 0, 1) := by decide +kernel
theorem d_Sh_allRight_4 : decode prog_7_method_8_code 4 = .ok (.getfield 32, 3) := by decide +kernel
theorem d_Sh_allRight_7 : decode prog_7_method_8_code 7 = .ok (.if_icmp .ge 28, 3) := by decide +kernel
theorem d_Sh_allRight_10 : decode prog_7_method_8_code 10 = .ok (.aload_n 0, 1) := by decide +kernel
theorem d_Sh_allRight_11 : decode prog_7_method_8_code 11 = .ok (.iload_n 1, 1) := by decide +kernel
theorem d_Sh_allRight_12 : decode prog_7_method_8_code 12 = .ok (.invokevirtual 61, 3) := by decide +kernel
theorem d_Sh_allRight_15 : decode prog_7_method_8_code 15 = .ok (.aload_n 0, 1) := by decide +kernel
theorem d_Sh_allRight_16 : decode prog_7_method_8_code 16 = .ok (.getfield 11, 3) := by decide +kernel
theorem d_Sh_allRight_19 : decode prog_7_method_8_code 19 = .ok (.iload_n 1, 1) := by decide +kernel
theorem d_Sh_allRight_20 : decode prog_7_method_8_code 20 = .ok (.aaload, 1) := by decide +kernel
theorem d_Sh_allRight_21 : decode prog_7_method_8_code 21 = .ok (.getfield 54, 3) := by decide +kernel
theorem d_Sh_allRight_24 : decode prog_7_method_8_code 24 = .ok (.if_icmp .ge 5, 3) := by decide +kernel
theorem d_Sh_allRight_27 : decode prog_7_method_8_code 27 = .ok (.iconst 0, 1) := by decide +kernel
theorem d_Sh_allRight_28 : decode prog_7_method_8_code 28 = .ok (.ireturn, 1) := by decide +kernel
theorem d_Sh_allRight_29 : decode prog_7_method_8_code 29 = .ok (.iinc 1 1, 3) := by decide +kernel
theorem d_Sh_allRight_32 : decode prog_7_method_8_code 32 = .ok (.goto (-30), 3) := by decide +kernel
theorem d_Sh_allRight_35 : decode prog_7_method_8_code 35 = .ok (.iconst 1, 1) := by decide +kernel
theorem d_Sh_allRight_36 : decode prog_7_method_8_code 36 = .ok (.ireturn, 1) := by decide +kernel
def tb_Sh_allRight : List pm_I := [
  pm_const 1 0,
  pm_istore 2 1,
  pm_iload 3 1,
  pm_aload 4 0,
  pm_geti 5 1 3,
  pm_icmp 19 6 (fun a b => decide (b ≤ a)),
  pm_aload 7 0,
  pm_iload 8 1,
  pm_callv 9 22 2 1,
  pm_aload 10 0,
  pm_getr 11 1 0,
  pm_iload 12 1,
  pm_aald 13 2,
  pm_geti 14 2 4,
  pm_icmp 17 15 (fun a b => decide (b ≤ a)),
  pm_const 16 0,
  pm_zret,
  pm_iinc 18 1 1,
  pm_goto 2,
  pm_const 20 1,
  pm_zret]
def bp_Sh_allRight : List Nat := [0, 1, 2, 3, 4, 7, 10, 11, 12, 15, 16, 19, 20, 21, 24, 27, 28, 29, 32, 35, 36]
set_option maxRecDepth 100000 in
theorem sd_Sh_allRight : pm_Sl prog_7_method_8_code 2 R_Sh "allRight" (some .boolean) pm_Y (pm_b bp_Sh_allRight) 0 tb_Sh_allRight := by
  refine ⟨so_const1 d_Sh_allRight_0 (by decide) rfl, ?_⟩
  refine ⟨so_istoren d_Sh_allRight_1 rfl (by decide) rfl, ?_⟩
  refine ⟨so_iloadn d_Sh_allRight_2 rfl rfl, ?_⟩
  refine ⟨so_aloadn d_Sh_allRight_3 rfl rfl, ?_⟩
  refine ⟨so_geti (ci := 1) (k := 3) rfl (by decide) rfl rfl fl_Sh_32 d_Sh_allRight_4 rfl, ?_⟩
  refine ⟨so_icmp_ge d_Sh_allRight_7 rfl rfl, ?_⟩
  refine ⟨so_aloadn d_Sh_allRight_10 rfl rfl, ?_⟩
  refine ⟨so_iloadn d_Sh_allRight_11 rfl rfl, ?_⟩
  refine ⟨so_callv (ci := 1) rfl rfl mc_Sh_firstWrong mi_Sh mj_Sh_firstWrong ms_Sh_firstWrong ml_Sh_61 yd_Sh_firstWrong (by decide) d_Sh_allRight_12 rfl, ?_⟩
  refine ⟨so_aloadn d_Sh_allRight_15 rfl rfl, ?_⟩
  refine ⟨so_getr (ci := 1) (k := 0) rfl (by decide) rfl rfl fl_Sh_11 d_Sh_allRight_16 rfl, ?_⟩
  refine ⟨so_iloadn d_Sh_allRight_19 rfl rfl, ?_⟩
  refine ⟨so_aald rfl (by decide) (fun _ => rfl) d_Sh_allRight_20 rfl, ?_⟩
  refine ⟨so_geti (ci := 2) (k := 4) rfl (by decide) rfl rfl fl_Sh_54 d_Sh_allRight_21 rfl, ?_⟩
  refine ⟨so_icmp_ge d_Sh_allRight_24 rfl rfl, ?_⟩
  refine ⟨so_const1 d_Sh_allRight_27 (by decide) rfl, ?_⟩
  refine ⟨so_zret d_Sh_allRight_28 rfl, ?_⟩
  refine ⟨so_iinc d_Sh_allRight_29 (by decide) (by decide) rfl, ?_⟩
  refine ⟨so_goto d_Sh_allRight_32 rfl, ?_⟩
  refine ⟨so_const1 d_Sh_allRight_35 (by decide) rfl, ?_⟩
  refine ⟨so_zret d_Sh_allRight_36 rfl, ?_⟩
  exact trivial
theorem d_Bo_init_0 : decode prog_2_method_1_code 0 = .ok (.aload_n 0, 1) := by decide +kernel
theorem d_Bo_init_1 : decode prog_2_method_1_code 1 = .ok (.invokespecial 3, 3) := by decide +kernel
theorem d_Bo_init_4 : decode prog_2_method_1_code 4 = .ok (.aload_n 0, 1) := by decide +kernel
theorem d_Bo_init_5 : decode prog_2_method_1_code 5 = .ok (.bipush 64, 2) := by decide +kernel
theorem d_Bo_init_7 : decode prog_2_method_1_code 7 = .ok (.newarray .int, 2) := by decide +kernel
theorem d_Bo_init_9 : decode prog_2_method_1_code 9 = .ok (.putfield 9, 3) := by decide +kernel
theorem d_Bo_init_12 : decode prog_2_method_1_code 12 = .ok (.aload_n 0, 1) := by decide +kernel
theorem d_Bo_init_13 : decode prog_2_method_1_code 13 = .ok (.bipush 64, 2) := by decide +kernel
theorem d_Bo_init_15 : decode prog_2_method_1_code 15 = .ok (.newarray .int, 2) := by decide +kernel
theorem d_Bo_init_17 : decode prog_2_method_1_code 17 = .ok (.putfield 15, 3) := by decide +kernel
theorem d_Bo_init_20 : decode prog_2_method_1_code 20 = .ok (.aload_n 0, 1) := by decide +kernel
theorem d_Bo_init_21 : decode prog_2_method_1_code 21 = .ok (.bipush 64, 2) := by decide +kernel
theorem d_Bo_init_23 : decode prog_2_method_1_code 23 = .ok (.newarray .int, 2) := by decide +kernel
theorem d_Bo_init_25 : decode prog_2_method_1_code 25 = .ok (.putfield 18, 3) := by decide +kernel
theorem d_Bo_init_28 : decode prog_2_method_1_code 28 = .ok (.aload_n 0, 1) := by decide +kernel
theorem d_Bo_init_29 : decode prog_2_method_1_code 29 = .ok (.bipush 64, 2) := by decide +kernel
theorem d_Bo_init_31 : decode prog_2_method_1_code 31 = .ok (.newarray .int, 2) := by decide +kernel
theorem d_Bo_init_33 : decode prog_2_method_1_code 33 = .ok (.putfield 21, 3) := by decide +kernel
theorem d_Bo_init_36 : decode prog_2_method_1_code 36 = .ok (.return_, 1) := by decide +kernel
def tb_Bo_init : List pm_I := [
  pm_aload 1 0,
  pm_oinit 2,
  pm_aload 3 0,
  pm_const 4 64,
  pm_newa 5 0,
  pm_putr 6 2 0,
  pm_aload 7 0,
  pm_const 8 64,
  pm_newa 9 0,
  pm_putr 10 2 1,
  pm_aload 11 0,
  pm_const 12 64,
  pm_newa 13 0,
  pm_putr 14 2 2,
  pm_aload 15 0,
  pm_const 16 64,
  pm_newa 17 0,
  pm_putr 18 2 3,
  pm_vret]
def bp_Bo_init : List Nat := [0, 1, 4, 5, 7, 9, 12, 13, 15, 17, 20, 21, 23, 25, 28, 29, 31, 33, 36]
set_option maxRecDepth 100000 in
theorem sd_Bo_init : pm_Sl prog_2_method_1_code 1 R_Bo "<init>" (none) pm_Y (pm_b bp_Bo_init) 0 tb_Bo_init := by
  refine ⟨so_aloadn d_Bo_init_0 rfl rfl, ?_⟩
  refine ⟨so_oinit (pm_in1 (List.mem_append_left _ (List.mem_of_getElem? (i := 33) rfl))) (pm_in1 (List.mem_append_left _ (List.mem_of_getElem? (i := 19) rfl))) (pm_in1 (List.mem_append_left _ (List.mem_of_getElem? (i := 20) rfl))) d_Bo_init_1 rfl, ?_⟩
  refine ⟨so_aloadn d_Bo_init_4 rfl rfl, ?_⟩
  refine ⟨so_const2 d_Bo_init_5 (by decide) rfl, ?_⟩
  refine ⟨so_newi d_Bo_init_7 rfl, ?_⟩
  refine ⟨so_putr (ci := 2) (k := 0) rfl (by decide) rfl rfl (Or.inr ⟨rfl, rfl, rfl, pm_in1 (List.mem_append_left _ (List.mem_of_getElem? (i := 34) rfl))⟩) d_Bo_init_9 rfl, ?_⟩
  refine ⟨so_aloadn d_Bo_init_12 rfl rfl, ?_⟩
  refine ⟨so_const2 d_Bo_init_13 (by decide) rfl, ?_⟩
  refine ⟨so_newi d_Bo_init_15 rfl, ?_⟩
  refine ⟨so_putr (ci := 2) (k := 1) rfl (by decide) rfl rfl (Or.inr ⟨rfl, rfl, rfl, pm_in1 (List.mem_append_left _ (List.mem_of_getElem? (i := 37) rfl))⟩) d_Bo_init_17 rfl, ?_⟩
  refine ⟨so_aloadn d_Bo_init_20 rfl rfl, ?_⟩
  refine ⟨so_const2 d_Bo_init_21 (by decide) rfl, ?_⟩
  refine ⟨so_newi d_Bo_init_23 rfl, ?_⟩
  refine ⟨so_putr (ci := 2) (k := 2) rfl (by decide) rfl rfl (Or.inr ⟨rfl, rfl, rfl, pm_in1 (List.mem_append_left _ (List.mem_of_getElem? (i := 40) rfl))⟩) d_Bo_init_25 rfl, ?_⟩
  refine ⟨so_aloadn d_Bo_init_28 rfl rfl, ?_⟩
  refine ⟨so_const2 d_Bo_init_29 (by decide) rfl, ?_⟩
  refine ⟨so_newi d_Bo_init_31 rfl, ?_⟩
  refine ⟨so_putr (ci := 2) (k := 3) rfl (by decide) rfl rfl (Or.inr ⟨rfl, rfl, rfl, pm_in1 (List.mem_append_left _ (List.mem_of_getElem? (i := 42) rfl))⟩) d_Bo_init_33 rfl, ?_⟩
  refine ⟨so_vret d_Bo_init_36 rfl, ?_⟩
  exact trivial
theorem d_Bo_append_0 : decode prog_2_method_3_code 0 = .ok (.aload_n 0, 1) := by decide +kernel
theorem d_Bo_append_1 : decode prog_2_method_3_code 1 = .ok (.getfield 24, 3) := by decide +kernel
theorem d_Bo_append_4 : decode prog_2_method_3_code 4 = .ok (.bipush 64, 2) := by decide +kernel
theorem d_Bo_append_6 : decode prog_2_method_3_code 6 = .ok (.if_icmp .lt 5, 3) := by decide +kernel
theorem d_Bo_append_9 : decode prog_2_method_3_code 9 = .ok (.iconst (-1), 1) := by decide +kernel
theorem d_Bo_append_10 : decode prog_2_method_3_code 10 = .ok (.ireturn, 1) := by decide +kernel
theorem d_Bo_append_11 : decode prog_2_method_3_code 11 = .ok (.aload_n 0, 1) := by decide +kernel
theorem d_Bo_append_12 : decode prog_2_method_3_code 12 = .ok (.getfield 9, 3) := by decide +kernel
theorem d_Bo_append_15 : decode prog_2_method_3_code 15 = .ok (.aload_n 0, 1) := by decide +kernel
theorem d_Bo_append_16 : decode prog_2_method_3_code 16 = .ok (.getfield 24, 3) := by decide +kernel
theorem d_Bo_append_19 : decode prog_2_method_3_code 19 = .ok (.iload_n 1, 1) := by decide +kernel
theorem d_Bo_append_20 : decode prog_2_method_3_code 20 = .ok (.iastore, 1) := by decide +kernel
theorem d_Bo_append_21 : decode prog_2_method_3_code 21 = .ok (.aload_n 0, 1) := by decide +kernel
theorem d_Bo_append_22 : decode prog_2_method_3_code 22 = .ok (.getfield 15, 3) := by decide +kernel
theorem d_Bo_append_25 : decode prog_2_method_3_code 25 = .ok (.aload_n 0, 1) := by decide +kernel
theorem d_Bo_append_26 : decode prog_2_method_3_code 26 = .ok (.getfield 24, 3) := by decide +kernel
theorem d_Bo_append_29 : decode prog_2_method_3_code 29 = .ok (.iload_n 2, 1) := by decide +kernel
theorem d_Bo_append_30 : decode prog_2_method_3_code 30 = .ok (.iastore, 1) := by decide +kernel
theorem d_Bo_append_31 : decode prog_2_method_3_code 31 = .ok (.aload_n 0, 1) := by decide +kernel
theorem d_Bo_append_32 : decode prog_2_method_3_code 32 = .ok (.dup, 1) := by decide +kernel
theorem d_Bo_append_33 : decode prog_2_method_3_code 33 = .ok (.getfield 24, 3) := by decide +kernel
theorem d_Bo_append_36 : decode prog_2_method_3_code 36 = .ok (.iconst 1, 1) := by decide +kernel
theorem d_Bo_append_37 : decode prog_2_method_3_code 37 = .ok (.iadd, 1) := by decide +kernel
theorem d_Bo_append_38 : decode prog_2_method_3_code 38 = .ok (.putfield 24, 3) := by decide +kernel
theorem d_Bo_append_41 : decode prog_2_method_3_code 41 = .ok (.aload_n 0, 1) := by decide +kernel
theorem d_Bo_append_42 : decode prog_2_method_3_code 42 = .ok (.getfield 24, 3) := by decide +kernel
theorem d_Bo_append_45 : decode prog_2_method_3_code 45 = .ok (.ireturn, 1) := by decide +kernel
def tb_Bo_append : List pm_I := [
  pm_aload 1 0,
  pm_geti 2 2 4,
  pm_const 3 64,
  pm_icmp 6 4 (fun a b => decide (a < b)),
  pm_const 5 (-1),
  pm_iret,
  pm_aload 7 0,
  pm_getr 8 2 0,
  pm_aload 9 0,
  pm_geti 10 2 4,
  pm_iload 11 1,
  pm_iast 12,
  pm_aload 13 0,
  pm_getr 14 2 1,
  pm_aload 15 0,
  pm_geti 16 2 4,
  pm_iload 17 2,
  pm_iast 18,
  pm_aload 19 0,
  pm_dup 20,
  pm_geti 21 2 4,
  pm_const 22 1,
  pm_bin 23 (fun a b => a + b),
  pm_puti 24 2 4,
  pm_aload 25 0,
  pm_geti 26 2 4,
  pm_iret]
def bp_Bo_append : List Nat := [0, 1, 4, 6, 9, 10, 11, 12, 15, 16, 19, 20, 21, 22, 25, 26, 29, 30, 31, 32, 33, 36, 37, 38, 41, 42, 45]
set_option maxRecDepth 100000 in
theorem sd_Bo_append : pm_Sl prog_2_method_3_code 3 R_Bo "append" (some .int) pm_Y (pm_b bp_Bo_append) 0 tb_Bo_append := by
  refine ⟨so_aloadn d_Bo_append_0 rfl rfl, ?_⟩
  refine ⟨so_geti (ci := 2) (k := 4) rfl (by decide) rfl rfl fl_Bo_24 d_Bo_append_1 rfl, ?_⟩
  refine ⟨so_const2 d_Bo_append_4 (by decide) rfl, ?_⟩
  refine ⟨so_icmp_lt d_Bo_append_6 rfl rfl, ?_⟩
  refine ⟨so_const1 d_Bo_append_9 (by decide) rfl, ?_⟩
  refine ⟨so_iret d_Bo_append_10 rfl, ?_⟩
  refine ⟨so_aloadn d_Bo_append_11 rfl rfl, ?_⟩
  refine ⟨so_getr (ci := 2) (k := 0) rfl (by decide) rfl rfl fl_Bo_9 d_Bo_append_12 rfl, ?_⟩
  refine ⟨so_aloadn d_Bo_append_15 rfl rfl, ?_⟩
  refine ⟨so_geti (ci := 2) (k := 4) rfl (by decide) rfl rfl fl_Bo_24 d_Bo_append_16 rfl, ?_⟩
  refine ⟨so_iloadn d_Bo_append_19 rfl rfl, ?_⟩
  refine ⟨so_iast d_Bo_append_20 rfl, ?_⟩
  refine ⟨so_aloadn d_Bo_append_21 rfl rfl, ?_⟩
  refine ⟨so_getr (ci := 2) (k := 1) rfl (by decide) rfl rfl fl_Bo_15 d_Bo_append_22 rfl, ?_⟩
  refine ⟨so_aloadn d_Bo_append_25 rfl rfl, ?_⟩
  refine ⟨so_geti (ci := 2) (k := 4) rfl (by decide) rfl rfl fl_Bo_24 d_Bo_append_26 rfl, ?_⟩
  refine ⟨so_iloadn d_Bo_append_29 rfl rfl, ?_⟩
  refine ⟨so_iast d_Bo_append_30 rfl, ?_⟩
  refine ⟨so_aloadn d_Bo_append_31 rfl rfl, ?_⟩
  refine ⟨so_dup d_Bo_append_32 rfl, ?_⟩
  refine ⟨so_geti (ci := 2) (k := 4) rfl (by decide) rfl rfl fl_Bo_24 d_Bo_append_33 rfl, ?_⟩
  refine ⟨so_const1 d_Bo_append_36 (by decide) rfl, ?_⟩
  refine ⟨so_iadd d_Bo_append_37 rfl, ?_⟩
  refine ⟨so_puti (ci := 2) (k := 4) rfl (by decide) rfl rfl (Or.inl ⟨rfl, fl_Bo_24⟩) d_Bo_append_38 rfl, ?_⟩
  refine ⟨so_aloadn d_Bo_append_41 rfl rfl, ?_⟩
  refine ⟨so_geti (ci := 2) (k := 4) rfl (by decide) rfl rfl fl_Bo_24 d_Bo_append_42 rfl, ?_⟩
  refine ⟨so_iret d_Bo_append_45 rfl, ?_⟩
  exact trivial
theorem d_Bo_joinBlocks_0 : decode prog_2_method_4_code 0 = .ok (.aload_n 0, 1) := by decide +kernel
theorem d_Bo_joinBlocks_1 : decode prog_2_method_4_code 1 = .ok (.iload_n 1, 1) := by decide +kernel
theorem d_Bo_joinBlocks_2 : decode prog_2_method_4_code 2 = .ok (.putfield 28, 3) := by decide +kernel
theorem d_Bo_joinBlocks_5 : decode prog_2_method_4_code 5 = .ok (.iload_n 1, 1) := by decide +kernel
theorem d_Bo_joinBlocks_6 : decode prog_2_method_4_code 6 = .ok (.istore_n 2, 1) := by decide +kernel
theorem d_Bo_joinBlocks_7 : decode prog_2_method_4_code 7 = .ok (.iconst (-1), 1) := by decide +kernel
theorem d_Bo_joinBlocks_8 : decode prog_2_method_4_code 8 = .ok (.istore_n 3, 1) := by decide +kernel
theorem d_Bo_joinBlocks_9 : decode prog_2_method_4_code 9 = .ok (.iconst 0, 1) := by decide +kernel
theorem d_Bo_joinBlocks_10 : decode prog_2_method_4_code 10 = .ok (.istore 4, 2) := by decide +kernel
theorem d_Bo_joinBlocks_12 : decode prog_2_method_4_code 12 = .ok (.iload 4, 2) := by decide +kernel
theorem d_Bo_joinBlocks_14 : decode prog_2_method_4_code 14 = .ok (.aload_n 0, 1) := by decide +kernel
theorem d_Bo_joinBlocks_15 : decode prog_2_method_4_code 15 = .ok (.getfield 24, 3) := by decide +kernel
theorem d_Bo_joinBlocks_18 : decode prog_2_method_4_code 18 = .ok (.if_icmp .ge 170, 3) := by decide +kernel
theorem d_Bo_joinBlocks_21 : decode prog_2_method_4_code 21 = .ok (.aload_n 0, 1) := by decide +kernel
theorem d_Bo_joinBlocks_22 : decode prog_2_method_4_code 22 = .ok (.getfield 21, 3) := by decide +kernel
theorem d_Bo_joinBlocks_25 : decode prog_2_method_4_code 25 = .ok (.iload 4, 2) := by decide +kernel
theorem d_Bo_joinBlocks_27 : decode prog_2_method_4_code 27 = .ok (.iload_n 2, 1) := by decide +kernel
theorem d_Bo_joinBlocks_28 : decode prog_2_method_4_code 28 = .ok (.iastore, 1) := by decide +kernel
theorem d_Bo_joinBlocks_29 : decode prog_2_method_4_code 29 = .ok (.aload_n 0, 1) := by decide +kernel
theorem d_Bo_joinBlocks_30 : decode prog_2_method_4_code 30 = .ok (.getfield 9, 3) := by decide +kernel
theorem d_Bo_joinBlocks_33 : decode prog_2_method_4_code 33 = .ok (.iload 4, 2) := by decide +kernel
theorem d_Bo_joinBlocks_35 : decode prog_2_method_4_code 35 = .ok (.iaload, 1) := by decide +kernel
theorem d_Bo_joinBlocks_36 : decode prog_2_method_4_code 36 = .ok (.tableswitch 146 4 8 #[36, 121, 62, 76, 62], 36) := by decide +kernel
theorem d_Bo_joinBlocks_72 : decode prog_2_method_4_code 72 = .ok (.iload_n 2, 1) := by decide +kernel
theorem d_Bo_joinBlocks_73 : decode prog_2_method_4_code 73 = .ok (.iconst 1, 1) := by decide +kernel
theorem d_Bo_joinBlocks_74 : decode prog_2_method_4_code 74 = .ok (.aload_n 0, 1) := by decide +kernel
theorem d_Bo_joinBlocks_75 : decode prog_2_method_4_code 75 = .ok (.getfield 15, 3) := by decide +kernel
theorem d_Bo_joinBlocks_78 : decode prog_2_method_4_code 78 = .ok (.iload 4, 2) := by decide +kernel
theorem d_Bo_joinBlocks_80 : decode prog_2_method_4_code 80 = .ok (.iaload, 1) := by decide +kernel
theorem d_Bo_joinBlocks_81 : decode prog_2_method_4_code 81 = .ok (.ishl, 1) := by decide +kernel
theorem d_Bo_joinBlocks_82 : decode prog_2_method_4_code 82 = .ok (.ior, 1) := by decide +kernel
theorem d_Bo_joinBlocks_83 : decode prog_2_method_4_code 83 = .ok (.istore_n 2, 1) := by decide +kernel
theorem d_Bo_joinBlocks_84 : decode prog_2_method_4_code 84 = .ok (.aload_n 0, 1) := by decide +kernel
theorem d_Bo_joinBlocks_85 : decode prog_2_method_4_code 85 = .ok (.getfield 18, 3) := by decide +kernel
theorem d_Bo_joinBlocks_88 : decode prog_2_method_4_code 88 = .ok (.iload 4, 2) := by decide +kernel
theorem d_Bo_joinBlocks_90 : decode prog_2_method_4_code 90 = .ok (.iload_n 3, 1) := by decide +kernel
theorem d_Bo_joinBlocks_91 : decode prog_2_method_4_code 91 = .ok (.iastore, 1) := by decide +kernel
theorem d_Bo_joinBlocks_92 : decode prog_2_method_4_code 92 = .ok (.iload 4, 2) := by decide +kernel
theorem d_Bo_joinBlocks_94 : decode prog_2_method_4_code 94 = .ok (.istore_n 3, 1) := by decide +kernel
theorem d_Bo_joinBlocks_95 : decode prog_2_method_4_code 95 = .ok (.goto 87, 3) := by decide +kernel
theorem d_Bo_joinBlocks_98 : decode prog_2_method_4_code 98 = .ok (.aload_n 0, 1) := by decide +kernel
theorem d_Bo_joinBlocks_99 : decode prog_2_method_4_code 99 = .ok (.getfield 18, 3) := by decide +kernel
theorem d_Bo_joinBlocks_102 : decode prog_2_method_4_code 102 = .ok (.iload 4, 2) := by decide +kernel
theorem d_Bo_joinBlocks_104 : decode prog_2_method_4_code 104 = .ok (.iload_n 3, 1) := by decide +kernel
theorem d_Bo_joinBlocks_105 : decode prog_2_method_4_code 105 = .ok (.iastore, 1) := by decide +kernel
theorem d_Bo_joinBlocks_106 : decode prog_2_method_4_code 106 = .ok (.iload 4, 2) := by decide +kernel
theorem d_Bo_joinBlocks_108 : decode prog_2_method_4_code 108 = .ok (.istore_n 3, 1) := by decide +kernel
theorem d_Bo_joinBlocks_109 : decode prog_2_method_4_code 109 = .ok (.goto 73, 3) := by decide +kernel
theorem d_Bo_joinBlocks_112 : decode prog_2_method_4_code 112 = .ok (.iload_n 3, 1) := by decide +kernel
theorem d_Bo_joinBlocks_113 : decode prog_2_method_4_code 113 = .ok (.iconst (-1), 1) := by decide +kernel
theorem d_Bo_joinBlocks_114 : decode prog_2_method_4_code 114 = .ok (.if_icmp .eq 14, 3) := by decide +kernel
theorem d_Bo_joinBlocks_117 : decode prog_2_method_4_code 117 = .ok (.aload_n 0, 1) := by decide +kernel
theorem d_Bo_joinBlocks_118 : decode prog_2_method_4_code 118 = .ok (.getfield 9, 3) := by decide +kernel
theorem d_Bo_joinBlocks_121 : decode prog_2_method_4_code 121 = .ok (.iload_n 3, 1) := by decide +kernel
theorem d_Bo_joinBlocks_122 : decode prog_2_method_4_code 122 = .ok (.iaload, 1) := by decide +kernel
theorem d_Bo_joinBlocks_123 : decode prog_2_method_4_code 123 = .ok (.bipush 6, 2) := by decide +kernel
theorem d_Bo_joinBlocks_125 : decode prog_2_method_4_code 125 = .ok (.if_icmp .eq 5, 3) := by decide +kernel
theorem d_Bo_joinBlocks_128 : decode prog_2_method_4_code 128 = .ok (.iconst 0, 1) := by decide +kernel
theorem d_Bo_joinBlocks_129 : decode prog_2_method_4_code 129 = .ok (.ireturn, 1) := by decide +kernel
theorem d_Bo_joinBlocks_130 : decode prog_2_method_4_code 130 = .ok (.aload_n 0, 1) := by decide +kernel
theorem d_Bo_joinBlocks_131 : decode prog_2_method_4_code 131 = .ok (.getfield 18, 3) := by decide +kernel
theorem d_Bo_joinBlocks_134 : decode prog_2_method_4_code 134 = .ok (.iload 4, 2) := by decide +kernel
theorem d_Bo_joinBlocks_136 : decode prog_2_method_4_code 136 = .ok (.aload_n 0, 1) := by decide +kernel
theorem d_Bo_joinBlocks_137 : decode prog_2_method_4_code 137 = .ok (.getfield 18, 3) := by decide +kernel
theorem d_Bo_joinBlocks_140 : decode prog_2_method_4_code 140 = .ok (.iload_n 3, 1) := by decide +kernel
theorem d_Bo_joinBlocks_141 : decode prog_2_method_4_code 141 = .ok (.iaload, 1) := by decide +kernel
theorem d_Bo_joinBlocks_142 : decode prog_2_method_4_code 142 = .ok (.iastore, 1) := by decide +kernel
theorem d_Bo_joinBlocks_143 : decode prog_2_method_4_code 143 = .ok (.aload_n 0, 1) := by decide +kernel
theorem d_Bo_joinBlocks_144 : decode prog_2_method_4_code 144 = .ok (.getfield 18, 3) := by decide +kernel
theorem d_Bo_joinBlocks_147 : decode prog_2_method_4_code 147 = .ok (.iload_n 3, 1) := by decide +kernel
theorem d_Bo_joinBlocks_148 : decode prog_2_method_4_code 148 = .ok (.iload 4, 2) := by decide +kernel
theorem d_Bo_joinBlocks_150 : decode prog_2_method_4_code 150 = .ok (.iastore, 1) := by decide +kernel
theorem d_Bo_joinBlocks_151 : decode prog_2_method_4_code 151 = .ok (.iload 4, 2) := by decide +kernel
theorem d_Bo_joinBlocks_153 : decode prog_2_method_4_code 153 = .ok (.istore_n 3, 1) := by decide +kernel
theorem d_Bo_joinBlocks_154 : decode prog_2_method_4_code 154 = .ok (.goto 28, 3) := by decide +kernel
theorem d_Bo_joinBlocks_157 : decode prog_2_method_4_code 157 = .ok (.iload_n 3, 1) := by decide +kernel
theorem d_Bo_joinBlocks_158 : decode prog_2_method_4_code 158 = .ok (.iconst (-1), 1) := by decide +kernel
theorem d_Bo_joinBlocks_159 : decode prog_2_method_4_code 159 = .ok (.if_icmp .ne 5, 3) := by decide +kernel
theorem d_Bo_joinBlocks_162 : decode prog_2_method_4_code 162 = .ok (.iconst 0, 1) := by decide +kernel
theorem d_Bo_joinBlocks_163 : decode prog_2_method_4_code 163 = .ok (.ireturn, 1) := by decide +kernel
theorem d_Bo_joinBlocks_164 : decode prog_2_method_4_code 164 = .ok (.aload_n 0, 1) := by decide +kernel
theorem d_Bo_joinBlocks_165 : decode prog_2_method_4_code 165 = .ok (.getfield 21, 3) := by decide +kernel
theorem d_Bo_joinBlocks_168 : decode prog_2_method_4_code 168 = .ok (.iload_n 3, 1) := by decide +kernel
theorem d_Bo_joinBlocks_169 : decode prog_2_method_4_code 169 = .ok (.iaload, 1) := by decide +kernel
theorem d_Bo_joinBlocks_170 : decode prog_2_method_4_code 170 = .ok (.istore_n 2, 1) := by decide +kernel
theorem d_Bo_joinBlocks_171 : decode prog_2_method_4_code 171 = .ok (.aload_n 0, 1) := by decide +kernel
theorem d_Bo_joinBlocks_172 : decode prog_2_method_4_code 172 = .ok (.iload_n 3, 1) := by decide +kernel
theorem d_Bo_joinBlocks_173 : decode prog_2_method_4_code 173 = .ok (.iload 4, 2) := by decide +kernel
theorem d_Bo_joinBlocks_175 : decode prog_2_method_4_code 175 = .ok (.invokevirtual 31, 3) := by decide +kernel
theorem d_Bo_joinBlocks_178 : decode prog_2_method_4_code 178 = .ok (.istore_n 3, 1) := by decide +kernel
theorem d_Bo_joinBlocks_179 : decode prog_2_method_4_code 179 = .ok (.goto 3, 3) := by decide +kernel
theorem d_Bo_joinBlocks_182 : decode prog_2_method_4_code 182 = .ok (.iinc 4 1, 3) := by decide +kernel
theorem d_Bo_joinBlocks_185 : decode prog_2_method_4_code 185 = .ok (.goto (-173), 3) := by decide +kernel
theorem d_Bo_joinBlocks_188 : decode prog_2_method_4_code 188 = .ok (.iload_n 3, 1) := by decide +kernel
theorem d_Bo_joinBlocks_189 : decode prog_2_method_4_code 189 = .ok (.iconst (-1), 1) := by decide +kernel
theorem d_Bo_joinBlocks_190 : decode prog_2_method_4_code 190 = .ok (.if_icmp .ne 7, 3) := by decide +kernel
theorem d_Bo_joinBlocks_193 : decode prog_2_method_4_code 193 = .ok (.iconst 1, 1) := by decide +kernel
theorem d_Bo_joinBlocks_194 : decode prog_2_method_4_code 194 = .ok (.goto 4, 3) := by decide +kernel
theorem d_Bo_joinBlocks_197 : decode prog_2_method_4_code 197 = .ok (.iconst 0, 1) := by decide +kernel
theorem d_Bo_joinBlocks_198 : decode prog_2_method_4_code 198 = .ok (.ireturn, 1) := by decide +kernel
def tb_Bo_joinBlocks : List pm_I := [
  pm_aload 1 0,
  pm_iload 2 1,
  pm_puti 3 2 5,
  pm_iload 4 1,
  pm_istore 5 2,
  pm_const 6 (-1),
  pm_istore 7 3,
  pm_const 8 0,
  pm_istore 9 4,
  pm_iload 10 4,
  pm_aload 11 0,
  pm_geti 12 2 4,
  pm_icmp 93 13 (fun a b => decide (b ≤ a)),
  pm_aload 14 0,
  pm_getr 15 2 3,
  pm_iload 16 4,
  pm_iload 17 2,
  pm_iast 18,
  pm_aload 19 0,
  pm_getr 20 2 0,
  pm_iload 21 4,
  pm_iald 22 0,
  pm_sw [(4, 23), (5, 75), (6, 40), (7, 48), (8, 40)] 91,
  pm_iload 24 2,
  pm_const 25 1,
  pm_aload 26 0,
  pm_getr 27 2 1,
  pm_iload 28 4,
  pm_iald 29 0,
  pm_bin 30 (fun a b => a <<< (b &&& 31)),
  pm_bin 31 (fun a b => a ||| b),
  pm_istore 32 2,
  pm_aload 33 0,
  pm_getr 34 2 2,
  pm_iload 35 4,
  pm_iload 36 3,
  pm_iast 37,
  pm_iload 38 4,
  pm_istore 39 3,
  pm_goto 91,
  pm_aload 41 0,
  pm_getr 42 2 2,
  pm_iload 43 4,
  pm_iload 44 3,
  pm_iast 45,
  pm_iload 46 4,
  pm_istore 47 3,
  pm_goto 91,
  pm_iload 49 3,
  pm_const 50 (-1),
  pm_icmp 57 51 (fun a b => decide (a = b)),
  pm_aload 52 0,
  pm_getr 53 2 0,
  pm_iload 54 3,
  pm_iald 55 0,
  pm_const 56 6,
  pm_icmp 59 57 (fun a b => decide (a = b)),
  pm_const 58 0,
  pm_zret,
  pm_aload 60 0,
  pm_getr 61 2 2,
  pm_iload 62 4,
  pm_aload 63 0,
  pm_getr 64 2 2,
  pm_iload 65 3,
  pm_iald 66 0,
  pm_iast 67,
  pm_aload 68 0,
  pm_getr 69 2 2,
  pm_iload 70 3,
  pm_iload 71 4,
  pm_iast 72,
  pm_iload 73 4,
  pm_istore 74 3,
  pm_goto 91,
  pm_iload 76 3,
  pm_const 77 (-1),
  pm_icmp 80 78 (fun a b => decide (a ≠ b)),
  pm_const 79 0,
  pm_zret,
  pm_aload 81 0,
  pm_getr 82 2 3,
  pm_iload 83 3,
  pm_iald 84 0,
  pm_istore 85 2,
  pm_aload 86 0,
  pm_iload 87 3,
  pm_iload 88 4,
  pm_callv 89 29 3 2,
  pm_istore 90 3,
  pm_goto 91,
  pm_iinc 92 4 1,
  pm_goto 9,
  pm_iload 94 3,
  pm_const 95 (-1),
  pm_icmp 98 96 (fun a b => decide (a ≠ b)),
  pm_const 97 1,
  pm_goto 99,
  pm_const 99 0,
  pm_zret]
def bp_Bo_joinBlocks : List Nat := [0, 1, 2, 5, 6, 7, 8, 9, 10, 12, 14, 15, 18, 21, 22, 25, 27, 28, 29, 30, 33, 35, 36, 72, 73, 74, 75, 78, 80, 81, 82, 83, 84, 85, 88, 90, 91, 92, 94, 95, 98, 99, 102, 104, 105, 106, 108, 109, 112, 113, 114, 117, 118, 121, 122, 123, 125, 128, 129, 130, 131, 134, 136, 137, 140, 141, 142, 143, 144, 147, 148, 150, 151, 153, 154, 157, 158, 159, 162, 163, 164, 165, 168, 169, 170, 171, 172, 173, 175, 178, 179, 182, 185, 188, 189, 190, 193, 194, 197, 198]
set_option maxRecDepth 100000 in
theorem sd_Bo_joinBlocks : pm_Sl prog_2_method_4_code 5 R_Bo "joinBlocks" (some .boolean) pm_Y (pm_b bp_Bo_joinBlocks) 0 tb_Bo_joinBlocks := by
  refine ⟨so_aloadn d_Bo_joinBlocks_0 rfl rfl, ?_⟩
  refine ⟨so_iloadn d_Bo_joinBlocks_1 rfl rfl, ?_⟩
  refine ⟨so_puti (ci := 2) (k := 5) rfl (by decide) rfl rfl (Or.inl ⟨rfl, fl_Bo_28⟩) d_Bo_joinBlocks_2 rfl, ?_⟩
  refine ⟨so_iloadn d_Bo_joinBlocks_5 rfl rfl, ?_⟩
  refine ⟨so_istoren d_Bo_joinBlocks_6 rfl (by decide) rfl, ?_⟩
  refine ⟨so_const1 d_Bo_joinBlocks_7 (by decide) rfl, ?_⟩
  refine ⟨so_istoren d_Bo_joinBlocks_8 rfl (by decide) rfl, ?_⟩
  refine ⟨so_const1 d_Bo_joinBlocks_9 (by decide) rfl, ?_⟩
  refine ⟨so_istore d_Bo_joinBlocks_10 (by decide) rfl, ?_⟩
  refine ⟨so_iload d_Bo_joinBlocks_12 rfl, ?_⟩
  refine ⟨so_aloadn d_Bo_joinBlocks_14 rfl rfl, ?_⟩
  refine ⟨so_geti (ci := 2) (k := 4) rfl (by decide) rfl rfl fl_Bo_24 d_Bo_joinBlocks_15 rfl, ?_⟩
  refine ⟨so_icmp_ge d_Bo_joinBlocks_18 rfl rfl, ?_⟩
  refine ⟨so_aloadn d_Bo_joinBlocks_21 rfl rfl, ?_⟩
  refine ⟨so_getr (ci := 2) (k := 3) rfl (by decide) rfl rfl fl_Bo_21 d_Bo_joinBlocks_22 rfl, ?_⟩
  refine ⟨so_iload d_Bo_joinBlocks_25 rfl, ?_⟩
  refine ⟨so_iloadn d_Bo_joinBlocks_27 rfl rfl, ?_⟩
  refine ⟨so_iast d_Bo_joinBlocks_28 rfl, ?_⟩
  refine ⟨so_aloadn d_Bo_joinBlocks_29 rfl rfl, ?_⟩
  refine ⟨so_getr (ci := 2) (k := 0) rfl (by decide) rfl rfl fl_Bo_9 d_Bo_joinBlocks_30 rfl, ?_⟩
  refine ⟨so_iload d_Bo_joinBlocks_33 rfl, ?_⟩
  refine ⟨so_iald d_Bo_joinBlocks_35 rfl, ?_⟩
  refine ⟨so_tsw d_Bo_joinBlocks_36 (by decide +kernel) (by decide +kernel) rfl, ?_⟩
  refine ⟨so_iloadn d_Bo_joinBlocks_72 rfl rfl, ?_⟩
  refine ⟨so_const1 d_Bo_joinBlocks_73 (by decide) rfl, ?_⟩
  refine ⟨so_aloadn d_Bo_joinBlocks_74 rfl rfl, ?_⟩
  refine ⟨so_getr (ci := 2) (k := 1) rfl (by decide) rfl rfl fl_Bo_15 d_Bo_joinBlocks_75 rfl, ?_⟩
  refine ⟨so_iload d_Bo_joinBlocks_78 rfl, ?_⟩
  refine ⟨so_iald d_Bo_joinBlocks_80 rfl, ?_⟩
  refine ⟨so_ishl d_Bo_joinBlocks_81 rfl, ?_⟩
  refine ⟨so_ior d_Bo_joinBlocks_82 rfl, ?_⟩
  refine ⟨so_istoren d_Bo_joinBlocks_83 rfl (by decide) rfl, ?_⟩
  refine ⟨so_aloadn d_Bo_joinBlocks_84 rfl rfl, ?_⟩
  refine ⟨so_getr (ci := 2) (k := 2) rfl (by decide) rfl rfl fl_Bo_18 d_Bo_joinBlocks_85 rfl, ?_⟩
  refine ⟨so_iload d_Bo_joinBlocks_88 rfl, ?_⟩
  refine ⟨so_iloadn d_Bo_joinBlocks_90 rfl rfl, ?_⟩
  refine ⟨so_iast d_Bo_joinBlocks_91 rfl, ?_⟩
  refine ⟨so_iload d_Bo_joinBlocks_92 rfl, ?_⟩
  refine ⟨so_istoren d_Bo_joinBlocks_94 rfl (by decide) rfl, ?_⟩
  refine ⟨so_goto d_Bo_joinBlocks_95 rfl, ?_⟩
  refine ⟨so_aloadn d_Bo_joinBlocks_98 rfl rfl, ?_⟩
  refine ⟨so_getr (ci := 2) (k := 2) rfl (by decide) rfl rfl fl_Bo_18 d_Bo_joinBlocks_99 rfl, ?_⟩
  refine ⟨so_iload d_Bo_joinBlocks_102 rfl, ?_⟩
  refine ⟨so_iloadn d_Bo_joinBlocks_104 rfl rfl, ?_⟩
  refine ⟨so_iast d_Bo_joinBlocks_105 rfl, ?_⟩
  refine ⟨so_iload d_Bo_joinBlocks_106 rfl, ?_⟩
  refine ⟨so_istoren d_Bo_joinBlocks_108 rfl (by decide) rfl, ?_⟩
  refine ⟨so_goto d_Bo_joinBlocks_109 rfl, ?_⟩
  refine ⟨so_iloadn d_Bo_joinBlocks_112 rfl rfl, ?_⟩
  refine ⟨so_const1 d_Bo_joinBlocks_113 (by decide) rfl, ?_⟩
  refine ⟨so_icmp_eq d_Bo_joinBlocks_114 rfl rfl, ?_⟩
  refine ⟨so_aloadn d_Bo_joinBlocks_117 rfl rfl, ?_⟩
  refine ⟨so_getr (ci := 2) (k := 0) rfl (by decide) rfl rfl fl_Bo_9 d_Bo_joinBlocks_118 rfl, ?_⟩
  refine ⟨so_iloadn d_Bo_joinBlocks_121 rfl rfl, ?_⟩
  refine ⟨so_iald d_Bo_joinBlocks_122 rfl, ?_⟩
  refine ⟨so_const2 d_Bo_joinBlocks_123 (by decide) rfl, ?_⟩
  refine ⟨so_icmp_eq d_Bo_joinBlocks_125 rfl rfl, ?_⟩
  refine ⟨so_const1 d_Bo_joinBlocks_128 (by decide) rfl, ?_⟩
  refine ⟨so_zret d_Bo_joinBlocks_129 rfl, ?_⟩
  refine ⟨so_aloadn d_Bo_joinBlocks_130 rfl rfl, ?_⟩
  refine ⟨so_getr (ci := 2) (k := 2) rfl (by decide) rfl rfl fl_Bo_18 d_Bo_joinBlocks_131 rfl, ?_⟩
  refine ⟨so_iload d_Bo_joinBlocks_134 rfl, ?_⟩
  refine ⟨so_aloadn d_Bo_joinBlocks_136 rfl rfl, ?_⟩
  refine ⟨so_getr (ci := 2) (k := 2) rfl (by decide) rfl rfl fl_Bo_18 d_Bo_joinBlocks_137 rfl, ?_⟩
  refine ⟨so_iloadn d_Bo_joinBlocks_140 rfl rfl, ?_⟩
  refine ⟨so_iald d_Bo_joinBlocks_141 rfl, ?_⟩
  refine ⟨so_iast d_Bo_joinBlocks_142 rfl, ?_⟩
  refine ⟨so_aloadn d_Bo_joinBlocks_143 rfl rfl, ?_⟩
  refine ⟨so_getr (ci := 2) (k := 2) rfl (by decide) rfl rfl fl_Bo_18 d_Bo_joinBlocks_144 rfl, ?_⟩
  refine ⟨so_iloadn d_Bo_joinBlocks_147 rfl rfl, ?_⟩
  refine ⟨so_iload d_Bo_joinBlocks_148 rfl, ?_⟩
  refine ⟨so_iast d_Bo_joinBlocks_150 rfl, ?_⟩
  refine ⟨so_iload d_Bo_joinBlocks_151 rfl, ?_⟩
  refine ⟨so_istoren d_Bo_joinBlocks_153 rfl (by decide) rfl, ?_⟩
  refine ⟨so_goto d_Bo_joinBlocks_154 rfl, ?_⟩
  refine ⟨so_iloadn d_Bo_joinBlocks_157 rfl rfl, ?_⟩
  refine ⟨so_const1 d_Bo_joinBlocks_158 (by decide) rfl, ?_⟩
  refine ⟨so_icmp_ne d_Bo_joinBlocks_159 rfl rfl, ?_⟩
  refine ⟨so_const1 d_Bo_joinBlocks_162 (by decide) rfl, ?_⟩
  refine ⟨so_zret d_Bo_joinBlocks_163 rfl, ?_⟩
  refine ⟨so_aloadn d_Bo_joinBlocks_164 rfl rfl, ?_⟩
  refine ⟨so_getr (ci := 2) (k := 3) rfl (by decide) rfl rfl fl_Bo_21 d_Bo_joinBlocks_165 rfl, ?_⟩
  refine ⟨so_iloadn d_Bo_joinBlocks_168 rfl rfl, ?_⟩
  refine ⟨so_iald d_Bo_joinBlocks_169 rfl, ?_⟩
  refine ⟨so_istoren d_Bo_joinBlocks_170 rfl (by decide) rfl, ?_⟩
  refine ⟨so_aloadn d_Bo_joinBlocks_171 rfl rfl, ?_⟩
  refine ⟨so_iloadn d_Bo_joinBlocks_172 rfl rfl, ?_⟩
  refine ⟨so_iload d_Bo_joinBlocks_173 rfl, ?_⟩
  refine ⟨so_callv (ci := 2) rfl rfl mc_Bo_closeBlock mi_Bo mj_Bo_closeBlock ms_Bo_closeBlock ml_Bo_31 yd_Bo_closeBlock (by decide) d_Bo_joinBlocks_175 rfl, ?_⟩
  refine ⟨so_istoren d_Bo_joinBlocks_178 rfl (by decide) rfl, ?_⟩
  refine ⟨so_goto d_Bo_joinBlocks_179 rfl, ?_⟩
  refine ⟨so_iinc d_Bo_joinBlocks_182 (by decide) (by decide) rfl, ?_⟩
  refine ⟨so_goto d_Bo_joinBlocks_185 rfl, ?_⟩
  refine ⟨so_iloadn d_Bo_joinBlocks_188 rfl rfl, ?_⟩
  refine ⟨so_const1 d_Bo_joinBlocks_189 (by decide) rfl, ?_⟩
  refine ⟨so_icmp_ne d_Bo_joinBlocks_190 rfl rfl, ?_⟩
  refine ⟨so_const1 d_Bo_joinBlocks_193 (by decide) rfl, ?_⟩
  refine ⟨so_goto d_Bo_joinBlocks_194 rfl, ?_⟩
  refine ⟨so_const1 d_Bo_joinBlocks_197 (by decide) rfl, ?_⟩
  refine ⟨so_zret d_Bo_joinBlocks_198 rfl, ?_⟩
  exact trivial
theorem d_Bo_closeBlock_0 : decode prog_2_method_5_code 0 = .ok (.aload_n 0, 1) := by decide +kernel
theorem d_Bo_closeBlock_1 : decode prog_2_method_5_code 1 = .ok (.getfield 18, 3) := by decide +kernel
theorem d_Bo_closeBlock_4 : decode prog_2_method_5_code 4 = .ok (.iload_n 1, 1) := by decide +kernel
theorem d_Bo_closeBlock_5 : decode prog_2_method_5_code 5 = .ok (.iaload, 1) := by decide +kernel
theorem d_Bo_closeBlock_6 : decode prog_2_method_5_code 6 = .ok (.istore_n 3, 1) := by decide +kernel
theorem d_Bo_closeBlock_7 : decode prog_2_method_5_code 7 = .ok (.aload_n 0, 1) := by decide +kernel
theorem d_Bo_closeBlock_8 : decode prog_2_method_5_code 8 = .ok (.getfield 18, 3) := by decide +kernel
theorem d_Bo_closeBlock_11 : decode prog_2_method_5_code 11 = .ok (.iload_n 1, 1) := by decide +kernel
theorem d_Bo_closeBlock_12 : decode prog_2_method_5_code 12 = .ok (.iload_n 2, 1) := by decide +kernel
theorem d_Bo_closeBlock_13 : decode prog_2_method_5_code 13 = .ok (.iastore, 1) := by decide +kernel
theorem d_Bo_closeBlock_14 : decode prog_2_method_5_code 14 = .ok (.aload_n 0, 1) := by decide +kernel
theorem d_Bo_closeBlock_15 : decode prog_2_method_5_code 15 = .ok (.getfield 18, 3) := by decide +kernel
theorem d_Bo_closeBlock_18 : decode prog_2_method_5_code 18 = .ok (.iload_n 2, 1) := by decide +kernel
theorem d_Bo_closeBlock_19 : decode prog_2_method_5_code 19 = .ok (.iload_n 1, 1) := by decide +kernel
theorem d_Bo_closeBlock_20 : decode prog_2_method_5_code 20 = .ok (.iastore, 1) := by decide +kernel
theorem d_Bo_closeBlock_21 : decode prog_2_method_5_code 21 = .ok (.iload_n 3, 1) := by decide +kernel
theorem d_Bo_closeBlock_22 : decode prog_2_method_5_code 22 = .ok (.ireturn, 1) := by decide +kernel
def tb_Bo_closeBlock : List pm_I := [
  pm_aload 1 0,
  pm_getr 2 2 2,
  pm_iload 3 1,
  pm_iald 4 0,
  pm_istore 5 3,
  pm_aload 6 0,
  pm_getr 7 2 2,
  pm_iload 8 1,
  pm_iload 9 2,
  pm_iast 10,
  pm_aload 11 0,
  pm_getr 12 2 2,
  pm_iload 13 2,
  pm_iload 14 1,
  pm_iast 15,
  pm_iload 16 3,
  pm_iret]
def bp_Bo_closeBlock : List Nat := [0, 1, 4, 5, 6, 7, 8, 11, 12, 13, 14, 15, 18, 19, 20, 21, 22]
set_option maxRecDepth 100000 in
theorem sd_Bo_closeBlock : pm_Sl prog_2_method_5_code 4 R_Bo "closeBlock" (some .int) pm_Y (pm_b bp_Bo_closeBlock) 0 tb_Bo_closeBlock := by
  refine ⟨so_aloadn d_Bo_closeBlock_0 rfl rfl, ?_⟩
  refine ⟨so_getr (ci := 2) (k := 2) rfl (by decide) rfl rfl fl_Bo_18 d_Bo_closeBlock_1 rfl, ?_⟩
  refine ⟨so_iloadn d_Bo_closeBlock_4 rfl rfl, ?_⟩
  refine ⟨so_iald d_Bo_closeBlock_5 rfl, ?_⟩
  refine ⟨so_istoren d_Bo_closeBlock_6 rfl (by decide) rfl, ?_⟩
  refine ⟨so_aloadn d_Bo_closeBlock_7 rfl rfl, ?_⟩
  refine ⟨so_getr (ci := 2) (k := 2) rfl (by decide) rfl rfl fl_Bo_18 d_Bo_closeBlock_8 rfl, ?_⟩
  refine ⟨so_iloadn d_Bo_closeBlock_11 rfl rfl, ?_⟩
  refine ⟨so_iloadn d_Bo_closeBlock_12 rfl rfl, ?_⟩
  refine ⟨so_iast d_Bo_closeBlock_13 rfl, ?_⟩
  refine ⟨so_aloadn d_Bo_closeBlock_14 rfl rfl, ?_⟩
  refine ⟨so_getr (ci := 2) (k := 2) rfl (by decide) rfl rfl fl_Bo_18 d_Bo_closeBlock_15 rfl, ?_⟩
  refine ⟨so_iloadn d_Bo_closeBlock_18 rfl rfl, ?_⟩
  refine ⟨so_iloadn d_Bo_closeBlock_19 rfl rfl, ?_⟩
  refine ⟨so_iast d_Bo_closeBlock_20 rfl, ?_⟩
  refine ⟨so_iloadn d_Bo_closeBlock_21 rfl rfl, ?_⟩
  refine ⟨so_iret d_Bo_closeBlock_22 rfl, ?_⟩
  exact trivial
theorem d_Bo_clear_0 : decode prog_2_method_2_code 0 = .ok (.aload_n 0, 1) := by decide +kernel
theorem d_Bo_clear_1 : decode prog_2_method_2_code 1 = .ok (.iconst 0, 1) := by decide +kernel
theorem d_Bo_clear_2 : decode prog_2_method_2_code 2 = .ok (.putfield 24, 3) := by decide +kernel
theorem d_Bo_clear_5 : decode prog_2_method_2_code 5 = .ok (.return_, 1) := by decide +kernel
def tb_Bo_clear : List pm_I := [
  pm_aload 1 0,
  pm_const 2 0,
  pm_puti 3 2 4,
  pm_vret]
def bp_Bo_clear : List Nat := [0, 1, 2, 5]
set_option maxRecDepth 100000 in
theorem sd_Bo_clear : pm_Sl prog_2_method_2_code 1 R_Bo "clear" (none) pm_Y (pm_b bp_Bo_clear) 0 tb_Bo_clear := by
  refine ⟨so_aloadn d_Bo_clear_0 rfl rfl, ?_⟩
  refine ⟨so_const1 d_Bo_clear_1 (by decide) rfl, ?_⟩
  refine ⟨so_puti (ci := 2) (k := 4) rfl (by decide) rfl rfl (Or.inl ⟨rfl, fl_Bo_24⟩) d_Bo_clear_2 rfl, ?_⟩
  refine ⟨so_vret d_Bo_clear_5 rfl, ?_⟩
  exact trivial
theorem d_Rl_init_0 : decode prog_5_method_1_code 0 = .ok (.aload_n 0, 1) := by decide +kernel
theorem d_Rl_init_1 : decode prog_5_method_1_code 1 = .ok (.invokespecial 3, 3) := by decide +kernel
theorem d_Rl_init_4 : decode prog_5_method_1_code 4 = .ok (.aload_n 0, 1) := by decide +kernel
theorem d_Rl_init_5 : decode prog_5_method_1_code 5 = .ok (.sipush 256, 3) := by decide +kernel
theorem d_Rl_init_8 : decode prog_5_method_1_code 8 = .ok (.newarray .int, 2) := by decide +kernel
theorem d_Rl_init_10 : decode prog_5_method_1_code 10 = .ok (.putfield 9, 3) := by decide +kernel
theorem d_Rl_init_13 : decode prog_5_method_1_code 13 = .ok (.return_, 1) := by decide +kernel
def tb_Rl_init : List pm_I := [
  pm_aload 1 0,
  pm_oinit 2,
  pm_aload 3 0,
  pm_const 4 256,
  pm_newa 5 0,
  pm_putr 6 4 0,
  pm_vret]
def bp_Rl_init : List Nat := [0, 1, 4, 5, 8, 10, 13]
set_option maxRecDepth 100000 in
theorem sd_Rl_init : pm_Sl prog_5_method_1_code 1 R_Rl "<init>" (none) pm_Y (pm_b bp_Rl_init) 0 tb_Rl_init := by
  refine ⟨so_aloadn d_Rl_init_0 rfl rfl, ?_⟩
  refine ⟨so_oinit (pm_in1 (List.mem_append_left _ (List.mem_of_getElem? (i := 97) rfl))) (pm_in1 (List.mem_append_left _ (List.mem_of_getElem? (i := 19) rfl))) (pm_in1 (List.mem_append_left _ (List.mem_of_getElem? (i := 20) rfl))) d_Rl_init_1 rfl, ?_⟩
  refine ⟨so_aloadn d_Rl_init_4 rfl rfl, ?_⟩
  refine ⟨so_const3 d_Rl_init_5 (by decide) rfl, ?_⟩
  refine ⟨so_newi d_Rl_init_8 rfl, ?_⟩
  refine ⟨so_putr (ci := 4) (k := 0) rfl (by decide) rfl rfl (Or.inr ⟨rfl, rfl, rfl, pm_in1 (List.mem_append_left _ (List.mem_of_getElem? (i := 98) rfl))⟩) d_Rl_init_10 rfl, ?_⟩
  refine ⟨so_vret d_Rl_init_13 rfl, ?_⟩
  exact trivial
theorem d_Rl_clear_0 : decode prog_5_method_2_code 0 = .ok (.aload_n 0, 1) := by decide +kernel
theorem d_Rl_clear_1 : decode prog_5_method_2_code 1 = .ok (.iconst 0, 1) := by decide +kernel
theorem d_Rl_clear_2 : decode prog_5_method_2_code 2 = .ok (.putfield 15, 3) := by decide +kernel
theorem d_Rl_clear_5 : decode prog_5_method_2_code 5 = .ok (.return_, 1) := by decide +kernel
def tb_Rl_clear : List pm_I := [
  pm_aload 1 0,
  pm_const 2 0,
  pm_puti 3 4 1,
  pm_vret]
def bp_Rl_clear : List Nat := [0, 1, 2, 5]
set_option maxRecDepth 100000 in
theorem sd_Rl_clear : pm_Sl prog_5_method_2_code 1 R_Rl "clear" (none) pm_Y (pm_b bp_Rl_clear) 0 tb_Rl_clear := by
  refine ⟨so_aloadn d_Rl_clear_0 rfl rfl, ?_⟩
  refine ⟨so_const1 d_Rl_clear_1 (by decide) rfl, ?_⟩
  refine ⟨so_puti (ci := 4) (k := 1) rfl (by decide) rfl rfl (Or.inl ⟨rfl, fl_Rl_15⟩) d_Rl_clear_2 rfl, ?_⟩
  refine ⟨so_vret d_Rl_clear_5 rfl, ?_⟩
  exact trivial
theorem d_Rl_add_0 : decode prog_5_method_3_code 0 = .ok (.aload_n 0, 1) := by decide +kernel
theorem d_Rl_add_1 : decode prog_5_method_3_code 1 = .ok (.getfield 15, 3) := by decide +kernel
theorem d_Rl_add_4 : decode prog_5_method_3_code 4 = .ok (.bipush 64, 2) := by decide +kernel
theorem d_Rl_add_6 : decode prog_5_method_3_code 6 = .ok (.if_icmp .ge 58, 3) := by decide +kernel
theorem d_Rl_add_9 : decode prog_5_method_3_code 9 = .ok (.aload_n 0, 1) := by decide +kernel
theorem d_Rl_add_10 : decode prog_5_method_3_code 10 = .ok (.getfield 15, 3) := by decide +kernel
theorem d_Rl_add_13 : decode prog_5_method_3_code 13 = .ok (.iconst 4, 1) := by decide +kernel
theorem d_Rl_add_14 : decode prog_5_method_3_code 14 = .ok (.imul, 1) := by decide +kernel
theorem d_Rl_add_15 : decode prog_5_method_3_code 15 = .ok (.istore 5, 2) := by decide +kernel
theorem d_Rl_add_17 : decode prog_5_method_3_code 17 = .ok (.aload_n 0, 1) := by decide +kernel
theorem d_Rl_add_18 : decode prog_5_method_3_code 18 = .ok (.getfield 9, 3) := by decide +kernel
theorem d_Rl_add_21 : decode prog_5_method_3_code 21 = .ok (.iload 5, 2) := by decide +kernel
theorem d_Rl_add_23 : decode prog_5_method_3_code 23 = .ok (.iload_n 1, 1) := by decide +kernel
theorem d_Rl_add_24 : decode prog_5_method_3_code 24 = .ok (.iastore, 1) := by decide +kernel
theorem d_Rl_add_25 : decode prog_5_method_3_code 25 = .ok (.aload_n 0, 1) := by decide +kernel
theorem d_Rl_add_26 : decode prog_5_method_3_code 26 = .ok (.getfield 9, 3) := by decide +kernel
theorem d_Rl_add_29 : decode prog_5_method_3_code 29 = .ok (.iload 5, 2) := by decide +kernel
theorem d_Rl_add_31 : decode prog_5_method_3_code 31 = .ok (.iconst 1, 1) := by decide +kernel
theorem d_Rl_add_32 : decode prog_5_method_3_code 32 = .ok (.iadd, 1) := by decide +kernel
theorem d_Rl_add_33 : decode prog_5_method_3_code 33 = .ok (.iload_n 2, 1) := by decide +kernel
theorem d_Rl_add_34 : decode prog_5_method_3_code 34 = .ok (.iastore, 1) := by decide +kernel
theorem d_Rl_add_35 : decode prog_5_method_3_code 35 = .ok (.aload_n 0, 1) := by decide +kernel
theorem d_Rl_add_36 : decode prog_5_method_3_code 36 = .ok (.getfield 9, 3) := by decide +kernel
theorem d_Rl_add_39 : decode prog_5_method_3_code 39 = .ok (.iload 5, 2) := by decide +kernel
theorem d_Rl_add_41 : decode prog_5_method_3_code 41 = .ok (.iconst 2, 1) := by decide +kernel
theorem d_Rl_add_42 : decode prog_5_method_3_code 42 = .ok (.iadd, 1) := by decide +kernel
theorem d_Rl_add_43 : decode prog_5_method_3_code 43 = .ok (.iload_n 3, 1) := by decide +kernel
theorem d_Rl_add_44 : decode prog_5_method_3_code 44 = .ok (.iastore, 1) := by decide +kernel
theorem d_Rl_add_45 : decode prog_5_method_3_code 45 = .ok (.aload_n 0, 1) := by decide +kernel
theorem d_Rl_add_46 : decode prog_5_method_3_code 46 = .ok (.getfield 9, 3) := by decide +kernel
theorem d_Rl_add_49 : decode prog_5_method_3_code 49 = .ok (.iload 5, 2) := by decide +kernel
theorem d_Rl_add_51 : decode prog_5_method_3_code 51 = .ok (.iconst 3, 1) := by decide +kernel
theorem d_Rl_add_52 : decode prog_5_method_3_code 52 = .ok (.iadd, 1) := by decide +kernel
theorem d_Rl_add_53 : decode prog_5_method_3_code 53 = .ok (.iload 4, 2) := by decide +kernel
theorem d_Rl_add_55 : decode prog_5_method_3_code 55 = .ok (.ifCond .eq 7, 3) := by decide +kernel
theorem d_Rl_add_58 : decode prog_5_method_3_code 58 = .ok (.iconst 1, 1) := by decide +kernel
theorem d_Rl_add_59 : decode prog_5_method_3_code 59 = .ok (.goto 4, 3) := by decide +kernel
theorem d_Rl_add_62 : decode prog_5_method_3_code 62 = .ok (.iconst 0, 1) := by decide +kernel
theorem d_Rl_add_63 : decode prog_5_method_3_code 63 = .ok (.iastore, 1) := by decide +kernel
theorem d_Rl_add_64 : decode prog_5_method_3_code 64 = .ok (.aload_n 0, 1) := by decide +kernel
theorem d_Rl_add_65 : decode prog_5_method_3_code 65 = .ok (.dup, 1) := by decide +kernel
theorem d_Rl_add_66 : decode prog_5_method_3_code 66 = .ok (.getfield 15, 3) := by decide +kernel
theorem d_Rl_add_69 : decode prog_5_method_3_code 69 = .ok (.iconst 1, 1) := by decide +kernel
theorem d_Rl_add_70 : decode prog_5_method_3_code 70 = .ok (.iadd, 1) := by decide +kernel
theorem d_Rl_add_71 : decode prog_5_method_3_code 71 = .ok (.putfield 15, 3) := by decide +kernel
theorem d_Rl_add_74 : decode prog_5_method_3_code 74 = .ok (.return_, 1) := by decide +kernel
def tb_Rl_add : List pm_I := [
  pm_aload 1 0,
  pm_geti 2 4 1,
  pm_const 3 64,
  pm_icmp 39 4 (fun a b => decide (b ≤ a)),
  pm_aload 5 0,
  pm_geti 6 4 1,
  pm_const 7 4,
  pm_bin 8 (fun a b => a * b),
  pm_istore 9 5,
  pm_aload 10 0,
  pm_getr 11 4 0,
  pm_iload 12 5,
  pm_iload 13 1,
  pm_iast 14,
  pm_aload 15 0,
  pm_getr 16 4 0,
  pm_iload 17 5,
  pm_const 18 1,
  pm_bin 19 (fun a b => a + b),
  pm_iload 20 2,
  pm_iast 21,
  pm_aload 22 0,
  pm_getr 23 4 0,
  pm_iload 24 5,
  pm_const 25 2,
  pm_bin 26 (fun a b => a + b),
  pm_iload 27 3,
  pm_iast 28,
  pm_aload 29 0,
  pm_getr 30 4 0,
  pm_iload 31 5,
  pm_const 32 3,
  pm_bin 33 (fun a b => a + b),
  pm_iload 34 4,
  pm_if 37 35 (fun a => decide (a = 0)),
  pm_const 36 1,
  pm_goto 38,
  pm_const 38 0,
  pm_iast 39,
  pm_aload 40 0,
  pm_dup 41,
  pm_geti 42 4 1,
  pm_const 43 1,
  pm_bin 44 (fun a b => a + b),
  pm_puti 45 4 1,
  pm_vret]
def bp_Rl_add : List Nat := [0, 1, 4, 6, 9, 10, 13, 14, 15, 17, 18, 21, 23, 24, 25, 26, 29, 31, 32, 33, 34, 35, 36, 39, 41, 42, 43, 44, 45, 46, 49, 51, 52, 53, 55, 58, 59, 62, 63, 64, 65, 66, 69, 70, 71, 74]
set_option maxRecDepth 100000 in
theorem sd_Rl_add : pm_Sl prog_5_method_3_code 6 R_Rl "add" (none) pm_Y (pm_b bp_Rl_add) 0 tb_Rl_add := by
  refine ⟨so_aloadn d_Rl_add_0 rfl rfl, ?_⟩
  refine ⟨so_geti (ci := 4) (k := 1) rfl (by decide) rfl rfl fl_Rl_15 d_Rl_add_1 rfl, ?_⟩
  refine ⟨so_const2 d_Rl_add_4 (by decide) rfl, ?_⟩
  refine ⟨so_icmp_ge d_Rl_add_6 rfl rfl, ?_⟩
  refine ⟨so_aloadn d_Rl_add_9 rfl rfl, ?_⟩
  refine ⟨so_geti (ci := 4) (k := 1) rfl (by decide) rfl rfl fl_Rl_15 d_Rl_add_10 rfl, ?_⟩
  refine ⟨so_const1 d_Rl_add_13 (by decide) rfl, ?_⟩
  refine ⟨so_imul d_Rl_add_14 rfl, ?_⟩
  refine ⟨so_istore d_Rl_add_15 (by decide) rfl, ?_⟩
  refine ⟨so_aloadn d_Rl_add_17 rfl rfl, ?_⟩
  refine ⟨so_getr (ci := 4) (k := 0) rfl (by decide) rfl rfl fl_Rl_9 d_Rl_add_18 rfl, ?_⟩
  refine ⟨so_iload d_Rl_add_21 rfl, ?_⟩
  refine ⟨so_iloadn d_Rl_add_23 rfl rfl, ?_⟩
  refine ⟨so_iast d_Rl_add_24 rfl, ?_⟩
  refine ⟨so_aloadn d_Rl_add_25 rfl rfl, ?_⟩
  refine ⟨so_getr (ci := 4) (k := 0) rfl (by decide) rfl rfl fl_Rl_9 d_Rl_add_26 rfl, ?_⟩
  refine ⟨so_iload d_Rl_add_29 rfl, ?_⟩
  refine ⟨so_const1 d_Rl_add_31 (by decide) rfl, ?_⟩
  refine ⟨so_iadd d_Rl_add_32 rfl, ?_⟩
  refine ⟨so_iloadn d_Rl_add_33 rfl rfl, ?_⟩
  refine ⟨so_iast d_Rl_add_34 rfl, ?_⟩
  refine ⟨so_aloadn d_Rl_add_35 rfl rfl, ?_⟩
  refine ⟨so_getr (ci := 4) (k := 0) rfl (by decide) rfl rfl fl_Rl_9 d_Rl_add_36 rfl, ?_⟩
  refine ⟨so_iload d_Rl_add_39 rfl, ?_⟩
  refine ⟨so_const1 d_Rl_add_41 (by decide) rfl, ?_⟩
  refine ⟨so_iadd d_Rl_add_42 rfl, ?_⟩
  refine ⟨so_iloadn d_Rl_add_43 rfl rfl, ?_⟩
  refine ⟨so_iast d_Rl_add_44 rfl, ?_⟩
  refine ⟨so_aloadn d_Rl_add_45 rfl rfl, ?_⟩
  refine ⟨so_getr (ci := 4) (k := 0) rfl (by decide) rfl rfl fl_Rl_9 d_Rl_add_46 rfl, ?_⟩
  refine ⟨so_iload d_Rl_add_49 rfl, ?_⟩
  refine ⟨so_const1 d_Rl_add_51 (by decide) rfl, ?_⟩
  refine ⟨so_iadd d_Rl_add_52 rfl, ?_⟩
  refine ⟨so_iload d_Rl_add_53 rfl, ?_⟩
  refine ⟨so_if_eq d_Rl_add_55 rfl rfl, ?_⟩
  refine ⟨so_const1 d_Rl_add_58 (by decide) rfl, ?_⟩
  refine ⟨so_goto d_Rl_add_59 rfl, ?_⟩
  refine ⟨so_const1 d_Rl_add_62 (by decide) rfl, ?_⟩
  refine ⟨so_iast d_Rl_add_63 rfl, ?_⟩
  refine ⟨so_aloadn d_Rl_add_64 rfl rfl, ?_⟩
  refine ⟨so_dup d_Rl_add_65 rfl, ?_⟩
  refine ⟨so_geti (ci := 4) (k := 1) rfl (by decide) rfl rfl fl_Rl_15 d_Rl_add_66 rfl, ?_⟩
  refine ⟨so_const1 d_Rl_add_69 (by decide) rfl, ?_⟩
  refine ⟨so_iadd d_Rl_add_70 rfl, ?_⟩
  refine ⟨so_puti (ci := 4) (k := 1) rfl (by decide) rfl rfl (Or.inl ⟨rfl, fl_Rl_15⟩) d_Rl_add_71 rfl, ?_⟩
  refine ⟨so_vret d_Rl_add_74 rfl, ?_⟩
  exact trivial
theorem d_Rl_part_0 : decode prog_5_method_4_code 0 = .ok (.iload_n 1, 1) := by decide +kernel
theorem d_Rl_part_1 : decode prog_5_method_4_code 1 = .ok (.aload_n 0, 1) := by decide +kernel
theorem d_Rl_part_2 : decode prog_5_method_4_code 2 = .ok (.getfield 15, 3) := by decide +kernel
theorem d_Rl_part_5 : decode prog_5_method_4_code 5 = .ok (.bipush 64, 2) := by decide +kernel
theorem d_Rl_part_7 : decode prog_5_method_4_code 7 = .ok (.invokestatic 19, 3) := by decide +kernel
theorem d_Rl_part_10 : decode prog_5_method_4_code 10 = .ok (.invokestatic 25, 3) := by decide +kernel
theorem d_Rl_part_13 : decode prog_5_method_4_code 13 = .ok (.ifCond .eq 15, 3) := by decide +kernel
theorem d_Rl_part_16 : decode prog_5_method_4_code 16 = .ok (.iload_n 2, 1) := by decide +kernel
theorem d_Rl_part_17 : decode prog_5_method_4_code 17 = .ok (.iconst 4, 1) := by decide +kernel
theorem d_Rl_part_18 : decode prog_5_method_4_code 18 = .ok (.invokestatic 25, 3) := by decide +kernel
theorem d_Rl_part_21 : decode prog_5_method_4_code 21 = .ok (.ifCond .eq 7, 3) := by decide +kernel
theorem d_Rl_part_24 : decode prog_5_method_4_code 24 = .ok (.iconst 1, 1) := by decide +kernel
theorem d_Rl_part_25 : decode prog_5_method_4_code 25 = .ok (.goto 4, 3) := by decide +kernel
theorem d_Rl_part_28 : decode prog_5_method_4_code 28 = .ok (.iconst 0, 1) := by decide +kernel
theorem d_Rl_part_29 : decode prog_5_method_4_code 29 = .ok (.istore_n 3, 1) := by decide +kernel
theorem d_Rl_part_30 : decode prog_5_method_4_code 30 = .ok (.iload_n 3, 1) := by decide +kernel
theorem d_Rl_part_31 : decode prog_5_method_4_code 31 = .ok (.ifCond .eq 16, 3) := by decide +kernel
theorem d_Rl_part_34 : decode prog_5_method_4_code 34 = .ok (.aload_n 0, 1) := by decide +kernel
theorem d_Rl_part_35 : decode prog_5_method_4_code 35 = .ok (.getfield 9, 3) := by decide +kernel
theorem d_Rl_part_38 : decode prog_5_method_4_code 38 = .ok (.iload_n 1, 1) := by decide +kernel
theorem d_Rl_part_39 : decode prog_5_method_4_code 39 = .ok (.iconst 4, 1) := by decide +kernel
theorem d_Rl_part_40 : decode prog_5_method_4_code 40 = .ok (.imul, 1) := by decide +kernel
theorem d_Rl_part_41 : decode prog_5_method_4_code 41 = .ok (.iload_n 2, 1) := by decide +kernel
theorem d_Rl_part_42 : decode prog_5_method_4_code 42 = .ok (.iadd, 1) := by decide +kernel
theorem d_Rl_part_43 : decode prog_5_method_4_code 43 = .ok (.iaload, 1) := by decide +kernel
theorem d_Rl_part_44 : decode prog_5_method_4_code 44 = .ok (.goto 4, 3) := by decide +kernel
theorem d_Rl_part_47 : decode prog_5_method_4_code 47 = .ok (.iconst (-1), 1) := by decide +kernel
theorem d_Rl_part_48 : decode prog_5_method_4_code 48 = .ok (.ireturn, 1) := by decide +kernel
def tb_Rl_part : List pm_I := [
  pm_iload 1 1,
  pm_aload 2 0,
  pm_geti 3 4 1,
  pm_const 4 64,
  pm_min 5,
  pm_calls 6 2 2,
  pm_if 13 7 (fun a => decide (a = 0)),
  pm_iload 8 2,
  pm_const 9 4,
  pm_calls 10 2 2,
  pm_if 13 11 (fun a => decide (a = 0)),
  pm_const 12 1,
  pm_goto 14,
  pm_const 14 0,
  pm_istore 15 3,
  pm_iload 16 3,
  pm_if 26 17 (fun a => decide (a = 0)),
  pm_aload 18 0,
  pm_getr 19 4 0,
  pm_iload 20 1,
  pm_const 21 4,
  pm_bin 22 (fun a b => a * b),
  pm_iload 23 2,
  pm_bin 24 (fun a b => a + b),
  pm_iald 25 0,
  pm_goto 27,
  pm_const 27 (-1),
  pm_iret]
def bp_Rl_part : List Nat := [0, 1, 2, 5, 7, 10, 13, 16, 17, 18, 21, 24, 25, 28, 29, 30, 31, 34, 35, 38, 39, 40, 41, 42, 43, 44, 47, 48]
set_option maxRecDepth 100000 in
theorem sd_Rl_part : pm_Sl prog_5_method_4_code 4 R_Rl "part" (some .int) pm_Y (pm_b bp_Rl_part) 0 tb_Rl_part := by
  refine ⟨so_iloadn d_Rl_part_0 rfl rfl, ?_⟩
  refine ⟨so_aloadn d_Rl_part_1 rfl rfl, ?_⟩
  refine ⟨so_geti (ci := 4) (k := 1) rfl (by decide) rfl rfl fl_Rl_15 d_Rl_part_2 rfl, ?_⟩
  refine ⟨so_const2 d_Rl_part_5 (by decide) rfl, ?_⟩
  refine ⟨so_min (pm_in1 (List.mem_append_right _ (List.mem_append_left _ (List.mem_of_getElem? (i := 209) rfl)))) (pm_in1 (List.mem_append_right _ (List.mem_append_left _ (List.mem_of_getElem? (i := 210) rfl)))) (pm_in1 (List.mem_append_left _ (List.mem_of_getElem? (i := 11) rfl))) (pm_in1 (List.mem_append_right _ (List.mem_append_left _ (List.mem_of_getElem? (i := 211) rfl)))) d_Rl_part_7 rfl, ?_⟩
  refine ⟨so_calls rfl mc_Lo_isBelow mi_Lo mt_Lo_isBelow ml_Rl_25 yd_Lo_isBelow (by decide) d_Rl_part_10 rfl, ?_⟩
  refine ⟨so_if_eq d_Rl_part_13 rfl rfl, ?_⟩
  refine ⟨so_iloadn d_Rl_part_16 rfl rfl, ?_⟩
  refine ⟨so_const1 d_Rl_part_17 (by decide) rfl, ?_⟩
  refine ⟨so_calls rfl mc_Lo_isBelow mi_Lo mt_Lo_isBelow ml_Rl_25 yd_Lo_isBelow (by decide) d_Rl_part_18 rfl, ?_⟩
  refine ⟨so_if_eq d_Rl_part_21 rfl rfl, ?_⟩
  refine ⟨so_const1 d_Rl_part_24 (by decide) rfl, ?_⟩
  refine ⟨so_goto d_Rl_part_25 rfl, ?_⟩
  refine ⟨so_const1 d_Rl_part_28 (by decide) rfl, ?_⟩
  refine ⟨so_istoren d_Rl_part_29 rfl (by decide) rfl, ?_⟩
  refine ⟨so_iloadn d_Rl_part_30 rfl rfl, ?_⟩
  refine ⟨so_if_eq d_Rl_part_31 rfl rfl, ?_⟩
  refine ⟨so_aloadn d_Rl_part_34 rfl rfl, ?_⟩
  refine ⟨so_getr (ci := 4) (k := 0) rfl (by decide) rfl rfl fl_Rl_9 d_Rl_part_35 rfl, ?_⟩
  refine ⟨so_iloadn d_Rl_part_38 rfl rfl, ?_⟩
  refine ⟨so_const1 d_Rl_part_39 (by decide) rfl, ?_⟩
  refine ⟨so_imul d_Rl_part_40 rfl, ?_⟩
  refine ⟨so_iloadn d_Rl_part_41 rfl rfl, ?_⟩
  refine ⟨so_iadd d_Rl_part_42 rfl, ?_⟩
  refine ⟨so_iald d_Rl_part_43 rfl, ?_⟩
  refine ⟨so_goto d_Rl_part_44 rfl, ?_⟩
  refine ⟨so_const1 d_Rl_part_47 (by decide) rfl, ?_⟩
  refine ⟨so_iret d_Rl_part_48 rfl, ?_⟩
  exact trivial
theorem d_Ar_fill_0 : decode prog_13_method_103_code 0 = .ok (.iconst 0, 1) := by decide +kernel
theorem d_Ar_fill_1 : decode prog_13_method_103_code 1 = .ok (.istore_n 2, 1) := by decide +kernel
theorem d_Ar_fill_2 : decode prog_13_method_103_code 2 = .ok (.aload_n 0, 1) := by decide +kernel
theorem d_Ar_fill_3 : decode prog_13_method_103_code 3 = .ok (.arraylength, 1) := by decide +kernel
theorem d_Ar_fill_4 : decode prog_13_method_103_code 4 = .ok (.istore_n 3, 1) := by decide +kernel
theorem d_Ar_fill_5 : decode prog_13_method_103_code 5 = .ok (.iload_n 2, 1) := by decide +kernel
theorem d_Ar_fill_6 : decode prog_13_method_103_code 6 = .ok (.iload_n 3, 1) := by decide +kernel
theorem d_Ar_fill_7 : decode prog_13_method_103_code 7 = .ok (.if_icmp .ge 13, 3) := by decide +kernel
theorem d_Ar_fill_10 : decode prog_13_method_103_code 10 = .ok (.aload_n 0, 1) := by decide +kernel
theorem d_Ar_fill_11 : decode prog_13_method_103_code 11 = .ok (.iload_n 2, 1) := by decide +kernel
theorem d_Ar_fill_12 : decode prog_13_method_103_code 12 = .ok (.iload_n 1, 1) := by decide +kernel
theorem d_Ar_fill_13 : decode prog_13_method_103_code 13 = .ok (.iastore, 1) := by decide +kernel
theorem d_Ar_fill_14 : decode prog_13_method_103_code 14 = .ok (.iinc 2 1, 3) := by decide +kernel
theorem d_Ar_fill_17 : decode prog_13_method_103_code 17 = .ok (.goto (-12), 3) := by decide +kernel
theorem d_Ar_fill_20 : decode prog_13_method_103_code 20 = .ok (.return_, 1) := by decide +kernel
def tb_Ar_fill : List pm_I := [
  pm_const 1 0,
  pm_istore 2 2,
  pm_aload 3 0,
  pm_alen 4 0,
  pm_istore 5 3,
  pm_iload 6 2,
  pm_iload 7 3,
  pm_icmp 14 8 (fun a b => decide (b ≤ a)),
  pm_aload 9 0,
  pm_iload 10 2,
  pm_iload 11 1,
  pm_iast 12,
  pm_iinc 13 2 1,
  pm_goto 5,
  pm_vret]
def bp_Ar_fill : List Nat := [0, 1, 2, 3, 4, 5, 6, 7, 10, 11, 12, 13, 14, 17, 20]
set_option maxRecDepth 100000 in
theorem sd_Ar_fill : pm_Sl prog_13_method_103_code 4 R_Ar "fill" (none) pm_Y (pm_b bp_Ar_fill) 0 tb_Ar_fill := by
  refine ⟨so_const1 d_Ar_fill_0 (by decide) rfl, ?_⟩
  refine ⟨so_istoren d_Ar_fill_1 rfl (by decide) rfl, ?_⟩
  refine ⟨so_aloadn d_Ar_fill_2 rfl rfl, ?_⟩
  refine ⟨so_alen rfl (by decide) d_Ar_fill_3 rfl, ?_⟩
  refine ⟨so_istoren d_Ar_fill_4 rfl (by decide) rfl, ?_⟩
  refine ⟨so_iloadn d_Ar_fill_5 rfl rfl, ?_⟩
  refine ⟨so_iloadn d_Ar_fill_6 rfl rfl, ?_⟩
  refine ⟨so_icmp_ge d_Ar_fill_7 rfl rfl, ?_⟩
  refine ⟨so_aloadn d_Ar_fill_10 rfl rfl, ?_⟩
  refine ⟨so_iloadn d_Ar_fill_11 rfl rfl, ?_⟩
  refine ⟨so_iloadn d_Ar_fill_12 rfl rfl, ?_⟩
  refine ⟨so_iast d_Ar_fill_13 rfl, ?_⟩
  refine ⟨so_iinc d_Ar_fill_14 (by decide) (by decide) rfl, ?_⟩
  refine ⟨so_goto d_Ar_fill_17 rfl, ?_⟩
  refine ⟨so_vret d_Ar_fill_20 rfl, ?_⟩
  exact trivial
end
