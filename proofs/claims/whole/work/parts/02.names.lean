theorem pm_in1 {w : Cond} (h : w ∈ tables_1_1 ++ (tables_1_2 ++ tables_1_3)) : w ∈ lw_tbl := List.mem_append_right _ h
theorem pm_in0 {w : Cond} (h : w ∈ k2_sels lw_privs) : w ∈ lw_tbl := List.mem_append_left _ h
def pm_gd (w : Cond) : Bool := w.onTables && w.keepsH
abbrev R_Lo : String := "LockLoom"
abbrev R_Sh : String := "LockLoom$Shelf"
abbrev R_Bo : String := "LockLoom$Body"
abbrev R_Ru : String := "LockLoom$Run"
abbrev R_Rl : String := "LockLoom$RaceLog"
abbrev R_Sd : String := "LockLoom$Strand"
abbrev R_Lk : String := "LockLoom$Lock"
abbrev R_Ce : String := "LockLoom$Cell"
abbrev R_Mo : String := "LockLoomModel"
abbrev R_Ar : String := "java/util/Arrays"
abbrev R_Law : String := "LockLoomLaw"
def T_Lo : u_T := fun k => match k with
  | 0 => ("LockLoom", "shelf", "LLockLoom$Shelf;", true)
  | _ => ("LockLoom", "run", "LLockLoom$Run;", true)
def T_Sh : u_T := fun k => match k with
  | 0 => ("LockLoom$Shelf", "bodies", "[LLockLoom$Body;", true)
  | 1 => ("LockLoom$Shelf", "guards", "[I", true)
  | 2 => ("LockLoom$Shelf", "text", "LLockLoom$Body;", false)
  | _ => ("LockLoom$Shelf", "bodyCount", "I", false)
def T_Bo : u_T := fun k => match k with
  | 0 => ("LockLoom$Body", "kinds", "[I", true)
  | 1 => ("LockLoom$Body", "numbers", "[I", true)
  | 2 => ("LockLoom$Body", "partners", "[I", true)
  | 3 => ("LockLoom$Body", "held", "[I", true)
  | 4 => ("LockLoom$Body", "size", "I", false)
  | _ => ("LockLoom$Body", "requires", "I", false)
def T_Ru : u_T := fun k => match k with
  | 0 => ("LockLoom$Run", "shelf", "LLockLoom$Shelf;", true)
  | 1 => ("LockLoom$Run", "strands", "[LLockLoom$Strand;", true)
  | 2 => ("LockLoom$Run", "locks", "[LLockLoom$Lock;", true)
  | 3 => ("LockLoom$Run", "cells", "[LLockLoom$Cell;", true)
  | 4 => ("LockLoom$Run", "raceLog", "LLockLoom$RaceLog;", true)
  | 5 => ("LockLoom$Run", "strandCount", "I", false)
  | _ => ("LockLoom$Run", "steps", "I", false)
def T_Rl : u_T := fun k => match k with
  | 0 => ("LockLoom$RaceLog", "parts", "[I", true)
  | _ => ("LockLoom$RaceLog", "total", "I", false)
def T_Sd : u_T := fun k => match k with
  | 0 => ("LockLoom$Strand", "number", "I", true)
  | 1 => ("LockLoom$Strand", "bodies", "[I", true)
  | 2 => ("LockLoom$Strand", "places", "[I", true)
  | 3 => ("LockLoom$Strand", "clock", "[I", true)
  | 4 => ("LockLoom$Strand", "depth", "I", false)
  | _ => ("LockLoom$Strand", "value", "I", false)
def T_Lk : u_T := fun k => match k with
  | 0 => ("LockLoom$Lock", "clock", "[I", true)
  | 1 => ("LockLoom$Lock", "holder", "I", false)
  | _ => ("LockLoom$Lock", "times", "I", false)
def T_Ce : u_T := fun k => match k with
  | 0 => ("LockLoom$Cell", "reads", "[I", true)
  | 1 => ("LockLoom$Cell", "writes", "[I", true)
  | _ => ("LockLoom$Cell", "value", "I", false)
def T_Mo : u_T := fun k => match k with
  | 0 => ("LockLoomModel", "kinds", "[I", true)
  | 1 => ("LockLoomModel", "numbers", "[I", true)
  | 2 => ("LockLoomModel", "sizes", "[I", true)
  | 3 => ("LockLoomModel", "required", "[I", true)
  | 4 => ("LockLoomModel", "bodies", "I", false)
  | 5 => ("LockLoomModel", "guards", "[I", true)
  | 6 => ("LockLoomModel", "runs", "Z", false)
  | 7 => ("LockLoomModel", "cells", "[I", true)
  | 8 => ("LockLoomModel", "owner", "[I", true)
  | 9 => ("LockLoomModel", "times", "[I", true)
  | 10 => ("LockLoomModel", "freed", "[I", true)
  | 11 => ("LockLoomModel", "threads", "I", false)
  | 12 => ("LockLoomModel", "has", "[I", true)
  | 13 => ("LockLoomModel", "depth", "[I", true)
  | 14 => ("LockLoomModel", "inBody", "[I", true)
  | 15 => ("LockLoomModel", "places", "[I", true)
  | 16 => ("LockLoomModel", "latest", "[I", true)
  | 17 => ("LockLoomModel", "steps", "I", false)
  | 18 => ("LockLoomModel", "ahead", "[I", true)
  | 19 => ("LockLoomModel", "other", "[I", true)
  | 20 => ("LockLoomModel", "access", "[I", true)
  | 21 => ("LockLoomModel", "before", "[Z", true)
  | 22 => ("LockLoomModel", "races", "I", false)
  | _ => ("LockLoomModel", "racing", "[I", true)
/-- the types of an array's elements, of an object's fields -/
def pm_ft (t : Nat) : Nat → FieldType := match t with
  | 0 => fun _ => .int
  | 1 => fun _ => .boolean
  | 2 => fun _ => .object "LockLoom$Body"
  | 3 => fun _ => .object "LockLoom$Strand"
  | 4 => fun _ => .object "LockLoom$Lock"
  | 5 => fun _ => .object "LockLoom$Cell"
  | 16 => fun k => match k with
    | 0 => .object "LockLoom$Shelf"
    | _ => .object "LockLoom$Run"
  | 17 => fun k => match k with
    | 0 => .array (.object "LockLoom$Body")
    | 1 => .array (.int)
    | 2 => .object "LockLoom$Body"
    | _ => .int
  | 18 => fun k => match k with
    | 0 => .array (.int)
    | 1 => .array (.int)
    | 2 => .array (.int)
    | 3 => .array (.int)
    | 4 => .int
    | _ => .int
  | 19 => fun k => match k with
    | 0 => .object "LockLoom$Shelf"
    | 1 => .array (.object "LockLoom$Strand")
    | 2 => .array (.object "LockLoom$Lock")
    | 3 => .array (.object "LockLoom$Cell")
    | 4 => .object "LockLoom$RaceLog"
    | 5 => .int
    | _ => .int
  | 20 => fun k => match k with
    | 0 => .array (.int)
    | _ => .int
  | 21 => fun k => match k with
    | 0 => .int
    | 1 => .array (.int)
    | 2 => .array (.int)
    | 3 => .array (.int)
    | 4 => .int
    | _ => .int
  | 22 => fun k => match k with
    | 0 => .array (.int)
    | 1 => .int
    | _ => .int
  | 23 => fun k => match k with
    | 0 => .array (.int)
    | 1 => .array (.int)
    | _ => .int
  | 24 => fun k => match k with
    | 0 => .array (.int)
    | 1 => .array (.int)
    | 2 => .array (.int)
    | 3 => .array (.int)
    | 4 => .int
    | 5 => .array (.int)
    | 6 => .boolean
    | 7 => .array (.int)
    | 8 => .array (.int)
    | 9 => .array (.int)
    | 10 => .array (.int)
    | 11 => .int
    | 12 => .array (.int)
    | 13 => .array (.int)
    | 14 => .array (.int)
    | 15 => .array (.int)
    | 16 => .array (.int)
    | 17 => .int
    | 18 => .array (.int)
    | 19 => .array (.int)
    | 20 => .array (.int)
    | 21 => .array (.boolean)
    | 22 => .int
    | _ => .array (.int)
  | _ => fun _ => .int
def pm_tg : List FieldType := [.int, .boolean, .object "LockLoom$Body", .object "LockLoom$Strand", .object "LockLoom$Lock", .object "LockLoom$Cell"]
abbrev vwCl : List vw_C := [(R_Lo, T_Lo, 2), (R_Sh, T_Sh, 4), (R_Bo, T_Bo, 6), (R_Ru, T_Ru, 7), (R_Rl, T_Rl, 2), (R_Sd, T_Sd, 6), (R_Lk, T_Lk, 3), (R_Ce, T_Ce, 3), (R_Mo, T_Mo, 24)]
theorem lay_Lo_0 : u_lay R_Lo T_Lo 0 ∈ lw_tbl ∧ pm_gd (u_lay R_Lo T_Lo 0) = true := ⟨pm_in1 (List.mem_append_left _ (List.mem_of_getElem? (i := 196) rfl)), rfl⟩
theorem lay_Lo_1 : u_lay R_Lo T_Lo 1 ∈ lw_tbl ∧ pm_gd (u_lay R_Lo T_Lo 1) = true := ⟨pm_in1 (List.mem_append_left _ (List.mem_of_getElem? (i := 198) rfl)), rfl⟩
theorem lay_Sh_0 : u_lay R_Sh T_Sh 0 ∈ lw_tbl ∧ pm_gd (u_lay R_Sh T_Sh 0) = true := ⟨pm_in1 (List.mem_append_left _ (List.mem_of_getElem? (i := 71) rfl)), rfl⟩
theorem lay_Sh_1 : u_lay R_Sh T_Sh 1 ∈ lw_tbl ∧ pm_gd (u_lay R_Sh T_Sh 1) = true := ⟨pm_in1 (List.mem_append_left _ (List.mem_of_getElem? (i := 73) rfl)), rfl⟩
theorem lay_Sh_2 : u_lay R_Sh T_Sh 2 ∈ lw_tbl ∧ pm_gd (u_lay R_Sh T_Sh 2) = true := ⟨pm_in1 (List.mem_append_left _ (List.mem_of_getElem? (i := 75) rfl)), rfl⟩
theorem lay_Sh_3 : u_lay R_Sh T_Sh 3 ∈ lw_tbl ∧ pm_gd (u_lay R_Sh T_Sh 3) = true := ⟨pm_in1 (List.mem_append_left _ (List.mem_of_getElem? (i := 77) rfl)), rfl⟩
theorem lay_Bo_0 : u_lay R_Bo T_Bo 0 ∈ lw_tbl ∧ pm_gd (u_lay R_Bo T_Bo 0) = true := ⟨pm_in1 (List.mem_append_left _ (List.mem_of_getElem? (i := 49) rfl)), rfl⟩
theorem lay_Bo_1 : u_lay R_Bo T_Bo 1 ∈ lw_tbl ∧ pm_gd (u_lay R_Bo T_Bo 1) = true := ⟨pm_in1 (List.mem_append_left _ (List.mem_of_getElem? (i := 51) rfl)), rfl⟩
theorem lay_Bo_2 : u_lay R_Bo T_Bo 2 ∈ lw_tbl ∧ pm_gd (u_lay R_Bo T_Bo 2) = true := ⟨pm_in1 (List.mem_append_left _ (List.mem_of_getElem? (i := 53) rfl)), rfl⟩
theorem lay_Bo_3 : u_lay R_Bo T_Bo 3 ∈ lw_tbl ∧ pm_gd (u_lay R_Bo T_Bo 3) = true := ⟨pm_in1 (List.mem_append_left _ (List.mem_of_getElem? (i := 55) rfl)), rfl⟩
theorem lay_Bo_4 : u_lay R_Bo T_Bo 4 ∈ lw_tbl ∧ pm_gd (u_lay R_Bo T_Bo 4) = true := ⟨pm_in1 (List.mem_append_left _ (List.mem_of_getElem? (i := 57) rfl)), rfl⟩
theorem lay_Bo_5 : u_lay R_Bo T_Bo 5 ∈ lw_tbl ∧ pm_gd (u_lay R_Bo T_Bo 5) = true := ⟨pm_in1 (List.mem_append_left _ (List.mem_of_getElem? (i := 59) rfl)), rfl⟩
theorem lay_Ru_0 : u_lay R_Ru T_Ru 0 ∈ lw_tbl ∧ pm_gd (u_lay R_Ru T_Ru 0) = true := ⟨pm_in1 (List.mem_append_left _ (List.mem_of_getElem? (i := 179) rfl)), rfl⟩
theorem lay_Ru_1 : u_lay R_Ru T_Ru 1 ∈ lw_tbl ∧ pm_gd (u_lay R_Ru T_Ru 1) = true := ⟨pm_in1 (List.mem_append_left _ (List.mem_of_getElem? (i := 181) rfl)), rfl⟩
theorem lay_Ru_2 : u_lay R_Ru T_Ru 2 ∈ lw_tbl ∧ pm_gd (u_lay R_Ru T_Ru 2) = true := ⟨pm_in1 (List.mem_append_left _ (List.mem_of_getElem? (i := 183) rfl)), rfl⟩
theorem lay_Ru_3 : u_lay R_Ru T_Ru 3 ∈ lw_tbl ∧ pm_gd (u_lay R_Ru T_Ru 3) = true := ⟨pm_in1 (List.mem_append_left _ (List.mem_of_getElem? (i := 185) rfl)), rfl⟩
theorem lay_Ru_4 : u_lay R_Ru T_Ru 4 ∈ lw_tbl ∧ pm_gd (u_lay R_Ru T_Ru 4) = true := ⟨pm_in1 (List.mem_append_left _ (List.mem_of_getElem? (i := 187) rfl)), rfl⟩
theorem lay_Ru_5 : u_lay R_Ru T_Ru 5 ∈ lw_tbl ∧ pm_gd (u_lay R_Ru T_Ru 5) = true := ⟨pm_in1 (List.mem_append_left _ (List.mem_of_getElem? (i := 189) rfl)), rfl⟩
theorem lay_Ru_6 : u_lay R_Ru T_Ru 6 ∈ lw_tbl ∧ pm_gd (u_lay R_Ru T_Ru 6) = true := ⟨pm_in1 (List.mem_append_left _ (List.mem_of_getElem? (i := 191) rfl)), rfl⟩
theorem lay_Rl_0 : u_lay R_Rl T_Rl 0 ∈ lw_tbl ∧ pm_gd (u_lay R_Rl T_Rl 0) = true := ⟨pm_in1 (List.mem_append_left _ (List.mem_of_getElem? (i := 101) rfl)), rfl⟩
theorem lay_Rl_1 : u_lay R_Rl T_Rl 1 ∈ lw_tbl ∧ pm_gd (u_lay R_Rl T_Rl 1) = true := ⟨pm_in1 (List.mem_append_left _ (List.mem_of_getElem? (i := 103) rfl)), rfl⟩
theorem lay_Sd_0 : u_lay R_Sd T_Sd 0 ∈ lw_tbl ∧ pm_gd (u_lay R_Sd T_Sd 0) = true := ⟨pm_in1 (List.mem_append_left _ (List.mem_of_getElem? (i := 125) rfl)), rfl⟩
theorem lay_Sd_1 : u_lay R_Sd T_Sd 1 ∈ lw_tbl ∧ pm_gd (u_lay R_Sd T_Sd 1) = true := ⟨pm_in1 (List.mem_append_left _ (List.mem_of_getElem? (i := 127) rfl)), rfl⟩
theorem lay_Sd_2 : u_lay R_Sd T_Sd 2 ∈ lw_tbl ∧ pm_gd (u_lay R_Sd T_Sd 2) = true := ⟨pm_in1 (List.mem_append_left _ (List.mem_of_getElem? (i := 129) rfl)), rfl⟩
theorem lay_Sd_3 : u_lay R_Sd T_Sd 3 ∈ lw_tbl ∧ pm_gd (u_lay R_Sd T_Sd 3) = true := ⟨pm_in1 (List.mem_append_left _ (List.mem_of_getElem? (i := 131) rfl)), rfl⟩
theorem lay_Sd_4 : u_lay R_Sd T_Sd 4 ∈ lw_tbl ∧ pm_gd (u_lay R_Sd T_Sd 4) = true := ⟨pm_in1 (List.mem_append_left _ (List.mem_of_getElem? (i := 133) rfl)), rfl⟩
theorem lay_Sd_5 : u_lay R_Sd T_Sd 5 ∈ lw_tbl ∧ pm_gd (u_lay R_Sd T_Sd 5) = true := ⟨pm_in1 (List.mem_append_left _ (List.mem_of_getElem? (i := 135) rfl)), rfl⟩
theorem lay_Lk_0 : u_lay R_Lk T_Lk 0 ∈ lw_tbl ∧ pm_gd (u_lay R_Lk T_Lk 0) = true := ⟨pm_in1 (List.mem_append_left _ (List.mem_of_getElem? (i := 147) rfl)), rfl⟩
theorem lay_Lk_1 : u_lay R_Lk T_Lk 1 ∈ lw_tbl ∧ pm_gd (u_lay R_Lk T_Lk 1) = true := ⟨pm_in1 (List.mem_append_left _ (List.mem_of_getElem? (i := 149) rfl)), rfl⟩
theorem lay_Lk_2 : u_lay R_Lk T_Lk 2 ∈ lw_tbl ∧ pm_gd (u_lay R_Lk T_Lk 2) = true := ⟨pm_in1 (List.mem_append_left _ (List.mem_of_getElem? (i := 151) rfl)), rfl⟩
theorem lay_Ce_0 : u_lay R_Ce T_Ce 0 ∈ lw_tbl ∧ pm_gd (u_lay R_Ce T_Ce 0) = true := ⟨pm_in1 (List.mem_append_left _ (List.mem_of_getElem? (i := 165) rfl)), rfl⟩
theorem lay_Ce_1 : u_lay R_Ce T_Ce 1 ∈ lw_tbl ∧ pm_gd (u_lay R_Ce T_Ce 1) = true := ⟨pm_in1 (List.mem_append_left _ (List.mem_of_getElem? (i := 167) rfl)), rfl⟩
theorem lay_Ce_2 : u_lay R_Ce T_Ce 2 ∈ lw_tbl ∧ pm_gd (u_lay R_Ce T_Ce 2) = true := ⟨pm_in1 (List.mem_append_left _ (List.mem_of_getElem? (i := 169) rfl)), rfl⟩
theorem lay_Mo_0 : u_lay R_Mo T_Mo 0 ∈ lw_tbl ∧ pm_gd (u_lay R_Mo T_Mo 0) = true := ⟨pm_in1 (List.mem_append_right _ (List.mem_append_right _ (List.mem_of_getElem? (i := 12) rfl))), rfl⟩
theorem lay_Mo_1 : u_lay R_Mo T_Mo 1 ∈ lw_tbl ∧ pm_gd (u_lay R_Mo T_Mo 1) = true := ⟨pm_in1 (List.mem_append_right _ (List.mem_append_right _ (List.mem_of_getElem? (i := 14) rfl))), rfl⟩
theorem lay_Mo_2 : u_lay R_Mo T_Mo 2 ∈ lw_tbl ∧ pm_gd (u_lay R_Mo T_Mo 2) = true := ⟨pm_in1 (List.mem_append_right _ (List.mem_append_right _ (List.mem_of_getElem? (i := 16) rfl))), rfl⟩
theorem lay_Mo_3 : u_lay R_Mo T_Mo 3 ∈ lw_tbl ∧ pm_gd (u_lay R_Mo T_Mo 3) = true := ⟨pm_in1 (List.mem_append_right _ (List.mem_append_right _ (List.mem_of_getElem? (i := 18) rfl))), rfl⟩
theorem lay_Mo_4 : u_lay R_Mo T_Mo 4 ∈ lw_tbl ∧ pm_gd (u_lay R_Mo T_Mo 4) = true := ⟨pm_in1 (List.mem_append_right _ (List.mem_append_right _ (List.mem_of_getElem? (i := 20) rfl))), rfl⟩
theorem lay_Mo_5 : u_lay R_Mo T_Mo 5 ∈ lw_tbl ∧ pm_gd (u_lay R_Mo T_Mo 5) = true := ⟨pm_in1 (List.mem_append_right _ (List.mem_append_right _ (List.mem_of_getElem? (i := 22) rfl))), rfl⟩
theorem lay_Mo_6 : u_lay R_Mo T_Mo 6 ∈ lw_tbl ∧ pm_gd (u_lay R_Mo T_Mo 6) = true := ⟨pm_in1 (List.mem_append_right _ (List.mem_append_right _ (List.mem_of_getElem? (i := 24) rfl))), rfl⟩
theorem lay_Mo_7 : u_lay R_Mo T_Mo 7 ∈ lw_tbl ∧ pm_gd (u_lay R_Mo T_Mo 7) = true := ⟨pm_in1 (List.mem_append_right _ (List.mem_append_right _ (List.mem_of_getElem? (i := 26) rfl))), rfl⟩
theorem lay_Mo_8 : u_lay R_Mo T_Mo 8 ∈ lw_tbl ∧ pm_gd (u_lay R_Mo T_Mo 8) = true := ⟨pm_in1 (List.mem_append_right _ (List.mem_append_right _ (List.mem_of_getElem? (i := 28) rfl))), rfl⟩
theorem lay_Mo_9 : u_lay R_Mo T_Mo 9 ∈ lw_tbl ∧ pm_gd (u_lay R_Mo T_Mo 9) = true := ⟨pm_in1 (List.mem_append_right _ (List.mem_append_right _ (List.mem_of_getElem? (i := 30) rfl))), rfl⟩
theorem lay_Mo_10 : u_lay R_Mo T_Mo 10 ∈ lw_tbl ∧ pm_gd (u_lay R_Mo T_Mo 10) = true := ⟨pm_in1 (List.mem_append_right _ (List.mem_append_right _ (List.mem_of_getElem? (i := 32) rfl))), rfl⟩
theorem lay_Mo_11 : u_lay R_Mo T_Mo 11 ∈ lw_tbl ∧ pm_gd (u_lay R_Mo T_Mo 11) = true := ⟨pm_in1 (List.mem_append_right _ (List.mem_append_right _ (List.mem_of_getElem? (i := 34) rfl))), rfl⟩
theorem lay_Mo_12 : u_lay R_Mo T_Mo 12 ∈ lw_tbl ∧ pm_gd (u_lay R_Mo T_Mo 12) = true := ⟨pm_in1 (List.mem_append_right _ (List.mem_append_right _ (List.mem_of_getElem? (i := 36) rfl))), rfl⟩
theorem lay_Mo_13 : u_lay R_Mo T_Mo 13 ∈ lw_tbl ∧ pm_gd (u_lay R_Mo T_Mo 13) = true := ⟨pm_in1 (List.mem_append_right _ (List.mem_append_right _ (List.mem_of_getElem? (i := 38) rfl))), rfl⟩
theorem lay_Mo_14 : u_lay R_Mo T_Mo 14 ∈ lw_tbl ∧ pm_gd (u_lay R_Mo T_Mo 14) = true := ⟨pm_in1 (List.mem_append_right _ (List.mem_append_right _ (List.mem_of_getElem? (i := 40) rfl))), rfl⟩
theorem lay_Mo_15 : u_lay R_Mo T_Mo 15 ∈ lw_tbl ∧ pm_gd (u_lay R_Mo T_Mo 15) = true := ⟨pm_in1 (List.mem_append_right _ (List.mem_append_right _ (List.mem_of_getElem? (i := 42) rfl))), rfl⟩
theorem lay_Mo_16 : u_lay R_Mo T_Mo 16 ∈ lw_tbl ∧ pm_gd (u_lay R_Mo T_Mo 16) = true := ⟨pm_in1 (List.mem_append_right _ (List.mem_append_right _ (List.mem_of_getElem? (i := 44) rfl))), rfl⟩
theorem lay_Mo_17 : u_lay R_Mo T_Mo 17 ∈ lw_tbl ∧ pm_gd (u_lay R_Mo T_Mo 17) = true := ⟨pm_in1 (List.mem_append_right _ (List.mem_append_right _ (List.mem_of_getElem? (i := 46) rfl))), rfl⟩
theorem lay_Mo_18 : u_lay R_Mo T_Mo 18 ∈ lw_tbl ∧ pm_gd (u_lay R_Mo T_Mo 18) = true := ⟨pm_in1 (List.mem_append_right _ (List.mem_append_right _ (List.mem_of_getElem? (i := 48) rfl))), rfl⟩
theorem lay_Mo_19 : u_lay R_Mo T_Mo 19 ∈ lw_tbl ∧ pm_gd (u_lay R_Mo T_Mo 19) = true := ⟨pm_in1 (List.mem_append_right _ (List.mem_append_right _ (List.mem_of_getElem? (i := 50) rfl))), rfl⟩
theorem lay_Mo_20 : u_lay R_Mo T_Mo 20 ∈ lw_tbl ∧ pm_gd (u_lay R_Mo T_Mo 20) = true := ⟨pm_in1 (List.mem_append_right _ (List.mem_append_right _ (List.mem_of_getElem? (i := 52) rfl))), rfl⟩
theorem lay_Mo_21 : u_lay R_Mo T_Mo 21 ∈ lw_tbl ∧ pm_gd (u_lay R_Mo T_Mo 21) = true := ⟨pm_in1 (List.mem_append_right _ (List.mem_append_right _ (List.mem_of_getElem? (i := 54) rfl))), rfl⟩
theorem lay_Mo_22 : u_lay R_Mo T_Mo 22 ∈ lw_tbl ∧ pm_gd (u_lay R_Mo T_Mo 22) = true := ⟨pm_in1 (List.mem_append_right _ (List.mem_append_right _ (List.mem_of_getElem? (i := 56) rfl))), rfl⟩
theorem lay_Mo_23 : u_lay R_Mo T_Mo 23 ∈ lw_tbl ∧ pm_gd (u_lay R_Mo T_Mo 23) = true := ⟨pm_in1 (List.mem_append_right _ (List.mem_append_right _ (List.mem_of_getElem? (i := 58) rfl))), rfl⟩
theorem cF_Lo : ∀ w ∈ u_ws R_Lo T_Lo 2, w ∈ lw_tbl ∧ pm_gd w = true := by
  intro w hw
  obtain ⟨k, hk, rfl⟩ := List.mem_map.mp hw
  have hk := List.mem_range.mp hk
  match k, hk with
  | 0, _ => exact lay_Lo_0
  | 1, _ => exact lay_Lo_1
  | _ + 2, hk => exact absurd hk (by omega)
theorem cT_Lo : ∀ k, k < 2 → parseFieldDescriptor (T_Lo k).2.2.1 = some (pm_ft 16 k) := by decide +kernel
theorem cN_Lo : ∀ a, a < 2 → ∀ b, b < 2 → a ≠ b → (T_Lo a).2.1 ≠ (T_Lo b).2.1 := by decide +kernel
theorem cF_Sh : ∀ w ∈ u_ws R_Sh T_Sh 4, w ∈ lw_tbl ∧ pm_gd w = true := by
  intro w hw
  obtain ⟨k, hk, rfl⟩ := List.mem_map.mp hw
  have hk := List.mem_range.mp hk
  match k, hk with
  | 0, _ => exact lay_Sh_0
  | 1, _ => exact lay_Sh_1
  | 2, _ => exact lay_Sh_2
  | 3, _ => exact lay_Sh_3
  | _ + 4, hk => exact absurd hk (by omega)
theorem cT_Sh : ∀ k, k < 4 → parseFieldDescriptor (T_Sh k).2.2.1 = some (pm_ft 17 k) := by decide +kernel
theorem cN_Sh : ∀ a, a < 4 → ∀ b, b < 4 → a ≠ b → (T_Sh a).2.1 ≠ (T_Sh b).2.1 := by decide +kernel
theorem cF_Bo : ∀ w ∈ u_ws R_Bo T_Bo 6, w ∈ lw_tbl ∧ pm_gd w = true := by
  intro w hw
  obtain ⟨k, hk, rfl⟩ := List.mem_map.mp hw
  have hk := List.mem_range.mp hk
  match k, hk with
  | 0, _ => exact lay_Bo_0
  | 1, _ => exact lay_Bo_1
  | 2, _ => exact lay_Bo_2
  | 3, _ => exact lay_Bo_3
  | 4, _ => exact lay_Bo_4
  | 5, _ => exact lay_Bo_5
  | _ + 6, hk => exact absurd hk (by omega)
theorem cT_Bo : ∀ k, k < 6 → parseFieldDescriptor (T_Bo k).2.2.1 = some (pm_ft 18 k) := by decide +kernel
theorem cN_Bo : ∀ a, a < 6 → ∀ b, b < 6 → a ≠ b → (T_Bo a).2.1 ≠ (T_Bo b).2.1 := by decide +kernel
theorem cF_Ru : ∀ w ∈ u_ws R_Ru T_Ru 7, w ∈ lw_tbl ∧ pm_gd w = true := by
  intro w hw
  obtain ⟨k, hk, rfl⟩ := List.mem_map.mp hw
  have hk := List.mem_range.mp hk
  match k, hk with
  | 0, _ => exact lay_Ru_0
  | 1, _ => exact lay_Ru_1
  | 2, _ => exact lay_Ru_2
  | 3, _ => exact lay_Ru_3
  | 4, _ => exact lay_Ru_4
  | 5, _ => exact lay_Ru_5
  | 6, _ => exact lay_Ru_6
  | _ + 7, hk => exact absurd hk (by omega)
theorem cT_Ru : ∀ k, k < 7 → parseFieldDescriptor (T_Ru k).2.2.1 = some (pm_ft 19 k) := by decide +kernel
theorem cN_Ru : ∀ a, a < 7 → ∀ b, b < 7 → a ≠ b → (T_Ru a).2.1 ≠ (T_Ru b).2.1 := by decide +kernel
theorem cF_Rl : ∀ w ∈ u_ws R_Rl T_Rl 2, w ∈ lw_tbl ∧ pm_gd w = true := by
  intro w hw
  obtain ⟨k, hk, rfl⟩ := List.mem_map.mp hw
  have hk := List.mem_range.mp hk
  match k, hk with
  | 0, _ => exact lay_Rl_0
  | 1, _ => exact lay_Rl_1
  | _ + 2, hk => exact absurd hk (by omega)
theorem cT_Rl : ∀ k, k < 2 → parseFieldDescriptor (T_Rl k).2.2.1 = some (pm_ft 20 k) := by decide +kernel
theorem cN_Rl : ∀ a, a < 2 → ∀ b, b < 2 → a ≠ b → (T_Rl a).2.1 ≠ (T_Rl b).2.1 := by decide +kernel
theorem cF_Sd : ∀ w ∈ u_ws R_Sd T_Sd 6, w ∈ lw_tbl ∧ pm_gd w = true := by
  intro w hw
  obtain ⟨k, hk, rfl⟩ := List.mem_map.mp hw
  have hk := List.mem_range.mp hk
  match k, hk with
  | 0, _ => exact lay_Sd_0
  | 1, _ => exact lay_Sd_1
  | 2, _ => exact lay_Sd_2
  | 3, _ => exact lay_Sd_3
  | 4, _ => exact lay_Sd_4
  | 5, _ => exact lay_Sd_5
  | _ + 6, hk => exact absurd hk (by omega)
theorem cT_Sd : ∀ k, k < 6 → parseFieldDescriptor (T_Sd k).2.2.1 = some (pm_ft 21 k) := by decide +kernel
theorem cN_Sd : ∀ a, a < 6 → ∀ b, b < 6 → a ≠ b → (T_Sd a).2.1 ≠ (T_Sd b).2.1 := by decide +kernel
theorem cF_Lk : ∀ w ∈ u_ws R_Lk T_Lk 3, w ∈ lw_tbl ∧ pm_gd w = true := by
  intro w hw
  obtain ⟨k, hk, rfl⟩ := List.mem_map.mp hw
  have hk := List.mem_range.mp hk
  match k, hk with
  | 0, _ => exact lay_Lk_0
  | 1, _ => exact lay_Lk_1
  | 2, _ => exact lay_Lk_2
  | _ + 3, hk => exact absurd hk (by omega)
theorem cT_Lk : ∀ k, k < 3 → parseFieldDescriptor (T_Lk k).2.2.1 = some (pm_ft 22 k) := by decide +kernel
theorem cN_Lk : ∀ a, a < 3 → ∀ b, b < 3 → a ≠ b → (T_Lk a).2.1 ≠ (T_Lk b).2.1 := by decide +kernel
theorem cF_Ce : ∀ w ∈ u_ws R_Ce T_Ce 3, w ∈ lw_tbl ∧ pm_gd w = true := by
  intro w hw
  obtain ⟨k, hk, rfl⟩ := List.mem_map.mp hw
  have hk := List.mem_range.mp hk
  match k, hk with
  | 0, _ => exact lay_Ce_0
  | 1, _ => exact lay_Ce_1
  | 2, _ => exact lay_Ce_2
  | _ + 3, hk => exact absurd hk (by omega)
theorem cT_Ce : ∀ k, k < 3 → parseFieldDescriptor (T_Ce k).2.2.1 = some (pm_ft 23 k) := by decide +kernel
theorem cN_Ce : ∀ a, a < 3 → ∀ b, b < 3 → a ≠ b → (T_Ce a).2.1 ≠ (T_Ce b).2.1 := by decide +kernel
theorem cF_Mo : ∀ w ∈ u_ws R_Mo T_Mo 24, w ∈ lw_tbl ∧ pm_gd w = true := by
  intro w hw
  obtain ⟨k, hk, rfl⟩ := List.mem_map.mp hw
  have hk := List.mem_range.mp hk
  match k, hk with
  | 0, _ => exact lay_Mo_0
  | 1, _ => exact lay_Mo_1
  | 2, _ => exact lay_Mo_2
  | 3, _ => exact lay_Mo_3
  | 4, _ => exact lay_Mo_4
  | 5, _ => exact lay_Mo_5
  | 6, _ => exact lay_Mo_6
  | 7, _ => exact lay_Mo_7
  | 8, _ => exact lay_Mo_8
  | 9, _ => exact lay_Mo_9
  | 10, _ => exact lay_Mo_10
  | 11, _ => exact lay_Mo_11
  | 12, _ => exact lay_Mo_12
  | 13, _ => exact lay_Mo_13
  | 14, _ => exact lay_Mo_14
  | 15, _ => exact lay_Mo_15
  | 16, _ => exact lay_Mo_16
  | 17, _ => exact lay_Mo_17
  | 18, _ => exact lay_Mo_18
  | 19, _ => exact lay_Mo_19
  | 20, _ => exact lay_Mo_20
  | 21, _ => exact lay_Mo_21
  | 22, _ => exact lay_Mo_22
  | 23, _ => exact lay_Mo_23
  | _ + 24, hk => exact absurd hk (by omega)
theorem cT_Mo : ∀ k, k < 24 → parseFieldDescriptor (T_Mo k).2.2.1 = some (pm_ft 24 k) := by decide +kernel
theorem cN_Mo : ∀ a, a < 24 → ∀ b, b < 24 → a ≠ b → (T_Mo a).2.1 ≠ (T_Mo b).2.1 := by decide +kernel
theorem pm_cF : ∀ (ci : Nat) (q : vw_C), vwCl[ci]? = some q → ∀ w ∈ u_ws q.1 q.2.1 q.2.2, w ∈ lw_tbl ∧ pm_gd w = true := by
  intro ci q hq
  match ci, hq with
  | 0, hq => cases hq; exact cF_Lo
  | 1, hq => cases hq; exact cF_Sh
  | 2, hq => cases hq; exact cF_Bo
  | 3, hq => cases hq; exact cF_Ru
  | 4, hq => cases hq; exact cF_Rl
  | 5, hq => cases hq; exact cF_Sd
  | 6, hq => cases hq; exact cF_Lk
  | 7, hq => cases hq; exact cF_Ce
  | 8, hq => cases hq; exact cF_Mo
  | n + 9, hq => cases hq
theorem pm_cT : ∀ (ci : Nat) (q : vw_C), vwCl[ci]? = some q → ∀ k, k < q.2.2 → parseFieldDescriptor (q.2.1 k).2.2.1 = some (pm_ft (16 + ci) k) := by
  intro ci q hq
  match ci, hq with
  | 0, hq => cases hq; exact cT_Lo
  | 1, hq => cases hq; exact cT_Sh
  | 2, hq => cases hq; exact cT_Bo
  | 3, hq => cases hq; exact cT_Ru
  | 4, hq => cases hq; exact cT_Rl
  | 5, hq => cases hq; exact cT_Sd
  | 6, hq => cases hq; exact cT_Lk
  | 7, hq => cases hq; exact cT_Ce
  | 8, hq => cases hq; exact cT_Mo
  | n + 9, hq => cases hq
theorem pm_cN : ∀ (ci : Nat) (q : vw_C), vwCl[ci]? = some q → ∀ a, a < q.2.2 → ∀ b, b < q.2.2 → a ≠ b → (q.2.1 a).2.1 ≠ (q.2.1 b).2.1 := by
  intro ci q hq
  match ci, hq with
  | 0, hq => cases hq; exact cN_Lo
  | 1, hq => cases hq; exact cN_Sh
  | 2, hq => cases hq; exact cN_Bo
  | 3, hq => cases hq; exact cN_Ru
  | 4, hq => cases hq; exact cN_Rl
  | 5, hq => cases hq; exact cN_Sd
  | 6, hq => cases hq; exact cN_Lk
  | 7, hq => cases hq; exact cN_Ce
  | 8, hq => cases hq; exact cN_Mo
  | n + 9, hq => cases hq
