section LAWLOOP
variable {L : Nat} {xs : Nat → Int32} {SL : Nat} {S : Nat → Nat × Nat} {A : Nat → Nat → Int32} {P : Nat → Nat → Option Nat} {Q : pm_R → Prop}
theorem sub3 {i : Nat} (hL : L ≤ 1536) (hi : i < 2000) : (nI L - 3 < nI i) ↔ L < i + 3 := by
  by_cases h3 : 3 ≤ L
  · have e : nI L - 3 = nI (L - 3) := by
      have : nI L = nI (L - 3) + 3 := by
        rw [show (3 : Int32) = nI 3 from rfl, nI_add, show L - 3 + 3 = L by omega]
      rw [this, Int32.add_sub_cancel]
    rw [e, nI_ltI (by omega) (by omega)]
    omega
  · refine ⟨fun _ => by omega, fun _ => ?_⟩
    have hp := nI_pos' (n := i) (by omega)
    rcases (show L = 0 ∨ L = 1 ∨ L = 2 by omega) with z | z | z <;> subst z <;> exact Int32.lt_of_lt_of_le (by decide) hp
theorem r_sld {d : Nat} {tb : Nat → Option pm_I} {pc x j r : Nat} {lc st : List Value} {i : Int32} (hf : tb pc = some (pm_sld x L xs)) (hi : i = nI j) (hj : j < L) (hL : L ≤ 1536) (kk : BB d tb x lc (.int (xs j) :: st) SL S A P Q) : BB d tb pc lc (.int i :: .retAddr r :: st) SL S A P Q := by
  subst hi
  refine pm_B.next hf ?_ kk
  have h1 := nI_clamp (n := j) (by omega)
  have h2 := nI_pos (n := j) (by omega)
  have h3 : ¬ L ≤ j := by omega
  simp [pm_sld, h1, h2, h3, pm_nx]
abbrev LT (L : Nat) (xs : Nat → Int32) : Nat → Option pm_I := fun j => (tb_law L xs)[j]?
abbrev LC (i : Nat) : List Value := [.retAddr 0, .ref 0, .ref 111, .int (nI i)]
/-- on to the next call -/
theorem law_tail {i : Nat} (kk : BB 7 (LT L xs) 10 (LC (i + 3)) [] SL S A P Q) : BB 7 (LT L xs) 280 (LC i) [] SL S A P Q := by
  iterate 2 refine pm_B.next rfl rfl ?_
  refine q_lc ?_ kk
  show [Value.retAddr 0, .ref 0, .ref 111, .int (nI i + 3)] = _
  rw [show (3 : Int32) = nI 3 from rfl, nI_add]
theorem law_end {i : Nat} (hL : L ≤ 1536) (hi : i < 2000) (h : L < i + 3) (hQ : Q ((131, SL, S, A, P), some (.int 1))) : BB 7 (LT L xs) 10 (LC i) [] SL S A P Q := by
  iterate 5 refine pm_B.next rfl rfl ?_
  refine r_icT rfl (decide_eq_true ((sub3 hL hi).mpr h)) ?_
  iterate 1 refine pm_B.next rfl rfl ?_
  exact pm_B.ret rfl rfl hQ
theorem law_statement {i : Nat} (hL : L ≤ 1536) (h3 : i + 3 ≤ L) (k : KK S P) (v : Inv A P) (kk : ∀ A2 P2, Inv A2 P2 → KK S P2 → BB 7 (LT L xs) 10 (LC (i + 3)) [] SL S A2 P2 Q) : BB 7 (LT L xs) 22 (LC i) [] SL S A P Q := by
  have m0 : pm_is S 111 24 24 := k.2.1.1.1.1
  have o0 := k.2.2.2.1
  iterate 1 refine pm_B.next rfl rfl ?_
  iterate 4 refine pm_B.next rfl rfl ?_
  refine r_sld rfl (nI_add i 1) (by omega) hL ?_
  iterate 4 refine pm_B.next rfl rfl ?_
  refine r_sld rfl (nI_add i 2) (by omega) hL ?_
  refine q_callv (d := 6) (a := [.int (xs (i + 1)), .int (xs (i + 2))]) rfl o0 rfl (Nat.le_of_ble_eq_true rfl) (Nat.le_of_ble_eq_true rfl) (op_statement (d := 0) k v) (fun h1 x hx => ?_)
  obtain ⟨y, A1, P1, he, hq⟩ := hx
  cases he
  show BB 7 _ _ _ [.int y] _ _ _ _ _
  iterate 1 refine pm_B.next rfl rfl ?_
  iterate 4 refine pm_B.next rfl rfl ?_
  refine r_sld rfl (nI_add i 1) (by omega) hL ?_
  iterate 4 refine pm_B.next rfl rfl ?_
  refine r_sld rfl (nI_add i 2) (by omega) hL ?_
  refine q_callv (d := 6) (a := [.int (xs (i + 1)), .int (xs (i + 2))]) rfl m0 rfl (Nat.le_of_ble_eq_true rfl) (Nat.le_of_ble_eq_true rfl) hq (fun h1 x hx => ?_)
  obtain ⟨A2, he, v2, k2⟩ := hx
  cases he
  show BB 7 _ _ _ [.int y, .int y] _ _ _ _ _
  refine r_icT rfl (decide_eq_true rfl) ?_
  exact law_tail (kk A2 P1 v2 k2)
theorem law_guard {i : Nat} (hL : L ≤ 1536) (h3 : i + 3 ≤ L) (k : KK S P) (v : Inv A P) (kk : ∀ A2 P2, Inv A2 P2 → KK S P2 → BB 7 (LT L xs) 10 (LC (i + 3)) [] SL S A2 P2 Q) : BB 7 (LT L xs) 66 (LC i) [] SL S A P Q := by
  have m0 : pm_is S 111 24 24 := k.2.1.1.1.1
  have o0 := k.2.2.2.1
  iterate 1 refine pm_B.next rfl rfl ?_
  iterate 4 refine pm_B.next rfl rfl ?_
  refine r_sld rfl (nI_add i 1) (by omega) hL ?_
  iterate 4 refine pm_B.next rfl rfl ?_
  refine r_sld rfl (nI_add i 2) (by omega) hL ?_
  refine q_callv (d := 6) (a := [.int (xs (i + 1)), .int (xs (i + 2))]) rfl o0 rfl (Nat.le_of_ble_eq_true rfl) (Nat.le_of_ble_eq_true rfl) (op_guard (d := 0) k v) (fun h1 x hx => ?_)
  obtain ⟨y, A1, P1, he, hq⟩ := hx
  cases he
  show BB 7 _ _ _ [.int y] _ _ _ _ _
  iterate 1 refine pm_B.next rfl rfl ?_
  iterate 4 refine pm_B.next rfl rfl ?_
  refine r_sld rfl (nI_add i 1) (by omega) hL ?_
  iterate 4 refine pm_B.next rfl rfl ?_
  refine r_sld rfl (nI_add i 2) (by omega) hL ?_
  refine q_callv (d := 6) (a := [.int (xs (i + 1)), .int (xs (i + 2))]) rfl m0 rfl (Nat.le_of_ble_eq_true rfl) (Nat.le_of_ble_eq_true rfl) hq (fun h1 x hx => ?_)
  obtain ⟨A2, he, v2, k2⟩ := hx
  cases he
  show BB 7 _ _ _ [.int y, .int y] _ _ _ _ _
  refine r_icT rfl (decide_eq_true rfl) ?_
  exact law_tail (kk A2 P1 v2 k2)
theorem law_start {i : Nat} (hL : L ≤ 1536) (h3 : i + 3 ≤ L) (k : KK S P) (v : Inv A P) (kk : ∀ A2 P2, Inv A2 P2 → KK S P2 → BB 7 (LT L xs) 10 (LC (i + 3)) [] SL S A2 P2 Q) : BB 7 (LT L xs) 117 (LC i) [] SL S A P Q := by
  have m0 : pm_is S 111 24 24 := k.2.1.1.1.1
  have o0 := k.2.2.2.1
  iterate 1 refine pm_B.next rfl rfl ?_
  iterate 4 refine pm_B.next rfl rfl ?_
  refine r_sld rfl (nI_add i 1) (by omega) hL ?_
  iterate 4 refine pm_B.next rfl rfl ?_
  refine r_sld rfl (nI_add i 2) (by omega) hL ?_
  refine q_callv (d := 6) (a := [.int (xs (i + 1)), .int (xs (i + 2))]) rfl o0 rfl (Nat.le_of_ble_eq_true rfl) (Nat.le_of_ble_eq_true rfl) (op_start (d := 0) k v) (fun h1 x hx => ?_)
  obtain ⟨y, A1, P1, he, hq⟩ := hx
  cases he
  show BB 7 _ _ _ [.int y] _ _ _ _ _
  iterate 1 refine pm_B.next rfl rfl ?_
  iterate 4 refine pm_B.next rfl rfl ?_
  refine r_sld rfl (nI_add i 1) (by omega) hL ?_
  iterate 4 refine pm_B.next rfl rfl ?_
  refine r_sld rfl (nI_add i 2) (by omega) hL ?_
  refine q_callv (d := 6) (a := [.int (xs (i + 1)), .int (xs (i + 2))]) rfl m0 rfl (Nat.le_of_ble_eq_true rfl) (Nat.le_of_ble_eq_true rfl) hq (fun h1 x hx => ?_)
  obtain ⟨A2, he, v2, k2⟩ := hx
  cases he
  show BB 7 _ _ _ [.int y, .int y] _ _ _ _ _
  refine r_icT rfl (decide_eq_true rfl) ?_
  exact law_tail (kk A2 P1 v2 k2)
theorem law_race {i : Nat} (hL : L ≤ 1536) (h3 : i + 3 ≤ L) (k : KK S P) (v : Inv A P) (kk : ∀ A2 P2, Inv A2 P2 → KK S P2 → BB 7 (LT L xs) 10 (LC (i + 3)) [] SL S A2 P2 Q) : BB 7 (LT L xs) 246 (LC i) [] SL S A P Q := by
  have m0 : pm_is S 111 24 24 := k.2.1.1.1.1
  have o0 := k.2.2.2.1
  iterate 1 refine pm_B.next rfl rfl ?_
  iterate 4 refine pm_B.next rfl rfl ?_
  refine r_sld rfl (nI_add i 1) (by omega) hL ?_
  iterate 4 refine pm_B.next rfl rfl ?_
  refine r_sld rfl (nI_add i 2) (by omega) hL ?_
  refine q_callv (d := 6) (a := [.int (xs (i + 1)), .int (xs (i + 2))]) rfl o0 rfl (Nat.le_of_ble_eq_true rfl) (Nat.le_of_ble_eq_true rfl) (op_race (d := 0) k v) (fun h1 x hx => ?_)
  obtain ⟨y, A1, P1, he, hq⟩ := hx
  cases he
  show BB 7 _ _ _ [.int y] _ _ _ _ _
  iterate 1 refine pm_B.next rfl rfl ?_
  iterate 4 refine pm_B.next rfl rfl ?_
  refine r_sld rfl (nI_add i 1) (by omega) hL ?_
  iterate 4 refine pm_B.next rfl rfl ?_
  refine r_sld rfl (nI_add i 2) (by omega) hL ?_
  refine q_callv (d := 6) (a := [.int (xs (i + 1)), .int (xs (i + 2))]) rfl m0 rfl (Nat.le_of_ble_eq_true rfl) (Nat.le_of_ble_eq_true rfl) hq (fun h1 x hx => ?_)
  obtain ⟨A2, he, v2, k2⟩ := hx
  cases he
  show BB 7 _ _ _ [.int y, .int y] _ _ _ _ _
  refine r_icT rfl (decide_eq_true rfl) ?_
  exact law_tail (kk A2 P1 v2 k2)
theorem law_body {i : Nat} (hL : L ≤ 1536) (h3 : i + 3 ≤ L) (k : KK S P) (v : Inv A P) (kk : ∀ A2 P2, Inv A2 P2 → KK S P2 → BB 7 (LT L xs) 10 (LC (i + 3)) [] SL S A2 P2 Q) : BB 7 (LT L xs) 49 (LC i) [] SL S A P Q := by
  have m0 : pm_is S 111 24 24 := k.2.1.1.1.1
  have o0 := k.2.2.2.1
  iterate 1 refine pm_B.next rfl rfl ?_
  iterate 4 refine pm_B.next rfl rfl ?_
  refine r_sld rfl (nI_add i 1) (by omega) hL ?_
  refine q_callv (d := 6) (a := [.int (xs (i + 1))]) rfl o0 rfl (Nat.le_of_ble_eq_true rfl) (Nat.le_of_ble_eq_true rfl) (op_body (d := 0) k v) (fun h1 x hx => ?_)
  obtain ⟨y, A1, P1, he, hq⟩ := hx
  cases he
  show BB 7 _ _ _ [.int y] _ _ _ _ _
  iterate 1 refine pm_B.next rfl rfl ?_
  iterate 4 refine pm_B.next rfl rfl ?_
  refine r_sld rfl (nI_add i 1) (by omega) hL ?_
  refine q_callv (d := 6) (a := [.int (xs (i + 1))]) rfl m0 rfl (Nat.le_of_ble_eq_true rfl) (Nat.le_of_ble_eq_true rfl) hq (fun h1 x hx => ?_)
  obtain ⟨A2, he, v2, k2⟩ := hx
  cases he
  show BB 7 _ _ _ [.int y, .int y] _ _ _ _ _
  refine r_icT rfl (decide_eq_true rfl) ?_
  exact law_tail (kk A2 P1 v2 k2)
theorem law_check {i : Nat} (hL : L ≤ 1536) (h3 : i + 3 ≤ L) (k : KK S P) (v : Inv A P) (kk : ∀ A2 P2, Inv A2 P2 → KK S P2 → BB 7 (LT L xs) 10 (LC (i + 3)) [] SL S A2 P2 Q) : BB 7 (LT L xs) 93 (LC i) [] SL S A P Q := by
  have m0 : pm_is S 111 24 24 := k.2.1.1.1.1
  have o0 := k.2.2.2.1
  iterate 1 refine pm_B.next rfl rfl ?_
  iterate 4 refine pm_B.next rfl rfl ?_
  refine r_sld rfl (nI_add i 1) (by omega) hL ?_
  refine q_callv (d := 6) (a := [.int (xs (i + 1))]) rfl o0 rfl (Nat.le_of_ble_eq_true rfl) (Nat.le_of_ble_eq_true rfl) (op_check (d := 0) k v) (fun h1 x hx => ?_)
  obtain ⟨y, A1, P1, he, hq⟩ := hx
  cases he
  show BB 7 _ _ _ [.int y] _ _ _ _ _
  iterate 1 refine pm_B.next rfl rfl ?_
  iterate 4 refine pm_B.next rfl rfl ?_
  refine r_sld rfl (nI_add i 1) (by omega) hL ?_
  refine q_callv (d := 6) (a := [.int (xs (i + 1))]) rfl m0 rfl (Nat.le_of_ble_eq_true rfl) (Nat.le_of_ble_eq_true rfl) hq (fun h1 x hx => ?_)
  obtain ⟨A2, he, v2, k2⟩ := hx
  cases he
  show BB 7 _ _ _ [.int y, .int y] _ _ _ _ _
  refine r_icT rfl (decide_eq_true rfl) ?_
  exact law_tail (kk A2 P1 v2 k2)
theorem law_step {i : Nat} (hL : L ≤ 1536) (h3 : i + 3 ≤ L) (k : KK S P) (v : Inv A P) (kk : ∀ A2 P2, Inv A2 P2 → KK S P2 → BB 7 (LT L xs) 10 (LC (i + 3)) [] SL S A2 P2 Q) : BB 7 (LT L xs) 144 (LC i) [] SL S A P Q := by
  have m0 : pm_is S 111 24 24 := k.2.1.1.1.1
  have o0 := k.2.2.2.1
  iterate 1 refine pm_B.next rfl rfl ?_
  iterate 4 refine pm_B.next rfl rfl ?_
  refine r_sld rfl (nI_add i 1) (by omega) hL ?_
  refine q_callv (d := 6) (a := [.int (xs (i + 1))]) rfl o0 rfl (Nat.le_of_ble_eq_true rfl) (Nat.le_of_ble_eq_true rfl) (op_step (d := 0) k v) (fun h1 x hx => ?_)
  obtain ⟨y, A1, P1, he, hq⟩ := hx
  cases he
  show BB 7 _ _ _ [.int y] _ _ _ _ _
  iterate 1 refine pm_B.next rfl rfl ?_
  iterate 4 refine pm_B.next rfl rfl ?_
  refine r_sld rfl (nI_add i 1) (by omega) hL ?_
  refine q_callv (d := 6) (a := [.int (xs (i + 1))]) rfl m0 rfl (Nat.le_of_ble_eq_true rfl) (Nat.le_of_ble_eq_true rfl) hq (fun h1 x hx => ?_)
  obtain ⟨A2, he, v2, k2⟩ := hx
  cases he
  show BB 7 _ _ _ [.int y, .int y] _ _ _ _ _
  refine r_icT rfl (decide_eq_true rfl) ?_
  exact law_tail (kk A2 P1 v2 k2)
theorem law_has {i : Nat} (hL : L ≤ 1536) (h3 : i + 3 ≤ L) (k : KK S P) (v : Inv A P) (kk : ∀ A2 P2, Inv A2 P2 → KK S P2 → BB 7 (LT L xs) 10 (LC (i + 3)) [] SL S A2 P2 Q) : BB 7 (LT L xs) 161 (LC i) [] SL S A P Q := by
  have m0 : pm_is S 111 24 24 := k.2.1.1.1.1
  have o0 := k.2.2.2.1
  iterate 1 refine pm_B.next rfl rfl ?_
  iterate 4 refine pm_B.next rfl rfl ?_
  refine r_sld rfl (nI_add i 1) (by omega) hL ?_
  refine q_callv (d := 6) (a := [.int (xs (i + 1))]) rfl o0 rfl (Nat.le_of_ble_eq_true rfl) (Nat.le_of_ble_eq_true rfl) (op_has (d := 0) k v) (fun h1 x hx => ?_)
  obtain ⟨y, A1, P1, he, hq⟩ := hx
  cases he
  show BB 7 _ _ _ [.int y] _ _ _ _ _
  iterate 1 refine pm_B.next rfl rfl ?_
  iterate 4 refine pm_B.next rfl rfl ?_
  refine r_sld rfl (nI_add i 1) (by omega) hL ?_
  refine q_callv (d := 6) (a := [.int (xs (i + 1))]) rfl m0 rfl (Nat.le_of_ble_eq_true rfl) (Nat.le_of_ble_eq_true rfl) hq (fun h1 x hx => ?_)
  obtain ⟨A2, he, v2, k2⟩ := hx
  cases he
  show BB 7 _ _ _ [.int y, .int y] _ _ _ _ _
  refine r_icT rfl (decide_eq_true rfl) ?_
  exact law_tail (kk A2 P1 v2 k2)
theorem law_cell {i : Nat} (hL : L ≤ 1536) (h3 : i + 3 ≤ L) (k : KK S P) (v : Inv A P) (kk : ∀ A2 P2, Inv A2 P2 → KK S P2 → BB 7 (LT L xs) 10 (LC (i + 3)) [] SL S A2 P2 Q) : BB 7 (LT L xs) 178 (LC i) [] SL S A P Q := by
  have m0 : pm_is S 111 24 24 := k.2.1.1.1.1
  have o0 := k.2.2.2.1
  iterate 1 refine pm_B.next rfl rfl ?_
  iterate 4 refine pm_B.next rfl rfl ?_
  refine r_sld rfl (nI_add i 1) (by omega) hL ?_
  refine q_callv (d := 6) (a := [.int (xs (i + 1))]) rfl o0 rfl (Nat.le_of_ble_eq_true rfl) (Nat.le_of_ble_eq_true rfl) (op_cell (d := 0) k v) (fun h1 x hx => ?_)
  obtain ⟨y, A1, P1, he, hq⟩ := hx
  cases he
  show BB 7 _ _ _ [.int y] _ _ _ _ _
  iterate 1 refine pm_B.next rfl rfl ?_
  iterate 4 refine pm_B.next rfl rfl ?_
  refine r_sld rfl (nI_add i 1) (by omega) hL ?_
  refine q_callv (d := 6) (a := [.int (xs (i + 1))]) rfl m0 rfl (Nat.le_of_ble_eq_true rfl) (Nat.le_of_ble_eq_true rfl) hq (fun h1 x hx => ?_)
  obtain ⟨A2, he, v2, k2⟩ := hx
  cases he
  show BB 7 _ _ _ [.int y, .int y] _ _ _ _ _
  refine r_icT rfl (decide_eq_true rfl) ?_
  exact law_tail (kk A2 P1 v2 k2)
theorem law_holder {i : Nat} (hL : L ≤ 1536) (h3 : i + 3 ≤ L) (k : KK S P) (v : Inv A P) (kk : ∀ A2 P2, Inv A2 P2 → KK S P2 → BB 7 (LT L xs) 10 (LC (i + 3)) [] SL S A2 P2 Q) : BB 7 (LT L xs) 195 (LC i) [] SL S A P Q := by
  have m0 : pm_is S 111 24 24 := k.2.1.1.1.1
  have o0 := k.2.2.2.1
  iterate 1 refine pm_B.next rfl rfl ?_
  iterate 4 refine pm_B.next rfl rfl ?_
  refine r_sld rfl (nI_add i 1) (by omega) hL ?_
  refine q_callv (d := 6) (a := [.int (xs (i + 1))]) rfl o0 rfl (Nat.le_of_ble_eq_true rfl) (Nat.le_of_ble_eq_true rfl) (op_holder (d := 0) k v) (fun h1 x hx => ?_)
  obtain ⟨y, A1, P1, he, hq⟩ := hx
  cases he
  show BB 7 _ _ _ [.int y] _ _ _ _ _
  iterate 1 refine pm_B.next rfl rfl ?_
  iterate 4 refine pm_B.next rfl rfl ?_
  refine r_sld rfl (nI_add i 1) (by omega) hL ?_
  refine q_callv (d := 6) (a := [.int (xs (i + 1))]) rfl m0 rfl (Nat.le_of_ble_eq_true rfl) (Nat.le_of_ble_eq_true rfl) hq (fun h1 x hx => ?_)
  obtain ⟨A2, he, v2, k2⟩ := hx
  cases he
  show BB 7 _ _ _ [.int y, .int y] _ _ _ _ _
  refine r_icT rfl (decide_eq_true rfl) ?_
  exact law_tail (kk A2 P1 v2 k2)
theorem law_state {i : Nat} (hL : L ≤ 1536) (h3 : i + 3 ≤ L) (k : KK S P) (v : Inv A P) (kk : ∀ A2 P2, Inv A2 P2 → KK S P2 → BB 7 (LT L xs) 10 (LC (i + 3)) [] SL S A2 P2 Q) : BB 7 (LT L xs) 212 (LC i) [] SL S A P Q := by
  have m0 : pm_is S 111 24 24 := k.2.1.1.1.1
  have o0 := k.2.2.2.1
  iterate 1 refine pm_B.next rfl rfl ?_
  iterate 4 refine pm_B.next rfl rfl ?_
  refine r_sld rfl (nI_add i 1) (by omega) hL ?_
  refine q_callv (d := 6) (a := [.int (xs (i + 1))]) rfl o0 rfl (Nat.le_of_ble_eq_true rfl) (Nat.le_of_ble_eq_true rfl) (op_state (d := 0) k v) (fun h1 x hx => ?_)
  obtain ⟨y, A1, P1, he, hq⟩ := hx
  cases he
  show BB 7 _ _ _ [.int y] _ _ _ _ _
  iterate 1 refine pm_B.next rfl rfl ?_
  iterate 4 refine pm_B.next rfl rfl ?_
  refine r_sld rfl (nI_add i 1) (by omega) hL ?_
  refine q_callv (d := 6) (a := [.int (xs (i + 1))]) rfl m0 rfl (Nat.le_of_ble_eq_true rfl) (Nat.le_of_ble_eq_true rfl) hq (fun h1 x hx => ?_)
  obtain ⟨A2, he, v2, k2⟩ := hx
  cases he
  show BB 7 _ _ _ [.int y, .int y] _ _ _ _ _
  refine r_icT rfl (decide_eq_true rfl) ?_
  exact law_tail (kk A2 P1 v2 k2)
theorem law_count {i : Nat} (hL : L ≤ 1536) (h3 : i + 3 ≤ L) (k : KK S P) (v : Inv A P) (kk : ∀ A2 P2, Inv A2 P2 → KK S P2 → BB 7 (LT L xs) 10 (LC (i + 3)) [] SL S A2 P2 Q) : BB 7 (LT L xs) 229 (LC i) [] SL S A P Q := by
  have m0 : pm_is S 111 24 24 := k.2.1.1.1.1
  have o0 := k.2.2.2.1
  iterate 1 refine pm_B.next rfl rfl ?_
  iterate 4 refine pm_B.next rfl rfl ?_
  refine r_sld rfl (nI_add i 1) (by omega) hL ?_
  refine q_callv (d := 6) (a := [.int (xs (i + 1))]) rfl o0 rfl (Nat.le_of_ble_eq_true rfl) (Nat.le_of_ble_eq_true rfl) (op_count (d := 0) k v) (fun h1 x hx => ?_)
  obtain ⟨y, A1, P1, he, hq⟩ := hx
  cases he
  show BB 7 _ _ _ [.int y] _ _ _ _ _
  iterate 1 refine pm_B.next rfl rfl ?_
  iterate 4 refine pm_B.next rfl rfl ?_
  refine r_sld rfl (nI_add i 1) (by omega) hL ?_
  refine q_callv (d := 6) (a := [.int (xs (i + 1))]) rfl m0 rfl (Nat.le_of_ble_eq_true rfl) (Nat.le_of_ble_eq_true rfl) hq (fun h1 x hx => ?_)
  obtain ⟨A2, he, v2, k2⟩ := hx
  cases he
  show BB 7 _ _ _ [.int y, .int y] _ _ _ _ _
  refine r_icT rfl (decide_eq_true rfl) ?_
  exact law_tail (kk A2 P1 v2 k2)
theorem law_sound {i : Nat} (hL : L ≤ 1536) (h3 : i + 3 ≤ L) (k : KK S P) (v : Inv A P) (kk : ∀ A2 P2, Inv A2 P2 → KK S P2 → BB 7 (LT L xs) 10 (LC (i + 3)) [] SL S A2 P2 Q) : BB 7 (LT L xs) 110 (LC i) [] SL S A P Q := by
  have m0 : pm_is S 111 24 24 := k.2.1.1.1.1
  have o0 := k.2.2.2.1
  iterate 1 refine pm_B.next rfl rfl ?_
  refine q_callv (d := 6) (a := []) rfl o0 rfl (Nat.le_of_ble_eq_true rfl) (Nat.le_of_ble_eq_true rfl) (op_sound (d := 0) k v) (fun h1 x hx => ?_)
  obtain ⟨y, A1, P1, he, hq⟩ := hx
  cases he
  show BB 7 _ _ _ [.int y] _ _ _ _ _
  iterate 1 refine pm_B.next rfl rfl ?_
  refine q_callv (d := 6) (a := []) rfl m0 rfl (Nat.le_of_ble_eq_true rfl) (Nat.le_of_ble_eq_true rfl) hq (fun h1 x hx => ?_)
  obtain ⟨A2, he, v2, k2⟩ := hx
  cases he
  show BB 7 _ _ _ [.int y, .int y] _ _ _ _ _
  refine r_icT rfl (decide_eq_true rfl) ?_
  exact law_tail (kk A2 P1 v2 k2)
theorem law_stuck {i : Nat} (hL : L ≤ 1536) (h3 : i + 3 ≤ L) (k : KK S P) (v : Inv A P) (kk : ∀ A2 P2, Inv A2 P2 → KK S P2 → BB 7 (LT L xs) 10 (LC (i + 3)) [] SL S A2 P2 Q) : BB 7 (LT L xs) 273 (LC i) [] SL S A P Q := by
  have m0 : pm_is S 111 24 24 := k.2.1.1.1.1
  have o0 := k.2.2.2.1
  iterate 1 refine pm_B.next rfl rfl ?_
  refine q_callv (d := 6) (a := []) rfl o0 rfl (Nat.le_of_ble_eq_true rfl) (Nat.le_of_ble_eq_true rfl) (op_stuck (d := 0) k v) (fun h1 x hx => ?_)
  obtain ⟨y, A1, P1, he, hq⟩ := hx
  cases he
  show BB 7 _ _ _ [.int y] _ _ _ _ _
  iterate 1 refine pm_B.next rfl rfl ?_
  refine q_callv (d := 6) (a := []) rfl m0 rfl (Nat.le_of_ble_eq_true rfl) (Nat.le_of_ble_eq_true rfl) hq (fun h1 x hx => ?_)
  obtain ⟨A2, he, v2, k2⟩ := hx
  cases he
  show BB 7 _ _ _ [.int y, .int y] _ _ _ _ _
  refine r_icT rfl (decide_eq_true rfl) ?_
  exact law_tail (kk A2 P1 v2 k2)
theorem law_sw {i : Nat} (hL : L ≤ 1536) (h3 : i + 3 ≤ L) (k : KK S P) (v : Inv A P) (kk : ∀ A2 P2, Inv A2 P2 → KK S P2 → BB 7 (LT L xs) 10 (LC (i + 3)) [] SL S A2 P2 Q) : BB 7 (LT L xs) 10 (LC i) [] SL S A P Q := by
  iterate 5 refine pm_B.next rfl rfl ?_
  refine r_icF rfl (decide_eq_false (fun g => absurd ((sub3 hL (by omega)).mp g) (by omega))) ?_
  iterate 2 refine pm_B.next rfl rfl ?_
  refine r_sld (j := i) rfl rfl (by omega) hL ?_
  iterate 2 refine pm_B.next rfl rfl ?_
  show BB 7 _ 21 (LC i) [.int (xs i &&& 15)] _ _ _ _ _
  generalize xs i &&& 15 = y
  by_cases g0 : y = 0
  · subst g0
    exact pm_B.next rfl rfl (law_statement hL h3 k v kk)
  by_cases g1 : y = 1
  · subst g1
    exact pm_B.next rfl rfl (law_body hL h3 k v kk)
  by_cases g2 : y = 2
  · subst g2
    exact pm_B.next rfl rfl (law_guard hL h3 k v kk)
  by_cases g3 : y = 3
  · subst g3
    exact pm_B.next rfl rfl (law_check hL h3 k v kk)
  by_cases g4 : y = 4
  · subst g4
    exact pm_B.next rfl rfl (law_sound hL h3 k v kk)
  by_cases g5 : y = 5
  · subst g5
    exact pm_B.next rfl rfl (law_start hL h3 k v kk)
  by_cases g6 : y = 6
  · subst g6
    exact pm_B.next rfl rfl (law_step hL h3 k v kk)
  by_cases g7 : y = 7
  · subst g7
    exact pm_B.next rfl rfl (law_has hL h3 k v kk)
  by_cases g8 : y = 8
  · subst g8
    exact pm_B.next rfl rfl (law_cell hL h3 k v kk)
  by_cases g9 : y = 9
  · subst g9
    exact pm_B.next rfl rfl (law_holder hL h3 k v kk)
  by_cases g10 : y = 10
  · subst g10
    exact pm_B.next rfl rfl (law_state hL h3 k v kk)
  by_cases g11 : y = 11
  · subst g11
    exact pm_B.next rfl rfl (law_count hL h3 k v kk)
  by_cases g12 : y = 12
  · subst g12
    exact pm_B.next rfl rfl (law_race hL h3 k v kk)
  by_cases g13 : y = 13
  · subst g13
    exact pm_B.next rfl rfl (law_stuck hL h3 k v kk)
  refine pm_B.next (q := (280, LC i, [], (131, SL, S, A, P))) rfl ?_ (law_tail (kk A P v k))
  simp only [pm_sw, pm_swt, if_neg g0, if_neg g1, if_neg g2, if_neg g3, if_neg g4, if_neg g5, if_neg g6, if_neg g7, if_neg g8, if_neg g9, if_neg g10, if_neg g11, if_neg g12, if_neg g13]
  rfl
theorem law_loop (hL : L ≤ 1536) (hQ : ∀ A P, Q ((131, SL, S, A, P), some (.int 1))) : ∀ (m i : Nat) (A : Nat → Nat → Int32) (P : Nat → Nat → Option Nat), L ≤ i + m → i ≤ L + 3 → KK S P → Inv A P → BB 7 (LT L xs) 10 (LC i) [] SL S A P Q
  | 0, i, A, P, h, hi, k, v => law_end hL (by omega) (by omega) (hQ A P)
  | m + 1, i, A, P, h, hi, k, v => by
    by_cases h3 : i + 3 ≤ L
    · exact law_sw hL h3 k v (fun A2 P2 v2 k2 => law_loop hL hQ m (i + 3) A2 P2 (by omega) (by omega) k2 v2)
    · exact law_end hL (by omega) (by omega) (hQ A P)
end LAWLOOP
