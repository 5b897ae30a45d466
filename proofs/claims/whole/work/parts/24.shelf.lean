def kH (S : Nat → Nat × Nat) (P : Nat → Nat → Option Nat) : Prop := (pm_is S 1 17 4 ∧ pm_is S 2 2 8 ∧ pm_is S 3 0 8) ∧ P 1 0 = some 2 ∧ P 1 1 = some 3
/-- which numbers a statement of a kind may have -/
def fit_ (kd nm : Int32) : Int32 := if kd = 0 ∨ kd = 1 then in_ nm 8 else if kd = 4 then in_ nm 4 else if kd = 9 ∨ kd = 10 then in_ nm 8 else in_ kd 11
theorem fit_z (kd nm : Int32) : fit_ kd nm = 0 ∨ fit_ kd nm = 1 := by
  unfold fit_
  split
  · exact in_z _ _
  · split
    · exact in_z _ _
    · split
      · exact in_z _ _
      · exact in_z _ _
section SHELF
variable {d : Nat} {SL : Nat} {S : Nat → Nat × Nat} {A : Nat → Nat → Int32} {P : Nat → Nat → Option Nat}
theorem x_contains {n v : Int32} (k : kH S P) (hn : A 1 3 = n) : EE (d + 1) M_Sh_contains [.ref 1, .int v] SL S A P (fun r => r = ((131, SL, S, A, P), some (.int (in_ v n)))) := by
  obtain ⟨⟨s1, s2, s3⟩, p0, p1⟩ := k
  refine q_of (tb := fun j => tb_Sh_contains[j]?) rfl rfl (Nat.le_of_ble_eq_true rfl) ?_
  show BB _ _ 0 [.ref 1, .int v] [] _ _ _ _ _
  repeat (first | refine pm_B.next rfl rfl ?_ | refine q_getr rfl (by assumption) (by decide) (by assumption) ?_ | refine q_geti rfl (by assumption) (by decide) (by assumption) ?_ | refine q_iald rfl (by assumption) _ rfl (by first | assumption | omega) (by decide) rfl ?_)
  refine q_cs rfl rfl (Nat.le_of_ble_eq_true rfl) (Nat.le_of_ble_eq_true rfl) (x_isBelow v n) ?_
  exact q_zret rfl (in_z v n) rfl
theorem pm_sw_hit {ps : List (Int32 × Nat)} {d' t : Nat} {v : Int32} {lc st : List Value} {h : pm_H} (e : pm_swt ps d' v (fun t => pm_nx t lc st h) = pm_nx t lc st h) : pm_sw ps d' lc (.int v :: st) h = some (.inr (.inl (t, lc, st, h))) := e
theorem x_fits {kd nm : Int32} : EE (d + 1) M_Sh_fits [.int kd, .int nm] SL S A P (fun r => r = ((131, SL, S, A, P), some (.int (fit_ kd nm)))) := by
  refine q_of (tb := fun j => tb_Sh_fits[j]?) rfl rfl (Nat.le_of_ble_eq_true rfl) ?_
  show BB _ _ 0 [.int kd, .int nm] [] _ _ _ _ _
  iterate 1 refine pm_B.next rfl rfl ?_
  have e8 : BB (d + 1) (fun j => tb_Sh_fits[j]?) 2 [.int kd, .int nm] [] SL S A P (fun r => (131 ≤ r.1.1 ∧ SL ≤ r.1.2.1) ∧ r = ((131, SL, S, A, P), some (.int (in_ nm 8)))) := by
    repeat refine pm_B.next rfl rfl ?_
    refine q_cs rfl rfl (Nat.le_of_ble_eq_true rfl) (Nat.le_of_ble_eq_true rfl) (x_isBelow nm 8) ?_
    exact q_zret rfl (in_z _ _) rfl
  have e4 : BB (d + 1) (fun j => tb_Sh_fits[j]?) 6 [.int kd, .int nm] [] SL S A P (fun r => (131 ≤ r.1.1 ∧ SL ≤ r.1.2.1) ∧ r = ((131, SL, S, A, P), some (.int (in_ nm 4)))) := by
    repeat refine pm_B.next rfl rfl ?_
    refine q_cs rfl rfl (Nat.le_of_ble_eq_true rfl) (Nat.le_of_ble_eq_true rfl) (x_isBelow nm 4) ?_
    exact q_zret rfl (in_z _ _) rfl
  have eb : BB (d + 1) (fun j => tb_Sh_fits[j]?) 10 [.int kd, .int nm] [] SL S A P (fun r => (131 ≤ r.1.1 ∧ SL ≤ r.1.2.1) ∧ r = ((131, SL, S, A, P), some (.int (in_ nm 8)))) := by
    repeat refine pm_B.next rfl rfl ?_
    refine q_cs rfl rfl (Nat.le_of_ble_eq_true rfl) (Nat.le_of_ble_eq_true rfl) (x_isBelow nm 8) ?_
    exact q_zret rfl (in_z _ _) rfl
  have ek : BB (d + 1) (fun j => tb_Sh_fits[j]?) 14 [.int kd, .int nm] [] SL S A P (fun r => (131 ≤ r.1.1 ∧ SL ≤ r.1.2.1) ∧ r = ((131, SL, S, A, P), some (.int (in_ kd 11)))) := by
    repeat refine pm_B.next rfl rfl ?_
    refine q_cs rfl rfl (Nat.le_of_ble_eq_true rfl) (Nat.le_of_ble_eq_true rfl) (x_isBelow kd 11) ?_
    exact q_zret rfl (in_z _ _) rfl
  by_cases h0 : kd = 0
  · subst h0; refine pm_B.next rfl rfl ?_; exact e8
  by_cases h1 : kd = 1
  · subst h1; refine pm_B.next rfl rfl ?_; exact e8
  by_cases h4 : kd = 4
  · subst h4; refine pm_B.next rfl rfl ?_; exact e4
  by_cases h9 : kd = 9
  · subst h9; refine pm_B.next rfl rfl ?_; exact eb
  by_cases h10 : kd = 10
  · subst h10; refine pm_B.next rfl rfl ?_; exact eb
  refine pm_B.next (q := (14, [.int kd, .int nm], [], (131, SL, S, A, P))) rfl (pm_sw_hit ?_) ?_
  · simp only [pm_swt, h0, h1, h4, h9, h10, if_false]
    repeat (split; · rfl)
    rfl
  · simp only [fit_, h0, h1, h4, h9, h10, if_false, or_self]
    exact ek
theorem x_setGuard {c l : Int32} (k : kH S P) : EE (d + 1) M_Sh_setGuard [.ref 1, .int c, .int l] SL S A P (fun r => (((in_ c 8 = 0 ∨ (l ≠ -1 ∧ in_ l 4 = 0)) ∧ r = ((131, SL, S, A, P), some (.int 0)))) ∨ (∃ j, j < 8 ∧ c = nI j ∧ (l = -1 ∨ in_ l 4 = 1) ∧ r = ((131, SL, S, pm_u A 3 j l, P), some (.int 1)))) := by
  obtain ⟨⟨s1, s2, s3⟩, p0, p1⟩ := k
  refine q_of (tb := fun j => tb_Sh_setGuard[j]?) rfl rfl (Nat.le_of_ble_eq_true rfl) ?_
  show BB _ _ 0 [.ref 1, .int c, .int l] [] _ _ _ _ _
  repeat refine pm_B.next rfl rfl ?_
  refine q_cs rfl rfl (Nat.le_of_ble_eq_true rfl) (Nat.le_of_ble_eq_true rfl) (x_isBelow c 8) ?_
  refine r_if rfl (fun h => ?_) (fun h => ?_)
  · have h := of_decide_eq_true h
    repeat refine pm_B.next rfl rfl ?_
    exact q_zret rfl (Or.inl rfl) (Or.inl ⟨Or.inl h, rfl⟩)
  · have h := of_decide_eq_false h
    have hj : ∃ j, j < 8 ∧ c = nI j := by
      unfold in_ at h
      split at h
      · rename_i g
        rcases pk_ix c (n := 8) (by decide) with z | z | z
        · exact absurd z g.1
        · exact absurd z g.2
        · exact z
      · exact absurd rfl h
    obtain ⟨j, hj8, rfl⟩ := hj
    have fin : (l = -1 ∨ in_ l 4 = 1) → BB (d + 1) (fun j => tb_Sh_setGuard[j]?) 13 [.ref 1, .int (nI j), .int l] [] SL S A P (fun r => (131 ≤ r.1.1 ∧ SL ≤ r.1.2.1) ∧ r = ((131, SL, S, pm_u A 3 j l, P), some (.int 1))) := by
      intro _
      repeat (first | refine pm_B.next rfl rfl ?_ | refine q_getr rfl (by assumption) (by decide) (by assumption) ?_ | refine q_geti rfl (by assumption) (by decide) (by assumption) ?_ | refine q_iald rfl (by assumption) _ rfl (by first | assumption | omega) (by decide) rfl ?_ | refine q_puti rfl (by assumption) (by decide) ?_ | refine q_iast rfl (by assumption) _ rfl (by first | assumption | omega) (by decide) ?_)
      exact q_zret rfl (Or.inr rfl) rfl
    repeat refine pm_B.next rfl rfl ?_
    refine r_ic rfl (fun g => ?_) (fun g => ?_)
    · have g := of_decide_eq_true g
      exact pm_B.weaken (fin (Or.inl g)) (fun r hr => ⟨hr.1, Or.inr ⟨j, hj8, rfl, Or.inl g, hr.2⟩⟩)
    · have g := of_decide_eq_false g
      repeat refine pm_B.next rfl rfl ?_
      refine q_cs rfl rfl (Nat.le_of_ble_eq_true rfl) (Nat.le_of_ble_eq_true rfl) (x_isBelow l 4) ?_
      refine r_if rfl (fun f => ?_) (fun f => ?_)
      · have f : in_ l 4 = 1 := (in_z l 4).resolve_left (of_decide_eq_true f)
        exact pm_B.weaken (fin (Or.inr f)) (fun r hr => ⟨hr.1, Or.inr ⟨j, hj8, rfl, Or.inr f, hr.2⟩⟩)
      · have f := Decidable.not_not.mp (of_decide_eq_false f)
        repeat refine pm_B.next rfl rfl ?_
        exact q_zret rfl (Or.inl rfl) (Or.inl ⟨Or.inr ⟨g, f⟩, rfl⟩)
theorem x_addStatement {q sz : Nat} {kd nm : Int32} (k : kH S P) (hq : P 1 2 = some q) (kb : kB S P q) (hs : A q 4 = nI sz) (h64 : sz ≤ 64) : EE (d + 2) M_Sh_addStatement [.ref 1, .int kd, .int nm] SL S A P (fun r => ((fit_ kd nm = 0 ∨ sz = 64) ∧ r = ((131, SL, S, A, P), some (.int (-1)))) ∨ (fit_ kd nm = 1 ∧ sz < 64 ∧ r = ((131, SL, S, pm_u (pm_u (pm_u A (q + 1) sz kd) (q + 2) sz nm) q 4 (nI (sz + 1)), P), some (.int (nI (sz + 1)))))) := by
  obtain ⟨⟨s1, s2, s3⟩, p0, p1⟩ := k
  refine q_of (tb := fun j => tb_Sh_addStatement[j]?) rfl rfl (Nat.le_of_ble_eq_true rfl) ?_
  show BB _ _ 0 [.ref 1, .int kd, .int nm] [] _ _ _ _ _
  repeat refine pm_B.next rfl rfl ?_
  refine q_cs rfl rfl (Nat.le_of_ble_eq_true rfl) (Nat.le_of_ble_eq_true rfl) x_fits ?_
  refine r_if rfl (fun h => ?_) (fun h => ?_)
  · have h := of_decide_eq_true h
    repeat refine pm_B.next rfl rfl ?_
    exact q_iret rfl (Or.inl ⟨Or.inl h, rfl⟩)
  · have h : fit_ kd nm = 1 := (fit_z kd nm).resolve_left (of_decide_eq_false h)
    iterate 1 refine pm_B.next rfl rfl ?_
    refine q_getr rfl s1 (by decide) hq ?_
    repeat refine pm_B.next rfl rfl ?_
    refine q_callv rfl kb.1.1 rfl (Nat.le_of_ble_eq_true rfl) (Nat.le_of_ble_eq_true rfl) (x_Bo_append kb hs h64) (fun h1 v hr => ?_)
    rcases hr with ⟨z1, z2⟩ | ⟨z1, z2⟩
    · cases z2
      repeat refine pm_B.next rfl rfl ?_
      exact q_iret rfl (Or.inl ⟨Or.inr z1, rfl⟩)
    · cases z2
      repeat refine pm_B.next rfl rfl ?_
      exact q_iret rfl (Or.inr ⟨h, z1, rfl⟩)
end SHELF
