section LEAF
variable {d : Nat} {SL : Nat} {S : Nat → Nat × Nat} {A : Nat → Nat → Int32} {P : Nat → Nat → Option Nat}
/-- a number below another: 1, else 0 -/
def in_ (x l : Int32) : Int32 := if ¬ x < 0 ∧ ¬ l ≤ x then 1 else 0
theorem in_z (x l : Int32) : in_ x l = 0 ∨ in_ x l = 1 := by
  unfold in_
  split
  · exact Or.inr rfl
  · exact Or.inl rfl
theorem x_isBelow (x l : Int32) : EE d M_Lo_isBelow [.int x, .int l] SL S A P (fun r => r = ((131, SL, S, A, P), some (.int (in_ x l)))) := by
  refine q_of (tb := fun j => tb_Lo_isBelow[j]?) rfl rfl (Nat.le_of_ble_eq_true rfl) ?_
  show BB _ _ 0 [.int x, .int l] [] _ _ _ _ _
  repeat refine pm_B.next rfl rfl ?_
  refine r_if rfl (fun h => ?_) (fun h => ?_)
  · repeat refine pm_B.next rfl rfl ?_
    refine q_zret rfl (Or.inl rfl) ?_
    have h := of_decide_eq_true h
    simp [in_, h]
  · have h := of_decide_eq_false h
    repeat refine pm_B.next rfl rfl ?_
    refine r_ic rfl (fun g => ?_) (fun g => ?_)
    · repeat refine pm_B.next rfl rfl ?_
      refine q_zret rfl (Or.inl rfl) ?_
      have g := of_decide_eq_true g
      simp [in_, h, g]
    · repeat refine pm_B.next rfl rfl ?_
      refine q_zret rfl (Or.inr rfl) ?_
      have g := of_decide_eq_false g
      simp only [in_]
      rw [if_pos ⟨h, g⟩]
theorem x_isIn (x l : Int32) : EE d M_Mo_isIn [.int x, .int l] SL S A P (fun r => r = ((131, SL, S, A, P), some (.int (in_ x l)))) := by
  refine q_of (tb := fun j => tb_Mo_isIn[j]?) rfl rfl (Nat.le_of_ble_eq_true rfl) ?_
  show BB _ _ 0 [.int x, .int l] [] _ _ _ _ _
  repeat refine pm_B.next rfl rfl ?_
  refine r_if rfl (fun h => ?_) (fun h => ?_)
  · repeat refine pm_B.next rfl rfl ?_
    refine q_zret rfl (Or.inl rfl) ?_
    have h := of_decide_eq_true h
    simp [in_, h]
  · have h := of_decide_eq_false h
    repeat refine pm_B.next rfl rfl ?_
    refine r_ic rfl (fun g => ?_) (fun g => ?_)
    · repeat refine pm_B.next rfl rfl ?_
      refine q_zret rfl (Or.inl rfl) ?_
      have g := of_decide_eq_true g
      simp [in_, h, g]
    · repeat refine pm_B.next rfl rfl ?_
      refine q_zret rfl (Or.inr rfl) ?_
      have g := of_decide_eq_false g
      simp only [in_]
      rw [if_pos ⟨h, g⟩]
end LEAF
