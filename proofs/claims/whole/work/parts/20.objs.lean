/-! What is fixed of the objects: their kinds, and the references in them. -/
def kB (S : Nat → Nat × Nat) (P : Nat → Nat → Option Nat) (q : Nat) : Prop := (pm_is S q 18 6 ∧ pm_is S (q + 1) 0 64 ∧ pm_is S (q + 2) 0 64 ∧ pm_is S (q + 3) 0 64 ∧ pm_is S (q + 4) 0 64) ∧ P q 0 = some (q + 1) ∧ P q 1 = some (q + 2) ∧ P q 2 = some (q + 3) ∧ P q 3 = some (q + 4)
def kS (S : Nat → Nat × Nat) (P : Nat → Nat → Option Nat) (s : Nat) : Prop := (pm_is S s 21 6 ∧ pm_is S (s + 1) 0 8 ∧ pm_is S (s + 2) 0 8 ∧ pm_is S (s + 3) 0 6) ∧ P s 1 = some (s + 1) ∧ P s 2 = some (s + 2) ∧ P s 3 = some (s + 3)
def kL (S : Nat → Nat × Nat) (P : Nat → Nat → Option Nat) (l : Nat) : Prop := (pm_is S l 22 3 ∧ pm_is S (l + 1) 0 6) ∧ P l 0 = some (l + 1)
def kC (S : Nat → Nat × Nat) (P : Nat → Nat → Option Nat) (c : Nat) : Prop := (pm_is S c 23 3 ∧ pm_is S (c + 1) 0 6 ∧ pm_is S (c + 2) 0 6) ∧ P c 0 = some (c + 1) ∧ P c 1 = some (c + 2)
def kR (S : Nat → Nat × Nat) (P : Nat → Nat → Option Nat) : Prop := (pm_is S 53 20 2 ∧ pm_is S 54 0 256) ∧ P 53 0 = some 54
theorem u_eq {α : Type} {f : Nat → Nat → α} {c i : Nat} {x : α} : pm_u f c i x c i = x := by simp [pm_u]
theorem u_nc {α : Type} {f : Nat → Nat → α} {c i a b : Nat} {x : α} (h : a ≠ c) : pm_u f c i x a b = f a b := by simp [pm_u, h]
theorem u_ni {α : Type} {f : Nat → Nat → α} {c i a b : Nat} {x : α} (h : b ≠ i) : pm_u f c i x a b = f a b := by simp [pm_u, h]
theorem u_uu {α : Type} {f : Nat → Nat → α} {c i : Nat} {x y : α} : pm_u (pm_u f c i x) c i y = pm_u f c i y := by
  funext a b
  simp only [pm_u]
  split <;> rfl
theorem u_id {α : Type} {f : Nat → Nat → α} {c i : Nat} : pm_u f c i (f c i) = f := by
  funext a b
  simp only [pm_u]
  split
  · rename_i h
    rw [h.1, h.2]
  · rfl
section OBJS
variable {d : Nat} {SL : Nat} {S : Nat → Nat × Nat} {A : Nat → Nat → Int32} {P : Nat → Nat → Option Nat}
theorem x_Bo_clear {q : Nat} (k : kB S P q) : EE d M_Bo_clear [.ref q] SL S A P (fun r => r = ((131, SL, S, pm_u A q 4 0, P), none)) := by
  obtain ⟨⟨s0, s1, s2, s3, s4⟩, p0, p1, p2, p3⟩ := k
  refine q_of (tb := fun j => tb_Bo_clear[j]?) rfl rfl (Nat.le_of_ble_eq_true rfl) ?_
  show BB _ _ 0 [.ref q] [] _ _ _ _ _
  repeat (first | refine pm_B.next rfl rfl ?_ | refine q_getr rfl (by assumption) (by decide) (by assumption) ?_ | refine q_geti rfl (by assumption) (by decide) (by assumption) ?_ | refine q_iald rfl (by assumption) _ rfl (by first | assumption | omega) (by decide) rfl ?_ | refine q_puti rfl (by assumption) (by decide) ?_ | refine q_iast rfl (by assumption) _ rfl (by first | assumption | omega) (by decide) ?_)
  exact q_vret rfl rfl
theorem x_Bo_append {q sz : Nat} {kd nm : Int32} (k : kB S P q) (hs : A q 4 = nI sz) (h64 : sz ≤ 64) : EE d M_Bo_append [.ref q, .int kd, .int nm] SL S A P (fun r => (sz = 64 ∧ r = ((131, SL, S, A, P), some (.int (-1)))) ∨ (sz < 64 ∧ r = ((131, SL, S, pm_u (pm_u (pm_u A (q + 1) sz kd) (q + 2) sz nm) q 4 (nI (sz + 1)), P), some (.int (nI (sz + 1)))))) := by
  obtain ⟨⟨s0, s1, s2, s3, s4⟩, p0, p1, p2, p3⟩ := k
  refine q_of (tb := fun j => tb_Bo_append[j]?) rfl rfl (Nat.le_of_ble_eq_true rfl) ?_
  show BB _ _ 0 [.ref q, .int kd, .int nm] [] _ _ _ _ _
  repeat (first | refine pm_B.next rfl rfl ?_ | refine q_getr rfl (by assumption) (by decide) (by assumption) ?_ | refine q_geti rfl (by assumption) (by decide) (by assumption) ?_ | refine q_iald rfl (by assumption) _ rfl (by first | assumption | omega) (by decide) rfl ?_ | refine q_puti rfl (by assumption) (by decide) ?_ | refine q_iast rfl (by assumption) _ rfl (by first | assumption | omega) (by decide) ?_)
  refine r_ic rfl (fun h => ?_) (fun h => ?_)
  · have hlt : sz < 64 := by
      have h := of_decide_eq_true h
      exact (nI_ltI (a := sz) (b := 64) (by omega) (by omega)).mp h
    repeat (first | refine pm_B.next rfl rfl ?_ | refine q_getr rfl (by assumption) (by decide) (by assumption) ?_ | refine q_geti rfl (by assumption) (by decide) (by assumption) ?_ | refine q_iald rfl (by assumption) _ rfl (by first | assumption | omega) (by decide) rfl ?_ | refine q_puti rfl (by assumption) (by decide) ?_ | refine q_iast rfl (by assumption) _ rfl (by first | assumption | omega) (by decide) ?_)
    refine q_geti rfl s0 (by decide) (v := nI sz) ?_ ?_
    · rw [u_nc (by omega), hs]
    repeat (first | refine pm_B.next rfl rfl ?_ | refine q_getr rfl (by assumption) (by decide) (by assumption) ?_ | refine q_geti rfl (by assumption) (by decide) (by assumption) ?_ | refine q_iald rfl (by assumption) _ rfl (by first | assumption | omega) (by decide) rfl ?_ | refine q_puti rfl (by assumption) (by decide) ?_ | refine q_iast rfl (by assumption) _ rfl (by first | assumption | omega) (by decide) ?_)
    refine q_geti rfl s0 (by decide) (v := nI sz) ?_ ?_
    · rw [u_nc (by omega), u_nc (by omega), hs]
    repeat refine pm_B.next rfl rfl ?_
    refine q_top (nI_1 sz) ?_
    repeat (first | refine pm_B.next rfl rfl ?_ | refine q_getr rfl (by assumption) (by decide) (by assumption) ?_ | refine q_geti rfl (by assumption) (by decide) (by assumption) ?_ | refine q_iald rfl (by assumption) _ rfl (by first | assumption | omega) (by decide) rfl ?_ | refine q_puti rfl (by assumption) (by decide) ?_ | refine q_iast rfl (by assumption) _ rfl (by first | assumption | omega) (by decide) ?_)
    refine q_geti rfl s0 (by decide) (v := nI (sz + 1)) u_eq ?_
    exact q_iret rfl (Or.inr ⟨hlt, rfl⟩)
  · have hge : sz = 64 := by
      have h := of_decide_eq_false h
      have := mt (nI_ltI (a := sz) (b := 64) (by omega) (by omega)).mpr h
      omega
    repeat refine pm_B.next rfl rfl ?_
    exact q_iret rfl (Or.inl ⟨hge, rfl⟩)
theorem x_Sd_isDone {s : Nat} {v : Int32} (k : kS S P s) (hd : A s 4 = v) : EE d M_Sd_isDone [.ref s] SL S A P (fun r => r = ((131, SL, S, A, P), some (.int (if v = 0 then 1 else 0)))) := by
  obtain ⟨⟨s0, s1, s2, s3⟩, p1, p2, p3⟩ := k
  refine q_of (tb := fun j => tb_Sd_isDone[j]?) rfl rfl (Nat.le_of_ble_eq_true rfl) ?_
  show BB _ _ 0 [.ref s] [] _ _ _ _ _
  repeat (first | refine pm_B.next rfl rfl ?_ | refine q_getr rfl (by assumption) (by decide) (by assumption) ?_ | refine q_geti rfl (by assumption) (by decide) (by assumption) ?_ | refine q_iald rfl (by assumption) _ rfl (by first | assumption | omega) (by decide) rfl ?_ | refine q_puti rfl (by assumption) (by decide) ?_ | refine q_iast rfl (by assumption) _ rfl (by first | assumption | omega) (by decide) ?_)
  refine r_if rfl (fun h => ?_) (fun h => ?_)
  · have h := of_decide_eq_true h
    repeat refine pm_B.next rfl rfl ?_
    exact q_zret rfl (Or.inl rfl) (by rw [if_neg h])
  · have h := of_decide_eq_false h
    repeat refine pm_B.next rfl rfl ?_
    exact q_zret rfl (Or.inr rfl) (by rw [if_pos (Decidable.not_not.mp h)])
theorem x_Sd_moveTo {s n : Nat} {v : Int32} (k : kS S P s) (hd : A s 4 = nI (n + 1)) (hn : n < 8) : EE d M_Sd_moveTo [.ref s, .int v] SL S A P (fun r => r = ((131, SL, S, pm_u A (s + 2) n v, P), none)) := by
  obtain ⟨⟨s0, s1, s2, s3⟩, p1, p2, p3⟩ := k
  refine q_of (tb := fun j => tb_Sd_moveTo[j]?) rfl rfl (Nat.le_of_ble_eq_true rfl) ?_
  show BB _ _ 0 [.ref s, .int v] [] _ _ _ _ _
  repeat (first | refine pm_B.next rfl rfl ?_ | refine q_getr rfl (by assumption) (by decide) (by assumption) ?_ | refine q_geti rfl (by assumption) (by decide) (by assumption) ?_ | refine q_iald rfl (by assumption) _ rfl (by first | assumption | omega) (by decide) rfl ?_ | refine q_puti rfl (by assumption) (by decide) ?_ | refine q_iast rfl (by assumption) _ rfl (by first | assumption | omega) (by decide) ?_)
  refine q_iast rfl s2 n (nI_pred n) hn (by decide) ?_
  exact q_vret rfl rfl
theorem x_Sd_enter {s n : Nat} {v : Int32} (k : kS S P s) (hd : A s 4 = nI n) (hn : n ≤ 8) : EE d M_Sd_enter [.ref s, .int v] SL S A P (fun r => (n = 8 ∧ r = ((131, SL, S, A, P), none)) ∨ (n < 8 ∧ r = ((131, SL, S, pm_u (pm_u (pm_u A (s + 1) n v) (s + 2) n 0) s 4 (nI (n + 1)), P), none))) := by
  obtain ⟨⟨s0, s1, s2, s3⟩, p1, p2, p3⟩ := k
  refine q_of (tb := fun j => tb_Sd_enter[j]?) rfl rfl (Nat.le_of_ble_eq_true rfl) ?_
  show BB _ _ 0 [.ref s, .int v] [] _ _ _ _ _
  repeat (first | refine pm_B.next rfl rfl ?_ | refine q_getr rfl (by assumption) (by decide) (by assumption) ?_ | refine q_geti rfl (by assumption) (by decide) (by assumption) ?_ | refine q_iald rfl (by assumption) _ rfl (by first | assumption | omega) (by decide) rfl ?_ | refine q_puti rfl (by assumption) (by decide) ?_ | refine q_iast rfl (by assumption) _ rfl (by first | assumption | omega) (by decide) ?_)
  refine r_ic rfl (fun h => ?_) (fun h => ?_)
  · have h : n = 8 := by
      have h := of_decide_eq_true h
      have := (nI_leI (a := 8) (b := n) (by omega) (by omega)).mp h
      omega
    repeat refine pm_B.next rfl rfl ?_
    exact q_vret rfl (Or.inl ⟨h, rfl⟩)
  · have hlt : n < 8 := by
      have h := of_decide_eq_false h
      have := mt (nI_leI (a := 8) (b := n) (by omega) (by omega)).mpr h
      omega
    repeat (first | refine pm_B.next rfl rfl ?_ | refine q_getr rfl (by assumption) (by decide) (by assumption) ?_ | refine q_geti rfl (by assumption) (by decide) (by assumption) ?_ | refine q_iald rfl (by assumption) _ rfl (by first | assumption | omega) (by decide) rfl ?_ | refine q_puti rfl (by assumption) (by decide) ?_ | refine q_iast rfl (by assumption) _ rfl (by first | assumption | omega) (by decide) ?_)
    refine q_geti rfl s0 (by decide) (v := nI n) (by rw [u_nc (by omega), hd]) ?_
    repeat (first | refine pm_B.next rfl rfl ?_ | refine q_getr rfl (by assumption) (by decide) (by assumption) ?_ | refine q_geti rfl (by assumption) (by decide) (by assumption) ?_ | refine q_iald rfl (by assumption) _ rfl (by first | assumption | omega) (by decide) rfl ?_ | refine q_puti rfl (by assumption) (by decide) ?_ | refine q_iast rfl (by assumption) _ rfl (by first | assumption | omega) (by decide) ?_)
    refine q_geti rfl s0 (by decide) (v := nI n) (by rw [u_nc (by omega), u_nc (by omega), hd]) ?_
    repeat refine pm_B.next rfl rfl ?_
    refine q_top (nI_1 n) ?_
    repeat (first | refine pm_B.next rfl rfl ?_ | refine q_getr rfl (by assumption) (by decide) (by assumption) ?_ | refine q_geti rfl (by assumption) (by decide) (by assumption) ?_ | refine q_iald rfl (by assumption) _ rfl (by first | assumption | omega) (by decide) rfl ?_ | refine q_puti rfl (by assumption) (by decide) ?_ | refine q_iast rfl (by assumption) _ rfl (by first | assumption | omega) (by decide) ?_)
    exact q_vret rfl (Or.inr ⟨hlt, rfl⟩)
end OBJS
