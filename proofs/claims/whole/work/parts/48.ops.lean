section OPS
theorem in_one {v : Int32} {T : Nat} (hT : T < 2 ^ 31) (h : in_ v (nI T) = 1) : ∃ t, t < T ∧ v = nI t := by
  unfold in_ at h
  by_cases g : ¬ v < 0 ∧ ¬ nI T ≤ v
  · obtain ⟨j, hj, e⟩ := nI_of g.1
    refine ⟨j, ?_, e⟩
    exact Classical.byContradiction fun z => g.2 (by rw [e]; exact nI_le (by omega) hj)
  · rw [if_neg g] at h
    exact absurd h (by decide)
variable {d : Nat} {SL : Nat} {S : Nat → Nat × Nat} {A : Nat → Nat → Int32} {P : Nat → Nat → Option Nat}
/-- an int comes back, with Q -/
def RR (SL : Nat) (S : Nat → Nat × Nat) (Q : Int32 → (Nat → Nat → Int32) → (Nat → Nat → Option Nat) → Prop) (r : pm_R) : Prop := ∃ x A1 P1, r = ((131, SL, S, A1, P1), some (.int x)) ∧ Q x A1 P1
/-- a call of the class and the same call of the reference: the same answer, and all is as it must be -/
def O2 (d mR : Nat) (a : List Value) (SL : Nat) (S : Nat → Nat × Nat) (x : Int32) (A1 : Nat → Nat → Int32) (P1 : Nat → Nat → Option Nat) : Prop := EE (d + 6) mR (.ref 111 :: a) SL S A1 P1 (fun r => ∃ A2, r = ((131, SL, S, A2, P1), some (.int x)) ∧ Inv A2 P1 ∧ KK S P1)
def OP (d mC mR : Nat) (a : List Value) (SL : Nat) (S : Nat → Nat × Nat) (A : Nat → Nat → Int32) (P : Nat → Nat → Option Nat) : Prop := EE (d + 6) mC (.ref 0 :: a) SL S A P (RR SL S (O2 d mR a SL S))
theorem w_statement {kd nm : Int32} {Q : Int32 → (Nat → Nat → Int32) → (Nat → Nat → Option Nat) → Prop} (k : KK S P) (h : EE d M_Sh_addStatement [.ref 1, .int kd, .int nm] SL S A P (RR SL S Q)) : EE (d + 1) M_Lo_statement [.ref 0, .int kd, .int nm] SL S A P (RR SL S Q) := by
  obtain ⟨⟨⟨s0, s1, s2, s3, s4, s5, s6⟩, -⟩, -, -, o0, o1, o2⟩ := k
  refine q_of (tb := fun j => tb_Lo_statement[j]?) rfl rfl (Nat.le_of_ble_eq_true rfl) ?_
  show BB _ _ 0 [.ref 0, .int kd, .int nm] [] _ _ _ _ _
  iterate 1 refine pm_B.next rfl rfl ?_
  refine q_getr rfl o0 (by decide) o1 ?_
  iterate 2 refine pm_B.next rfl rfl ?_
  refine q_callv (a := [.int kd, .int nm]) rfl s4 rfl (Nat.le_of_ble_eq_true rfl) (Nat.le_of_ble_eq_true rfl) h (fun h1 v hv => ?_)
  obtain ⟨x, A1, P1, he, hq⟩ := hv
  cases he
  exact q_iret rfl ⟨x, A1, P1, rfl, hq⟩
theorem w_body {rq : Int32} {Q : Int32 → (Nat → Nat → Int32) → (Nat → Nat → Option Nat) → Prop} (k : KK S P) (h : EE d M_Sh_closeText [.ref 1, .int (rq &&& 15)] SL S A P (RR SL S Q)) : EE (d + 1) M_Lo_body [.ref 0, .int rq] SL S A P (RR SL S Q) := by
  obtain ⟨⟨⟨s0, s1, s2, s3, s4, s5, s6⟩, -⟩, -, -, o0, o1, o2⟩ := k
  refine q_of (tb := fun j => tb_Lo_body[j]?) rfl rfl (Nat.le_of_ble_eq_true rfl) ?_
  show BB _ _ 0 [.ref 0, .int rq] [] _ _ _ _ _
  iterate 1 refine pm_B.next rfl rfl ?_
  refine q_getr rfl o0 (by decide) o1 ?_
  iterate 3 refine pm_B.next rfl rfl ?_
  refine q_callv (a := [.int (rq &&& 15)]) rfl s4 rfl (Nat.le_of_ble_eq_true rfl) (Nat.le_of_ble_eq_true rfl) h (fun h1 v hv => ?_)
  obtain ⟨x, A1, P1, he, hq⟩ := hv
  cases he
  exact q_iret rfl ⟨x, A1, P1, rfl, hq⟩
theorem w_guard {c l : Int32} {Q : Int32 → (Nat → Nat → Int32) → (Nat → Nat → Option Nat) → Prop} (k : KK S P) (h : EE d M_Sh_setGuard [.ref 1, .int c, .int l] SL S A P (RR SL S Q)) (hz : ∀ x A1 P1, Q x A1 P1 → x = 0 ∨ x = 1) : EE (d + 1) M_Lo_guard [.ref 0, .int c, .int l] SL S A P (RR SL S Q) := by
  obtain ⟨⟨⟨s0, s1, s2, s3, s4, s5, s6⟩, -⟩, -, -, o0, o1, o2⟩ := k
  refine q_of (tb := fun j => tb_Lo_guard[j]?) rfl rfl (Nat.le_of_ble_eq_true rfl) ?_
  show BB _ _ 0 [.ref 0, .int c, .int l] [] _ _ _ _ _
  iterate 1 refine pm_B.next rfl rfl ?_
  refine q_getr rfl o0 (by decide) o1 ?_
  iterate 2 refine pm_B.next rfl rfl ?_
  refine q_callv (a := [.int c, .int l]) rfl s4 rfl (Nat.le_of_ble_eq_true rfl) (Nat.le_of_ble_eq_true rfl) h (fun h1 v hv => ?_)
  obtain ⟨x, A1, P1, he, hq⟩ := hv
  cases he
  exact q_zret rfl (hz x A1 P1 hq) ⟨x, A1, P1, rfl, hq⟩
theorem w_sound {Q : Int32 → (Nat → Nat → Int32) → (Nat → Nat → Option Nat) → Prop} (k : KK S P) (h : EE d M_Sh_allRight [.ref 1] SL S A P (RR SL S Q)) (hz : ∀ x A1 P1, Q x A1 P1 → x = 0 ∨ x = 1) : EE (d + 1) M_Lo_sound [.ref 0] SL S A P (RR SL S Q) := by
  obtain ⟨⟨⟨s0, s1, s2, s3, s4, s5, s6⟩, -⟩, -, -, o0, o1, o2⟩ := k
  refine q_of (tb := fun j => tb_Lo_sound[j]?) rfl rfl (Nat.le_of_ble_eq_true rfl) ?_
  show BB _ _ 0 [.ref 0] [] _ _ _ _ _
  iterate 1 refine pm_B.next rfl rfl ?_
  refine q_getr rfl o0 (by decide) o1 ?_
  refine q_callv (a := []) rfl s4 rfl (Nat.le_of_ble_eq_true rfl) (Nat.le_of_ble_eq_true rfl) h (fun h1 v hv => ?_)
  obtain ⟨x, A1, P1, he, hq⟩ := hv
  cases he
  exact q_zret rfl (hz x A1 P1 hq) ⟨x, A1, P1, rfl, hq⟩
theorem w_step {v : Int32} {Q : Int32 → (Nat → Nat → Int32) → (Nat → Nat → Option Nat) → Prop} (k : KK S P) (h : EE d M_Ru_advance [.ref 49, .int v] SL S A P (RR SL S Q)) : EE (d + 1) M_Lo_step [.ref 0, .int v] SL S A P (RR SL S Q) := by
  obtain ⟨⟨⟨s0, s1, s2, s3, s4, s5, s6⟩, -⟩, -, -, o0, o1, o2⟩ := k
  refine q_of (tb := fun j => tb_Lo_step[j]?) rfl rfl (Nat.le_of_ble_eq_true rfl) ?_
  show BB _ _ 0 [.ref 0, .int v] [] _ _ _ _ _
  iterate 1 refine pm_B.next rfl rfl ?_
  refine q_getr rfl o0 (by decide) o2 ?_
  iterate 1 refine pm_B.next rfl rfl ?_
  refine q_callv (a := [.int v]) rfl s0 rfl (Nat.le_of_ble_eq_true rfl) (Nat.le_of_ble_eq_true rfl) h (fun h1 v hv => ?_)
  obtain ⟨x, A1, P1, he, hq⟩ := hv
  cases he
  exact q_iret rfl ⟨x, A1, P1, rfl, hq⟩
theorem w_has {v : Int32} {Q : Int32 → (Nat → Nat → Int32) → (Nat → Nat → Option Nat) → Prop} (k : KK S P) (h : EE d M_Ru_valueOf [.ref 49, .int v] SL S A P (RR SL S Q)) : EE (d + 1) M_Lo_has [.ref 0, .int v] SL S A P (RR SL S Q) := by
  obtain ⟨⟨⟨s0, s1, s2, s3, s4, s5, s6⟩, -⟩, -, -, o0, o1, o2⟩ := k
  refine q_of (tb := fun j => tb_Lo_has[j]?) rfl rfl (Nat.le_of_ble_eq_true rfl) ?_
  show BB _ _ 0 [.ref 0, .int v] [] _ _ _ _ _
  iterate 1 refine pm_B.next rfl rfl ?_
  refine q_getr rfl o0 (by decide) o2 ?_
  iterate 1 refine pm_B.next rfl rfl ?_
  refine q_callv (a := [.int v]) rfl s0 rfl (Nat.le_of_ble_eq_true rfl) (Nat.le_of_ble_eq_true rfl) h (fun h1 v hv => ?_)
  obtain ⟨x, A1, P1, he, hq⟩ := hv
  cases he
  exact q_iret rfl ⟨x, A1, P1, rfl, hq⟩
theorem w_cell {v : Int32} {Q : Int32 → (Nat → Nat → Int32) → (Nat → Nat → Option Nat) → Prop} (k : KK S P) (h : EE d M_Ru_contentOf [.ref 49, .int v] SL S A P (RR SL S Q)) : EE (d + 1) M_Lo_cell [.ref 0, .int v] SL S A P (RR SL S Q) := by
  obtain ⟨⟨⟨s0, s1, s2, s3, s4, s5, s6⟩, -⟩, -, -, o0, o1, o2⟩ := k
  refine q_of (tb := fun j => tb_Lo_cell[j]?) rfl rfl (Nat.le_of_ble_eq_true rfl) ?_
  show BB _ _ 0 [.ref 0, .int v] [] _ _ _ _ _
  iterate 1 refine pm_B.next rfl rfl ?_
  refine q_getr rfl o0 (by decide) o2 ?_
  iterate 1 refine pm_B.next rfl rfl ?_
  refine q_callv (a := [.int v]) rfl s0 rfl (Nat.le_of_ble_eq_true rfl) (Nat.le_of_ble_eq_true rfl) h (fun h1 v hv => ?_)
  obtain ⟨x, A1, P1, he, hq⟩ := hv
  cases he
  exact q_iret rfl ⟨x, A1, P1, rfl, hq⟩
theorem w_holder {v : Int32} {Q : Int32 → (Nat → Nat → Int32) → (Nat → Nat → Option Nat) → Prop} (k : KK S P) (h : EE d M_Ru_holderOf [.ref 49, .int v] SL S A P (RR SL S Q)) : EE (d + 1) M_Lo_holder [.ref 0, .int v] SL S A P (RR SL S Q) := by
  obtain ⟨⟨⟨s0, s1, s2, s3, s4, s5, s6⟩, -⟩, -, -, o0, o1, o2⟩ := k
  refine q_of (tb := fun j => tb_Lo_holder[j]?) rfl rfl (Nat.le_of_ble_eq_true rfl) ?_
  show BB _ _ 0 [.ref 0, .int v] [] _ _ _ _ _
  iterate 1 refine pm_B.next rfl rfl ?_
  refine q_getr rfl o0 (by decide) o2 ?_
  iterate 1 refine pm_B.next rfl rfl ?_
  refine q_callv (a := [.int v]) rfl s0 rfl (Nat.le_of_ble_eq_true rfl) (Nat.le_of_ble_eq_true rfl) h (fun h1 v hv => ?_)
  obtain ⟨x, A1, P1, he, hq⟩ := hv
  cases he
  exact q_iret rfl ⟨x, A1, P1, rfl, hq⟩
theorem w_state {v : Int32} {Q : Int32 → (Nat → Nat → Int32) → (Nat → Nat → Option Nat) → Prop} (k : KK S P) (h : EE d M_Ru_stateOf [.ref 49, .int v] SL S A P (RR SL S Q)) : EE (d + 1) M_Lo_state [.ref 0, .int v] SL S A P (RR SL S Q) := by
  obtain ⟨⟨⟨s0, s1, s2, s3, s4, s5, s6⟩, -⟩, -, -, o0, o1, o2⟩ := k
  refine q_of (tb := fun j => tb_Lo_state[j]?) rfl rfl (Nat.le_of_ble_eq_true rfl) ?_
  show BB _ _ 0 [.ref 0, .int v] [] _ _ _ _ _
  iterate 1 refine pm_B.next rfl rfl ?_
  refine q_getr rfl o0 (by decide) o2 ?_
  iterate 1 refine pm_B.next rfl rfl ?_
  refine q_callv (a := [.int v]) rfl s0 rfl (Nat.le_of_ble_eq_true rfl) (Nat.le_of_ble_eq_true rfl) h (fun h1 v hv => ?_)
  obtain ⟨x, A1, P1, he, hq⟩ := hv
  cases he
  exact q_iret rfl ⟨x, A1, P1, rfl, hq⟩
theorem w_count {v : Int32} {Q : Int32 → (Nat → Nat → Int32) → (Nat → Nat → Option Nat) → Prop} (k : KK S P) (h : EE d M_Ru_countOf [.ref 49, .int v] SL S A P (RR SL S Q)) : EE (d + 1) M_Lo_count [.ref 0, .int v] SL S A P (RR SL S Q) := by
  obtain ⟨⟨⟨s0, s1, s2, s3, s4, s5, s6⟩, -⟩, -, -, o0, o1, o2⟩ := k
  refine q_of (tb := fun j => tb_Lo_count[j]?) rfl rfl (Nat.le_of_ble_eq_true rfl) ?_
  show BB _ _ 0 [.ref 0, .int v] [] _ _ _ _ _
  iterate 1 refine pm_B.next rfl rfl ?_
  refine q_getr rfl o0 (by decide) o2 ?_
  iterate 1 refine pm_B.next rfl rfl ?_
  refine q_callv (a := [.int v]) rfl s0 rfl (Nat.le_of_ble_eq_true rfl) (Nat.le_of_ble_eq_true rfl) h (fun h1 v hv => ?_)
  obtain ⟨x, A1, P1, he, hq⟩ := hv
  cases he
  exact q_iret rfl ⟨x, A1, P1, rfl, hq⟩
theorem w_race {v w : Int32} {Q : Int32 → (Nat → Nat → Int32) → (Nat → Nat → Option Nat) → Prop} (k : KK S P) (h : EE d M_Ru_racePart [.ref 49, .int v, .int w] SL S A P (RR SL S Q)) : EE (d + 1) M_Lo_race [.ref 0, .int v, .int w] SL S A P (RR SL S Q) := by
  obtain ⟨⟨⟨s0, s1, s2, s3, s4, s5, s6⟩, -⟩, -, -, o0, o1, o2⟩ := k
  refine q_of (tb := fun j => tb_Lo_race[j]?) rfl rfl (Nat.le_of_ble_eq_true rfl) ?_
  show BB _ _ 0 [.ref 0, .int v, .int w] [] _ _ _ _ _
  iterate 1 refine pm_B.next rfl rfl ?_
  refine q_getr rfl o0 (by decide) o2 ?_
  iterate 2 refine pm_B.next rfl rfl ?_
  refine q_callv (a := [.int v, .int w]) rfl s0 rfl (Nat.le_of_ble_eq_true rfl) (Nat.le_of_ble_eq_true rfl) h (fun h1 v hv => ?_)
  obtain ⟨x, A1, P1, he, hq⟩ := hv
  cases he
  exact q_iret rfl ⟨x, A1, P1, rfl, hq⟩
theorem w_stuck {Q : Int32 → (Nat → Nat → Int32) → (Nat → Nat → Option Nat) → Prop} (k : KK S P) (h : EE d M_Ru_isStuck [.ref 49] SL S A P (RR SL S Q)) (hz : ∀ x A1 P1, Q x A1 P1 → x = 0 ∨ x = 1) : EE (d + 1) M_Lo_stuck [.ref 0] SL S A P (RR SL S Q) := by
  obtain ⟨⟨⟨s0, s1, s2, s3, s4, s5, s6⟩, -⟩, -, -, o0, o1, o2⟩ := k
  refine q_of (tb := fun j => tb_Lo_stuck[j]?) rfl rfl (Nat.le_of_ble_eq_true rfl) ?_
  show BB _ _ 0 [.ref 0] [] _ _ _ _ _
  iterate 1 refine pm_B.next rfl rfl ?_
  refine q_getr rfl o0 (by decide) o2 ?_
  refine q_callv (a := []) rfl s0 rfl (Nat.le_of_ble_eq_true rfl) (Nat.le_of_ble_eq_true rfl) h (fun h1 v hv => ?_)
  obtain ⟨x, A1, P1, he, hq⟩ := hv
  cases he
  exact q_zret rfl (hz x A1 P1 hq) ⟨x, A1, P1, rfl, hq⟩
theorem rr_eq {w : Int32} {m : Nat} {a : List Value} {Q : Int32 → (Nat → Nat → Int32) → (Nat → Nat → Option Nat) → Prop} (h : EE d m a SL S A P (fun r => r = ((131, SL, S, A, P), some (.int w)))) (hq : Q w A P) : EE d m a SL S A P (RR SL S Q) := pm_E.weaken h (fun r hr => ⟨w, A, P, hr, hq⟩)
theorem o2_eq {w : Int32} {m : Nat} {a : List Value} (h : EE (d + 6) m (.ref 111 :: a) SL S A P (fun r => r = ((131, SL, S, A, P), some (.int w)))) (i : Inv A P) (k : KK S P) : O2 d m a SL S w A P := pm_E.weaken h (fun r hr => ⟨A, hr, i, k⟩)
theorem op_has {v : Int32} (k : KK S P) (i : Inv A P) : OP d M_Lo_has M_Mo_has [.int v] SL S A P := by
  have i0 := i
  obtain ⟨n, SZ, bq, T, st, rc, D, TM, TH, FB, FP, is, it, il, ik, ia⟩ := i
  have T6 := it.T6
  rcases in_z v (nI T) with hz | hz
  · exact pm_E.ups (w_has k (rr_eq (x_valueOf (d := d) k.1 it.cT v 0 (Or.inl ⟨hz, rfl⟩)) (o2_eq (pm_E.ups (x_Mo_has (d := d) k.2.1 it.run it.mT v _ (Or.inl ⟨Or.inr hz, rfl⟩)) (by omega)) i0 k))) (by omega)
  · obtain ⟨t, ht, e⟩ := in_one (by omega) hz
    exact pm_E.ups (w_has k (rr_eq (x_valueOf (d := d) k.1 it.cT v _ (Or.inr ⟨t, e, ht, it.T6, rfl⟩)) (o2_eq (pm_E.ups (x_Mo_has (d := d) k.2.1 it.run it.mT v _ (Or.inr ⟨by rw [if_neg (by omega)]; decide, t, e, ht, it.T6, (it.val t ht).symm⟩)) (by omega)) i0 k))) (by omega)
theorem op_cell {v : Int32} (k : KK S P) (i : Inv A P) : OP d M_Lo_cell M_Mo_cell [.int v] SL S A P := by
  have i0 := i
  obtain ⟨n, SZ, bq, T, st, rc, D, TM, TH, FB, FP, is, it, il, ik, ia⟩ := i
  rcases in_z v (nI 8) with hz | hz
  · exact pm_E.ups (w_cell k (rr_eq (x_contentOf (d := d) k.1 v 0 (Or.inl ⟨hz, rfl⟩)) (o2_eq (pm_E.ups (x_Mo_cell (d := d) k.2.1 it.run v _ (Or.inl ⟨Or.inr hz, rfl⟩)) (by omega)) i0 k))) (by omega)
  · obtain ⟨t, ht, e⟩ := in_one (by decide) hz
    by_cases hT : T = 0
    · have r0 := it.run
      rw [if_pos hT] at r0
      have e2 : A (87 + 3 * t) 2 = 0 := (it.cel t ht).trans (it.ce0 hT t ht)
      exact pm_E.ups (w_cell k (rr_eq (x_contentOf (d := d) k.1 v 0 (Or.inr ⟨t, e, ht, e2⟩)) (o2_eq (pm_E.ups (x_Mo_cell (d := d) k.2.1 r0 v _ (Or.inl ⟨Or.inl rfl, rfl⟩)) (by omega)) i0 k))) (by omega)
    · exact pm_E.ups (w_cell k (rr_eq (x_contentOf (d := d) k.1 v _ (Or.inr ⟨t, e, ht, rfl⟩)) (o2_eq (pm_E.ups (x_Mo_cell (d := d) k.2.1 it.run v _ (Or.inr ⟨by rw [if_neg hT]; decide, t, e, ht, (it.cel t ht).symm⟩)) (by omega)) i0 k))) (by omega)
theorem op_holder {v : Int32} (k : KK S P) (i : Inv A P) : OP d M_Lo_holder M_Mo_holder [.int v] SL S A P := by
  have i0 := i
  obtain ⟨n, SZ, bq, T, st, rc, D, TM, TH, FB, FP, is, it, il, ik, ia⟩ := i
  rcases in_z v (nI 4) with hz | hz
  · exact pm_E.ups (w_holder k (rr_eq (x_holderOf (d := d) k.1 v _ (Or.inl ⟨hz, rfl⟩)) (o2_eq (pm_E.ups (x_Mo_holder (d := d) k.2.1 it.run v _ (Or.inl ⟨Or.inr hz, rfl⟩)) (by omega)) i0 k))) (by omega)
  · obtain ⟨t, ht, e⟩ := in_one (by decide) hz
    by_cases hT : T = 0
    · have r0 := it.run
      rw [if_pos hT] at r0
      exact pm_E.ups (w_holder k (rr_eq (x_holderOf (d := d) k.1 v _ (Or.inr ⟨t, e, ht, il.lk0 hT t ht⟩)) (o2_eq (pm_E.ups (x_Mo_holder (d := d) k.2.1 r0 v _ (Or.inl ⟨Or.inl rfl, rfl⟩)) (by omega)) i0 k))) (by omega)
    · exact pm_E.ups (w_holder k (rr_eq (x_holderOf (d := d) k.1 v _ (Or.inr ⟨t, e, ht, rfl⟩)) (o2_eq (pm_E.ups (x_Mo_holder (d := d) k.2.1 it.run v _ (Or.inr ⟨by rw [if_neg hT]; decide, t, e, ht, (il.lks hT t ht).1.symm⟩)) (by omega)) i0 k))) (by omega)
theorem op_count {v : Int32} (k : KK S P) (i : Inv A P) : OP d M_Lo_count M_Mo_count [.int v] SL S A P := by
  have i0 := i
  obtain ⟨n, SZ, bq, T, st, rc, D, TM, TH, FB, FP, is, it, il, ik, ia⟩ := i
  have T6 := it.T6
  have key := x_Mo_count (d := d) (SL := SL) k.2.1 it.run it.mT it.mst ia.mrc v
  have e : (if (if T = 0 then (0 : Int32) else 1) = 0 then (-1 : Int32) else if v = 0 then nI T else if v = 1 then nI st else if v = 2 then nI rc else -1) = (if nI T = 0 then -1 else if v = 0 then nI T else if v = 1 then nI st else if v = 2 then nI rc else -1) := by
    by_cases hT : T = 0
    · subst hT; rfl
    · rw [if_neg hT, if_neg (by decide), if_neg (nI_ne0 (by omega) (by omega))]
  rw [e] at key
  exact pm_E.ups (w_count k (rr_eq (x_countOf (d := d) k.1 it.cT it.cst ia.crc v) (o2_eq (pm_E.ups key (by omega)) i0 k))) (by omega)
theorem op_race {v w : Int32} (k : KK S P) (i : Inv A P) : OP d M_Lo_race M_Mo_race [.int v, .int w] SL S A P := by
  have i0 := i
  obtain ⟨n, SZ, bq, T, st, rc, D, TM, TH, FB, FP, is, it, il, ik, ia⟩ := i
  have T6 := it.T6
  have r1 := ia.rcs
  have r2 := it.st4
  rcases in_z v (nI (min rc 64)) with hz | hz
  · have hb : v < 0 ∨ nI rc ≤ v ∨ ¬ v < 64 := by
      refine Classical.byContradiction fun g => ?_
      have g1 : ¬ v < 0 := fun z => g (Or.inl z)
      have g2 : ¬ nI rc ≤ v := fun z => g (Or.inr (Or.inl z))
      have g3 : v < 64 := Classical.byContradiction fun z => g (Or.inr (Or.inr z))
      obtain ⟨j, hj, e⟩ := nI_of g1
      subst e
      have h1 : j < rc := Classical.byContradiction fun z => g2 (nI_le (by omega) hj)
      have h2 : j < 64 := (nI_ltI hj (by decide)).mp (show nI j < nI 64 from g3)
      rw [in_nI (by omega) (by omega), if_pos (by omega)] at hz
      exact absurd hz (by decide)
    exact pm_E.ups (w_race k (rr_eq (x_racePart (d := d) k.1 ia.crc (by omega) (Or.inl ⟨Or.inl hz, rfl⟩)) (o2_eq (pm_E.ups (x_Mo_race (d := d) k.2.1 it.run ia.mrc (Or.inl ⟨Or.inr hb, rfl⟩)) (by omega)) i0 k))) (by omega)
  · obtain ⟨j, hj, e⟩ := in_one (by omega) hz
    subst e
    have hT : T ≠ 0 := fun z => by
      have := ik.thr 0 (by omega)
      omega
    obtain ⟨s, τ, c, b, h1, h2, h3, h4, h5, h6, h7, h8, h9, h10⟩ := ia.log j (by omega) (by omega)
    have hr : (if T = 0 then (0 : Int32) else 1) ≠ 0 := by rw [if_neg hT]; decide
    rcases in_z w (nI 4) with hw | hw
    · exact pm_E.ups (w_race k (rr_eq (x_racePart (d := d) k.1 ia.crc (by omega) (Or.inl ⟨Or.inr hw, rfl⟩)) (o2_eq (pm_E.ups (x_Mo_race (d := d) k.2.1 it.run ia.mrc (Or.inr ⟨hr, by omega, j, s, τ, c, b, rfl, by omega, by omega, h5, by omega, h6, h2, h3, h4, Or.inr (Or.inr (Or.inr (Or.inr ⟨hw, rfl⟩)))⟩)) (by omega)) i0 k))) (by omega)
    · obtain ⟨m, hm, e⟩ := in_one (by decide) hw
      subst e
      have hp : rpt (nI m) s τ c b (A 54 (4 * j + m)) := by
        rcases (show m = 0 ∨ m = 1 ∨ m = 2 ∨ m = 3 by omega) with g | g | g | g
        · subst g; exact Or.inl ⟨rfl, h7⟩
        · subst g; exact Or.inr (Or.inl ⟨rfl, h8⟩)
        · subst g; exact Or.inr (Or.inr (Or.inl ⟨rfl, h9⟩))
        · subst g; exact Or.inr (Or.inr (Or.inr (Or.inl ⟨rfl, h10⟩)))
      exact pm_E.ups (w_race k (rr_eq (x_racePart (d := d) k.1 ia.crc (by omega) (Or.inr ⟨j, m, rfl, by omega, by omega, rfl, hm, rfl⟩)) (o2_eq (pm_E.ups (x_Mo_race (d := d) k.2.1 it.run ia.mrc (Or.inr ⟨hr, by omega, j, s, τ, c, b, rfl, by omega, by omega, h5, by omega, h6, h2, h3, h4, hp⟩)) (by omega)) i0 k))) (by omega)
end OPS
