section ADVANCE
variable {d : Nat} {SL : Nat} {S : Nat → Nat × Nat} {A : Nat → Nat → Int32} {P : Nat → Nat → Option Nat}
theorem x_adv_no {T st : Nat} {v : Int32} (u : kU S P) (hT : A 49 5 = nI T) (hst : A 49 6 = nI st) (h4 : st ≤ 4000) (h : in_ v (nI T) = 0 ∨ st = 4000) : EE (d + 1) M_Ru_advance [.ref 49, .int v] SL S A P (fun r => r = ((131, SL, S, A, P), some (.int (-1)))) := by
  obtain ⟨⟨s0, s1, s2, s3, s4, s5, s6⟩, ⟨p0, p1, p2, p3, p4, p5, p6⟩, us, ul, uc, ur⟩ := id u
  refine q_of (tb := fun j => tb_Ru_advance[j]?) rfl rfl (Nat.le_of_ble_eq_true rfl) ?_
  show BB _ _ 0 [.ref 49, .int v, .null] [] _ _ _ _ _
  iterate 2 refine pm_B.next rfl rfl ?_
  refine q_geti rfl s0 (by decide) hT ?_
  refine q_cs (a := [.int v, .int (nI T)]) rfl rfl (Nat.le_of_ble_eq_true rfl) (Nat.le_of_ble_eq_true rfl) (x_isBelow v (nI T)) ?_
  rcases in_z v (nI T) with hz | hz
  · refine q_top hz ?_
    refine r_ifT rfl rfl ?_
    iterate 1 refine pm_B.next rfl rfl ?_
    exact q_iret rfl rfl
  · refine q_top hz ?_
    refine r_ifF rfl rfl ?_
    iterate 1 refine pm_B.next rfl rfl ?_
    refine q_geti rfl s0 (by decide) hst ?_
    have : st = 4000 := h.resolve_left (by rw [hz]; decide)
    rw [this]
    iterate 1 refine pm_B.next rfl rfl ?_
    refine r_icF rfl rfl ?_
    iterate 1 refine pm_B.next rfl rfl ?_
    exact q_iret rfl rfl
theorem x_adv_done {T t st : Nat} (u : kU S P) (hT : A 49 5 = nI T) (htT : t < T) (hT6 : T ≤ 6) (hst : A 49 6 = nI st) (h4 : st < 4000) (hd : A (55 + 4 * t) 4 = 0) : EE (d + 1) M_Ru_advance [.ref 49, .int (nI t)] SL S A P (fun r => r = ((131, SL, S, A, P), some (.int (-1)))) := by
  obtain ⟨⟨s0, s1, s2, s3, s4, s5, s6⟩, ⟨p0, p1, p2, p3, p4, p5, p6⟩, us, ul, uc, ur⟩ := id u
  obtain ⟨ps, ks⟩ := us t (by omega)
  refine q_of (tb := fun j => tb_Ru_advance[j]?) rfl rfl (Nat.le_of_ble_eq_true rfl) ?_
  show BB _ _ 0 [.ref 49, .int (nI t), .null] [] _ _ _ _ _
  iterate 2 refine pm_B.next rfl rfl ?_
  refine q_geti rfl s0 (by decide) hT ?_
  refine q_cs (a := [.int (nI t), .int (nI T)]) rfl rfl (Nat.le_of_ble_eq_true rfl) (Nat.le_of_ble_eq_true rfl) (x_isBelow _ _) ?_
  refine q_top (show in_ (nI t) (nI T) = 1 by rw [in_nI (by omega) (by omega), if_pos htT]) ?_
  refine r_ifF rfl rfl ?_
  iterate 1 refine pm_B.next rfl rfl ?_
  refine q_geti rfl s0 (by decide) hst ?_
  iterate 1 refine pm_B.next rfl rfl ?_
  refine r_icT rfl (decide_eq_true (nI_lt (a := st) (b := 4000) h4 (by decide))) ?_
  iterate 1 refine pm_B.next rfl rfl ?_
  refine q_getr rfl s0 (by decide) p1 ?_
  iterate 1 refine pm_B.next rfl rfl ?_
  refine q_aald rfl s1 t rfl (by omega) (by decide) ps ?_
  iterate 2 refine pm_B.next rfl rfl ?_
  refine q_cv (a := []) rfl ks.1.1 rfl (Nat.le_of_ble_eq_true rfl) (Nat.le_of_ble_eq_true rfl) (x_Sd_isDone ks hd) ?_
  refine r_ifF rfl rfl ?_
  iterate 1 refine pm_B.next rfl rfl ?_
  exact q_iret rfl rfl
theorem x_adv_wait {T t st n b q p l : Nat} {ow : Int32} (u : kU S P) (hT : A 49 5 = nI T) (htT : t < T) (hT6 : T ≤ 6) (hst : A 49 6 = nI st) (h4 : st < 4000) (tp : tpC S A P t n b q p) (hl : A (q + 1) p = 4 → l < 4 ∧ A (q + 2) p = nI l ∧ A (79 + 2 * l) 1 = ow) (hnb : A (55 + 4 * t) 0 = nI t) (hw : wt_ (A (q + 1) p) ow (nI t) = 1) : EE (d + 2) M_Ru_advance [.ref 49, .int (nI t)] SL S A P (fun r => r = ((131, SL, S, A, P), some (.int 0))) := by
  obtain ⟨⟨s0, s1, s2, s3, s4, s5, s6⟩, ⟨p0, p1, p2, p3, p4, p5, p6⟩, us, ul, uc, ur⟩ := id u
  obtain ⟨ps, ks⟩ := us t (by omega)
  obtain ⟨hd, hn, hb, hb8, hq, kb, hq45, hp, hp64⟩ := tp
  refine q_of (tb := fun j => tb_Ru_advance[j]?) rfl rfl (Nat.le_of_ble_eq_true rfl) ?_
  show BB _ _ 0 [.ref 49, .int (nI t), .null] [] _ _ _ _ _
  iterate 2 refine pm_B.next rfl rfl ?_
  refine q_geti rfl s0 (by decide) hT ?_
  refine q_cs (a := [.int (nI t), .int (nI T)]) rfl rfl (Nat.le_of_ble_eq_true rfl) (Nat.le_of_ble_eq_true rfl) (x_isBelow _ _) ?_
  refine q_top (show in_ (nI t) (nI T) = 1 by rw [in_nI (by omega) (by omega), if_pos htT]) ?_
  refine r_ifF rfl rfl ?_
  iterate 1 refine pm_B.next rfl rfl ?_
  refine q_geti rfl s0 (by decide) hst ?_
  iterate 1 refine pm_B.next rfl rfl ?_
  refine r_icT rfl (decide_eq_true (nI_lt (a := st) (b := 4000) h4 (by decide))) ?_
  iterate 1 refine pm_B.next rfl rfl ?_
  refine q_getr rfl s0 (by decide) p1 ?_
  iterate 1 refine pm_B.next rfl rfl ?_
  refine q_aald rfl s1 t rfl (by omega) (by decide) ps ?_
  iterate 2 refine pm_B.next rfl rfl ?_
  refine q_cv (a := []) rfl ks.1.1 rfl (Nat.le_of_ble_eq_true rfl) (Nat.le_of_ble_eq_true rfl) (x_Sd_isDone ks hd) ?_
  rw [if_neg (show ¬ nI (n + 1) = 0 from nI_ne (a := n + 1) (b := 0) (by omega) (by decide) (by omega))]
  refine r_ifT rfl rfl ?_
  iterate 2 refine pm_B.next rfl rfl ?_
  refine q_cv (a := [.ref (55 + 4 * t)]) rfl s0 rfl (Nat.le_of_ble_eq_true rfl) (Nat.le_of_ble_eq_true rfl) (x_wouldWait (b := b) (q := q) (p := p) (l := l) (kd := A (q + 1) p) (ow := ow) (nb := nI t) u ks hd hn (by rw [show 55 + 4 * t + 1 = 56 + 4 * t by omega]; exact hb) hb8 hq kb (by rw [show 55 + 4 * t + 2 = 57 + 4 * t by omega]; exact hp) hp64 rfl hl hnb) ?_
  rw [hw]
  refine r_ifF rfl rfl ?_
  iterate 1 refine pm_B.next rfl rfl ?_
  exact q_iret rfl rfl
/-- a step is counted, and the thread's clock ticks -/
def tkH (A : Nat → Nat → Int32) (t st : Nat) : Nat → Nat → Int32 := pm_u (pm_u A 49 6 (nI (st + 1))) (58 + 4 * t) t (nI (st + 1))
theorem x_adv {T t st n b q p l : Nat} {ow : Int32} {bq SZ : Nat → Nat} {R : (Nat → Nat → Int32) → Nat → (Nat → Nat) → (Nat → Nat) → Prop} (u : kU S P) (hT : A 49 5 = nI T) (htT : t < T) (hT6 : T ≤ 6) (hst : A 49 6 = nI st) (h4 : st < 4000) (tp : tpC S A P t n b q p) (hl : A (q + 1) p = 4 → l < 4 ∧ A (q + 2) p = nI l ∧ A (79 + 2 * l) 1 = ow) (hnb : A (55 + 4 * t) 0 = nI t) (hw : wt_ (A (q + 1) p) ow (nI t) = 0)
    (hdo : EE (d + 1) M_Ru_perform [.ref 49, .ref (55 + 4 * t)] SL S (tkH A t st) P (fun r => ∃ A' n' bf pf, R A' n' bf pf ∧ r = ((131, SL, S, A', P), none)))
    (hR : ∀ A' n' bf pf, R A' n' bf pf → n' ≤ 8 ∧ A' (55 + 4 * t) 4 = nI n' ∧ ∀ j, j < n' → A' (56 + 4 * t) j = nI (bf j) ∧ bf j < 8 ∧ P 2 (bf j) = some (bq (bf j)) ∧ pm_is S (bq (bf j)) 18 6 ∧ A' (57 + 4 * t) j = nI (pf j) ∧ pf j < 1000 ∧ A' (bq (bf j)) 4 = nI (SZ (bf j)) ∧ SZ (bf j) < 1000 ∧ bq (bf j) < 49) :
    EE (d + 2) M_Ru_advance [.ref 49, .int (nI t)] SL S A P (fun r => ∃ A' n' bf pf, R A' n' bf pf ∧ r = ((131, SL, S, pm_u A' (55 + 4 * t) 4 (nI (lvn (fun j => decide (SZ (bf j) ≤ pf j)) n')), P), some (.int 1))) := by
  obtain ⟨⟨s0, s1, s2, s3, s4, s5, s6⟩, ⟨p0, p1, p2, p3, p4, p5, p6⟩, us, ul, uc, ur⟩ := id u
  obtain ⟨ps, ks⟩ := us t (by omega)
  obtain ⟨hd, hn, hb, hb8, hq, kb, hq45, hp, hp64⟩ := tp
  refine q_of (tb := fun j => tb_Ru_advance[j]?) rfl rfl (Nat.le_of_ble_eq_true rfl) ?_
  show BB _ _ 0 [.ref 49, .int (nI t), .null] [] _ _ _ _ _
  iterate 2 refine pm_B.next rfl rfl ?_
  refine q_geti rfl s0 (by decide) hT ?_
  refine q_cs (a := [.int (nI t), .int (nI T)]) rfl rfl (Nat.le_of_ble_eq_true rfl) (Nat.le_of_ble_eq_true rfl) (x_isBelow _ _) ?_
  refine q_top (show in_ (nI t) (nI T) = 1 by rw [in_nI (by omega) (by omega), if_pos htT]) ?_
  refine r_ifF rfl rfl ?_
  iterate 1 refine pm_B.next rfl rfl ?_
  refine q_geti rfl s0 (by decide) hst ?_
  iterate 1 refine pm_B.next rfl rfl ?_
  refine r_icT rfl (decide_eq_true (nI_lt (a := st) (b := 4000) h4 (by decide))) ?_
  iterate 1 refine pm_B.next rfl rfl ?_
  refine q_getr rfl s0 (by decide) p1 ?_
  iterate 1 refine pm_B.next rfl rfl ?_
  refine q_aald rfl s1 t rfl (by omega) (by decide) ps ?_
  iterate 2 refine pm_B.next rfl rfl ?_
  refine q_cv (a := []) rfl ks.1.1 rfl (Nat.le_of_ble_eq_true rfl) (Nat.le_of_ble_eq_true rfl) (x_Sd_isDone ks hd) ?_
  rw [if_neg (show ¬ nI (n + 1) = 0 from nI_ne (a := n + 1) (b := 0) (by omega) (by decide) (by omega))]
  refine r_ifT rfl rfl ?_
  iterate 2 refine pm_B.next rfl rfl ?_
  refine q_cv (a := [.ref (55 + 4 * t)]) rfl s0 rfl (Nat.le_of_ble_eq_true rfl) (Nat.le_of_ble_eq_true rfl) (x_wouldWait (b := b) (q := q) (p := p) (l := l) (kd := A (q + 1) p) (ow := ow) (nb := nI t) u ks hd hn (by rw [show 55 + 4 * t + 1 = 56 + 4 * t by omega]; exact hb) hb8 hq kb (by rw [show 55 + 4 * t + 2 = 57 + 4 * t by omega]; exact hp) hp64 rfl hl hnb) ?_
  rw [hw]
  refine r_ifT rfl rfl ?_
  iterate 2 refine pm_B.next rfl rfl ?_
  refine q_geti rfl s0 (by decide) hst ?_
  iterate 2 refine pm_B.next rfl rfl ?_
  refine q_top (nI_1 st) ?_
  refine q_puti rfl s0 (by decide) ?_
  iterate 1 refine pm_B.next rfl rfl ?_
  refine q_getr rfl ks.1.1 (by decide) ks.2.2.2 ?_
  iterate 2 refine pm_B.next rfl rfl ?_
  refine q_geti rfl s0 (by decide) (v := nI (st + 1)) u_eq ?_
  refine q_iast rfl ks.1.2.2.2 t rfl (by omega) (by decide) ?_
  iterate 2 refine pm_B.next rfl rfl ?_
  have hdo' := hdo
  rw [tkH, show 58 + 4 * t = 55 + 4 * t + 3 by omega] at hdo'
  refine q_callv (a := [.ref (55 + 4 * t)]) rfl s0 rfl (Nat.le_of_ble_eq_true rfl) (Nat.le_of_ble_eq_true rfl) hdo' (fun h1 v hv => ?_)
  obtain ⟨A', n', bf, pf, hRR, hv⟩ := hv
  cases hv
  obtain ⟨g2, g3, g4⟩ := hR A' n' bf pf hRR
  iterate 2 refine pm_B.next rfl rfl ?_
  refine q_cv (a := [.ref (55 + 4 * t)]) rfl s0 rfl (Nat.le_of_ble_eq_true rfl) (Nat.le_of_ble_eq_true rfl) (x_leaveEE (bb := bf) (qq := fun j => bq (bf j)) (pl := pf) (sz := fun j => SZ (bf j)) u ks g2 g3 (fun j hj => ?_)) ?_
  · obtain ⟨z1, z2, z3, z4, z5, z6, z7, z8, z9⟩ := g4 j hj
    exact ⟨by rw [show 55 + 4 * t + 1 = 56 + 4 * t by omega]; exact z1, z2, z3, z4, by rw [show 55 + 4 * t + 2 = 57 + 4 * t by omega]; exact z5, z6, z7, z8, by omega⟩
  iterate 1 refine pm_B.next rfl rfl ?_
  exact q_iret (Q := fun r => ∃ A' n' bf pf, R A' n' bf pf ∧ r = ((131, SL, S, pm_u A' (55 + 4 * t) 4 (nI (lvn (fun j => decide (SZ (bf j) ≤ pf j)) n')), P), some (.int 1))) rfl ⟨A', n', bf, pf, hRR, rfl⟩
end ADVANCE
