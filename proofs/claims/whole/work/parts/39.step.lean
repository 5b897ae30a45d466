section STEP
variable {d : Nat} {SL : Nat} {S : Nat → Nat × Nat} {A : Nat → Nat → Int32} {P : Nat → Nat → Option Nat}
theorem nI_ne {a b : Nat} (ha : a < 2 ^ 31) (hb : b < 2 ^ 31) (h : a ≠ b) : ¬ nI a = nI b := fun g => h ((nI_eq ha hb).mp g)
/-- the heap behind the bookkeeping of a step -/
def stH (A : Nat → Nat → Int32) (t n st p : Nat) (lt : Int32) : Nat → Nat → Int32 := pm_u (pm_u (pm_u (pm_u (pm_u A 126 st lt) 127 st (-1)) 128 st (-1)) 125 t (nI st)) 124 (8 * t + n) (nI (p + 1))
theorem x_step_no {T : Nat} {rn v : Int32} (m : kM S P) (hr : A 111 6 = rn) (hT : A 111 11 = nI T) (hv : rn = 0 ∨ in_ v (nI T) = 0) : EE (d + 2) M_Mo_step [.ref 111, .int v] SL S A P (fun r => r = ((131, SL, S, A, P), some (.int (-1)))) := by
  have m0 := m
  obtain ⟨⟨⟨s0, s1, s2, s3, s4, s5⟩, p0, p1, p2, p3, p5⟩, -, -⟩ := m
  refine q_of (tb := fun j => tb_Mo_step[j]?) rfl rfl (Nat.le_of_ble_eq_true rfl) ?_
  show BB _ _ 0 [.ref 111, .int v, .null, .null] [] _ _ _ _ _
  iterate 2 refine pm_B.next rfl rfl ?_
  refine q_cv (a := [.int v]) rfl s0 rfl (Nat.le_of_ble_eq_true rfl) (Nat.le_of_ble_eq_true rfl) (x_isThread m0 hr hT) ?_
  have e : (if rn = 0 then 0 else in_ v (nI T)) = 0 := by
    rcases hv with h | h
    · rw [if_pos h]
    · rw [h, ite_self]
  refine q_top e ?_
  refine r_ifT rfl rfl ?_
  iterate 1 refine pm_B.next rfl rfl ?_
  exact q_iret rfl rfl
theorem x_step_end {T t st : Nat} {rn dt : Int32} (m : kM S P) (ht : t < 6) (hr : A 111 6 = rn) (hrn : rn ≠ 0) (hT : A 111 11 = nI T) (htT : t < T) (hT6 : T ≤ 6) (hd : A 122 t = dt) (hst : A 111 17 = nI st) (h : dt = 0 ∨ st = 4000) : EE (d + 2) M_Mo_step [.ref 111, .int (nI t)] SL S A P (fun r => r = ((131, SL, S, A, P), some (.int (-1)))) := by
  have m0 := m
  obtain ⟨⟨⟨s0, s1, s2, s3, s4, s5⟩, p0, p1, p2, p3, p5⟩, ⟨⟨c7, c8, c9, c0, e1, e2, e3, e4, e5⟩, r7, r8, r9, r10, r12, r13, r14, r15, r16⟩, -⟩ := m
  refine q_of (tb := fun j => tb_Mo_step[j]?) rfl rfl (Nat.le_of_ble_eq_true rfl) ?_
  show BB _ _ 0 [.ref 111, .int (nI t), .null, .null] [] _ _ _ _ _
  iterate 2 refine pm_B.next rfl rfl ?_
  refine q_cv (a := [.int (nI t)]) rfl s0 rfl (Nat.le_of_ble_eq_true rfl) (Nat.le_of_ble_eq_true rfl) (x_isThread m0 hr hT) ?_
  have e : (if rn = 0 then 0 else in_ (nI t) (nI T)) = 1 := by rw [if_neg hrn, in_nI (by omega) (by omega), if_pos htT]
  refine q_top e ?_
  refine r_ifF rfl rfl ?_
  iterate 1 refine pm_B.next rfl rfl ?_
  refine q_getr rfl s0 (by decide) r13 ?_
  iterate 1 refine pm_B.next rfl rfl ?_
  refine q_iald rfl e2 t rfl ht (by decide) hd ?_
  by_cases hz : dt = 0
  · refine r_ifT rfl (decide_eq_true hz) ?_
    iterate 1 refine pm_B.next rfl rfl ?_
    exact q_iret rfl rfl
  · refine r_ifF rfl (decide_eq_false hz) ?_
    have h4 : st = 4000 := h.resolve_left hz
    iterate 1 refine pm_B.next rfl rfl ?_
    refine q_geti rfl s0 (by decide) hst ?_
    rw [h4]
    iterate 1 refine pm_B.next rfl rfl ?_
    refine r_icF rfl rfl ?_
    iterate 1 refine pm_B.next rfl rfl ?_
    exact q_iret rfl rfl
theorem x_step_wait {T t n b p l st : Nat} {rn ow : Int32} (m : kM S P) (ht : t < 6) (hr : A 111 6 = rn) (hrn : rn ≠ 0) (hT : A 111 11 = nI T) (htT : t < T) (hT6 : T ≤ 6) (hd : A 122 t = nI (n + 1)) (hn : n < 8) (hst : A 111 17 = nI st) (h4 : st < 4000) (hb : A 123 (8 * t + n) = nI b) (hb8 : b < 9) (hp : A 124 (8 * t + n) = nI p) (hp64 : p < 64) (hl : KS A b p = 4 → l < 4 ∧ NS A b p = nI l ∧ A 118 l = ow ∧ (ow < 0 ↔ ow = -1)) (hw : wt_ (KS A b p) ow (nI t) = 1) :
    EE (d + 2) M_Mo_step [.ref 111, .int (nI t)] SL S A P (fun r => r = ((131, SL, S, A, P), some (.int 0))) := by
  have m0 := m
  obtain ⟨⟨⟨s0, s1, s2, s3, s4, s5⟩, p0, p1, p2, p3, p5⟩, ⟨⟨c7, c8, c9, c0, e1, e2, e3, e4, e5⟩, r7, r8, r9, r10, r12, r13, r14, r15, r16⟩, -⟩ := m
  have hk4 : KS A b p = 4 := by
    by_cases g : KS A b p = 4
    · exact g
    · simp [wt_, g] at hw
  refine q_of (tb := fun j => tb_Mo_step[j]?) rfl rfl (Nat.le_of_ble_eq_true rfl) ?_
  show BB _ _ 0 [.ref 111, .int (nI t), .null, .null] [] _ _ _ _ _
  iterate 2 refine pm_B.next rfl rfl ?_
  refine q_cv (a := [.int (nI t)]) rfl s0 rfl (Nat.le_of_ble_eq_true rfl) (Nat.le_of_ble_eq_true rfl) (x_isThread m0 hr hT) ?_
  have e : (if rn = 0 then 0 else in_ (nI t) (nI T)) = 1 := by rw [if_neg hrn, in_nI (by omega) (by omega), if_pos htT]
  refine q_top e ?_
  refine r_ifF rfl rfl ?_
  iterate 1 refine pm_B.next rfl rfl ?_
  refine q_getr rfl s0 (by decide) r13 ?_
  iterate 1 refine pm_B.next rfl rfl ?_
  refine q_iald rfl e2 t rfl ht (by decide) hd ?_
  refine r_ifF rfl (decide_eq_false (nI_ne (a := n + 1) (b := 0) (by omega) (by omega) (by omega))) ?_
  iterate 1 refine pm_B.next rfl rfl ?_
  refine q_geti rfl s0 (by decide) hst ?_
  iterate 1 refine pm_B.next rfl rfl ?_
  refine r_icT rfl (decide_eq_true (nI_ne (a := st) (b := 4000) (by omega) (by omega) (by omega))) ?_
  iterate 2 refine pm_B.next rfl rfl ?_
  refine q_cv (a := [.int (nI t)]) rfl s0 rfl (Nat.le_of_ble_eq_true rfl) (Nat.le_of_ble_eq_true rfl) (x_waitsFor m0 ht hd hn hb hb8 hp hp64 hl) ?_
  rw [hw, if_pos rfl]
  refine r_ifF rfl (decide_eq_false (nI_pos (by have := (hl hk4).1; omega))) ?_
  iterate 1 refine pm_B.next rfl rfl ?_
  exact q_iret rfl rfl
theorem x_step {T t n b p l st : Nat} {rn ow lt : Int32} {SZ : Nat → Nat} {R : (Nat → Nat → Int32) → Nat → (Nat → Nat) → (Nat → Nat) → Prop} (m : kM S P) (ht : t < 6) (hr : A 111 6 = rn) (hrn : rn ≠ 0) (hT : A 111 11 = nI T) (htT : t < T) (hT6 : T ≤ 6) (hd : A 122 t = nI (n + 1)) (hn : n < 8) (hst : A 111 17 = nI st) (h4 : st < 4000) (hb : A 123 (8 * t + n) = nI b) (hb8 : b < 9) (hp : A 124 (8 * t + n) = nI p) (hp64 : p < 64) (hl : KS A b p = 4 → l < 4 ∧ NS A b p = nI l ∧ A 118 l = ow ∧ (ow < 0 ↔ ow = -1)) (hw : wt_ (KS A b p) ow (nI t) = 0) (hlt : A 125 t = lt)
    (hdo : EE (d + 1) M_Mo_does [.ref 111, .int (nI t), .int (nI b), .int (nI p)] SL S (stH A t n st p lt) P (fun r => ∃ A' n' bf pf, R A' n' bf pf ∧ r = ((131, SL, S, A', P), none)))
    (hR : ∀ A' n' bf pf, R A' n' bf pf → A' 111 17 = nI st ∧ n' ≤ 8 ∧ A' 122 t = nI n' ∧ ∀ j, j < n' → A' 123 (8 * t + j) = nI (bf j) ∧ bf j < 9 ∧ A' 124 (8 * t + j) = nI (pf j) ∧ pf j < 1000 ∧ A' 114 (bf j) = nI (SZ (bf j)) ∧ SZ (bf j) < 1000) :
    EE (d + 2) M_Mo_step [.ref 111, .int (nI t)] SL S A P (fun r => ∃ A' n' bf pf, R A' n' bf pf ∧ r = ((131, SL, S, pm_u (pm_u A' 122 t (nI (lvn (fun j => decide (pf j = SZ (bf j))) n'))) 111 17 (nI (st + 1)), P), some (.int 1))) := by
  have m0 := m
  obtain ⟨⟨⟨s0, s1, s2, s3, s4, s5⟩, p0, p1, p2, p3, p5⟩, ⟨⟨c7, c8, c9, c0, e1, e2, e3, e4, e5⟩, r7, r8, r9, r10, r12, r13, r14, r15, r16⟩, ⟨⟨f1, f2, f3, f4, f5⟩, r18, r19, r20, r21, r23⟩⟩ := m
  refine q_of (tb := fun j => tb_Mo_step[j]?) rfl rfl (Nat.le_of_ble_eq_true rfl) ?_
  show BB _ _ 0 [.ref 111, .int (nI t), .null, .null] [] _ _ _ _ _
  iterate 2 refine pm_B.next rfl rfl ?_
  refine q_cv (a := [.int (nI t)]) rfl s0 rfl (Nat.le_of_ble_eq_true rfl) (Nat.le_of_ble_eq_true rfl) (x_isThread m0 hr hT) ?_
  have e : (if rn = 0 then 0 else in_ (nI t) (nI T)) = 1 := by rw [if_neg hrn, in_nI (by omega) (by omega), if_pos htT]
  refine q_top e ?_
  refine r_ifF rfl rfl ?_
  iterate 1 refine pm_B.next rfl rfl ?_
  refine q_getr rfl s0 (by decide) r13 ?_
  iterate 1 refine pm_B.next rfl rfl ?_
  refine q_iald rfl e2 t rfl ht (by decide) hd ?_
  refine r_ifF rfl (decide_eq_false (nI_ne (a := n + 1) (b := 0) (by omega) (by omega) (by omega))) ?_
  iterate 1 refine pm_B.next rfl rfl ?_
  refine q_geti rfl s0 (by decide) hst ?_
  iterate 1 refine pm_B.next rfl rfl ?_
  refine r_icT rfl (decide_eq_true (nI_ne (a := st) (b := 4000) (by omega) (by omega) (by omega))) ?_
  iterate 2 refine pm_B.next rfl rfl ?_
  refine q_cv (a := [.int (nI t)]) rfl s0 rfl (Nat.le_of_ble_eq_true rfl) (Nat.le_of_ble_eq_true rfl) (x_waitsFor m0 ht hd hn hb hb8 hp hp64 hl) ?_
  rw [hw, if_neg (by decide)]
  refine r_ifT rfl rfl ?_
  iterate 4 refine pm_B.next rfl rfl ?_
  refine q_getr rfl s0 (by decide) r13 ?_
  iterate 1 refine pm_B.next rfl rfl ?_
  refine q_iald rfl e2 t rfl ht (by decide) hd ?_
  iterate 3 refine pm_B.next rfl rfl ?_
  refine q_top (lin8p t n) ?_
  iterate 2 refine pm_B.next rfl rfl ?_
  refine q_getr rfl s0 (by decide) r18 ?_
  iterate 1 refine pm_B.next rfl rfl ?_
  refine q_geti rfl s0 (by decide) hst ?_
  iterate 1 refine pm_B.next rfl rfl ?_
  refine q_getr rfl s0 (by decide) r16 ?_
  iterate 1 refine pm_B.next rfl rfl ?_
  refine q_iald rfl e5 t rfl ht (by decide) hlt ?_
  refine q_iast rfl f1 st rfl h4 (by decide) ?_
  iterate 1 refine pm_B.next rfl rfl ?_
  refine q_getr rfl s0 (by decide) r19 ?_
  iterate 1 refine pm_B.next rfl rfl ?_
  refine q_geti rfl s0 (by decide) (v := nI st) (by rw [u_nc (by decide)]; exact hst) ?_
  iterate 1 refine pm_B.next rfl rfl ?_
  refine q_iast rfl f2 st rfl h4 (by decide) ?_
  iterate 1 refine pm_B.next rfl rfl ?_
  refine q_getr rfl s0 (by decide) r20 ?_
  iterate 1 refine pm_B.next rfl rfl ?_
  refine q_geti rfl s0 (by decide) (v := nI st) (by rw [u_nc (by decide), u_nc (by decide)]; exact hst) ?_
  iterate 1 refine pm_B.next rfl rfl ?_
  refine q_iast rfl f3 st rfl h4 (by decide) ?_
  iterate 1 refine pm_B.next rfl rfl ?_
  refine q_getr rfl s0 (by decide) r16 ?_
  iterate 2 refine pm_B.next rfl rfl ?_
  refine q_geti rfl s0 (by decide) (v := nI st) (by rw [u_nc (by decide), u_nc (by decide), u_nc (by decide)]; exact hst) ?_
  refine q_iast rfl e5 t rfl ht (by decide) ?_
  iterate 1 refine pm_B.next rfl rfl ?_
  refine q_getr rfl s0 (by decide) r15 ?_
  iterate 1 refine pm_B.next rfl rfl ?_
  refine q_iald rfl e4 (8 * t + n) rfl (by omega) (by decide) (v := nI p) (by rw [u_nc (by decide), u_nc (by decide), u_nc (by decide), u_nc (by decide)]; exact hp) ?_
  iterate 2 refine pm_B.next rfl rfl ?_
  refine q_getr rfl s0 (by decide) r15 ?_
  iterate 2 refine pm_B.next rfl rfl ?_
  refine q_iald rfl e4 (8 * t + n) rfl (by omega) (by decide) (v := nI p) (by rw [u_nc (by decide), u_nc (by decide), u_nc (by decide), u_nc (by decide)]; exact hp) ?_
  iterate 2 refine pm_B.next rfl rfl ?_
  refine q_top (nI_1 p) ?_
  refine q_iast rfl e4 (8 * t + n) rfl (by omega) (by decide) ?_
  iterate 3 refine pm_B.next rfl rfl ?_
  refine q_getr rfl s0 (by decide) r14 ?_
  iterate 1 refine pm_B.next rfl rfl ?_
  refine q_iald rfl e3 (8 * t + n) rfl (by omega) (by decide) (v := nI b) (by rw [u_nc (by decide), u_nc (by decide), u_nc (by decide), u_nc (by decide), u_nc (by decide)]; exact hb) ?_
  iterate 1 refine pm_B.next rfl rfl ?_
  refine q_callv (a := [.int (nI t), .int (nI b), .int (nI p)]) rfl s0 rfl (Nat.le_of_ble_eq_true rfl) (Nat.le_of_ble_eq_true rfl) hdo (fun h1 v hv => ?_)
  obtain ⟨A', n', bf, pf, hRR, hv⟩ := hv
  cases hv
  obtain ⟨g1, g2, g3, g4⟩ := hR A' n' bf pf hRR
  iterate 2 refine pm_B.next rfl rfl ?_
  refine q_cv (a := [.int (nI t)]) rfl s0 rfl (Nat.le_of_ble_eq_true rfl) (Nat.le_of_ble_eq_true rfl) (x_leaveE (bf := bf) (pf := pf) (sz := fun j => SZ (bf j)) m0 ht g2 g3 g4) ?_
  iterate 2 refine pm_B.next rfl rfl ?_
  refine q_geti rfl s0 (by decide) (v := nI st) (by rw [u_nc (by decide)]; exact g1) ?_
  iterate 2 refine pm_B.next rfl rfl ?_
  refine q_top (nI_1 st) ?_
  refine q_puti rfl s0 (by decide) ?_
  iterate 1 refine pm_B.next rfl rfl ?_
  exact q_iret (Q := fun r => ∃ A' n' bf pf, R A' n' bf pf ∧ r = ((131, SL, S, pm_u (pm_u A' 122 t (nI (lvn (fun j => decide (pf j = SZ (bf j))) n'))) 111 17 (nI (st + 1)), P), some (.int 1))) rfl ⟨A', n', bf, pf, hRR, rfl⟩
end STEP
