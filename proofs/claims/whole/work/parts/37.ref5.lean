section REF5
variable {d : Nat} {SL : Nat} {S : Nat → Nat × Nat} {A : Nat → Nat → Int32} {P : Nat → Nat → Option Nat}
theorem x_takes {t l st : Nat} {tm fr : Int32} (m : kM S P) (hl : l < 4) (htm : A 119 l = tm) (hfr : A 120 l = fr) (hst : A 111 17 = nI st) (h4 : st < 4000) : EE d M_Mo_takes [.ref 111, .int (nI t), .int (nI l)] SL S A P (fun r => (tm = 0 ∧ r = ((131, SL, S, pm_u (pm_u (pm_u A 127 st fr) 118 l (nI t)) 119 l (tm + 1), P), none)) ∨ (tm ≠ 0 ∧ r = ((131, SL, S, pm_u (pm_u A 118 l (nI t)) 119 l (tm + 1), P), none))) := by
  obtain ⟨⟨⟨s0, s1, s2, s3, s4, s5⟩, p0, p1, p2, p3, p5⟩, ⟨⟨c7, c8, c9, c0, e1, e2, e3, e4, e5⟩, r7, r8, r9, r10, r12, r13, r14, r15, r16⟩, ⟨⟨f1, f2, f3, f4, f5⟩, r18, r19, r20, r21, r23⟩⟩ := m
  refine q_of (tb := fun j => tb_Mo_takes[j]?) rfl rfl (Nat.le_of_ble_eq_true rfl) ?_
  show BB _ _ 0 [.ref 111, .int (nI t), .int (nI l)] [] _ _ _ _ _
  iterate 1 refine pm_B.next rfl rfl ?_
  refine q_getr rfl s0 (by decide) r9 ?_
  iterate 1 refine pm_B.next rfl rfl ?_
  refine q_iald rfl c9 l rfl hl (by decide) htm ?_
  by_cases hz : tm = 0
  · refine r_ifF rfl (decide_eq_false (fun g => g hz)) ?_
    iterate 1 refine pm_B.next rfl rfl ?_
    refine q_getr rfl s0 (by decide) r19 ?_
    iterate 1 refine pm_B.next rfl rfl ?_
    refine q_geti rfl s0 (by decide) hst ?_
    iterate 1 refine pm_B.next rfl rfl ?_
    refine q_getr rfl s0 (by decide) r10 ?_
    iterate 1 refine pm_B.next rfl rfl ?_
    refine q_iald rfl c0 l rfl hl (by decide) hfr ?_
    refine q_iast rfl f2 st rfl (by omega) (by decide) ?_
    iterate 1 refine pm_B.next rfl rfl ?_
    refine q_getr rfl s0 (by decide) r8 ?_
    iterate 2 refine pm_B.next rfl rfl ?_
    refine q_iast rfl c8 l rfl hl (by decide) ?_
    iterate 1 refine pm_B.next rfl rfl ?_
    refine q_getr rfl s0 (by decide) r9 ?_
    iterate 2 refine pm_B.next rfl rfl ?_
    refine q_iald rfl c9 l rfl hl (by decide) (v := tm) (by rw [u_nc (by decide), u_nc (by decide)]; exact htm) ?_
    iterate 2 refine pm_B.next rfl rfl ?_
    refine q_iast rfl c9 l rfl hl (by decide) ?_
    exact q_vret rfl (Or.inl ⟨hz, rfl⟩)
  · refine r_ifT rfl (decide_eq_true hz) ?_
    iterate 1 refine pm_B.next rfl rfl ?_
    refine q_getr rfl s0 (by decide) r8 ?_
    iterate 2 refine pm_B.next rfl rfl ?_
    refine q_iast rfl c8 l rfl hl (by decide) ?_
    iterate 1 refine pm_B.next rfl rfl ?_
    refine q_getr rfl s0 (by decide) r9 ?_
    iterate 2 refine pm_B.next rfl rfl ?_
    refine q_iald rfl c9 l rfl hl (by decide) (v := tm) (by rw [u_nc (by decide)]; exact htm) ?_
    iterate 2 refine pm_B.next rfl rfl ?_
    refine q_iast rfl c9 l rfl hl (by decide) ?_
    exact q_vret rfl (Or.inr ⟨hz, rfl⟩)
/-- the heap behind the end of a block whose opener is o -/
def enH (A : Nat → Nat → Int32) (b o t n st : Nat) (tm : Int32) (l : Nat) (A' : Nat → Nat → Int32) : Prop :=
  (KS A b o = 8 ∧ A' = pm_u A 124 (8 * t + n) (nI o)) ∨ (KS A b o ≠ 8 ∧ KS A b o ≠ 4 ∧ A' = A) ∨ (KS A b o = 4 ∧ 0 < tm - 1 ∧ A' = pm_u A 119 l (tm - 1)) ∨ (KS A b o = 4 ∧ ¬ 0 < tm - 1 ∧ A' = pm_u (pm_u (pm_u A 119 l (tm - 1)) 118 l (-1)) 120 l (nI st))
theorem x_ends {t n b p o l st : Nat} {os : List Nat} {tm : Int32} (m : kM S P) (ht : t < 6) (hd : A 122 t = nI (n + 1)) (hn : n < 8) (hb : b < 9) (hp : p < 64) (hnu : bk_nu (KS A b) p) (hop : bk_st (KS A b) p = o :: os) (hl : KS A b o = 4 → l < 4 ∧ NS A b o = nI l ∧ A 119 l = tm) (hst : A 111 17 = nI st) :
    EE (d + 2) M_Mo_ends [.ref 111, .int (nI t), .int (nI b), .int (nI p)] SL S A P (fun r => ∃ A', enH A b o t n st tm l A' ∧ r = ((131, SL, S, A', P), none)) := by
  have m0 := m
  obtain ⟨⟨⟨s0, s1, s2, s3, s4, s5⟩, p0, p1, p2, p3, p5⟩, ⟨⟨c7, c8, c9, c0, e1, e2, e3, e4, e5⟩, r7, r8, r9, r10, r12, r13, r14, r15, r16⟩, ⟨⟨f1, f2, f3, f4, f5⟩, r18, r19, r20, r21, r23⟩⟩ := m
  have ho : o < 64 := by have := (bk_in hop).1; omega
  refine q_of (tb := fun j => tb_Mo_ends[j]?) rfl rfl (Nat.le_of_ble_eq_true rfl) ?_
  show BB _ _ 0 [.ref 111, .int (nI t), .int (nI b), .int (nI p), .null, .null] [] _ _ _ _ _
  iterate 3 refine pm_B.next rfl rfl ?_
  refine q_cv (a := [.int (nI b), .int (nI p)]) rfl s0 rfl (Nat.le_of_ble_eq_true rfl) (Nat.le_of_ble_eq_true rfl) (x_openerOf m0 hb (by omega) hnu) ?_
  rw [hop]
  iterate 4 refine pm_B.next rfl rfl ?_
  refine q_cv (a := [.int (nI b), .int (nI o)]) rfl s0 rfl (Nat.le_of_ble_eq_true rfl) (Nat.le_of_ble_eq_true rfl) (x_kindAt m0 hb ho) ?_
  iterate 1 refine pm_B.next rfl rfl ?_
  by_cases h8 : KS A b o = 8
  · have h4 : ¬ KS A b o = 4 := by rw [h8]; decide
    refine r_icF rfl (decide_eq_false (fun g => g h8)) ?_
    iterate 1 refine pm_B.next rfl rfl ?_
    refine q_getr rfl s0 (by decide) r15 ?_
    iterate 4 refine pm_B.next rfl rfl ?_
    refine q_getr rfl s0 (by decide) r13 ?_
    iterate 1 refine pm_B.next rfl rfl ?_
    refine q_iald rfl e2 t rfl ht (by decide) hd ?_
    iterate 3 refine pm_B.next rfl rfl ?_
    refine q_top (lin8p t n) ?_
    iterate 1 refine pm_B.next rfl rfl ?_
    refine q_iast rfl e4 (8 * t + n) rfl (by omega) (by decide) ?_
    iterate 3 refine pm_B.next rfl rfl ?_
    refine q_cv (a := [.int (nI b), .int (nI o)]) rfl s0 rfl (Nat.le_of_ble_eq_true rfl) (Nat.le_of_ble_eq_true rfl) (x_kindAt m0 hb ho) ?_
    refine q_top (w := KS A b o) (by simp [KS, pm_u]) ?_
    iterate 1 refine pm_B.next rfl rfl ?_
    refine r_icF rfl (decide_eq_false h4) ?_
    exact q_vret (Q := fun r => ∃ A', enH A b o t n st tm l A' ∧ r = ((131, SL, S, A', P), none)) rfl ⟨_, Or.inl ⟨h8, rfl⟩, rfl⟩
  · refine r_icT rfl (decide_eq_true h8) ?_
    iterate 3 refine pm_B.next rfl rfl ?_
    refine q_cv (a := [.int (nI b), .int (nI o)]) rfl s0 rfl (Nat.le_of_ble_eq_true rfl) (Nat.le_of_ble_eq_true rfl) (x_kindAt m0 hb ho) ?_
    iterate 1 refine pm_B.next rfl rfl ?_
    by_cases h4 : KS A b o = 4
    · obtain ⟨l4, l2, l3⟩ := hl h4
      refine r_icT rfl (decide_eq_true h4) ?_
      iterate 3 refine pm_B.next rfl rfl ?_
      refine q_cv (a := [.int (nI b), .int (nI o)]) rfl s0 rfl (Nat.le_of_ble_eq_true rfl) (Nat.le_of_ble_eq_true rfl) (x_numberAt m0 hb ho) ?_
      rw [l2]
      iterate 2 refine pm_B.next rfl rfl ?_
      refine q_getr rfl s0 (by decide) r9 ?_
      iterate 2 refine pm_B.next rfl rfl ?_
      refine q_iald rfl c9 l rfl l4 (by decide) l3 ?_
      iterate 2 refine pm_B.next rfl rfl ?_
      refine q_iast rfl c9 l rfl l4 (by decide) ?_
      iterate 1 refine pm_B.next rfl rfl ?_
      refine q_getr rfl s0 (by decide) r9 ?_
      iterate 1 refine pm_B.next rfl rfl ?_
      refine q_iald rfl c9 l rfl l4 (by decide) (v := tm - 1) u_eq ?_
      by_cases hz : 0 < tm - 1
      · refine r_ifF rfl (decide_eq_false (Int32.not_le.mpr hz)) ?_
        exact q_vret (Q := fun r => ∃ A', enH A b o t n st tm l A' ∧ r = ((131, SL, S, A', P), none)) rfl ⟨_, Or.inr (Or.inr (Or.inl ⟨h4, hz, rfl⟩)), rfl⟩
      · refine r_ifT rfl (decide_eq_true (Int32.not_lt.mp hz)) ?_
        iterate 1 refine pm_B.next rfl rfl ?_
        refine q_getr rfl s0 (by decide) r8 ?_
        iterate 2 refine pm_B.next rfl rfl ?_
        refine q_iast rfl c8 l rfl l4 (by decide) ?_
        iterate 1 refine pm_B.next rfl rfl ?_
        refine q_getr rfl s0 (by decide) r10 ?_
        iterate 2 refine pm_B.next rfl rfl ?_
        refine q_geti rfl s0 (by decide) (v := nI st) (by rw [u_nc (by decide), u_nc (by decide)]; exact hst) ?_
        refine q_iast rfl c0 l rfl l4 (by decide) ?_
        exact q_vret (Q := fun r => ∃ A', enH A b o t n st tm l A' ∧ r = ((131, SL, S, A', P), none)) rfl ⟨_, Or.inr (Or.inr (Or.inr ⟨h4, hz, rfl⟩)), rfl⟩
    · refine r_icF rfl (decide_eq_false h4) ?_
      exact q_vret (Q := fun r => ∃ A', enH A b o t n st tm l A' ∧ r = ((131, SL, S, A', P), none)) rfl ⟨_, Or.inr (Or.inl ⟨h8, h4, rfl⟩), rfl⟩
theorem x_leaveE {t n : Nat} {bf pf sz : Nat → Nat} (m : kM S P) (ht : t < 6) (hn : n ≤ 8) (hd : A 122 t = nI n) (hf : ∀ j, j < n → A 123 (8 * t + j) = nI (bf j) ∧ bf j < 9 ∧ A 124 (8 * t + j) = nI (pf j) ∧ pf j < 1000 ∧ A 114 (bf j) = nI (sz j) ∧ sz j < 1000) : EE d M_Mo_leave [.ref 111, .int (nI t)] SL S A P (fun r => r = ((131, SL, S, pm_u A 122 t (nI (lvn (fun j => decide (pf j = sz j)) n)), P), none)) := by
  have m0 := m
  obtain ⟨⟨⟨s0, s1, s2, s3, s4, s5⟩, p0, p1, p2, p3, p5⟩, ⟨⟨c7, c8, c9, c0, e1, e2, e3, e4, e5⟩, r7, r8, r9, r10, r12, r13, r14, r15, r16⟩, -⟩ := m
  refine q_of (tb := fun j => tb_Mo_leave[j]?) rfl rfl (Nat.le_of_ble_eq_true rfl) ?_
  show BB _ _ 0 [.ref 111, .int (nI t), .null] [] _ _ _ _ _
  iterate 4 refine pm_B.next rfl rfl ?_
  refine q_getr rfl s0 (by decide) r13 ?_
  iterate 1 refine pm_B.next rfl rfl ?_
  refine q_iald rfl e2 t rfl ht (by decide) hd ?_
  iterate 4 refine pm_B.next rfl rfl ?_
  refine x_Mo_leave m0 ht n A hn hd hf _ (fun n' hn' => ?_) (fun _ => trivial)
  subst hn'
  exact lin8p t n'
/-- the heap behind the beginning of thread T in body b -/
def bgH (A : Nat → Nat → Int32) (T b : Nat) (sz : Nat) (v sv : Int32) : Nat → Nat → Int32 := pm_u (pm_u (pm_u (pm_u (pm_u (pm_u (pm_u (pm_u A 121 T v) 122 T 0) 125 T sv) 123 (8 * T) (nI b)) 124 (8 * T) 0) 122 T (nI 1)) 122 T (nI (if 0 = sz then 0 else 1))) 111 11 (nI (T + 1))
theorem x_Mo_begin {T b sz : Nat} {v sv : Int32} (m : kM S P) (hT : A 111 11 = nI T) (hT6 : T < 6) (hb : b < 9) (hsz : A 114 b = nI sz) (hsz6 : sz < 1000) : EE (d + 1) M_Mo_begin [.ref 111, .int (nI b), .int v, .int sv] SL S A P (fun r => r = ((131, SL, S, bgH A T b sz v sv, P), none)) := by
  have m0 := m
  obtain ⟨⟨⟨s0, s1, s2, s3, s4, s5⟩, p0, p1, p2, p3, p5⟩, ⟨⟨c7, c8, c9, c0, e1, e2, e3, e4, e5⟩, r7, r8, r9, r10, r12, r13, r14, r15, r16⟩, -⟩ := m
  refine q_of (tb := fun j => tb_Mo_begin[j]?) rfl rfl (Nat.le_of_ble_eq_true rfl) ?_
  show BB _ _ 0 [.ref 111, .int (nI b), .int v, .int sv] [] _ _ _ _ _
  iterate 1 refine pm_B.next rfl rfl ?_
  refine q_getr rfl s0 (by decide) r12 ?_
  iterate 1 refine pm_B.next rfl rfl ?_
  refine q_geti rfl s0 (by decide) hT ?_
  iterate 1 refine pm_B.next rfl rfl ?_
  refine q_iast rfl e1 T rfl hT6 (by decide) ?_
  iterate 1 refine pm_B.next rfl rfl ?_
  refine q_getr rfl s0 (by decide) r13 ?_
  iterate 1 refine pm_B.next rfl rfl ?_
  refine q_geti rfl s0 (by decide) (v := nI T) (by rw [u_nc (by decide)]; exact hT) ?_
  iterate 1 refine pm_B.next rfl rfl ?_
  refine q_iast rfl e2 T rfl hT6 (by decide) ?_
  iterate 1 refine pm_B.next rfl rfl ?_
  refine q_getr rfl s0 (by decide) r16 ?_
  iterate 1 refine pm_B.next rfl rfl ?_
  refine q_geti rfl s0 (by decide) (v := nI T) (by rw [u_nc (by decide), u_nc (by decide)]; exact hT) ?_
  iterate 1 refine pm_B.next rfl rfl ?_
  refine q_iast rfl e5 T rfl hT6 (by decide) ?_
  iterate 2 refine pm_B.next rfl rfl ?_
  refine q_geti rfl s0 (by decide) (v := nI T) (by rw [u_nc (by decide), u_nc (by decide), u_nc (by decide)]; exact hT) ?_
  iterate 1 refine pm_B.next rfl rfl ?_
  refine q_cv (a := [.int (nI T), .int (nI b)]) rfl s0 rfl (Nat.le_of_ble_eq_true rfl) (Nat.le_of_ble_eq_true rfl) (x_Mo_enter (n := 0) m0 hT6 (by rw [u_nc (by decide)]; exact u_eq) (by decide)) ?_
  iterate 2 refine pm_B.next rfl rfl ?_
  refine q_geti rfl s0 (by decide) (v := nI T) (by simp only [u_nc (show (111 : Nat) ≠ 122 by decide), u_nc (show (111 : Nat) ≠ 124 by decide), u_nc (show (111 : Nat) ≠ 123 by decide), u_nc (show (111 : Nat) ≠ 125 by decide), u_nc (show (111 : Nat) ≠ 121 by decide)]; exact hT) ?_
  refine q_cv (a := [.int (nI T)]) rfl s0 rfl (Nat.le_of_ble_eq_true rfl) (Nat.le_of_ble_eq_true rfl) (x_leaveE (n := 1) (bf := fun _ => b) (pf := fun _ => 0) (sz := fun _ => sz) m0 hT6 (by decide) u_eq (fun j hj => ?_)) ?_
  · have : j = 0 := by omega
    subst this
    refine ⟨?_, hb, ?_, by decide, ?_, hsz6⟩
    · rw [u_nc (by decide), u_nc (by decide)]; exact u_eq
    · rw [u_nc (by decide)]; exact u_eq
    · simp only [u_nc (show (114 : Nat) ≠ 122 by decide), u_nc (show (114 : Nat) ≠ 124 by decide), u_nc (show (114 : Nat) ≠ 123 by decide), u_nc (show (114 : Nat) ≠ 125 by decide), u_nc (show (114 : Nat) ≠ 121 by decide)]
      exact hsz
  iterate 2 refine pm_B.next rfl rfl ?_
  refine q_geti rfl s0 (by decide) (v := nI T) (by simp only [u_nc (show (111 : Nat) ≠ 122 by decide), u_nc (show (111 : Nat) ≠ 124 by decide), u_nc (show (111 : Nat) ≠ 123 by decide), u_nc (show (111 : Nat) ≠ 125 by decide), u_nc (show (111 : Nat) ≠ 121 by decide)]; exact hT) ?_
  iterate 2 refine pm_B.next rfl rfl ?_
  refine q_top (nI_1 T) ?_
  refine q_puti rfl s0 (by decide) ?_
  refine q_vret rfl ?_
  have e : lvn (fun _ => decide (0 = sz)) 1 = if 0 = sz then 0 else 1 := by
    by_cases h : 0 = sz <;> simp [lvn, h]
  rw [e]
  rfl
end REF5
