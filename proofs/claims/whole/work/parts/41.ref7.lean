section REF7
variable {d : Nat} {SL : Nat} {S : Nat → Nat × Nat} {A : Nat → Nat → Int32} {P : Nat → Nat → Option Nat}
/-- which part of a race is asked for -/
def rpt (what : Int32) (k τ c w : Nat) (x : Int32) : Prop := (what = 0 ∧ x = nI k) ∨ (what = 1 ∧ x = nI τ) ∨ (what = 2 ∧ x = nI c) ∨ (what = 3 ∧ x = nI w) ∨ (in_ what 4 = 0 ∧ x = -1)
theorem x_Mo_race {rc : Nat} {rn i what x : Int32} (m : kM S P) (hr : A 111 6 = rn) (hrc : A 111 22 = nI rc) (hx : ((rn = 0 ∨ i < 0 ∨ nI rc ≤ i ∨ ¬ i < 64) ∧ x = -1) ∨ (rn ≠ 0 ∧ rc < 2 ^ 31 ∧ ∃ j k τ c w, i = nI j ∧ j < rc ∧ j < 64 ∧ A 130 j = nI k ∧ k < 4000 ∧ A 128 k = nI (16 * τ + 2 * c + w) ∧ τ < 6 ∧ c < 8 ∧ w < 2 ∧ rpt what k τ c w x)) :
    EE d M_Mo_race [.ref 111, .int i, .int what] SL S A P (fun r => r = ((131, SL, S, A, P), some (.int x))) := by
  obtain ⟨⟨⟨s0, s1, s2, s3, s4, s5⟩, p0, p1, p2, p3, p5⟩, -, ⟨⟨f1, f2, f3, f4, f5⟩, r18, r19, r20, r21, r23⟩⟩ := m
  refine q_of (tb := fun j => tb_Mo_race[j]?) rfl rfl (Nat.le_of_ble_eq_true rfl) ?_
  show BB _ _ 0 [.ref 111, .int i, .int what, .null] [] _ _ _ _ _
  iterate 1 refine pm_B.next rfl rfl ?_
  refine q_geti rfl s0 (by decide) hr ?_
  rcases hx with ⟨hbad, hx⟩ | ⟨hrn, hrc31, j, k, τ, c, w, hi, hj, hj64, h130, hk, h128, ht, hc, hw, hp⟩
  · subst hx
    by_cases hz : rn = 0
    · refine r_ifT rfl (decide_eq_true hz) ?_
      iterate 1 refine pm_B.next rfl rfl ?_
      exact q_iret rfl rfl
    refine r_ifF rfl (decide_eq_false hz) ?_
    iterate 1 refine pm_B.next rfl rfl ?_
    by_cases h1 : i < 0
    · refine r_ifT rfl (decide_eq_true h1) ?_
      iterate 1 refine pm_B.next rfl rfl ?_
      exact q_iret rfl rfl
    refine r_ifF rfl (decide_eq_false h1) ?_
    iterate 2 refine pm_B.next rfl rfl ?_
    refine q_geti rfl s0 (by decide) hrc ?_
    by_cases h2 : nI rc ≤ i
    · refine r_icT rfl (decide_eq_true h2) ?_
      iterate 1 refine pm_B.next rfl rfl ?_
      exact q_iret rfl rfl
    refine r_icF rfl (decide_eq_false h2) ?_
    have h3 : ¬ i < 64 := (((hbad.resolve_left hz).resolve_left h1).resolve_left h2)
    iterate 2 refine pm_B.next rfl rfl ?_
    refine r_icF rfl (decide_eq_false h3) ?_
    iterate 1 refine pm_B.next rfl rfl ?_
    exact q_iret rfl rfl
  · subst hi
    refine r_ifF rfl (decide_eq_false hrn) ?_
    iterate 1 refine pm_B.next rfl rfl ?_
    refine r_ifF rfl (decide_eq_false (nI_pos (by omega))) ?_
    iterate 2 refine pm_B.next rfl rfl ?_
    refine q_geti rfl s0 (by decide) hrc ?_
    refine r_icF rfl (decide_eq_false (nI_ge hj hrc31)) ?_
    iterate 2 refine pm_B.next rfl rfl ?_
    refine r_icT rfl (decide_eq_true (nI_lt (a := j) (b := 64) hj64 (by decide))) ?_
    iterate 1 refine pm_B.next rfl rfl ?_
    refine q_getr rfl s0 (by decide) r23 ?_
    iterate 1 refine pm_B.next rfl rfl ?_
    refine q_iald rfl f5 j rfl hj64 (by decide) h130 ?_
    iterate 2 refine pm_B.next rfl rfl ?_
    rcases hp with ⟨hw0, hx⟩ | ⟨hw0, hx⟩ | ⟨hw0, hx⟩ | ⟨hw0, hx⟩ | ⟨hw0, hx⟩
    · rw [hw0, hx]
      iterate 2 refine pm_B.next rfl rfl ?_
      exact q_iret rfl rfl
    · rw [hw0, hx]
      iterate 2 refine pm_B.next rfl rfl ?_
      refine q_getr rfl s0 (by decide) r20 ?_
      iterate 1 refine pm_B.next rfl rfl ?_
      refine q_iald rfl f3 k rfl hk (by decide) h128 ?_
      iterate 2 refine pm_B.next rfl rfl ?_
      refine q_top (w := nI τ) (by show nI (16 * τ + 2 * c + w) / 16 = nI τ; rw [show (16 : Int32) = nI 16 from rfl, pk_div (by omega) (by decide) (by decide)]; congr 1; omega) ?_
      exact q_iret rfl rfl
    · rw [hw0, hx]
      iterate 2 refine pm_B.next rfl rfl ?_
      refine q_getr rfl s0 (by decide) r20 ?_
      iterate 1 refine pm_B.next rfl rfl ?_
      refine q_iald rfl f3 k rfl hk (by decide) h128 ?_
      iterate 2 refine pm_B.next rfl rfl ?_
      refine q_top (w := nI (8 * τ + c)) (by show nI (16 * τ + 2 * c + w) / 2 = _; rw [show (2 : Int32) = nI 2 from rfl, pk_div (by omega) (by decide) (by decide)]; congr 1; omega) ?_
      iterate 2 refine pm_B.next rfl rfl ?_
      refine q_top (w := nI c) (by show nI (8 * τ + c) - nI (8 * τ + c) / 8 * 8 = _; rw [show (8 : Int32) = nI 8 from rfl, pk_rem (by omega) (by decide) (by decide)]; congr 1; omega) ?_
      exact q_iret rfl rfl
    · rw [hw0, hx]
      iterate 2 refine pm_B.next rfl rfl ?_
      refine q_getr rfl s0 (by decide) r20 ?_
      iterate 1 refine pm_B.next rfl rfl ?_
      refine q_iald rfl f3 k rfl hk (by decide) h128 ?_
      iterate 2 refine pm_B.next rfl rfl ?_
      refine q_top (w := nI w) (by show nI (16 * τ + 2 * c + w) - nI (16 * τ + 2 * c + w) / 2 * 2 = _; rw [show (2 : Int32) = nI 2 from rfl, pk_rem (by omega) (by decide) (by decide)]; congr 1; omega) ?_
      exact q_iret rfl rfl
    · have n0 : ¬ what = 0 := fun g => by rw [g] at hw0; exact absurd hw0 (by decide)
      have n1 : ¬ what = 1 := fun g => by rw [g] at hw0; exact absurd hw0 (by decide)
      have n2 : ¬ what = 2 := fun g => by rw [g] at hw0; exact absurd hw0 (by decide)
      have n3 : ¬ what = 3 := fun g => by rw [g] at hw0; exact absurd hw0 (by decide)
      refine pm_B.next (q := (46, _, _, _)) rfl (pm_sw_hit (by simp only [pm_swt, n0, n1, n2, n3, if_false])) ?_
      iterate 1 refine pm_B.next rfl rfl ?_
      rw [hx]
      exact q_iret rfl rfl
/-- the first i locks of the reference are free -/
def l2H (A : Nat → Nat → Int32) (i : Nat) : Nat → Nat → Int32 := fun a b => if a = 118 ∧ b < i then -1 else if a = 119 ∧ b < i then 0 else if a = 120 ∧ b < i then -1 else A a b
theorem l2H_0 : l2H A 0 = A := by
  funext a b
  simp [l2H]
theorem l2H_s {i : Nat} : pm_u (pm_u (pm_u (l2H A i) 118 i (-1)) 119 i 0) 120 i (-1) = l2H A (i + 1) := by
  funext a b
  simp only [pm_u, l2H]
  by_cases h0 : a = 118
  · subst h0
    by_cases hb : b = i
    · subst hb; simp
    · by_cases hl : b < i
      · simp [hb, hl, show b < i + 1 by omega]
      · simp [hb, hl, show ¬ b < i + 1 by omega]
  by_cases h1 : a = 119
  · subst h1
    by_cases hb : b = i
    · subst hb; simp
    · by_cases hl : b < i
      · simp [hb, hl, show b < i + 1 by omega]
      · simp [hb, hl, show ¬ b < i + 1 by omega]
  by_cases h2 : a = 120
  · subst h2
    by_cases hb : b = i
    · subst hb; simp
    · by_cases hl : b < i
      · simp [hb, hl, show b < i + 1 by omega]
      · simp [hb, hl, show ¬ b < i + 1 by omega]
  simp [h0, h1, h2]
/-- the heap behind the start of a run -/
def saH (A : Nat → Nat → Int32) : Nat → Nat → Int32 := pm_u (pm_u (pm_u (l2H (fl (pm_u A 111 6 1) 117 8 0) 4) 111 11 0) 111 17 0) 111 22 0
theorem x_Mo_start_no {n : Nat} {v h : Int32} (m : kM S P) (hn : A 111 4 = nI n) (hv : in_ v (nI n) = 0) : EE (d + 1) M_Mo_start [.ref 111, .int v, .int h] SL S A P (fun r => r = ((131, SL, S, A, P), some (.int 0))) := by
  obtain ⟨⟨⟨s0, s1, s2, s3, s4, s5⟩, p0, p1, p2, p3, p5⟩, -, -⟩ := m
  refine q_of (tb := fun j => tb_Mo_start[j]?) rfl rfl (Nat.le_of_ble_eq_true rfl) ?_
  show BB _ _ 0 [.ref 111, .int v, .int h, .null] [] _ _ _ _ _
  iterate 2 refine pm_B.next rfl rfl ?_
  refine q_geti rfl s0 (by decide) hn ?_
  refine q_cs (a := [.int v, .int (nI n)]) rfl rfl (Nat.le_of_ble_eq_true rfl) (Nat.le_of_ble_eq_true rfl) (x_isIn v (nI n)) ?_
  refine q_top hv ?_
  refine r_ifF rfl rfl ?_
  iterate 1 refine pm_B.next rfl rfl ?_
  exact q_zret rfl (Or.inl rfl) rfl
theorem x_Mo_start {n b sz : Nat} {h : Int32} (m : kM S P) (hn : A 111 4 = nI n) (hn8 : n ≤ 8) (hb : b < n) (hsz : A 114 b = nI sz) (hsz6 : sz < 1000) : EE (d + 2) M_Mo_start [.ref 111, .int (nI b), .int h] SL S A P (fun r => r = ((131, SL, S, bgH (saH A) 0 b sz h (-1), P), some (.int 1))) := by
  have m0 := m
  obtain ⟨⟨⟨s0, s1, s2, s3, s4, s5⟩, p0, p1, p2, p3, p5⟩, ⟨⟨c7, c8, c9, c0, e1, e2, e3, e4, e5⟩, r7, r8, r9, r10, r12, r13, r14, r15, r16⟩, -⟩ := m
  refine q_of (tb := fun j => tb_Mo_start[j]?) rfl rfl (Nat.le_of_ble_eq_true rfl) ?_
  show BB _ _ 0 [.ref 111, .int (nI b), .int h, .null] [] _ _ _ _ _
  iterate 2 refine pm_B.next rfl rfl ?_
  refine q_geti rfl s0 (by decide) hn ?_
  refine q_cs (a := [.int (nI b), .int (nI n)]) rfl rfl (Nat.le_of_ble_eq_true rfl) (Nat.le_of_ble_eq_true rfl) (x_isIn _ _) ?_
  refine q_top (show in_ (nI b) (nI n) = 1 by rw [in_nI (by omega) (by omega), if_pos hb]) ?_
  refine r_ifT rfl rfl ?_
  iterate 2 refine pm_B.next rfl rfl ?_
  refine q_putz rfl s0 (by decide) (Or.inr rfl) ?_
  iterate 2 refine pm_B.next rfl rfl ?_
  have g2 : ∀ k i, i + k = 4 → BB (d + 2) (fun j => tb_Mo_start[j]?) 24 [.ref 111, .int (nI b), .int h, .int (nI i)] [] SL S (l2H (fl (pm_u A 111 6 1) 117 8 0) i) P (fun r => (131 ≤ r.1.1 ∧ SL ≤ r.1.2.1) ∧ r = ((131, SL, S, bgH (saH A) 0 b sz h (-1), P), some (.int 1))) := by
    intro k
    induction k with
    | zero =>
      intro i hi
      have : i = 4 := by omega
      subst this
      iterate 2 refine pm_B.next rfl rfl ?_
      refine r_icT rfl rfl ?_
      iterate 2 refine pm_B.next rfl rfl ?_
      refine q_puti rfl s0 (by decide) ?_
      iterate 2 refine pm_B.next rfl rfl ?_
      refine q_puti rfl s0 (by decide) ?_
      iterate 2 refine pm_B.next rfl rfl ?_
      refine q_puti rfl s0 (by decide) ?_
      iterate 4 refine pm_B.next rfl rfl ?_
      refine q_cv (a := [.int (nI b), .int h, .int (-1)]) rfl s0 rfl (Nat.le_of_ble_eq_true rfl) (Nat.le_of_ble_eq_true rfl) (x_Mo_begin (T := 0) m0 (by rw [u_ni (by decide), u_ni (by decide)]; exact u_eq) (by decide) (by omega) (sz := sz) ?_ hsz6) ?_
      · rw [u_nc (by decide), u_nc (by decide), u_nc (by decide)]
        simp only [l2H, fl, pm_u]
        simp
        exact hsz
      iterate 1 refine pm_B.next rfl rfl ?_
      exact q_zret rfl (Or.inr rfl) rfl
    | succ k ih =>
      intro i hi
      iterate 2 refine pm_B.next rfl rfl ?_
      refine r_icF rfl (decide_eq_false (nI_ge (a := i) (b := 4) (by omega) (by decide))) ?_
      iterate 1 refine pm_B.next rfl rfl ?_
      refine q_getr rfl s0 (by decide) r8 ?_
      iterate 2 refine pm_B.next rfl rfl ?_
      refine q_iast rfl c8 i rfl (by omega) (by decide) ?_
      iterate 1 refine pm_B.next rfl rfl ?_
      refine q_getr rfl s0 (by decide) r9 ?_
      iterate 2 refine pm_B.next rfl rfl ?_
      refine q_iast rfl c9 i rfl (by omega) (by decide) ?_
      iterate 1 refine pm_B.next rfl rfl ?_
      refine q_getr rfl s0 (by decide) r10 ?_
      iterate 2 refine pm_B.next rfl rfl ?_
      refine q_iast rfl c0 i rfl (by omega) (by decide) ?_
      rw [l2H_s]
      iterate 2 refine pm_B.next rfl rfl ?_
      refine q_lc (lc' := [.ref 111, .int (nI b), .int h, .int (nI (i + 1))]) (by rw [nI_succ]; rfl) ?_
      exact ih (i + 1) (by omega)
  have g1 : ∀ k i, i + k = 8 → BB (d + 2) (fun j => tb_Mo_start[j]?) 12 [.ref 111, .int (nI b), .int h, .int (nI i)] [] SL S (fl (pm_u A 111 6 1) 117 i 0) P (fun r => (131 ≤ r.1.1 ∧ SL ≤ r.1.2.1) ∧ r = ((131, SL, S, bgH (saH A) 0 b sz h (-1), P), some (.int 1))) := by
    intro k
    induction k with
    | zero =>
      intro i hi
      have : i = 8 := by omega
      subst this
      iterate 2 refine pm_B.next rfl rfl ?_
      refine r_icT rfl rfl ?_
      iterate 2 refine pm_B.next rfl rfl ?_
      have := g2 4 0 (by omega)
      rw [l2H_0] at this
      exact this
    | succ k ih =>
      intro i hi
      iterate 2 refine pm_B.next rfl rfl ?_
      refine r_icF rfl (decide_eq_false (nI_ge (a := i) (b := 8) (by omega) (by decide))) ?_
      iterate 1 refine pm_B.next rfl rfl ?_
      refine q_getr rfl s0 (by decide) r7 ?_
      iterate 2 refine pm_B.next rfl rfl ?_
      refine q_iast rfl c7 i rfl (by omega) (by decide) ?_
      rw [fl_s]
      iterate 2 refine pm_B.next rfl rfl ?_
      refine q_lc (lc' := [.ref 111, .int (nI b), .int h, .int (nI (i + 1))]) (by rw [nI_succ]; rfl) ?_
      exact ih (i + 1) (by omega)
  have := g1 8 0 (by omega)
  rw [fl_0] at this
  exact this
end REF7
