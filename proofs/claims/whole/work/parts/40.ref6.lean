section REF6
variable {d : Nat} {SL : Nat} {S : Nat → Nat × Nat} {A : Nat → Nat → Int32} {P : Nat → Nat → Option Nat}
theorem x_Mo_has {T : Nat} {rn : Int32} (m : kM S P) (hr : A 111 6 = rn) (hT : A 111 11 = nI T) (v : Int32) (w : Int32) (hw : (rn = 0 ∨ in_ v (nI T) = 0) ∧ w = 0 ∨ rn ≠ 0 ∧ ∃ t, v = nI t ∧ t < T ∧ T ≤ 6 ∧ A 121 t = w) : EE (d + 2) M_Mo_has [.ref 111, .int v] SL S A P (fun r => r = ((131, SL, S, A, P), some (.int w))) := by
  have m0 := m
  obtain ⟨⟨⟨s0, s1, s2, s3, s4, s5⟩, p0, p1, p2, p3, p5⟩, ⟨⟨c7, c8, c9, c0, e1, e2, e3, e4, e5⟩, r7, r8, r9, r10, r12, r13, r14, r15, r16⟩, -⟩ := m
  refine q_of (tb := fun j => tb_Mo_has[j]?) rfl rfl (Nat.le_of_ble_eq_true rfl) ?_
  show BB _ _ 0 [.ref 111, .int v] [] _ _ _ _ _
  iterate 2 refine pm_B.next rfl rfl ?_
  refine q_cv (a := [.int v]) rfl s0 rfl (Nat.le_of_ble_eq_true rfl) (Nat.le_of_ble_eq_true rfl) (x_isThread m0 hr hT) ?_
  rcases hw with ⟨hv, hw⟩ | ⟨hrn, t, hvt, htT, hT6, hw⟩
  · have e : (if rn = 0 then 0 else in_ v (nI T)) = 0 := by
      rcases hv with h | h
      · rw [if_pos h]
      · rw [h, ite_self]
    refine q_top e ?_
    refine r_ifT rfl rfl ?_
    iterate 1 refine pm_B.next rfl rfl ?_
    rw [hw]
    exact q_iret rfl rfl
  · subst hvt
    have e : (if rn = 0 then 0 else in_ (nI t) (nI T)) = 1 := by rw [if_neg hrn, in_nI (by omega) (by omega), if_pos htT]
    refine q_top e ?_
    refine r_ifF rfl rfl ?_
    iterate 1 refine pm_B.next rfl rfl ?_
    refine q_getr rfl s0 (by decide) r12 ?_
    iterate 1 refine pm_B.next rfl rfl ?_
    refine q_iald rfl e1 t rfl (by omega) (by decide) hw ?_
    iterate 1 refine pm_B.next rfl rfl ?_
    exact q_iret rfl rfl
theorem x_Mo_cell {rn : Int32} (m : kM S P) (hr : A 111 6 = rn) (v : Int32) (w : Int32) (hw : (rn = 0 ∨ in_ v 8 = 0) ∧ w = 0 ∨ rn ≠ 0 ∧ ∃ t, v = nI t ∧ t < 8 ∧ A 117 t = w) : EE (d + 1) M_Mo_cell [.ref 111, .int v] SL S A P (fun r => r = ((131, SL, S, A, P), some (.int w))) := by
  have m0 := m
  obtain ⟨⟨⟨s0, s1, s2, s3, s4, s5⟩, p0, p1, p2, p3, p5⟩, ⟨⟨c7, c8, c9, c0, e1, e2, e3, e4, e5⟩, r7, r8, r9, r10, r12, r13, r14, r15, r16⟩, -⟩ := m
  refine q_of (tb := fun j => tb_Mo_cell[j]?) rfl rfl (Nat.le_of_ble_eq_true rfl) ?_
  show BB _ _ 0 [.ref 111, .int v] [] _ _ _ _ _
  iterate 1 refine pm_B.next rfl rfl ?_
  refine q_geti rfl s0 (by decide) hr ?_
  by_cases hz : rn = 0
  · refine r_ifT rfl (decide_eq_true hz) ?_
    iterate 1 refine pm_B.next rfl rfl ?_
    rcases hw with ⟨-, hw⟩ | ⟨hrn, -⟩
    · rw [hw]
      exact q_iret rfl rfl
    · exact absurd hz hrn
  · refine r_ifF rfl (decide_eq_false hz) ?_
    iterate 2 refine pm_B.next rfl rfl ?_
    refine q_cs (a := [.int v, .int 8]) rfl rfl (Nat.le_of_ble_eq_true rfl) (Nat.le_of_ble_eq_true rfl) (x_isIn v 8) ?_
    rcases hw with ⟨hv, hw⟩ | ⟨hrn, t, hvt, htT, hw⟩
    · refine q_top (hv.resolve_left hz) ?_
      refine r_ifT rfl rfl ?_
      iterate 1 refine pm_B.next rfl rfl ?_
      rw [hw]
      exact q_iret rfl rfl
    · subst hvt
      refine q_top (show in_ (nI t) (nI 8) = 1 by rw [in_nI (by omega) (by omega), if_pos htT]) ?_
      refine r_ifF rfl rfl ?_
      iterate 1 refine pm_B.next rfl rfl ?_
      refine q_getr rfl s0 (by decide) r7 ?_
      iterate 1 refine pm_B.next rfl rfl ?_
      refine q_iald rfl c7 t rfl (by omega) (by decide) hw ?_
      iterate 1 refine pm_B.next rfl rfl ?_
      exact q_iret rfl rfl
theorem x_Mo_holder {rn : Int32} (m : kM S P) (hr : A 111 6 = rn) (v : Int32) (w : Int32) (hw : (rn = 0 ∨ in_ v 4 = 0) ∧ w = -1 ∨ rn ≠ 0 ∧ ∃ t, v = nI t ∧ t < 4 ∧ A 118 t = w) : EE (d + 1) M_Mo_holder [.ref 111, .int v] SL S A P (fun r => r = ((131, SL, S, A, P), some (.int w))) := by
  have m0 := m
  obtain ⟨⟨⟨s0, s1, s2, s3, s4, s5⟩, p0, p1, p2, p3, p5⟩, ⟨⟨c7, c8, c9, c0, e1, e2, e3, e4, e5⟩, r7, r8, r9, r10, r12, r13, r14, r15, r16⟩, -⟩ := m
  refine q_of (tb := fun j => tb_Mo_holder[j]?) rfl rfl (Nat.le_of_ble_eq_true rfl) ?_
  show BB _ _ 0 [.ref 111, .int v] [] _ _ _ _ _
  iterate 1 refine pm_B.next rfl rfl ?_
  refine q_geti rfl s0 (by decide) hr ?_
  by_cases hz : rn = 0
  · refine r_ifT rfl (decide_eq_true hz) ?_
    iterate 1 refine pm_B.next rfl rfl ?_
    rcases hw with ⟨-, hw⟩ | ⟨hrn, -⟩
    · rw [hw]
      exact q_iret rfl rfl
    · exact absurd hz hrn
  · refine r_ifF rfl (decide_eq_false hz) ?_
    iterate 2 refine pm_B.next rfl rfl ?_
    refine q_cs (a := [.int v, .int 4]) rfl rfl (Nat.le_of_ble_eq_true rfl) (Nat.le_of_ble_eq_true rfl) (x_isIn v 4) ?_
    rcases hw with ⟨hv, hw⟩ | ⟨hrn, t, hvt, htT, hw⟩
    · refine q_top (hv.resolve_left hz) ?_
      refine r_ifT rfl rfl ?_
      iterate 1 refine pm_B.next rfl rfl ?_
      rw [hw]
      exact q_iret rfl rfl
    · subst hvt
      refine q_top (show in_ (nI t) (nI 4) = 1 by rw [in_nI (by omega) (by omega), if_pos htT]) ?_
      refine r_ifF rfl rfl ?_
      iterate 1 refine pm_B.next rfl rfl ?_
      refine q_getr rfl s0 (by decide) r8 ?_
      iterate 1 refine pm_B.next rfl rfl ?_
      refine q_iald rfl c8 t rfl (by omega) (by decide) hw ?_
      iterate 1 refine pm_B.next rfl rfl ?_
      exact q_iret rfl rfl
/-- what the state of thread t rests on, in the reference -/
def tpM (A : Nat → Nat → Int32) (t dt b p l : Nat) (ow : Int32) : Prop := A 122 t = nI dt ∧ dt ≤ 8 ∧ (dt ≠ 0 → A 123 (8 * t + (dt - 1)) = nI b ∧ b < 9 ∧ A 124 (8 * t + (dt - 1)) = nI p ∧ p < 64 ∧ (KS A b p = 4 → l < 4 ∧ NS A b p = nI l ∧ A 118 l = ow ∧ (ow < 0 ↔ ow = -1)))
/-- the state of a thread -/
def sv_ (dt : Nat) (kd ow nb : Int32) : Int32 := if dt = 0 then 2 else if wt_ kd ow nb = 1 then 1 else 0
theorem x_Mo_state_no {T : Nat} {rn : Int32} (m : kM S P) (hr : A 111 6 = rn) (hT : A 111 11 = nI T) (v : Int32) (hv : rn = 0 ∨ in_ v (nI T) = 0) : EE (d + 2) M_Mo_state [.ref 111, .int v] SL S A P (fun r => r = ((131, SL, S, A, P), some (.int (-1)))) := by
  have m0 := m
  obtain ⟨⟨⟨s0, s1, s2, s3, s4, s5⟩, p0, p1, p2, p3, p5⟩, -, -⟩ := m
  refine q_of (tb := fun j => tb_Mo_state[j]?) rfl rfl (Nat.le_of_ble_eq_true rfl) ?_
  show BB _ _ 0 [.ref 111, .int v] [] _ _ _ _ _
  iterate 2 refine pm_B.next rfl rfl ?_
  refine q_cv (a := [.int v]) rfl s0 rfl (Nat.le_of_ble_eq_true rfl) (Nat.le_of_ble_eq_true rfl) (x_isThread m0 hr hT) ?_
  have e : (if rn = 0 then 0 else in_ v (nI T)) = 0 := by
    rcases hv with h | h
    · rw [if_pos h]
    · rw [h, ite_self]
  refine q_top e ?_
  refine r_ifF rfl rfl ?_
  iterate 2 refine pm_B.next rfl rfl ?_
  exact q_iret rfl rfl
theorem x_Mo_state {T t dt b p l : Nat} {rn ow : Int32} (m : kM S P) (hr : A 111 6 = rn) (hrn : rn ≠ 0) (hT : A 111 11 = nI T) (htT : t < T) (hT6 : T ≤ 6) (htp : tpM A t dt b p l ow) : EE (d + 2) M_Mo_state [.ref 111, .int (nI t)] SL S A P (fun r => r = ((131, SL, S, A, P), some (.int (sv_ dt (KS A b p) ow (nI t))))) := by
  have m0 := m
  obtain ⟨⟨⟨s0, s1, s2, s3, s4, s5⟩, p0, p1, p2, p3, p5⟩, ⟨⟨c7, c8, c9, c0, e1, e2, e3, e4, e5⟩, r7, r8, r9, r10, r12, r13, r14, r15, r16⟩, -⟩ := m
  obtain ⟨hd, hd8, htp⟩ := htp
  refine q_of (tb := fun j => tb_Mo_state[j]?) rfl rfl (Nat.le_of_ble_eq_true rfl) ?_
  show BB _ _ 0 [.ref 111, .int (nI t)] [] _ _ _ _ _
  iterate 2 refine pm_B.next rfl rfl ?_
  refine q_cv (a := [.int (nI t)]) rfl s0 rfl (Nat.le_of_ble_eq_true rfl) (Nat.le_of_ble_eq_true rfl) (x_isThread m0 hr hT) ?_
  refine q_top (show (if rn = 0 then 0 else in_ (nI t) (nI T)) = 1 by rw [if_neg hrn, in_nI (by omega) (by omega), if_pos htT]) ?_
  refine r_ifT rfl rfl ?_
  iterate 1 refine pm_B.next rfl rfl ?_
  refine q_getr rfl s0 (by decide) r13 ?_
  iterate 1 refine pm_B.next rfl rfl ?_
  refine q_iald rfl e2 t rfl (by omega) (by decide) hd ?_
  cases dt with
  | zero =>
    refine r_ifF rfl rfl ?_
    iterate 2 refine pm_B.next rfl rfl ?_
    exact q_iret rfl rfl
  | succ n =>
    obtain ⟨hb, hb9, hp, hp64, hl⟩ := htp (by omega)
    refine r_ifT rfl (decide_eq_true (nI_ne (a := n + 1) (b := 0) (by omega) (by omega) (by omega))) ?_
    iterate 2 refine pm_B.next rfl rfl ?_
    refine q_cv (a := [.int (nI t)]) rfl s0 rfl (Nat.le_of_ble_eq_true rfl) (Nat.le_of_ble_eq_true rfl) (x_waitsFor m0 (by omega) hd (by omega) hb hb9 hp hp64 hl) ?_
    rcases wt_z (KS A b p) ow (nI t) with hw | hw
    · rw [hw, if_neg (by decide)]
      refine r_ifT rfl rfl ?_
      iterate 1 refine pm_B.next rfl rfl ?_
      exact q_iret rfl (by simp [sv_, hw])
    · have hk4 : KS A b p = 4 := by
        by_cases g : KS A b p = 4
        · exact g
        · simp [wt_, g] at hw
      rw [hw, if_pos rfl]
      refine r_ifF rfl (decide_eq_false (nI_pos (by have := (hl hk4).1; omega))) ?_
      iterate 2 refine pm_B.next rfl rfl ?_
      exact q_iret rfl (by simp [sv_, hw])
theorem x_Mo_count {rn tc sc rc : Int32} (m : kM S P) (hr : A 111 6 = rn) (hT : A 111 11 = tc) (hst : A 111 17 = sc) (hrc : A 111 22 = rc) (v : Int32) : EE d M_Mo_count [.ref 111, .int v] SL S A P (fun r => r = ((131, SL, S, A, P), some (.int (if rn = 0 then -1 else if v = 0 then tc else if v = 1 then sc else if v = 2 then rc else -1)))) := by
  obtain ⟨⟨⟨s0, s1, s2, s3, s4, s5⟩, p0, p1, p2, p3, p5⟩, -, -⟩ := m
  refine q_of (tb := fun j => tb_Mo_count[j]?) rfl rfl (Nat.le_of_ble_eq_true rfl) ?_
  show BB _ _ 0 [.ref 111, .int v] [] _ _ _ _ _
  iterate 1 refine pm_B.next rfl rfl ?_
  refine q_geti rfl s0 (by decide) hr ?_
  by_cases hz : rn = 0
  · refine r_ifF rfl (decide_eq_false (fun g => g hz)) ?_
    iterate 2 refine pm_B.next rfl rfl ?_
    exact q_iret rfl (by rw [if_pos hz])
  rw [if_neg hz]
  refine r_ifT rfl (decide_eq_true hz) ?_
  iterate 1 refine pm_B.next rfl rfl ?_
  by_cases h0 : v = 0
  · refine r_ifF rfl (decide_eq_false (fun g => g h0)) ?_
    iterate 1 refine pm_B.next rfl rfl ?_
    refine q_geti rfl s0 (by decide) hT ?_
    iterate 1 refine pm_B.next rfl rfl ?_
    exact q_iret rfl (by rw [if_pos h0])
  rw [if_neg h0]
  refine r_ifT rfl (decide_eq_true h0) ?_
  iterate 2 refine pm_B.next rfl rfl ?_
  by_cases h1 : v = 1
  · refine r_icF rfl (decide_eq_false (fun g => g h1)) ?_
    iterate 1 refine pm_B.next rfl rfl ?_
    refine q_geti rfl s0 (by decide) hst ?_
    iterate 1 refine pm_B.next rfl rfl ?_
    exact q_iret rfl (by rw [if_pos h1])
  rw [if_neg h1]
  refine r_icT rfl (decide_eq_true h1) ?_
  iterate 2 refine pm_B.next rfl rfl ?_
  by_cases h2 : v = 2
  · refine r_icF rfl (decide_eq_false (fun g => g h2)) ?_
    iterate 1 refine pm_B.next rfl rfl ?_
    refine q_geti rfl s0 (by decide) hrc ?_
    iterate 1 refine pm_B.next rfl rfl ?_
    exact q_iret rfl (by rw [if_pos h2])
  rw [if_neg h2]
  refine r_icT rfl (decide_eq_true h2) ?_
  iterate 1 refine pm_B.next rfl rfl ?_
  exact q_iret rfl rfl
/-- how many of the first i are 2 -/
def c2 (f : Nat → Int32) : Nat → Nat
  | 0 => 0
  | i + 1 => c2 f i + (if f i = 2 then 1 else 0)
theorem c2_le {f : Nat → Int32} : ∀ i, c2 f i ≤ i ∧ (c2 f i = i ↔ ∀ t, t < i → f t = 2)
  | 0 => ⟨Nat.le_refl _, fun _ t h => absurd h (Nat.not_lt_zero _), fun _ => rfl⟩
  | i + 1 => by
    obtain ⟨h1, h2⟩ := c2_le (f := f) i
    unfold c2
    by_cases h : f i = 2
    · rw [if_pos h]
      refine ⟨by omega, fun g t ht => ?_, fun g => ?_⟩
      · by_cases hti : t = i
        · rw [hti]; exact h
        · exact h2.mp (by omega) t (by omega)
      · have := h2.mpr (fun t ht => g t (by omega)); omega
    · rw [if_neg h]
      refine ⟨by omega, fun g => ?_, fun g => absurd (g i (by omega)) h⟩
      omega
/-- the threads are stuck -/
def stk (f : Nat → Int32) (T : Nat) : Prop := (∀ t, t < T → f t ≠ 0) ∧ ∃ t, t < T ∧ f t ≠ 2
theorem x_Mo_stuck {T : Nat} {dt b p l : Nat → Nat} {ow : Nat → Int32} (m : kM S P) (hr : A 111 6 = if T = 0 then 0 else 1) (hT : A 111 11 = nI T) (hT6 : T ≤ 6) (htp : ∀ t, t < T → tpM A t (dt t) (b t) (p t) (l t) (ow t)) :
    EE (d + 3) M_Mo_stuck [.ref 111] SL S A P (fun r => (stk (fun t => sv_ (dt t) (KS A (b t) (p t)) (ow t) (nI t)) T ∧ r = ((131, SL, S, A, P), some (.int 1))) ∨ (¬ stk (fun t => sv_ (dt t) (KS A (b t) (p t)) (ow t) (nI t)) T ∧ r = ((131, SL, S, A, P), some (.int 0)))) := by
  have m0 := m
  obtain ⟨⟨⟨s0, s1, s2, s3, s4, s5⟩, p0, p1, p2, p3, p5⟩, -, -⟩ := m
  generalize hf : (fun t => sv_ (dt t) (KS A (b t) (p t)) (ow t) (nI t)) = f
  have hfe : ∀ t, f t = sv_ (dt t) (KS A (b t) (p t)) (ow t) (nI t) := fun t => by rw [← hf]
  refine q_of (tb := fun j => tb_Mo_stuck[j]?) rfl rfl (Nat.le_of_ble_eq_true rfl) ?_
  show BB _ _ 0 [.ref 111, .null, .null] [] _ _ _ _ _
  iterate 4 refine pm_B.next rfl rfl ?_
  suffices h : ∀ k i, i + k = T → (∀ t, t < i → f t ≠ 0) → BB (d + 3) (fun j => tb_Mo_stuck[j]?) 4 [.ref 111, .int (nI (c2 f i)), .int (nI i)] [] SL S A P (fun r => (131 ≤ r.1.1 ∧ SL ≤ r.1.2.1) ∧ ((stk f T ∧ r = ((131, SL, S, A, P), some (.int 1))) ∨ (¬ stk f T ∧ r = ((131, SL, S, A, P), some (.int 0))))) by
    exact h T 0 (by omega) (fun t h => absurd h (Nat.not_lt_zero _))
  intro k
  induction k with
  | zero =>
    intro i hi hnz
    have : i = T := by omega
    subst this
    obtain ⟨q1, q2⟩ := c2_le (f := f) i
    iterate 2 refine pm_B.next rfl rfl ?_
    refine q_geti rfl s0 (by decide) hT ?_
    refine r_icT rfl (decide_eq_true (nI_le (Nat.le_refl _) (by omega))) ?_
    iterate 1 refine pm_B.next rfl rfl ?_
    refine q_geti rfl s0 (by decide) hr ?_
    by_cases hz : i = 0
    · rw [if_pos hz]
      refine r_ifT rfl rfl ?_
      iterate 1 refine pm_B.next rfl rfl ?_
      exact q_zret rfl (Or.inl rfl) (Or.inr ⟨fun ⟨_, t, ht, _⟩ => by omega, rfl⟩)
    · rw [if_neg hz]
      refine r_ifF rfl rfl ?_
      iterate 2 refine pm_B.next rfl rfl ?_
      refine q_geti rfl s0 (by decide) hT ?_
      by_cases hc : c2 f i = i
      · refine r_icT rfl (decide_eq_true (nI_le (by omega) (by omega))) ?_
        iterate 1 refine pm_B.next rfl rfl ?_
        exact q_zret rfl (Or.inl rfl) (Or.inr ⟨fun ⟨_, t, ht, g⟩ => g (q2.mp hc t ht), rfl⟩)
      · refine r_icF rfl (decide_eq_false (nI_ge (by omega) (by omega))) ?_
        iterate 2 refine pm_B.next rfl rfl ?_
        refine q_zret rfl (Or.inr rfl) (Or.inl ⟨⟨hnz, ?_⟩, rfl⟩)
        exact Classical.byContradiction fun g => hc (q2.mpr fun t ht => Classical.byContradiction fun g2 => g ⟨t, ht, g2⟩)
  | succ k ih =>
    intro i hi hnz
    obtain ⟨q1, q2⟩ := c2_le (f := f) i
    iterate 2 refine pm_B.next rfl rfl ?_
    refine q_geti rfl s0 (by decide) hT ?_
    refine r_icF rfl (decide_eq_false (nI_ge (by omega) (by omega))) ?_
    iterate 1 refine pm_B.next rfl rfl ?_
    refine q_geti rfl s0 (by decide) hr ?_
    rw [if_neg (by omega)]
    refine r_ifF rfl rfl ?_
    iterate 2 refine pm_B.next rfl rfl ?_
    refine q_cv (a := [.int (nI i)]) rfl s0 rfl (Nat.le_of_ble_eq_true rfl) (Nat.le_of_ble_eq_true rfl) (x_Mo_state m0 hr (by rw [if_neg (by omega)]; decide) hT (by omega) hT6 (htp i (by omega))) ?_
    rw [← hfe]
    by_cases h0 : f i = 0
    · refine r_ifF rfl (decide_eq_false (fun g => g h0)) ?_
      iterate 1 refine pm_B.next rfl rfl ?_
      exact q_zret rfl (Or.inl rfl) (Or.inr ⟨fun ⟨g, _⟩ => g i (by omega) h0, rfl⟩)
    · refine r_ifT rfl (decide_eq_true h0) ?_
      iterate 3 refine pm_B.next rfl rfl ?_
      refine q_cv (a := [.int (nI i)]) rfl s0 rfl (Nat.le_of_ble_eq_true rfl) (Nat.le_of_ble_eq_true rfl) (x_Mo_state m0 hr (by rw [if_neg (by omega)]; decide) hT (by omega) hT6 (htp i (by omega))) ?_
      rw [← hfe]
      iterate 1 refine pm_B.next rfl rfl ?_
      have hn' : ∀ t, t < i + 1 → f t ≠ 0 := fun t ht => by
        by_cases hti : t = i
        · rw [hti]; exact h0
        · exact hnz t (by omega)
      by_cases h2 : f i = 2
      · refine r_icF rfl (decide_eq_false (fun g => g h2)) ?_
        iterate 3 refine pm_B.next rfl rfl ?_
        refine q_top (nI_1 _) ?_
        iterate 3 refine pm_B.next rfl rfl ?_
        refine q_lc (lc' := [.ref 111, .int (nI (c2 f (i + 1))), .int (nI (i + 1))]) (by rw [nI_succ i, show c2 f (i + 1) = c2 f i + 1 by simp [c2, h2]]; rfl) ?_
        exact ih (i + 1) (by omega) hn'
      · refine r_icT rfl (decide_eq_true h2) ?_
        iterate 2 refine pm_B.next rfl rfl ?_
        refine q_top (Int32.add_zero _) ?_
        iterate 3 refine pm_B.next rfl rfl ?_
        refine q_lc (lc' := [.ref 111, .int (nI (c2 f (i + 1))), .int (nI (i + 1))]) (by rw [nI_succ i, show c2 f (i + 1) = c2 f i by simp [c2, h2]]; rfl) ?_
        exact ih (i + 1) (by omega) hn'
end REF6
