theorem lin8 (t n : Nat) : 8 * nI t + nI n = nI (8 * t + n) := by rw [show (8 : Int32) = nI 8 from rfl, pk_mul, nI_add]
theorem lin8p (t n : Nat) : 8 * nI t + nI (n + 1) - 1 = nI (8 * t + n) := by rw [lin8, show 8 * t + (n + 1) = 8 * t + n + 1 by omega, nI_pred]
section WAITS
variable {d : Nat} {SL : Nat} {S : Nat → Nat × Nat} {A : Nat → Nat → Int32} {P : Nat → Nat → Option Nat}
/-- whether a SYNC waits: kind, owner, own number -/
def wt_ (kd ow nb : Int32) : Int32 := if kd = 4 ∧ ¬ (ow = -1 ∨ ow = nb) then 1 else 0
theorem wt_z (kd ow nb : Int32) : wt_ kd ow nb = 0 ∨ wt_ kd ow nb = 1 := by
  unfold wt_
  split
  · exact Or.inr rfl
  · exact Or.inl rfl
theorem x_wouldWait {s n b q p l : Nat} {kd ow nb : Int32} (u : kU S P) (ks : kS S P s) (hd : A s 4 = nI (n + 1)) (hn : n < 8) (hb : A (s + 1) n = nI b) (hb8 : b < 8) (hq : P 2 b = some q) (kb : kB S P q) (hp : A (s + 2) n = nI p) (hp64 : p < 64) (hk : A (q + 1) p = kd) (hl : kd = 4 → l < 4 ∧ A (q + 2) p = nI l ∧ A (79 + 2 * l) 1 = ow) (hnb : A s 0 = nb) :
    EE (d + 1) M_Ru_wouldWait [.ref 49, .ref s] SL S A P (fun r => r = ((131, SL, S, A, P), some (.int (wt_ kd ow nb)))) := by
  have u0 := u
  have ks0 := ks
  obtain ⟨⟨u0', u1, u2, u3, u4, u5, u6⟩, ⟨w0, w1, w2, w3, w4, w5, w6⟩, hT, hL, hC, hR⟩ := u
  obtain ⟨⟨t0, t1, t2, t3, t4⟩, q0, q1, q2, q3⟩ := kb
  refine q_of (tb := fun j => tb_Ru_wouldWait[j]?) rfl rfl (Nat.le_of_ble_eq_true rfl) ?_
  show BB _ _ 0 [.ref 49, .ref s, .null, .null] [] _ _ _ _ _
  iterate 2 refine pm_B.next rfl rfl ?_
  refine q_cv (a := [.ref s]) rfl u0' rfl (Nat.le_of_ble_eq_true rfl) (Nat.le_of_ble_eq_true rfl) (x_bodyOf u0 ks0 hd hn hb hb8 hq) ?_
  iterate 2 refine pm_B.next rfl rfl ?_
  refine q_cs (a := [.ref s]) rfl rfl (Nat.le_of_ble_eq_true rfl) (Nat.le_of_ble_eq_true rfl) (x_placeOf ks0 hd hn hp) ?_
  iterate 2 refine pm_B.next rfl rfl ?_
  refine q_getr rfl t0 (by decide) q0 ?_
  iterate 1 refine pm_B.next rfl rfl ?_
  refine q_iald rfl t1 p rfl hp64 (by decide) hk ?_
  iterate 1 refine pm_B.next rfl rfl ?_
  by_cases h4 : kd = 4
  · obtain ⟨l4, l2, l3⟩ := hl h4
    obtain ⟨m1, m2⟩ := hL l l4
    refine r_icF rfl (decide_eq_false (fun g => g h4)) ?_
    iterate 1 refine pm_B.next rfl rfl ?_
    refine q_getr rfl u0' (by decide) w2 ?_
    iterate 1 refine pm_B.next rfl rfl ?_
    refine q_getr rfl t0 (by decide) q1 ?_
    iterate 1 refine pm_B.next rfl rfl ?_
    refine q_iald rfl t2 p rfl hp64 (by decide) l2 ?_
    refine q_aald rfl u2 l rfl l4 (by decide) m1 ?_
    iterate 1 refine pm_B.next rfl rfl ?_
    refine q_cv (a := [.ref s]) rfl m2.1.1 rfl (Nat.le_of_ble_eq_true rfl) (Nat.le_of_ble_eq_true rfl) (x_Lk_refuses m2 ks0 l3 hnb) ?_
    by_cases hz : ow = -1 ∨ ow = nb
    · rw [if_pos hz]
      repeat refine pm_B.next rfl rfl ?_
      exact q_zret rfl (Or.inl rfl) (by simp [wt_, hz])
    · rw [if_neg hz]
      repeat refine pm_B.next rfl rfl ?_
      refine q_zret rfl (Or.inr rfl) ?_
      simp only [wt_]
      rw [if_pos ⟨h4, hz⟩]
  · refine r_icT rfl (decide_eq_true h4) ?_
    repeat refine pm_B.next rfl rfl ?_
    exact q_zret rfl (Or.inl rfl) (by simp [wt_, h4])
theorem x_waitsFor {t n b p l : Nat} {ow : Int32} (m : kM S P) (ht : t < 6) (hd : A 122 t = nI (n + 1)) (hn : n < 8) (hb : A 123 (8 * t + n) = nI b) (hb8 : b < 9) (hp : A 124 (8 * t + n) = nI p) (hp64 : p < 64) (hl : KS A b p = 4 → l < 4 ∧ NS A b p = nI l ∧ A 118 l = ow ∧ (ow < 0 ↔ ow = -1)) :
    EE (d + 1) M_Mo_waitsFor [.ref 111, .int (nI t)] SL S A P (fun r => r = ((131, SL, S, A, P), some (.int (if wt_ (KS A b p) ow (nI t) = 1 then nI l else -1)))) := by
  have m0 := m
  obtain ⟨⟨⟨s0, s1, s2, s3, s4, s5⟩, p0, p1, p2, p3, p5⟩, ⟨⟨c7, c8, c9, c0, e1, e2, e3, e4, e5⟩, r7, r8, r9, r10, r12, r13, r14, r15, r16⟩, -⟩ := m
  refine q_of (tb := fun j => tb_Mo_waitsFor[j]?) rfl rfl (Nat.le_of_ble_eq_true rfl) ?_
  show BB _ _ 0 [.ref 111, .int (nI t), .null, .null] [] _ _ _ _ _
  iterate 4 refine pm_B.next rfl rfl ?_
  refine q_getr rfl s0 (by decide) r13 ?_
  iterate 1 refine pm_B.next rfl rfl ?_
  refine q_iald rfl e2 t rfl ht (by decide) hd ?_
  iterate 3 refine pm_B.next rfl rfl ?_
  refine q_top (lin8p t n) ?_
  iterate 3 refine pm_B.next rfl rfl ?_
  refine q_getr rfl s0 (by decide) r14 ?_
  iterate 1 refine pm_B.next rfl rfl ?_
  refine q_iald rfl e3 (8 * t + n) rfl (by omega) (by decide) hb ?_
  iterate 1 refine pm_B.next rfl rfl ?_
  refine q_getr rfl s0 (by decide) r15 ?_
  iterate 1 refine pm_B.next rfl rfl ?_
  refine q_iald rfl e4 (8 * t + n) rfl (by omega) (by decide) hp ?_
  refine q_cv (a := [.int (nI b), .int (nI p)]) rfl s0 rfl (Nat.le_of_ble_eq_true rfl) (Nat.le_of_ble_eq_true rfl) (x_kindAt m0 hb8 hp64) ?_
  iterate 1 refine pm_B.next rfl rfl ?_
  by_cases h4 : KS A b p = 4
  · obtain ⟨l4, l2, l3, l5⟩ := hl h4
    refine r_icT rfl (decide_eq_true h4) ?_
    iterate 2 refine pm_B.next rfl rfl ?_
    refine q_getr rfl s0 (by decide) r14 ?_
    iterate 1 refine pm_B.next rfl rfl ?_
    refine q_iald rfl e3 (8 * t + n) rfl (by omega) (by decide) hb ?_
    iterate 1 refine pm_B.next rfl rfl ?_
    refine q_getr rfl s0 (by decide) r15 ?_
    iterate 1 refine pm_B.next rfl rfl ?_
    refine q_iald rfl e4 (8 * t + n) rfl (by omega) (by decide) hp ?_
    refine q_cv (a := [.int (nI b), .int (nI p)]) rfl s0 rfl (Nat.le_of_ble_eq_true rfl) (Nat.le_of_ble_eq_true rfl) (x_numberAt m0 hb8 hp64) ?_
    rw [l2]
    iterate 2 refine pm_B.next rfl rfl ?_
    refine q_getr rfl s0 (by decide) r8 ?_
    iterate 1 refine pm_B.next rfl rfl ?_
    refine q_iald rfl c8 l rfl l4 (by decide) l3 ?_
    by_cases h1 : ow < 0
    · refine r_ifT rfl (decide_eq_true h1) ?_
      repeat refine pm_B.next rfl rfl ?_
      exact q_iret rfl (by simp [wt_, l5.mp h1])
    · refine r_ifF rfl (decide_eq_false h1) ?_
      iterate 1 refine pm_B.next rfl rfl ?_
      refine q_getr rfl s0 (by decide) r8 ?_
      iterate 1 refine pm_B.next rfl rfl ?_
      refine q_iald rfl c8 l rfl l4 (by decide) l3 ?_
      iterate 1 refine pm_B.next rfl rfl ?_
      by_cases h2 : ow = nI t
      · refine r_icT rfl (decide_eq_true h2) ?_
        repeat refine pm_B.next rfl rfl ?_
        exact q_iret rfl (by simp [wt_, h2])
      · refine r_icF rfl (decide_eq_false h2) ?_
        repeat refine pm_B.next rfl rfl ?_
        refine q_iret rfl ?_
        have h3 : ¬ ow = -1 := fun g => h1 (l5.mpr g)
        simp [wt_, h4, h2, h3]
  · refine r_icF rfl (decide_eq_false h4) ?_
    repeat refine pm_B.next rfl rfl ?_
    exact q_iret rfl (by simp [wt_, h4])
theorem x_isThread {T : Nat} {rn v : Int32} (m : kM S P) (hr : A 111 6 = rn) (hT : A 111 11 = nI T) : EE (d + 1) M_Mo_isThread [.ref 111, .int v] SL S A P (fun r => r = ((131, SL, S, A, P), some (.int (if rn = 0 then 0 else in_ v (nI T))))) := by
  obtain ⟨⟨⟨s0, s1, s2, s3, s4, s5⟩, p0, p1, p2, p3, p5⟩, -⟩ := m
  refine q_of (tb := fun j => tb_Mo_isThread[j]?) rfl rfl (Nat.le_of_ble_eq_true rfl) ?_
  show BB _ _ 0 [.ref 111, .int v] [] _ _ _ _ _
  iterate 1 refine pm_B.next rfl rfl ?_
  refine q_geti rfl s0 (by decide) hr ?_
  by_cases h : rn = 0
  · refine r_ifT rfl (decide_eq_true h) ?_
    repeat refine pm_B.next rfl rfl ?_
    exact q_zret rfl (Or.inl rfl) (by rw [if_pos h])
  · refine r_ifF rfl (decide_eq_false h) ?_
    iterate 2 refine pm_B.next rfl rfl ?_
    refine q_geti rfl s0 (by decide) hT ?_
    refine q_cs rfl rfl (Nat.le_of_ble_eq_true rfl) (Nat.le_of_ble_eq_true rfl) (x_isIn v (nI T)) ?_
    rcases in_z v (nI T) with z | z
    · rw [z]
      repeat refine pm_B.next rfl rfl ?_
      exact q_zret rfl (Or.inl rfl) (by rw [if_neg h])
    · rw [z]
      repeat refine pm_B.next rfl rfl ?_
      exact q_zret rfl (Or.inr rfl) (by rw [if_neg h])
theorem x_Mo_enter {t n : Nat} {v : Int32} (m : kM S P) (ht : t < 6) (hd : A 122 t = nI n) (hn : n < 8) : EE d M_Mo_enter [.ref 111, .int (nI t), .int v] SL S A P (fun r => r = ((131, SL, S, pm_u (pm_u (pm_u A 123 (8 * t + n) v) 124 (8 * t + n) 0) 122 t (nI (n + 1)), P), none)) := by
  obtain ⟨⟨⟨s0, s1, s2, s3, s4, s5⟩, p0, p1, p2, p3, p5⟩, ⟨⟨c7, c8, c9, c0, e1, e2, e3, e4, e5⟩, r7, r8, r9, r10, r12, r13, r14, r15, r16⟩, -⟩ := m
  refine q_of (tb := fun j => tb_Mo_enter[j]?) rfl rfl (Nat.le_of_ble_eq_true rfl) ?_
  show BB _ _ 0 [.ref 111, .int (nI t), .int v] [] _ _ _ _ _
  iterate 1 refine pm_B.next rfl rfl ?_
  refine q_getr rfl s0 (by decide) r14 ?_
  iterate 4 refine pm_B.next rfl rfl ?_
  refine q_getr rfl s0 (by decide) r13 ?_
  iterate 1 refine pm_B.next rfl rfl ?_
  refine q_iald rfl e2 t rfl ht (by decide) hd ?_
  iterate 2 refine pm_B.next rfl rfl ?_
  refine q_iast rfl e3 (8 * t + n) (lin8 t n) (by omega) (by decide) ?_
  iterate 1 refine pm_B.next rfl rfl ?_
  refine q_getr rfl s0 (by decide) r15 ?_
  iterate 4 refine pm_B.next rfl rfl ?_
  refine q_getr rfl s0 (by decide) r13 ?_
  iterate 1 refine pm_B.next rfl rfl ?_
  refine q_iald rfl e2 t rfl ht (by decide) (v := nI n) (by rw [u_nc (by decide)]; exact hd) ?_
  iterate 2 refine pm_B.next rfl rfl ?_
  refine q_iast rfl e4 (8 * t + n) (lin8 t n) (by omega) (by decide) ?_
  iterate 1 refine pm_B.next rfl rfl ?_
  refine q_getr rfl s0 (by decide) r13 ?_
  iterate 2 refine pm_B.next rfl rfl ?_
  refine q_iald rfl e2 t rfl ht (by decide) (v := nI n) (by rw [u_nc (by decide), u_nc (by decide)]; exact hd) ?_
  iterate 2 refine pm_B.next rfl rfl ?_
  refine q_top (nI_1 n) ?_
  refine q_iast rfl e2 t rfl ht (by decide) ?_
  exact q_vret rfl rfl
theorem x_Mo_leave {t : Nat} {bf pf sz : Nat → Nat} (m : kM S P) (ht : t < 6) : ∀ (n : Nat) (A : Nat → Nat → Int32), n ≤ 8 → A 122 t = nI n → (∀ j, j < n → A 123 (8 * t + j) = nI (bf j) ∧ bf j < 9 ∧ A 124 (8 * t + j) = nI (pf j) ∧ pf j < 1000 ∧ A 114 (bf j) = nI (sz j) ∧ sz j < 1000) →
    ∀ top : Int32, (∀ n', n = n' + 1 → top = nI (8 * t + n')) → (n = 0 → True) → BB d (fun j => tb_Mo_leave[j]?) 11 [.ref 111, .int (nI t), .int top] [] SL S A P (fun r => (131 ≤ r.1.1 ∧ SL ≤ r.1.2.1) ∧ r = ((131, SL, S, pm_u A 122 t (nI (lvn (fun j => decide (pf j = sz j)) n)), P), none)) := by
  obtain ⟨⟨⟨s0, s1, s2, s3, s4, s5⟩, p0, p1, p2, p3, p5⟩, ⟨⟨c7, c8, c9, c0, e1, e2, e3, e4, e5⟩, r7, r8, r9, r10, r12, r13, r14, r15, r16⟩, -⟩ := m
  intro n
  induction n with
  | zero =>
    intro A _ hd _ top _ _
    iterate 1 refine pm_B.next rfl rfl ?_
    refine q_getr rfl s0 (by decide) r13 ?_
    iterate 1 refine pm_B.next rfl rfl ?_
    refine q_iald rfl e2 t rfl ht (by decide) hd ?_
    refine r_ifT rfl rfl ?_
    refine q_vret rfl ?_
    rw [show nI (lvn (fun j => decide (pf j = sz j)) 0) = A 122 t from hd.symm, u_id]
  | succ n ih =>
    intro A hn hd hf top htop _
    obtain ⟨f1, f2, f3, f4, f5, f6⟩ := hf n (by omega)
    rw [htop n rfl]
    iterate 1 refine pm_B.next rfl rfl ?_
    refine q_getr rfl s0 (by decide) r13 ?_
    iterate 1 refine pm_B.next rfl rfl ?_
    refine q_iald rfl e2 t rfl ht (by decide) hd ?_
    refine r_ifF rfl (decide_eq_false (fun h => nI_nle (n := n + 1) (by omega) (by omega) h)) ?_
    iterate 1 refine pm_B.next rfl rfl ?_
    refine q_getr rfl s0 (by decide) r15 ?_
    iterate 1 refine pm_B.next rfl rfl ?_
    refine q_iald rfl e4 (8 * t + n) rfl (by omega) (by decide) f3 ?_
    iterate 1 refine pm_B.next rfl rfl ?_
    refine q_getr rfl s0 (by decide) p2 ?_
    iterate 1 refine pm_B.next rfl rfl ?_
    refine q_getr rfl s0 (by decide) r14 ?_
    iterate 1 refine pm_B.next rfl rfl ?_
    refine q_iald rfl e3 (8 * t + n) rfl (by omega) (by decide) f1 ?_
    refine q_iald rfl s3 (bf n) rfl f2 (by decide) f5 ?_
    by_cases heq : pf n = sz n
    · refine r_icF rfl (decide_eq_false (fun g => g (by rw [heq]))) ?_
      iterate 1 refine pm_B.next rfl rfl ?_
      refine q_getr rfl s0 (by decide) r13 ?_
      iterate 2 refine pm_B.next rfl rfl ?_
      refine q_iald rfl e2 t rfl ht (by decide) hd ?_
      iterate 2 refine pm_B.next rfl rfl ?_
      refine q_top (nI_pred n) ?_
      refine q_iast rfl e2 t rfl ht (by decide) ?_
      iterate 2 refine pm_B.next rfl rfl ?_
      refine pm_B.weaken (ih (pm_u A 122 t (nI n)) (by omega) u_eq (fun j hj => ?_) _ (fun n' hn' => ?_) (fun _ => trivial)) (fun r hr => ⟨hr.1, ?_⟩)
      · obtain ⟨g1, g2, g3, g4, g5, g6⟩ := hf j (by omega)
        exact ⟨by rw [u_nc (by decide)]; exact g1, g2, by rw [u_nc (by decide)]; exact g3, g4, by rw [u_nc (by decide)]; exact g5, g6⟩
      · subst hn'
        show nI (8 * t + (n' + 1)) + -1 = _
        rw [show 8 * t + (n' + 1) = 8 * t + n' + 1 by omega, pk_m1]
      · rw [hr.2, u_uu]
        simp [lvn, heq]
    · refine r_icT rfl (decide_eq_true (fun g => heq ((nI_eq (by omega) (by omega)).mp g))) ?_
      refine q_vret rfl ?_
      have ee : lvn (fun j => decide (pf j = sz j)) (n + 1) = n + 1 := by simp [lvn, heq]
      rw [ee, ← hd, u_id]
end WAITS
