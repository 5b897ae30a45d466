section REF4
variable {d : Nat} {SL : Nat} {S : Nat → Nat × Nat} {A : Nat → Nat → Int32} {P : Nat → Nat → Option Nat}
theorem in_11 (kd : Int32) : in_ kd 11 = if ¬ kd < 0 ∧ ¬ (10 : Int32) < kd then 1 else 0 := by
  unfold in_
  have h : ((11 : Int32) ≤ kd) ↔ ((10 : Int32) < kd) := by
    rw [Int32.le_iff_toInt_le, Int32.lt_iff_toInt_lt]
    show (11 : Int) ≤ _ ↔ (10 : Int) < _
    omega
  simp only [h]
theorem fit_rng {kd nm : Int32} : fit_ kd nm = 1 → ¬ kd < 0 ∧ ¬ (10 : Int32) < kd := by
  intro h
  unfold fit_ at h
  split at h
  · rename_i g
    rcases g with rfl | rfl <;> decide
  · split at h
    · rename_i g
      subst g
      decide
    · split at h
      · rename_i g
        rcases g with rfl | rfl <;> decide
      · rw [in_11] at h
        split at h
        · rename_i g
          exact g
        · cases h
/-- a flag, and another test beside it -/
def an_ (x y : Int32) : Int32 := if x = 0 then 0 else if y = 0 then 0 else 1
theorem x_Mo_statement {sz : Nat} {kd nm : Int32} (m : kM S P) (hs : A 114 8 = nI sz) (h64 : sz ≤ 64) : EE (d + 1) M_Mo_statement [.ref 111, .int kd, .int nm] SL S A P (fun r => ((fit_ kd nm = 0 ∨ sz = 64) ∧ r = ((131, SL, S, A, P), some (.int (-1)))) ∨ (fit_ kd nm = 1 ∧ sz < 64 ∧ r = ((131, SL, S, pm_u (pm_u (pm_u A 112 (512 + sz) kd) 113 (512 + sz) nm) 114 8 (nI (sz + 1)), P), some (.int (nI (sz + 1)))))) := by
  obtain ⟨⟨⟨s0, s1, s2, s3, s4, s5⟩, p0, p1, p2, p3, p5⟩, -⟩ := m
  refine q_of (tb := fun j => tb_Mo_statement[j]?) rfl rfl (Nat.le_of_ble_eq_true rfl) ?_
  show BB _ _ 0 [.ref 111, .int kd, .int nm, .null] [] _ _ _ _ _
  -- the end, by the flag
  have fin : ∀ g : Int32, (g = 0 → fit_ kd nm = 0 ∨ sz = 64) → (g ≠ 0 → fit_ kd nm = 1 ∧ sz < 64) → BB (d + 1) (fun j => tb_Mo_statement[j]?) 59 [.ref 111, .int kd, .int nm, .int g] [] SL S A P (fun r => (131 ≤ r.1.1 ∧ SL ≤ r.1.2.1) ∧ (((fit_ kd nm = 0 ∨ sz = 64) ∧ r = ((131, SL, S, A, P), some (.int (-1)))) ∨ (fit_ kd nm = 1 ∧ sz < 64 ∧ r = ((131, SL, S, pm_u (pm_u (pm_u A 112 (512 + sz) kd) 113 (512 + sz) nm) 114 8 (nI (sz + 1)), P), some (.int (nI (sz + 1))))))) := by
    intro g hg0 hg1
    iterate 1 refine pm_B.next rfl rfl ?_
    by_cases hz : g = 0
    · subst hz
      repeat refine pm_B.next rfl rfl ?_
      exact q_iret rfl (Or.inl ⟨hg0 rfl, rfl⟩)
    · obtain ⟨f1, f2⟩ := hg1 hz
      refine r_ifT rfl (decide_eq_true hz) ?_
      iterate 1 refine pm_B.next rfl rfl ?_
      refine q_getr rfl s0 (by decide) p0 ?_
      iterate 2 refine pm_B.next rfl rfl ?_
      refine q_getr rfl s0 (by decide) p2 ?_
      iterate 1 refine pm_B.next rfl rfl ?_
      refine q_iald rfl s3 8 rfl (by decide) (by decide) hs ?_
      iterate 2 refine pm_B.next rfl rfl ?_
      refine q_iast rfl s1 (512 + sz) (nI_add 512 sz) (by omega) (by decide) ?_
      iterate 1 refine pm_B.next rfl rfl ?_
      refine q_getr rfl s0 (by decide) p1 ?_
      iterate 2 refine pm_B.next rfl rfl ?_
      refine q_getr rfl s0 (by decide) p2 ?_
      iterate 1 refine pm_B.next rfl rfl ?_
      refine q_iald rfl s3 8 rfl (by decide) (by decide) (v := nI sz) (by rw [u_nc (by decide)]; exact hs) ?_
      iterate 2 refine pm_B.next rfl rfl ?_
      refine q_iast rfl s2 (512 + sz) (nI_add 512 sz) (by omega) (by decide) ?_
      iterate 1 refine pm_B.next rfl rfl ?_
      refine q_getr rfl s0 (by decide) p2 ?_
      iterate 2 refine pm_B.next rfl rfl ?_
      refine q_iald rfl s3 8 rfl (by decide) (by decide) (v := nI sz) (by rw [u_nc (by decide), u_nc (by decide)]; exact hs) ?_
      iterate 2 refine pm_B.next rfl rfl ?_
      refine q_top (nI_1 sz) ?_
      refine q_iast rfl s3 8 rfl (by decide) (by decide) ?_
      iterate 1 refine pm_B.next rfl rfl ?_
      refine q_getr rfl s0 (by decide) p2 ?_
      iterate 1 refine pm_B.next rfl rfl ?_
      refine q_iald rfl s3 8 rfl (by decide) (by decide) (v := nI (sz + 1)) u_eq ?_
      exact q_iret rfl (Or.inr ⟨f1, f2, rfl⟩)
  -- the three tests, from the flag g at 15 on
  have t15 : ∀ g : Int32, (g = 0 → fit_ kd nm = 0 ∨ sz = 64) → (g ≠ 0 → (¬ kd < 0 ∧ ¬ (10 : Int32) < kd) ∧ sz < 64) → BB (d + 1) (fun j => tb_Mo_statement[j]?) 15 [.ref 111, .int kd, .int nm, .int g] [] SL S A P (fun r => (131 ≤ r.1.1 ∧ SL ≤ r.1.2.1) ∧ (((fit_ kd nm = 0 ∨ sz = 64) ∧ r = ((131, SL, S, A, P), some (.int (-1)))) ∨ (fit_ kd nm = 1 ∧ sz < 64 ∧ r = ((131, SL, S, pm_u (pm_u (pm_u A 112 (512 + sz) kd) 113 (512 + sz) nm) 114 8 (nI (sz + 1)), P), some (.int (nI (sz + 1))))))) := by
    intro g hg0 hg1
    by_cases h01 : kd = 0 ∨ kd = 1
    · have e : fit_ kd nm = in_ nm 8 := by simp [fit_, h01]
      have h4 : ¬ kd = 4 := by rcases h01 with rfl | rfl <;> decide
      have h9 : ¬ kd = 9 := by rcases h01 with rfl | rfl <;> decide
      have h10 : ¬ kd = 10 := by rcases h01 with rfl | rfl <;> decide
      have go : BB (d + 1) (fun j => tb_Mo_statement[j]?) 20 [.ref 111, .int kd, .int nm, .int g] [] SL S A P (fun r => (131 ≤ r.1.1 ∧ SL ≤ r.1.2.1) ∧ (((fit_ kd nm = 0 ∨ sz = 64) ∧ r = ((131, SL, S, A, P), some (.int (-1)))) ∨ (fit_ kd nm = 1 ∧ sz < 64 ∧ r = ((131, SL, S, pm_u (pm_u (pm_u A 112 (512 + sz) kd) 113 (512 + sz) nm) 114 8 (nI (sz + 1)), P), some (.int (nI (sz + 1))))))) := by
        have after : ∀ g' : Int32, (g' = 0 → fit_ kd nm = 0 ∨ sz = 64) → (g' ≠ 0 → fit_ kd nm = 1 ∧ sz < 64) → BB (d + 1) (fun j => tb_Mo_statement[j]?) 29 [.ref 111, .int kd, .int nm, .int g] [.int g'] SL S A P (fun r => (131 ≤ r.1.1 ∧ SL ≤ r.1.2.1) ∧ (((fit_ kd nm = 0 ∨ sz = 64) ∧ r = ((131, SL, S, A, P), some (.int (-1)))) ∨ (fit_ kd nm = 1 ∧ sz < 64 ∧ r = ((131, SL, S, pm_u (pm_u (pm_u A 112 (512 + sz) kd) 113 (512 + sz) nm) 114 8 (nI (sz + 1)), P), some (.int (nI (sz + 1))))))) := by
          intro g' h1 h2
          iterate 3 refine pm_B.next rfl rfl ?_
          refine r_icT rfl (decide_eq_true h4) ?_
          iterate 2 refine pm_B.next rfl rfl ?_
          refine r_icF rfl (decide_eq_false h9) ?_
          iterate 2 refine pm_B.next rfl rfl ?_
          refine r_icT rfl (decide_eq_true h10) ?_
          exact fin g' h1 h2
        iterate 1 refine pm_B.next rfl rfl ?_
        by_cases hz : g = 0
        · subst hz
          iterate 2 refine pm_B.next rfl rfl ?_
          exact after 0 hg0 (fun q => absurd rfl q)
        · refine r_ifF rfl (decide_eq_false hz) ?_
          iterate 2 refine pm_B.next rfl rfl ?_
          refine q_cs rfl rfl (Nat.le_of_ble_eq_true rfl) (Nat.le_of_ble_eq_true rfl) (x_isIn nm 8) ?_
          rcases in_z nm 8 with z | z
          · rw [z]
            iterate 2 refine pm_B.next rfl rfl ?_
            exact after 0 (fun _ => Or.inl (e.trans z)) (fun q => absurd rfl q)
          · rw [z]
            iterate 3 refine pm_B.next rfl rfl ?_
            exact after 1 (fun q => absurd q (by decide)) (fun _ => ⟨e.trans z, (hg1 hz).2⟩)
      iterate 1 refine pm_B.next rfl rfl ?_
      by_cases h0 : kd = 0
      · refine r_ifT rfl (decide_eq_true h0) ?_
        exact go
      · refine r_ifF rfl (decide_eq_false h0) ?_
        iterate 2 refine pm_B.next rfl rfl ?_
        refine r_icF rfl (decide_eq_false (fun q => q (h01.resolve_left h0))) ?_
        exact go
    simp only [not_or] at h01
    iterate 1 refine pm_B.next rfl rfl ?_
    refine r_ifF rfl (decide_eq_false h01.1) ?_
    iterate 2 refine pm_B.next rfl rfl ?_
    refine r_icT rfl (decide_eq_true h01.2) ?_
    iterate 2 refine pm_B.next rfl rfl ?_
    by_cases h4 : kd = 4
    · have e : fit_ kd nm = in_ nm 4 := by simp [fit_, h01.1, h01.2, h4]
      have h9 : ¬ kd = 9 := by rw [h4]; decide
      have h10 : ¬ kd = 10 := by rw [h4]; decide
      refine r_icF rfl (decide_eq_false (fun q => q h4)) ?_
      have after : ∀ g' : Int32, (g' = 0 → fit_ kd nm = 0 ∨ sz = 64) → (g' ≠ 0 → fit_ kd nm = 1 ∧ sz < 64) → BB (d + 1) (fun j => tb_Mo_statement[j]?) 42 [.ref 111, .int kd, .int nm, .int g] [.int g'] SL S A P (fun r => (131 ≤ r.1.1 ∧ SL ≤ r.1.2.1) ∧ (((fit_ kd nm = 0 ∨ sz = 64) ∧ r = ((131, SL, S, A, P), some (.int (-1)))) ∨ (fit_ kd nm = 1 ∧ sz < 64 ∧ r = ((131, SL, S, pm_u (pm_u (pm_u A 112 (512 + sz) kd) 113 (512 + sz) nm) 114 8 (nI (sz + 1)), P), some (.int (nI (sz + 1))))))) := by
        intro g' h1 h2
        iterate 3 refine pm_B.next rfl rfl ?_
        refine r_icF rfl (decide_eq_false h9) ?_
        iterate 2 refine pm_B.next rfl rfl ?_
        refine r_icT rfl (decide_eq_true h10) ?_
        exact fin g' h1 h2
      iterate 1 refine pm_B.next rfl rfl ?_
      by_cases hz : g = 0
      · subst hz
        iterate 2 refine pm_B.next rfl rfl ?_
        exact after 0 hg0 (fun q => absurd rfl q)
      · refine r_ifF rfl (decide_eq_false hz) ?_
        iterate 2 refine pm_B.next rfl rfl ?_
        refine q_cs rfl rfl (Nat.le_of_ble_eq_true rfl) (Nat.le_of_ble_eq_true rfl) (x_isIn nm 4) ?_
        rcases in_z nm 4 with z | z
        · rw [z]
          iterate 2 refine pm_B.next rfl rfl ?_
          exact after 0 (fun _ => Or.inl (e.trans z)) (fun q => absurd rfl q)
        · rw [z]
          iterate 3 refine pm_B.next rfl rfl ?_
          exact after 1 (fun q => absurd q (by decide)) (fun _ => ⟨e.trans z, (hg1 hz).2⟩)
    refine r_icT rfl (decide_eq_true h4) ?_
    by_cases h910 : kd = 9 ∨ kd = 10
    · have e : fit_ kd nm = in_ nm 8 := by simp [fit_, h01.1, h01.2, h4, h910]
      have go : BB (d + 1) (fun j => tb_Mo_statement[j]?) 49 [.ref 111, .int kd, .int nm, .int g] [] SL S A P (fun r => (131 ≤ r.1.1 ∧ SL ≤ r.1.2.1) ∧ (((fit_ kd nm = 0 ∨ sz = 64) ∧ r = ((131, SL, S, A, P), some (.int (-1)))) ∨ (fit_ kd nm = 1 ∧ sz < 64 ∧ r = ((131, SL, S, pm_u (pm_u (pm_u A 112 (512 + sz) kd) 113 (512 + sz) nm) 114 8 (nI (sz + 1)), P), some (.int (nI (sz + 1))))))) := by
        have after : ∀ g' : Int32, (g' = 0 → fit_ kd nm = 0 ∨ sz = 64) → (g' ≠ 0 → fit_ kd nm = 1 ∧ sz < 64) → BB (d + 1) (fun j => tb_Mo_statement[j]?) 58 [.ref 111, .int kd, .int nm, .int g] [.int g'] SL S A P (fun r => (131 ≤ r.1.1 ∧ SL ≤ r.1.2.1) ∧ (((fit_ kd nm = 0 ∨ sz = 64) ∧ r = ((131, SL, S, A, P), some (.int (-1)))) ∨ (fit_ kd nm = 1 ∧ sz < 64 ∧ r = ((131, SL, S, pm_u (pm_u (pm_u A 112 (512 + sz) kd) 113 (512 + sz) nm) 114 8 (nI (sz + 1)), P), some (.int (nI (sz + 1))))))) := by
          intro g' h1 h2
          iterate 1 refine pm_B.next rfl rfl ?_
          exact fin g' h1 h2
        iterate 1 refine pm_B.next rfl rfl ?_
        by_cases hz : g = 0
        · subst hz
          iterate 2 refine pm_B.next rfl rfl ?_
          exact after 0 hg0 (fun q => absurd rfl q)
        · refine r_ifF rfl (decide_eq_false hz) ?_
          iterate 2 refine pm_B.next rfl rfl ?_
          refine q_cs rfl rfl (Nat.le_of_ble_eq_true rfl) (Nat.le_of_ble_eq_true rfl) (x_isIn nm 8) ?_
          rcases in_z nm 8 with z | z
          · rw [z]
            iterate 2 refine pm_B.next rfl rfl ?_
            exact after 0 (fun _ => Or.inl (e.trans z)) (fun q => absurd rfl q)
          · rw [z]
            iterate 3 refine pm_B.next rfl rfl ?_
            exact after 1 (fun q => absurd q (by decide)) (fun _ => ⟨e.trans z, (hg1 hz).2⟩)
      iterate 2 refine pm_B.next rfl rfl ?_
      by_cases h9 : kd = 9
      · refine r_icT rfl (decide_eq_true h9) ?_
        exact go
      · refine r_icF rfl (decide_eq_false h9) ?_
        iterate 2 refine pm_B.next rfl rfl ?_
        refine r_icF rfl (decide_eq_false (fun q => q (h910.resolve_left h9))) ?_
        exact go
    simp only [not_or] at h910
    have e : fit_ kd nm = in_ kd 11 := by simp [fit_, h01.1, h01.2, h4, h910.1, h910.2]
    iterate 2 refine pm_B.next rfl rfl ?_
    refine r_icF rfl (decide_eq_false h910.1) ?_
    iterate 2 refine pm_B.next rfl rfl ?_
    refine r_icT rfl (decide_eq_true h910.2) ?_
    refine fin g hg0 (fun q => ⟨?_, (hg1 q).2⟩)
    rw [e, in_11, if_pos (hg1 q).1]
  have no : (fit_ kd nm = 0 ∨ sz = 64) → BB (d + 1) (fun j => tb_Mo_statement[j]?) 13 [.ref 111, .int kd, .int nm, .null] [] SL S A P (fun r => (131 ≤ r.1.1 ∧ SL ≤ r.1.2.1) ∧ (((fit_ kd nm = 0 ∨ sz = 64) ∧ r = ((131, SL, S, A, P), some (.int (-1)))) ∨ (fit_ kd nm = 1 ∧ sz < 64 ∧ r = ((131, SL, S, pm_u (pm_u (pm_u A 112 (512 + sz) kd) 113 (512 + sz) nm) 114 8 (nI (sz + 1)), P), some (.int (nI (sz + 1))))))) := by
    intro h
    iterate 2 refine pm_B.next rfl rfl ?_
    exact t15 0 (fun _ => h) (fun q => absurd rfl q)
  iterate 1 refine pm_B.next rfl rfl ?_
  by_cases hn : kd < 0
  · refine r_ifT rfl (decide_eq_true hn) ?_
    exact no (Or.inl ((fit_z kd nm).resolve_right (fun g => (fit_rng g).1 hn)))
  refine r_ifF rfl (decide_eq_false hn) ?_
  iterate 2 refine pm_B.next rfl rfl ?_
  by_cases h10 : (10 : Int32) < kd
  · refine r_icT rfl (decide_eq_true h10) ?_
    exact no (Or.inl ((fit_z kd nm).resolve_right (fun g => (fit_rng g).2 h10)))
  refine r_icF rfl (decide_eq_false h10) ?_
  iterate 1 refine pm_B.next rfl rfl ?_
  refine q_getr rfl s0 (by decide) p2 ?_
  iterate 1 refine pm_B.next rfl rfl ?_
  refine q_iald rfl s3 8 rfl (by decide) (by decide) hs ?_
  iterate 1 refine pm_B.next rfl rfl ?_
  by_cases hlt : sz < 64
  · refine r_icF rfl (decide_eq_false (nI_ge (a := sz) (b := 64) hlt (by decide))) ?_
    iterate 3 refine pm_B.next rfl rfl ?_
    exact t15 1 (fun q => absurd q (by decide)) (fun _ => ⟨⟨hn, h10⟩, hlt⟩)
  · refine r_icT rfl (decide_eq_true (nI_le (a := 64) (b := sz) (by omega) (by omega))) ?_
    exact no (Or.inr (by omega))
theorem x_Mo_guard {c l : Int32} (m : kM S P) : EE (d + 1) M_Mo_guard [.ref 111, .int c, .int l] SL S A P (fun r => ((in_ c 8 = 0 ∨ l < -1 ∨ ¬ l < 4) ∧ r = ((131, SL, S, A, P), some (.int 0))) ∨ (∃ j, j < 8 ∧ c = nI j ∧ ¬ l < -1 ∧ l < 4 ∧ r = ((131, SL, S, pm_u A 116 j l, P), some (.int 1)))) := by
  obtain ⟨⟨⟨s0, s1, s2, s3, s4, s5⟩, p0, p1, p2, p3, p5⟩, -⟩ := m
  refine q_of (tb := fun j => tb_Mo_guard[j]?) rfl rfl (Nat.le_of_ble_eq_true rfl) ?_
  show BB _ _ 0 [.ref 111, .int c, .int l] [] _ _ _ _ _
  repeat refine pm_B.next rfl rfl ?_
  refine q_cs rfl rfl (Nat.le_of_ble_eq_true rfl) (Nat.le_of_ble_eq_true rfl) (x_isIn c 8) ?_
  rcases in_z c 8 with z | z
  · rw [z]
    repeat refine pm_B.next rfl rfl ?_
    exact q_zret rfl (Or.inl rfl) (Or.inl ⟨Or.inl rfl, rfl⟩)
  · have hj : ∃ j, j < 8 ∧ c = nI j := by
      unfold in_ at z
      split at z
      · rename_i g
        rcases pk_ix c (n := 8) (by decide) with w | w | w
        · exact absurd w g.1
        · exact absurd w g.2
        · exact w
      · cases z
    obtain ⟨j, hj8, rfl⟩ := hj
    rw [z]
    repeat refine pm_B.next rfl rfl ?_
    by_cases h1 : l < -1
    · refine r_icT rfl (decide_eq_true h1) ?_
      repeat refine pm_B.next rfl rfl ?_
      exact q_zret rfl (Or.inl rfl) (Or.inl ⟨Or.inr (Or.inl h1), rfl⟩)
    · refine r_icF rfl (decide_eq_false h1) ?_
      repeat refine pm_B.next rfl rfl ?_
      by_cases h4 : l < 4
      · refine r_icT rfl (decide_eq_true h4) ?_
        repeat (first | refine pm_B.next rfl rfl ?_ | refine q_getr rfl (by assumption) (by decide) (by assumption) ?_ | refine q_geti rfl (by assumption) (by decide) (by assumption) ?_ | refine q_iald rfl (by assumption) _ rfl (by first | assumption | omega) (by decide) rfl ?_ | refine q_puti rfl (by assumption) (by decide) ?_ | refine q_iast rfl (by assumption) _ rfl (by first | assumption | omega) (by decide) ?_)
        exact q_zret rfl (Or.inr rfl) (Or.inr ⟨j, hj8, rfl, h1, h4, rfl⟩)
      · refine r_icF rfl (decide_eq_false h4) ?_
        repeat refine pm_B.next rfl rfl ?_
        exact q_zret rfl (Or.inl rfl) (Or.inl ⟨Or.inr (Or.inr h4), rfl⟩)
end REF4
