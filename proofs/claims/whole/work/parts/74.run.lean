theorem lx_e1 : lx_r1 = some (lx_h1, none) := by
  have h := lx_ok1
  unfold lx_h1
  revert h
  generalize lx_r1 = r
  intro h
  match r, h with
  | some (a, none), _ => rfl
theorem lx_e2 : lx_r2 = some (lx_h2, none) := by
  have h := lx_ok2
  unfold lx_h2
  revert h
  generalize lx_r2 = r
  intro h
  match r, h with
  | some (a, none), _ => rfl
theorem lx_E1 : pm_E pm_Y pm_T 6 M_Lo_init [.ref 0] (pm_new pm_h0 16 2) (fun r => r = (lx_h1, none)) := by
  have h := lx_e1
  unfold lx_r1 at h
  exact ⟨400, (lx_h1, none), h, rfl⟩
theorem lx_E2 : pm_E pm_Y pm_T 6 M_Mo_init [.ref 111] (pm_new lx_h1 24 24) (fun r => r = (lx_h2, none)) := by
  have h := lx_e2
  unfold lx_r2 at h
  exact ⟨400, (lx_h2, none), h, rfl⟩
theorem lx_inv : Inv lx_h2.2.2.2.1 lx_h2.2.2.2.2 := inv0 lx_d1 lx_d2 lx_d3
theorem pu_law {L : Nat} {xs : Nat → Int32} (hL : L ≤ 1536) : ∃ (N n : Nat) (hf : pm_H), pm_ex (pm_cl pm_Y pm_T N 7) (fun j => (tb_law L xs)[j]?) n (0, [.retAddr 0, .null, .null, .null], [], pm_h0) = some (hf, some (.int 1)) ∧ hf.1 ≤ 600000 ∧ hf.2.1 ≤ 7302250 := by
  obtain ⟨N, n, r, h, h1, h2, h3⟩ := pu_run (L := L) (xs := xs) (H1 := lx_h1) (H2 := lx_h2) hL lx_E1 lx_n1 lx_E2 lx_n2 lx_s2 lx_KK lx_inv
  obtain ⟨hf, o⟩ := r
  change o = some (.int 1) at h1
  subst h1
  exact ⟨N, n, hf, h, h2, h3⟩
