section OPSTEP
variable {d : Nat} {SL : Nat} {S : Nat → Nat × Nat} {A : Nat → Nat → Int32} {P : Nat → Nat → Option Nat}
theorem fit_11 {kd nm : Int32} (h : fit_ kd nm = 1) : ∃ j, j < 11 ∧ kd = nI j := by
  have h1 := fit_rng h
  have h2 : in_ kd 11 = 1 := by rw [in_11, if_pos h1]
  exact in_one (T := 11) (by decide) h2
theorem op_step {v : Int32} (k : KK S P) (i : Inv A P) : OP d M_Lo_step M_Mo_step [.int v] SL S A P := by
  have i0 := i
  obtain ⟨n, SZ, bq, T, st, rc, D, TM, TH, FB, FP, is, it, il, ik, ia⟩ := i
  have T6 := it.T6
  have n8 := is.n8
  rcases in_z v (nI T) with hz | hz
  · exact pm_E.ups (w_step k (rr_eq (x_adv_no (d := d) k.1 it.cT it.cst it.st4 (Or.inl hz)) (o2_eq (pm_E.ups (x_step_no (d := d) k.2.1 it.run it.mT (Or.inr hz)) (by omega)) i0 k))) (by omega)
  · obtain ⟨t, htT, e⟩ := in_one (by omega) hz
    subst e
    obtain ⟨d8, dc, dm⟩ := it.dep t htT
    have rn : (if T = 0 then (0 : Int32) else 1) ≠ 0 := by rw [if_neg (by omega)]; decide
    by_cases s4 : st = 4000
    · exact pm_E.ups (w_step k (rr_eq (x_adv_no (d := d) k.1 it.cT it.cst it.st4 (Or.inr s4)) (o2_eq (pm_E.ups (x_step_end (d := d) k.2.1 (by omega) it.run rn it.mT htT T6 dm it.mst (Or.inr s4)) (by omega)) i0 k))) (by omega)
    have s5 : st < 4000 := by have := it.st4; omega
    by_cases hD0 : D t = 0
    · exact pm_E.ups (w_step k (rr_eq (x_adv_done (d := d) k.1 it.cT htT T6 it.cst s5 (by rw [dc, hD0]; rfl)) (o2_eq (pm_E.ups (x_step_end (d := d) k.2.1 (by omega) it.run rn it.mT htT T6 dm it.mst (Or.inl (by rw [hD0]; rfl))) (by omega)) i0 k))) (by omega)
    obtain ⟨n0, hD⟩ : ∃ n0, D t = n0 + 1 := ⟨D t - 1, by omega⟩
    obtain ⟨f1, f2, f3, f4, f5, f6⟩ := it.frm t htT n0 (by omega)
    have f7 := it.top t htT n0 hD
    have z64 := is.s64 _ (Or.inl f1)
    have hfit := is.fit _ (Or.inl f1) _ f7
    have etl : tl_ A D FB FP t = (NS A (FB t n0) (FP t n0)).toNatClampNeg := by unfold tl_ tb_; rw [hD]; rfl
    by_cases hw : wt_ (KS A (FB t n0) (FP t n0)) (A 118 (tl_ A D FB FP t)) (nI t) = 1
    · obtain ⟨⟨-, tpS⟩, ⟨-, -, tpM⟩, tpK⟩ := tops k is it il htT
      have eb : tb_ D FB t = FB t n0 := by unfold tb_; rw [hD]; rfl
      have ep : tb_ D FP t = FP t n0 := by unfold tb_; rw [hD]; rfl
      obtain ⟨tp1, tp2⟩ := tpS (by omega)
      obtain ⟨-, -, -, -, tm5⟩ := tpM (by omega)
      obtain ⟨tk, -, -⟩ := tpK (by omega)
      rw [hD] at tp1
      rw [eb, ep] at tp1 tp2 tm5 tk
      exact pm_E.ups (w_step k (rr_eq (x_adv_wait (d := d) k.1 it.cT htT T6 it.cst s5 tp1 tp2 (it.num t (by omega)) (by rw [tk]; exact hw)) (o2_eq (pm_E.ups (x_step_wait (d := d) (n := n0) k.2.1 (by omega) it.run rn it.mT htT T6 (by rw [dm, hD]) (by omega) it.mst s5 f4 (by omega) f6 (by omega) tm5 hw) (by omega)) i0 k))) (by omega)
    have hw0 : wt_ (KS A (FB t n0) (FP t n0)) (A 118 (tl_ A D FB FP t)) (nI t) = 0 := by
      unfold wt_ at hw ⊢
      split at hw
      · exact absurd rfl hw
      · rename_i g; rw [if_neg g]
    obtain ⟨j, hj, ej⟩ := fit_11 hfit
    by_cases h0 : j = 0
    · subst h0
      obtain ⟨c, c1, c2⟩ := fit_8 hfit (Or.inl ej)
      exact s_read k is it il ik ia htT hD s5 ej c1 c2
    by_cases h1 : j = 1
    · subst h1
      obtain ⟨c, c1, c2⟩ := fit_8 hfit (Or.inr (Or.inl ej))
      exact s_write k is it il ik ia htT hD s5 ej c1 c2
    by_cases h2 : j = 2
    · subst h2
      exact s_addset k is it il ik ia htT hD s5 (Or.inl ej)
    by_cases h3 : j = 3
    · subst h3
      exact s_addset k is it il ik ia htT hD s5 (Or.inr ej)
    by_cases h4 : j = 4
    · subst h4
      rw [show KS A (FB t n0) (FP t n0) = 4 from ej] at hfit
      obtain ⟨l, l1, l2⟩ := fit_4 hfit
      have e1 : tl_ A D FB FP t = l := by rw [etl, l2, nI_clamp (by omega)]
      have hx : A 118 l = -1 ∨ A 118 l = nI t := by
        rw [e1, show KS A (FB t n0) (FP t n0) = 4 from ej] at hw0
        unfold wt_ at hw0
        split at hw0
        · exact absurd hw0 (by decide)
        · rename_i g
          by_cases q : A 118 l = -1 ∨ A 118 l = nI t
          · exact q
          · exact absurd ⟨rfl, q⟩ g
      obtain ⟨i1, i2, i3, i4, i5⟩ := il.lks (by omega) l l1
      rcases i5 with ⟨g1, g2⟩ | ⟨g1, u, g2, g3⟩
      · exact s_sync0 k is it il ik ia htT hD s5 ej l1 l2 hw0 g1 g2
      · rcases hx with q | q
        · rw [g3] at q
          exact absurd q (nI_m1 (by omega))
        · exact s_sync1 k is it il ik ia htT hD s5 ej l1 l2 hw0 g1 q
    by_cases h5 : j = 5
    · subst h5
      have hne := ((is.whl _ f1).1 _ f7).1 ej
      cases hs : bk_st (KS A (FB t n0)) (FP t n0) with
      | nil => exact absurd hs hne
      | cons o os =>
        by_cases ho4 : KS A (FB t n0) o = 4
        · have ho := (bk_in hs).1
          have hfo := is.fit _ (Or.inl f1) o (by omega)
          rw [ho4] at hfo
          obtain ⟨l, l1, l2⟩ := fit_4 hfo
          have tp := tm_pos it il htT hD l1 hs ho4 l2
          by_cases ht1 : TM l = 1
          · exact s_end2 k is it il ik ia htT hD s5 ej l1 hs ho4 l2 ht1
          · exact s_end1 k is it il ik ia htT hD s5 ej l1 hs ho4 l2 (by omega)
        · exact s_end0 k is it il ik ia htT hD s5 ej hs ho4
    by_cases h6 : j = 6
    · subst h6
      exact s_ifwhile k is it il ik ia htT hD s5 (Or.inl ej)
    by_cases h7 : j = 7
    · subst h7
      exact s_else k is it il ik ia htT hD s5 ej
    by_cases h8 : j = 8
    · subst h8
      exact s_ifwhile k is it il ik ia htT hD s5 (Or.inr ej)
    by_cases h9 : j = 9
    · subst h9
      obtain ⟨c, c1, c2⟩ := fit_8 hfit (Or.inr (Or.inr (Or.inl ej)))
      by_cases hno : n ≤ c ∨ T = 6
      · exact s_fork0 k is it il ik ia htT hD s5 ej c1 c2 hno
      · exact s_fork1 k is it il ik ia htT hD s5 ej (by omega) c2 (by omega)
    · have : j = 10 := by omega
      subst this
      obtain ⟨c, c1, c2⟩ := fit_8 hfit (Or.inr (Or.inr (Or.inr ej)))
      by_cases hno : n ≤ c ∨ n0 = 7
      · exact s_call0 k is it il ik ia htT hD s5 ej c1 c2 hno
      · exact s_call1 k is it il ik ia htT hD s5 ej (by omega) c2 (by omega)
end OPSTEP
