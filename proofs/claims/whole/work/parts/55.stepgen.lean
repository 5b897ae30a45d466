section STEPGEN
variable {d : Nat} {SL : Nat} {S : Nat → Nat × Nat} {A : Nat → Nat → Int32} {P : Nat → Nat → Option Nat}
variable {n : Nat} {SZ bq : Nat → Nat} {T st rc : Nat} {D TM TH : Nat → Nat} {FB FP : Nat → Nat → Nat}
theorem step_gen {t n0 n1 : Nat} {fb fp : Nat → Nat} {RC : (Nat → Nat → Int32) → Prop} {RD : (Nat → Nat → Int32) → (Nat → Nat → Int32) → Prop} (k : KK S P) (is : IS n SZ bq A P) (it : IT n SZ T st D FB FP A) (il : IL T D FB FP TM A) (htT : t < T) (hD : D t = n0 + 1) (s4 : st < 4000) (hw : wt_ (KS A (FB t n0) (FP t n0)) (A 118 (tl_ A D FB FP t)) (nI t) = 0)
    (hC : EE (d + 3) M_Ru_perform [.ref 49, .ref (55 + 4 * t)] SL S (tkH A t st) P (fun r => ∃ A', RC A' ∧ r = ((131, SL, S, A', P), none)))
    (hRC : ∀ A', RC A' → A' (55 + 4 * t) 4 = nI n1 ∧ (∀ j, j < n1 → A' (56 + 4 * t) j = nI (fb j) ∧ A' (57 + 4 * t) j = nI (fp j)) ∧ (∀ a, a < 49 → A' a = A a) ∧ ∀ a, 111 ≤ a → A' a = A a)
    (hn1 : n1 ≤ 8) (hfr : ∀ j, j < n1 → fb j < n ∧ fp j ≤ SZ (fb j))
    (hR : ∀ A', RC A' → EE (d + 3) M_Mo_does [.ref 111, .int (nI t), .int (nI (FB t n0)), .int (nI (FP t n0))] SL S (stH (pm_u A' (55 + 4 * t) 4 (nI (lvn (fun j => decide (SZ (fb j) ≤ fp j)) n1))) t n0 st (FP t n0) (A 125 t)) P (fun r => ∃ A'', RD A' A'' ∧ r = ((131, SL, S, A'', P), none)))
    (hRD : ∀ A' A'', RC A' → RD A' A'' → A'' 111 17 = nI st ∧ A'' 122 t = nI n1 ∧ (∀ j, j < n1 → A'' 123 (8 * t + j) = nI (fb j) ∧ A'' 124 (8 * t + j) = nI (fp j)) ∧ A'' 114 = A 114)
    (hI : ∀ A' A'', RC A' → RD A' A'' → Inv (pm_u (pm_u A'' 122 t (nI (lvn (fun j => decide (SZ (fb j) ≤ fp j)) n1))) 111 17 (nI (st + 1))) P) :
    OP d M_Lo_step M_Mo_step [.int (nI t)] SL S A P := by
  have T6 := it.T6
  have n8 := is.n8
  obtain ⟨d8, dc, dm⟩ := it.dep t htT
  obtain ⟨f1, f2, f3, f4, f5, f6⟩ := it.frm t htT n0 (by omega)
  have f7 := it.top t htT n0 hD
  have z64 := is.s64 _ (Or.inl f1)
  obtain ⟨⟨-, tpS⟩, ⟨-, -, tpM⟩, tpK⟩ := tops k is it il htT
  have eb : tb_ D FB t = FB t n0 := by unfold tb_; rw [hD]; rfl
  have ep : tb_ D FP t = FP t n0 := by unfold tb_; rw [hD]; rfl
  obtain ⟨tp1, tp2⟩ := tpS (by omega)
  obtain ⟨-, -, -, -, tm5⟩ := tpM (by omega)
  obtain ⟨tk, -, -⟩ := tpK (by omega)
  rw [hD] at tp1
  rw [eb, ep] at tp1 tp2 tm5 tk
  have adv := x_adv (d := d + 2) (SL := SL) (bq := bq) (SZ := SZ) (R := fun A' n' bf pf => RC A' ∧ n' = n1 ∧ bf = fb ∧ pf = fp) k.1 it.cT htT T6 it.cst s4 tp1 tp2 (it.num t (by omega)) (by rw [tk]; exact hw)
    (pm_E.weaken hC (fun r hr => by
      obtain ⟨A', h1, h2⟩ := hr
      exact ⟨A', n1, fb, fp, ⟨h1, rfl, rfl, rfl⟩, h2⟩))
    (fun A' n' bf pf hR => by
      obtain ⟨h1, h2, h3, h4⟩ := hR
      subst h2 h3 h4
      obtain ⟨g1, g2, g3, g4⟩ := hRC A' h1
      refine ⟨hn1, g1, fun j hj => ?_⟩
      obtain ⟨w1, w2⟩ := hfr j hj
      have z := is.s64 _ (Or.inl w1)
      have q45 := is.q45 (b := bf j) (by omega)
      refine ⟨(g2 j hj).1, by omega, is.pbs _ (by omega), (k.bq is (by omega)).1.1, (g2 j hj).2, by omega, ?_, by omega, by omega⟩
      rw [g3 _ (by omega)]
      exact is.csz _ (Or.inl w1))
  refine pm_E.ups (d := d + 5) (w_step k (pm_E.weaken adv (fun r hr => ?_))) (by omega)
  obtain ⟨A', n', bf, pf, ⟨hA', h2, h3, h4⟩, hr⟩ := hr
  subst h2 h3 h4
  obtain ⟨g1, g2, g3, g4⟩ := hRC A' hA'
  refine ⟨1, _, P, hr, ?_⟩
  have eo : ∀ a, 111 ≤ a → pm_u A' (55 + 4 * t) 4 (nI (lvn (fun j => decide (SZ (bf j) ≤ pf j)) n')) a = A a := fun a ha => by
    funext b
    rw [u_nc (by omega), g4 a ha]
  have eK := KS_cg (eo 112 (by omega))
  have eN := NS_cg (eo 113 (by omega))
  have elv : lvn (fun j => decide (SZ (bf j) ≤ pf j)) n' = lvn (fun j => decide (pf j = SZ (bf j))) n' := lvn_cg n' (fun j hj => by
    have := (hfr j hj).2
    rw [decide_eq_decide]
    omega)
  have stp := x_step (d := d + 2) (SL := SL) (A := pm_u A' (55 + 4 * t) 4 (nI (lvn (fun j => decide (SZ (bf j) ≤ pf j)) n'))) (P := P) (T := T) (t := t) (n := n0) (b := FB t n0) (p := FP t n0) (l := tl_ A D FB FP t) (st := st) (ow := A 118 (tl_ A D FB FP t)) (lt := A 125 t) (SZ := SZ) (rn := 1) (R := fun A'' n'' bf' pf' => RD A' A'' ∧ n'' = n' ∧ bf' = bf ∧ pf' = pf) k.2.1 (by omega) (by rw [eo 111 (by omega), it.run, if_neg (by omega)]) (by decide) (by rw [eo 111 (by omega)]; exact it.mT) htT T6 (by rw [eo 122 (by omega), dm, hD]) (by omega) (by rw [eo 111 (by omega)]; exact it.mst) s4 (by rw [eo 123 (by omega)]; exact f4) (by omega) (by rw [eo 124 (by omega)]; exact f6) (by omega) (by rw [eK, eN, eo 118 (by omega)]; exact tm5) (by rw [eK]; exact hw) (by rw [eo 125 (by omega)])
    (pm_E.weaken (hR A' hA') (fun r hr => by
      obtain ⟨A'', h1, h2⟩ := hr
      exact ⟨A'', n', bf, pf, ⟨h1, rfl, rfl, rfl⟩, h2⟩))
    (fun A'' n'' bf' pf' hRR => by
      obtain ⟨h1, h2, h3, h4⟩ := hRR
      subst h2 h3 h4
      obtain ⟨w1, w2, w3, w4⟩ := hRD A' A'' hA' h1
      refine ⟨w1, hn1, w2, fun j hj => ?_⟩
      obtain ⟨v1, v2⟩ := hfr j hj
      have z := is.s64 _ (Or.inl v1)
      exact ⟨(w3 j hj).1, by omega, (w3 j hj).2, by omega, by rw [w4]; exact is.msz _ (Or.inl v1), by omega⟩)
  refine pm_E.ups (pm_E.weaken stp (fun r2 hr2 => ?_)) (by omega)
  obtain ⟨A'', n'', bf', pf', ⟨hA'', h2, h3, h4⟩, hr3⟩ := hr2
  subst h2 h3 h4
  rw [← elv] at hr3
  exact ⟨_, hr3, hI A' A'' hA' hA'', k⟩
end STEPGEN
