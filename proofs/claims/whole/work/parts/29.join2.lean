section JOIN
variable {d : Nat} {SL : Nat} {S : Nat → Nat × Nat} {A : Nat → Nat → Int32} {P : Nat → Nat → Option Nat}
theorem jb_0 {q : Nat} {rq : Int32} : pm_u A q 5 rq = jb A q rq (A (q + 3)) (A (q + 4)) := by
  funext a b
  simp only [pm_u, jb]
  by_cases h1 : a = q + 3
  · subst h1
    simp
  · by_cases h2 : a = q + 4
    · subst h2
      simp
    · simp [h1, h2]
theorem jb_o {q : Nat} {rq : Int32} {pt hd : Nat → Int32} {a b : Nat} (h1 : ¬ (a = q ∧ b = 5)) (h2 : a ≠ q + 3) (h3 : a ≠ q + 4) : jb A q rq pt hd a b = A a b := by simp [jb, h1, h2, h3]
theorem jb_3 {q : Nat} {rq : Int32} {pt hd : Nat → Int32} {b : Nat} : jb A q rq pt hd (q + 3) b = pt b := by simp [jb]
theorem jb_4 {q : Nat} {rq : Int32} {pt hd : Nat → Int32} {b : Nat} : jb A q rq pt hd (q + 4) b = hd b := by simp [jb]
def jr (SL : Nat) (S : Nat → Nat × Nat) (A : Nat → Nat → Int32) (P : Nat → Nat → Option Nat) (q sz : Nat) (rq : Int32) (r : pm_R) : Prop :=
  (¬ bk_wh (A (q + 1)) sz ∧ ∃ pt hd, r = ((131, SL, S, jb A q rq pt hd, P), some (.int 0))) ∨ (bk_wh (A (q + 1)) sz ∧ ∃ pt hd, jc (A (q + 1)) pt sz ∧ (∀ k, k < sz → hd k = hl (A (q + 1)) (A (q + 2)) rq (bk_st (A (q + 1)) k)) ∧ r = ((131, SL, S, jb A q rq pt hd, P), some (.int 1)))
theorem x_join {q sz : Nat} {rq : Int32} (k : kB S P q) (hs : A q 4 = nI sz) (h64 : sz ≤ 64) : EE (d + 1) M_Bo_joinBlocks [.ref q, .int rq] SL S A P (jr SL S A P q sz rq) := by
  have k0 := k
  obtain ⟨⟨s0, s1, s2, s3, s4⟩, p0, p1, p2, p3⟩ := k
  refine q_of (tb := fun j => tb_Bo_joinBlocks[j]?) rfl rfl (Nat.le_of_ble_eq_true rfl) ?_
  show BB _ _ 0 [.ref q, .int rq, .null, .null, .null] [] _ _ _ _ _
  iterate 2 refine pm_B.next rfl rfl ?_
  refine q_puti rfl s0 (by decide) ?_
  iterate 2 refine pm_B.next rfl rfl ?_
  iterate 2 refine pm_B.next rfl rfl ?_
  iterate 2 refine pm_B.next rfl rfl ?_
  show BB (d + 1) (fun j => tb_Bo_joinBlocks[j]?) 9 [.ref q, .int rq, .int rq, .int (-1), .int 0] [] SL S (pm_u A q 5 rq) P _
  rw [jb_0]
  suffices h : ∀ c i pt hd, i + c = sz → (∀ j, j < i → bk_ok1 (A (q + 1)) j) → jc (A (q + 1)) pt i → jo (A (q + 1)) pt i → (∀ j, j < i → hd j = hl (A (q + 1)) (A (q + 2)) rq (bk_st (A (q + 1)) j)) → BB (d + 1) (fun j => tb_Bo_joinBlocks[j]?) 9 [.ref q, .int rq, .int (hl (A (q + 1)) (A (q + 2)) rq (bk_st (A (q + 1)) i)), .int (hdI ((bk_st (A (q + 1)) i).map (cu (A (q + 1)) i))), .int (nI i)] [] SL S (jb A q rq pt hd) P (fun r => (131 ≤ r.1.1 ∧ SL ≤ r.1.2.1) ∧ jr SL S A P q sz rq r) from h sz 0 _ _ (by omega) (fun j hj => by omega) (fun e he => by omega) ⟨fun l1 y l2 g => (by cases l1 <;> cases g), fun y hy => (by cases hy)⟩ (fun j hj => by omega)
  intro c
  induction c with
  | zero =>
    intro i pt hd hi hok hc hj hh
    have : i = sz := by omega
    subst this
    iterate 2 refine pm_B.next rfl rfl ?_
    refine q_geti rfl s0 (by decide) (v := nI i) (by rw [jb_o (by omega) (by omega) (by omega)]; exact hs) ?_
    refine r_icT rfl (decide_eq_true (nI_le (Nat.le_refl _) (by omega))) ?_
    cases hst : bk_st (A (q + 1)) i with
    | nil =>
      repeat refine pm_B.next rfl rfl ?_
      exact q_zret rfl (Or.inr rfl) (Or.inr ⟨⟨hok, hst⟩, pt, hd, hc, hh, rfl⟩)
    | cons o l =>
      have hcl := cu_lt (ks := A (q + 1)) (bk_in hst).1
      iterate 2 refine pm_B.next rfl rfl ?_
      refine r_icT rfl (decide_eq_true ?_) ?_
      · show nI (cu (A (q + 1)) i o) ≠ -1
        intro g
        have := nI_pos (n := cu (A (q + 1)) i o) (by omega)
        rw [g] at this
        exact this (by decide)
      repeat refine pm_B.next rfl rfl ?_
      refine q_zret rfl (Or.inl rfl) (Or.inl ⟨fun w => ?_, pt, hd, rfl⟩)
      have := w.2
      rw [hst] at this
      cases this
  | succ c ih =>
    intro i pt hd hi hok hc hj hh
    have hi64 : i < 64 := by omega
    have hnx : ∀ (pt' hd' : Nat → Int32) (lk op : Int32), bk_ok1 (A (q + 1)) i → jc (A (q + 1)) pt' (i + 1) → jo (A (q + 1)) pt' (i + 1) → (∀ j, j < i + 1 → hd' j = hl (A (q + 1)) (A (q + 2)) rq (bk_st (A (q + 1)) j)) → lk = hl (A (q + 1)) (A (q + 2)) rq (bk_st (A (q + 1)) (i + 1)) → op = hdI ((bk_st (A (q + 1)) (i + 1)).map (cu (A (q + 1)) (i + 1))) → BB (d + 1) (fun j => tb_Bo_joinBlocks[j]?) 91 [.ref q, .int rq, .int lk, .int op, .int (nI i)] [] SL S (jb A q rq pt' hd') P (fun r => (131 ≤ r.1.1 ∧ SL ≤ r.1.2.1) ∧ jr SL S A P q sz rq r) := by
      intro pt' hd' lk op h1 h2 h3 h4 h5 h6
      subst h5
      subst h6
      iterate 2 refine pm_B.next rfl rfl ?_
      refine q_lc (lc' := [.ref q, .int rq, .int (hl (A (q + 1)) (A (q + 2)) rq (bk_st (A (q + 1)) (i + 1))), .int (hdI ((bk_st (A (q + 1)) (i + 1)).map (cu (A (q + 1)) (i + 1)))), .int (nI (i + 1))]) (by rw [nI_succ i]; rfl) ?_
      exact ih (i + 1) pt' hd' (by omega) (lt_s hok h1) h2 h3 h4
    have hbad : ¬ bk_ok1 (A (q + 1)) i → ¬ bk_wh (A (q + 1)) sz := fun g w => g (w.1 i (by omega))
    have hh' : ∀ j, j < i + 1 → va_up hd i (hl (A (q + 1)) (A (q + 2)) rq (bk_st (A (q + 1)) i)) j = hl (A (q + 1)) (A (q + 2)) rq (bk_st (A (q + 1)) j) := by
      intro j hj
      by_cases hji : j = i
      · subst hji
        exact va_up_self _ _ _
      · rw [va_up_ne _ _ hji]
        exact hh j (by omega)
    iterate 2 refine pm_B.next rfl rfl ?_
    refine q_geti rfl s0 (by decide) (v := nI sz) (by rw [jb_o (by omega) (by omega) (by omega)]; exact hs) ?_
    refine r_icF rfl (decide_eq_false (nI_ge (by omega) (by omega))) ?_
    iterate 1 refine pm_B.next rfl rfl ?_
    refine q_getr rfl s0 (by decide) p3 ?_
    iterate 2 refine pm_B.next rfl rfl ?_
    refine q_iast rfl s4 i rfl hi64 (by decide) ?_
    rw [jb_hd]
    iterate 1 refine pm_B.next rfl rfl ?_
    refine q_getr rfl s0 (by decide) p0 ?_
    iterate 1 refine pm_B.next rfl rfl ?_
    refine q_iald rfl s1 i rfl hi64 (by decide) (v := A (q + 1) i) (jb_o (by omega) (by omega) (by omega)) ?_
    show BB _ _ 22 [.ref q, .int rq, .int (hl (A (q + 1)) (A (q + 2)) rq (bk_st (A (q + 1)) i)), .int (hdI ((bk_st (A (q + 1)) i).map (cu (A (q + 1)) i))), .int (nI i)] [.int (A (q + 1) i)] _ _ _ _ _
    by_cases h4 : A (q + 1) i = 4
    · have hop : bk_op (A (q + 1) i) = true := by rw [h4]; rfl
      refine pm_B.next (q := (23, _, _, _)) rfl (pm_sw_hit (by rw [h4]; rfl)) ?_
      iterate 3 refine pm_B.next rfl rfl ?_
      refine q_getr rfl s0 (by decide) p1 ?_
      iterate 1 refine pm_B.next rfl rfl ?_
      refine q_iald rfl s2 i rfl hi64 (by decide) (v := A (q + 2) i) (jb_o (by omega) (by omega) (by omega)) ?_
      iterate 4 refine pm_B.next rfl rfl ?_
      refine q_getr rfl s0 (by decide) p2 ?_
      iterate 2 refine pm_B.next rfl rfl ?_
      refine q_iast rfl s3 i rfl hi64 (by decide) ?_
      rw [jb_pt]
      iterate 3 refine pm_B.next rfl rfl ?_
      obtain ⟨j1, j2⟩ := j_op hop hc hj
      refine hnx _ _ _ _ ⟨fun g => absurd (h4.symm.trans g) (by decide), fun g => absurd (h4.symm.trans g) (by decide)⟩ j1 j2 hh' ?_ ?_
      · rw [bk_st_op hop]
        simp [hl, h4]
      · rw [bk_st_op hop, List.map_cons, cu_new (by omega)]
        rfl
    by_cases h68 : A (q + 1) i = 6 ∨ A (q + 1) i = 8
    · have hop : bk_op (A (q + 1) i) = true := by rcases h68 with g | g <;> rw [g] <;> rfl
      refine pm_B.next (q := (40, _, _, _)) rfl (pm_sw_hit (by rcases h68 with g | g <;> rw [g] <;> rfl)) ?_
      iterate 1 refine pm_B.next rfl rfl ?_
      refine q_getr rfl s0 (by decide) p2 ?_
      iterate 2 refine pm_B.next rfl rfl ?_
      refine q_iast rfl s3 i rfl hi64 (by decide) ?_
      rw [jb_pt]
      iterate 3 refine pm_B.next rfl rfl ?_
      obtain ⟨j1, j2⟩ := j_op hop hc hj
      refine hnx _ _ _ _ ⟨fun g => (by rw [g] at hop; cases hop), fun g => (by rw [g] at hop; cases hop)⟩ j1 j2 hh' ?_ ?_
      · rw [bk_st_op hop]
        simp [hl, h4]
      · rw [bk_st_op hop, List.map_cons, cu_new (by omega)]
        rfl
    have hop : bk_op (A (q + 1) i) = false := by
      simp only [not_or] at h68
      simp [bk_op, h4, h68.1, h68.2]
    by_cases h7 : A (q + 1) i = 7
    · refine pm_B.next (q := (48, _, _, _)) rfl (pm_sw_hit (by rw [h7]; rfl)) ?_
      cases hst : bk_st (A (q + 1)) i with
      | nil =>
        repeat refine pm_B.next rfl rfl ?_
        refine q_zret rfl (Or.inl rfl) (Or.inl ⟨hbad (fun g => ?_), _, _, rfl⟩)
        obtain ⟨o, l, e1, -⟩ := g.2 h7
        rw [hst] at e1
        cases e1
      | cons o l =>
        obtain ⟨io, iop, il, -⟩ := bk_in hst
        have hcl := cu_lt (ks := A (q + 1)) io
        have hm1 : ¬ nI (cu (A (q + 1)) i o) = -1 := by
          intro g
          have := nI_pos (n := cu (A (q + 1)) i o) (by omega)
          rw [g] at this
          exact this (by decide)
        iterate 2 refine pm_B.next rfl rfl ?_
        refine r_icF rfl (decide_eq_false hm1) ?_
        iterate 1 refine pm_B.next rfl rfl ?_
        refine q_getr rfl s0 (by decide) p0 ?_
        iterate 1 refine pm_B.next rfl rfl ?_
        refine q_iald rfl s1 (cu (A (q + 1)) i o) rfl (by omega) (by decide) (v := A (q + 1) (cu (A (q + 1)) i o)) (jb_o (by omega) (by omega) (by omega)) ?_
        iterate 1 refine pm_B.next rfl rfl ?_
        by_cases h6 : A (q + 1) (cu (A (q + 1)) i o) = 6
        · have hcu : cu (A (q + 1)) i o = o := cu_op iop (by rw [h6]; decide)
          rw [hcu] at h6
          refine r_icT rfl (decide_eq_true (by rw [hcu]; exact h6)) ?_
          have he7 : bk_e7 (A (q + 1)) i := ⟨o, l, hst, h6, (cu_e7 hst).mp hcu⟩
          iterate 1 refine pm_B.next rfl rfl ?_
          refine q_getr rfl s0 (by decide) p2 ?_
          iterate 2 refine pm_B.next rfl rfl ?_
          refine q_getr rfl s0 (by decide) p2 ?_
          iterate 1 refine pm_B.next rfl rfl ?_
          refine q_iald rfl s3 o (by show nI (cu (A (q + 1)) i o) = nI o; rw [hcu]) (by omega) (by decide) jb_3 ?_
          refine q_iast rfl s3 i rfl hi64 (by decide) ?_
          rw [jb_pt]
          iterate 1 refine pm_B.next rfl rfl ?_
          refine q_getr rfl s0 (by decide) p2 ?_
          iterate 2 refine pm_B.next rfl rfl ?_
          refine q_iast rfl s3 o (by show nI (cu (A (q + 1)) i o) = nI o; rw [hcu]) (by omega) (by decide) ?_
          rw [jb_pt]
          iterate 3 refine pm_B.next rfl rfl ?_
          obtain ⟨j1, j2⟩ := j_else h7 hst hcu hc hj
          obtain ⟨c1, c2⟩ := cu_7 h7 hst
          have hst' : bk_st (A (q + 1)) (i + 1) = o :: l := by rw [bk_st_no hop (by rw [h7]; decide)]; exact hst
          rw [hst] at hh'
          refine hnx _ _ _ _ ⟨fun g => absurd (h7.symm.trans g) (by decide), fun _ => he7⟩ j1 j2 hh' (by rw [hst']) ?_
          rw [hst', List.map_cons, c1]
          rfl
        · refine r_icF rfl (decide_eq_false h6) ?_
          repeat refine pm_B.next rfl rfl ?_
          refine q_zret rfl (Or.inl rfl) (Or.inl ⟨hbad (fun g => ?_), _, _, rfl⟩)
          obtain ⟨o', l', e1, e2, e3⟩ := g.2 h7
          have e0 := e1
          rw [hst] at e1
          cases e1
          have := (cu_e7 e0).mpr e3
          rw [this] at h6
          exact h6 e2
    by_cases h5 : A (q + 1) i = 5
    · refine pm_B.next (q := (75, _, _, _)) rfl (pm_sw_hit (by rw [h5]; rfl)) ?_
      cases hst : bk_st (A (q + 1)) i with
      | nil =>
        repeat refine pm_B.next rfl rfl ?_
        exact q_zret rfl (Or.inl rfl) (Or.inl ⟨hbad (fun g => g.1 h5 hst), _, _, rfl⟩)
      | cons o l =>
        obtain ⟨io, iop, il, -⟩ := bk_in hst
        have hcl := cu_lt (ks := A (q + 1)) io
        have hm1 : ¬ nI (cu (A (q + 1)) i o) = -1 := by
          intro g
          have := nI_pos (n := cu (A (q + 1)) i o) (by omega)
          rw [g] at this
          exact this (by decide)
        iterate 2 refine pm_B.next rfl rfl ?_
        refine r_icT rfl (decide_eq_true hm1) ?_
        iterate 1 refine pm_B.next rfl rfl ?_
        refine q_getr rfl s0 (by decide) p3 ?_
        iterate 1 refine pm_B.next rfl rfl ?_
        refine q_iald rfl s4 (cu (A (q + 1)) i o) rfl (by omega) (by decide) (v := hl (A (q + 1)) (A (q + 2)) rq l) ?_ ?_
        · rw [jb_4, va_up_ne _ _ (by omega)]
          exact hl_end hst (fun j hj => (hok j hj).2) hh
        iterate 4 refine pm_B.next rfl rfl ?_
        refine q_cv (a := [.int (nI (cu (A (q + 1)) i o)), .int (nI i)]) rfl s0 rfl (Nat.le_of_ble_eq_true rfl) (Nat.le_of_ble_eq_true rfl) (x_Bo_closeBlock k0 (by omega) hi64 jb_3) ?_
        rw [jb_pt, jb_pt]
        iterate 2 refine pm_B.next rfl rfl ?_
        have hst' : bk_st (A (q + 1)) (i + 1) = l := by rw [bk_st_end h5, hst]; rfl
        obtain ⟨j1, j2⟩ := j_end h5 hst hc hj
        rw [hst] at hh'
        refine hnx _ _ _ _ ⟨fun _ g => (by rw [hst] at g; cases g), fun g => absurd (h5.symm.trans g) (by decide)⟩ j1 j2 hh' (by rw [hst']) ?_
        rw [hst', hj.1 [] o l hst]
        congr 1
        exact List.map_congr_left (fun z _ => (cu_s (by rw [h5]; decide)).symm)
    · simp only [not_or] at h68
      refine pm_B.next (q := (91, _, _, _)) rfl (pm_sw_hit (by simp only [pm_swt, h4, h5, h68.1, h68.2, h7, if_false])) ?_
      obtain ⟨j1, j2⟩ := j_no hop h5 h7 hc hj
      refine hnx _ _ _ _ ⟨fun g => absurd g h5, fun g => absurd g h7⟩ j1 j2 hh' (by rw [bk_st_no hop h5]) ?_
      rw [bk_st_no hop h5]
      congr 1
      exact List.map_congr_left (fun z _ => (cu_s h7).symm)
end JOIN
