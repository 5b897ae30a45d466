def bk_e7 (ks : Nat → Int32) (k : Nat) : Prop := ∃ o l, bk_st ks k = o :: l ∧ ks o = 6 ∧ ∀ j, o < j → j < k → bk_st ks j = bk_st ks k → ks j ≠ 7
def bk_ok1 (ks : Nat → Int32) (k : Nat) : Prop := (ks k = 5 → bk_st ks k ≠ []) ∧ (ks k = 7 → bk_e7 ks k)
/-- the blocks of n statements are as they must be -/
def bk_wh (ks : Nat → Int32) (n : Nat) : Prop := (∀ k, k < n → bk_ok1 ks k) ∧ bk_st ks n = []
theorem bk_in {ks : Nat → Int32} {k o : Nat} {l : List Nat} (h : bk_st ks k = o :: l) : o < k ∧ bk_op (ks o) = true ∧ l = bk_st ks o ∧ bk_st ks (o + 1) = bk_st ks k := by
  have h1 := bk_lt k o (by rw [h]; exact List.mem_cons_self)
  have h2 := bk_tail k [] o l h
  exact ⟨h1.1, h1.2, h2, by rw [bk_st_op h1.2, h, h2]⟩
theorem bk_e7_cl {ks : Nat → Int32} {n k o j : Nat} {l : List Nat} (h : bk_st ks k = o :: l) (h6 : ks o = 6) (h7 : ks k = 7) (hkn : k < n) (hj : bk_CL ks n (o + 1) (clq 1) j) : k ≤ j ↔ bk_e7 ks k := by
  obtain ⟨i1, i2, i3, i4⟩ := bk_in h
  constructor
  · intro hle
    refine ⟨o, l, h, h6, fun j' h1 h2 h3 h4 => ?_⟩
    exact hj.2.2 j' (by omega) (by omega) ⟨by rw [i4]; exact h3, Or.inr ⟨by decide, h4⟩⟩
  · rintro ⟨o', l', h1, -, h3⟩
    rw [h] at h1
    cases h1
    rcases Nat.lt_or_ge j k with hlt | hge
    · exfalso
      rcases hj.2.1 with ⟨g1, g2, g3⟩ | g1
      · rw [i4] at g2
        rcases g3 with g3 | ⟨-, g3⟩
        · exact bk_once (g2.trans h) g3 hlt (by rw [h]; exact List.mem_cons_self)
        · exact h3 j (by have := hj.1; omega) hlt g2 g3
      · omega
    · exact hge
theorem hdI_cons {o : Nat} {l : List Nat} : hdI (o :: l) = nI o := rfl
section REF2
variable {d : Nat} {SL : Nat} {S : Nat → Nat × Nat} {A : Nat → Nat → Int32} {P : Nat → Nat → Option Nat}
theorem x_isWhole {sz : Nat} (m : kM S P) (hs : A 114 8 = nI sz) (h64 : sz ≤ 64) : EE (d + 2) M_Mo_isWhole [.ref 111] SL S A P (fun r => (bk_wh (KS A 8) sz ∧ r = ((131, SL, S, A, P), some (.int 1))) ∨ (¬ bk_wh (KS A 8) sz ∧ r = ((131, SL, S, A, P), some (.int 0)))) := by
  have m0 := m
  obtain ⟨⟨⟨s0, s1, s2, s3, s4, s5⟩, p0, p1, p2, p3, p5⟩, -⟩ := m
  refine q_of (tb := fun j => tb_Mo_isWhole[j]?) rfl rfl (Nat.le_of_ble_eq_true rfl) ?_
  show BB _ _ 0 [.ref 111, .null, .null, .null, .null] [] _ _ _ _ _
  iterate 4 refine pm_B.next rfl rfl ?_
  suffices h : ∀ c k x3 x4, k + c = sz → (∀ j, j < k → bk_ok1 (KS A 8) j) → BB (d + 2) (fun j => tb_Mo_isWhole[j]?) 4 [.ref 111, .int (nI (bk_st (KS A 8) k).length), .int (nI k), x3, x4] [] SL S A P (fun r => (131 ≤ r.1.1 ∧ SL ≤ r.1.2.1) ∧ ((bk_wh (KS A 8) sz ∧ r = ((131, SL, S, A, P), some (.int 1))) ∨ (¬ bk_wh (KS A 8) sz ∧ r = ((131, SL, S, A, P), some (.int 0))))) from h sz 0 .null .null (by omega) (fun j hj => by omega)
  intro c
  induction c with
  | zero =>
    intro k x3 x4 hk hok
    have : k = sz := by omega
    subst this
    repeat refine pm_B.next rfl rfl ?_
    refine q_getr rfl s0 (by decide) p2 ?_
    repeat refine pm_B.next rfl rfl ?_
    refine q_iald rfl s3 8 rfl (by decide) (by decide) hs ?_
    refine r_icT rfl (decide_eq_true (nI_le (Nat.le_refl _) (by omega))) ?_
    iterate 1 refine pm_B.next rfl rfl ?_
    by_cases hz : bk_st (KS A 8) k = []
    · rw [hz]
      repeat refine pm_B.next rfl rfl ?_
      exact q_zret rfl (Or.inr rfl) (Or.inl ⟨⟨hok, hz⟩, rfl⟩)
    · have hl := bk_len (ks := KS A 8) k
      refine r_ifT rfl (decide_eq_true (nI_ne0 (List.length_pos_iff.mpr hz) (by omega))) ?_
      repeat refine pm_B.next rfl rfl ?_
      exact q_zret rfl (Or.inl rfl) (Or.inr ⟨fun g => hz g.2, rfl⟩)
  | succ c ih =>
    intro k x3 x4 hk hok
    have hk64 : k < 64 := by omega
    have hl := bk_len (ks := KS A 8) k
    repeat refine pm_B.next rfl rfl ?_
    refine q_getr rfl s0 (by decide) p2 ?_
    repeat refine pm_B.next rfl rfl ?_
    refine q_iald rfl s3 8 rfl (by decide) (by decide) hs ?_
    refine r_icF rfl (decide_eq_false (nI_ge (by omega) (by omega))) ?_
    repeat refine pm_B.next rfl rfl ?_
    refine q_cv (a := [.int (nI 8), .int (nI k)]) rfl s0 rfl (Nat.le_of_ble_eq_true rfl) (Nat.le_of_ble_eq_true rfl) (x_kindAt m0 (by decide) hk64) ?_
    repeat refine pm_B.next rfl rfl ?_
    refine q_cv (a := [.int (nI 8), .int (nI k)]) rfl s0 rfl (Nat.le_of_ble_eq_true rfl) (Nat.le_of_ble_eq_true rfl) (x_openerOf m0 (by decide) (by omega) (fun a ha h5 => (hok a ha).1 h5)) ?_
    iterate 2 refine pm_B.next rfl rfl ?_
    refine q_cs rfl rfl (Nat.le_of_ble_eq_true rfl) (Nat.le_of_ble_eq_true rfl) x_opens ?_
    have bad : ¬ bk_ok1 (KS A 8) k → ¬ bk_wh (KS A 8) sz := fun g w => g (w.1 k (by omega))
    have next : bk_ok1 (KS A 8) k → ∀ o' : Int32, o' = nI (bk_st (KS A 8) (k + 1)).length → BB (d + 2) (fun j => tb_Mo_isWhole[j]?) 58 [.ref 111, .int o', .int (nI k), .int (KS A 8 k), .int (hdI (bk_st (KS A 8) k))] [] SL S A P (fun r => (131 ≤ r.1.1 ∧ SL ≤ r.1.2.1) ∧ ((bk_wh (KS A 8) sz ∧ r = ((131, SL, S, A, P), some (.int 1))) ∨ (¬ bk_wh (KS A 8) sz ∧ r = ((131, SL, S, A, P), some (.int 0))))) := by
      intro hg o' ho'
      subst ho'
      iterate 2 refine pm_B.next rfl rfl ?_
      refine q_lc (lc' := [.ref 111, .int (nI (bk_st (KS A 8) (k + 1)).length), .int (nI (k + 1)), .int (KS A 8 k), .int (hdI (bk_st (KS A 8) k))]) (by rw [nI_succ k]; rfl) ?_
      exact ih (k + 1) _ _ (by omega) (lt_s hok hg)
    cases hop : bk_op (KS A 8 k) with
    | true =>
      have h5 : ¬ KS A 8 k = 5 := fun g => by rw [g] at hop; cases hop
      have h7 : ¬ KS A 8 k = 7 := fun g => by rw [g] at hop; cases hop
      refine q_top (w := 1) (by simp [opz, hop]) ?_
      iterate 4 refine pm_B.next rfl rfl ?_
      refine r_icT rfl (decide_eq_true h5) ?_
      iterate 2 refine pm_B.next rfl rfl ?_
      refine r_icT rfl (decide_eq_true h5) ?_
      iterate 2 refine pm_B.next rfl rfl ?_
      refine r_icF rfl (decide_eq_false h7) ?_
      iterate 1 refine pm_B.next rfl rfl ?_
      exact next ⟨fun g => absurd g h5, fun g => absurd g h7⟩ _ (by rw [bk_st_op hop, List.length_cons, nI_succ])
    | false =>
      refine q_top (w := 0) (by simp [opz, hop]) ?_
      iterate 3 refine pm_B.next rfl rfl ?_
      by_cases h5 : KS A 8 k = 5
      · have h7 : ¬ KS A 8 k = 7 := by rw [h5]; decide
        refine r_icF rfl (decide_eq_false (fun g => g h5)) ?_
        iterate 3 refine pm_B.next rfl rfl ?_
        refine r_icF rfl (decide_eq_false (fun g => g h5)) ?_
        cases hst : bk_st (KS A 8) k with
        | nil =>
          repeat refine pm_B.next rfl rfl ?_
          exact q_zret rfl (Or.inl rfl) (Or.inr ⟨bad (fun g => g.1 h5 hst), rfl⟩)
        | cons o l =>
          rw [hst] at hl next
          have hi := bk_in hst
          iterate 1 refine pm_B.next rfl rfl ?_
          refine r_ifT rfl (decide_eq_true (nI_pos' (by omega))) ?_
          iterate 2 refine pm_B.next rfl rfl ?_
          refine r_icF rfl (decide_eq_false h7) ?_
          iterate 1 refine pm_B.next rfl rfl ?_
          refine next ⟨fun _ g => (by rw [hst] at g; cases g), fun g => absurd g h7⟩ _ ?_
          rw [bk_st_end h5, hst, List.length_cons]
          exact pk_m1 _
      · refine r_icT rfl (decide_eq_true h5) ?_
        iterate 2 refine pm_B.next rfl rfl ?_
        refine r_icT rfl (decide_eq_true h5) ?_
        iterate 2 refine pm_B.next rfl rfl ?_
        by_cases h7 : KS A 8 k = 7
        · refine r_icT rfl (decide_eq_true h7) ?_
          cases hst : bk_st (KS A 8) k with
          | nil =>
            repeat refine pm_B.next rfl rfl ?_
            refine q_zret rfl (Or.inl rfl) (Or.inr ⟨bad (fun g => ?_), rfl⟩)
            obtain ⟨o, l, g1, -⟩ := g.2 h7
            rw [hst] at g1
            cases g1
          | cons o l =>
            rw [hst] at next
            have hi := bk_in hst
            have ho64 : o < 64 := by omega
            iterate 1 refine pm_B.next rfl rfl ?_
            refine r_ifF rfl (decide_eq_false (nI_pos (by omega))) ?_
            repeat refine pm_B.next rfl rfl ?_
            refine q_cv (a := [.int (nI 8), .int (nI o)]) rfl s0 rfl (Nat.le_of_ble_eq_true rfl) (Nat.le_of_ble_eq_true rfl) (x_kindAt m0 (by decide) ho64) ?_
            iterate 1 refine pm_B.next rfl rfl ?_
            by_cases h6 : KS A 8 o = 6
            · refine r_icF rfl (decide_eq_false (fun g => g h6)) ?_
              repeat refine pm_B.next rfl rfl ?_
              refine q_callv (a := [.int (nI 8), .int (nI (o + 1)), .int 1]) rfl s0 (by rw [nI_succ o]; rfl) (Nat.le_of_ble_eq_true rfl) (Nat.le_of_ble_eq_true rfl) (x_closerOf m0 (by decide) hs h64 (by omega)) (fun h1 v hr => ?_)
              obtain ⟨j, hj, hr⟩ := hr
              cases hr
              have hcl := bk_e7_cl hst h6 h7 (by omega) hj
              have hj64 : j ≤ 64 := by
                rcases hj.2.1 with ⟨z1, -, -⟩ | z1 <;> omega
              show BB _ _ 54 _ [.int (nI j)] _ _ _ _ _
              iterate 1 refine pm_B.next rfl rfl ?_
              by_cases hle : k ≤ j
              · refine r_icT rfl (decide_eq_true (nI_le hle (by omega))) ?_
                exact next ⟨fun g => absurd g h5, fun _ => hcl.mp hle⟩ _ (by rw [bk_st_no hop h5, hst])
              · refine r_icF rfl (decide_eq_false (nI_ge (by omega) (by omega))) ?_
                repeat refine pm_B.next rfl rfl ?_
                exact q_zret rfl (Or.inl rfl) (Or.inr ⟨bad (fun g => hle (hcl.mpr (g.2 h7))), rfl⟩)
            · refine r_icT rfl (decide_eq_true h6) ?_
              repeat refine pm_B.next rfl rfl ?_
              refine q_zret rfl (Or.inl rfl) (Or.inr ⟨bad (fun g => ?_), rfl⟩)
              obtain ⟨o', l', g1, g2, -⟩ := g.2 h7
              rw [hst] at g1
              cases g1
              exact h6 g2
        · refine r_icF rfl (decide_eq_false h7) ?_
          iterate 1 refine pm_B.next rfl rfl ?_
          exact next ⟨fun g => absurd g h5, fun g => absurd g h7⟩ _ (by rw [bk_st_no hop h5])
/-- the text's statements, copied to body n up to i -/
def cpb (A : Nat → Nat → Int32) (n i : Nat) : Nat → Nat → Int32 := fun a j => if (a = 112 ∨ a = 113) ∧ 64 * n ≤ j ∧ j < 64 * n + i then A a (512 + (j - 64 * n)) else A a j
theorem cpb_0 {A : Nat → Nat → Int32} {n : Nat} : cpb A n 0 = A := by
  funext a j
  simp only [cpb]
  rw [if_neg (by omega)]
theorem cpb_s {A : Nat → Nat → Int32} {n i : Nat} (hn : n < 8) : pm_u (pm_u (cpb A n i) 112 (64 * n + i) (A 112 (512 + i))) 113 (64 * n + i) (A 113 (512 + i)) = cpb A n (i + 1) := by
  funext a j
  simp only [pm_u, cpb]
  by_cases hj : j = 64 * n + i
  · subst hj
    have e1 : 64 * n + i - 64 * n = i := by omega
    have e2 : 64 * n ≤ 64 * n + i ∧ 64 * n + i < 64 * n + (i + 1) := by omega
    have e3 : ¬ (64 * n + i < 64 * n + i) := by omega
    by_cases h1 : a = 112
    · subst h1
      simp [e1]
    · by_cases h2 : a = 113
      · subst h2
        simp [e1]
      · simp [h1, h2]
  · have e1 : (64 * n ≤ j ∧ j < 64 * n + i) ↔ (64 * n ≤ j ∧ j < 64 * n + (i + 1)) := by omega
    simp [hj, e1]
theorem cpb_src {A : Nat → Nat → Int32} {n i a j : Nat} (h : (a ≠ 112 ∧ a ≠ 113) ∨ j < 64 * n ∨ 64 * n + i ≤ j) : cpb A n i a j = A a j := by
  have : ¬ ((a = 112 ∨ a = 113) ∧ 64 * n ≤ j ∧ j < 64 * n + i) := by omega
  simp [cpb, this]
theorem x_Mo_body {n sz : Nat} {rq : Int32} (m : kM S P) (hn : A 111 4 = nI n) (hn8 : n ≤ 8) (hs : A 114 8 = nI sz) (h64 : sz ≤ 64) : EE (d + 3) M_Mo_body [.ref 111, .int rq] SL S A P (fun r => (n < 8 ∧ bk_wh (KS A 8) sz ∧ r = ((131, SL, S, pm_u (pm_u (pm_u (pm_u (cpb A n sz) 114 n (nI sz)) 115 n (rq &&& 15)) 111 4 (nI (n + 1))) 114 8 0, P), some (.int (nI n)))) ∨ (¬ (n < 8 ∧ bk_wh (KS A 8) sz) ∧ r = ((131, SL, S, pm_u A 114 8 0, P), some (.int (-1))))) := by
  have m0 := m
  obtain ⟨⟨⟨s0, s1, s2, s3, s4, s5⟩, p0, p1, p2, p3, p5⟩, -⟩ := m
  refine q_of (tb := fun j => tb_Mo_body[j]?) rfl rfl (Nat.le_of_ble_eq_true rfl) ?_
  show BB _ _ 0 [.ref 111, .int rq, .null, .null] [] _ _ _ _ _
  have no : ¬ (n < 8 ∧ bk_wh (KS A 8) sz) → BB (d + 3) (fun j => tb_Mo_body[j]?) 10 [.ref 111, .int rq, .null, .null] [.int 0] SL S A P (fun r => (131 ≤ r.1.1 ∧ SL ≤ r.1.2.1) ∧ ((n < 8 ∧ bk_wh (KS A 8) sz ∧ r = ((131, SL, S, pm_u (pm_u (pm_u (pm_u (cpb A n sz) 114 n (nI sz)) 115 n (rq &&& 15)) 111 4 (nI (n + 1))) 114 8 0, P), some (.int (nI n)))) ∨ (¬ (n < 8 ∧ bk_wh (KS A 8) sz) ∧ r = ((131, SL, S, pm_u A 114 8 0, P), some (.int (-1)))))) := by
    intro hno
    have tail : BB (d + 3) (fun j => tb_Mo_body[j]?) 49 [.ref 111, .int rq, .int 0, .int 0] [] SL S A P (fun r => (131 ≤ r.1.1 ∧ SL ≤ r.1.2.1) ∧ ((n < 8 ∧ bk_wh (KS A 8) sz ∧ r = ((131, SL, S, pm_u (pm_u (pm_u (pm_u (cpb A n sz) 114 n (nI sz)) 115 n (rq &&& 15)) 111 4 (nI (n + 1))) 114 8 0, P), some (.int (nI n)))) ∨ (¬ (n < 8 ∧ bk_wh (KS A 8) sz) ∧ r = ((131, SL, S, pm_u A 114 8 0, P), some (.int (-1)))))) := by
      repeat refine pm_B.next rfl rfl ?_
      refine q_getr rfl s0 (by decide) p2 ?_
      repeat refine pm_B.next rfl rfl ?_
      refine q_iast rfl s3 8 rfl (by decide) (by decide) ?_
      repeat refine pm_B.next rfl rfl ?_
      exact q_iret rfl (Or.inr ⟨hno, rfl⟩)
    repeat refine pm_B.next rfl rfl ?_
    refine q_getr rfl s0 (by decide) p2 ?_
    repeat refine pm_B.next rfl rfl ?_
    refine q_iald rfl s3 8 rfl (by decide) (by decide) hs ?_
    by_cases hz : sz = 0
    · subst hz
      iterate 1 refine pm_B.next rfl rfl ?_
      exact tail
    · refine r_icF rfl (decide_eq_false (nI_nle (by omega) (by omega))) ?_
      iterate 2 refine pm_B.next rfl rfl ?_
      exact tail
  iterate 1 refine pm_B.next rfl rfl ?_
  refine q_geti rfl s0 (by decide) hn ?_
  iterate 1 refine pm_B.next rfl rfl ?_
  by_cases h8 : n < 8
  · refine r_icF rfl (decide_eq_false (nI_ge (a := n) (b := 8) h8 (by decide))) ?_
    iterate 1 refine pm_B.next rfl rfl ?_
    refine q_callv rfl s0 rfl (Nat.le_of_ble_eq_true rfl) (Nat.le_of_ble_eq_true rfl) (x_isWhole m0 hs h64) (fun h1 v hr => ?_)
    rcases hr with ⟨hw, hr⟩ | ⟨hw, hr⟩
    · cases hr
      iterate 3 refine pm_B.next rfl rfl ?_
      iterate 3 refine pm_B.next rfl rfl ?_
      suffices h : ∀ c i, i + c = sz → BB (d + 3) (fun j => tb_Mo_body[j]?) 13 [.ref 111, .int rq, .int 1, .int (nI i)] [] SL S (cpb A n i) P (fun r => (131 ≤ r.1.1 ∧ SL ≤ r.1.2.1) ∧ ((n < 8 ∧ bk_wh (KS A 8) sz ∧ r = ((131, SL, S, pm_u (pm_u (pm_u (pm_u (cpb A n sz) 114 n (nI sz)) 115 n (rq &&& 15)) 111 4 (nI (n + 1))) 114 8 0, P), some (.int (nI n)))) ∨ (¬ (n < 8 ∧ bk_wh (KS A 8) sz) ∧ r = ((131, SL, S, pm_u A 114 8 0, P), some (.int (-1)))))) by
        have := h sz 0 (by omega)
        rw [cpb_0] at this
        exact this
      intro c
      induction c with
      | zero =>
        intro i hi
        have : i = sz := by omega
        subst this
        have g1 : cpb A n i 114 8 = nI i := by rw [cpb_src (by omega)]; exact hs
        have g2 : cpb A n i 111 4 = nI n := by rw [cpb_src (by omega)]; exact hn
        repeat refine pm_B.next rfl rfl ?_
        refine q_getr rfl s0 (by decide) p2 ?_
        repeat refine pm_B.next rfl rfl ?_
        refine q_iald rfl s3 8 rfl (by decide) (by decide) g1 ?_
        refine r_icT rfl (decide_eq_true (nI_le (Nat.le_refl _) (by omega))) ?_
        repeat refine pm_B.next rfl rfl ?_
        refine q_getr rfl s0 (by decide) p2 ?_
        repeat refine pm_B.next rfl rfl ?_
        refine q_geti rfl s0 (by decide) g2 ?_
        repeat refine pm_B.next rfl rfl ?_
        refine q_getr rfl s0 (by decide) p2 ?_
        repeat refine pm_B.next rfl rfl ?_
        refine q_iald rfl s3 8 rfl (by decide) (by decide) g1 ?_
        refine q_iast rfl s3 n rfl (by omega) (by decide) ?_
        repeat refine pm_B.next rfl rfl ?_
        refine q_getr rfl s0 (by decide) p3 ?_
        repeat refine pm_B.next rfl rfl ?_
        refine q_geti rfl s0 (by decide) (v := nI n) (by rw [u_nc (by decide)]; exact g2) ?_
        repeat refine pm_B.next rfl rfl ?_
        refine q_iast rfl s4 n rfl (by omega) (by decide) ?_
        repeat refine pm_B.next rfl rfl ?_
        refine q_geti rfl s0 (by decide) (v := nI n) (by rw [u_nc (by decide), u_nc (by decide)]; exact g2) ?_
        iterate 2 refine pm_B.next rfl rfl ?_
        refine q_top (nI_1 n) ?_
        refine q_puti rfl s0 (by decide) ?_
        repeat refine pm_B.next rfl rfl ?_
        refine q_getr rfl s0 (by decide) p2 ?_
        repeat refine pm_B.next rfl rfl ?_
        refine q_iast rfl s3 8 rfl (by decide) (by decide) ?_
        repeat refine pm_B.next rfl rfl ?_
        refine q_geti rfl s0 (by decide) (v := nI (n + 1)) (by rw [u_nc (by decide)]; exact u_eq) ?_
        iterate 2 refine pm_B.next rfl rfl ?_
        refine q_top (nI_pred n) ?_
        iterate 1 refine pm_B.next rfl rfl ?_
        exact q_iret rfl (Or.inl ⟨h8, hw, rfl⟩)
      | succ c ih =>
        intro i hi
        have g1 : cpb A n i 114 8 = nI sz := by rw [cpb_src (by omega)]; exact hs
        have g2 : cpb A n i 111 4 = nI n := by rw [cpb_src (by omega)]; exact hn
        have hi64 : i < 64 := by omega
        repeat refine pm_B.next rfl rfl ?_
        refine q_getr rfl s0 (by decide) p2 ?_
        repeat refine pm_B.next rfl rfl ?_
        refine q_iald rfl s3 8 rfl (by decide) (by decide) g1 ?_
        refine r_icF rfl (decide_eq_false (nI_ge (by omega) (by omega))) ?_
        repeat refine pm_B.next rfl rfl ?_
        refine q_getr rfl s0 (by decide) p0 ?_
        repeat refine pm_B.next rfl rfl ?_
        refine q_geti rfl s0 (by decide) g2 ?_
        repeat refine pm_B.next rfl rfl ?_
        refine q_cv (a := [.int (nI 8), .int (nI i)]) rfl s0 rfl (Nat.le_of_ble_eq_true rfl) (Nat.le_of_ble_eq_true rfl) (x_kindAt m0 (by decide) hi64) ?_
        refine q_iast rfl s1 (64 * n + i) (lin64 n i) (by omega) (by decide) ?_
        repeat refine pm_B.next rfl rfl ?_
        refine q_getr rfl s0 (by decide) p1 ?_
        repeat refine pm_B.next rfl rfl ?_
        refine q_geti rfl s0 (by decide) (v := nI n) (by rw [u_nc (by decide)]; exact g2) ?_
        repeat refine pm_B.next rfl rfl ?_
        refine q_cv (a := [.int (nI 8), .int (nI i)]) rfl s0 rfl (Nat.le_of_ble_eq_true rfl) (Nat.le_of_ble_eq_true rfl) (x_numberAt m0 (by decide) hi64) ?_
        refine q_iast rfl s2 (64 * n + i) (lin64 n i) (by omega) (by decide) ?_
        have e1 : KS (cpb A n i) 8 i = A 112 (512 + i) := cpb_src (by omega)
        have e2 : NS (pm_u (cpb A n i) 112 (64 * n + i) (KS (cpb A n i) 8 i)) 8 i = A 113 (512 + i) := by
          show pm_u _ _ _ _ 113 (64 * 8 + i) = _
          rw [u_nc (by decide)]
          exact cpb_src (by omega)
        rw [e2, e1, cpb_s h8]
        iterate 2 refine pm_B.next rfl rfl ?_
        refine q_lc (lc' := [.ref 111, .int rq, .int 1, .int (nI (i + 1))]) (by rw [nI_succ i]; rfl) ?_
        exact ih (i + 1) (by omega)
    · cases hr
      iterate 2 refine pm_B.next rfl rfl ?_
      exact no (fun g => hw g.2)
  · have : n = 8 := by omega
    subst this
    iterate 2 refine pm_B.next rfl rfl ?_
    exact no (fun g => h8 g.1)
end REF2
