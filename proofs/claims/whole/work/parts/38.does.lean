section DOES
variable {d : Nat} {SL : Nat} {S : Nat → Nat × Nat} {A : Nat → Nat → Int32} {P : Nat → Nat → Option Nat}
theorem q_does {t n b p : Nat} {Q : pm_R → Prop} (m : kM S P) (ht : t < 6) (hd : A 122 t = nI (n + 1)) (hb : b < 9) (hp : p < 64) (kk : BB (d + 1) (fun j => tb_Mo_does[j]?) 20 [.ref 111, .int (nI t), .int (nI b), .int (nI p), .int (NS A b p), .int (nI (8 * t + n))] [.int (KS A b p)] SL S A P (fun r => (131 ≤ r.1.1 ∧ SL ≤ r.1.2.1) ∧ Q r)) :
    EE (d + 1) M_Mo_does [.ref 111, .int (nI t), .int (nI b), .int (nI p)] SL S A P Q := by
  have m0 := m
  obtain ⟨⟨⟨s0, s1, s2, s3, s4, s5⟩, p0, p1, p2, p3, p5⟩, ⟨⟨c7, c8, c9, c0, e1, e2, e3, e4, e5⟩, r7, r8, r9, r10, r12, r13, r14, r15, r16⟩, ⟨⟨f1, f2, f3, f4, f5⟩, r18, r19, r20, r21, r23⟩⟩ := m
  refine q_of (tb := fun j => tb_Mo_does[j]?) rfl rfl (Nat.le_of_ble_eq_true rfl) ?_
  show BB _ _ 0 [.ref 111, .int (nI t), .int (nI b), .int (nI p), .null, .null] [] _ _ _ _ _
  iterate 3 refine pm_B.next rfl rfl ?_
  refine q_cv (a := [.int (nI b), .int (nI p)]) rfl s0 rfl (Nat.le_of_ble_eq_true rfl) (Nat.le_of_ble_eq_true rfl) (x_numberAt m0 hb hp) ?_
  iterate 5 refine pm_B.next rfl rfl ?_
  refine q_getr rfl s0 (by decide) r13 ?_
  iterate 1 refine pm_B.next rfl rfl ?_
  refine q_iald rfl e2 t rfl ht (by decide) hd ?_
  iterate 3 refine pm_B.next rfl rfl ?_
  refine q_top (lin8p t n) ?_
  iterate 4 refine pm_B.next rfl rfl ?_
  refine q_cv (a := [.int (nI b), .int (nI p)]) rfl s0 rfl (Nat.le_of_ble_eq_true rfl) (Nat.le_of_ble_eq_true rfl) (x_kindAt m0 hb hp) ?_
  exact kk
theorem d_read {t n b p st c rc : Nat} (m : kM S P) (ht : t < 6) (hd : A 122 t = nI (n + 1)) (hb : b < 9) (hp : p < 64) (hk : KS A b p = 0) (hnm : NS A b p = nI c) (hc : c < 8) (hst : A 111 17 = nI st) (h4 : st < 4000) (he : ∀ k, k ≤ st → edb A k) (hac : ∀ k, k < st → acv A k) (hrc : A 111 22 = nI rc) (hrc4 : rc ≤ 4000) :
    EE (d + 2) M_Mo_does [.ref 111, .int (nI t), .int (nI b), .int (nI p)] SL S A P (fun r => ∃ A', (∃ B A1, mtH A st rc (nI (16 * t + 2 * c + 0)) B (∃ k, k < st ∧ rcd A st t c 0 k) A1 ∧ A' = pm_u A1 121 t (A1 117 c)) ∧ r = ((131, SL, S, A', P), none)) := by
  refine q_does m ht hd hb hp ?_
  have m0 := m
  obtain ⟨⟨⟨s0, s1, s2, s3, s4, s5⟩, p0, p1, p2, p3, p5⟩, ⟨⟨c7, c8, c9, c0, e1, e2, e3, e4, e5⟩, r7, r8, r9, r10, r12, r13, r14, r15, r16⟩, ⟨⟨f1, f2, f3, f4, f5⟩, r18, r19, r20, r21, r23⟩⟩ := m
  rw [hk, hnm]
  iterate 5 refine pm_B.next rfl rfl ?_
  refine q_callv (a := [.int (nI t), .int (nI c), .int (nI 0)]) rfl s0 rfl (Nat.le_of_ble_eq_true rfl) (Nat.le_of_ble_eq_true rfl) (x_meets (w := 0) m0 hst h4 he ht hc (by decide) hac hrc hrc4) (fun h1 v hv => ?_)
  obtain ⟨B, A1, hm, he1⟩ := hv
  cases he1
  iterate 1 refine pm_B.next rfl rfl ?_
  refine q_getr rfl s0 (by decide) r12 ?_
  iterate 2 refine pm_B.next rfl rfl ?_
  refine q_getr rfl s0 (by decide) r7 ?_
  iterate 1 refine pm_B.next rfl rfl ?_
  refine q_iald rfl c7 c rfl hc (by decide) rfl ?_
  refine q_iast rfl e1 t rfl ht (by decide) ?_
  exact q_vret (Q := fun r => ∃ A', (∃ B A1, mtH A st rc (nI (16 * t + 2 * c + 0)) B (∃ k, k < st ∧ rcd A st t c 0 k) A1 ∧ A' = pm_u A1 121 t (A1 117 c)) ∧ r = ((131, SL, S, A', P), none)) rfl ⟨_, ⟨B, A1, hm, rfl⟩, rfl⟩
theorem d_write {t n b p st c rc : Nat} (m : kM S P) (ht : t < 6) (hd : A 122 t = nI (n + 1)) (hb : b < 9) (hp : p < 64) (hk : KS A b p = 1) (hnm : NS A b p = nI c) (hc : c < 8) (hst : A 111 17 = nI st) (h4 : st < 4000) (he : ∀ k, k ≤ st → edb A k) (hac : ∀ k, k < st → acv A k) (hrc : A 111 22 = nI rc) (hrc4 : rc ≤ 4000) :
    EE (d + 2) M_Mo_does [.ref 111, .int (nI t), .int (nI b), .int (nI p)] SL S A P (fun r => ∃ A', (∃ B A1, mtH A st rc (nI (16 * t + 2 * c + 1)) B (∃ k, k < st ∧ rcd A st t c 1 k) A1 ∧ A' = pm_u A1 117 c (A1 121 t)) ∧ r = ((131, SL, S, A', P), none)) := by
  refine q_does m ht hd hb hp ?_
  have m0 := m
  obtain ⟨⟨⟨s0, s1, s2, s3, s4, s5⟩, p0, p1, p2, p3, p5⟩, ⟨⟨c7, c8, c9, c0, e1, e2, e3, e4, e5⟩, r7, r8, r9, r10, r12, r13, r14, r15, r16⟩, ⟨⟨f1, f2, f3, f4, f5⟩, r18, r19, r20, r21, r23⟩⟩ := m
  rw [hk, hnm]
  iterate 5 refine pm_B.next rfl rfl ?_
  refine q_callv (a := [.int (nI t), .int (nI c), .int (nI 1)]) rfl s0 rfl (Nat.le_of_ble_eq_true rfl) (Nat.le_of_ble_eq_true rfl) (x_meets (w := 1) m0 hst h4 he ht hc (by decide) hac hrc hrc4) (fun h1 v hv => ?_)
  obtain ⟨B, A1, hm, he1⟩ := hv
  cases he1
  iterate 1 refine pm_B.next rfl rfl ?_
  refine q_getr rfl s0 (by decide) r7 ?_
  iterate 2 refine pm_B.next rfl rfl ?_
  refine q_getr rfl s0 (by decide) r12 ?_
  iterate 1 refine pm_B.next rfl rfl ?_
  refine q_iald rfl e1 t rfl ht (by decide) rfl ?_
  refine q_iast rfl c7 c rfl hc (by decide) ?_
  exact q_vret (Q := fun r => ∃ A', (∃ B A1, mtH A st rc (nI (16 * t + 2 * c + 1)) B (∃ k, k < st ∧ rcd A st t c 1 k) A1 ∧ A' = pm_u A1 117 c (A1 121 t)) ∧ r = ((131, SL, S, A', P), none)) rfl ⟨_, ⟨B, A1, hm, rfl⟩, rfl⟩
theorem d_add {t n b p : Nat} (m : kM S P) (ht : t < 6) (hd : A 122 t = nI (n + 1)) (hb : b < 9) (hp : p < 64) (hk : KS A b p = 2) : EE (d + 1) M_Mo_does [.ref 111, .int (nI t), .int (nI b), .int (nI p)] SL S A P (fun r => r = ((131, SL, S, pm_u A 121 t (A 121 t + NS A b p), P), none)) := by
  refine q_does m ht hd hb hp ?_
  obtain ⟨⟨⟨s0, s1, s2, s3, s4, s5⟩, p0, p1, p2, p3, p5⟩, ⟨⟨c7, c8, c9, c0, e1, e2, e3, e4, e5⟩, r7, r8, r9, r10, r12, r13, r14, r15, r16⟩, -⟩ := m
  rw [hk]
  iterate 2 refine pm_B.next rfl rfl ?_
  refine q_getr rfl s0 (by decide) r12 ?_
  iterate 2 refine pm_B.next rfl rfl ?_
  refine q_iald rfl e1 t rfl ht (by decide) rfl ?_
  iterate 2 refine pm_B.next rfl rfl ?_
  refine q_iast rfl e1 t rfl ht (by decide) ?_
  exact q_vret rfl rfl
theorem d_set {t n b p : Nat} (m : kM S P) (ht : t < 6) (hd : A 122 t = nI (n + 1)) (hb : b < 9) (hp : p < 64) (hk : KS A b p = 3) : EE (d + 1) M_Mo_does [.ref 111, .int (nI t), .int (nI b), .int (nI p)] SL S A P (fun r => r = ((131, SL, S, pm_u A 121 t (NS A b p), P), none)) := by
  refine q_does m ht hd hb hp ?_
  obtain ⟨⟨⟨s0, s1, s2, s3, s4, s5⟩, p0, p1, p2, p3, p5⟩, ⟨⟨c7, c8, c9, c0, e1, e2, e3, e4, e5⟩, r7, r8, r9, r10, r12, r13, r14, r15, r16⟩, -⟩ := m
  rw [hk]
  iterate 2 refine pm_B.next rfl rfl ?_
  refine q_getr rfl s0 (by decide) r12 ?_
  iterate 2 refine pm_B.next rfl rfl ?_
  refine q_iast rfl e1 t rfl ht (by decide) ?_
  exact q_vret rfl rfl
theorem d_sync {t n b p l st : Nat} {tm fr : Int32} (m : kM S P) (ht : t < 6) (hd : A 122 t = nI (n + 1)) (hb : b < 9) (hp : p < 64) (hk : KS A b p = 4) (hnm : NS A b p = nI l) (hl : l < 4) (htm : A 119 l = tm) (hfr : A 120 l = fr) (hst : A 111 17 = nI st) (h4 : st < 4000) :
    EE (d + 1) M_Mo_does [.ref 111, .int (nI t), .int (nI b), .int (nI p)] SL S A P (fun r => (tm = 0 ∧ r = ((131, SL, S, pm_u (pm_u (pm_u A 127 st fr) 118 l (nI t)) 119 l (tm + 1), P), none)) ∨ (tm ≠ 0 ∧ r = ((131, SL, S, pm_u (pm_u A 118 l (nI t)) 119 l (tm + 1), P), none))) := by
  refine q_does m ht hd hb hp ?_
  have m0 := m
  obtain ⟨⟨⟨s0, s1, s2, s3, s4, s5⟩, p0, p1, p2, p3, p5⟩, -, -⟩ := m
  rw [hk, hnm]
  iterate 4 refine pm_B.next rfl rfl ?_
  refine q_callv (a := [.int (nI t), .int (nI l)]) rfl s0 rfl (Nat.le_of_ble_eq_true rfl) (Nat.le_of_ble_eq_true rfl) (x_takes m0 hl htm hfr hst h4) (fun h1 v hv => ?_)
  rcases hv with ⟨hz, hv⟩ | ⟨hz, hv⟩
  · cases hv
    exact q_vret rfl (Or.inl ⟨hz, rfl⟩)
  · cases hv
    exact q_vret rfl (Or.inr ⟨hz, rfl⟩)
theorem d_end {t n b p o l st : Nat} {os : List Nat} {tm : Int32} (m : kM S P) (ht : t < 6) (hd : A 122 t = nI (n + 1)) (hn : n < 8) (hb : b < 9) (hp : p < 64) (hk : KS A b p = 5) (hnu : bk_nu (KS A b) p) (hop : bk_st (KS A b) p = o :: os) (hl : KS A b o = 4 → l < 4 ∧ NS A b o = nI l ∧ A 119 l = tm) (hst : A 111 17 = nI st) :
    EE (d + 3) M_Mo_does [.ref 111, .int (nI t), .int (nI b), .int (nI p)] SL S A P (fun r => ∃ A', enH A b o t n st tm l A' ∧ r = ((131, SL, S, A', P), none)) := by
  refine q_does m ht hd hb hp ?_
  have m0 := m
  obtain ⟨⟨⟨s0, s1, s2, s3, s4, s5⟩, p0, p1, p2, p3, p5⟩, -, -⟩ := m
  rw [hk]
  iterate 5 refine pm_B.next rfl rfl ?_
  refine q_callv (a := [.int (nI t), .int (nI b), .int (nI p)]) rfl s0 rfl (Nat.le_of_ble_eq_true rfl) (Nat.le_of_ble_eq_true rfl) (x_ends m0 ht hd hn hb hp hnu hop hl hst) (fun h1 v hv => ?_)
  obtain ⟨A', h1', h2'⟩ := hv
  cases h2'
  exact q_vret (Q := fun r => ∃ A', enH A b o t n st tm l A' ∧ r = ((131, SL, S, A', P), none)) rfl ⟨A', h1', rfl⟩
theorem d_if {t n b p sz : Nat} (m : kM S P) (ht : t < 6) (hd : A 122 t = nI (n + 1)) (hn : n < 8) (hb : b < 9) (hp : p < sz) (hs : A 114 b = nI sz) (h64 : sz ≤ 64) (hk : KS A b p = 6) :
    EE (d + 2) M_Mo_does [.ref 111, .int (nI t), .int (nI b), .int (nI p)] SL S A P (fun r => (A 121 t ≠ 0 ∧ r = ((131, SL, S, A, P), none)) ∨ (A 121 t = 0 ∧ ∃ j, bk_CL (KS A b) sz (p + 1) (clq 1) j ∧ r = ((131, SL, S, pm_u A 124 (8 * t + n) (nI (j + 1)), P), none))) := by
  refine q_does m ht hd hb (by omega) ?_
  have m0 := m
  obtain ⟨⟨⟨s0, s1, s2, s3, s4, s5⟩, p0, p1, p2, p3, p5⟩, ⟨⟨c7, c8, c9, c0, e1, e2, e3, e4, e5⟩, r7, r8, r9, r10, r12, r13, r14, r15, r16⟩, -⟩ := m
  rw [hk]
  iterate 2 refine pm_B.next rfl rfl ?_
  refine q_getr rfl s0 (by decide) r12 ?_
  iterate 1 refine pm_B.next rfl rfl ?_
  refine q_iald rfl e1 t rfl ht (by decide) rfl ?_
  by_cases hz : A 121 t = 0
  · refine r_ifF rfl (decide_eq_false (fun g => g hz)) ?_
    iterate 1 refine pm_B.next rfl rfl ?_
    refine q_getr rfl s0 (by decide) r15 ?_
    iterate 6 refine pm_B.next rfl rfl ?_
    refine q_top (nI_1 p) ?_
    iterate 1 refine pm_B.next rfl rfl ?_
    refine q_callv (a := [.int (nI b), .int (nI (p + 1)), .int 1]) rfl s0 rfl (Nat.le_of_ble_eq_true rfl) (Nat.le_of_ble_eq_true rfl) (x_closerOf m0 hb hs h64 (by omega)) (fun h1 v hv => ?_)
    obtain ⟨j, hj, hv⟩ := hv
    cases hv
    iterate 2 refine pm_B.next rfl rfl ?_
    refine q_top (nI_1 j) ?_
    refine q_iast rfl e4 (8 * t + n) rfl (by omega) (by decide) ?_
    exact q_vret rfl (Or.inr ⟨hz, j, hj, rfl⟩)
  · refine r_ifT rfl (decide_eq_true hz) ?_
    exact q_vret rfl (Or.inl ⟨hz, rfl⟩)
theorem d_else {t n b p sz : Nat} (m : kM S P) (ht : t < 6) (hd : A 122 t = nI (n + 1)) (hn : n < 8) (hb : b < 9) (hp : p < sz) (hs : A 114 b = nI sz) (h64 : sz ≤ 64) (hk : KS A b p = 7) :
    EE (d + 2) M_Mo_does [.ref 111, .int (nI t), .int (nI b), .int (nI p)] SL S A P (fun r => ∃ j, bk_CL (KS A b) sz (p + 1) (clq 0) j ∧ r = ((131, SL, S, pm_u A 124 (8 * t + n) (nI (j + 1)), P), none)) := by
  refine q_does m ht hd hb (by omega) ?_
  have m0 := m
  obtain ⟨⟨⟨s0, s1, s2, s3, s4, s5⟩, p0, p1, p2, p3, p5⟩, ⟨⟨c7, c8, c9, c0, e1, e2, e3, e4, e5⟩, r7, r8, r9, r10, r12, r13, r14, r15, r16⟩, -⟩ := m
  rw [hk]
  iterate 2 refine pm_B.next rfl rfl ?_
  refine q_getr rfl s0 (by decide) r15 ?_
  iterate 6 refine pm_B.next rfl rfl ?_
  refine q_top (nI_1 p) ?_
  iterate 1 refine pm_B.next rfl rfl ?_
  refine q_callv (a := [.int (nI b), .int (nI (p + 1)), .int 0]) rfl s0 rfl (Nat.le_of_ble_eq_true rfl) (Nat.le_of_ble_eq_true rfl) (x_closerOf m0 hb hs h64 (by omega)) (fun h1 v hv => ?_)
  obtain ⟨j, hj, hv⟩ := hv
  cases hv
  iterate 2 refine pm_B.next rfl rfl ?_
  refine q_top (nI_1 j) ?_
  refine q_iast rfl e4 (8 * t + n) rfl (by omega) (by decide) ?_
  exact q_vret (Q := fun r => ∃ j, bk_CL (KS A b) sz (p + 1) (clq 0) j ∧ r = ((131, SL, S, pm_u A 124 (8 * t + n) (nI (j + 1)), P), none)) rfl ⟨j, hj, rfl⟩
theorem d_while {t n b p sz : Nat} (m : kM S P) (ht : t < 6) (hd : A 122 t = nI (n + 1)) (hn : n < 8) (hb : b < 9) (hp : p < sz) (hs : A 114 b = nI sz) (h64 : sz ≤ 64) (hk : KS A b p = 8) :
    EE (d + 2) M_Mo_does [.ref 111, .int (nI t), .int (nI b), .int (nI p)] SL S A P (fun r => (A 121 t ≠ 0 ∧ r = ((131, SL, S, A, P), none)) ∨ (A 121 t = 0 ∧ ∃ j, bk_CL (KS A b) sz (p + 1) (clq 0) j ∧ r = ((131, SL, S, pm_u A 124 (8 * t + n) (nI (j + 1)), P), none))) := by
  refine q_does m ht hd hb (by omega) ?_
  have m0 := m
  obtain ⟨⟨⟨s0, s1, s2, s3, s4, s5⟩, p0, p1, p2, p3, p5⟩, ⟨⟨c7, c8, c9, c0, e1, e2, e3, e4, e5⟩, r7, r8, r9, r10, r12, r13, r14, r15, r16⟩, -⟩ := m
  rw [hk]
  iterate 2 refine pm_B.next rfl rfl ?_
  refine q_getr rfl s0 (by decide) r12 ?_
  iterate 1 refine pm_B.next rfl rfl ?_
  refine q_iald rfl e1 t rfl ht (by decide) rfl ?_
  by_cases hz : A 121 t = 0
  · refine r_ifF rfl (decide_eq_false (fun g => g hz)) ?_
    iterate 1 refine pm_B.next rfl rfl ?_
    refine q_getr rfl s0 (by decide) r15 ?_
    iterate 6 refine pm_B.next rfl rfl ?_
    refine q_top (nI_1 p) ?_
    iterate 1 refine pm_B.next rfl rfl ?_
    refine q_callv (a := [.int (nI b), .int (nI (p + 1)), .int 0]) rfl s0 rfl (Nat.le_of_ble_eq_true rfl) (Nat.le_of_ble_eq_true rfl) (x_closerOf m0 hb hs h64 (by omega)) (fun h1 v hv => ?_)
    obtain ⟨j, hj, hv⟩ := hv
    cases hv
    iterate 2 refine pm_B.next rfl rfl ?_
    refine q_top (nI_1 j) ?_
    refine q_iast rfl e4 (8 * t + n) rfl (by omega) (by decide) ?_
    exact q_vret rfl (Or.inr ⟨hz, j, hj, rfl⟩)
  · refine r_ifT rfl (decide_eq_true hz) ?_
    exact q_vret rfl (Or.inl ⟨hz, rfl⟩)
theorem d_fork {t n b p c nb T sz st : Nat} (m : kM S P) (ht : t < 6) (hd : A 122 t = nI (n + 1)) (hb : b < 9) (hp : p < 64) (hk : KS A b p = 9) (hnm : NS A b p = nI c) (hc : c < 8) (hnb : A 111 4 = nI nb) (hnb8 : nb ≤ 8) (hT : A 111 11 = nI T) (hT6 : T ≤ 6) (hsz : c < nb → A 114 c = nI sz ∧ sz < 1000) (hst : A 111 17 = nI st) :
    EE (d + 2) M_Mo_does [.ref 111, .int (nI t), .int (nI b), .int (nI p)] SL S A P (fun r => ((nb ≤ c ∨ T = 6) ∧ r = ((131, SL, S, A, P), none)) ∨ (c < nb ∧ T < 6 ∧ r = ((131, SL, S, bgH A T c sz (A 121 t) (nI st), P), none))) := by
  refine q_does m ht hd hb hp ?_
  have m0 := m
  obtain ⟨⟨⟨s0, s1, s2, s3, s4, s5⟩, p0, p1, p2, p3, p5⟩, ⟨⟨c7, c8, c9, c0, e1, e2, e3, e4, e5⟩, r7, r8, r9, r10, r12, r13, r14, r15, r16⟩, -⟩ := m
  rw [hk, hnm]
  iterate 3 refine pm_B.next rfl rfl ?_
  refine q_geti rfl s0 (by decide) hnb ?_
  by_cases hcn : nb ≤ c
  · refine r_icT rfl (decide_eq_true (nI_le hcn (by omega))) ?_
    exact q_vret rfl (Or.inl ⟨Or.inl hcn, rfl⟩)
  · refine r_icF rfl (decide_eq_false (nI_ge (by omega) (by omega))) ?_
    iterate 1 refine pm_B.next rfl rfl ?_
    refine q_geti rfl s0 (by decide) hT ?_
    iterate 1 refine pm_B.next rfl rfl ?_
    by_cases hT5 : T = 6
    · refine r_icT rfl (decide_eq_true (by rw [hT5]; decide)) ?_
      exact q_vret rfl (Or.inl ⟨Or.inr hT5, rfl⟩)
    · refine r_icF rfl (decide_eq_false (nI_ge (a := T) (b := 6) (by omega) (by omega))) ?_
      iterate 3 refine pm_B.next rfl rfl ?_
      refine q_getr rfl s0 (by decide) r12 ?_
      iterate 1 refine pm_B.next rfl rfl ?_
      refine q_iald rfl e1 t rfl ht (by decide) rfl ?_
      iterate 1 refine pm_B.next rfl rfl ?_
      refine q_geti rfl s0 (by decide) hst ?_
      obtain ⟨hs1, hs2⟩ := hsz (by omega)
      refine q_cv (a := [.int (nI c), .int (A 121 t), .int (nI st)]) rfl s0 rfl (Nat.le_of_ble_eq_true rfl) (Nat.le_of_ble_eq_true rfl) (x_Mo_begin m0 hT (by omega) (by omega) hs1 hs2) ?_
      exact q_vret rfl (Or.inr ⟨by omega, by omega, rfl⟩)
theorem d_call {t n b p c nb : Nat} (m : kM S P) (ht : t < 6) (hd : A 122 t = nI (n + 1)) (hn : n < 8) (hb : b < 9) (hp : p < 64) (hk : KS A b p = 10) (hnm : NS A b p = nI c) (hc : c < 8) (hnb : A 111 4 = nI nb) (hnb8 : nb ≤ 8) :
    EE (d + 1) M_Mo_does [.ref 111, .int (nI t), .int (nI b), .int (nI p)] SL S A P (fun r => ((nb ≤ c ∨ n = 7) ∧ r = ((131, SL, S, A, P), none)) ∨ (c < nb ∧ n < 7 ∧ r = ((131, SL, S, pm_u (pm_u (pm_u A 123 (8 * t + (n + 1)) (nI c)) 124 (8 * t + (n + 1)) 0) 122 t (nI (n + 2)), P), none))) := by
  refine q_does m ht hd hb hp ?_
  have m0 := m
  obtain ⟨⟨⟨s0, s1, s2, s3, s4, s5⟩, p0, p1, p2, p3, p5⟩, ⟨⟨c7, c8, c9, c0, e1, e2, e3, e4, e5⟩, r7, r8, r9, r10, r12, r13, r14, r15, r16⟩, -⟩ := m
  rw [hk, hnm]
  iterate 3 refine pm_B.next rfl rfl ?_
  refine q_geti rfl s0 (by decide) hnb ?_
  by_cases hcn : nb ≤ c
  · refine r_icT rfl (decide_eq_true (nI_le hcn (by omega))) ?_
    exact q_vret rfl (Or.inl ⟨Or.inl hcn, rfl⟩)
  · refine r_icF rfl (decide_eq_false (nI_ge (by omega) (by omega))) ?_
    iterate 1 refine pm_B.next rfl rfl ?_
    refine q_getr rfl s0 (by decide) r13 ?_
    iterate 1 refine pm_B.next rfl rfl ?_
    refine q_iald rfl e2 t rfl ht (by decide) hd ?_
    iterate 1 refine pm_B.next rfl rfl ?_
    by_cases h7 : n = 7
    · refine r_icT rfl (decide_eq_true (by rw [h7]; decide)) ?_
      exact q_vret rfl (Or.inl ⟨Or.inr h7, rfl⟩)
    · refine r_icF rfl (decide_eq_false (nI_ge (a := n + 1) (b := 8) (by omega) (by omega))) ?_
      iterate 3 refine pm_B.next rfl rfl ?_
      refine q_cv (a := [.int (nI t), .int (nI c)]) rfl s0 rfl (Nat.le_of_ble_eq_true rfl) (Nat.le_of_ble_eq_true rfl) (x_Mo_enter (n := n + 1) m0 ht hd (by omega)) ?_
      exact q_vret rfl (Or.inr ⟨by omega, by omega, rfl⟩)
end DOES
