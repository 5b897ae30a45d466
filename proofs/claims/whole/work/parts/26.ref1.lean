def KS (A : Nat → Nat → Int32) (b k : Nat) : Int32 := A 112 (64 * b + k)
def NS (A : Nat → Nat → Int32) (b k : Nat) : Int32 := A 113 (64 * b + k)
/-- what is fixed of the reference -/
def kM (S : Nat → Nat × Nat) (P : Nat → Nat → Option Nat) : Prop :=
  ((pm_is S 111 24 24 ∧ pm_is S 112 0 576 ∧ pm_is S 113 0 576 ∧ pm_is S 114 0 9 ∧ pm_is S 115 0 8 ∧ pm_is S 116 0 8) ∧ (P 111 0 = some 112 ∧ P 111 1 = some 113 ∧ P 111 2 = some 114 ∧ P 111 3 = some 115 ∧ P 111 5 = some 116)) ∧
  ((pm_is S 117 0 8 ∧ pm_is S 118 0 4 ∧ pm_is S 119 0 4 ∧ pm_is S 120 0 4 ∧ pm_is S 121 0 6 ∧ pm_is S 122 0 6 ∧ pm_is S 123 0 48 ∧ pm_is S 124 0 48 ∧ pm_is S 125 0 6) ∧ (P 111 7 = some 117 ∧ P 111 8 = some 118 ∧ P 111 9 = some 119 ∧ P 111 10 = some 120 ∧ P 111 12 = some 121 ∧ P 111 13 = some 122 ∧ P 111 14 = some 123 ∧ P 111 15 = some 124 ∧ P 111 16 = some 125)) ∧
  ((pm_is S 126 0 4000 ∧ pm_is S 127 0 4000 ∧ pm_is S 128 0 4000 ∧ pm_is S 129 1 4000 ∧ pm_is S 130 0 64) ∧ (P 111 18 = some 126 ∧ P 111 19 = some 127 ∧ P 111 20 = some 128 ∧ P 111 21 = some 129 ∧ P 111 23 = some 130))
theorem sb1 (x : Int32) : x - 1 = x + (-1) := by rw [Int32.sub_eq_add_neg]
theorem lin64 (b k : Nat) : 64 * nI b + nI k = nI (64 * b + k) := by rw [show (64 : Int32) = nI 64 from rfl, pk_mul, nI_add]
section REF1
variable {d : Nat} {SL : Nat} {S : Nat → Nat × Nat} {A : Nat → Nat → Int32} {P : Nat → Nat → Option Nat}
theorem x_kindAt {b k : Nat} (m : kM S P) (hb : b < 9) (hk : k < 64) : EE d M_Mo_kindAt [.ref 111, .int (nI b), .int (nI k)] SL S A P (fun r => r = ((131, SL, S, A, P), some (.int (KS A b k)))) := by
  obtain ⟨⟨⟨s0, s1, s2, s3, s4, s5⟩, p0, p1, p2, p3, p5⟩, -⟩ := m
  refine q_of (tb := fun j => tb_Mo_kindAt[j]?) rfl rfl (Nat.le_of_ble_eq_true rfl) ?_
  show BB _ _ 0 [.ref 111, .int (nI b), .int (nI k)] [] _ _ _ _ _
  repeat (first | refine pm_B.next rfl rfl ?_ | refine q_getr rfl (by assumption) (by decide) (by assumption) ?_ | refine q_geti rfl (by assumption) (by decide) (by assumption) ?_ | refine q_iald rfl (by assumption) _ rfl (by first | assumption | omega) (by decide) rfl ?_)
  refine q_iald rfl s1 (64 * b + k) (lin64 b k) (by omega) (by decide) rfl ?_
  exact q_iret rfl rfl
theorem x_numberAt {b k : Nat} (m : kM S P) (hb : b < 9) (hk : k < 64) : EE d M_Mo_numberAt [.ref 111, .int (nI b), .int (nI k)] SL S A P (fun r => r = ((131, SL, S, A, P), some (.int (NS A b k)))) := by
  obtain ⟨⟨⟨s0, s1, s2, s3, s4, s5⟩, p0, p1, p2, p3, p5⟩, -⟩ := m
  refine q_of (tb := fun j => tb_Mo_numberAt[j]?) rfl rfl (Nat.le_of_ble_eq_true rfl) ?_
  show BB _ _ 0 [.ref 111, .int (nI b), .int (nI k)] [] _ _ _ _ _
  repeat (first | refine pm_B.next rfl rfl ?_ | refine q_getr rfl (by assumption) (by decide) (by assumption) ?_ | refine q_geti rfl (by assumption) (by decide) (by assumption) ?_ | refine q_iald rfl (by assumption) _ rfl (by first | assumption | omega) (by decide) rfl ?_)
  refine q_iald rfl s2 (64 * b + k) (lin64 b k) (by omega) (by decide) rfl ?_
  exact q_iret rfl rfl
def opz (kd : Int32) : Int32 := if bk_op kd then 1 else 0
theorem opz_z (kd : Int32) : opz kd = 0 ∨ opz kd = 1 := by
  unfold opz
  split
  · exact Or.inr rfl
  · exact Or.inl rfl
theorem x_opens {kd : Int32} : EE d M_Mo_opens [.int kd] SL S A P (fun r => r = ((131, SL, S, A, P), some (.int (opz kd)))) := by
  refine q_of (tb := fun j => tb_Mo_opens[j]?) rfl rfl (Nat.le_of_ble_eq_true rfl) ?_
  show BB _ _ 0 [.int kd] [] _ _ _ _ _
  by_cases h4 : kd = 4
  · subst h4
    repeat refine pm_B.next rfl rfl ?_
    exact q_zret rfl (Or.inr rfl) rfl
  by_cases h6 : kd = 6
  · subst h6
    repeat refine pm_B.next rfl rfl ?_
    exact q_zret rfl (Or.inr rfl) rfl
  by_cases h8 : kd = 8
  · subst h8
    repeat refine pm_B.next rfl rfl ?_
    exact q_zret rfl (Or.inr rfl) rfl
  repeat refine pm_B.next rfl rfl ?_
  refine r_icF rfl (decide_eq_false h4) ?_
  repeat refine pm_B.next rfl rfl ?_
  refine r_icF rfl (decide_eq_false h6) ?_
  repeat refine pm_B.next rfl rfl ?_
  refine r_icT rfl (decide_eq_true h8) ?_
  repeat refine pm_B.next rfl rfl ?_
  exact q_zret rfl (Or.inl rfl) (by simp [opz, bk_op, h4, h6, h8])
theorem x_openerOf {b k : Nat} (m : kM S P) (hb : b < 9) (hk : k ≤ 64) (hnu : bk_nu (KS A b) k) : EE (d + 1) M_Mo_openerOf [.ref 111, .int (nI b), .int (nI k)] SL S A P (fun r => r = ((131, SL, S, A, P), some (.int (hdI (bk_st (KS A b) k))))) := by
  have m0 := m
  obtain ⟨⟨⟨s0, s1, s2, s3, s4, s5⟩, p0, p1, p2, p3, p5⟩, -⟩ := m
  refine q_of (tb := fun j => tb_Mo_openerOf[j]?) rfl rfl (Nat.le_of_ble_eq_true rfl) ?_
  show BB _ _ 0 [.ref 111, .int (nI b), .int (nI k), .null, .null] [] _ _ _ _ _
  iterate 2 refine pm_B.next rfl rfl ?_
  iterate 4 refine pm_B.next rfl rfl ?_
  suffices h : ∀ i dp, i + dp ≤ k → (bk_st (KS A b) i).drop dp = bk_st (KS A b) k → BB (d + 1) (fun j => tb_Mo_openerOf[j]?) 6 [.ref 111, .int (nI b), .int (nI k), .int (nI dp), .int (nI i - 1)] [] SL S A P (fun r => (131 ≤ r.1.1 ∧ SL ≤ r.1.2.1) ∧ r = ((131, SL, S, A, P), some (.int (hdI (bk_st (KS A b) k))))) from h k 0 (by omega) rfl
  intro i
  induction i with
  | zero =>
    intro dp hd h
    iterate 1 refine pm_B.next rfl rfl ?_
    refine r_ifT rfl rfl ?_
    iterate 1 refine pm_B.next rfl rfl ?_
    refine q_iret rfl ?_
    rw [← h]
    simp [bk_st, hdI]
  | succ i ih =>
    intro dp hd h
    have hbk := bk_back (k := k) (i := i) (m := dp) (fun a ha => hnu a (by omega)) h
    have hi64 : i < 64 := by omega
    refine q_lc (lc' := [.ref 111, .int (nI b), .int (nI k), .int (nI dp), .int (nI i)]) (by rw [nI_pred]) ?_
    iterate 1 refine pm_B.next rfl rfl ?_
    refine r_ifF rfl (decide_eq_false (nI_pos (by omega))) ?_
    repeat refine pm_B.next rfl rfl ?_
    refine q_cv rfl s0 rfl (Nat.le_of_ble_eq_true rfl) (Nat.le_of_ble_eq_true rfl) (x_kindAt m0 hb hi64) ?_
    iterate 1 refine pm_B.next rfl rfl ?_
    have back : ∀ dp', i + dp' ≤ k → (bk_st (KS A b) i).drop dp' = bk_st (KS A b) k → BB (d + 1) (fun j => tb_Mo_openerOf[j]?) 33 [.ref 111, .int (nI b), .int (nI k), .int (nI dp'), .int (nI i)] [] SL S A P (fun r => (131 ≤ r.1.1 ∧ SL ≤ r.1.2.1) ∧ r = ((131, SL, S, A, P), some (.int (hdI (bk_st (KS A b) k))))) := by
      intro dp' h1 h2
      iterate 2 refine pm_B.next rfl rfl ?_
      refine q_lc (lc' := [.ref 111, .int (nI b), .int (nI k), .int (nI dp'), .int (nI i - 1)]) (by rw [sb1]; rfl) ?_
      exact ih dp' h1 h2
    by_cases h5 : KS A b i = 5
    · refine r_icF rfl (decide_eq_false (fun g => g h5)) ?_
      iterate 2 refine pm_B.next rfl rfl ?_
      refine q_lc (lc' := [.ref 111, .int (nI b), .int (nI k), .int (nI (dp + 1)), .int (nI i)]) (by rw [nI_succ]; rfl) ?_
      exact back (dp + 1) (by omega) (hbk.1 h5)
    · refine r_icT rfl (decide_eq_true h5) ?_
      repeat refine pm_B.next rfl rfl ?_
      refine q_cv rfl s0 rfl (Nat.le_of_ble_eq_true rfl) (Nat.le_of_ble_eq_true rfl) (x_kindAt m0 hb hi64) ?_
      refine q_cs rfl rfl (Nat.le_of_ble_eq_true rfl) (Nat.le_of_ble_eq_true rfl) x_opens ?_
      cases hop : bk_op (KS A b i) with
      | true =>
        have e1 : opz (KS A b i) = 1 := by simp [opz, hop]
        refine q_top e1 ?_
        iterate 2 refine pm_B.next rfl rfl ?_
        by_cases hz : dp = 0
        · subst hz
          repeat refine pm_B.next rfl rfl ?_
          refine q_iret rfl ?_
          rw [hbk.2.1 hop rfl]
          rfl
        · obtain ⟨m', rfl⟩ : ∃ m', dp = m' + 1 := ⟨dp - 1, by omega⟩
          refine r_ifT rfl (decide_eq_true (nI_ne0 (by omega) (by omega))) ?_
          repeat refine pm_B.next rfl rfl ?_
          refine q_cv rfl s0 rfl (Nat.le_of_ble_eq_true rfl) (Nat.le_of_ble_eq_true rfl) (x_kindAt m0 hb hi64) ?_
          refine q_cs rfl rfl (Nat.le_of_ble_eq_true rfl) (Nat.le_of_ble_eq_true rfl) x_opens ?_
          refine q_top e1 ?_
          iterate 2 refine pm_B.next rfl rfl ?_
          refine q_lc (lc' := [.ref 111, .int (nI b), .int (nI k), .int (nI m'), .int (nI i)]) (by rw [← pk_m1 m']; rfl) ?_
          exact back m' (by omega) (hbk.2.2.1 hop m' rfl)
      | false =>
        have e1 : opz (KS A b i) = 0 := by simp [opz, hop]
        refine q_top e1 ?_
        repeat refine pm_B.next rfl rfl ?_
        refine q_cv rfl s0 rfl (Nat.le_of_ble_eq_true rfl) (Nat.le_of_ble_eq_true rfl) (x_kindAt m0 hb hi64) ?_
        refine q_cs rfl rfl (Nat.le_of_ble_eq_true rfl) (Nat.le_of_ble_eq_true rfl) x_opens ?_
        refine q_top e1 ?_
        iterate 1 refine pm_B.next rfl rfl ?_
        exact back dp (by omega) (hbk.2.2.2 hop h5)
def clq (e kd : Int32) : Prop := kd = 5 ∨ (e ≠ 0 ∧ kd = 7)
theorem x_closerOf {b k sz : Nat} {e : Int32} (m : kM S P) (hb : b < 9) (hs : A 114 b = nI sz) (h64 : sz ≤ 64) (hk : k ≤ sz) : EE (d + 1) M_Mo_closerOf [.ref 111, .int (nI b), .int (nI k), .int e] SL S A P (fun r => ∃ j, bk_CL (KS A b) sz k (clq e) j ∧ r = ((131, SL, S, A, P), some (.int (nI j)))) := by
  have m0 := m
  obtain ⟨⟨⟨s0, s1, s2, s3, s4, s5⟩, p0, p1, p2, p3, p5⟩, -⟩ := m
  refine q_of (tb := fun j => tb_Mo_closerOf[j]?) rfl rfl (Nat.le_of_ble_eq_true rfl) ?_
  show BB _ _ 0 [.ref 111, .int (nI b), .int (nI k), .int e, .null, .null, .null] [] _ _ _ _ _
  iterate 4 refine pm_B.next rfl rfl ?_
  suffices h : ∀ c i l x6, i + c = sz → k ≤ i → bk_st (KS A b) i = l ++ bk_st (KS A b) k → (∀ j, k ≤ j → j < i → ¬ (bk_st (KS A b) j = bk_st (KS A b) k ∧ clq e (KS A b j))) → BB (d + 1) (fun j => tb_Mo_closerOf[j]?) 4 [.ref 111, .int (nI b), .int (nI k), .int e, .int (nI l.length), .int (nI i), x6] [] SL S A P (fun r => (131 ≤ r.1.1 ∧ SL ≤ r.1.2.1) ∧ ∃ j, bk_CL (KS A b) sz k (clq e) j ∧ r = ((131, SL, S, A, P), some (.int (nI j)))) from h (sz - k) k [] .null (by omega) (Nat.le_refl _) rfl (fun j h1 h2 => by omega)
  intro c
  induction c with
  | zero =>
    intro i l x6 hi hki hl hno
    have : i = sz := by omega
    subst this
    repeat (first | refine pm_B.next rfl rfl ?_ | refine q_getr rfl (by assumption) (by decide) (by assumption) ?_ | refine q_geti rfl (by assumption) (by decide) (by assumption) ?_ | refine q_iald rfl (by assumption) _ rfl (by first | assumption | omega) (by decide) rfl ?_)
    refine q_top hs ?_
    refine r_icT rfl (decide_eq_true (nI_le (Nat.le_refl _) (by omega))) ?_
    repeat (first | refine pm_B.next rfl rfl ?_ | refine q_getr rfl (by assumption) (by decide) (by assumption) ?_ | refine q_geti rfl (by assumption) (by decide) (by assumption) ?_ | refine q_iald rfl (by assumption) _ rfl (by first | assumption | omega) (by decide) rfl ?_)
    refine q_iret (Q := fun r => ∃ j, bk_CL (KS A b) i k (clq e) j ∧ r = ((131, SL, S, A, P), some (.int (nI j)))) rfl ⟨i, ⟨hki, Or.inr rfl, hno⟩, by rw [hs]⟩
  | succ c ih =>
    intro i l x6 hi hki hl hno
    have hi64 : i < 64 := by omega
    have hll : l.length ≤ 64 := by
      have h1 := bk_len (ks := KS A b) i
      rw [hl, List.length_append] at h1
      omega
    have hf := bk_fwd hl
    repeat (first | refine pm_B.next rfl rfl ?_ | refine q_getr rfl (by assumption) (by decide) (by assumption) ?_ | refine q_geti rfl (by assumption) (by decide) (by assumption) ?_ | refine q_iald rfl (by assumption) _ rfl (by first | assumption | omega) (by decide) rfl ?_)
    refine q_top hs ?_
    refine r_icF rfl (decide_eq_false (nI_ge (by omega) (by omega))) ?_
    repeat refine pm_B.next rfl rfl ?_
    refine q_cv rfl s0 rfl (Nat.le_of_ble_eq_true rfl) (Nat.le_of_ble_eq_true rfl) (x_kindAt m0 hb hi64) ?_
    iterate 1 refine pm_B.next rfl rfl ?_
    show BB _ _ 15 [.ref 111, .int (nI b), .int (nI k), .int e, .int (nI l.length), .int (nI i), .int (KS A b i)] [] _ _ _ _ _
    -- behind the tests for a hit
    have past : ¬ (l = [] ∧ clq e (KS A b i)) → BB (d + 1) (fun j => tb_Mo_closerOf[j]?) 27 [.ref 111, .int (nI b), .int (nI k), .int e, .int (nI l.length), .int (nI i), .int (KS A b i)] [] SL S A P (fun r => (131 ≤ r.1.1 ∧ SL ≤ r.1.2.1) ∧ ∃ j, bk_CL (KS A b) sz k (clq e) j ∧ r = ((131, SL, S, A, P), some (.int (nI j)))) := by
      intro hnh
      have hno' : ∀ j, k ≤ j → j < i + 1 → ¬ (bk_st (KS A b) j = bk_st (KS A b) k ∧ clq e (KS A b j)) := by
        intro j h1 h2 h3
        by_cases hji : j = i
        · subst hji
          refine hnh ⟨?_, h3.2⟩
          have h4 := h3.1
          rw [hl] at h4
          exact List.append_left_eq_self.mp h4
        · exact hno j h1 (by omega) h3
      by_cases h5 : KS A b i = 5
      · have hne : l ≠ [] := fun g => hnh ⟨g, Or.inl h5⟩
        obtain ⟨y, l', rfl⟩ : ∃ y l', l = y :: l' := by
          cases l with
          | nil => exact absurd rfl hne
          | cons y l' => exact ⟨y, l', rfl⟩
        iterate 2 refine pm_B.next rfl rfl ?_
        refine r_icF rfl (decide_eq_false (fun g => g h5)) ?_
        iterate 2 refine pm_B.next rfl rfl ?_
        refine q_cs rfl rfl (Nat.le_of_ble_eq_true rfl) (Nat.le_of_ble_eq_true rfl) x_opens ?_
        refine q_top (w := 0) (by rw [h5]; rfl) ?_
        iterate 3 refine pm_B.next rfl rfl ?_
        refine q_lc (lc' := [.ref 111, .int (nI b), .int (nI k), .int e, .int (nI l'.length), .int (nI (i + 1)), .int (KS A b i)]) (by rw [nI_succ, ← pk_m1 l'.length]; rfl) ?_
        exact ih (i + 1) l' _ (by omega) (by omega) (hf.1 h5 y l' rfl) hno'
      · iterate 2 refine pm_B.next rfl rfl ?_
        refine r_icT rfl (decide_eq_true h5) ?_
        iterate 1 refine pm_B.next rfl rfl ?_
        refine q_cs rfl rfl (Nat.le_of_ble_eq_true rfl) (Nat.le_of_ble_eq_true rfl) x_opens ?_
        cases hop : bk_op (KS A b i) with
        | true =>
          refine q_top (w := 1) (by simp [opz, hop]) ?_
          iterate 4 refine pm_B.next rfl rfl ?_
          refine q_lc (lc' := [.ref 111, .int (nI b), .int (nI k), .int e, .int (nI (i :: l).length), .int (nI (i + 1)), .int (KS A b i)]) (by rw [List.length_cons, nI_succ, nI_succ]; rfl) ?_
          exact ih (i + 1) (i :: l) _ (by omega) (by omega) (hf.2.1 hop) hno'
        | false =>
          refine q_top (w := 0) (by simp [opz, hop]) ?_
          iterate 3 refine pm_B.next rfl rfl ?_
          refine q_lc (lc' := [.ref 111, .int (nI b), .int (nI k), .int e, .int (nI l.length), .int (nI (i + 1)), .int (KS A b i)]) (by rw [nI_succ]; rfl) ?_
          exact ih (i + 1) l _ (by omega) (by omega) (hf.2.2 hop h5) hno'
    have hit : l = [] → clq e (KS A b i) → BB (d + 1) (fun j => tb_Mo_closerOf[j]?) 25 [.ref 111, .int (nI b), .int (nI k), .int e, .int (nI l.length), .int (nI i), .int (KS A b i)] [] SL S A P (fun r => (131 ≤ r.1.1 ∧ SL ≤ r.1.2.1) ∧ ∃ j, bk_CL (KS A b) sz k (clq e) j ∧ r = ((131, SL, S, A, P), some (.int (nI j)))) := by
      intro h1 h2
      iterate 1 refine pm_B.next rfl rfl ?_
      refine q_iret (Q := fun r => ∃ j, bk_CL (KS A b) sz k (clq e) j ∧ r = ((131, SL, S, A, P), some (.int (nI j)))) rfl ⟨i, ⟨hki, Or.inl ⟨by omega, by rw [hl, h1]; rfl, h2⟩, hno⟩, rfl⟩
    by_cases hl0 : l = []
    · subst hl0
      repeat refine pm_B.next rfl rfl ?_
      by_cases h5 : KS A b i = 5
      · refine r_icT rfl (decide_eq_true h5) ?_
        exact hit rfl (Or.inl h5)
      · refine r_icF rfl (decide_eq_false h5) ?_
        repeat refine pm_B.next rfl rfl ?_
        by_cases h7 : KS A b i = 7
        · refine r_icF rfl (decide_eq_false (fun g => g h7)) ?_
          repeat refine pm_B.next rfl rfl ?_
          by_cases he : e = 0
          · refine r_ifT rfl (decide_eq_true he) ?_
            exact past (fun g => g.2.elim h5 (fun z => z.1 he))
          · refine r_ifF rfl (decide_eq_false he) ?_
            exact hit rfl (Or.inr ⟨he, h7⟩)
        · refine r_icT rfl (decide_eq_true h7) ?_
          exact past (fun g => g.2.elim h5 (fun z => h7 z.2))
    · iterate 1 refine pm_B.next rfl rfl ?_
      refine r_ifT rfl (decide_eq_true (nI_ne0 (List.length_pos_iff.mpr hl0) (by omega))) ?_
      exact past (fun g => hl0 g.1)
end REF1
