/-- what the reference keeps of an access: -1, or thread, cell, write -/
def acv (A : Nat → Nat → Int32) (k : Nat) : Prop := A 128 k = -1 ∨ ∃ τ c w, τ < 6 ∧ c < 8 ∧ w < 2 ∧ A 128 k = nI (16 * τ + 2 * c + w)
/-- step k races with step st of thread t, on cell c -/
def rcd (A : Nat → Nat → Int32) (st t c w k : Nat) : Prop := ∃ τ w', τ < 6 ∧ w' < 2 ∧ A 128 k = nI (16 * τ + 2 * c + w') ∧ ¬ bfr A st k ∧ τ ≠ t ∧ (w = 1 ∨ w' = 1)
theorem bfr_128 {A : Nat → Nat → Int32} {i : Nat} {v : Int32} : bfr (pm_u A 128 i v) = bfr A := by
  have : ed (pm_u A 128 i v) = ed A := by
    funext x y
    simp [ed, pm_u]
  unfold bfr
  rw [this]
section MEETS
variable {d : Nat} {SL : Nat} {S : Nat → Nat × Nat} {A : Nat → Nat → Int32} {P : Nat → Nat → Option Nat}
/-- the heap behind meets -/
def mtH (A : Nat → Nat → Int32) (st rc : Nat) (a : Int32) (B : Nat → Int32) (raced : Prop) (A' : Nat → Nat → Int32) : Prop :=
  (¬ raced ∧ A' = w129 (pm_u A 128 st a) B) ∨ (raced ∧ rc < 64 ∧ A' = pm_u (pm_u (w129 (pm_u A 128 st a) B) 130 rc (nI st)) 111 22 (nI (rc + 1))) ∨ (raced ∧ 64 ≤ rc ∧ A' = pm_u (w129 (pm_u A 128 st a) B) 111 22 (nI (rc + 1)))
theorem x_meets {st t c w rc : Nat} (m : kM S P) (hst : A 111 17 = nI st) (h4 : st < 4000) (hb : ∀ k, k ≤ st → edb A k) (ht : t < 6) (hc : c < 8) (hw : w < 2) (hac : ∀ k, k < st → acv A k) (hrc : A 111 22 = nI rc) (hrc4 : rc ≤ 4000) :
    EE (d + 1) M_Mo_meets [.ref 111, .int (nI t), .int (nI c), .int (nI w)] SL S A P (fun r => ∃ (B : Nat → Int32) (A' : Nat → Nat → Int32), mtH A st rc (nI (16 * t + 2 * c + w)) B (∃ k, k < st ∧ rcd A st t c w k) A' ∧ r = ((131, SL, S, A', P), none)) := by
  have m0 := m
  obtain ⟨⟨⟨s0, s1, s2, s3, s4, s5⟩, p0, p1, p2, p3, p5⟩, -, ⟨⟨f1, f2, f3, f4, f5⟩, r18, r19, r20, r21, r23⟩⟩ := m
  refine q_of (tb := fun j => tb_Mo_meets[j]?) rfl rfl (Nat.le_of_ble_eq_true rfl) ?_
  show BB _ _ 0 [.ref 111, .int (nI t), .int (nI c), .int (nI w), .null, .null, .null] [] _ _ _ _ _
  iterate 1 refine pm_B.next rfl rfl ?_
  refine q_getr rfl s0 (by decide) r20 ?_
  iterate 1 refine pm_B.next rfl rfl ?_
  refine q_geti rfl s0 (by decide) hst ?_
  iterate 4 refine pm_B.next rfl rfl ?_
  iterate 4 refine pm_B.next rfl rfl ?_
  iterate 1 refine pm_B.next rfl rfl ?_
  have e0 : (16 : Int32) * nI t + 2 * nI c + nI w = nI (16 * t + 2 * c + w) := by rw [show (16 : Int32) = nI 16 from rfl, show (2 : Int32) = nI 2 from rfl, pk_mul, pk_mul, nI_add, nI_add]
  refine q_top e0 ?_
  refine q_iast rfl f3 st rfl (by omega) (by decide) ?_
  iterate 1 refine pm_B.next rfl rfl ?_
  generalize hv : nI (16 * t + 2 * c + w) = av
  have hb' : ∀ k, k ≤ st → edb (pm_u A 128 st av) k := fun k hk => by
    have := hb k hk
    simpa [edb, pm_u] using this
  refine q_callv (a := []) rfl s0 rfl (Nat.le_of_ble_eq_true rfl) (Nat.le_of_ble_eq_true rfl) (x_mark m0 (by rw [u_nc (by decide)]; exact hst) h4 hb') (fun h1 v hr => ?_)
  obtain ⟨B, hB, hr⟩ := hr
  cases hr
  rw [bfr_128] at hB
  -- the end, when all have been looked at
  have fin : ∀ (g : Int32) (x5 x6 : Value), ((g = 1 ∧ ∃ k, k < st ∧ rcd A st t c w k) ∨ (g = 0 ∧ ¬ ∃ k, k < st ∧ rcd A st t c w k)) → BB (d + 1) (fun j => tb_Mo_meets[j]?) 64 [.ref 111, .int (nI t), .int (nI c), .int (nI w), .int g, x5, x6] [] SL S (w129 (pm_u A 128 st av) B) P (fun r => (131 ≤ r.1.1 ∧ SL ≤ r.1.2.1) ∧ ∃ (B : Nat → Int32) (A' : Nat → Nat → Int32), mtH A st rc av B (∃ k, k < st ∧ rcd A st t c w k) A' ∧ r = ((131, SL, S, A', P), none)) := by
    intro g x5 x6 hg
    have e22 : w129 (pm_u A 128 st av) B 111 22 = nI rc := by rw [w129_o (by decide), u_nc (by decide)]; exact hrc
    have e17 : w129 (pm_u A 128 st av) B 111 17 = nI st := by rw [w129_o (by decide), u_nc (by decide)]; exact hst
    rcases hg with ⟨rfl, hg⟩ | ⟨rfl, hg⟩
    · iterate 3 refine pm_B.next rfl rfl ?_
      refine q_geti rfl s0 (by decide) e22 ?_
      iterate 1 refine pm_B.next rfl rfl ?_
      by_cases h64 : rc < 64
      · refine r_icF rfl (decide_eq_false (nI_ge (a := rc) (b := 64) h64 (by decide))) ?_
        iterate 1 refine pm_B.next rfl rfl ?_
        refine q_getr rfl s0 (by decide) r23 ?_
        iterate 1 refine pm_B.next rfl rfl ?_
        refine q_geti rfl s0 (by decide) e22 ?_
        iterate 1 refine pm_B.next rfl rfl ?_
        refine q_geti rfl s0 (by decide) e17 ?_
        refine q_iast rfl f5 rc rfl h64 (by decide) ?_
        iterate 2 refine pm_B.next rfl rfl ?_
        refine q_geti rfl s0 (by decide) (v := nI rc) (by rw [u_nc (by decide)]; exact e22) ?_
        iterate 2 refine pm_B.next rfl rfl ?_
        refine q_top (nI_1 rc) ?_
        refine q_puti rfl s0 (by decide) ?_
        exact q_vret (Q := fun r => ∃ (B : Nat → Int32) (A' : Nat → Nat → Int32), mtH A st rc av B (∃ k, k < st ∧ rcd A st t c w k) A' ∧ r = ((131, SL, S, A', P), none)) rfl ⟨B, _, Or.inr (Or.inl ⟨hg, h64, rfl⟩), rfl⟩
      · refine r_icT rfl (decide_eq_true (nI_le (a := 64) (b := rc) (by omega) (by omega))) ?_
        iterate 2 refine pm_B.next rfl rfl ?_
        refine q_geti rfl s0 (by decide) e22 ?_
        iterate 2 refine pm_B.next rfl rfl ?_
        refine q_top (nI_1 rc) ?_
        refine q_puti rfl s0 (by decide) ?_
        exact q_vret (Q := fun r => ∃ (B : Nat → Int32) (A' : Nat → Nat → Int32), mtH A st rc av B (∃ k, k < st ∧ rcd A st t c w k) A' ∧ r = ((131, SL, S, A', P), none)) rfl ⟨B, _, Or.inr (Or.inr ⟨hg, by omega, rfl⟩), rfl⟩
    · iterate 2 refine pm_B.next rfl rfl ?_
      exact q_vret (Q := fun r => ∃ (B : Nat → Int32) (A' : Nat → Nat → Int32), mtH A st rc av B (∃ k, k < st ∧ rcd A st t c w k) A' ∧ r = ((131, SL, S, A', P), none)) rfl ⟨B, _, Or.inl ⟨hg, rfl⟩, rfl⟩
  iterate 4 refine pm_B.next rfl rfl ?_
  suffices h : ∀ n k g x6, k + n = st → ((g = 1 ∧ ∃ k', k' < k ∧ rcd A st t c w k') ∨ (g = 0 ∧ ¬ ∃ k', k' < k ∧ rcd A st t c w k')) → BB (d + 1) (fun j => tb_Mo_meets[j]?) 20 [.ref 111, .int (nI t), .int (nI c), .int (nI w), .int g, .int (nI k), x6] [] SL S (w129 (pm_u A 128 st av) B) P (fun r => (131 ≤ r.1.1 ∧ SL ≤ r.1.2.1) ∧ ∃ (B : Nat → Int32) (A' : Nat → Nat → Int32), mtH A st rc av B (∃ k, k < st ∧ rcd A st t c w k) A' ∧ r = ((131, SL, S, A', P), none)) from h st 0 0 .null (by omega) (Or.inr ⟨rfl, fun ⟨k', hk', _⟩ => by omega⟩)
  intro n
  induction n with
  | zero =>
    intro k g x6 hk hg
    have : k = st := by omega
    subst this
    iterate 2 refine pm_B.next rfl rfl ?_
    refine q_geti rfl s0 (by decide) (v := nI k) (by rw [w129_o (by decide), u_nc (by decide)]; exact hst) ?_
    refine r_icT rfl (decide_eq_true (nI_le (Nat.le_refl _) (by omega))) ?_
    exact fin g _ x6 hg
  | succ n ih =>
    intro k g x6 hk hg
    have hkst : k < st := by omega
    iterate 2 refine pm_B.next rfl rfl ?_
    refine q_geti rfl s0 (by decide) (v := nI st) (by rw [w129_o (by decide), u_nc (by decide)]; exact hst) ?_
    refine r_icF rfl (decide_eq_false (nI_ge hkst (by omega))) ?_
    iterate 1 refine pm_B.next rfl rfl ?_
    refine q_getr rfl s0 (by decide) r20 ?_
    iterate 1 refine pm_B.next rfl rfl ?_
    refine q_iald rfl f3 k rfl (by omega) (by decide) (v := A 128 k) (by rw [w129_o (by decide), u_ni (by omega)]) ?_
    iterate 1 refine pm_B.next rfl rfl ?_
    have nx : ∀ g', ((g' = 1 ∧ ∃ k', k' < k + 1 ∧ rcd A st t c w k') ∨ (g' = 0 ∧ ¬ ∃ k', k' < k + 1 ∧ rcd A st t c w k')) → BB (d + 1) (fun j => tb_Mo_meets[j]?) 61 [.ref 111, .int (nI t), .int (nI c), .int (nI w), .int g, .int (nI k), .int (A 128 k)] [.int g'] SL S (w129 (pm_u A 128 st av) B) P (fun r => (131 ≤ r.1.1 ∧ SL ≤ r.1.2.1) ∧ ∃ (B : Nat → Int32) (A' : Nat → Nat → Int32), mtH A st rc av B (∃ k, k < st ∧ rcd A st t c w k) A' ∧ r = ((131, SL, S, A', P), none)) := by
      intro g' hg'
      iterate 3 refine pm_B.next rfl rfl ?_
      refine q_lc (lc' := [.ref 111, .int (nI t), .int (nI c), .int (nI w), .int g', .int (nI (k + 1)), .int (A 128 k)]) (by rw [nI_succ k]; rfl) ?_
      exact ih (k + 1) g' _ (by omega) hg'
    rcases hg with ⟨rfl, k', hk', hr'⟩ | ⟨rfl, hg⟩
    · iterate 4 refine pm_B.next rfl rfl ?_
      exact nx 1 (Or.inl ⟨rfl, k', by omega, hr'⟩)
    · have no : ¬ rcd A st t c w k → BB (d + 1) (fun j => tb_Mo_meets[j]?) 60 [.ref 111, .int (nI t), .int (nI c), .int (nI w), .int 0, .int (nI k), .int (A 128 k)] [] SL S (w129 (pm_u A 128 st av) B) P (fun r => (131 ≤ r.1.1 ∧ SL ≤ r.1.2.1) ∧ ∃ (B : Nat → Int32) (A' : Nat → Nat → Int32), mtH A st rc av B (∃ k, k < st ∧ rcd A st t c w k) A' ∧ r = ((131, SL, S, A', P), none)) := by
        intro hn
        iterate 1 refine pm_B.next rfl rfl ?_
        refine nx 0 (Or.inr ⟨rfl, ?_⟩)
        rintro ⟨k', hk', hr'⟩
        by_cases hkk : k' = k
        · rw [hkk] at hr'
          exact hn hr'
        · exact hg ⟨k', by omega, hr'⟩
      have yes : rcd A st t c w k → BB (d + 1) (fun j => tb_Mo_meets[j]?) 58 [.ref 111, .int (nI t), .int (nI c), .int (nI w), .int 0, .int (nI k), .int (A 128 k)] [] SL S (w129 (pm_u A 128 st av) B) P (fun r => (131 ≤ r.1.1 ∧ SL ≤ r.1.2.1) ∧ ∃ (B : Nat → Int32) (A' : Nat → Nat → Int32), mtH A st rc av B (∃ k, k < st ∧ rcd A st t c w k) A' ∧ r = ((131, SL, S, A', P), none)) := by
        intro hy
        iterate 2 refine pm_B.next rfl rfl ?_
        exact nx 1 (Or.inl ⟨rfl, k, by omega, hy⟩)
      iterate 3 refine pm_B.next rfl rfl ?_
      rcases hac k hkst with ha | ⟨τ, c', w', h1, h2, h3, ha⟩
      · refine r_ifT rfl (decide_eq_true (by rw [ha]; decide)) ?_
        refine no (fun ⟨τ, w', z1, z2, z3, _⟩ => ?_)
        exact nI_m1 (by omega) (z3.symm.trans ha)
      · have d1 : A 128 k / 2 = nI (8 * τ + c') := by rw [ha, show (2 : Int32) = nI 2 from rfl, pk_div (by omega) (by decide) (by decide)]; congr 1; omega
        have d2 : nI (8 * τ + c') - nI (8 * τ + c') / 8 * 8 = nI c' := by rw [show (8 : Int32) = nI 8 from rfl, pk_rem (by omega) (by decide) (by decide)]; congr 1; omega
        have d3 : A 128 k / 16 = nI τ := by rw [ha, show (16 : Int32) = nI 16 from rfl, pk_div (by omega) (by decide) (by decide)]; congr 1; omega
        have d4 : A 128 k - A 128 k / 2 * 2 = nI w' := by rw [ha, show (2 : Int32) = nI 2 from rfl, pk_rem (by omega) (by decide) (by decide)]; congr 1; omega
        have uq : ∀ τ2 w2, τ2 < 6 → w2 < 2 → A 128 k = nI (16 * τ2 + 2 * c + w2) → τ2 = τ ∧ c = c' ∧ w2 = w' := by
          intro τ2 w2 g1 g2 g3
          have := (nI_eq (by omega) (by omega)).mp (ha.symm.trans g3)
          omega
        refine r_ifF rfl (decide_eq_false (by rw [ha]; exact nI_pos (by omega))) ?_
        iterate 1 refine pm_B.next rfl rfl ?_
        refine q_getr rfl s0 (by decide) r21 ?_
        iterate 1 refine pm_B.next rfl rfl ?_
        refine q_iald rfl f4 k rfl (by omega) (by decide) (v := B k) (by simp [w129]) ?_
        rcases (hB k hkst).1 with z | z
        · have nbf : ¬ bfr A st k := fun g => by
            rw [(hB k hkst).2.mpr g] at z
            cases z
          refine r_ifF rfl (decide_eq_false (fun g => g z)) ?_
          iterate 3 refine pm_B.next rfl rfl ?_
          refine q_top d1 ?_
          iterate 2 refine pm_B.next rfl rfl ?_
          refine q_top d2 ?_
          iterate 1 refine pm_B.next rfl rfl ?_
          by_cases hcc : c' = c
          · refine r_icF rfl (decide_eq_false (fun g => g (by rw [hcc]))) ?_
            iterate 3 refine pm_B.next rfl rfl ?_
            refine q_top d3 ?_
            iterate 1 refine pm_B.next rfl rfl ?_
            by_cases hτ : τ = t
            · refine r_icT rfl (decide_eq_true (by rw [hτ])) ?_
              refine no (fun ⟨τ2, w2, z1, z2, z3, _, z5, _⟩ => ?_)
              exact z5 ((uq τ2 w2 z1 z2 z3).1.trans hτ)
            · refine r_icF rfl (decide_eq_false (fun g => hτ ((nI_eq (by omega) (by omega)).mp g))) ?_
              iterate 2 refine pm_B.next rfl rfl ?_
              by_cases hw1 : w = 1
              · refine r_icT rfl (decide_eq_true (by rw [hw1]; rfl)) ?_
                exact yes ⟨τ, w', h1, h3, by rw [← hcc]; exact ha, nbf, hτ, Or.inl hw1⟩
              · refine r_icF rfl (decide_eq_false (fun g => hw1 ((nI_eq (a := w) (b := 1) (by omega) (by decide)).mp g))) ?_
                iterate 3 refine pm_B.next rfl rfl ?_
                refine q_top d4 ?_
                iterate 1 refine pm_B.next rfl rfl ?_
                by_cases hw2 : w' = 1
                · refine r_icF rfl (decide_eq_false (fun g => g (by rw [hw2]; rfl))) ?_
                  exact yes ⟨τ, w', h1, h3, by rw [← hcc]; exact ha, nbf, hτ, Or.inr hw2⟩
                · refine r_icT rfl (decide_eq_true (fun g => hw2 ((nI_eq (a := w') (b := 1) (by omega) (by decide)).mp g))) ?_
                  refine no (fun ⟨τ2, w2, z1, z2, z3, _, _, z6⟩ => ?_)
                  rcases z6 with z6 | z6
                  · exact hw1 z6
                  · exact hw2 ((uq τ2 w2 z1 z2 z3).2.2.symm.trans z6)
          · refine r_icT rfl (decide_eq_true (fun g => hcc ((nI_eq (by omega) (by omega)).mp g))) ?_
            refine no (fun ⟨τ2, w2, z1, z2, z3, _⟩ => ?_)
            exact hcc (uq τ2 w2 z1 z2 z3).2.1.symm
        · refine r_ifT rfl (decide_eq_true (by rw [z]; decide)) ?_
          refine no (fun ⟨τ2, w2, z1, z2, z3, z4, _⟩ => ?_)
          exact z4 ((hB k hkst).2.mp z)
end MEETS
