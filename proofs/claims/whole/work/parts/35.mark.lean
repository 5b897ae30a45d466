/-- a step's edges: its thread's step before it, and the other one -/
def ed (A : Nat → Nat → Int32) (x y : Nat) : Prop := A 126 x = nI y ∨ A 127 x = nI y
/-- edges lead back -/
def edb (A : Nat → Nat → Int32) (k : Nat) : Prop := (A 126 k = -1 ∨ ∃ j, j < k ∧ A 126 k = nI j) ∧ (A 127 k = -1 ∨ ∃ j, j < k ∧ A 127 k = nI j)
theorem nI_m1 {k : Nat} (h : k < 2 ^ 31) : ¬ nI k = -1 := fun g => by
  have := nI_pos h
  rw [g] at this
  exact this (by decide)
theorem ed_lt {A : Nat → Nat → Int32} {x y : Nat} (hb : edb A x) (hx : x < 2 ^ 31) (hy : y < 2 ^ 31) (h : ed A x y) : y < x := by
  rcases h with h | h
  · rcases hb.1 with g | ⟨j, hj, g⟩
    · exact absurd (h.symm.trans g) (nI_m1 hy)
    · have := (nI_eq hy (by omega)).mp (h.symm.trans g)
      omega
  · rcases hb.2 with g | ⟨j, hj, g⟩
    · exact absurd (h.symm.trans g) (nI_m1 hy)
    · have := (nI_eq hy (by omega)).mp (h.symm.trans g)
      omega
/-- the steps before s: by edges from s, each place below 4000 -/
def bfr (A : Nat → Nat → Int32) (s k : Nat) : Prop := Relation.TransGen (fun x y => ed A x y ∧ y < 4000) s k
theorem bfr_lt {A : Nat → Nat → Int32} {s k : Nat} (hb : ∀ j, j ≤ s → edb A j) (hs : s < 4000) (h : bfr A s k) : k < s := by
  induction h with
  | single h => exact ed_lt (hb s (Nat.le_refl _)) (by omega) (by omega) h.1
  | tail h1 h2 ih => exact Nat.lt_trans (ed_lt (hb _ (by omega)) (by omega) (by omega) h2.1) ih
/-- the last edge -/
theorem bfr_iff {A : Nat → Nat → Int32} {s k : Nat} (hk : k < 4000) : bfr A s k ↔ ∃ j, (j = s ∨ bfr A s j) ∧ ed A j k := by
  constructor
  · intro h
    cases h with
    | single h => exact ⟨s, Or.inl rfl, h.1⟩
    | tail h1 h2 => exact ⟨_, Or.inr h1, h2.1⟩
  · rintro ⟨j, rfl | h1, h2⟩
    · exact Relation.TransGen.single ⟨h2, hk⟩
    · exact Relation.TransGen.tail h1 ⟨h2, hk⟩
/-- row 129 is B -/
def w129 (A : Nat → Nat → Int32) (B : Nat → Int32) : Nat → Nat → Int32 := fun a b => if a = 129 then B b else A a b
theorem w129_o {A : Nat → Nat → Int32} {B : Nat → Int32} {a b : Nat} (h : a ≠ 129) : w129 A B a b = A a b := by simp [w129, h]
theorem w129_u {A : Nat → Nat → Int32} {B : Nat → Int32} {i : Nat} {v : Int32} : pm_u (w129 A B) 129 i v = w129 A (va_up B i v) := by
  funext a b
  simp only [pm_u, w129, va_up]
  by_cases h : a = 129
  · subst h
    by_cases h2 : b = i <;> simp [h2]
  · simp [h]
section MARK
variable {d : Nat} {SL : Nat} {S : Nat → Nat × Nat} {A : Nat → Nat → Int32} {P : Nat → Nat → Option Nat}
theorem x_mark {st : Nat} (m : kM S P) (hst : A 111 17 = nI st) (h4 : st < 4000) (hb : ∀ k, k ≤ st → edb A k) : EE d M_Mo_mark [.ref 111] SL S A P (fun r => ∃ B : Nat → Int32, (∀ k, k < st → (B k = 0 ∨ B k = 1) ∧ (B k = 1 ↔ bfr A st k)) ∧ r = ((131, SL, S, w129 A B, P), none)) := by
  obtain ⟨⟨⟨s0, s1, s2, s3, s4, s5⟩, p0, p1, p2, p3, p5⟩, -, ⟨⟨f1, f2, f3, f4, f5⟩, r18, r19, r20, r21, r23⟩⟩ := m
  refine q_of (tb := fun j => tb_Mo_mark[j]?) rfl rfl (Nat.le_of_ble_eq_true rfl) ?_
  show BB _ _ 0 [.ref 111, .null] [] _ _ _ _ _
  -- the second loop
  have lp2 : ∀ i (B : Nat → Int32), i ≤ st + 1 → (∀ k, k < st → (B k = 0 ∨ B k = 1) ∧ (B k = 1 ↔ ∃ j, i ≤ j ∧ (j = st ∨ bfr A st j) ∧ ed A j k)) → BB d (fun j => tb_Mo_mark[j]?) 16 [.ref 111, .int (nI i - 1)] [] SL S (w129 A B) P (fun r => (131 ≤ r.1.1 ∧ SL ≤ r.1.2.1) ∧ ∃ B : Nat → Int32, (∀ k, k < st → (B k = 0 ∨ B k = 1) ∧ (B k = 1 ↔ bfr A st k)) ∧ r = ((131, SL, S, w129 A B, P), none)) := by
    intro i
    induction i with
    | zero =>
      intro B _ hB
      repeat refine pm_B.next rfl rfl ?_
      refine q_vret (Q := fun r => ∃ B : Nat → Int32, (∀ k, k < st → (B k = 0 ∨ B k = 1) ∧ (B k = 1 ↔ bfr A st k)) ∧ r = ((131, SL, S, w129 A B, P), none)) rfl ⟨B, fun k hk => ⟨(hB k hk).1, ?_⟩, rfl⟩
      rw [(hB k hk).2, bfr_iff (by omega)]
      exact ⟨fun ⟨j, _, h1, h2⟩ => ⟨j, h1, h2⟩, fun ⟨j, h1, h2⟩ => ⟨j, Nat.zero_le _, h1, h2⟩⟩
    | succ i ih =>
      intro B hi hB
      have hst' : w129 A B 111 17 = nI st := by rw [w129_o (by decide)]; exact hst
      refine q_lc (lc' := [.ref 111, .int (nI i)]) (by rw [nI_pred]) ?_
      -- to the next one
      have nx : ∀ B' : Nat → Int32, (∀ k, k < st → (B' k = 0 ∨ B' k = 1) ∧ (B' k = 1 ↔ ∃ j, i ≤ j ∧ (j = st ∨ bfr A st j) ∧ ed A j k)) → BB d (fun j => tb_Mo_mark[j]?) 54 [.ref 111, .int (nI i)] [] SL S (w129 A B') P (fun r => (131 ≤ r.1.1 ∧ SL ≤ r.1.2.1) ∧ ∃ B : Nat → Int32, (∀ k, k < st → (B k = 0 ∨ B k = 1) ∧ (B k = 1 ↔ bfr A st k)) ∧ r = ((131, SL, S, w129 A B, P), none)) := by
        intro B' hB'
        iterate 2 refine pm_B.next rfl rfl ?_
        refine q_lc (lc' := [.ref 111, .int (nI i - 1)]) (by rw [sb1]; rfl) ?_
        exact ih B' (by omega) hB'
      -- the edges of i
      have go : (i = st ∨ bfr A st i) → BB d (fun j => tb_Mo_mark[j]?) 28 [.ref 111, .int (nI i)] [] SL S (w129 A B) P (fun r => (131 ≤ r.1.1 ∧ SL ≤ r.1.2.1) ∧ ∃ B : Nat → Int32, (∀ k, k < st → (B k = 0 ∨ B k = 1) ∧ (B k = 1 ↔ bfr A st k)) ∧ r = ((131, SL, S, w129 A B, P), none)) := by
        intro hr
        have hedb := hb i (by omega)
        -- behind the first edge
        have second : ∀ B1 : Nat → Int32, (∀ k, k < st → (B1 k = 0 ∨ B1 k = 1) ∧ (B1 k = 1 ↔ (∃ j, i + 1 ≤ j ∧ (j = st ∨ bfr A st j) ∧ ed A j k) ∨ A 126 i = nI k)) → BB d (fun j => tb_Mo_mark[j]?) 41 [.ref 111, .int (nI i)] [] SL S (w129 A B1) P (fun r => (131 ≤ r.1.1 ∧ SL ≤ r.1.2.1) ∧ ∃ B : Nat → Int32, (∀ k, k < st → (B k = 0 ∨ B k = 1) ∧ (B k = 1 ↔ bfr A st k)) ∧ r = ((131, SL, S, w129 A B, P), none)) := by
          intro B1 hB1
          have key : ∀ k, k < st → ((∃ j, i ≤ j ∧ (j = st ∨ bfr A st j) ∧ ed A j k) ↔ ((∃ j, i + 1 ≤ j ∧ (j = st ∨ bfr A st j) ∧ ed A j k) ∨ A 126 i = nI k) ∨ A 127 i = nI k) := by
            intro k hk
            constructor
            · rintro ⟨j, h1, h2, h3⟩
              by_cases hji : j = i
              · subst hji
                rcases h3 with h3 | h3
                · exact Or.inl (Or.inr h3)
                · exact Or.inr h3
              · exact Or.inl (Or.inl ⟨j, by omega, h2, h3⟩)
            · rintro ((⟨j, h1, h2, h3⟩ | h3) | h3)
              · exact ⟨j, by omega, h2, h3⟩
              · exact ⟨i, Nat.le_refl _, hr, Or.inl h3⟩
              · exact ⟨i, Nat.le_refl _, hr, Or.inr h3⟩
          iterate 1 refine pm_B.next rfl rfl ?_
          refine q_getr rfl s0 (by decide) r19 ?_
          iterate 1 refine pm_B.next rfl rfl ?_
          rcases hedb.2 with g | ⟨j, hj, g⟩
          · refine q_iald rfl f2 i rfl (by omega) (by decide) (v := -1) (by rw [w129_o (by decide)]; exact g) ?_
            iterate 1 refine pm_B.next rfl rfl ?_
            refine nx B1 (fun k hk => ⟨(hB1 k hk).1, ?_⟩)
            rw [(hB1 k hk).2, key k hk]
            exact ⟨Or.inl, fun h => h.elim id (fun z => absurd (z.symm.trans g) (nI_m1 (by omega)))⟩
          · refine q_iald rfl f2 i rfl (by omega) (by decide) (v := nI j) (by rw [w129_o (by decide)]; exact g) ?_
            refine r_ifF rfl (decide_eq_false (nI_pos (by omega))) ?_
            iterate 1 refine pm_B.next rfl rfl ?_
            refine q_getr rfl s0 (by decide) r21 ?_
            iterate 1 refine pm_B.next rfl rfl ?_
            refine q_getr rfl s0 (by decide) r19 ?_
            iterate 1 refine pm_B.next rfl rfl ?_
            refine q_iald rfl f2 i rfl (by omega) (by decide) (v := nI j) (by rw [w129_o (by decide)]; exact g) ?_
            iterate 1 refine pm_B.next rfl rfl ?_
            refine q_zast rfl f4 j rfl (by omega) (by decide) ?_
            rw [w129_u, show (1 : Int32) &&& 1 = 1 from rfl]
            refine nx (va_up B1 j 1) (fun k hk => ?_)
            by_cases hkj : k = j
            · subst hkj
              rw [va_up_self]
              exact ⟨Or.inr rfl, fun _ => (key k hk).mpr (Or.inr g), fun _ => rfl⟩
            · rw [va_up_ne _ _ hkj]
              refine ⟨(hB1 k hk).1, ?_⟩
              rw [(hB1 k hk).2, key k hk]
              exact ⟨Or.inl, fun h => h.elim id (fun z => absurd ((nI_eq (by omega) (by omega)).mp (z.symm.trans g)) hkj)⟩
        iterate 1 refine pm_B.next rfl rfl ?_
        refine q_getr rfl s0 (by decide) r18 ?_
        iterate 1 refine pm_B.next rfl rfl ?_
        rcases hedb.1 with g | ⟨j, hj, g⟩
        · refine q_iald rfl f1 i rfl (by omega) (by decide) (v := -1) (by rw [w129_o (by decide)]; exact g) ?_
          iterate 1 refine pm_B.next rfl rfl ?_
          refine second B (fun k hk => ⟨(hB k hk).1, ?_⟩)
          rw [(hB k hk).2]
          exact ⟨Or.inl, fun h => h.elim id (fun z => absurd (z.symm.trans g) (nI_m1 (by omega)))⟩
        · refine q_iald rfl f1 i rfl (by omega) (by decide) (v := nI j) (by rw [w129_o (by decide)]; exact g) ?_
          refine r_ifF rfl (decide_eq_false (nI_pos (by omega))) ?_
          iterate 1 refine pm_B.next rfl rfl ?_
          refine q_getr rfl s0 (by decide) r21 ?_
          iterate 1 refine pm_B.next rfl rfl ?_
          refine q_getr rfl s0 (by decide) r18 ?_
          iterate 1 refine pm_B.next rfl rfl ?_
          refine q_iald rfl f1 i rfl (by omega) (by decide) (v := nI j) (by rw [w129_o (by decide)]; exact g) ?_
          iterate 1 refine pm_B.next rfl rfl ?_
          refine q_zast rfl f4 j rfl (by omega) (by decide) ?_
          rw [w129_u, show (1 : Int32) &&& 1 = 1 from rfl]
          refine second (va_up B j 1) (fun k hk => ?_)
          by_cases hkj : k = j
          · subst hkj
            rw [va_up_self]
            exact ⟨Or.inr rfl, fun _ => Or.inr g, fun _ => rfl⟩
          · rw [va_up_ne _ _ hkj]
            refine ⟨(hB k hk).1, ?_⟩
            rw [(hB k hk).2]
            exact ⟨Or.inl, fun h => h.elim id (fun z => absurd ((nI_eq (by omega) (by omega)).mp (z.symm.trans g)) hkj)⟩
      iterate 1 refine pm_B.next rfl rfl ?_
      refine r_ifF rfl (decide_eq_false (nI_pos (by omega))) ?_
      iterate 2 refine pm_B.next rfl rfl ?_
      refine q_geti rfl s0 (by decide) hst' ?_
      by_cases his : i = st
      · refine r_icT rfl (decide_eq_true (nI_le (by omega) (by omega))) ?_
        exact go (Or.inl his)
      · have hlt : i < st := by omega
        -- what B says of i is final
        have hBi : B i = 1 ↔ bfr A st i := by
          rw [(hB i hlt).2, bfr_iff (by omega)]
          constructor
          · rintro ⟨j, _, h1, h2⟩
            exact ⟨j, h1, h2⟩
          · rintro ⟨j, h1, h2⟩
            have hj : j ≤ st := by
              rcases h1 with h1 | h1
              · omega
              · have := bfr_lt hb h4 h1
                omega
            exact ⟨j, ed_lt (hb j hj) (by omega) (by omega) h2, h1, h2⟩
        refine r_icF rfl (decide_eq_false (nI_ge hlt (by omega))) ?_
        iterate 1 refine pm_B.next rfl rfl ?_
        refine q_getr rfl s0 (by decide) r21 ?_
        iterate 1 refine pm_B.next rfl rfl ?_
        refine q_iald rfl f4 i rfl (by omega) (by decide) (v := B i) (by simp [w129]) ?_
        rcases (hB i hlt).1 with z | z
        · refine r_ifF rfl (decide_eq_false (fun g => g z)) ?_
          iterate 1 refine pm_B.next rfl rfl ?_
          refine nx B (fun k hk => ⟨(hB k hk).1, ?_⟩)
          rw [(hB k hk).2]
          constructor
          · rintro ⟨j, h1, h2, h3⟩
            exact ⟨j, by omega, h2, h3⟩
          · rintro ⟨j, h1, h2, h3⟩
            by_cases hji : j = i
            · subst hji
              exfalso
              rcases h2 with h2 | h2
              · exact his h2
              · rw [hBi.mpr h2] at z
                cases z
            · exact ⟨j, by omega, h2, h3⟩
        · refine r_ifT rfl (decide_eq_true (by rw [z]; decide)) ?_
          exact go (Or.inr (hBi.mp z))
  -- the first loop
  iterate 2 refine pm_B.next rfl rfl ?_
  suffices h : ∀ c i, i + c = st → BB d (fun j => tb_Mo_mark[j]?) 2 [.ref 111, .int (nI i)] [] SL S (w129 A (fun k => if k < i then 0 else A 129 k)) P (fun r => (131 ≤ r.1.1 ∧ SL ≤ r.1.2.1) ∧ ∃ B : Nat → Int32, (∀ k, k < st → (B k = 0 ∨ B k = 1) ∧ (B k = 1 ↔ bfr A st k)) ∧ r = ((131, SL, S, w129 A B, P), none)) by
    have h0 := h st 0 (by omega)
    have e : w129 A (fun k => if k < 0 then 0 else A 129 k) = A := by
      funext a b
      simp only [w129]
      split
      · rename_i g
        rw [g]
        simp
      · rfl
    rw [e] at h0
    exact h0
  intro c
  induction c with
  | zero =>
    intro i hi
    have : i = st := by omega
    subst this
    have hst' : w129 A (fun k => if k < i then 0 else A 129 k) 111 17 = nI i := by rw [w129_o (by decide)]; exact hst
    iterate 2 refine pm_B.next rfl rfl ?_
    refine q_geti rfl s0 (by decide) hst' ?_
    refine r_icT rfl (decide_eq_true (nI_le (Nat.le_refl _) (by omega))) ?_
    iterate 1 refine pm_B.next rfl rfl ?_
    refine q_geti rfl s0 (by decide) hst' ?_
    iterate 1 refine pm_B.next rfl rfl ?_
    refine q_lc (lc' := [.ref 111, .int (nI (i + 1) - 1)]) (by rw [nI_pred]; rfl) ?_
    refine lp2 (i + 1) _ (Nat.le_refl _) (fun k hk => ?_)
    simp only [hk, if_true]
    refine ⟨Or.inl trivial, ?_⟩
    constructor
    · intro g
      cases g
    · rintro ⟨j, h1, h2, -⟩
      exfalso
      rcases h2 with h2 | h2
      · omega
      · have := bfr_lt hb h4 h2
        omega
  | succ c ih =>
    intro i hi
    iterate 2 refine pm_B.next rfl rfl ?_
    refine q_geti rfl s0 (by decide) (v := nI st) (by rw [w129_o (by decide)]; exact hst) ?_
    refine r_icF rfl (decide_eq_false (nI_ge (by omega) (by omega))) ?_
    iterate 1 refine pm_B.next rfl rfl ?_
    refine q_getr rfl s0 (by decide) r21 ?_
    iterate 2 refine pm_B.next rfl rfl ?_
    refine q_zast rfl f4 i rfl (by omega) (by decide) ?_
    rw [w129_u, show (0 : Int32) &&& 1 = 0 from rfl]
    have e : va_up (fun k => if k < i then 0 else A 129 k) i 0 = (fun k => if k < i + 1 then 0 else A 129 k) := by
      funext k
      simp only [va_up]
      by_cases h1 : k = i
      · simp [h1]
      · have : k < i + 1 ↔ k < i := by omega
        simp [h1, this]
    rw [e]
    iterate 2 refine pm_B.next rfl rfl ?_
    refine q_lc (lc' := [.ref 111, .int (nI (i + 1))]) (by rw [nI_succ i]; rfl) ?_
    exact ih (i + 1) (by omega)
end MARK
