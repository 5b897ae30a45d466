section CLOCK
variable {A A2 : Nat → Nat → Int32} {st t T : Nat} {TH : Nat → Nat} {y : Int32}
theorem tg_head {r : Nat → Nat → Prop} {s i k : Nat} (h : r s i) (g : Relation.TransGen r i k) : Relation.TransGen r s k := by
  induction g with
  | single h1 => exact Relation.TransGen.tail (Relation.TransGen.single h) h1
  | tail _ h2 ih => exact Relation.TransGen.tail ih h2
/-- the first edge -/
theorem bfr_fst {s k : Nat} : bfr A s k ↔ ∃ i, (ed A s i ∧ i < 4000) ∧ (k = i ∨ bfr A i k) := by
  constructor
  · intro h
    induction h with
    | single h1 => exact ⟨_, h1, Or.inl rfl⟩
    | tail _ h2 ih =>
      obtain ⟨i, h3, h4⟩ := ih
      refine ⟨i, h3, Or.inr ?_⟩
      rcases h4 with h4 | h4
      · rw [← h4]; exact Relation.TransGen.single h2
      · exact Relation.TransGen.tail h4 h2
  · intro ⟨i, h1, h2⟩
    rcases h2 with h2 | h2
    · rw [h2]; exact Relation.TransGen.single h1
    · exact tg_head h1 h2
/-- the edges of a new step, st -/
def nst (A A2 : Nat → Nat → Int32) (st : Nat) (x y : Int32) : Prop := (∀ k, A2 126 k = if k = st then x else A 126 k) ∧ ∀ k, A2 127 k = if k = st then y else A 127 k
theorem nst_ed {x : Int32} (h : nst A A2 st x y) {j i : Nat} (hj : j ≠ st) : ed A2 j i ↔ ed A j i := by
  unfold ed
  rw [h.1 j, h.2 j, if_neg hj, if_neg hj]
theorem nst_edb {x : Int32} (h : nst A A2 st x y) {j : Nat} (hj : j ≠ st) : edb A2 j ↔ edb A j := by
  unfold edb
  rw [h.1 j, h.2 j, if_neg hj, if_neg hj]
theorem bfr_old {x : Int32} (h : nst A A2 st x y) (s4 : st ≤ 4000) (he : ∀ k, k < st → edb A k) {k : Nat} : ∀ j, j < st → (bfr A2 j k ↔ bfr A j k) := by
  intro j
  induction j using Nat.strongRecOn with
  | _ j ih =>
    intro hj
    rw [bfr_fst, bfr_fst]
    constructor
    · intro ⟨i, ⟨h1, h2⟩, h3⟩
      have h1' := (nst_ed h (by omega)).mp h1
      have hlt := ed_lt (he j hj) (by omega) (by omega) h1'
      exact ⟨i, ⟨h1', h2⟩, h3.imp id (ih i hlt (by omega)).mp⟩
    · intro ⟨i, ⟨h1, h2⟩, h3⟩
      have hlt := ed_lt (he j hj) (by omega) (by omega) h1
      exact ⟨i, ⟨(nst_ed h (by omega)).mpr h1, h2⟩, h3.imp id (ih i hlt (by omega)).mpr⟩
/-- a step so far, or none -/
def osf (st : Nat) (x : Int32) : Prop := x = -1 ∨ ∃ j, j < st ∧ x = nI j
theorem kn_no {k : Nat} : ¬ kn A (-1) k := fun ⟨j, h1, h2, _⟩ => nI_m1 (by omega) h2.symm
theorem kn_old {x z : Int32} (h : nst A A2 st x y) (s4 : st ≤ 4000) (he : ∀ k, k < st → edb A k) (hz : osf st z) {k : Nat} : kn A2 z k ↔ kn A z k := by
  rcases hz with g | ⟨i, hi, g⟩
  · subst g
    exact ⟨fun q => absurd q kn_no, fun q => absurd q kn_no⟩
  · constructor
    · intro ⟨j, h1, h2, h3⟩
      have e : j = i := (nI_eq (by omega) (by omega)).mp (h2.symm.trans g)
      exact ⟨j, h1, h2, h3.imp id (bfr_old h s4 he j (by omega)).mp⟩
    · intro ⟨j, h1, h2, h3⟩
      have e : j = i := (nI_eq (by omega) (by omega)).mp (h2.symm.trans g)
      exact ⟨j, h1, h2, h3.imp id (bfr_old h s4 he j (by omega)).mpr⟩
theorem kn_lt {z : Int32} (s4 : st ≤ 4000) (he : ∀ k, k < st → edb A k) (hz : osf st z) {k : Nat} (h : kn A z k) : k < st := by
  obtain ⟨j, h1, h2, h3⟩ := h
  rcases hz with g | ⟨i, hi, g⟩
  · exact absurd (h2.symm.trans g) (nI_m1 (by omega))
  · have e : j = i := (nI_eq (by omega) (by omega)).mp (h2.symm.trans g)
    rcases h3 with h3 | h3
    · omega
    · have := bfr_lt (fun q hq => he q (by omega)) h1 h3
      omega
theorem bfr_new {x : Int32} (h : nst A A2 st x y) (s4 : st < 4000) (he : ∀ k, k < st → edb A k) (hx : osf st x) (hy : osf st y) {k : Nat} : bfr A2 st k ↔ (kn A x k ∨ kn A y k) := by
  have key : ∀ z, osf st z → ((∃ i, z = nI i ∧ i < 4000 ∧ (k = i ∨ bfr A2 i k)) ↔ kn A z k) := fun z hz => by
    rw [← kn_old h (by omega) he hz]
    exact ⟨fun ⟨i, a, b, c⟩ => ⟨i, b, a, c⟩, fun ⟨i, b, a, c⟩ => ⟨i, a, b, c⟩⟩
  rw [bfr_fst, ← key x hx, ← key y hy]
  have e1 := h.1 st
  have e2 := h.2 st
  rw [if_pos rfl] at e1 e2
  unfold ed
  rw [e1, e2]
  constructor
  · intro ⟨i, ⟨h1, h2⟩, h3⟩
    rcases h1 with h1 | h1
    · exact Or.inl ⟨i, h1, h2, h3⟩
    · exact Or.inr ⟨i, h1, h2, h3⟩
  · intro g
    rcases g with ⟨i, h1, h2, h3⟩ | ⟨i, h1, h2, h3⟩
    · exact ⟨i, ⟨Or.inl h1, h2⟩, h3⟩
    · exact ⟨i, ⟨Or.inr h1, h2⟩, h3⟩
theorem kn_new {x : Int32} (h : nst A A2 st x y) (s4 : st < 4000) (he : ∀ k, k < st → edb A k) (hx : osf st x) (hy : osf st y) {k : Nat} : kn A2 (nI st) k ↔ (k = st ∨ kn A x k ∨ kn A y k) := by
  rw [← bfr_new h s4 he hx hy]
  constructor
  · intro ⟨j, h1, h2, h3⟩
    have e : st = j := (nI_eq (by omega) (by omega)).mp h2
    rw [e]; exact h3
  · intro g
    exact ⟨st, s4, rfl, g⟩
/-- the thread of each step, with the new one -/
def thn (TH : Nat → Nat) (st t : Nat) : Nat → Nat := fun k => if k = st then t else TH k
theorem ck_old {x z : Int32} {e : Nat} (h : nst A A2 st x y) (s4 : st ≤ 4000) (he : ∀ k, k < st → edb A k) (hz : osf st z) (hr : A2 e = A e) (hc : ck A st TH e z) : ck A2 (st + 1) (thn TH st t) e z := by
  intro u hu
  obtain ⟨c, h1, h2, h3⟩ := hc u hu
  refine ⟨c, by omega, by rw [hr]; exact h2, fun k hk hth => ?_⟩
  rw [kn_old h s4 he hz]
  by_cases hks : k = st
  · exact ⟨fun g => absurd (kn_lt s4 he hz g) (by omega), fun g => by omega⟩
  · unfold thn at hth
    rw [if_neg hks] at hth
    exact h3 k (by omega) hth
theorem ck_new {x : Int32} {e : Nat} (h : nst A A2 st x y) (s4 : st < 4000) (he : ∀ k, k < st → edb A k) (hx : osf st x) (hy : osf st y) (ho : ∀ k, k < st → TH k = t → kn A x k) (ht : A2 e t = nI (st + 1)) (hc : ∀ u, u < 6 → u ≠ t → ∃ c, c ≤ st ∧ A2 e u = nI c ∧ ∀ k, k < st → TH k = u → ((kn A x k ∨ kn A y k) ↔ k < c)) : ck A2 (st + 1) (thn TH st t) e (nI st) := by
  intro u hu
  by_cases hut : u = t
  · subst hut
    refine ⟨st + 1, Nat.le_refl _, ht, fun k hk hth => ?_⟩
    rw [kn_new h s4 he hx hy]
    refine ⟨fun _ => hk, fun _ => ?_⟩
    by_cases hks : k = st
    · exact Or.inl hks
    · unfold thn at hth
      rw [if_neg hks] at hth
      exact Or.inr (Or.inl (ho k (by omega) hth))
  · obtain ⟨c, h1, h2, h3⟩ := hc u hu hut
    refine ⟨c, by omega, h2, fun k hk hth => ?_⟩
    rw [kn_new h s4 he hx hy]
    unfold thn at hth
    by_cases hks : k = st
    · rw [if_pos hks] at hth
      exact absurd hth.symm hut
    · rw [if_neg hks] at hth
      rw [← h3 k (by omega) hth]
      exact ⟨fun g => g.resolve_left hks, Or.inr⟩
/-- the clocks behind a step of thread t: T' threads, locks as L says -/
theorem IK.step {T' : Nat} (ik : IK T st TH A) (s4 : st < 4000) (htT : t < T) (hT : T ≤ T') (h : nst A A2 st (A 125 t) y) (hy : osf st y)
    (hlat : ∀ u, u < T → u ≠ t → A2 125 u = A 125 u ∧ A2 (58 + 4 * u) = A (58 + 4 * u)) (hnew : ∀ u, u < T' → (T ≤ u ∨ u = t) → A2 125 u = nI st ∧ ck A2 (st + 1) (thn TH st t) (58 + 4 * u) (nI st))
    (hl : ∀ l, l < 4 → (A2 120 l = A 120 l ∧ A2 (80 + 2 * l) = A (80 + 2 * l)) ∨ (A2 120 l = nI st ∧ ck A2 (st + 1) (thn TH st t) (80 + 2 * l) (nI st))) : IK T' (st + 1) (thn TH st t) A2 := by
  have he := ik.edg
  have hx : osf st (A 125 t) := ik.lat t htT
  have T0 : T ≠ 0 := by omega
  refine ⟨fun k hk => ?_, fun k hk => ?_, fun u hu => ?_, fun _ l hll => ?_, fun u hu k hk hth => ?_, fun u hu => ?_, fun _ l hll => ?_⟩
  · unfold thn
    by_cases hks : k = st
    · rw [if_pos hks]; omega
    · rw [if_neg hks]
      have := ik.thr k (by omega)
      omega
  · by_cases hks : k = st
    · subst hks
      unfold edb
      rw [h.1 k, h.2 k, if_pos rfl, if_pos rfl]
      exact ⟨hx, hy⟩
    · exact (nst_edb h hks).mpr (he k (by omega))
  · by_cases hn : T ≤ u ∨ u = t
    · exact Or.inr ⟨st, by omega, (hnew u hu hn).1⟩
    · rw [(hlat u (by omega) (by omega)).1]
      rcases ik.lat u (by omega) with g | ⟨j, g1, g2⟩
      · exact Or.inl g
      · exact Or.inr ⟨j, by omega, g2⟩
  · rcases hl l hll with g | g
    · rw [g.1]
      rcases ik.fre T0 l hll with g | ⟨j, g1, g2⟩
      · exact Or.inl g
      · exact Or.inr ⟨j, by omega, g2⟩
    · exact Or.inr ⟨st, by omega, g.1⟩
  · unfold thn at hth
    by_cases hks : k = st
    · rw [if_pos hks] at hth
      rw [(hnew u hu (Or.inr hth.symm)).1, hks, kn_new h s4 he hx hy]
      exact Or.inl rfl
    · rw [if_neg hks] at hth
      have := ik.thr k (by omega)
      by_cases hut : u = t
      · rw [(hnew u hu (Or.inr hut)).1, kn_new h s4 he hx hy]
        exact Or.inr (Or.inl (ik.own t htT k (by omega) (hth.trans hut)))
      · rw [(hlat u (by omega) hut).1, kn_old h (by omega) he (ik.lat u (by omega))]
        exact ik.own u (by omega) k (by omega) hth
  · by_cases hn : T ≤ u ∨ u = t
    · rw [(hnew u hu hn).1]
      exact (hnew u hu hn).2
    · rw [(hlat u (by omega) (by omega)).1]
      exact ck_old h (by omega) he (ik.lat u (by omega)) (hlat u (by omega) (by omega)).2 (ik.ckt u (by omega))
  · rcases hl l hll with g | g
    · rw [g.1]
      exact ck_old h (by omega) he (ik.fre T0 l hll) g.2 (ik.ckl T0 l hll)
    · rw [g.1]; exact g.2
end CLOCK
