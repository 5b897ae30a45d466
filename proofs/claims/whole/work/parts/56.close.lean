section CLOSE
variable {ks pt : Nat → Int32} {n p : Nat}
/-- the blocks of a whole body all end -/
theorem cl_lt {k o : Nat} {l : List Nat} {q : Int32 → Prop} {j : Nat} (hw : bk_wh ks n) (hk : k ≤ n) (hs : bk_st ks k = o :: l) (hq : ∀ x, x = 5 → q x) (hj : bk_CL ks n k q j) : j < n ∧ bk_st ks j = bk_st ks k ∧ q (ks j) := by
  rcases hj.2.1 with g | g
  · exact g
  · exfalso
    have key : ∀ m, k + m ≤ n → ∃ r, bk_st ks (k + m) = r ++ bk_st ks k := by
      intro m
      induction m with
      | zero => exact fun _ => ⟨[], rfl⟩
      | succ m ih =>
        intro hm
        obtain ⟨r, hr⟩ := ih (by omega)
        obtain ⟨f1, f2, f3⟩ := bk_fwd hr
        show ∃ r, bk_st ks (k + m + 1) = r ++ bk_st ks k
        by_cases ho : bk_op (ks (k + m)) = true
        · exact ⟨_, f2 ho⟩
        · by_cases h5 : ks (k + m) = 5
          · cases r with
            | nil => exact absurd ⟨hr, hq _ h5⟩ (hj.2.2 (k + m) (by omega) (by omega))
            | cons x r => exact ⟨r, f1 h5 x r rfl⟩
          · exact ⟨r, f3 (by simpa using ho) h5⟩
    obtain ⟨r, hr⟩ := key (n - k) (by omega)
    rw [show k + (n - k) = n by omega, hw.2, hs] at hr
    cases r <;> cases hr
theorem cl_ex {k o : Nat} {l : List Nat} (hw : bk_wh ks n) (hk : k ≤ n) (hs : bk_st ks k = o :: l) : ∃ e, k ≤ e ∧ e < n ∧ bk_st ks e = bk_st ks k ∧ ks e = 5 := by
  refine Classical.byContradiction fun g => ?_
  have : bk_CL ks n k (fun x => x = 5) n := ⟨hk, Or.inr rfl, fun j h1 h2 h3 => g ⟨j, h1, h2, h3.1, h3.2⟩⟩
  have := (cl_lt hw hk hs (fun _ h => h) this).1
  omega
/-- an ELSE ahead of e in block o: it is the block's ELSE -/
theorem cu_is {e o i : Nat} {l : List Nat} (hw : bk_wh ks n) (he : e < n) (hs : bk_st ks e = o :: l) (hi : i < e) (h7 : ks i = 7) (hsi : bk_st ks i = o :: l) : cu ks e o = i := by
  have hoi := (bk_in hsi).1
  rcases cu_cases (ks := ks) e o with g | ⟨g1, g2, g3, g4⟩
  · exact absurd h7 ((cu_e7 hs).mp g i hoi hi (by rw [hsi, hs]))
  · cases hc : bk_st ks (cu ks e o) with
    | nil => rw [hc] at g4; cases g4
    | cons x r =>
      rw [hc] at g4
      have ex : x = o := by simpa using g4
      rw [ex] at hc
      have er : r = l := by rw [(bk_in hc).2.2.1, (bk_in hsi).2.2.1]
      rw [er] at hc
      obtain ⟨o1, l1, q1, q2, q3⟩ := (hw.1 _ (by omega)).2 g3
      obtain ⟨o2, l2, r1, r2, r3⟩ := (hw.1 i (by omega)).2 h7
      have eo1 : o1 = o := by rw [hc] at q1; injection q1 with z; exact z.symm
      have eo2 : o2 = o := by rw [hsi] at r1; injection r1 with z; exact z.symm
      rw [eo1] at q3
      rw [eo2] at r3
      rcases Nat.lt_trichotomy (cu ks e o) i with z | z | z
      · exact absurd g3 (r3 _ g1 z (by rw [hc, hsi]))
      · exact z
      · exact absurd h7 (q3 i hoi z (by rw [hc, hsi]))
theorem pt_if {j : Nat} (hw : bk_wh ks n) (hc : jc ks pt n) (hp : p < n) (h6 : ks p = 6) (hj : bk_CL ks n (p + 1) (clq 1) j) : j < n ∧ pt p = nI j ∧ bk_st ks j = p :: bk_st ks p ∧ (ks j = 5 ∨ ks j = 7) ∧ p < j := by
  have hs : bk_st ks (p + 1) = p :: bk_st ks p := bk_st_op (by rw [h6]; rfl)
  obtain ⟨g1, g2, g3⟩ := cl_lt hw (by omega) hs (fun x h => Or.inl h) hj
  have hpj := hj.1
  rw [hs] at g2
  have g3' : ks j = 5 ∨ ks j = 7 := g3.imp id (fun z => z.2)
  refine ⟨g1, ?_, g2, g3', by omega⟩
  rcases g3' with h5 | h7
  · have hcu : cu ks j p = p := (cu_e7 g2).mpr (fun i hi hij hsi h7 => hj.2.2 i (by omega) hij ⟨by rw [hsi, g2, hs], Or.inr ⟨by decide, h7⟩⟩)
    have := (hc j g1 h5 p _ g2).1
    rw [hcu] at this
    exact this
  · have hs1 : bk_st ks (j + 1) = p :: bk_st ks p := by rw [bk_st_no (by rw [h7]; rfl) (by rw [h7]; decide), g2]
    obtain ⟨e, e1, e2, e3, e4⟩ := cl_ex hw (by omega) hs1
    rw [hs1] at e3
    have hcu := cu_is hw e2 e3 (by omega) h7 g2
    have := (hc e e2 e4 p _ e3).2.2
    rw [hcu] at this
    exact this (by omega)
theorem pt_else {j : Nat} (hw : bk_wh ks n) (hc : jc ks pt n) (hp : p < n) (h7 : ks p = 7) (hj : bk_CL ks n (p + 1) (clq 0) j) : ∃ o l, bk_st ks p = o :: l ∧ ks o = 6 ∧ j < n ∧ pt p = nI j ∧ bk_st ks j = o :: l ∧ ks j = 5 := by
  obtain ⟨o, l, h1, h2, -⟩ := (hw.1 p hp).2 h7
  have hs : bk_st ks (p + 1) = o :: l := by rw [bk_st_no (by rw [h7]; rfl) (by rw [h7]; decide), h1]
  obtain ⟨g1, g2, g3⟩ := cl_lt hw (by omega) hs (fun x h => Or.inl h) hj
  have h5 : ks j = 5 := g3.resolve_right (fun z => z.1 rfl)
  have hpj := hj.1
  rw [hs] at g2
  refine ⟨o, l, h1, h2, g1, ?_, g2, h5⟩
  have hcu := cu_is hw g1 g2 (by omega) h7 h1
  have := (hc j g1 h5 o _ g2).1
  rw [hcu] at this
  exact this
theorem cu_no {e o : Nat} {l : List Nat} (hw : bk_wh ks n) (he : e < n) (hs : bk_st ks e = o :: l) (h6 : ks o ≠ 6) : cu ks e o = o := by
  rcases cu_cases (ks := ks) e o with g | ⟨g1, g2, g3, g4⟩
  · exact g
  · exfalso
    obtain ⟨o1, l1, q1, q2, -⟩ := (hw.1 _ (by omega)).2 g3
    rw [q1] at g4
    have : o1 = o := by simpa using g4
    exact h6 (this ▸ q2)
theorem pt_while {j : Nat} (hw : bk_wh ks n) (hc : jc ks pt n) (hp : p < n) (h8 : ks p = 8) (hj : bk_CL ks n (p + 1) (clq 0) j) : j < n ∧ pt p = nI j ∧ bk_st ks j = p :: bk_st ks p ∧ ks j = 5 := by
  have hs : bk_st ks (p + 1) = p :: bk_st ks p := bk_st_op (by rw [h8]; rfl)
  obtain ⟨g1, g2, g3⟩ := cl_lt hw (by omega) hs (fun x h => Or.inl h) hj
  have h5 : ks j = 5 := g3.resolve_right (fun z => z.1 rfl)
  rw [hs] at g2
  have hcu := cu_no hw g1 g2 (by rw [h8]; decide)
  have := (hc j g1 h5 p _ g2).1
  rw [hcu] at this
  exact ⟨g1, this, g2, h5⟩
/-- the partner of an END: the block's opener, or its ELSE -/
theorem pt_end (hw : bk_wh ks n) (hc : jc ks pt n) (hp : p < n) (h5 : ks p = 5) : ∃ o l q, bk_st ks p = o :: l ∧ o < p ∧ pt p = nI q ∧ q < p ∧ ((q = o) ∨ (ks q = 7 ∧ ks o = 6)) := by
  cases hs : bk_st ks p with
  | nil => exact absurd hs ((hw.1 p hp).1 h5)
  | cons o l =>
    have ho := (bk_in hs).1
    refine ⟨o, l, cu ks p o, rfl, ho, (hc p hp h5 o l hs).2.1, cu_lt ho, ?_⟩
    by_cases h6 : ks o = 6
    · rcases cu_cases (ks := ks) p o with g | ⟨g1, g2, g3, g4⟩
      · exact Or.inl g
      · exact Or.inr ⟨g3, h6⟩
    · exact Or.inl (cu_no hw hp hs h6)
end CLOSE
