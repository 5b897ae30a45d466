/-! Blocks: which SYNC, IF and WHILE are open ahead of statement k (innermost first), for kinds ks. -/
def bk_op (k : Int32) : Bool := k == 4 || k == 6 || k == 8
def bk_st (ks : Nat → Int32) : Nat → List Nat
  | 0 => []
  | k + 1 => if bk_op (ks k) then k :: bk_st ks k else if ks k = 5 then (bk_st ks k).tail else bk_st ks k
/-- up to n no END is without a block -/
def bk_nu (ks : Nat → Int32) (n : Nat) : Prop := ∀ k, k < n → ks k = 5 → bk_st ks k ≠ []
theorem bk_op_5 : bk_op 5 = false := rfl
theorem bk_st_op {ks : Nat → Int32} {k : Nat} (h : bk_op (ks k) = true) : bk_st ks (k + 1) = k :: bk_st ks k := by simp [bk_st, h]
theorem bk_st_end {ks : Nat → Int32} {k : Nat} (h : ks k = 5) : bk_st ks (k + 1) = (bk_st ks k).tail := by simp [bk_st, h, bk_op_5]
theorem bk_st_no {ks : Nat → Int32} {k : Nat} (h : bk_op (ks k) = false) (h5 : ¬ ks k = 5) : bk_st ks (k + 1) = bk_st ks k := by simp [bk_st, h, h5]
/-- what is open was opened before -/
theorem bk_lt {ks : Nat → Int32} : ∀ (n o : Nat), o ∈ bk_st ks n → o < n ∧ bk_op (ks o) = true := by
  intro n
  induction n with
  | zero => intro o h; cases h
  | succ n ih =>
    intro o h
    cases hop : bk_op (ks n) with
    | true =>
      rw [bk_st_op hop] at h
      rcases List.mem_cons.mp h with rfl | h
      · exact ⟨Nat.lt_succ_self _, hop⟩
      · exact ⟨Nat.lt_succ_of_lt (ih o h).1, (ih o h).2⟩
    | false =>
      by_cases h5 : ks n = 5
      · rw [bk_st_end h5] at h
        have := ih o (List.mem_of_mem_tail h)
        exact ⟨Nat.lt_succ_of_lt this.1, this.2⟩
      · rw [bk_st_no hop h5] at h
        have := ih o h
        exact ⟨Nat.lt_succ_of_lt this.1, this.2⟩
/-- a step back over statement i of a scan that has m blocks to skip: what stays open ahead of k -/
theorem bk_back {ks : Nat → Int32} {k i m : Nat} (hn : bk_nu ks (i + 1)) (h : (bk_st ks (i + 1)).drop m = bk_st ks k) :
    (ks i = 5 → (bk_st ks i).drop (m + 1) = bk_st ks k) ∧
    (bk_op (ks i) = true → m = 0 → bk_st ks k = i :: bk_st ks i) ∧
    (bk_op (ks i) = true → ∀ m', m = m' + 1 → (bk_st ks i).drop m' = bk_st ks k) ∧
    (bk_op (ks i) = false → ¬ ks i = 5 → (bk_st ks i).drop m = bk_st ks k) := by
  refine ⟨fun h5 => ?_, fun ho hm => ?_, fun ho m' hm => ?_, fun ho h5 => ?_⟩
  · rw [bk_st_end h5] at h
    cases hs : bk_st ks i with
    | nil => exact absurd hs (hn i (Nat.lt_succ_self _) h5)
    | cons o l =>
      rw [hs] at h
      exact h
  · rw [bk_st_op ho, hm] at h
    exact h.symm
  · rw [bk_st_op ho, hm] at h
    exact h
  · rw [bk_st_no ho h5] at h
    exact h
/-- what is open ahead of n, of what was open ahead of a before it: nothing else below a -/
theorem bk_old {ks : Nat → Int32} {a : Nat} : ∀ (n o : Nat), a ≤ n → o ∈ bk_st ks n → o < a → o ∈ bk_st ks a := by
  intro n
  induction n with
  | zero =>
    intro o ha h _
    cases h
  | succ n ih =>
    intro o ha h ho
    by_cases han : a = n + 1
    · rw [han]; exact h
    · have ha' : a ≤ n := by omega
      cases hop : bk_op (ks n) with
      | true =>
        rw [bk_st_op hop] at h
        rcases List.mem_cons.mp h with rfl | h
        · omega
        · exact ih o ha' h ho
      | false =>
        by_cases h5 : ks n = 5
        · rw [bk_st_end h5] at h
          exact ih o ha' (List.mem_of_mem_tail h) ho
        · rw [bk_st_no hop h5] at h
          exact ih o ha' h ho
/-- the open blocks stand in falling order -/
theorem bk_dec {ks : Nat → Int32} : ∀ (n : Nat), (bk_st ks n).Pairwise (fun x y => y < x) := by
  intro n
  induction n with
  | zero => exact List.Pairwise.nil
  | succ n ih =>
    cases hop : bk_op (ks n) with
    | true =>
      rw [bk_st_op hop]
      exact List.Pairwise.cons (fun y hy => (bk_lt n y hy).1) ih
    | false =>
      by_cases h5 : ks n = 5
      · rw [bk_st_end h5]
        cases hs : bk_st ks n with
        | nil => exact List.Pairwise.nil
        | cons x l =>
          rw [hs] at ih
          exact (List.pairwise_cons.mp ih).2
      · rw [bk_st_no hop h5]
        exact ih
/-- a block that has ended isn't open any more -/
theorem bk_once {ks : Nat → Int32} {j e o : Nat} {l : List Nat} (hj : bk_st ks j = o :: l) (h5 : ks j = 5) (hje : j < e) : o ∉ bk_st ks e := by
  intro h
  have hlt := (bk_lt j o (by rw [hj]; exact List.mem_cons_self)).1
  have h1 := bk_old (a := j + 1) e o (by omega) h (by omega)
  rw [bk_st_end h5, hj] at h1
  have h2 := bk_dec (ks := ks) j
  rw [hj] at h2
  have h3 := (List.pairwise_cons.mp h2).1 o h1
  omega
/-- i is the first statement from k on, in k's own block, with the property q; or n, if there is none -/
def bk_CL (ks : Nat → Int32) (n k : Nat) (q : Int32 → Prop) (i : Nat) : Prop := k ≤ i ∧ ((i < n ∧ bk_st ks i = bk_st ks k ∧ q (ks i)) ∨ i = n) ∧ ∀ j, k ≤ j → j < i → ¬ (bk_st ks j = bk_st ks k ∧ q (ks j))
theorem bk_CL_one {ks : Nat → Int32} {n k : Nat} {q : Int32 → Prop} {i j : Nat} (hi : bk_CL ks n k q i) (hj : bk_CL ks n k q j) : i = j := by
  have key : ∀ a b, bk_CL ks n k q a → bk_CL ks n k q b → ¬ a < b := by
    intro a b ha hb hab
    rcases ha.2.1 with ⟨h1, h2, h3⟩ | h1
    · exact hb.2.2 a ha.1 hab ⟨h2, h3⟩
    · rcases hb.2.1 with ⟨g1, -, -⟩ | g1 <;> omega
  have h1 := key i j hi hj
  have h2 := key j i hj hi
  omega
/-- a scan forward from k: what is open ahead of i is m blocks on top of what is open ahead of k -/
theorem bk_fwd {ks : Nat → Int32} {k i : Nat} {l : List Nat} (h : bk_st ks i = l ++ bk_st ks k) :
    (ks i = 5 → ∀ x l', l = x :: l' → bk_st ks (i + 1) = l' ++ bk_st ks k) ∧ (bk_op (ks i) = true → bk_st ks (i + 1) = (i :: l) ++ bk_st ks k) ∧ (bk_op (ks i) = false → ¬ ks i = 5 → bk_st ks (i + 1) = l ++ bk_st ks k) := by
  refine ⟨fun h5 x l' hl => ?_, fun ho => ?_, fun ho h5 => ?_⟩
  · rw [bk_st_end h5, h, hl]
    rfl
  · rw [bk_st_op ho, h]
    rfl
  · rw [bk_st_no ho h5, h]
/-- what is open below a block is what was open ahead of it -/
theorem bk_tail {ks : Nat → Int32} : ∀ (k : Nat) (pre : List Nat) (o : Nat) (l : List Nat), bk_st ks k = pre ++ o :: l → l = bk_st ks o := by
  intro k
  induction k with
  | zero =>
    intro pre o l h
    cases pre <;> cases h
  | succ k ih =>
    intro pre o l h
    cases hop : bk_op (ks k) with
    | true =>
      rw [bk_st_op hop] at h
      cases pre with
      | nil =>
        injection h with h1 h2
        rw [← h1]
        exact h2.symm
      | cons x pre =>
        injection h with h1 h2
        exact ih pre o l h2
    | false =>
      by_cases h5 : ks k = 5
      · rw [bk_st_end h5] at h
        cases hs : bk_st ks k with
        | nil =>
          rw [hs] at h
          cases pre <;> cases h
        | cons x r =>
          rw [hs] at h
          exact ih (x :: pre) o l (by rw [hs]; simpa using h)
      · rw [bk_st_no hop h5] at h
        exact ih pre o l h
def hdI (l : List Nat) : Int32 := match l with
  | [] => -1
  | o :: _ => nI o
theorem bk_len {ks : Nat → Int32} : ∀ n, (bk_st ks n).length ≤ n := by
  intro n
  induction n with
  | zero => exact Nat.le_refl _
  | succ n ih =>
    cases hop : bk_op (ks n) with
    | true => rw [bk_st_op hop]; simp; exact ih
    | false =>
      by_cases h5 : ks n = 5
      · rw [bk_st_end h5]; simp; omega
      · rw [bk_st_no hop h5]; omega
