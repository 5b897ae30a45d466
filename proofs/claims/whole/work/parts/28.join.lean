/-- the ELSE of the open block y, where there is one ahead of i; else y -/
def cu (ks : Nat → Int32) : Nat → Nat → Nat
  | 0, y => y
  | i + 1, y => if ks i = 7 ∧ (bk_st ks i).head? = some y then i else cu ks i y
theorem cu_cases {ks : Nat → Int32} : ∀ (i y : Nat), cu ks i y = y ∨ (y < cu ks i y ∧ cu ks i y < i ∧ ks (cu ks i y) = 7 ∧ (bk_st ks (cu ks i y)).head? = some y) := by
  intro i
  induction i with
  | zero => intro y; exact Or.inl rfl
  | succ i ih =>
    intro y
    simp only [cu]
    split
    · rename_i h
      have hm : y ∈ bk_st ks i := List.mem_of_mem_head? h.2
      exact Or.inr ⟨(bk_lt i y hm).1, Nat.lt_succ_self _, h.1, h.2⟩
    · rcases ih y with h | ⟨h1, h2, h3⟩
      · exact Or.inl h
      · exact Or.inr ⟨h1, Nat.lt_succ_of_lt h2, h3⟩
theorem cu_new {ks : Nat → Int32} {i y : Nat} (h : i ≤ y + 1) : cu ks i y = y := by
  rcases cu_cases (ks := ks) i y with g | ⟨g1, g2, -⟩
  · exact g
  · omega
theorem cu_s {ks : Nat → Int32} {i y : Nat} (h : ¬ ks i = 7) : cu ks (i + 1) y = cu ks i y := by simp [cu, h]
theorem cu_7 {ks : Nat → Int32} {i o : Nat} {l : List Nat} (h : ks i = 7) (hs : bk_st ks i = o :: l) : cu ks (i + 1) o = i ∧ ∀ y, y ≠ o → cu ks (i + 1) y = cu ks i y := by
  refine ⟨by simp [cu, h, hs], fun y hy => ?_⟩
  simp [cu, h, hs, Ne.symm hy]
theorem cu_op {ks : Nat → Int32} {i y : Nat} (hy : bk_op (ks y) = true) (h : ¬ ks (cu ks i y) = 7) : cu ks i y = y := by
  rcases cu_cases (ks := ks) i y with g | ⟨-, -, g3, -⟩
  · exact g
  · exact absurd g3 h
theorem cu_inj {ks : Nat → Int32} {i y z : Nat} (hy : bk_op (ks y) = true) (hz : bk_op (ks z) = true) (h : cu ks i y = cu ks i z) : y = z := by
  have h7 : bk_op 7 = false := rfl
  rcases cu_cases (ks := ks) i y with g | ⟨g1, g2, g3, g4⟩ <;> rcases cu_cases (ks := ks) i z with f | ⟨f1, f2, f3, f4⟩
  · rw [← g, ← f]; exact h
  · rw [← h, g] at f3
    rw [f3, h7] at hy
    cases hy
  · rw [h, f] at g3
    rw [g3, h7] at hz
    cases hz
  · rw [h] at g4
    rw [g4] at f4
    exact Option.some.inj f4
theorem cu_e7 {ks : Nat → Int32} {i o : Nat} {l : List Nat} (hs : bk_st ks i = o :: l) : cu ks i o = o ↔ ∀ j, o < j → j < i → bk_st ks j = bk_st ks i → ks j ≠ 7 := by
  constructor
  · intro h j h1 h2 h3 h4
    -- an ELSE at j is kept by cu
    have key : ∀ n, j < n → n ≤ i → cu ks n o ≠ o := by
      intro n
      induction n with
      | zero => intro g; omega
      | succ n ih =>
        intro g1 g2
        simp only [cu]
        split
        · omega
        · rename_i hn
          rcases Nat.lt_or_ge j n with g3 | g3
          · exact ih g3 (by omega)
          · have : j = n := by omega
            subst this
            exact absurd ⟨h4, by rw [h3, hs]; rfl⟩ hn
    exact key i h2 (Nat.le_refl _) h
  · intro h
    rcases cu_cases (ks := ks) i o with g | ⟨g1, g2, g3, g4⟩
    · exact g
    · exfalso
      refine h _ g1 g2 ?_ g3
      cases hq : bk_st ks (cu ks i o) with
      | nil => rw [hq] at g4; cases g4
      | cons a l' =>
        rw [hq] at g4
        have : a = o := Option.some.inj g4
        subst this
        rw [hs, (bk_in hq).2.2.1, (bk_in hs).2.2.1]
/-- the locks that are held where these blocks are open -/
def hl (ks ns : Nat → Int32) (rq : Int32) : List Nat → Int32
  | [] => rq
  | o :: l => if ks o = 4 then hl ks ns rq l ||| ((1 : Int32) <<< (ns o &&& 31)) else hl ks ns rq l
/-- a body's cells, while its blocks are joined -/
def jb (A : Nat → Nat → Int32) (q : Nat) (rq : Int32) (pt hd : Nat → Int32) : Nat → Nat → Int32 := fun a b => if a = q ∧ b = 5 then rq else if a = q + 3 then pt b else if a = q + 4 then hd b else A a b
theorem jb_pt {A : Nat → Nat → Int32} {q : Nat} {rq : Int32} {pt hd : Nat → Int32} {i : Nat} {v : Int32} : pm_u (jb A q rq pt hd) (q + 3) i v = jb A q rq (va_up pt i v) hd := by
  funext a b
  simp only [pm_u, jb, va_up]
  by_cases h1 : a = q + 3
  · subst h1
    by_cases h2 : b = i <;> simp [h2]
  · simp [h1]
theorem jb_hd {A : Nat → Nat → Int32} {q : Nat} {rq : Int32} {pt hd : Nat → Int32} {i : Nat} {v : Int32} : pm_u (jb A q rq pt hd) (q + 4) i v = jb A q rq pt (va_up hd i v) := by
  funext a b
  simp only [pm_u, jb, va_up]
  by_cases h1 : a = q + 4
  · subst h1
    by_cases h2 : b = i <;> simp [h2]
  · simp [h1]
/-- what the pointers are, for the blocks that have ended ahead of i -/
def jc (ks : Nat → Int32) (pt : Nat → Int32) (i : Nat) : Prop := ∀ e, e < i → ks e = 5 → ∀ o l, bk_st ks e = o :: l → pt (cu ks e o) = nI e ∧ pt e = nI (cu ks e o) ∧ (cu ks e o ≠ o → pt o = nI (cu ks e o))
/-- and for those that are open -/
def jo (ks : Nat → Int32) (pt : Nat → Int32) (i : Nat) : Prop := (∀ l1 y l2, bk_st ks i = l1 ++ y :: l2 → pt (cu ks i y) = hdI (l2.map (cu ks i))) ∧ ∀ y, y ∈ bk_st ks i → cu ks i y ≠ y → pt y = nI (cu ks i y)
theorem cu_lt {ks : Nat → Int32} {i y : Nat} (h : y < i) : cu ks i y < i := by
  rcases cu_cases (ks := ks) i y with g | ⟨-, g, -⟩
  · rw [g]; exact h
  · exact g
theorem bk_mem {ks : Nat → Int32} {i o : Nat} {l : List Nat} (h : bk_st ks i = o :: l) : o ∈ bk_st ks i := by rw [h]; exact List.mem_cons_self
theorem j_op {ks pt : Nat → Int32} {i : Nat} (ho : bk_op (ks i) = true) (hc : jc ks pt i) (hj : jo ks pt i) : jc ks (va_up pt i (hdI ((bk_st ks i).map (cu ks i)))) (i + 1) ∧ jo ks (va_up pt i (hdI ((bk_st ks i).map (cu ks i)))) (i + 1) := by
  have h5 : ¬ ks i = 5 := fun g => by rw [g] at ho; cases ho
  have h7 : ¬ ks i = 7 := fun g => by rw [g] at ho; cases ho
  have hcu : cu ks (i + 1) = cu ks i := by funext y; exact cu_s h7
  refine ⟨fun e he h o l hs => ?_, fun l1 y l2 hs => ?_, fun y hy hne => ?_⟩
  · have hei : e < i := by
      rcases Nat.lt_or_ge e i with g | g
      · exact g
      · have : e = i := by omega
        subst this
        exact absurd h h5
    obtain ⟨a1, a2, a3⟩ := hc e hei h o l hs
    have ho := (bk_in hs).1
    have hcl := cu_lt (ks := ks) ho
    rw [va_up_ne _ _ (by omega), va_up_ne _ _ (by omega)]
    exact ⟨a1, a2, fun g => by rw [va_up_ne _ _ (by omega)]; exact a3 g⟩
  · rw [bk_st_op ho] at hs
    rw [hcu]
    cases l1 with
    | nil =>
      injection hs with e1 e2
      subst e1
      rw [cu_new (by omega), va_up_self, e2]
    | cons z l1 =>
      injection hs with e1 e2
      have hy := (bk_lt i y (by rw [e2]; simp)).1
      have := cu_lt (ks := ks) hy
      rw [va_up_ne _ _ (by omega)]
      exact hj.1 l1 y l2 e2
  · rw [hcu] at hne ⊢
    rw [bk_st_op ho] at hy
    rcases List.mem_cons.mp hy with rfl | hy
    · exact absurd (cu_new (by omega)) hne
    · have := (bk_lt i y hy).1
      rw [va_up_ne _ _ (by omega)]
      exact hj.2 y hy hne
theorem bk_once' {ks : Nat → Int32} {e i o y : Nat} {l : List Nat} (hs : bk_st ks e = o :: l) (h5 : ks e = 5) (hei : e < i) (hy : y ∈ bk_st ks i) : o ≠ y := fun g => bk_once hs h5 hei (g ▸ hy)
theorem cu_sep {ks : Nat → Int32} {e i o y : Nat} (ho : bk_op (ks o) = true) (hy : bk_op (ks y) = true) (hne : o ≠ y) : cu ks e o ≠ cu ks i y := by
  have h7 : bk_op 7 = false := rfl
  intro h
  rcases cu_cases (ks := ks) e o with g | ⟨g1, g2, g3, g4⟩ <;> rcases cu_cases (ks := ks) i y with f | ⟨f1, f2, f3, f4⟩
  · exact hne (by rw [← g, ← f]; exact h)
  · rw [← h, g] at f3
    rw [f3, h7] at ho
    cases ho
  · rw [h, f] at g3
    rw [g3, h7] at hy
    cases hy
  · rw [h] at g4
    rw [g4] at f4
    exact hne (Option.some.inj f4)
theorem cu_neop {ks : Nat → Int32} {i y z : Nat} (hy : bk_op (ks y) = true) (hz : bk_op (ks z) = true) (hne : z ≠ y) : z ≠ cu ks i y := by
  intro h
  rcases cu_cases (ks := ks) i y with g | ⟨-, -, g3, -⟩
  · exact hne (h.trans g)
  · rw [← h] at g3
    rw [g3] at hz
    cases hz
theorem cu_ne5 {ks : Nat → Int32} {i y z : Nat} (hy : bk_op (ks y) = true) (hz : ks z = 5) : z ≠ cu ks i y := by
  intro h
  rcases cu_cases (ks := ks) i y with g | ⟨-, -, g3, -⟩
  · rw [h, g] at hz
    rw [hz] at hy
    cases hy
  · rw [← h, hz] at g3
    exact absurd g3 (by decide)
theorem bk_ne_tail {ks : Nat → Int32} {i o y : Nat} {l : List Nat} (hs : bk_st ks i = o :: l) (hy : y ∈ l) : y ≠ o := by
  have h2 := bk_dec (ks := ks) i
  rw [hs] at h2
  have h3 := (List.pairwise_cons.mp h2).1 y hy
  omega
theorem j_else {ks pt : Nat → Int32} {i o : Nat} {l : List Nat} (h7 : ks i = 7) (hs : bk_st ks i = o :: l) (hcu : cu ks i o = o) (hc : jc ks pt i) (hj : jo ks pt i) : jc ks (va_up (va_up pt i (pt o)) o (nI i)) (i + 1) ∧ jo ks (va_up (va_up pt i (pt o)) o (nI i)) (i + 1) := by
  obtain ⟨io, iop, il, -⟩ := bk_in hs
  have hop : bk_op (ks i) = false := by rw [h7]; rfl
  have h5 : ¬ ks i = 5 := by rw [h7]; decide
  obtain ⟨c1, c2⟩ := cu_7 h7 hs
  have hst : bk_st ks (i + 1) = bk_st ks i := bk_st_no hop h5
  refine ⟨fun e he h o' l' hs' => ?_, fun l1 y l2 hs' => ?_, fun y hy hne => ?_⟩
  · have hei : e < i := by
      rcases Nat.lt_or_ge e i with g | g
      · exact g
      · have : e = i := by omega
        subst this
        exact absurd h h5
    obtain ⟨a1, a2, a3⟩ := hc e hei h o' l' hs'
    have ho' := bk_in hs'
    have hcl := cu_lt (ks := ks) ho'.1
    have hne := bk_once' hs' h hei (bk_mem hs)
    have n1 : cu ks e o' ≠ o := by
      have := cu_sep (ks := ks) (e := e) (i := i) ho'.2.1 iop hne
      rw [hcu] at this
      exact this
    have n2 : e ≠ o := fun g => by rw [← g, h] at iop; cases iop
    rw [va_up_ne _ _ n1, va_up_ne _ _ (by omega), va_up_ne _ _ n2, va_up_ne _ _ (by omega)]
    exact ⟨a1, a2, fun g => by rw [va_up_ne _ _ hne, va_up_ne _ _ (by omega)]; exact a3 g⟩
  · rw [hst] at hs'
    have hl2 : ∀ z, z ∈ l2 → z ≠ o → cu ks (i + 1) z = cu ks i z := fun z _ hz => c2 z hz
    cases l1 with
    | nil =>
      rw [hs] at hs'
      injection hs' with e1 e2
      subst e1
      subst e2
      rw [c1, va_up_ne _ _ (by omega), va_up_self]
      have := hj.1 [] o l hs
      rw [hcu] at this
      rw [this]
      congr 1
      exact List.map_congr_left (fun z hz => (c2 z (bk_ne_tail hs hz)).symm)
    | cons z l1 =>
      have hs2 := hs'
      rw [hs] at hs'
      injection hs' with e1 e2
      have hyl : y ∈ l := by rw [e2]; simp
      have hyo := bk_ne_tail hs hyl
      have hyop := bk_lt i y (by rw [hs]; exact List.mem_cons_of_mem _ hyl)
      have hcl := cu_lt (ks := ks) hyop.1
      have n1 : cu ks i y ≠ o := fun g => hyo (cu_inj hyop.2 iop (g.trans hcu.symm))
      rw [c2 y hyo, va_up_ne _ _ n1, va_up_ne _ _ (by omega), hj.1 (z :: l1) y l2 hs2]
      congr 1
      refine List.map_congr_left (fun w hw => (c2 w (bk_ne_tail hs ?_)).symm)
      rw [e2]
      exact List.mem_append_right _ (List.mem_cons_of_mem _ hw)
  · rw [hst] at hy
    by_cases hyo : y = o
    · subst hyo
      rw [c1, va_up_self]
    · rw [c2 y hyo] at hne ⊢
      have := (bk_lt i y hy).1
      rw [va_up_ne _ _ hyo, va_up_ne _ _ (by omega)]
      exact hj.2 y hy hne
theorem j_end {ks pt : Nat → Int32} {i o : Nat} {l : List Nat} (h5 : ks i = 5) (hs : bk_st ks i = o :: l) (hc : jc ks pt i) (hj : jo ks pt i) : jc ks (va_up (va_up pt (cu ks i o) (nI i)) i (nI (cu ks i o))) (i + 1) ∧ jo ks (va_up (va_up pt (cu ks i o) (nI i)) i (nI (cu ks i o))) (i + 1) := by
  obtain ⟨io, iop, il, -⟩ := bk_in hs
  have h7 : ¬ ks i = 7 := by rw [h5]; decide
  have hcu : cu ks (i + 1) = cu ks i := by funext y; exact cu_s h7
  have hst : bk_st ks (i + 1) = l := by rw [bk_st_end h5, hs]; rfl
  have hci := cu_lt (ks := ks) io
  refine ⟨fun e he h o' l' hs' => ?_, fun l1 y l2 hs' => ?_, fun y hy hne => ?_⟩
  · by_cases hei : e = i
    · subst hei
      rw [hs] at hs'
      cases hs'
      refine ⟨by rw [va_up_ne _ _ (by omega), va_up_self], va_up_self _ _ _, fun g => ?_⟩
      rw [va_up_ne _ _ (by omega), va_up_ne _ _ (Ne.symm g)]
      exact hj.2 o (bk_mem hs) g
    · have hei : e < i := by omega
      obtain ⟨a1, a2, a3⟩ := hc e hei h o' l' hs'
      have ho' := bk_in hs'
      have hcl := cu_lt (ks := ks) ho'.1
      have hne := bk_once' hs' h hei (bk_mem hs)
      rw [va_up_ne _ _ (by omega), va_up_ne _ _ (cu_sep ho'.2.1 iop hne), va_up_ne _ _ (by omega), va_up_ne _ _ (cu_ne5 iop h)]
      exact ⟨a1, a2, fun g => by rw [va_up_ne _ _ (by omega), va_up_ne _ _ (cu_neop iop ho'.2.1 hne)]; exact a3 g⟩
  · rw [hst] at hs'
    rw [hcu]
    have hyl : y ∈ l := by rw [hs']; simp
    have hyop := bk_lt i y (by rw [hs]; exact List.mem_cons_of_mem _ hyl)
    have hcl := cu_lt (ks := ks) hyop.1
    have n1 : cu ks i y ≠ cu ks i o := fun g => bk_ne_tail hs hyl (cu_inj hyop.2 iop g)
    rw [va_up_ne _ _ (by omega), va_up_ne _ _ n1]
    exact hj.1 (o :: l1) y l2 (by rw [hs, hs']; rfl)
  · rw [hst] at hy
    rw [hcu] at hne ⊢
    have hyop := bk_lt i y (by rw [hs]; exact List.mem_cons_of_mem _ hy)
    rw [va_up_ne _ _ (by omega), va_up_ne _ _ (cu_neop iop hyop.2 (bk_ne_tail hs hy))]
    exact hj.2 y (by rw [hs]; exact List.mem_cons_of_mem _ hy) hne
theorem j_no {ks pt : Nat → Int32} {i : Nat} (ho : bk_op (ks i) = false) (h5 : ¬ ks i = 5) (h7 : ¬ ks i = 7) (hc : jc ks pt i) (hj : jo ks pt i) : jc ks pt (i + 1) ∧ jo ks pt (i + 1) := by
  have hcu : cu ks (i + 1) = cu ks i := by funext y; exact cu_s h7
  have hst := bk_st_no ho h5
  refine ⟨fun e he h o l hs => ?_, fun l1 y l2 hs => ?_, fun y hy hne => ?_⟩
  · refine hc e ?_ h o l hs
    rcases Nat.lt_or_ge e i with g | g
    · exact g
    · have : e = i := by omega
      subst this
      exact absurd h h5
  · rw [hst] at hs
    rw [hcu]
    exact hj.1 l1 y l2 hs
  · rw [hst] at hy
    rw [hcu] at hne ⊢
    exact hj.2 y hy hne
/-- the locks behind the end of a block are those ahead of it -/
theorem hl_end {ks ns : Nat → Int32} {rq : Int32} {i o : Nat} {l : List Nat} {hd : Nat → Int32} (hs : bk_st ks i = o :: l) (hok : ∀ j, j < i → ks j = 7 → bk_e7 ks j) (hh : ∀ j, j < i → hd j = hl ks ns rq (bk_st ks j)) : hd (cu ks i o) = hl ks ns rq l := by
  obtain ⟨io, iop, il, -⟩ := bk_in hs
  rcases cu_cases (ks := ks) i o with g | ⟨g1, g2, g3, g4⟩
  · rw [g, hh o io, ← il]
  · rw [hh _ g2]
    obtain ⟨o', l', e1, e2, -⟩ := hok _ g2 g3
    rw [e1] at g4
    have : o' = o := Option.some.inj g4
    subst this
    rw [e1, (bk_in e1).2.2.1, il]
    simp [hl, e2]
