/-- a row of six ints becomes another's -/
def cp6 (A : Nat → Nat → Int32) (e c : Nat) : Nat → Nat → Int32 := fun a b => if a = e ∧ b < 6 then A c b else A a b
section OBJS3
variable {d : Nat} {SL : Nat} {S : Nat → Nat × Nat} {A : Nat → Nat → Int32} {P : Nat → Nat → Option Nat}
theorem q_copy6 {Q : pm_R → Prop} {tb : Nat → Option pm_I} {pc x : Nat} {lc st : List Value} {c e : Nat} (hf : tb pc = some (pm_copy x)) (hc : pm_is S c 0 6) (he : pm_is S e 0 6) (hcat : pm_cat st ≤ 8) (kk : BB d tb x lc st SL S (cp6 A e c) P Q) : BB d tb pc lc (.int 6 :: .int 0 :: .ref e :: .int 0 :: .ref c :: st) SL S A P Q := by
  refine pm_B.next hf ?_ kk
  have h1 : ((6 : Int32) < 0) = False := by simp [show ¬ (6 : Int32) < 0 by decide]
  have h2 : (6 : Int32).toNatClampNeg = 6 := by decide
  have h3 : (0 : Int32).toNatClampNeg = 0 := by decide
  have h4 : pm_row A e (va_cpy (A c) (A e) 0 0 6) = cp6 A e c := by
    funext a b
    simp only [pm_row, va_cpy, cp6]
    by_cases ha : a = e
    · by_cases hb : b < 6
      · simp [ha, hb]
      · simp [ha, hb]
    · simp [ha]
  simp only [pm_copy, hc.1, hc.2, he.1, he.2, h2, h3, hcat, pm_nx, ← h4]
  simp
theorem x_Lk_take {l s : Nat} {hd nb t : Int32} (k : kL S P l) (ks : kS S P s) (hh : A l 1 = hd) (hb : A s 0 = nb) (ht : A l 2 = t) (hls : l + 1 ≠ s + 3 ∧ s + 3 ≠ l ∧ s + 3 ≠ s) : EE (d + 1) M_Lk_take [.ref l, .ref s] SL S A P (fun r => (hd = -1 ∧ r = ((131, SL, S, pm_u (pm_u (mxr A (s + 3) (l + 1) 6) l 1 nb) l 2 (t + 1), P), none)) ∨ (hd ≠ -1 ∧ r = ((131, SL, S, pm_u A l 2 (t + 1), P), none))) := by
  obtain ⟨⟨s0, s1⟩, p0⟩ := k
  have ks' := ks
  obtain ⟨⟨t0, t1, t2, t3⟩, p1, p2, p3⟩ := ks
  obtain ⟨n1, n2, n3⟩ := hls
  refine q_of (tb := fun j => tb_Lk_take[j]?) rfl rfl (Nat.le_of_ble_eq_true rfl) ?_
  show BB _ _ 0 [.ref l, .ref s] [] _ _ _ _ _
  repeat (first | refine pm_B.next rfl rfl ?_ | refine q_getr rfl (by assumption) (by decide) (by assumption) ?_ | refine q_geti rfl (by assumption) (by decide) (by assumption) ?_ | refine q_iald rfl (by assumption) _ rfl (by first | assumption | omega) (by decide) rfl ?_)
  refine r_ic rfl (fun h => ?_) (fun h => ?_)
  · have h := of_decide_eq_true h
    repeat (first | refine pm_B.next rfl rfl ?_ | refine q_getr rfl (by assumption) (by decide) (by assumption) ?_ | refine q_geti rfl (by assumption) (by decide) (by assumption) ?_ | refine q_iald rfl (by assumption) _ rfl (by first | assumption | omega) (by decide) rfl ?_ | refine q_puti rfl (by assumption) (by decide) ?_ | refine q_iast rfl (by assumption) _ rfl (by first | assumption | omega) (by decide) ?_)
    exact q_vret rfl (Or.inr ⟨h, rfl⟩)
  · have h := Decidable.not_not.mp (of_decide_eq_false h)
    repeat (first | refine pm_B.next rfl rfl ?_ | refine q_getr rfl (by assumption) (by decide) (by assumption) ?_ | refine q_geti rfl (by assumption) (by decide) (by assumption) ?_ | refine q_iald rfl (by assumption) _ rfl (by first | assumption | omega) (by decide) rfl ?_)
    refine q_cv rfl t0 rfl (Nat.le_of_ble_eq_true rfl) (Nat.le_of_ble_eq_true rfl) (x_Sd_learn ks' s1 n1) ?_
    iterate 2 refine pm_B.next rfl rfl ?_
    refine q_geti rfl t0 (by decide) (v := nb) (by simp [mxr, Ne.symm n3, hb]) ?_
    refine q_puti rfl s0 (by decide) ?_
    iterate 2 refine pm_B.next rfl rfl ?_
    refine q_geti rfl s0 (by decide) (v := t) (by rw [u_ni (by decide)]; simp [mxr, Ne.symm n2, ht]) ?_
    iterate 2 refine pm_B.next rfl rfl ?_
    refine q_puti rfl s0 (by decide) ?_
    exact q_vret rfl (Or.inl ⟨h, rfl⟩)
theorem x_Lk_release {l s : Nat} {t : Int32} (k : kL S P l) (ks : kS S P s) (ht : A l 2 = t) : EE d M_Lk_release [.ref l, .ref s] SL S A P (fun r => (t - 1 ≠ 0 ∧ r = ((131, SL, S, pm_u A l 2 (t - 1), P), none)) ∨ (t - 1 = 0 ∧ r = ((131, SL, S, cp6 (pm_u (pm_u A l 2 (t - 1)) l 1 (-1)) (l + 1) (s + 3), P), none))) := by
  obtain ⟨⟨s0, s1⟩, p0⟩ := k
  obtain ⟨⟨t0, t1, t2, t3⟩, p1, p2, p3⟩ := ks
  refine q_of (tb := fun j => tb_Lk_release[j]?) rfl rfl (Nat.le_of_ble_eq_true rfl) ?_
  show BB _ _ 0 [.ref l, .ref s] [] _ _ _ _ _
  repeat (first | refine pm_B.next rfl rfl ?_ | refine q_getr rfl (by assumption) (by decide) (by assumption) ?_ | refine q_geti rfl (by assumption) (by decide) (by assumption) ?_ | refine q_iald rfl (by assumption) _ rfl (by first | assumption | omega) (by decide) rfl ?_)
  refine q_puti rfl s0 (by decide) ?_
  iterate 1 refine pm_B.next rfl rfl ?_
  refine q_geti rfl s0 (by decide) (v := t - 1) u_eq ?_
  refine r_if rfl (fun h => ?_) (fun h => ?_)
  · have h := of_decide_eq_true h
    exact q_vret rfl (Or.inl ⟨h, rfl⟩)
  · have h := Decidable.not_not.mp (of_decide_eq_false h)
    repeat (first | refine pm_B.next rfl rfl ?_ | refine q_getr rfl (by assumption) (by decide) (by assumption) ?_ | refine q_geti rfl (by assumption) (by decide) (by assumption) ?_ | refine q_iald rfl (by assumption) _ rfl (by first | assumption | omega) (by decide) rfl ?_ | refine q_puti rfl (by assumption) (by decide) ?_ | refine q_iast rfl (by assumption) _ rfl (by first | assumption | omega) (by decide) ?_)
    refine q_copy6 rfl t3 s1 (Nat.le_of_ble_eq_true rfl) ?_
    exact q_vret rfl (Or.inr ⟨h, rfl⟩)
/-- a race: a write, or for a write a read, of which the clock doesn't know -/
def rc_ (A : Nat → Nat → Int32) (c k : Nat) (w : Int32) (t : Nat) : Prop := A k t < A (c + 2) t ∨ (w ≠ 0 ∧ A k t < A (c + 1) t)
theorem x_Ce_races {c e : Nat} {w : Int32} (k : kC S P c) (he : pm_is S e 0 6) : EE d M_Ce_races [.ref c, .ref e, .int w] SL S A P (fun r => ((∃ t, t < 6 ∧ rc_ A c e w t) ∧ r = ((131, SL, S, A, P), some (.int 1))) ∨ ((∀ t, t < 6 → ¬ rc_ A c e w t) ∧ r = ((131, SL, S, A, P), some (.int 0)))) := by
  obtain ⟨⟨s0, s1, s2⟩, p0, p1⟩ := k
  refine q_of (tb := fun j => tb_Ce_races[j]?) rfl rfl (Nat.le_of_ble_eq_true rfl) ?_
  show BB _ _ 0 [.ref c, .ref e, .int w, .null] [] _ _ _ _ _
  iterate 2 refine pm_B.next rfl rfl ?_
  suffices h : ∀ k i, i + k = 6 → (∀ t, t < i → ¬ rc_ A c e w t) → BB d (fun j => tb_Ce_races[j]?) 2 [.ref c, .ref e, .int w, .int (nI i)] [] SL S A P (fun r => (131 ≤ r.1.1 ∧ SL ≤ r.1.2.1) ∧ (((∃ t, t < 6 ∧ rc_ A c e w t) ∧ r = ((131, SL, S, A, P), some (.int 1))) ∨ ((∀ t, t < 6 → ¬ rc_ A c e w t) ∧ r = ((131, SL, S, A, P), some (.int 0))))) from h 6 0 (by omega) (fun t ht => absurd ht (Nat.not_lt_zero t))
  intro k
  induction k with
  | zero =>
    intro i hi hno
    have : i = 6 := by omega
    subst this
    repeat refine pm_B.next rfl rfl ?_
    exact q_zret (Q := fun r => ((∃ t, t < 6 ∧ rc_ A c e w t) ∧ r = ((131, SL, S, A, P), some (.int 1))) ∨ ((∀ t, t < 6 → ¬ rc_ A c e w t) ∧ r = ((131, SL, S, A, P), some (.int 0)))) rfl (Or.inl rfl) (Or.inr ⟨hno, rfl⟩)
  | succ k ih =>
    intro i hi hno
    have hyes : rc_ A c e w i → BB d (fun j => tb_Ce_races[j]?) 23 [.ref c, .ref e, .int w, .int (nI i)] [] SL S A P (fun r => (131 ≤ r.1.1 ∧ SL ≤ r.1.2.1) ∧ (((∃ t, t < 6 ∧ rc_ A c e w t) ∧ r = ((131, SL, S, A, P), some (.int 1))) ∨ ((∀ t, t < 6 → ¬ rc_ A c e w t) ∧ r = ((131, SL, S, A, P), some (.int 0))))) := by
      intro hr
      iterate 1 refine pm_B.next rfl rfl ?_
      exact q_zret (Q := fun r => ((∃ t, t < 6 ∧ rc_ A c e w t) ∧ r = ((131, SL, S, A, P), some (.int 1))) ∨ ((∀ t, t < 6 → ¬ rc_ A c e w t) ∧ r = ((131, SL, S, A, P), some (.int 0)))) rfl (Or.inr rfl) (Or.inl ⟨⟨i, by omega, hr⟩, rfl⟩)
    have hon : ¬ rc_ A c e w i → BB d (fun j => tb_Ce_races[j]?) 25 [.ref c, .ref e, .int w, .int (nI i)] [] SL S A P (fun r => (131 ≤ r.1.1 ∧ SL ≤ r.1.2.1) ∧ (((∃ t, t < 6 ∧ rc_ A c e w t) ∧ r = ((131, SL, S, A, P), some (.int 1))) ∨ ((∀ t, t < 6 → ¬ rc_ A c e w t) ∧ r = ((131, SL, S, A, P), some (.int 0))))) := by
      intro hr
      iterate 2 refine pm_B.next rfl rfl ?_
      refine q_lc (lc' := [.ref c, .ref e, .int w, .int (nI (i + 1))]) (by rw [nI_succ]; rfl) ?_
      exact ih (i + 1) (by omega) (lt_s hno hr)
    repeat refine pm_B.next rfl rfl ?_
    refine r_icF rfl (decide_eq_false (nI_ge (a := i) (b := 6) (by omega) (by decide))) ?_
    repeat (first | refine pm_B.next rfl rfl ?_ | refine q_getr rfl (by assumption) (by decide) (by assumption) ?_ | refine q_geti rfl (by assumption) (by decide) (by assumption) ?_ | refine q_iald rfl (by assumption) _ rfl (by first | assumption | omega) (by decide) rfl ?_)
    refine r_ic rfl (fun h => ?_) (fun h => ?_)
    · exact hyes (Or.inl (of_decide_eq_true h))
    · have h := of_decide_eq_false h
      repeat refine pm_B.next rfl rfl ?_
      refine r_if rfl (fun g => ?_) (fun g => ?_)
      · have g := of_decide_eq_true g
        exact hon (fun q => q.elim h (fun z => z.1 g))
      · have g := of_decide_eq_false g
        repeat (first | refine pm_B.next rfl rfl ?_ | refine q_getr rfl (by assumption) (by decide) (by assumption) ?_ | refine q_geti rfl (by assumption) (by decide) (by assumption) ?_ | refine q_iald rfl (by assumption) _ rfl (by first | assumption | omega) (by decide) rfl ?_)
        refine r_ic rfl (fun f => ?_) (fun f => ?_)
        · have f := of_decide_eq_true f
          exact hon (fun q => q.elim h (fun z => absurd z.2 (Int32.not_lt.mpr f)))
        · have f := of_decide_eq_false f
          exact hyes (Or.inr ⟨g, Int32.not_le.mp f⟩)
end OBJS3
