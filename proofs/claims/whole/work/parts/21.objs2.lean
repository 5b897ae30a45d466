/-- the first n ints of a row are v -/
def fl (A : Nat → Nat → Int32) (c n : Nat) (v : Int32) : Nat → Nat → Int32 := fun a b => if a = c ∧ b < n then v else A a b
theorem fl_0 {A : Nat → Nat → Int32} {c : Nat} {v : Int32} : fl A c 0 v = A := by
  funext a b
  simp [fl]
theorem fl_s {A : Nat → Nat → Int32} {c i : Nat} {v : Int32} : pm_u (fl A c i v) c i v = fl A c (i + 1) v := by
  funext a b
  simp only [pm_u, fl]
  by_cases h1 : a = c
  · by_cases h2 : b = i
    · simp [h1, h2]
    · by_cases h3 : b < i
      · have : b < i + 1 := by omega
        simp [h1, h2, h3, this]
      · have : ¬ b < i + 1 := by omega
        simp [h1, h2, h3, this]
  · simp [h1]
theorem fl_in {A : Nat → Nat → Int32} {c n b : Nat} {v : Int32} (h : b < n) : fl A c n v c b = v := by simp [fl, h]
theorem fl_nc {A : Nat → Nat → Int32} {c n a b : Nat} {v : Int32} (h : a ≠ c) : fl A c n v a b = A a b := by simp [fl, h]
section OBJS2
variable {d : Nat} {SL : Nat} {S : Nat → Nat × Nat} {A : Nat → Nat → Int32} {P : Nat → Nat → Option Nat}
theorem x_fill {c n : Nat} {v : Int32} (hs : pm_is S c 0 n) (hn : n < 2 ^ 31) : EE d M_Ar_fill [.ref c, .int v] SL S A P (fun r => r = ((131, SL, S, fl A c n v, P), none)) := by
  refine q_of (tb := fun j => tb_Ar_fill[j]?) rfl rfl (Nat.le_of_ble_eq_true rfl) ?_
  show BB _ _ 0 [.ref c, .int v, .null, .null] [] _ _ _ _ _
  repeat refine pm_B.next rfl rfl ?_
  refine q_alen rfl hs rfl ?_
  iterate 1 refine pm_B.next rfl rfl ?_
  suffices h : ∀ k i, i + k = n → BB d (fun j => tb_Ar_fill[j]?) 5 [.ref c, .int v, .int (nI i), .int (nI n)] [] SL S (fl A c i v) P (fun r => (131 ≤ r.1.1 ∧ SL ≤ r.1.2.1) ∧ r = ((131, SL, S, fl A c n v, P), none)) by
    have := h n 0 (by omega)
    rw [fl_0] at this
    exact this
  intro k
  induction k with
  | zero =>
    intro i hi
    have : i = n := by omega
    subst this
    repeat refine pm_B.next rfl rfl ?_
    refine r_icT rfl (decide_eq_true (nI_le (Nat.le_refl _) hn)) ?_
    exact q_vret rfl rfl
  | succ k ih =>
    intro i hi
    repeat refine pm_B.next rfl rfl ?_
    refine r_icF rfl (decide_eq_false (nI_ge (by omega) hn)) ?_
    repeat refine pm_B.next rfl rfl ?_
    refine q_iast rfl hs i rfl (by omega) hn ?_
    rw [fl_s]
    iterate 2 refine pm_B.next rfl rfl ?_
    refine q_lc (lc' := [.ref c, .int v, .int (nI (i + 1)), .int (nI n)]) (by rw [nI_succ]; rfl) ?_
    exact ih (i + 1) (by omega)
theorem x_Lk_clear {l : Nat} (k : kL S P l) : EE (d + 1) M_Lk_clear [.ref l] SL S A P (fun r => r = ((131, SL, S, pm_u (pm_u (fl A (l + 1) 6 0) l 1 (-1)) l 2 0, P), none)) := by
  obtain ⟨⟨s0, s1⟩, p0⟩ := k
  refine q_of (tb := fun j => tb_Lk_clear[j]?) rfl rfl (Nat.le_of_ble_eq_true rfl) ?_
  show BB _ _ 0 [.ref l] [] _ _ _ _ _
  repeat (first | refine pm_B.next rfl rfl ?_ | refine q_getr rfl (by assumption) (by decide) (by assumption) ?_ | refine q_geti rfl (by assumption) (by decide) (by assumption) ?_ | refine q_iald rfl (by assumption) _ rfl (by first | assumption | omega) (by decide) rfl ?_ | refine q_puti rfl (by assumption) (by decide) ?_ | refine q_iast rfl (by assumption) _ rfl (by first | assumption | omega) (by decide) ?_)
  refine q_cs rfl rfl (Nat.le_of_ble_eq_true rfl) (Nat.le_of_ble_eq_true rfl) (x_fill s1 (by decide)) ?_
  repeat (first | refine pm_B.next rfl rfl ?_ | refine q_getr rfl (by assumption) (by decide) (by assumption) ?_ | refine q_geti rfl (by assumption) (by decide) (by assumption) ?_ | refine q_iald rfl (by assumption) _ rfl (by first | assumption | omega) (by decide) rfl ?_ | refine q_puti rfl (by assumption) (by decide) ?_ | refine q_iast rfl (by assumption) _ rfl (by first | assumption | omega) (by decide) ?_)
  exact q_vret rfl rfl
theorem x_Ce_clear {c : Nat} (k : kC S P c) : EE (d + 1) M_Ce_clear [.ref c] SL S A P (fun r => r = ((131, SL, S, pm_u (fl (fl A (c + 1) 6 0) (c + 2) 6 0) c 2 0, P), none)) := by
  obtain ⟨⟨s0, s1, s2⟩, p0, p1⟩ := k
  refine q_of (tb := fun j => tb_Ce_clear[j]?) rfl rfl (Nat.le_of_ble_eq_true rfl) ?_
  show BB _ _ 0 [.ref c] [] _ _ _ _ _
  repeat (first | refine pm_B.next rfl rfl ?_ | refine q_getr rfl (by assumption) (by decide) (by assumption) ?_ | refine q_geti rfl (by assumption) (by decide) (by assumption) ?_ | refine q_iald rfl (by assumption) _ rfl (by first | assumption | omega) (by decide) rfl ?_ | refine q_puti rfl (by assumption) (by decide) ?_ | refine q_iast rfl (by assumption) _ rfl (by first | assumption | omega) (by decide) ?_)
  refine q_cs rfl rfl (Nat.le_of_ble_eq_true rfl) (Nat.le_of_ble_eq_true rfl) (x_fill s1 (by decide)) ?_
  repeat (first | refine pm_B.next rfl rfl ?_ | refine q_getr rfl (by assumption) (by decide) (by assumption) ?_ | refine q_geti rfl (by assumption) (by decide) (by assumption) ?_ | refine q_iald rfl (by assumption) _ rfl (by first | assumption | omega) (by decide) rfl ?_ | refine q_puti rfl (by assumption) (by decide) ?_ | refine q_iast rfl (by assumption) _ rfl (by first | assumption | omega) (by decide) ?_)
  refine q_cs rfl rfl (Nat.le_of_ble_eq_true rfl) (Nat.le_of_ble_eq_true rfl) (x_fill s2 (by decide)) ?_
  repeat (first | refine pm_B.next rfl rfl ?_ | refine q_getr rfl (by assumption) (by decide) (by assumption) ?_ | refine q_geti rfl (by assumption) (by decide) (by assumption) ?_ | refine q_iald rfl (by assumption) _ rfl (by first | assumption | omega) (by decide) rfl ?_ | refine q_puti rfl (by assumption) (by decide) ?_ | refine q_iast rfl (by assumption) _ rfl (by first | assumption | omega) (by decide) ?_)
  exact q_vret rfl rfl
theorem x_Rl_clear (k : kR S P) : EE d M_Rl_clear [.ref 53] SL S A P (fun r => r = ((131, SL, S, pm_u A 53 1 0, P), none)) := by
  obtain ⟨⟨s0, s1⟩, p0⟩ := k
  refine q_of (tb := fun j => tb_Rl_clear[j]?) rfl rfl (Nat.le_of_ble_eq_true rfl) ?_
  show BB _ _ 0 [.ref 53] [] _ _ _ _ _
  repeat (first | refine pm_B.next rfl rfl ?_ | refine q_getr rfl (by assumption) (by decide) (by assumption) ?_ | refine q_geti rfl (by assumption) (by decide) (by assumption) ?_ | refine q_iald rfl (by assumption) _ rfl (by first | assumption | omega) (by decide) rfl ?_ | refine q_puti rfl (by assumption) (by decide) ?_ | refine q_iast rfl (by assumption) _ rfl (by first | assumption | omega) (by decide) ?_)
  exact q_vret rfl rfl
theorem x_Lk_refuses {l s : Nat} {hd nb : Int32} (k : kL S P l) (ks : kS S P s) (hh : A l 1 = hd) (hb : A s 0 = nb) : EE d M_Lk_refuses [.ref l, .ref s] SL S A P (fun r => r = ((131, SL, S, A, P), some (.int (if hd = -1 ∨ hd = nb then 0 else 1)))) := by
  obtain ⟨⟨s0, s1⟩, p0⟩ := k
  obtain ⟨⟨t0, t1, t2, t3⟩, p1, p2, p3⟩ := ks
  refine q_of (tb := fun j => tb_Lk_refuses[j]?) rfl rfl (Nat.le_of_ble_eq_true rfl) ?_
  show BB _ _ 0 [.ref l, .ref s] [] _ _ _ _ _
  repeat (first | refine pm_B.next rfl rfl ?_ | refine q_getr rfl (by assumption) (by decide) (by assumption) ?_ | refine q_geti rfl (by assumption) (by decide) (by assumption) ?_ | refine q_iald rfl (by assumption) _ rfl (by first | assumption | omega) (by decide) rfl ?_ | refine q_puti rfl (by assumption) (by decide) ?_ | refine q_iast rfl (by assumption) _ rfl (by first | assumption | omega) (by decide) ?_)
  refine r_ic rfl (fun h => ?_) (fun h => ?_)
  · have h := of_decide_eq_true h
    repeat refine pm_B.next rfl rfl ?_
    exact q_zret rfl (Or.inl rfl) (by rw [if_pos (Or.inl h)])
  · have h := of_decide_eq_false h
    repeat (first | refine pm_B.next rfl rfl ?_ | refine q_getr rfl (by assumption) (by decide) (by assumption) ?_ | refine q_geti rfl (by assumption) (by decide) (by assumption) ?_ | refine q_iald rfl (by assumption) _ rfl (by first | assumption | omega) (by decide) rfl ?_ | refine q_puti rfl (by assumption) (by decide) ?_ | refine q_iast rfl (by assumption) _ rfl (by first | assumption | omega) (by decide) ?_)
    refine r_ic rfl (fun g => ?_) (fun g => ?_)
    · have g := of_decide_eq_true g
      repeat refine pm_B.next rfl rfl ?_
      exact q_zret rfl (Or.inl rfl) (by rw [if_pos (Or.inr g)])
    · have g := of_decide_eq_false g
      repeat refine pm_B.next rfl rfl ?_
      exact q_zret rfl (Or.inr rfl) (by rw [if_neg (fun e => e.elim h g)])
/-- a row of n ints becomes the greater of its own and another row's -/
def mxr (A : Nat → Nat → Int32) (c e n : Nat) : Nat → Nat → Int32 := fun a b => if a = c ∧ b < n then (if A c b < A e b then A e b else A c b) else A a b
theorem mxr_0 {A : Nat → Nat → Int32} {c e : Nat} : mxr A c e 0 = A := by
  funext a b
  simp [mxr]
theorem mxr_s {A : Nat → Nat → Int32} {c e i : Nat} : pm_u (mxr A c e i) c i (if A c i < A e i then A e i else A c i) = mxr A c e (i + 1) := by
  funext a b
  simp only [pm_u, mxr]
  by_cases h1 : a = c
  · by_cases h2 : b = i
    · simp [h1, h2]
    · by_cases h3 : b < i
      · have : b < i + 1 := by omega
        simp [h1, h2, h3, this]
      · have : ¬ b < i + 1 := by omega
        simp [h1, h2, h3, this]
  · simp [h1]
theorem x_Sd_learn {s e : Nat} (k : kS S P s) (he : pm_is S e 0 6) (hne : e ≠ s + 3) : EE d M_Sd_learn [.ref s, .ref e] SL S A P (fun r => r = ((131, SL, S, mxr A (s + 3) e 6, P), none)) := by
  obtain ⟨⟨s0, s1, s2, s3⟩, p1, p2, p3⟩ := k
  refine q_of (tb := fun j => tb_Sd_learn[j]?) rfl rfl (Nat.le_of_ble_eq_true rfl) ?_
  show BB _ _ 0 [.ref s, .ref e, .null] [] _ _ _ _ _
  iterate 2 refine pm_B.next rfl rfl ?_
  suffices h : ∀ k i, i + k = 6 → BB d (fun j => tb_Sd_learn[j]?) 2 [.ref s, .ref e, .int (nI i)] [] SL S (mxr A (s + 3) e i) P (fun r => (131 ≤ r.1.1 ∧ SL ≤ r.1.2.1) ∧ r = ((131, SL, S, mxr A (s + 3) e 6, P), none)) by
    have := h 6 0 (by omega)
    rw [mxr_0] at this
    exact this
  intro k
  induction k with
  | zero =>
    intro i hi
    have : i = 6 := by omega
    subst this
    repeat refine pm_B.next rfl rfl ?_
    exact q_vret rfl rfl
  | succ k ih =>
    intro i hi
    repeat refine pm_B.next rfl rfl ?_
    refine r_icF rfl (decide_eq_false (nI_ge (a := i) (b := 6) (by omega) (by decide))) ?_
    repeat (first | refine pm_B.next rfl rfl ?_ | refine q_getr rfl (by assumption) (by decide) (by assumption) ?_ | refine q_geti rfl (by assumption) (by decide) (by assumption) ?_ | refine q_iald rfl (by assumption) _ rfl (by first | assumption | omega) (by decide) rfl ?_)
    refine q_iast rfl s3 i rfl (by omega) (by decide) ?_
    rw [show mxr A (s + 3) e i (s + 3) i = A (s + 3) i by simp [mxr], show mxr A (s + 3) e i e i = A e i by simp [mxr, hne], mxr_s]
    iterate 2 refine pm_B.next rfl rfl ?_
    refine q_lc (lc' := [.ref s, .ref e, .int (nI (i + 1))]) (by rw [nI_succ]; rfl) ?_
    exact ih (i + 1) (by omega)
end OBJS2
