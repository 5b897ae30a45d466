section SOUNDS
variable {d : Nat} {SL : Nat} {S : Nat → Nat × Nat} {A : Nat → Nat → Int32} {P : Nat → Nat → Option Nat}
/-- statement i of body b is right, in the class, in the reference -/
def rC (A : Nat → Nat → Int32) (n : Nat) (rf : Nat → Int32) (q : Nat) (jn : Nat → Nat) (i : Nat) : Prop := rgt (A 3) n rf (A (q + 1) i) (jn i) (A (q + 4) i)
def rM (A : Nat → Nat → Int32) (n b : Nat) (jn : Nat → Nat) (i : Nat) : Prop := rgt (A 116) n (A 115) (KS A b i) (jn i) (hl (KS A b) (NS A b) (A 115 b) (bk_st (KS A b) i))
theorem x_allRight {n : Nat} {bq sz : Nat → Nat} {jn : Nat → Nat → Nat} {rf : Nat → Int32} (k : kH S P) (hn : A 1 3 = nI n) (hn8 : n ≤ 8) (hbq : ∀ b, b < n → P 2 b = some (bq b) ∧ kB S P (bq b) ∧ A (bq b) 5 = rf b ∧ A (bq b) 4 = nI (sz b) ∧ sz b ≤ 64 ∧ ∀ i, i < sz b → A (bq b + 1) i = 0 ∨ A (bq b + 1) i = 1 ∨ A (bq b + 1) i = 9 ∨ A (bq b + 1) i = 10 → jn b i < 8 ∧ A (bq b + 2) i = nI (jn b i)) :
    EE (d + 4) M_Sh_allRight [.ref 1] SL S A P (fun r => ((∀ b, b < n → ∀ i, i < sz b → rC A n rf (bq b) (jn b) i) ∧ r = ((131, SL, S, A, P), some (.int 1))) ∨ (¬ (∀ b, b < n → ∀ i, i < sz b → rC A n rf (bq b) (jn b) i) ∧ r = ((131, SL, S, A, P), some (.int 0)))) := by
  have k0 := k
  obtain ⟨⟨s1, s2, s3⟩, p0, p1⟩ := k
  refine q_of (tb := fun j => tb_Sh_allRight[j]?) rfl rfl (Nat.le_of_ble_eq_true rfl) ?_
  show BB _ _ 0 [.ref 1, .null] [] _ _ _ _ _
  iterate 2 refine pm_B.next rfl rfl ?_
  suffices h : ∀ c b, b + c = n → (∀ b', b' < b → ∀ i, i < sz b' → rC A n rf (bq b') (jn b') i) → BB (d + 4) (fun j => tb_Sh_allRight[j]?) 2 [.ref 1, .int (nI b)] [] SL S A P (fun r => (131 ≤ r.1.1 ∧ SL ≤ r.1.2.1) ∧ (((∀ b, b < n → ∀ i, i < sz b → rC A n rf (bq b) (jn b) i) ∧ r = ((131, SL, S, A, P), some (.int 1))) ∨ (¬ (∀ b, b < n → ∀ i, i < sz b → rC A n rf (bq b) (jn b) i) ∧ r = ((131, SL, S, A, P), some (.int 0))))) from h n 0 (by omega) (fun b' hb' => by omega)
  intro c
  induction c with
  | zero =>
    intro b hb hr
    have : b = n := by omega
    subst this
    iterate 2 refine pm_B.next rfl rfl ?_
    refine q_geti rfl s1 (by decide) hn ?_
    refine r_icT rfl (decide_eq_true (nI_le (Nat.le_refl _) (by omega))) ?_
    repeat refine pm_B.next rfl rfl ?_
    exact q_zret rfl (Or.inr rfl) (Or.inl ⟨hr, rfl⟩)
  | succ c ih =>
    intro b hb hr
    have hbn : b < n := by omega
    obtain ⟨b1, b2, b3, b4, b5, b6⟩ := hbq b hbn
    iterate 2 refine pm_B.next rfl rfl ?_
    refine q_geti rfl s1 (by decide) hn ?_
    refine r_icF rfl (decide_eq_false (nI_ge hbn (by omega))) ?_
    iterate 2 refine pm_B.next rfl rfl ?_
    refine q_callv (a := [.int (nI b)]) rfl s1 rfl (Nat.le_of_ble_eq_true rfl) (Nat.le_of_ble_eq_true rfl) (x_firstWrong (jn := jn b) k0 b2 (by omega) b1 hn hn8 (fun b' hb' => ⟨(hbq b' hb').1, (hbq b' hb').2.1.1.1, (hbq b' hb').2.2.1⟩) b4 b5 b6) (fun h1 v hx => ?_)
    obtain ⟨i, i1, i2, i3, hx⟩ := hx
    cases hx
    iterate 1 refine pm_B.next rfl rfl ?_
    refine q_getr rfl s1 (by decide) p0 ?_
    iterate 1 refine pm_B.next rfl rfl ?_
    refine q_aald rfl s2 b rfl (by omega) (by decide) b1 ?_
    refine q_geti rfl b2.1.1 (by decide) b4 ?_
    by_cases hlt : i < sz b
    · refine r_icF rfl (decide_eq_false (nI_ge hlt (by omega))) ?_
      repeat refine pm_B.next rfl rfl ?_
      exact q_zret rfl (Or.inl rfl) (Or.inr ⟨fun g => i3 hlt (g b hbn i hlt), rfl⟩)
    · refine r_icT rfl (decide_eq_true (nI_le (by omega) (by omega))) ?_
      iterate 2 refine pm_B.next rfl rfl ?_
      refine q_lc (lc' := [.ref 1, .int (nI (b + 1))]) (by rw [nI_succ b]; rfl) ?_
      exact ih (b + 1) (by omega) (lt_s hr (fun i' hi' => i2 i' (by omega)))
/-- what the reference's checks rest on, for body b -/
def rb (A : Nat → Nat → Int32) (b : Nat) (sz : Nat) (jn : Nat → Nat) : Prop := A 114 b = nI sz ∧ sz ≤ 64 ∧ bk_nu (KS A b) sz ∧ (∀ k, k < sz → ∃ h, h < 16 ∧ hl (KS A b) (NS A b) (A 115 b) (bk_st (KS A b) k) = nI h) ∧ ∀ k, k < sz → KS A b k = 0 ∨ KS A b k = 1 ∨ KS A b k = 9 ∨ KS A b k = 10 → jn k < 8 ∧ NS A b k = nI (jn k)
theorem x_Mo_check {b n sz : Nat} {jn : Nat → Nat} (m : kM S P) (hn : A 111 4 = nI n) (hn8 : n ≤ 8) (hbn : b < n) (hg : ∀ c, c < 8 → A 116 c = -1 ∨ ∃ l, l < 4 ∧ A 116 c = nI l) (hrb : rb A b sz jn) :
    EE (d + 4) M_Mo_check [.ref 111, .int (nI b)] SL S A P (fun r => ∃ i, i ≤ sz ∧ (∀ j, j < i → rM A n b jn j) ∧ (i < sz → ¬ rM A n b jn i) ∧ r = ((131, SL, S, A, P), some (.int (nI i)))) := by
  have m0 := m
  obtain ⟨⟨⟨s0, s1, s2, s3, s4, s5⟩, p0, p1, p2, p3, p5⟩, -⟩ := m
  obtain ⟨hs, h64, hnu, hh, hnm⟩ := hrb
  refine q_of (tb := fun j => tb_Mo_check[j]?) rfl rfl (Nat.le_of_ble_eq_true rfl) ?_
  show BB _ _ 0 [.ref 111, .int (nI b), .null] [] _ _ _ _ _
  iterate 2 refine pm_B.next rfl rfl ?_
  refine q_geti rfl s0 (by decide) hn ?_
  refine q_cs rfl rfl (Nat.le_of_ble_eq_true rfl) (Nat.le_of_ble_eq_true rfl) (x_isIn (nI b) (nI n)) ?_
  rw [in_nI (by omega) (by omega), if_pos hbn]
  iterate 3 refine pm_B.next rfl rfl ?_
  suffices h : ∀ c i, i + c = sz → (∀ j, j < i → rM A n b jn j) → BB (d + 4) (fun j => tb_Mo_check[j]?) 9 [.ref 111, .int (nI b), .int (nI i)] [] SL S A P (fun r => (131 ≤ r.1.1 ∧ SL ≤ r.1.2.1) ∧ ∃ i, i ≤ sz ∧ (∀ j, j < i → rM A n b jn j) ∧ (i < sz → ¬ rM A n b jn i) ∧ r = ((131, SL, S, A, P), some (.int (nI i)))) from h sz 0 (by omega) (fun j hj => by omega)
  intro c
  induction c with
  | zero =>
    intro i hi hr
    have : i = sz := by omega
    subst this
    iterate 2 refine pm_B.next rfl rfl ?_
    refine q_getr rfl s0 (by decide) p2 ?_
    iterate 1 refine pm_B.next rfl rfl ?_
    refine q_iald rfl s3 b rfl (by omega) (by decide) hs ?_
    refine r_icT rfl (decide_eq_true (nI_le (Nat.le_refl _) (by omega))) ?_
    iterate 1 refine pm_B.next rfl rfl ?_
    exact q_iret (Q := fun r => ∃ i', i' ≤ i ∧ (∀ j, j < i' → rM A n b jn j) ∧ (i' < i → ¬ rM A n b jn i') ∧ r = ((131, SL, S, A, P), some (.int (nI i')))) rfl ⟨i, Nat.le_refl _, hr, fun g => by omega, rfl⟩
  | succ c ih =>
    intro i hi hr
    obtain ⟨h, h16, hhe⟩ := hh i (by omega)
    iterate 2 refine pm_B.next rfl rfl ?_
    refine q_getr rfl s0 (by decide) p2 ?_
    iterate 1 refine pm_B.next rfl rfl ?_
    refine q_iald rfl s3 b rfl (by omega) (by decide) hs ?_
    refine r_icF rfl (decide_eq_false (nI_ge (by omega) (by omega))) ?_
    iterate 3 refine pm_B.next rfl rfl ?_
    refine q_callv (a := [.int (nI b), .int (nI i)]) rfl s0 rfl (Nat.le_of_ble_eq_true rfl) (Nat.le_of_ble_eq_true rfl) (x_Mo_isRight m0 (by omega) (by omega) (fun a ha => hnu a (by omega)) rfl hn hn8 hhe h16 hg (hnm i (by omega))) (fun h1 v hx => ?_)
    rw [← hhe] at hx
    rcases hx with ⟨hr1, hx⟩ | ⟨hr1, hx⟩
    · cases hx
      iterate 3 refine pm_B.next rfl rfl ?_
      refine q_lc (lc' := [.ref 111, .int (nI b), .int (nI (i + 1))]) (by rw [nI_succ i]; rfl) ?_
      exact ih (i + 1) (by omega) (lt_s hr hr1)
    · cases hx
      iterate 2 refine pm_B.next rfl rfl ?_
      exact q_iret (Q := fun r => ∃ i, i ≤ sz ∧ (∀ j, j < i → rM A n b jn j) ∧ (i < sz → ¬ rM A n b jn i) ∧ r = ((131, SL, S, A, P), some (.int (nI i)))) rfl ⟨i, by omega, hr, fun _ => hr1, rfl⟩
theorem x_Mo_check_no {n : Nat} {v : Int32} (m : kM S P) (hn : A 111 4 = nI n) (hv : in_ v (nI n) = 0) : EE (d + 1) M_Mo_check [.ref 111, .int v] SL S A P (fun r => r = ((131, SL, S, A, P), some (.int (-1)))) := by
  obtain ⟨⟨⟨s0, s1, s2, s3, s4, s5⟩, p0, p1, p2, p3, p5⟩, -⟩ := m
  refine q_of (tb := fun j => tb_Mo_check[j]?) rfl rfl (Nat.le_of_ble_eq_true rfl) ?_
  show BB _ _ 0 [.ref 111, .int v, .null] [] _ _ _ _ _
  iterate 2 refine pm_B.next rfl rfl ?_
  refine q_geti rfl s0 (by decide) hn ?_
  refine q_cs rfl rfl (Nat.le_of_ble_eq_true rfl) (Nat.le_of_ble_eq_true rfl) (x_isIn v (nI n)) ?_
  rw [hv]
  repeat refine pm_B.next rfl rfl ?_
  exact q_iret rfl rfl
theorem x_Mo_sound {n : Nat} {sz : Nat → Nat} {jn : Nat → Nat → Nat} (m : kM S P) (hn : A 111 4 = nI n) (hn8 : n ≤ 8) (hg : ∀ c, c < 8 → A 116 c = -1 ∨ ∃ l, l < 4 ∧ A 116 c = nI l) (hrb : ∀ b, b < n → rb A b (sz b) (jn b)) :
    EE (d + 5) M_Mo_sound [.ref 111] SL S A P (fun r => ((∀ b, b < n → ∀ i, i < sz b → rM A n b (jn b) i) ∧ r = ((131, SL, S, A, P), some (.int 1))) ∨ (¬ (∀ b, b < n → ∀ i, i < sz b → rM A n b (jn b) i) ∧ r = ((131, SL, S, A, P), some (.int 0)))) := by
  have m0 := m
  obtain ⟨⟨⟨s0, s1, s2, s3, s4, s5⟩, p0, p1, p2, p3, p5⟩, -⟩ := m
  refine q_of (tb := fun j => tb_Mo_sound[j]?) rfl rfl (Nat.le_of_ble_eq_true rfl) ?_
  show BB _ _ 0 [.ref 111, .null] [] _ _ _ _ _
  iterate 2 refine pm_B.next rfl rfl ?_
  suffices h : ∀ c b, b + c = n → (∀ b', b' < b → ∀ i, i < sz b' → rM A n b' (jn b') i) → BB (d + 5) (fun j => tb_Mo_sound[j]?) 2 [.ref 111, .int (nI b)] [] SL S A P (fun r => (131 ≤ r.1.1 ∧ SL ≤ r.1.2.1) ∧ (((∀ b, b < n → ∀ i, i < sz b → rM A n b (jn b) i) ∧ r = ((131, SL, S, A, P), some (.int 1))) ∨ (¬ (∀ b, b < n → ∀ i, i < sz b → rM A n b (jn b) i) ∧ r = ((131, SL, S, A, P), some (.int 0))))) from h n 0 (by omega) (fun b' hb' => by omega)
  intro c
  induction c with
  | zero =>
    intro b hb hr
    have : b = n := by omega
    subst this
    iterate 2 refine pm_B.next rfl rfl ?_
    refine q_geti rfl s0 (by decide) hn ?_
    refine r_icT rfl (decide_eq_true (nI_le (Nat.le_refl _) (by omega))) ?_
    repeat refine pm_B.next rfl rfl ?_
    exact q_zret rfl (Or.inr rfl) (Or.inl ⟨hr, rfl⟩)
  | succ c ih =>
    intro b hb hr
    have hbn : b < n := by omega
    have h64 := (hrb b hbn).2.1
    iterate 2 refine pm_B.next rfl rfl ?_
    refine q_geti rfl s0 (by decide) hn ?_
    refine r_icF rfl (decide_eq_false (nI_ge hbn (by omega))) ?_
    iterate 2 refine pm_B.next rfl rfl ?_
    refine q_callv (a := [.int (nI b)]) rfl s0 rfl (Nat.le_of_ble_eq_true rfl) (Nat.le_of_ble_eq_true rfl) (x_Mo_check m0 hn hn8 hbn hg (hrb b hbn)) (fun h1 v hx => ?_)
    obtain ⟨i, i1, i2, i3, hx⟩ := hx
    cases hx
    iterate 1 refine pm_B.next rfl rfl ?_
    refine q_getr rfl s0 (by decide) p2 ?_
    iterate 1 refine pm_B.next rfl rfl ?_
    refine q_iald rfl s3 b rfl (by omega) (by decide) (hrb b hbn).1 ?_
    by_cases hlt : i < sz b
    · refine r_icF rfl (decide_eq_false (nI_ge hlt (by omega))) ?_
      repeat refine pm_B.next rfl rfl ?_
      exact q_zret rfl (Or.inl rfl) (Or.inr ⟨fun g => i3 hlt (g b hbn i hlt), rfl⟩)
    · refine r_icT rfl (decide_eq_true (nI_le (by omega) (by omega))) ?_
      iterate 2 refine pm_B.next rfl rfl ?_
      refine q_lc (lc' := [.ref 111, .int (nI (b + 1))]) (by rw [nI_succ b]; rfl) ?_
      exact ih (b + 1) (by omega) (lt_s hr (fun i' hi' => i2 i' (by omega)))
end SOUNDS
