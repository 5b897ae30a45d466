theorem hl_or {ks ns : Nat → Int32} {rq x : Int32} : ∀ l : List Nat, hl ks ns (rq ||| x) l = hl ks ns rq l ||| x := by
  intro l
  induction l with
  | nil => rfl
  | cons o l ih =>
    simp only [hl]
    split
    · rw [ih, Int32.or_assoc, Int32.or_assoc, Int32.or_comm x]
    · exact ih
theorem or_small : ∀ a, a < 16 → ∀ b, b < 4 → ∃ c, c < 16 ∧ nI a ||| ((1 : Int32) <<< (nI b &&& 31)) = nI c := by
  have h : ∀ a, a < 16 → ∀ b, b < 4 → (List.range 16).any (fun c => decide (nI a ||| ((1 : Int32) <<< (nI b &&& 31)) = nI c)) = true := by decide +kernel
  intro a ha b hb
  obtain ⟨c, hc, h2⟩ := List.any_eq_true.mp (h a ha b hb)
  exact ⟨c, List.mem_range.mp hc, of_decide_eq_true h2⟩
theorem hl_small {ks ns : Nat → Int32} {rq : Int32} {a : Nat} (ha : a < 16) (hr : rq = nI a) : ∀ l : List Nat, (∀ o, o ∈ l → ks o = 4 → ∃ b, b < 4 ∧ ns o = nI b) → ∃ c, c < 16 ∧ hl ks ns rq l = nI c := by
  intro l
  induction l with
  | nil => intro _; exact ⟨a, ha, hr⟩
  | cons o l ih =>
    intro h
    obtain ⟨c, hc, e⟩ := ih (fun o' ho' => h o' (List.mem_cons_of_mem _ ho'))
    simp only [hl]
    split
    · rename_i h4
      obtain ⟨b, hb, e2⟩ := h o List.mem_cons_self h4
      rw [e, e2]
      exact or_small c hc b hb
    · exact ⟨c, hc, e⟩
theorem bit_eq : ∀ h, h < 16 → ∀ l, l < 4 → ((nI h &&& ((1 : Int32) <<< (nI l &&& 31)) ≠ 0) ↔ ((nI h >>> (nI l &&& 31)) &&& 1 = 1)) := by decide +kernel
section RIGHT
variable {d : Nat} {SL : Nat} {S : Nat → Nat × Nat} {A : Nat → Nat → Int32} {P : Nat → Nat → Option Nat}
theorem x_firstWrong {q b sz n : Nat} {bq jn : Nat → Nat} {rf : Nat → Int32} (k : kH S P) (kb : kB S P q) (hb : b < 8) (hq : P 2 b = some q) (hn : A 1 3 = nI n) (hn8 : n ≤ 8) (hbq : ∀ b, b < n → P 2 b = some (bq b) ∧ pm_is S (bq b) 18 6 ∧ A (bq b) 5 = rf b) (hs : A q 4 = nI sz) (h64 : sz ≤ 64)
    (hnm : ∀ i, i < sz → A (q + 1) i = 0 ∨ A (q + 1) i = 1 ∨ A (q + 1) i = 9 ∨ A (q + 1) i = 10 → jn i < 8 ∧ A (q + 2) i = nI (jn i)) :
    EE (d + 3) M_Sh_firstWrong [.ref 1, .int (nI b)] SL S A P (fun r => ∃ i, i ≤ sz ∧ (∀ j, j < i → rgt (A 3) n rf (A (q + 1) j) (jn j) (A (q + 4) j)) ∧ (i < sz → ¬ rgt (A 3) n rf (A (q + 1) i) (jn i) (A (q + 4) i)) ∧ r = ((131, SL, S, A, P), some (.int (nI i)))) := by
  have k0 := k
  obtain ⟨⟨s1, s2, s3⟩, p0, p1⟩ := k
  refine q_of (tb := fun j => tb_Sh_firstWrong[j]?) rfl rfl (Nat.le_of_ble_eq_true rfl) ?_
  show BB _ _ 0 [.ref 1, .int (nI b), .null, .null] [] _ _ _ _ _
  iterate 1 refine pm_B.next rfl rfl ?_
  refine q_getr rfl s1 (by decide) p0 ?_
  iterate 1 refine pm_B.next rfl rfl ?_
  refine q_aald rfl s2 b rfl hb (by decide) hq ?_
  iterate 3 refine pm_B.next rfl rfl ?_
  suffices h : ∀ c i, i + c = sz → (∀ j, j < i → rgt (A 3) n rf (A (q + 1) j) (jn j) (A (q + 4) j)) → BB (d + 3) (fun j => tb_Sh_firstWrong[j]?) 7 [.ref 1, .int (nI b), .ref q, .int (nI i)] [] SL S A P (fun r => (131 ≤ r.1.1 ∧ SL ≤ r.1.2.1) ∧ ∃ i, i ≤ sz ∧ (∀ j, j < i → rgt (A 3) n rf (A (q + 1) j) (jn j) (A (q + 4) j)) ∧ (i < sz → ¬ rgt (A 3) n rf (A (q + 1) i) (jn i) (A (q + 4) i)) ∧ r = ((131, SL, S, A, P), some (.int (nI i)))) from h sz 0 (by omega) (fun j hj => by omega)
  intro c
  induction c with
  | zero =>
    intro i hi hr
    have : i = sz := by omega
    subst this
    iterate 2 refine pm_B.next rfl rfl ?_
    refine q_geti rfl kb.1.1 (by decide) hs ?_
    refine r_icT rfl (decide_eq_true (nI_le (Nat.le_refl _) (by omega))) ?_
    iterate 1 refine pm_B.next rfl rfl ?_
    refine q_geti rfl kb.1.1 (by decide) hs ?_
    exact q_iret (Q := fun r => ∃ i', i' ≤ i ∧ (∀ j, j < i' → rgt (A 3) n rf (A (q + 1) j) (jn j) (A (q + 4) j)) ∧ (i' < i → ¬ rgt (A 3) n rf (A (q + 1) i') (jn i') (A (q + 4) i')) ∧ r = ((131, SL, S, A, P), some (.int (nI i')))) rfl ⟨i, Nat.le_refl _, hr, fun g => by omega, rfl⟩
  | succ c ih =>
    intro i hi hr
    iterate 2 refine pm_B.next rfl rfl ?_
    refine q_geti rfl kb.1.1 (by decide) hs ?_
    refine r_icF rfl (decide_eq_false (nI_ge (by omega) (by omega))) ?_
    iterate 3 refine pm_B.next rfl rfl ?_
    refine q_callv (a := [.ref q, .int (nI i)]) rfl s1 rfl (Nat.le_of_ble_eq_true rfl) (Nat.le_of_ble_eq_true rfl) (x_isRight k0 kb (by omega) hn hn8 hbq rfl rfl (hnm i (by omega))) (fun h1 v hx => ?_)
    rcases hx with ⟨hg, hx⟩ | ⟨hg, hx⟩
    · cases hx
      iterate 3 refine pm_B.next rfl rfl ?_
      refine q_lc (lc' := [.ref 1, .int (nI b), .ref q, .int (nI (i + 1))]) (by rw [nI_succ i]; rfl) ?_
      exact ih (i + 1) (by omega) (lt_s hr hg)
    · cases hx
      iterate 2 refine pm_B.next rfl rfl ?_
      exact q_iret (Q := fun r => ∃ i, i ≤ sz ∧ (∀ j, j < i → rgt (A 3) n rf (A (q + 1) j) (jn j) (A (q + 4) j)) ∧ (i < sz → ¬ rgt (A 3) n rf (A (q + 1) i) (jn i) (A (q + 4) i)) ∧ r = ((131, SL, S, A, P), some (.int (nI i)))) rfl ⟨i, by omega, hr, fun _ => hg, rfl⟩
theorem x_heldAt {b k : Nat} {rq : Int32} (m : kM S P) (hb : b < 8) (hk : k ≤ 64) (hnu : bk_nu (KS A b) k) (hrq : A 115 b = rq) : EE (d + 2) M_Mo_heldAt [.ref 111, .int (nI b), .int (nI k)] SL S A P (fun r => r = ((131, SL, S, A, P), some (.int (hl (KS A b) (NS A b) rq (bk_st (KS A b) k))))) := by
  have m0 := m
  obtain ⟨⟨⟨s0, s1, s2, s3, s4, s5⟩, p0, p1, p2, p3, p5⟩, -⟩ := m
  refine q_of (tb := fun j => tb_Mo_heldAt[j]?) rfl rfl (Nat.le_of_ble_eq_true rfl) ?_
  show BB _ _ 0 [.ref 111, .int (nI b), .int (nI k), .null, .null] [] _ _ _ _ _
  iterate 1 refine pm_B.next rfl rfl ?_
  refine q_getr rfl s0 (by decide) p3 ?_
  iterate 1 refine pm_B.next rfl rfl ?_
  refine q_iald rfl s4 b rfl hb (by decide) hrq ?_
  iterate 4 refine pm_B.next rfl rfl ?_
  refine q_cv (a := [.int (nI b), .int (nI k)]) rfl s0 rfl (Nat.le_of_ble_eq_true rfl) (Nat.le_of_ble_eq_true rfl) (x_openerOf m0 (by omega) hk hnu) ?_
  iterate 1 refine pm_B.next rfl rfl ?_
  suffices h : ∀ (l pre : List Nat) (acc : Int32), bk_st (KS A b) k = pre ++ l → hl (KS A b) (NS A b) acc l = hl (KS A b) (NS A b) rq (bk_st (KS A b) k) → BB (d + 2) (fun j => tb_Mo_heldAt[j]?) 10 [.ref 111, .int (nI b), .int (nI k), .int acc, .int (hdI l)] [] SL S A P (fun r => (131 ≤ r.1.1 ∧ SL ≤ r.1.2.1) ∧ r = ((131, SL, S, A, P), some (.int (hl (KS A b) (NS A b) rq (bk_st (KS A b) k))))) from h _ [] rq rfl rfl
  intro l
  induction l with
  | nil =>
    intro pre acc hp ha
    repeat refine pm_B.next rfl rfl ?_
    refine q_iret rfl ?_
    rw [← ha]
    rfl
  | cons o l ih =>
    intro pre acc hp ha
    have ho := bk_lt k o (by rw [hp]; simp)
    have hl' := bk_tail k pre o l hp
    have ho64 : o < 64 := by omega
    have nxt : ∀ acc', hl (KS A b) (NS A b) acc' l = hl (KS A b) (NS A b) rq (bk_st (KS A b) k) → BB (d + 2) (fun j => tb_Mo_heldAt[j]?) 27 [.ref 111, .int (nI b), .int (nI k), .int acc', .int (nI o)] [] SL S A P (fun r => (131 ≤ r.1.1 ∧ SL ≤ r.1.2.1) ∧ r = ((131, SL, S, A, P), some (.int (hl (KS A b) (NS A b) rq (bk_st (KS A b) k))))) := by
      intro acc' h2
      iterate 3 refine pm_B.next rfl rfl ?_
      refine q_cv (a := [.int (nI b), .int (nI o)]) rfl s0 rfl (Nat.le_of_ble_eq_true rfl) (Nat.le_of_ble_eq_true rfl) (x_openerOf m0 (by omega) (by omega) (fun a ha => hnu a (by omega))) ?_
      iterate 2 refine pm_B.next rfl rfl ?_
      rw [← hl']
      exact ih (pre ++ [o]) acc' (by rw [hp]; simp) h2
    iterate 1 refine pm_B.next rfl rfl ?_
    refine r_ifF rfl (decide_eq_false (nI_pos (by omega))) ?_
    iterate 3 refine pm_B.next rfl rfl ?_
    refine q_cv (a := [.int (nI b), .int (nI o)]) rfl s0 rfl (Nat.le_of_ble_eq_true rfl) (Nat.le_of_ble_eq_true rfl) (x_kindAt m0 (by omega) ho64) ?_
    iterate 1 refine pm_B.next rfl rfl ?_
    by_cases h4 : KS A b o = 4
    · refine r_icF rfl (decide_eq_false (fun g => g h4)) ?_
      repeat refine pm_B.next rfl rfl ?_
      refine q_cv (a := [.int (nI b), .int (nI o)]) rfl s0 rfl (Nat.le_of_ble_eq_true rfl) (Nat.le_of_ble_eq_true rfl) (x_numberAt m0 (by omega) ho64) ?_
      iterate 3 refine pm_B.next rfl rfl ?_
      refine nxt _ ?_
      rw [← ha]
      simp only [hl, h4, if_true]
      exact hl_or l
    · refine r_icT rfl (decide_eq_true h4) ?_
      refine nxt acc ?_
      rw [← ha]
      simp only [hl, h4, if_false]
theorem x_Mo_isRight {b k j n h : Nat} {rq : Int32} (m : kM S P) (hb : b < 8) (hk : k < 64) (hnu : bk_nu (KS A b) k) (hrq : A 115 b = rq) (hn : A 111 4 = nI n) (hn8 : n ≤ 8) (hh : hl (KS A b) (NS A b) rq (bk_st (KS A b) k) = nI h) (h16 : h < 16) (hg : ∀ c, c < 8 → A 116 c = -1 ∨ ∃ l, l < 4 ∧ A 116 c = nI l) (hnm : KS A b k = 0 ∨ KS A b k = 1 ∨ KS A b k = 9 ∨ KS A b k = 10 → j < 8 ∧ NS A b k = nI j) :
    EE (d + 3) M_Mo_isRight [.ref 111, .int (nI b), .int (nI k)] SL S A P (fun r => (rgt (A 116) n (A 115) (KS A b k) j (nI h) ∧ r = ((131, SL, S, A, P), some (.int 1))) ∨ (¬ rgt (A 116) n (A 115) (KS A b k) j (nI h) ∧ r = ((131, SL, S, A, P), some (.int 0)))) := by
  have m0 := m
  obtain ⟨⟨⟨s0, s1, s2, s3, s4, s5⟩, p0, p1, p2, p3, p5⟩, -⟩ := m
  refine q_of (tb := fun j => tb_Mo_isRight[j]?) rfl rfl (Nat.le_of_ble_eq_true rfl) ?_
  show BB _ _ 0 [.ref 111, .int (nI b), .int (nI k), .null, .null, .null] [] _ _ _ _ _
  iterate 3 refine pm_B.next rfl rfl ?_
  refine q_cv (a := [.int (nI b), .int (nI k)]) rfl s0 rfl (Nat.le_of_ble_eq_true rfl) (Nat.le_of_ble_eq_true rfl) (x_kindAt m0 (by omega) hk) ?_
  iterate 4 refine pm_B.next rfl rfl ?_
  refine q_cv (a := [.int (nI b), .int (nI k)]) rfl s0 rfl (Nat.le_of_ble_eq_true rfl) (Nat.le_of_ble_eq_true rfl) (x_numberAt m0 (by omega) hk) ?_
  iterate 4 refine pm_B.next rfl rfl ?_
  refine q_cv (a := [.int (nI b), .int (nI k)]) rfl s0 rfl (Nat.le_of_ble_eq_true rfl) (Nat.le_of_ble_eq_true rfl) (x_heldAt m0 hb (by omega) hnu hrq) ?_
  rw [hh]
  iterate 2 refine pm_B.next rfl rfl ?_
  show BB _ _ 16 [.ref 111, .int (nI b), .int (nI k), .int (KS A b k), .int (NS A b k), .int (nI h)] [.int (KS A b k)] _ _ _ _ _
  generalize KS A b k = kd at hnm ⊢
  have neg : ∀ l, l < 4 → ¬ nI l = -1 := fun l hl g => by
    have := nI_pos (n := l) (by omega)
    rw [g] at this
    exact this (by decide)
  by_cases h0 : kd = 0
  · subst h0
    obtain ⟨hj8, hnj⟩ := hnm (Or.inl rfl)
    rw [hnj]
    iterate 2 refine pm_B.next rfl rfl ?_
    refine q_getr rfl s0 (by decide) p5 ?_
    iterate 1 refine pm_B.next rfl rfl ?_
    refine q_iald rfl s5 j rfl hj8 (by decide) rfl ?_
    rcases hg j hj8 with e | ⟨l, hl4, e⟩
    · rw [e]
      repeat refine pm_B.next rfl rfl ?_
      exact q_zret rfl (Or.inr rfl) (Or.inl ⟨rgt_0.mpr (Or.inl e), rfl⟩)
    · refine q_top e ?_
      refine r_ifF rfl (decide_eq_false (nI_pos (by omega))) ?_
      iterate 2 refine pm_B.next rfl rfl ?_
      refine q_getr rfl s0 (by decide) p5 ?_
      iterate 1 refine pm_B.next rfl rfl ?_
      refine q_iald rfl s5 j rfl hj8 (by decide) e ?_
      have hbq := bit_eq h h16 l hl4
      repeat refine pm_B.next rfl rfl ?_
      by_cases hz : (nI h >>> (nI l &&& 31)) &&& 1 = 1
      · refine r_icF rfl (decide_eq_false (fun g => g hz)) ?_
        repeat refine pm_B.next rfl rfl ?_
        exact q_zret rfl (Or.inr rfl) (Or.inl ⟨rgt_0.mpr (Or.inr (by rw [e]; exact hbq.mpr hz)), rfl⟩)
      · refine r_icT rfl (decide_eq_true hz) ?_
        repeat refine pm_B.next rfl rfl ?_
        exact q_zret rfl (Or.inl rfl) (Or.inr ⟨fun g => (rgt_0.mp g).elim (fun z => neg l hl4 (e.symm.trans z)) (fun z => hz (hbq.mp (by rw [e] at z; exact z))), rfl⟩)
  by_cases h1 : kd = 1
  · subst h1
    obtain ⟨hj8, hnj⟩ := hnm (Or.inr (Or.inl rfl))
    rw [hnj]
    iterate 2 refine pm_B.next rfl rfl ?_
    refine q_getr rfl s0 (by decide) p5 ?_
    iterate 1 refine pm_B.next rfl rfl ?_
    refine q_iald rfl s5 j rfl hj8 (by decide) rfl ?_
    rcases hg j hj8 with e | ⟨l, hl4, e⟩
    · rw [e]
      repeat refine pm_B.next rfl rfl ?_
      exact q_zret rfl (Or.inl rfl) (Or.inr ⟨fun g => (rgt_1.mp g).1 e, rfl⟩)
    · refine q_top e ?_
      refine r_ifF rfl (decide_eq_false (nI_pos (by omega))) ?_
      iterate 2 refine pm_B.next rfl rfl ?_
      refine q_getr rfl s0 (by decide) p5 ?_
      iterate 1 refine pm_B.next rfl rfl ?_
      refine q_iald rfl s5 j rfl hj8 (by decide) e ?_
      have hbq := bit_eq h h16 l hl4
      repeat refine pm_B.next rfl rfl ?_
      by_cases hz : (nI h >>> (nI l &&& 31)) &&& 1 = 1
      · refine r_icF rfl (decide_eq_false (fun g => g hz)) ?_
        repeat refine pm_B.next rfl rfl ?_
        exact q_zret rfl (Or.inr rfl) (Or.inl ⟨rgt_1.mpr ⟨by rw [e]; exact neg l hl4, by rw [e]; exact hbq.mpr hz⟩, rfl⟩)
      · refine r_icT rfl (decide_eq_true hz) ?_
        repeat refine pm_B.next rfl rfl ?_
        exact q_zret rfl (Or.inl rfl) (Or.inr ⟨fun g => hz (hbq.mp (by have z := (rgt_1.mp g).2; rw [e] at z; exact z)), rfl⟩)
  by_cases h9 : kd = 9
  · subst h9
    obtain ⟨hj8, hnj⟩ := hnm (Or.inr (Or.inr (Or.inl rfl)))
    rw [hnj]
    iterate 3 refine pm_B.next rfl rfl ?_
    refine q_geti rfl s0 (by decide) hn ?_
    by_cases hjn : j < n
    · refine r_icF rfl (decide_eq_false (nI_ge hjn (by omega))) ?_
      iterate 1 refine pm_B.next rfl rfl ?_
      refine q_getr rfl s0 (by decide) p3 ?_
      iterate 1 refine pm_B.next rfl rfl ?_
      refine q_iald rfl s4 j rfl hj8 (by decide) rfl ?_
      by_cases hz : A 115 j = 0
      · refine r_ifF rfl (decide_eq_false (fun g => g hz)) ?_
        repeat refine pm_B.next rfl rfl ?_
        exact q_zret rfl (Or.inr rfl) (Or.inl ⟨rgt_9.mpr ⟨hjn, hz⟩, rfl⟩)
      · refine r_ifT rfl (decide_eq_true hz) ?_
        repeat refine pm_B.next rfl rfl ?_
        exact q_zret rfl (Or.inl rfl) (Or.inr ⟨fun g => hz (rgt_9.mp g).2, rfl⟩)
    · refine r_icT rfl (decide_eq_true (nI_le (by omega) (by omega))) ?_
      repeat refine pm_B.next rfl rfl ?_
      exact q_zret rfl (Or.inl rfl) (Or.inr ⟨fun g => hjn (rgt_9.mp g).1, rfl⟩)
  by_cases h10 : kd = 10
  · subst h10
    obtain ⟨hj8, hnj⟩ := hnm (Or.inr (Or.inr (Or.inr rfl)))
    rw [hnj]
    iterate 3 refine pm_B.next rfl rfl ?_
    refine q_geti rfl s0 (by decide) hn ?_
    by_cases hjn : j < n
    · refine r_icF rfl (decide_eq_false (nI_ge hjn (by omega))) ?_
      iterate 1 refine pm_B.next rfl rfl ?_
      refine q_getr rfl s0 (by decide) p3 ?_
      iterate 1 refine pm_B.next rfl rfl ?_
      refine q_iald rfl s4 j rfl hj8 (by decide) rfl ?_
      repeat refine pm_B.next rfl rfl ?_
      by_cases hz : A 115 j &&& (nI h ^^^ -1) = 0
      · refine r_ifF rfl (decide_eq_false (fun g => g hz)) ?_
        repeat refine pm_B.next rfl rfl ?_
        exact q_zret rfl (Or.inr rfl) (Or.inl ⟨rgt_10.mpr ⟨hjn, hz⟩, rfl⟩)
      · refine r_ifT rfl (decide_eq_true hz) ?_
        repeat refine pm_B.next rfl rfl ?_
        exact q_zret rfl (Or.inl rfl) (Or.inr ⟨fun g => hz (rgt_10.mp g).2, rfl⟩)
    · refine r_icT rfl (decide_eq_true (nI_le (by omega) (by omega))) ?_
      repeat refine pm_B.next rfl rfl ?_
      exact q_zret rfl (Or.inl rfl) (Or.inr ⟨fun g => hjn (rgt_10.mp g).1, rfl⟩)
  refine pm_B.next (q := (85, _, _, _)) rfl (pm_sw_hit (by simp only [pm_swt, h0, h1, h9, h10, if_false])) ?_
  repeat refine pm_B.next rfl rfl ?_
  exact q_zret rfl (Or.inr rfl) (Or.inl ⟨rgt_o h0 h1 h9 h10, rfl⟩)
end RIGHT
