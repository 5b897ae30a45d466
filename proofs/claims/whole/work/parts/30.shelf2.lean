/-- a statement is right: guards g, n bodies with the requirements rf; its kind, its number j, the locks hd -/
def rgt (g : Nat → Int32) (n : Nat) (rf : Nat → Int32) (kd : Int32) (j : Nat) (hd : Int32) : Prop :=
  (kd = 0 → g j = -1 ∨ hd &&& ((1 : Int32) <<< (g j &&& 31)) ≠ 0) ∧ (kd = 1 → g j ≠ -1 ∧ hd &&& ((1 : Int32) <<< (g j &&& 31)) ≠ 0) ∧ (kd = 9 → j < n ∧ rf j = 0) ∧ (kd = 10 → j < n ∧ rf j &&& (hd ^^^ -1) = 0)
theorem rgt_o {g : Nat → Int32} {n : Nat} {rf : Nat → Int32} {kd : Int32} {j : Nat} {hd : Int32} (h0 : ¬ kd = 0) (h1 : ¬ kd = 1) (h9 : ¬ kd = 9) (h10 : ¬ kd = 10) : rgt g n rf kd j hd := ⟨fun e => absurd e h0, fun e => absurd e h1, fun e => absurd e h9, fun e => absurd e h10⟩
theorem rgt_0 {g : Nat → Int32} {n : Nat} {rf : Nat → Int32} {j : Nat} {hd : Int32} : rgt g n rf 0 j hd ↔ (g j = -1 ∨ hd &&& ((1 : Int32) <<< (g j &&& 31)) ≠ 0) := ⟨fun h => h.1 rfl, fun h => ⟨fun _ => h, fun e => absurd e (by decide), fun e => absurd e (by decide), fun e => absurd e (by decide)⟩⟩
theorem rgt_1 {g : Nat → Int32} {n : Nat} {rf : Nat → Int32} {j : Nat} {hd : Int32} : rgt g n rf 1 j hd ↔ (g j ≠ -1 ∧ hd &&& ((1 : Int32) <<< (g j &&& 31)) ≠ 0) := ⟨fun h => h.2.1 rfl, fun h => ⟨fun e => absurd e (by decide), fun _ => h, fun e => absurd e (by decide), fun e => absurd e (by decide)⟩⟩
theorem rgt_9 {g : Nat → Int32} {n : Nat} {rf : Nat → Int32} {j : Nat} {hd : Int32} : rgt g n rf 9 j hd ↔ (j < n ∧ rf j = 0) := ⟨fun h => h.2.2.1 rfl, fun h => ⟨fun e => absurd e (by decide), fun e => absurd e (by decide), fun _ => h, fun e => absurd e (by decide)⟩⟩
theorem rgt_10 {g : Nat → Int32} {n : Nat} {rf : Nat → Int32} {j : Nat} {hd : Int32} : rgt g n rf 10 j hd ↔ (j < n ∧ rf j &&& (hd ^^^ -1) = 0) := ⟨fun h => h.2.2.2 rfl, fun h => ⟨fun e => absurd e (by decide), fun e => absurd e (by decide), fun e => absurd e (by decide), fun _ => h⟩⟩
theorem in_nI {j n : Nat} (hj : j < 2 ^ 31) (hn : n < 2 ^ 31) : in_ (nI j) (nI n) = if j < n then 1 else 0 := by
  unfold in_
  have h1 := nI_pos hj
  by_cases h : j < n
  · rw [if_pos h, if_pos ⟨h1, nI_ge h hn⟩]
  · rw [if_neg h, if_neg (fun g => g.2 (nI_le (by omega) hj))]
section SHELF2
variable {d : Nat} {SL : Nat} {S : Nat → Nat × Nat} {A : Nat → Nat → Int32} {P : Nat → Nat → Option Nat}
theorem x_guardHeld {j : Nat} {hd : Int32} (k : kH S P) (hj : j < 8) : EE d M_Sh_guardHeld [.ref 1, .int (nI j), .int hd] SL S A P (fun r => r = ((131, SL, S, A, P), some (.int (if hd &&& ((1 : Int32) <<< (A 3 j &&& 31)) = 0 then 0 else 1)))) := by
  obtain ⟨⟨s1, s2, s3⟩, p0, p1⟩ := k
  refine q_of (tb := fun j => tb_Sh_guardHeld[j]?) rfl rfl (Nat.le_of_ble_eq_true rfl) ?_
  show BB _ _ 0 [.ref 1, .int (nI j), .int hd] [] _ _ _ _ _
  repeat (first | refine pm_B.next rfl rfl ?_ | refine q_getr rfl (by assumption) (by decide) (by assumption) ?_ | refine q_geti rfl (by assumption) (by decide) (by assumption) ?_ | refine q_iald rfl (by assumption) _ rfl (by first | assumption | omega) (by decide) rfl ?_)
  refine r_if rfl (fun h => ?_) (fun h => ?_)
  · have h := of_decide_eq_true h
    repeat refine pm_B.next rfl rfl ?_
    exact q_zret rfl (Or.inl rfl) (by rw [if_pos h])
  · have h := of_decide_eq_false h
    repeat refine pm_B.next rfl rfl ?_
    exact q_zret rfl (Or.inr rfl) (by rw [if_neg h])
theorem x_isRight {q i j n : Nat} {kd hd : Int32} {bq : Nat → Nat} {rf : Nat → Int32} (k : kH S P) (kb : kB S P q) (hi : i < 64) (hn : A 1 3 = nI n) (hn8 : n ≤ 8) (hbq : ∀ b, b < n → P 2 b = some (bq b) ∧ pm_is S (bq b) 18 6 ∧ A (bq b) 5 = rf b) (hkd : A (q + 1) i = kd) (hhd : A (q + 4) i = hd) (hnm : kd = 0 ∨ kd = 1 ∨ kd = 9 ∨ kd = 10 → j < 8 ∧ A (q + 2) i = nI j) :
    EE (d + 2) M_Sh_isRight [.ref 1, .ref q, .int (nI i)] SL S A P (fun r => (rgt (A 3) n rf kd j hd ∧ r = ((131, SL, S, A, P), some (.int 1))) ∨ (¬ rgt (A 3) n rf kd j hd ∧ r = ((131, SL, S, A, P), some (.int 0)))) := by
  have k0 := k
  obtain ⟨⟨s1, s2, s3⟩, p0, p1⟩ := k
  obtain ⟨⟨t0, t1, t2, t3, t4⟩, q0, q1, q2, q3⟩ := kb
  refine q_of (tb := fun j => tb_Sh_isRight[j]?) rfl rfl (Nat.le_of_ble_eq_true rfl) ?_
  show BB _ _ 0 [.ref 1, .ref q, .int (nI i), .null, .null] [] _ _ _ _ _
  iterate 1 refine pm_B.next rfl rfl ?_
  refine q_getr rfl t0 (by decide) q1 ?_
  iterate 1 refine pm_B.next rfl rfl ?_
  refine q_iald rfl t2 i rfl hi (by decide) rfl ?_
  iterate 2 refine pm_B.next rfl rfl ?_
  refine q_getr rfl t0 (by decide) q3 ?_
  iterate 1 refine pm_B.next rfl rfl ?_
  refine q_iald rfl t4 i rfl hi (by decide) hhd ?_
  iterate 2 refine pm_B.next rfl rfl ?_
  refine q_getr rfl t0 (by decide) q0 ?_
  iterate 1 refine pm_B.next rfl rfl ?_
  refine q_iald rfl t1 i rfl hi (by decide) hkd ?_
  show BB _ _ 14 [.ref 1, .ref q, .int (nI i), .int (A (q + 2) i), .int hd] [.int kd] _ _ _ _ _
  by_cases h0 : kd = 0
  · subst h0
    obtain ⟨hj8, hnj⟩ := hnm (Or.inl rfl)
    rw [hnj]
    repeat (first | refine pm_B.next rfl rfl ?_ | refine q_getr rfl (by assumption) (by decide) (by assumption) ?_ | refine q_geti rfl (by assumption) (by decide) (by assumption) ?_ | refine q_iald rfl (by assumption) _ rfl (by first | assumption | omega) (by decide) rfl ?_)
    by_cases hg : A 3 j = -1
    · refine r_icT rfl (decide_eq_true hg) ?_
      repeat refine pm_B.next rfl rfl ?_
      exact q_zret rfl (Or.inr rfl) (Or.inl ⟨rgt_0.mpr (Or.inl hg), rfl⟩)
    · refine r_icF rfl (decide_eq_false hg) ?_
      repeat refine pm_B.next rfl rfl ?_
      refine q_cv (a := [.int (nI j), .int hd]) rfl s1 rfl (Nat.le_of_ble_eq_true rfl) (Nat.le_of_ble_eq_true rfl) (x_guardHeld k0 hj8) ?_
      by_cases hb : hd &&& ((1 : Int32) <<< (A 3 j &&& 31)) = 0
      · rw [if_pos hb]
        repeat refine pm_B.next rfl rfl ?_
        exact q_zret rfl (Or.inl rfl) (Or.inr ⟨fun g => (rgt_0.mp g).elim hg (fun z => z hb), rfl⟩)
      · rw [if_neg hb]
        repeat refine pm_B.next rfl rfl ?_
        exact q_zret rfl (Or.inr rfl) (Or.inl ⟨rgt_0.mpr (Or.inr hb), rfl⟩)
  by_cases h1 : kd = 1
  · subst h1
    obtain ⟨hj8, hnj⟩ := hnm (Or.inr (Or.inl rfl))
    rw [hnj]
    repeat (first | refine pm_B.next rfl rfl ?_ | refine q_getr rfl (by assumption) (by decide) (by assumption) ?_ | refine q_geti rfl (by assumption) (by decide) (by assumption) ?_ | refine q_iald rfl (by assumption) _ rfl (by first | assumption | omega) (by decide) rfl ?_)
    by_cases hg : A 3 j = -1
    · refine r_icT rfl (decide_eq_true hg) ?_
      repeat refine pm_B.next rfl rfl ?_
      exact q_zret rfl (Or.inl rfl) (Or.inr ⟨fun g => (rgt_1.mp g).1 hg, rfl⟩)
    · refine r_icF rfl (decide_eq_false hg) ?_
      repeat refine pm_B.next rfl rfl ?_
      refine q_cv (a := [.int (nI j), .int hd]) rfl s1 rfl (Nat.le_of_ble_eq_true rfl) (Nat.le_of_ble_eq_true rfl) (x_guardHeld k0 hj8) ?_
      by_cases hb : hd &&& ((1 : Int32) <<< (A 3 j &&& 31)) = 0
      · rw [if_pos hb]
        repeat refine pm_B.next rfl rfl ?_
        exact q_zret rfl (Or.inl rfl) (Or.inr ⟨fun g => (rgt_1.mp g).2 hb, rfl⟩)
      · rw [if_neg hb]
        repeat refine pm_B.next rfl rfl ?_
        exact q_zret rfl (Or.inr rfl) (Or.inl ⟨rgt_1.mpr ⟨hg, hb⟩, rfl⟩)
  by_cases h9 : kd = 9
  · subst h9
    obtain ⟨hj8, hnj⟩ := hnm (Or.inr (Or.inr (Or.inl rfl)))
    rw [hnj]
    repeat refine pm_B.next rfl rfl ?_
    refine q_cv (a := [.int (nI j)]) rfl s1 rfl (Nat.le_of_ble_eq_true rfl) (Nat.le_of_ble_eq_true rfl) (x_contains k0 hn) ?_
    rw [in_nI (by omega) (by omega)]
    by_cases hjn : j < n
    · obtain ⟨b1, b2, b3⟩ := hbq j hjn
      rw [if_pos hjn]
      repeat refine pm_B.next rfl rfl ?_
      refine q_getr rfl s1 (by decide) p0 ?_
      repeat refine pm_B.next rfl rfl ?_
      refine q_aald rfl s2 j rfl hj8 (by decide) b1 ?_
      refine q_geti rfl b2 (by decide) b3 ?_
      by_cases hz : rf j = 0
      · refine r_ifF rfl (decide_eq_false (fun g => g hz)) ?_
        repeat refine pm_B.next rfl rfl ?_
        exact q_zret rfl (Or.inr rfl) (Or.inl ⟨rgt_9.mpr ⟨hjn, hz⟩, rfl⟩)
      · refine r_ifT rfl (decide_eq_true hz) ?_
        repeat refine pm_B.next rfl rfl ?_
        exact q_zret rfl (Or.inl rfl) (Or.inr ⟨fun g => hz (rgt_9.mp g).2, rfl⟩)
    · rw [if_neg hjn]
      repeat refine pm_B.next rfl rfl ?_
      exact q_zret rfl (Or.inl rfl) (Or.inr ⟨fun g => hjn (rgt_9.mp g).1, rfl⟩)
  by_cases h10 : kd = 10
  · subst h10
    obtain ⟨hj8, hnj⟩ := hnm (Or.inr (Or.inr (Or.inr rfl)))
    rw [hnj]
    repeat refine pm_B.next rfl rfl ?_
    refine q_cv (a := [.int (nI j)]) rfl s1 rfl (Nat.le_of_ble_eq_true rfl) (Nat.le_of_ble_eq_true rfl) (x_contains k0 hn) ?_
    rw [in_nI (by omega) (by omega)]
    by_cases hjn : j < n
    · obtain ⟨b1, b2, b3⟩ := hbq j hjn
      rw [if_pos hjn]
      repeat refine pm_B.next rfl rfl ?_
      refine q_getr rfl s1 (by decide) p0 ?_
      repeat refine pm_B.next rfl rfl ?_
      refine q_aald rfl s2 j rfl hj8 (by decide) b1 ?_
      refine q_geti rfl b2 (by decide) b3 ?_
      repeat refine pm_B.next rfl rfl ?_
      by_cases hz : rf j &&& (hd ^^^ -1) = 0
      · refine r_ifF rfl (decide_eq_false (fun g => g hz)) ?_
        repeat refine pm_B.next rfl rfl ?_
        exact q_zret rfl (Or.inr rfl) (Or.inl ⟨rgt_10.mpr ⟨hjn, hz⟩, rfl⟩)
      · refine r_ifT rfl (decide_eq_true hz) ?_
        repeat refine pm_B.next rfl rfl ?_
        exact q_zret rfl (Or.inl rfl) (Or.inr ⟨fun g => hz (rgt_10.mp g).2, rfl⟩)
    · rw [if_neg hjn]
      repeat refine pm_B.next rfl rfl ?_
      exact q_zret rfl (Or.inl rfl) (Or.inr ⟨fun g => hjn (rgt_10.mp g).1, rfl⟩)
  refine pm_B.next (q := (77, _, _, _)) rfl (pm_sw_hit (by simp only [pm_swt, h0, h1, h9, h10, if_false])) ?_
  repeat refine pm_B.next rfl rfl ?_
  exact q_zret rfl (Or.inr rfl) (Or.inl ⟨rgt_o h0 h1 h9 h10, rfl⟩)
theorem x_closeText {n sz tq un : Nat} {rq : Int32} (k : kH S P) (hn : A 1 3 = nI n) (hn8 : n ≤ 8) (ht : P 1 2 = some tq) (kt : kB S P tq) (hs : A tq 4 = nI sz) (h64 : sz ≤ 64) (hun : n < 8 → P 2 n = some un) (h1t : tq ≠ 1 ∧ tq + 3 ≠ 1 ∧ tq + 4 ≠ 1) :
    EE (d + 2) M_Sh_closeText [.ref 1, .int rq] SL S A P (fun r => (¬ (n < 8 ∧ bk_wh (A (tq + 1)) sz) ∧ ∃ A1, (A1 = A ∨ ∃ pt hd, A1 = jb A tq rq pt hd) ∧ r = ((131, SL, S, pm_u A1 tq 4 0, P), some (.int (-1)))) ∨ (n < 8 ∧ bk_wh (A (tq + 1)) sz ∧ ∃ pt hd, jc (A (tq + 1)) pt sz ∧ (∀ k, k < sz → hd k = hl (A (tq + 1)) (A (tq + 2)) rq (bk_st (A (tq + 1)) k)) ∧ r = ((131, SL, S, pm_u (jb A tq rq pt hd) 1 3 (nI (n + 1)), pm_u (pm_u P 2 n (some tq)) 1 2 (some un)), some (.int (nI n))))) := by
  obtain ⟨⟨s1, s2, s3⟩, p0, p1⟩ := k
  refine q_of (tb := fun j => tb_Sh_closeText[j]?) rfl rfl (Nat.le_of_ble_eq_true rfl) ?_
  show BB _ _ 0 [.ref 1, .int rq, .null] [] _ _ _ _ _
  iterate 1 refine pm_B.next rfl rfl ?_
  refine q_geti rfl s1 (by decide) hn ?_
  iterate 1 refine pm_B.next rfl rfl ?_
  by_cases h8 : n < 8
  · refine r_icF rfl (decide_eq_false (nI_ge (a := n) (b := 8) h8 (by decide))) ?_
    iterate 1 refine pm_B.next rfl rfl ?_
    refine q_getr rfl s1 (by decide) ht ?_
    iterate 1 refine pm_B.next rfl rfl ?_
    refine q_callv (a := [.int rq]) rfl kt.1.1 rfl (Nat.le_of_ble_eq_true rfl) (Nat.le_of_ble_eq_true rfl) (x_join kt hs h64) (fun h1 v hr => ?_)
    rcases hr with ⟨hw, pt, hd, hr⟩ | ⟨hw, pt, hd, hc, hh, hr⟩
    · cases hr
      iterate 2 refine pm_B.next rfl rfl ?_
      refine q_getr rfl s1 (by decide) ht ?_
      refine q_cv (a := []) rfl kt.1.1 rfl (Nat.le_of_ble_eq_true rfl) (Nat.le_of_ble_eq_true rfl) (x_Bo_clear kt) ?_
      iterate 1 refine pm_B.next rfl rfl ?_
      exact q_iret rfl (Or.inl ⟨fun g => hw g.2, _, Or.inr ⟨pt, hd, rfl⟩, rfl⟩)
    · cases hr
      have hn' : jb A tq rq pt hd 1 3 = nI n := by rw [jb_o (by omega) (by omega) (by omega)]; exact hn
      iterate 2 refine pm_B.next rfl rfl ?_
      refine q_getr rfl s1 (by decide) p0 ?_
      iterate 1 refine pm_B.next rfl rfl ?_
      refine q_geti rfl s1 (by decide) hn' ?_
      refine q_aald rfl s2 n rfl h8 (by decide) (hun h8) ?_
      iterate 2 refine pm_B.next rfl rfl ?_
      refine q_getr rfl s1 (by decide) p0 ?_
      iterate 1 refine pm_B.next rfl rfl ?_
      refine q_geti rfl s1 (by decide) hn' ?_
      iterate 1 refine pm_B.next rfl rfl ?_
      refine q_getr rfl s1 (by decide) ht ?_
      refine q_aast rfl s2 n rfl h8 (by decide) kt.1.1 ?_
      iterate 2 refine pm_B.next rfl rfl ?_
      refine q_putr rfl s1 (by decide) ?_
      iterate 2 refine pm_B.next rfl rfl ?_
      refine q_geti rfl s1 (by decide) hn' ?_
      iterate 2 refine pm_B.next rfl rfl ?_
      refine q_top (nI_1 n) ?_
      refine q_puti rfl s1 (by decide) ?_
      iterate 1 refine pm_B.next rfl rfl ?_
      refine q_geti rfl s1 (by decide) (v := nI (n + 1)) u_eq ?_
      iterate 2 refine pm_B.next rfl rfl ?_
      refine q_top (nI_pred n) ?_
      exact q_iret rfl (Or.inr ⟨h8, hw, pt, hd, hc, hh, rfl⟩)
  · have : n = 8 := by omega
    subst this
    refine r_icT rfl rfl ?_
    iterate 1 refine pm_B.next rfl rfl ?_
    refine q_getr rfl s1 (by decide) ht ?_
    refine q_cv (a := []) rfl kt.1.1 rfl (Nat.le_of_ble_eq_true rfl) (Nat.le_of_ble_eq_true rfl) (x_Bo_clear kt) ?_
    iterate 1 refine pm_B.next rfl rfl ?_
    exact q_iret rfl (Or.inl ⟨fun g => h8 g.1, _, Or.inl rfl, rfl⟩)
end SHELF2
