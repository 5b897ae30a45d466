section RUN3
variable {d : Nat} {SL : Nat} {S : Nat → Nat × Nat} {A : Nat → Nat → Int32} {P : Nat → Nat → Option Nat}
/-- the first locks, cells are cleared -/
def lkC (A : Nat → Nat → Int32) : Nat → Nat → Nat → Int32
  | 0 => A
  | i + 1 => pm_u (pm_u (fl (lkC A i) (80 + 2 * i) 6 0) (79 + 2 * i) 1 (-1)) (79 + 2 * i) 2 0
def ceC (A : Nat → Nat → Int32) : Nat → Nat → Nat → Int32
  | 0 => A
  | i + 1 => pm_u (fl (fl (ceC A i) (88 + 3 * i) 6 0) (89 + 3 * i) 6 0) (87 + 3 * i) 2 0
theorem lkC_o {a : Nat} : ∀ i, (a < 79 ∨ 79 + 2 * i ≤ a) → lkC A i a = A a
  | 0, _ => rfl
  | i + 1, h => by
    funext b
    rw [lkC, u_nc (by omega), u_nc (by omega), fl_nc (by omega), lkC_o i (by omega)]
theorem lkC_1 {l : Nat} : ∀ i, l < i → lkC A i (79 + 2 * l) 1 = -1 ∧ lkC A i (79 + 2 * l) 2 = 0 ∧ ∀ b, b < 6 → lkC A i (80 + 2 * l) b = 0
  | 0, h => absurd h (Nat.not_lt_zero _)
  | i + 1, h => by
    by_cases hi : l = i
    · subst hi
      refine ⟨?_, ?_, fun b hb => ?_⟩
      · rw [lkC, u_ni (by decide)]; exact u_eq
      · rw [lkC]; exact u_eq
      · rw [lkC, u_nc (by omega), u_nc (by omega), fl_in hb]
    · obtain ⟨g1, g2, g3⟩ := lkC_1 i (show l < i by omega)
      refine ⟨?_, ?_, fun b hb => ?_⟩
      · rw [lkC, u_nc (by omega), u_nc (by omega), fl_nc (by omega)]; exact g1
      · rw [lkC, u_nc (by omega), u_nc (by omega), fl_nc (by omega)]; exact g2
      · rw [lkC, u_nc (by omega), u_nc (by omega), fl_nc (by omega)]; exact g3 b hb
theorem ceC_o {a : Nat} : ∀ i, (a < 87 ∨ 87 + 3 * i ≤ a) → ceC A i a = A a
  | 0, _ => rfl
  | i + 1, h => by
    funext b
    rw [ceC, u_nc (by omega), fl_nc (by omega), fl_nc (by omega), ceC_o i (by omega)]
theorem ceC_1 {c : Nat} : ∀ i, c < i → ceC A i (87 + 3 * c) 2 = 0 ∧ (∀ b, b < 6 → ceC A i (88 + 3 * c) b = 0) ∧ ∀ b, b < 6 → ceC A i (89 + 3 * c) b = 0
  | 0, h => absurd h (Nat.not_lt_zero _)
  | i + 1, h => by
    by_cases hi : c = i
    · subst hi
      refine ⟨?_, fun b hb => ?_, fun b hb => ?_⟩
      · rw [ceC]; exact u_eq
      · rw [ceC, u_nc (by omega), fl_nc (by omega), fl_in hb]
      · rw [ceC, u_nc (by omega), fl_in hb]
    · obtain ⟨g1, g2, g3⟩ := ceC_1 i (show c < i by omega)
      refine ⟨?_, fun b hb => ?_, fun b hb => ?_⟩
      · rw [ceC, u_nc (by omega), fl_nc (by omega), fl_nc (by omega)]; exact g1
      · rw [ceC, u_nc (by omega), fl_nc (by omega), fl_nc (by omega)]; exact g2 b hb
      · rw [ceC, u_nc (by omega), fl_nc (by omega), fl_nc (by omega)]; exact g3 b hb
/-- the heap behind the beginning of a run, in the class -/
def brH (A : Nat → Nat → Int32) (b sz : Nat) (h : Int32) : Nat → Nat → Int32 := pm_u (pm_u (pm_u (pm_u (pm_u (pm_u (fl (pm_u (pm_u (pm_u (ceC (lkC A 4) 8) 53 1 0) 49 6 0) 49 5 1) 58 6 0) 55 5 h) 55 4 0) 56 0 (nI b)) 57 0 0) 55 4 (nI 1)) 55 4 (nI (if sz = 0 then 0 else 1))
theorem x_Ru_begin {b q sz : Nat} {h : Int32} (u : kU S P) (hb8 : b < 8) (hq : P 2 b = some q ∧ kB S P q ∧ A q 4 = nI sz ∧ sz < 1000 ∧ q < 49) : EE (d + 2) M_Ru_begin [.ref 49, .int (nI b), .int h] SL S A P (fun r => r = ((131, SL, S, brH A b sz h, P), none)) := by
  obtain ⟨⟨s0, s1, s2, s3, s4, s5, s6⟩, ⟨p0, p1, p2, p3, p4, p5, p6⟩, us, ul, uc, ur⟩ := id u
  obtain ⟨ps, ks⟩ := us 0 (by omega)
  obtain ⟨hq1, hq2, hq3, hq4, hq5⟩ := hq
  refine q_of (tb := fun j => tb_Ru_begin[j]?) rfl rfl (Nat.le_of_ble_eq_true rfl) ?_
  show BB _ _ 0 [.ref 49, .int (nI b), .int h, .null] [] _ _ _ _ _
  iterate 2 refine pm_B.next rfl rfl ?_
  have g2 : ∀ k i, i + k = 8 → BB (d + 2) (fun j => tb_Ru_begin[j]?) 14 [.ref 49, .int (nI b), .int h, .int (nI i)] [] SL S (ceC (lkC A 4) i) P (fun r => (131 ≤ r.1.1 ∧ SL ≤ r.1.2.1) ∧ r = ((131, SL, S, brH A b sz h, P), none)) := by
    intro k
    induction k with
    | zero =>
      intro i hi
      have : i = 8 := by omega
      subst this
      iterate 2 refine pm_B.next rfl rfl ?_
      refine r_icT rfl rfl ?_
      iterate 1 refine pm_B.next rfl rfl ?_
      refine q_getr rfl s0 (by decide) p4 ?_
      refine q_cv (a := []) rfl ur.1.1 rfl (Nat.le_of_ble_eq_true rfl) (Nat.le_of_ble_eq_true rfl) (x_Rl_clear ur) ?_
      iterate 2 refine pm_B.next rfl rfl ?_
      refine q_puti rfl s0 (by decide) ?_
      iterate 2 refine pm_B.next rfl rfl ?_
      refine q_puti rfl s0 (by decide) ?_
      iterate 1 refine pm_B.next rfl rfl ?_
      refine q_getr rfl s0 (by decide) p1 ?_
      iterate 1 refine pm_B.next rfl rfl ?_
      refine q_aald rfl s1 0 rfl (by decide) (by decide) ps ?_
      refine q_getr rfl ks.1.1 (by decide) ks.2.2.2 ?_
      iterate 1 refine pm_B.next rfl rfl ?_
      refine q_cs (a := [.ref 58, .int 0]) rfl rfl (Nat.le_of_ble_eq_true rfl) (Nat.le_of_ble_eq_true rfl) (x_fill ks.1.2.2.2 (by decide)) ?_
      iterate 1 refine pm_B.next rfl rfl ?_
      refine q_getr rfl s0 (by decide) p1 ?_
      iterate 1 refine pm_B.next rfl rfl ?_
      refine q_aald rfl s1 0 rfl (by decide) (by decide) ps ?_
      iterate 2 refine pm_B.next rfl rfl ?_
      refine q_cv (a := [.int (nI b), .int h]) rfl ks.1.1 rfl (Nat.le_of_ble_eq_true rfl) (Nat.le_of_ble_eq_true rfl) (x_Sd_begin ks) ?_
      iterate 2 refine pm_B.next rfl rfl ?_
      refine q_getr rfl s0 (by decide) p1 ?_
      iterate 1 refine pm_B.next rfl rfl ?_
      refine q_aald rfl s1 0 rfl (by decide) (by decide) ps ?_
      refine q_cv (a := [.ref 55]) rfl s0 rfl (Nat.le_of_ble_eq_true rfl) (Nat.le_of_ble_eq_true rfl) (x_leaveEE (n := 1) (bb := fun _ => b) (qq := fun _ => q) (pl := fun _ => 0) (sz := fun _ => sz) u ks (by decide) u_eq (fun j hj => ?_)) ?_
      · have : j = 0 := by omega
        subst this
        refine ⟨?_, hb8, hq1, hq2.1.1, ?_, by decide, ?_, hq4, by omega⟩
        · rw [u_nc (by decide), u_nc (by decide)]; exact u_eq
        · rw [u_nc (by decide)]; exact u_eq
        · rw [u_nc (by omega), u_nc (by omega), u_nc (by omega), u_nc (by omega), u_nc (by omega), fl_nc (by omega), u_nc (by omega), u_nc (by omega), u_nc (by omega), ceC_o 8 (by omega), lkC_o 4 (by omega)]
          exact hq3
      have e : lvn (fun _ => decide (sz ≤ 0)) 1 = if sz = 0 then 0 else 1 := by
        by_cases h : sz = 0 <;> simp [lvn, h]
      rw [e]
      exact q_vret rfl rfl
    | succ k ih =>
      intro i hi
      obtain ⟨pc, kc⟩ := uc i (by omega)
      iterate 2 refine pm_B.next rfl rfl ?_
      refine r_icF rfl (decide_eq_false (nI_ge (a := i) (b := 8) (by omega) (by decide))) ?_
      iterate 1 refine pm_B.next rfl rfl ?_
      refine q_getr rfl s0 (by decide) p3 ?_
      iterate 1 refine pm_B.next rfl rfl ?_
      refine q_aald rfl s3 i rfl (by omega) (by decide) pc ?_
      refine q_cv (a := []) rfl kc.1.1 rfl (Nat.le_of_ble_eq_true rfl) (Nat.le_of_ble_eq_true rfl) (x_Ce_clear kc) ?_
      iterate 2 refine pm_B.next rfl rfl ?_
      refine q_lc (lc' := [.ref 49, .int (nI b), .int h, .int (nI (i + 1))]) (by rw [nI_succ]; rfl) ?_
      have := ih (i + 1) (by omega)
      rw [ceC, show 88 + 3 * i = 87 + 3 * i + 1 by omega, show 89 + 3 * i = 87 + 3 * i + 2 by omega] at this
      exact this
  have g1 : ∀ k i, i + k = 4 → BB (d + 2) (fun j => tb_Ru_begin[j]?) 2 [.ref 49, .int (nI b), .int h, .int (nI i)] [] SL S (lkC A i) P (fun r => (131 ≤ r.1.1 ∧ SL ≤ r.1.2.1) ∧ r = ((131, SL, S, brH A b sz h, P), none)) := by
    intro k
    induction k with
    | zero =>
      intro i hi
      have : i = 4 := by omega
      subst this
      iterate 2 refine pm_B.next rfl rfl ?_
      refine r_icT rfl rfl ?_
      iterate 2 refine pm_B.next rfl rfl ?_
      exact g2 8 0 (by omega)
    | succ k ih =>
      intro i hi
      obtain ⟨pl, kl⟩ := ul i (by omega)
      iterate 2 refine pm_B.next rfl rfl ?_
      refine r_icF rfl (decide_eq_false (nI_ge (a := i) (b := 4) (by omega) (by decide))) ?_
      iterate 1 refine pm_B.next rfl rfl ?_
      refine q_getr rfl s0 (by decide) p2 ?_
      iterate 1 refine pm_B.next rfl rfl ?_
      refine q_aald rfl s2 i rfl (by omega) (by decide) pl ?_
      refine q_cv (a := []) rfl kl.1.1 rfl (Nat.le_of_ble_eq_true rfl) (Nat.le_of_ble_eq_true rfl) (x_Lk_clear kl) ?_
      iterate 2 refine pm_B.next rfl rfl ?_
      refine q_lc (lc' := [.ref 49, .int (nI b), .int h, .int (nI (i + 1))]) (by rw [nI_succ]; rfl) ?_
      have := ih (i + 1) (by omega)
      rw [lkC, show 80 + 2 * i = 79 + 2 * i + 1 by omega] at this
      exact this
  exact g1 4 0 (by omega)
theorem x_valueOf {T : Nat} (u : kU S P) (hT : A 49 5 = nI T) (v w : Int32) (hw : (in_ v (nI T) = 0 ∧ w = 0) ∨ ∃ t, v = nI t ∧ t < T ∧ T ≤ 6 ∧ A (55 + 4 * t) 5 = w) : EE (d + 1) M_Ru_valueOf [.ref 49, .int v] SL S A P (fun r => r = ((131, SL, S, A, P), some (.int w))) := by
  obtain ⟨⟨s0, s1, s2, s3, s4, s5, s6⟩, ⟨p0, p1, p2, p3, p4, p5, p6⟩, us, ul, uc, ur⟩ := id u
  refine q_of (tb := fun j => tb_Ru_valueOf[j]?) rfl rfl (Nat.le_of_ble_eq_true rfl) ?_
  show BB _ _ 0 [.ref 49, .int v] [] _ _ _ _ _
  iterate 2 refine pm_B.next rfl rfl ?_
  refine q_geti rfl s0 (by decide) hT ?_
  refine q_cs (a := [.int v, .int (nI T)]) rfl rfl (Nat.le_of_ble_eq_true rfl) (Nat.le_of_ble_eq_true rfl) (x_isBelow v (nI T)) ?_
  rcases hw with ⟨hv, hw⟩ | ⟨t, hvt, htT, hT6, hw⟩
  · refine q_top hv ?_
    refine r_ifT rfl rfl ?_
    iterate 1 refine pm_B.next rfl rfl ?_
    rw [hw]
    exact q_iret rfl rfl
  · subst hvt
    obtain ⟨ps, ks⟩ := us t (by omega)
    refine q_top (show in_ (nI t) (nI T) = 1 by rw [in_nI (by omega) (by omega), if_pos htT]) ?_
    refine r_ifF rfl rfl ?_
    iterate 1 refine pm_B.next rfl rfl ?_
    refine q_getr rfl s0 (by decide) p1 ?_
    iterate 1 refine pm_B.next rfl rfl ?_
    refine q_aald rfl s1 t rfl (by omega) (by decide) ps ?_
    refine q_geti rfl ks.1.1 (by decide) hw ?_
    iterate 1 refine pm_B.next rfl rfl ?_
    exact q_iret rfl rfl
theorem x_contentOf (u : kU S P) (v w : Int32) (hw : (in_ v 8 = 0 ∧ w = 0) ∨ ∃ t, v = nI t ∧ t < 8 ∧ A (87 + 3 * t) 2 = w) : EE (d + 1) M_Ru_contentOf [.ref 49, .int v] SL S A P (fun r => r = ((131, SL, S, A, P), some (.int w))) := by
  obtain ⟨⟨s0, s1, s2, s3, s4, s5, s6⟩, ⟨p0, p1, p2, p3, p4, p5, p6⟩, us, ul, uc, ur⟩ := id u
  refine q_of (tb := fun j => tb_Ru_contentOf[j]?) rfl rfl (Nat.le_of_ble_eq_true rfl) ?_
  show BB _ _ 0 [.ref 49, .int v] [] _ _ _ _ _
  iterate 2 refine pm_B.next rfl rfl ?_
  refine q_cs (a := [.int v, .int 8]) rfl rfl (Nat.le_of_ble_eq_true rfl) (Nat.le_of_ble_eq_true rfl) (x_isBelow v 8) ?_
  rcases hw with ⟨hv, hw⟩ | ⟨t, hvt, htT, hw⟩
  · refine q_top hv ?_
    refine r_ifT rfl rfl ?_
    iterate 1 refine pm_B.next rfl rfl ?_
    rw [hw]
    exact q_iret rfl rfl
  · subst hvt
    obtain ⟨ps, ks⟩ := uc t (by omega)
    refine q_top (show in_ (nI t) (nI 8) = 1 by rw [in_nI (by omega) (by omega), if_pos htT]) ?_
    refine r_ifF rfl rfl ?_
    iterate 1 refine pm_B.next rfl rfl ?_
    refine q_getr rfl s0 (by decide) p3 ?_
    iterate 1 refine pm_B.next rfl rfl ?_
    refine q_aald rfl s3 t rfl (by omega) (by decide) ps ?_
    refine q_geti rfl ks.1.1 (by decide) hw ?_
    iterate 1 refine pm_B.next rfl rfl ?_
    exact q_iret rfl rfl
theorem x_holderOf (u : kU S P) (v w : Int32) (hw : (in_ v 4 = 0 ∧ w = -1) ∨ ∃ t, v = nI t ∧ t < 4 ∧ A (79 + 2 * t) 1 = w) : EE (d + 1) M_Ru_holderOf [.ref 49, .int v] SL S A P (fun r => r = ((131, SL, S, A, P), some (.int w))) := by
  obtain ⟨⟨s0, s1, s2, s3, s4, s5, s6⟩, ⟨p0, p1, p2, p3, p4, p5, p6⟩, us, ul, uc, ur⟩ := id u
  refine q_of (tb := fun j => tb_Ru_holderOf[j]?) rfl rfl (Nat.le_of_ble_eq_true rfl) ?_
  show BB _ _ 0 [.ref 49, .int v] [] _ _ _ _ _
  iterate 2 refine pm_B.next rfl rfl ?_
  refine q_cs (a := [.int v, .int 4]) rfl rfl (Nat.le_of_ble_eq_true rfl) (Nat.le_of_ble_eq_true rfl) (x_isBelow v 4) ?_
  rcases hw with ⟨hv, hw⟩ | ⟨t, hvt, htT, hw⟩
  · refine q_top hv ?_
    refine r_ifT rfl rfl ?_
    iterate 1 refine pm_B.next rfl rfl ?_
    rw [hw]
    exact q_iret rfl rfl
  · subst hvt
    obtain ⟨ps, ks⟩ := ul t (by omega)
    refine q_top (show in_ (nI t) (nI 4) = 1 by rw [in_nI (by omega) (by omega), if_pos htT]) ?_
    refine r_ifF rfl rfl ?_
    iterate 1 refine pm_B.next rfl rfl ?_
    refine q_getr rfl s0 (by decide) p2 ?_
    iterate 1 refine pm_B.next rfl rfl ?_
    refine q_aald rfl s2 t rfl (by omega) (by decide) ps ?_
    refine q_geti rfl ks.1.1 (by decide) hw ?_
    iterate 1 refine pm_B.next rfl rfl ?_
    exact q_iret rfl rfl
theorem x_countOf {tc sc rc : Int32} (u : kU S P) (hT : A 49 5 = tc) (hst : A 49 6 = sc) (hrc : A 53 1 = rc) (v : Int32) : EE d M_Ru_countOf [.ref 49, .int v] SL S A P (fun r => r = ((131, SL, S, A, P), some (.int (if tc = 0 then -1 else if v = 0 then tc else if v = 1 then sc else if v = 2 then rc else -1)))) := by
  obtain ⟨⟨s0, s1, s2, s3, s4, s5, s6⟩, ⟨p0, p1, p2, p3, p4, p5, p6⟩, us, ul, uc, ur⟩ := id u
  refine q_of (tb := fun j => tb_Ru_countOf[j]?) rfl rfl (Nat.le_of_ble_eq_true rfl) ?_
  show BB _ _ 0 [.ref 49, .int v] [] _ _ _ _ _
  iterate 1 refine pm_B.next rfl rfl ?_
  refine q_geti rfl s0 (by decide) hT ?_
  by_cases hz : tc = 0
  · refine r_ifF rfl (decide_eq_false (fun g => g hz)) ?_
    iterate 1 refine pm_B.next rfl rfl ?_
    exact q_iret rfl (by rw [if_pos hz])
  rw [if_neg hz]
  refine r_ifT rfl (decide_eq_true hz) ?_
  iterate 1 refine pm_B.next rfl rfl ?_
  by_cases h0 : v = 0
  · subst h0
    iterate 2 refine pm_B.next rfl rfl ?_
    refine q_geti rfl s0 (by decide) hT ?_
    exact q_iret rfl rfl
  by_cases h1 : v = 1
  · subst h1
    iterate 2 refine pm_B.next rfl rfl ?_
    refine q_geti rfl s0 (by decide) hst ?_
    exact q_iret rfl rfl
  by_cases h2 : v = 2
  · subst h2
    iterate 2 refine pm_B.next rfl rfl ?_
    refine q_getr rfl s0 (by decide) p4 ?_
    refine q_geti rfl ur.1.1 (by decide) hrc ?_
    exact q_iret rfl rfl
  rw [if_neg h0, if_neg h1, if_neg h2]
  refine pm_B.next (q := (17, _, _, _)) rfl (pm_sw_hit (by simp only [pm_swt, h0, h1, h2, if_false])) ?_
  iterate 1 refine pm_B.next rfl rfl ?_
  exact q_iret rfl rfl
/-- what the state of thread t rests on, in the class -/
def tpS (S : Nat → Nat × Nat) (A : Nat → Nat → Int32) (P : Nat → Nat → Option Nat) (t dt b q p l : Nat) (ow : Int32) : Prop := (A (55 + 4 * t) 4 = nI dt ∧ dt ≤ 8 ∧ A (55 + 4 * t) 0 = nI t) ∧ (dt ≠ 0 → tpC S A P t (dt - 1) b q p ∧ (A (q + 1) p = 4 → l < 4 ∧ A (q + 2) p = nI l ∧ A (79 + 2 * l) 1 = ow))
theorem x_stateOf_no {T : Nat} (u : kU S P) (hT : A 49 5 = nI T) (v : Int32) (hv : in_ v (nI T) = 0) : EE (d + 1) M_Ru_stateOf [.ref 49, .int v] SL S A P (fun r => r = ((131, SL, S, A, P), some (.int (-1)))) := by
  obtain ⟨⟨s0, s1, s2, s3, s4, s5, s6⟩, ⟨p0, p1, p2, p3, p4, p5, p6⟩, us, ul, uc, ur⟩ := id u
  refine q_of (tb := fun j => tb_Ru_stateOf[j]?) rfl rfl (Nat.le_of_ble_eq_true rfl) ?_
  show BB _ _ 0 [.ref 49, .int v] [] _ _ _ _ _
  iterate 2 refine pm_B.next rfl rfl ?_
  refine q_geti rfl s0 (by decide) hT ?_
  refine q_cs (a := [.int v, .int (nI T)]) rfl rfl (Nat.le_of_ble_eq_true rfl) (Nat.le_of_ble_eq_true rfl) (x_isBelow v (nI T)) ?_
  refine q_top hv ?_
  refine r_ifF rfl rfl ?_
  iterate 1 refine pm_B.next rfl rfl ?_
  exact q_iret rfl rfl
theorem x_stateOf {T t dt b q p l : Nat} {ow : Int32} (u : kU S P) (hT : A 49 5 = nI T) (htT : t < T) (hT6 : T ≤ 6) (tp : tpS S A P t dt b q p l ow) : EE (d + 2) M_Ru_stateOf [.ref 49, .int (nI t)] SL S A P (fun r => r = ((131, SL, S, A, P), some (.int (sv_ dt (A (q + 1) p) ow (nI t))))) := by
  obtain ⟨⟨s0, s1, s2, s3, s4, s5, s6⟩, ⟨p0, p1, p2, p3, p4, p5, p6⟩, us, ul, uc, ur⟩ := id u
  obtain ⟨ps, ks⟩ := us t (by omega)
  obtain ⟨⟨hd, hd8, hnb⟩, tp⟩ := tp
  refine q_of (tb := fun j => tb_Ru_stateOf[j]?) rfl rfl (Nat.le_of_ble_eq_true rfl) ?_
  show BB _ _ 0 [.ref 49, .int (nI t)] [] _ _ _ _ _
  iterate 2 refine pm_B.next rfl rfl ?_
  refine q_geti rfl s0 (by decide) hT ?_
  refine q_cs (a := [.int (nI t), .int (nI T)]) rfl rfl (Nat.le_of_ble_eq_true rfl) (Nat.le_of_ble_eq_true rfl) (x_isBelow _ _) ?_
  refine q_top (show in_ (nI t) (nI T) = 1 by rw [in_nI (by omega) (by omega), if_pos htT]) ?_
  refine r_ifT rfl rfl ?_
  iterate 1 refine pm_B.next rfl rfl ?_
  refine q_getr rfl s0 (by decide) p1 ?_
  iterate 1 refine pm_B.next rfl rfl ?_
  refine q_aald rfl s1 t rfl (by omega) (by decide) ps ?_
  refine q_cv (a := []) rfl ks.1.1 rfl (Nat.le_of_ble_eq_true rfl) (Nat.le_of_ble_eq_true rfl) (x_Sd_isDone ks hd) ?_
  cases dt with
  | zero =>
    refine r_ifF rfl rfl ?_
    iterate 1 refine pm_B.next rfl rfl ?_
    exact q_iret rfl rfl
  | succ n =>
    obtain ⟨⟨hd', hn, hb, hb8, hq, kb, hq45, hp, hp64⟩, hl⟩ := tp (by omega)
    rw [if_neg (show ¬ nI (n + 1) = 0 from nI_ne (a := n + 1) (b := 0) (by omega) (by decide) (by omega))]
    refine r_ifT rfl rfl ?_
    iterate 2 refine pm_B.next rfl rfl ?_
    refine q_getr rfl s0 (by decide) p1 ?_
    iterate 1 refine pm_B.next rfl rfl ?_
    refine q_aald rfl s1 t rfl (by omega) (by decide) ps ?_
    refine q_cv (a := [.ref (55 + 4 * t)]) rfl s0 rfl (Nat.le_of_ble_eq_true rfl) (Nat.le_of_ble_eq_true rfl) (x_wouldWait (b := b) (q := q) (p := p) (l := l) (kd := A (q + 1) p) (ow := ow) (nb := nI t) u ks hd hn (by rw [show 55 + 4 * t + 1 = 56 + 4 * t by omega]; exact hb) hb8 hq kb (by rw [show 55 + 4 * t + 2 = 57 + 4 * t by omega]; exact hp) hp64 rfl hl hnb) ?_
    rcases wt_z (A (q + 1) p) ow (nI t) with hw | hw
    · rw [hw]
      refine r_ifT rfl rfl ?_
      iterate 1 refine pm_B.next rfl rfl ?_
      exact q_iret rfl (by simp [sv_, hw])
    · rw [hw]
      refine r_ifF rfl rfl ?_
      iterate 2 refine pm_B.next rfl rfl ?_
      exact q_iret rfl (by simp [sv_, hw])
theorem sv_z (dt : Nat) (kd ow nb : Int32) : sv_ dt kd ow nb = 0 ∨ sv_ dt kd ow nb = 1 ∨ sv_ dt kd ow nb = 2 := by
  unfold sv_
  split
  · exact Or.inr (Or.inr rfl)
  · split
    · exact Or.inr (Or.inl rfl)
    · exact Or.inl rfl
theorem x_isStuck {T : Nat} {dt b q p l : Nat → Nat} {ow : Nat → Int32} (u : kU S P) (hT : A 49 5 = nI T) (hT6 : T ≤ 6) (htp : ∀ t, t < T → tpS S A P t (dt t) (b t) (q t) (p t) (l t) (ow t)) :
    EE (d + 3) M_Ru_isStuck [.ref 49] SL S A P (fun r => (stk (fun t => sv_ (dt t) (A (q t + 1) (p t)) (ow t) (nI t)) T ∧ r = ((131, SL, S, A, P), some (.int 1))) ∨ (¬ stk (fun t => sv_ (dt t) (A (q t + 1) (p t)) (ow t) (nI t)) T ∧ r = ((131, SL, S, A, P), some (.int 0)))) := by
  obtain ⟨⟨s0, s1, s2, s3, s4, s5, s6⟩, ⟨p0, p1, p2, p3, p4, p5, p6⟩, us, ul, uc, ur⟩ := id u
  generalize hf : (fun t => sv_ (dt t) (A (q t + 1) (p t)) (ow t) (nI t)) = f
  have hfe : ∀ t, f t = sv_ (dt t) (A (q t + 1) (p t)) (ow t) (nI t) := fun t => by rw [← hf]
  refine q_of (tb := fun j => tb_Ru_isStuck[j]?) rfl rfl (Nat.le_of_ble_eq_true rfl) ?_
  show BB _ _ 0 [.ref 49, .null, .null, .null] [] _ _ _ _ _
  iterate 4 refine pm_B.next rfl rfl ?_
  suffices h : ∀ k i (w : Int32) (x : Value), i + k = T → (∀ t, t < i → f t ≠ 0) → ((w = 1 ∧ ∃ t, t < i ∧ f t ≠ 2) ∨ (w = 0 ∧ ∀ t, t < i → f t = 2)) → BB (d + 3) (fun j => tb_Ru_isStuck[j]?) 4 [.ref 49, .int w, .int (nI i), x] [] SL S A P (fun r => (131 ≤ r.1.1 ∧ SL ≤ r.1.2.1) ∧ ((stk f T ∧ r = ((131, SL, S, A, P), some (.int 1))) ∨ (¬ stk f T ∧ r = ((131, SL, S, A, P), some (.int 0))))) by
    exact h T 0 0 .null (by omega) (fun t h => absurd h (Nat.not_lt_zero _)) (Or.inr ⟨rfl, fun t h => absurd h (Nat.not_lt_zero _)⟩)
  intro k
  induction k with
  | zero =>
    intro i w x hi hnz hw
    have : i = T := by omega
    subst this
    iterate 2 refine pm_B.next rfl rfl ?_
    refine q_geti rfl s0 (by decide) hT ?_
    refine r_icT rfl (decide_eq_true (nI_le (Nat.le_refl _) (by omega))) ?_
    iterate 1 refine pm_B.next rfl rfl ?_
    rcases hw with ⟨hw, hx⟩ | ⟨hw, hx⟩
    · rw [hw]
      exact q_zret rfl (Or.inr rfl) (Or.inl ⟨⟨hnz, hx⟩, rfl⟩)
    · rw [hw]
      exact q_zret rfl (Or.inl rfl) (Or.inr ⟨fun ⟨_, t, ht, g⟩ => g (hx t ht), rfl⟩)
  | succ k ih =>
    intro i w x hi hnz hw
    iterate 2 refine pm_B.next rfl rfl ?_
    refine q_geti rfl s0 (by decide) hT ?_
    refine r_icF rfl (decide_eq_false (nI_ge (by omega) (by omega))) ?_
    iterate 2 refine pm_B.next rfl rfl ?_
    refine q_cv (a := [.int (nI i)]) rfl s0 rfl (Nat.le_of_ble_eq_true rfl) (Nat.le_of_ble_eq_true rfl) (x_stateOf u hT (by omega) hT6 (htp i (by omega))) ?_
    have hz3 := sv_z (dt i) (A (q i + 1) (p i)) (ow i) (nI i)
    rw [← hfe] at hz3 ⊢
    iterate 2 refine pm_B.next rfl rfl ?_
    by_cases h0 : f i = 0
    · refine r_ifF rfl (decide_eq_false (fun g => g h0)) ?_
      iterate 1 refine pm_B.next rfl rfl ?_
      exact q_zret rfl (Or.inl rfl) (Or.inr ⟨fun ⟨g, _⟩ => g i (by omega) h0, rfl⟩)
    · refine r_ifT rfl (decide_eq_true h0) ?_
      have hn' : ∀ t, t < i + 1 → f t ≠ 0 := fun t ht => by
        by_cases hti : t = i
        · rw [hti]; exact h0
        · exact hnz t (by omega)
      iterate 1 refine pm_B.next rfl rfl ?_
      rcases hw with ⟨hw, t, ht, hx⟩ | ⟨hw, hx⟩
      · rw [hw]
        refine r_ifT rfl rfl ?_
        iterate 5 refine pm_B.next rfl rfl ?_
        refine q_lc (lc' := [.ref 49, .int 1, .int (nI (i + 1)), .int (f i)]) (by rw [nI_succ i]; rfl) ?_
        exact ih (i + 1) 1 _ (by omega) hn' (Or.inl ⟨rfl, t, by omega, hx⟩)
      · rw [hw]
        refine r_ifF rfl rfl ?_
        iterate 2 refine pm_B.next rfl rfl ?_
        rcases hz3 with g | g | g
        · exact absurd g h0
        · refine r_icF rfl (decide_eq_false (fun z => z g)) ?_
          iterate 5 refine pm_B.next rfl rfl ?_
          refine q_lc (lc' := [.ref 49, .int 1, .int (nI (i + 1)), .int (f i)]) (by rw [nI_succ i]; rfl) ?_
          exact ih (i + 1) 1 _ (by omega) hn' (Or.inl ⟨rfl, i, by omega, by rw [g]; decide⟩)
        · refine r_icT rfl (decide_eq_true (by rw [g]; decide)) ?_
          iterate 4 refine pm_B.next rfl rfl ?_
          refine q_lc (lc' := [.ref 49, .int 0, .int (nI (i + 1)), .int (f i)]) (by rw [nI_succ i]; rfl) ?_
          refine ih (i + 1) 0 _ (by omega) hn' (Or.inr ⟨rfl, fun t ht => ?_⟩)
          by_cases hti : t = i
          · rw [hti]; exact g
          · exact hx t (by omega)
theorem mn_ (rc : Nat) (h : rc < 2 ^ 31) : (if (64 : Int32) < nI rc then (64 : Int32) else nI rc) = nI (min rc 64) := by
  by_cases g : 64 < rc
  · rw [if_pos (show (64 : Int32) < nI rc from nI_lt (a := 64) (b := rc) g h), Nat.min_eq_right (by omega)]; rfl
  · rw [if_neg (show ¬ (64 : Int32) < nI rc from Int32.not_lt.mpr (nI_le (a := rc) (b := 64) (by omega) (by decide))), Nat.min_eq_left (by omega)]
theorem x_racePart {rc : Nat} {i what x : Int32} (u : kU S P) (hrc : A 53 1 = nI rc) (hrc31 : rc < 2 ^ 31) (hx : ((in_ i (nI (min rc 64)) = 0 ∨ in_ what 4 = 0) ∧ x = -1) ∨ (∃ j m, i = nI j ∧ j < rc ∧ j < 64 ∧ what = nI m ∧ m < 4 ∧ A 54 (4 * j + m) = x)) :
    EE (d + 2) M_Ru_racePart [.ref 49, .int i, .int what] SL S A P (fun r => r = ((131, SL, S, A, P), some (.int x))) := by
  obtain ⟨⟨s0, s1, s2, s3, s4, s5, s6⟩, ⟨p0, p1, p2, p3, p4, p5, p6⟩, us, ul, uc, ur⟩ := id u
  have key : EE (d + 1) M_Rl_part [.ref 53, .int i, .int what] SL S A P (fun r => r = ((131, SL, S, A, P), some (.int x))) := by
    refine q_of (tb := fun j => tb_Rl_part[j]?) rfl rfl (Nat.le_of_ble_eq_true rfl) ?_
    show BB _ _ 0 [.ref 53, .int i, .int what, .null] [] _ _ _ _ _
    iterate 2 refine pm_B.next rfl rfl ?_
    refine q_geti rfl ur.1.1 (by decide) hrc ?_
    iterate 2 refine pm_B.next rfl rfl ?_
    refine q_top (mn_ rc hrc31) ?_
    refine q_cs (a := [.int i, .int (nI (min rc 64))]) rfl rfl (Nat.le_of_ble_eq_true rfl) (Nat.le_of_ble_eq_true rfl) (x_isBelow _ _) ?_
    rcases hx with ⟨hb, hx⟩ | ⟨j, m, hi, hj, hj64, hwm, hm, hx⟩
    · rcases in_z i (nI (min rc 64)) with hz | hz
      · refine q_top hz ?_
        refine r_ifT rfl rfl ?_
        iterate 3 refine pm_B.next rfl rfl ?_
        refine r_ifT rfl rfl ?_
        iterate 1 refine pm_B.next rfl rfl ?_
        rw [hx]
        exact q_iret rfl rfl
      · refine q_top hz ?_
        refine r_ifF rfl rfl ?_
        iterate 2 refine pm_B.next rfl rfl ?_
        refine q_cs (a := [.int what, .int 4]) rfl rfl (Nat.le_of_ble_eq_true rfl) (Nat.le_of_ble_eq_true rfl) (x_isBelow _ _) ?_
        refine q_top (hb.resolve_left (by rw [hz]; decide)) ?_
        refine r_ifT rfl rfl ?_
        iterate 3 refine pm_B.next rfl rfl ?_
        refine r_ifT rfl rfl ?_
        iterate 1 refine pm_B.next rfl rfl ?_
        rw [hx]
        exact q_iret rfl rfl
    · subst hi hwm
      refine q_top (show in_ (nI j) (nI (min rc 64)) = 1 by rw [in_nI (by omega) (by omega), if_pos (by omega)]) ?_
      refine r_ifF rfl rfl ?_
      iterate 2 refine pm_B.next rfl rfl ?_
      refine q_cs (a := [.int (nI m), .int 4]) rfl rfl (Nat.le_of_ble_eq_true rfl) (Nat.le_of_ble_eq_true rfl) (x_isBelow _ _) ?_
      refine q_top (show in_ (nI m) (nI 4) = 1 by rw [in_nI (by omega) (by omega), if_pos hm]) ?_
      refine r_ifF rfl rfl ?_
      iterate 4 refine pm_B.next rfl rfl ?_
      refine r_ifF rfl rfl ?_
      iterate 1 refine pm_B.next rfl rfl ?_
      refine q_getr rfl ur.1.1 (by decide) ur.2 ?_
      iterate 5 refine pm_B.next rfl rfl ?_
      refine q_top (show nI j * 4 + nI m = nI (4 * j + m) by rw [show (4 : Int32) = nI 4 from rfl, pk_mul, nI_add, Nat.mul_comm]) ?_
      refine q_iald rfl ur.1.2 (4 * j + m) rfl (by omega) (by decide) hx ?_
      iterate 1 refine pm_B.next rfl rfl ?_
      exact q_iret rfl rfl
  refine q_of (tb := fun j => tb_Ru_racePart[j]?) rfl rfl (Nat.le_of_ble_eq_true rfl) ?_
  show BB _ _ 0 [.ref 49, .int i, .int what] [] _ _ _ _ _
  iterate 1 refine pm_B.next rfl rfl ?_
  refine q_getr rfl s0 (by decide) p4 ?_
  iterate 2 refine pm_B.next rfl rfl ?_
  refine q_cv (a := [.int i, .int what]) rfl ur.1.1 rfl (Nat.le_of_ble_eq_true rfl) (Nat.le_of_ble_eq_true rfl) key ?_
  exact q_iret rfl rfl
end RUN3
