def kU (S : Nat → Nat × Nat) (P : Nat → Nat → Option Nat) : Prop :=
  (pm_is S 49 19 7 ∧ pm_is S 50 3 6 ∧ pm_is S 51 4 4 ∧ pm_is S 52 5 8 ∧ pm_is S 1 17 4 ∧ pm_is S 2 2 8 ∧ pm_is S 3 0 8) ∧ (P 49 0 = some 1 ∧ P 49 1 = some 50 ∧ P 49 2 = some 51 ∧ P 49 3 = some 52 ∧ P 49 4 = some 53 ∧ P 1 0 = some 2 ∧ P 1 1 = some 3) ∧
  (∀ t, t < 6 → P 50 t = some (55 + 4 * t) ∧ kS S P (55 + 4 * t)) ∧ (∀ l, l < 4 → P 51 l = some (79 + 2 * l) ∧ kL S P (79 + 2 * l)) ∧ (∀ c, c < 8 → P 52 c = some (87 + 3 * c) ∧ kC S P (87 + 3 * c)) ∧ kR S P
section RUN1
variable {d : Nat} {SL : Nat} {S : Nat → Nat × Nat} {A : Nat → Nat → Int32} {P : Nat → Nat → Option Nat}
theorem x_Bo_closeBlock {q o e : Nat} {v : Int32} (k : kB S P q) (ho : o < 64) (he : e < 64) (hv : A (q + 3) o = v) : EE d M_Bo_closeBlock [.ref q, .int (nI o), .int (nI e)] SL S A P (fun r => r = ((131, SL, S, pm_u (pm_u A (q + 3) o (nI e)) (q + 3) e (nI o), P), some (.int v))) := by
  obtain ⟨⟨s0, s1, s2, s3, s4⟩, p0, p1, p2, p3⟩ := k
  refine q_of (tb := fun j => tb_Bo_closeBlock[j]?) rfl rfl (Nat.le_of_ble_eq_true rfl) ?_
  show BB _ _ 0 [.ref q, .int (nI o), .int (nI e), .null] [] _ _ _ _ _
  iterate 1 refine pm_B.next rfl rfl ?_
  refine q_getr rfl s0 (by decide) p2 ?_
  iterate 1 refine pm_B.next rfl rfl ?_
  refine q_iald rfl s3 o rfl ho (by decide) hv ?_
  repeat (first | refine pm_B.next rfl rfl ?_ | refine q_getr rfl (by assumption) (by decide) (by assumption) ?_ | refine q_geti rfl (by assumption) (by decide) (by assumption) ?_ | refine q_iald rfl (by assumption) _ rfl (by first | assumption | omega) (by decide) rfl ?_ | refine q_puti rfl (by assumption) (by decide) ?_ | refine q_iast rfl (by assumption) _ rfl (by first | assumption | omega) (by decide) ?_)
  exact q_iret rfl rfl
theorem x_Rl_add {n : Nat} {st th c w : Int32} (k : kR S P) (hn : A 53 1 = nI n) (hn31 : n < 2 ^ 30) : EE d M_Rl_add [.ref 53, .int st, .int th, .int c, .int w] SL S A P (fun r => (64 ≤ n ∧ r = ((131, SL, S, pm_u A 53 1 (nI (n + 1)), P), none)) ∨ (n < 64 ∧ r = ((131, SL, S, pm_u (pm_u (pm_u (pm_u (pm_u A 54 (4 * n) st) 54 (4 * n + 1) th) 54 (4 * n + 2) c) 54 (4 * n + 3) (if w = 0 then 0 else 1)) 53 1 (nI (n + 1)), P), none))) := by
  obtain ⟨⟨s0, s1⟩, p0⟩ := k
  refine q_of (tb := fun j => tb_Rl_add[j]?) rfl rfl (Nat.le_of_ble_eq_true rfl) ?_
  show BB _ _ 0 [.ref 53, .int st, .int th, .int c, .int w, .null] [] _ _ _ _ _
  repeat (first | refine pm_B.next rfl rfl ?_ | refine q_getr rfl (by assumption) (by decide) (by assumption) ?_ | refine q_geti rfl (by assumption) (by decide) (by assumption) ?_ | refine q_iald rfl (by assumption) _ rfl (by first | assumption | omega) (by decide) rfl ?_)
  refine r_ic rfl (fun h => ?_) (fun h => ?_)
  · have h : 64 ≤ n := (nI_leI (a := 64) (b := n) (by omega) (by omega)).mp (of_decide_eq_true h)
    repeat (first | refine pm_B.next rfl rfl ?_ | refine q_getr rfl (by assumption) (by decide) (by assumption) ?_ | refine q_geti rfl (by assumption) (by decide) (by assumption) ?_ | refine q_iald rfl (by assumption) _ rfl (by first | assumption | omega) (by decide) rfl ?_)
    refine q_top (nI_1 n) ?_
    repeat (first | refine pm_B.next rfl rfl ?_ | refine q_getr rfl (by assumption) (by decide) (by assumption) ?_ | refine q_geti rfl (by assumption) (by decide) (by assumption) ?_ | refine q_iald rfl (by assumption) _ rfl (by first | assumption | omega) (by decide) rfl ?_ | refine q_puti rfl (by assumption) (by decide) ?_ | refine q_iast rfl (by assumption) _ rfl (by first | assumption | omega) (by decide) ?_)
    exact q_vret rfl (Or.inl ⟨h, rfl⟩)
  · have h : n < 64 := by
      have := mt (nI_leI (a := 64) (b := n) (by omega) (by omega)).mpr (of_decide_eq_false h)
      omega
    have e4 : nI n * 4 = nI (4 * n) := by rw [show (4 : Int32) = nI 4 from rfl, pk_mul, Nat.mul_comm]
    iterate 1 refine pm_B.next rfl rfl ?_
    refine q_geti rfl s0 (by decide) hn ?_
    iterate 2 refine pm_B.next rfl rfl ?_
    refine q_top e4 ?_
    repeat (first | refine pm_B.next rfl rfl ?_ | refine q_getr rfl (by assumption) (by decide) (by assumption) ?_ | refine q_geti rfl (by assumption) (by decide) (by assumption) ?_ | refine q_iald rfl (by assumption) _ rfl (by first | assumption | omega) (by decide) rfl ?_)
    refine q_iast rfl s1 (4 * n) rfl (by omega) (by decide) ?_
    repeat (first | refine pm_B.next rfl rfl ?_ | refine q_getr rfl (by assumption) (by decide) (by assumption) ?_ | refine q_geti rfl (by assumption) (by decide) (by assumption) ?_ | refine q_iald rfl (by assumption) _ rfl (by first | assumption | omega) (by decide) rfl ?_)
    refine q_iast rfl s1 (4 * n + 1) (nI_add (4 * n) 1) (by omega) (by decide) ?_
    repeat (first | refine pm_B.next rfl rfl ?_ | refine q_getr rfl (by assumption) (by decide) (by assumption) ?_ | refine q_geti rfl (by assumption) (by decide) (by assumption) ?_ | refine q_iald rfl (by assumption) _ rfl (by first | assumption | omega) (by decide) rfl ?_)
    refine q_iast rfl s1 (4 * n + 2) (nI_add (4 * n) 2) (by omega) (by decide) ?_
    repeat (first | refine pm_B.next rfl rfl ?_ | refine q_getr rfl (by assumption) (by decide) (by assumption) ?_ | refine q_geti rfl (by assumption) (by decide) (by assumption) ?_ | refine q_iald rfl (by assumption) _ rfl (by first | assumption | omega) (by decide) rfl ?_)
    have fin : ∀ v : Int32, BB d (fun j => tb_Rl_add[j]?) 38 [.ref 53, .int st, .int th, .int c, .int w, .int (nI (4 * n))] [.int v, .int (nI (4 * n) + 3), .ref 54] SL S (pm_u (pm_u (pm_u A 54 (4 * n) st) 54 (4 * n + 1) th) 54 (4 * n + 2) c) P (fun r => (131 ≤ r.1.1 ∧ SL ≤ r.1.2.1) ∧ r = ((131, SL, S, pm_u (pm_u (pm_u (pm_u (pm_u A 54 (4 * n) st) 54 (4 * n + 1) th) 54 (4 * n + 2) c) 54 (4 * n + 3) v) 53 1 (nI (n + 1)), P), none)) := by
      intro v
      refine q_iast rfl s1 (4 * n + 3) (nI_add (4 * n) 3) (by omega) (by decide) ?_
      repeat refine pm_B.next rfl rfl ?_
      refine q_geti rfl s0 (by decide) (v := nI n) (by rw [u_nc (by decide), u_nc (by decide), u_nc (by decide), u_nc (by decide), hn]) ?_
      repeat refine pm_B.next rfl rfl ?_
      refine q_top (nI_1 n) ?_
      repeat (first | refine pm_B.next rfl rfl ?_ | refine q_getr rfl (by assumption) (by decide) (by assumption) ?_ | refine q_geti rfl (by assumption) (by decide) (by assumption) ?_ | refine q_iald rfl (by assumption) _ rfl (by first | assumption | omega) (by decide) rfl ?_ | refine q_puti rfl (by assumption) (by decide) ?_ | refine q_iast rfl (by assumption) _ rfl (by first | assumption | omega) (by decide) ?_)
      exact q_vret rfl rfl
    refine r_if rfl (fun g => ?_) (fun g => ?_)
    · have g := of_decide_eq_true g
      iterate 1 refine pm_B.next rfl rfl ?_
      refine pm_B.weaken (fin 0) (fun r hr => ⟨hr.1, Or.inr ⟨h, ?_⟩⟩)
      rw [hr.2, if_pos g]
    · have g := of_decide_eq_false g
      iterate 2 refine pm_B.next rfl rfl ?_
      refine pm_B.weaken (fin 1) (fun r hr => ⟨hr.1, Or.inr ⟨h, ?_⟩⟩)
      rw [hr.2, if_neg g]
theorem x_placeOf {s n : Nat} {v : Int32} (ks : kS S P s) (hd : A s 4 = nI (n + 1)) (hn : n < 8) (hv : A (s + 2) n = v) : EE d M_Ru_placeOf [.ref s] SL S A P (fun r => r = ((131, SL, S, A, P), some (.int v))) := by
  obtain ⟨⟨s0, s1, s2, s3⟩, p1, p2, p3⟩ := ks
  refine q_of (tb := fun j => tb_Ru_placeOf[j]?) rfl rfl (Nat.le_of_ble_eq_true rfl) ?_
  show BB _ _ 0 [.ref s] [] _ _ _ _ _
  repeat (first | refine pm_B.next rfl rfl ?_ | refine q_getr rfl (by assumption) (by decide) (by assumption) ?_ | refine q_geti rfl (by assumption) (by decide) (by assumption) ?_ | refine q_iald rfl (by assumption) _ rfl (by first | assumption | omega) (by decide) rfl ?_)
  refine q_iald rfl s2 n (nI_pred n) hn (by decide) hv ?_
  exact q_iret rfl rfl
theorem x_bodyOf {s n b q : Nat} (u : kU S P) (ks : kS S P s) (hd : A s 4 = nI (n + 1)) (hn : n < 8) (hb : A (s + 1) n = nI b) (hb8 : b < 8) (hq : P 2 b = some q) : EE d M_Ru_bodyOf [.ref 49, .ref s] SL S A P (fun r => r = ((131, SL, S, A, P), some (.ref q))) := by
  obtain ⟨⟨u0, u1, u2, u3, u4, u5, u6⟩, ⟨w0, w1, w2, w3, w4, w5, w6⟩, hT, hL, hC, hR⟩ := u
  obtain ⟨⟨s0, s1, s2, s3⟩, p1, p2, p3⟩ := ks
  refine q_of (tb := fun j => tb_Ru_bodyOf[j]?) rfl rfl (Nat.le_of_ble_eq_true rfl) ?_
  show BB _ _ 0 [.ref 49, .ref s] [] _ _ _ _ _
  repeat (first | refine pm_B.next rfl rfl ?_ | refine q_getr rfl (by assumption) (by decide) (by assumption) ?_ | refine q_geti rfl (by assumption) (by decide) (by assumption) ?_ | refine q_iald rfl (by assumption) _ rfl (by first | assumption | omega) (by decide) rfl ?_)
  refine q_iald rfl s1 n (nI_pred n) hn (by decide) hb ?_
  refine q_aald rfl u5 b rfl hb8 (by decide) hq ?_
  exact q_aret rfl rfl
/-- the frames that stay, of n, when those at the top with f are left -/
def lvn (f : Nat → Bool) : Nat → Nat
  | 0 => 0
  | n + 1 => if f n then lvn f n else n + 1
theorem x_leaveEnded {s : Nat} {bb qq pl sz : Nat → Nat} (u : kU S P) (ks : kS S P s) : ∀ (n : Nat) (A : Nat → Nat → Int32), n ≤ 8 → A s 4 = nI n → (∀ j, j < n → A (s + 1) j = nI (bb j) ∧ bb j < 8 ∧ P 2 (bb j) = some (qq j) ∧ pm_is S (qq j) 18 6 ∧ A (s + 2) j = nI (pl j) ∧ pl j < 1000 ∧ A (qq j) 4 = nI (sz j) ∧ sz j < 1000 ∧ qq j ≠ s) → s + 1 ≠ s →
    BB (d + 1) (fun j => tb_Ru_leaveEnded[j]?) 0 [.ref 49, .ref s] [] SL S A P (fun r => (131 ≤ r.1.1 ∧ SL ≤ r.1.2.1) ∧ r = ((131, SL, S, pm_u A s 4 (nI (lvn (fun j => decide (sz j ≤ pl j)) n)), P), none)) := by
  have ks' := ks
  obtain ⟨⟨s0, s1, s2, s3⟩, p1, p2, p3⟩ := ks
  intro n
  induction n with
  | zero =>
    intro A _ hd _ _
    iterate 1 refine pm_B.next rfl rfl ?_
    refine q_geti rfl s0 (by decide) hd ?_
    refine r_ifT rfl rfl ?_
    refine q_vret rfl ?_
    rw [show nI (lvn (fun j => decide (sz j ≤ pl j)) 0) = A s 4 from hd.symm, u_id]
  | succ n ih =>
    intro A hn hd hf hss
    obtain ⟨f1, f2, f3, f4, f5, f6, f7, f8, f9⟩ := hf n (by omega)
    iterate 1 refine pm_B.next rfl rfl ?_
    refine q_geti rfl s0 (by decide) hd ?_
    refine r_ifF rfl (decide_eq_false (fun h => nI_nle (n := n + 1) (by omega) (by omega) h)) ?_
    iterate 1 refine pm_B.next rfl rfl ?_
    refine q_cs rfl rfl (Nat.le_of_ble_eq_true rfl) (Nat.le_of_ble_eq_true rfl) (x_placeOf ks' hd (by omega) f5) ?_
    iterate 2 refine pm_B.next rfl rfl ?_
    refine q_cv rfl u.1.1 rfl (Nat.le_of_ble_eq_true rfl) (Nat.le_of_ble_eq_true rfl) (x_bodyOf u ks' hd (by omega) f1 f2 f3) ?_
    refine q_geti rfl f4 (by decide) f7 ?_
    by_cases hle : sz n ≤ pl n
    · refine r_icF rfl (decide_eq_false (nI_nlt hle (by omega))) ?_
      iterate 2 refine pm_B.next rfl rfl ?_
      refine q_geti rfl s0 (by decide) hd ?_
      iterate 2 refine pm_B.next rfl rfl ?_
      refine q_top (nI_pred n) ?_
      refine q_puti rfl s0 (by decide) ?_
      iterate 1 refine pm_B.next rfl rfl ?_
      have h2 := ih (pm_u A s 4 (nI n)) (by omega) u_eq (fun j hj => by
        obtain ⟨g1, g2, g3, g4, g5, g6, g7, g8, g9⟩ := hf j (by omega)
        exact ⟨by rw [u_nc (by omega)]; exact g1, g2, g3, g4, by rw [u_nc (by omega)]; exact g5, g6, by rw [u_nc g9]; exact g7, g8, g9⟩) hss
      refine pm_B.weaken h2 (fun r hr => ⟨hr.1, ?_⟩)
      rw [hr.2, u_uu]
      simp [lvn, hle]
    · refine r_icT rfl (decide_eq_true (nI_lt (by omega) (by omega))) ?_
      refine q_vret rfl ?_
      have e1 : lvn (fun j => decide (sz j ≤ pl j)) (n + 1) = n + 1 := by simp [lvn, hle]
      rw [e1, ← hd, u_id]
end RUN1
