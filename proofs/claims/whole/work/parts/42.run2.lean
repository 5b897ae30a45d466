section RUN2
variable {d : Nat} {SL : Nat} {S : Nat → Nat × Nat} {A : Nat → Nat → Int32} {P : Nat → Nat → Option Nat}
/-- the heap behind a new race -/
def rlH (A : Nat → Nat → Int32) (n st t c : Nat) (w : Int32) (A' : Nat → Nat → Int32) : Prop :=
  (64 ≤ n ∧ A' = pm_u A 53 1 (nI (n + 1))) ∨ (n < 64 ∧ A' = pm_u (pm_u (pm_u (pm_u (pm_u A 54 (4 * n) (nI st)) 54 (4 * n + 1) (nI t)) 54 (4 * n + 2) (nI c)) 54 (4 * n + 3) (if w = 0 then 0 else 1)) 53 1 (nI (n + 1)))
/-- the heap behind the look for a race -/
def nrH (A : Nat → Nat → Int32) (n st t c : Nat) (w : Int32) (A' : Nat → Nat → Int32) : Prop :=
  ((∃ u, u < 6 ∧ rc_ A (87 + 3 * c) (58 + 4 * t) w u) ∧ rlH A n st t c w A') ∨ ((∀ u, u < 6 → ¬ rc_ A (87 + 3 * c) (58 + 4 * t) w u) ∧ A' = A)
theorem x_noteRace {t c n st : Nat} {w : Int32} (u : kU S P) (ht : t < 6) (hc : c < 8) (hst : A 49 6 = nI (st + 1)) (hnb : A (55 + 4 * t) 0 = nI t) (hn : A 53 1 = nI n) (hn30 : n < 2 ^ 30) :
    EE (d + 1) M_Ru_noteRace [.ref 49, .ref (55 + 4 * t), .int (nI c), .int w] SL S A P (fun r => ∃ A', nrH A n st t c w A' ∧ r = ((131, SL, S, A', P), none)) := by
  obtain ⟨⟨s0, s1, s2, s3, s4, s5, s6⟩, ⟨p0, p1, p2, p3, p4, p5, p6⟩, us, ul, uc, ur⟩ := u
  obtain ⟨ps, ks⟩ := us t ht
  obtain ⟨pc, kc⟩ := uc c hc
  have ks0 := ks
  have kc0 := kc
  have ur0 := ur
  obtain ⟨⟨t0, t1, t2, t3⟩, q1, q2, q3⟩ := ks
  obtain ⟨⟨c0, c1, c2⟩, v0, v1⟩ := kc
  obtain ⟨⟨o0, o1⟩, z0⟩ := ur
  refine q_of (tb := fun j => tb_Ru_noteRace[j]?) rfl rfl (Nat.le_of_ble_eq_true rfl) ?_
  show BB _ _ 0 [.ref 49, .ref (55 + 4 * t), .int (nI c), .int w] [] _ _ _ _ _
  iterate 1 refine pm_B.next rfl rfl ?_
  refine q_getr rfl s0 (by decide) p3 ?_
  iterate 1 refine pm_B.next rfl rfl ?_
  refine q_aald rfl s3 c rfl hc (by decide) pc ?_
  iterate 1 refine pm_B.next rfl rfl ?_
  refine q_getr rfl t0 (by decide) q3 ?_
  iterate 1 refine pm_B.next rfl rfl ?_
  refine q_callv (a := [.ref (55 + 4 * t + 3), .int w]) rfl c0 rfl (Nat.le_of_ble_eq_true rfl) (Nat.le_of_ble_eq_true rfl) (x_Ce_races kc0 t3) (fun h1 v hv => ?_)
  rcases hv with ⟨hr, hv⟩ | ⟨hr, hv⟩
  · cases hv
    refine r_ifF rfl rfl ?_
    iterate 1 refine pm_B.next rfl rfl ?_
    refine q_getr rfl s0 (by decide) p4 ?_
    iterate 1 refine pm_B.next rfl rfl ?_
    refine q_geti rfl s0 (by decide) hst ?_
    iterate 2 refine pm_B.next rfl rfl ?_
    refine q_top (nI_pred st) ?_
    iterate 1 refine pm_B.next rfl rfl ?_
    refine q_geti rfl t0 (by decide) hnb ?_
    iterate 2 refine pm_B.next rfl rfl ?_
    refine q_callv (a := [.int (nI st), .int (nI t), .int (nI c), .int w]) rfl o0 rfl (Nat.le_of_ble_eq_true rfl) (Nat.le_of_ble_eq_true rfl) (x_Rl_add ur0 hn hn30) (fun h1 v hv => ?_)
    rcases hv with ⟨h64, hv⟩ | ⟨h64, hv⟩
    · cases hv
      exact q_vret (Q := fun r => ∃ A', nrH A n st t c w A' ∧ r = ((131, SL, S, A', P), none)) rfl ⟨_, Or.inl ⟨by rw [show 58 + 4 * t = 55 + 4 * t + 3 by omega]; exact hr, Or.inl ⟨h64, rfl⟩⟩, rfl⟩
    · cases hv
      exact q_vret (Q := fun r => ∃ A', nrH A n st t c w A' ∧ r = ((131, SL, S, A', P), none)) rfl ⟨_, Or.inl ⟨by rw [show 58 + 4 * t = 55 + 4 * t + 3 by omega]; exact hr, Or.inr ⟨h64, rfl⟩⟩, rfl⟩
  · cases hv
    refine r_ifT rfl rfl ?_
    exact q_vret (Q := fun r => ∃ A', nrH A n st t c w A' ∧ r = ((131, SL, S, A', P), none)) rfl ⟨_, Or.inr ⟨by rw [show 58 + 4 * t = 55 + 4 * t + 3 by omega]; exact hr, rfl⟩, rfl⟩
theorem nrH_o {n st t c : Nat} {w : Int32} {A' : Nat → Nat → Int32} (h : nrH A n st t c w A') {a : Nat} (h1 : a ≠ 53) (h2 : a ≠ 54) : A' a = A a := by
  funext b
  rcases h with ⟨-, ⟨-, h⟩ | ⟨-, h⟩⟩ | ⟨-, h⟩
  · rw [h, u_nc h1]
  · rw [h, u_nc h1, u_nc h2, u_nc h2, u_nc h2, u_nc h2]
  · rw [h]
theorem x_readCell {t c n st : Nat} (u : kU S P) (ht : t < 6) (hc : c < 8) (hst : A 49 6 = nI (st + 1)) (hnb : A (55 + 4 * t) 0 = nI t) (hn : A 53 1 = nI n) (hn30 : n < 2 ^ 30) :
    EE (d + 2) M_Ru_readCell [.ref 49, .ref (55 + 4 * t), .int (nI c)] SL S A P (fun r => ∃ A1, nrH A n st t c 0 A1 ∧ r = ((131, SL, S, pm_u (pm_u A1 (88 + 3 * c) t (nI (st + 1))) (55 + 4 * t) 5 (A (87 + 3 * c) 2), P), none)) := by
  have u0 := u
  obtain ⟨⟨s0, s1, s2, s3, s4, s5, s6⟩, ⟨p0, p1, p2, p3, p4, p5, p6⟩, us, ul, uc, ur⟩ := u
  obtain ⟨ps, ks⟩ := us t ht
  obtain ⟨pc, kc⟩ := uc c hc
  obtain ⟨⟨t0, t1, t2, t3⟩, q1, q2, q3⟩ := ks
  obtain ⟨⟨c0, c1, c2⟩, v0, v1⟩ := kc
  refine q_of (tb := fun j => tb_Ru_readCell[j]?) rfl rfl (Nat.le_of_ble_eq_true rfl) ?_
  show BB _ _ 0 [.ref 49, .ref (55 + 4 * t), .int (nI c)] [] _ _ _ _ _
  iterate 4 refine pm_B.next rfl rfl ?_
  refine q_callv (a := [.ref (55 + 4 * t), .int (nI c), .int 0]) rfl s0 rfl (Nat.le_of_ble_eq_true rfl) (Nat.le_of_ble_eq_true rfl) (x_noteRace u0 ht hc hst hnb hn hn30) (fun h1 v hv => ?_)
  obtain ⟨A1, hr, hv⟩ := hv
  cases hv
  iterate 1 refine pm_B.next rfl rfl ?_
  refine q_getr rfl s0 (by decide) p3 ?_
  iterate 1 refine pm_B.next rfl rfl ?_
  refine q_aald rfl s3 c rfl hc (by decide) pc ?_
  refine q_getr rfl c0 (by decide) v0 ?_
  iterate 1 refine pm_B.next rfl rfl ?_
  refine q_geti rfl t0 (by decide) (v := nI t) (by rw [nrH_o hr (by omega) (by omega)]; exact hnb) ?_
  iterate 1 refine pm_B.next rfl rfl ?_
  refine q_geti rfl s0 (by decide) (v := nI (st + 1)) (by rw [nrH_o hr (by omega) (by omega)]; exact hst) ?_
  refine q_iast rfl c1 t rfl ht (by decide) ?_
  iterate 2 refine pm_B.next rfl rfl ?_
  refine q_getr rfl s0 (by decide) p3 ?_
  iterate 1 refine pm_B.next rfl rfl ?_
  refine q_aald rfl s3 c rfl hc (by decide) pc ?_
  refine q_geti rfl c0 (by decide) (v := A (87 + 3 * c) 2) (by rw [u_nc (by omega), nrH_o hr (by omega) (by omega)]) ?_
  refine q_puti rfl t0 (by decide) ?_
  exact q_vret (Q := fun r => ∃ A1, nrH A n st t c 0 A1 ∧ r = ((131, SL, S, pm_u (pm_u A1 (88 + 3 * c) t (nI (st + 1))) (55 + 4 * t) 5 (A (87 + 3 * c) 2), P), none)) rfl ⟨A1, hr, by rw [show 88 + 3 * c = 87 + 3 * c + 1 by omega]⟩
theorem x_writeCell {t c n st : Nat} (u : kU S P) (ht : t < 6) (hc : c < 8) (hst : A 49 6 = nI (st + 1)) (hnb : A (55 + 4 * t) 0 = nI t) (hn : A 53 1 = nI n) (hn30 : n < 2 ^ 30) :
    EE (d + 2) M_Ru_writeCell [.ref 49, .ref (55 + 4 * t), .int (nI c)] SL S A P (fun r => ∃ A1, nrH A n st t c 1 A1 ∧ r = ((131, SL, S, pm_u (pm_u A1 (89 + 3 * c) t (nI (st + 1))) (87 + 3 * c) 2 (A (55 + 4 * t) 5), P), none)) := by
  have u0 := u
  obtain ⟨⟨s0, s1, s2, s3, s4, s5, s6⟩, ⟨p0, p1, p2, p3, p4, p5, p6⟩, us, ul, uc, ur⟩ := u
  obtain ⟨ps, ks⟩ := us t ht
  obtain ⟨pc, kc⟩ := uc c hc
  obtain ⟨⟨t0, t1, t2, t3⟩, q1, q2, q3⟩ := ks
  obtain ⟨⟨c0, c1, c2⟩, v0, v1⟩ := kc
  refine q_of (tb := fun j => tb_Ru_writeCell[j]?) rfl rfl (Nat.le_of_ble_eq_true rfl) ?_
  show BB _ _ 0 [.ref 49, .ref (55 + 4 * t), .int (nI c)] [] _ _ _ _ _
  iterate 4 refine pm_B.next rfl rfl ?_
  refine q_callv (a := [.ref (55 + 4 * t), .int (nI c), .int 1]) rfl s0 rfl (Nat.le_of_ble_eq_true rfl) (Nat.le_of_ble_eq_true rfl) (x_noteRace u0 ht hc hst hnb hn hn30) (fun h1 v hv => ?_)
  obtain ⟨A1, hr, hv⟩ := hv
  cases hv
  iterate 1 refine pm_B.next rfl rfl ?_
  refine q_getr rfl s0 (by decide) p3 ?_
  iterate 1 refine pm_B.next rfl rfl ?_
  refine q_aald rfl s3 c rfl hc (by decide) pc ?_
  refine q_getr rfl c0 (by decide) v1 ?_
  iterate 1 refine pm_B.next rfl rfl ?_
  refine q_geti rfl t0 (by decide) (v := nI t) (by rw [nrH_o hr (by omega) (by omega)]; exact hnb) ?_
  iterate 1 refine pm_B.next rfl rfl ?_
  refine q_geti rfl s0 (by decide) (v := nI (st + 1)) (by rw [nrH_o hr (by omega) (by omega)]; exact hst) ?_
  refine q_iast rfl c2 t rfl ht (by decide) ?_
  iterate 1 refine pm_B.next rfl rfl ?_
  refine q_getr rfl s0 (by decide) p3 ?_
  iterate 1 refine pm_B.next rfl rfl ?_
  refine q_aald rfl s3 c rfl hc (by decide) pc ?_
  iterate 1 refine pm_B.next rfl rfl ?_
  refine q_geti rfl t0 (by decide) (v := A (55 + 4 * t) 5) (by rw [u_nc (by omega), nrH_o hr (by omega) (by omega)]) ?_
  refine q_puti rfl c0 (by decide) ?_
  exact q_vret (Q := fun r => ∃ A1, nrH A n st t c 1 A1 ∧ r = ((131, SL, S, pm_u (pm_u A1 (89 + 3 * c) t (nI (st + 1))) (87 + 3 * c) 2 (A (55 + 4 * t) 5), P), none)) rfl ⟨A1, hr, by rw [show 89 + 3 * c = 87 + 3 * c + 2 by omega]⟩
/-- the heap behind the end of a block, in the class -/
def ebH (A : Nat → Nat → Int32) (q o t n l : Nat) (tm : Int32) (A' : Nat → Nat → Int32) : Prop :=
  (A (q + 1) o = 8 ∧ A' = pm_u A (57 + 4 * t) n (nI o)) ∨ (A (q + 1) o ≠ 8 ∧ A (q + 1) o ≠ 4 ∧ A' = A) ∨ (A (q + 1) o = 4 ∧ tm - 1 ≠ 0 ∧ A' = pm_u A (79 + 2 * l) 2 (tm - 1)) ∨ (A (q + 1) o = 4 ∧ tm - 1 = 0 ∧ A' = cp6 (pm_u (pm_u A (79 + 2 * l) 2 (tm - 1)) (79 + 2 * l) 1 (-1)) (80 + 2 * l) (58 + 4 * t))
theorem x_endBlock {t q o n l : Nat} {tm : Int32} (u : kU S P) (ht : t < 6) (kb : kB S P q) (ho : o < 64) (hd : A (55 + 4 * t) 4 = nI (n + 1)) (hn : n < 8) (hl : A (q + 1) o = 4 → l < 4 ∧ A (q + 2) o = nI l ∧ A (79 + 2 * l) 2 = tm) :
    EE (d + 1) M_Ru_endBlock [.ref 49, .ref (55 + 4 * t), .ref q, .int (nI o)] SL S A P (fun r => ∃ A', ebH A q o t n l tm A' ∧ r = ((131, SL, S, A', P), none)) := by
  obtain ⟨⟨s0, s1, s2, s3, s4, s5, s6⟩, ⟨p0, p1, p2, p3, p4, p5, p6⟩, us, ul, uc, ur⟩ := u
  obtain ⟨ps, ks⟩ := us t ht
  have ks0 := ks
  obtain ⟨⟨t0, t1, t2, t3⟩, q1, q2, q3⟩ := ks
  obtain ⟨⟨b0, b1, b2, b3, b4⟩, g0, g1, g2, g3⟩ := kb
  refine q_of (tb := fun j => tb_Ru_endBlock[j]?) rfl rfl (Nat.le_of_ble_eq_true rfl) ?_
  show BB _ _ 0 [.ref 49, .ref (55 + 4 * t), .ref q, .int (nI o)] [] _ _ _ _ _
  iterate 1 refine pm_B.next rfl rfl ?_
  refine q_getr rfl b0 (by decide) g0 ?_
  iterate 1 refine pm_B.next rfl rfl ?_
  refine q_iald rfl b1 o rfl ho (by decide) rfl ?_
  iterate 1 refine pm_B.next rfl rfl ?_
  by_cases h4 : A (q + 1) o = 4
  · obtain ⟨l4, hnl, htm⟩ := hl h4
    obtain ⟨pl, kl⟩ := ul l l4
    refine r_icF rfl (decide_eq_false (fun g => g h4)) ?_
    iterate 1 refine pm_B.next rfl rfl ?_
    refine q_getr rfl s0 (by decide) p2 ?_
    iterate 1 refine pm_B.next rfl rfl ?_
    refine q_getr rfl b0 (by decide) g1 ?_
    iterate 1 refine pm_B.next rfl rfl ?_
    refine q_iald rfl b2 o rfl ho (by decide) hnl ?_
    refine q_aald rfl s2 l rfl l4 (by decide) pl ?_
    iterate 1 refine pm_B.next rfl rfl ?_
    refine q_callv (a := [.ref (55 + 4 * t)]) rfl kl.1.1 rfl (Nat.le_of_ble_eq_true rfl) (Nat.le_of_ble_eq_true rfl) (x_Lk_release kl ks0 htm) (fun h1 v hv => ?_)
    rcases hv with ⟨hz, hv⟩ | ⟨hz, hv⟩
    · cases hv
      iterate 1 refine pm_B.next rfl rfl ?_
      exact q_vret (Q := fun r => ∃ A', ebH A q o t n l tm A' ∧ r = ((131, SL, S, A', P), none)) rfl ⟨_, Or.inr (Or.inr (Or.inl ⟨h4, hz, rfl⟩)), rfl⟩
    · cases hv
      iterate 1 refine pm_B.next rfl rfl ?_
      exact q_vret (Q := fun r => ∃ A', ebH A q o t n l tm A' ∧ r = ((131, SL, S, A', P), none)) rfl ⟨_, Or.inr (Or.inr (Or.inr ⟨h4, hz, rfl⟩)), by rw [show 80 + 2 * l = 79 + 2 * l + 1 by omega, show 58 + 4 * t = 55 + 4 * t + 3 by omega]⟩
  · refine r_icT rfl (decide_eq_true h4) ?_
    iterate 1 refine pm_B.next rfl rfl ?_
    refine q_getr rfl b0 (by decide) g0 ?_
    iterate 1 refine pm_B.next rfl rfl ?_
    refine q_iald rfl b1 o rfl ho (by decide) rfl ?_
    iterate 1 refine pm_B.next rfl rfl ?_
    by_cases h8 : A (q + 1) o = 8
    · refine r_icF rfl (decide_eq_false (fun g => g h8)) ?_
      iterate 2 refine pm_B.next rfl rfl ?_
      refine q_cv (a := [.int (nI o)]) rfl t0 rfl (Nat.le_of_ble_eq_true rfl) (Nat.le_of_ble_eq_true rfl) (x_Sd_moveTo ks0 hd hn) ?_
      exact q_vret (Q := fun r => ∃ A', ebH A q o t n l tm A' ∧ r = ((131, SL, S, A', P), none)) rfl ⟨_, Or.inl ⟨h8, rfl⟩, by rw [show 57 + 4 * t = 55 + 4 * t + 2 by omega]⟩
    · refine r_icT rfl (decide_eq_true h8) ?_
      exact q_vret (Q := fun r => ∃ A', ebH A q o t n l tm A' ∧ r = ((131, SL, S, A', P), none)) rfl ⟨_, Or.inr (Or.inl ⟨h8, h4, rfl⟩), rfl⟩
theorem x_Sd_begin {s : Nat} {b h : Int32} (k : kS S P s) : EE (d + 1) M_Sd_begin [.ref s, .int b, .int h] SL S A P (fun r => r = ((131, SL, S, pm_u (pm_u (pm_u (pm_u (pm_u A s 5 h) s 4 0) (s + 1) 0 b) (s + 2) 0 0) s 4 (nI 1), P), none)) := by
  have k0 := k
  obtain ⟨⟨t0, t1, t2, t3⟩, q1, q2, q3⟩ := k
  refine q_of (tb := fun j => tb_Sd_begin[j]?) rfl rfl (Nat.le_of_ble_eq_true rfl) ?_
  show BB _ _ 0 [.ref s, .int b, .int h] [] _ _ _ _ _
  iterate 2 refine pm_B.next rfl rfl ?_
  refine q_puti rfl t0 (by decide) ?_
  iterate 2 refine pm_B.next rfl rfl ?_
  refine q_puti rfl t0 (by decide) ?_
  iterate 2 refine pm_B.next rfl rfl ?_
  refine q_callv (a := [.int b]) rfl t0 rfl (Nat.le_of_ble_eq_true rfl) (Nat.le_of_ble_eq_true rfl) (x_Sd_enter (n := 0) k0 u_eq (by decide)) (fun h1 v hv => ?_)
  rcases hv with ⟨hz, hv⟩ | ⟨hz, hv⟩
  · omega
  · cases hv
    exact q_vret rfl rfl
theorem x_leaveEE {s n : Nat} {bb qq pl sz : Nat → Nat} (u : kU S P) (ks : kS S P s) (hn : n ≤ 8) (hd : A s 4 = nI n) (hf : ∀ j, j < n → A (s + 1) j = nI (bb j) ∧ bb j < 8 ∧ P 2 (bb j) = some (qq j) ∧ pm_is S (qq j) 18 6 ∧ A (s + 2) j = nI (pl j) ∧ pl j < 1000 ∧ A (qq j) 4 = nI (sz j) ∧ sz j < 1000 ∧ qq j ≠ s) :
    EE (d + 1) M_Ru_leaveEnded [.ref 49, .ref s] SL S A P (fun r => r = ((131, SL, S, pm_u A s 4 (nI (lvn (fun j => decide (sz j ≤ pl j)) n)), P), none)) := by
  refine q_of (tb := fun j => tb_Ru_leaveEnded[j]?) rfl rfl (Nat.le_of_ble_eq_true rfl) ?_
  show BB _ _ 0 [.ref 49, .ref s] [] _ _ _ _ _
  exact x_leaveEnded u ks n A hn hd hf (by omega)
/-- the heap behind the beginning of a child -/
def fkH (A : Nat → Nat → Int32) (t T b sz : Nat) : Nat → Nat → Int32 := pm_u (pm_u (pm_u (pm_u (pm_u (pm_u (cp6 (pm_u A 49 5 (nI (T + 1))) (58 + 4 * T) (58 + 4 * t)) (55 + 4 * T) 5 (A (55 + 4 * t) 5)) (55 + 4 * T) 4 0) (56 + 4 * T) 0 (nI b)) (57 + 4 * T) 0 0) (55 + 4 * T) 4 (nI 1)) (55 + 4 * T) 4 (nI (if sz = 0 then 0 else 1))
theorem x_fork {t T b nb q sz : Nat} (u : kU S P) (ht : t < 6) (hnb : A 1 3 = nI nb) (hnb8 : nb ≤ 8) (hb8 : b < 8) (hT : A 49 5 = nI T) (hT6 : T ≤ 6) (htT : t < T) (hq : b < nb → P 2 b = some q ∧ kB S P q ∧ A q 4 = nI sz ∧ sz < 1000 ∧ q < 49) :
    EE (d + 2) M_Ru_fork [.ref 49, .ref (55 + 4 * t), .int (nI b)] SL S A P (fun r => ((nb ≤ b ∨ T = 6) ∧ r = ((131, SL, S, A, P), none)) ∨ (b < nb ∧ T < 6 ∧ r = ((131, SL, S, fkH A t T b sz, P), none))) := by
  have u0 := u
  obtain ⟨⟨s0, s1, s2, s3, s4, s5, s6⟩, ⟨p0, p1, p2, p3, p4, p5, p6⟩, us, ul, uc, ur⟩ := u
  obtain ⟨ps, ks⟩ := us t ht
  obtain ⟨⟨t0, t1, t2, t3⟩, q1, q2, q3⟩ := ks
  refine q_of (tb := fun j => tb_Ru_fork[j]?) rfl rfl (Nat.le_of_ble_eq_true rfl) ?_
  show BB _ _ 0 [.ref 49, .ref (55 + 4 * t), .int (nI b), .null] [] _ _ _ _ _
  iterate 1 refine pm_B.next rfl rfl ?_
  refine q_getr rfl s0 (by decide) p0 ?_
  iterate 1 refine pm_B.next rfl rfl ?_
  refine q_cv (a := [.int (nI b)]) rfl s4 rfl (Nat.le_of_ble_eq_true rfl) (Nat.le_of_ble_eq_true rfl) (x_contains ⟨⟨s4, s5, s6⟩, p5, p6⟩ hnb) ?_
  refine q_top (in_nI (by omega) (by omega)) ?_
  by_cases hbn : b < nb
  · rw [if_pos hbn]
    obtain ⟨hq1, hq2, hq3, hq4, hq5⟩ := hq hbn
    refine r_ifF rfl rfl ?_
    iterate 1 refine pm_B.next rfl rfl ?_
    refine q_geti rfl s0 (by decide) hT ?_
    iterate 1 refine pm_B.next rfl rfl ?_
    by_cases h6 : T = 6
    · refine r_icF rfl (decide_eq_false (by rw [h6]; decide)) ?_
      exact q_vret rfl (Or.inl ⟨Or.inr h6, rfl⟩)
    · have hT5 : T < 6 := by omega
      obtain ⟨pS, kT⟩ := us T hT5
      have kT0 := kT
      obtain ⟨⟨x0, x1, x2, x3⟩, y1, y2, y3⟩ := kT
      refine r_icT rfl (decide_eq_true (nI_lt (a := T) (b := 6) hT5 (by decide))) ?_
      iterate 1 refine pm_B.next rfl rfl ?_
      refine q_getr rfl s0 (by decide) p1 ?_
      iterate 1 refine pm_B.next rfl rfl ?_
      refine q_geti rfl s0 (by decide) hT ?_
      refine q_aald rfl s1 T rfl hT5 (by decide) pS ?_
      iterate 3 refine pm_B.next rfl rfl ?_
      refine q_geti rfl s0 (by decide) hT ?_
      iterate 2 refine pm_B.next rfl rfl ?_
      refine q_top (nI_1 T) ?_
      refine q_puti rfl s0 (by decide) ?_
      iterate 1 refine pm_B.next rfl rfl ?_
      refine q_getr rfl t0 (by decide) q3 ?_
      iterate 2 refine pm_B.next rfl rfl ?_
      refine q_getr rfl x0 (by decide) y3 ?_
      iterate 2 refine pm_B.next rfl rfl ?_
      refine q_copy6 rfl t3 x3 (Nat.le_of_ble_eq_true rfl) ?_
      iterate 3 refine pm_B.next rfl rfl ?_
      refine q_geti rfl t0 (by decide) (v := A (55 + 4 * t) 5) (by simp only [cp6]; rw [if_neg (by omega), u_nc (by omega)]) ?_
      refine q_cv (a := [.int (nI b), .int (A (55 + 4 * t) 5)]) rfl x0 rfl (Nat.le_of_ble_eq_true rfl) (Nat.le_of_ble_eq_true rfl) (x_Sd_begin kT0) ?_
      iterate 2 refine pm_B.next rfl rfl ?_
      refine q_cv (a := [.ref (55 + 4 * T)]) rfl s0 rfl (Nat.le_of_ble_eq_true rfl) (Nat.le_of_ble_eq_true rfl) (x_leaveEE (n := 1) (bb := fun _ => b) (qq := fun _ => q) (pl := fun _ => 0) (sz := fun _ => sz) u0 kT0 (by decide) u_eq (fun j hj => ?_)) ?_
      · have : j = 0 := by omega
        subst this
        refine ⟨?_, hb8, hq1, hq2.1.1, ?_, by decide, ?_, hq4, by omega⟩
        · rw [u_nc (by omega), u_nc (by omega)]; exact u_eq
        · rw [u_nc (by omega)]; exact u_eq
        · rw [u_nc (by omega), u_nc (by omega), u_nc (by omega), u_nc (by omega), u_nc (by omega)]
          simp only [cp6]
          rw [if_neg (by omega), u_nc (by omega)]
          exact hq3
      have e : lvn (fun _ => decide (sz ≤ 0)) 1 = if sz = 0 then 0 else 1 := by
        by_cases h : sz = 0 <;> simp [lvn, h]
      rw [e]
      refine q_vret rfl (Or.inr ⟨hbn, hT5, ?_⟩)
      rw [fkH, show 58 + 4 * T = 55 + 4 * T + 3 by omega, show 58 + 4 * t = 55 + 4 * t + 3 by omega, show 56 + 4 * T = 55 + 4 * T + 1 by omega, show 57 + 4 * T = 55 + 4 * T + 2 by omega]
  · rw [if_neg hbn]
    refine r_ifT rfl rfl ?_
    exact q_vret rfl (Or.inl ⟨Or.inl (by omega), rfl⟩)
end RUN2
