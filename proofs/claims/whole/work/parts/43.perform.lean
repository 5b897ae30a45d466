section PERFORM
variable {d : Nat} {SL : Nat} {S : Nat → Nat × Nat} {A : Nat → Nat → Int32} {P : Nat → Nat → Option Nat}
/-- where thread t stands, in the class -/
def tpC (S : Nat → Nat × Nat) (A : Nat → Nat → Int32) (P : Nat → Nat → Option Nat) (t n b q p : Nat) : Prop := A (55 + 4 * t) 4 = nI (n + 1) ∧ n < 8 ∧ A (56 + 4 * t) n = nI b ∧ b < 8 ∧ P 2 b = some q ∧ kB S P q ∧ q < 45 ∧ A (57 + 4 * t) n = nI p ∧ p < 64
/-- the thread has moved on by one -/
def mvH (A : Nat → Nat → Int32) (t n p : Nat) : Nat → Nat → Int32 := pm_u A (57 + 4 * t) n (nI (p + 1))
theorem q_perform {t n b q p : Nat} {Q : pm_R → Prop} (u : kU S P) (ht : t < 6) (tp : tpC S A P t n b q p) (kk : BB (d + 1) (fun j => tb_Ru_perform[j]?) 21 [.ref 49, .ref (55 + 4 * t), .ref q, .int (nI p), .int (A (q + 2) p)] [.int (A (q + 1) p)] SL S (mvH A t n p) P (fun r => (131 ≤ r.1.1 ∧ SL ≤ r.1.2.1) ∧ Q r)) :
    EE (d + 1) M_Ru_perform [.ref 49, .ref (55 + 4 * t)] SL S A P Q := by
  have u0 := u
  obtain ⟨⟨s0, s1, s2, s3, s4, s5, s6⟩, ⟨p0, p1, p2, p3, p4, p5, p6⟩, us, ul, uc, ur⟩ := u
  obtain ⟨ps, ks⟩ := us t ht
  have ks0 := ks
  obtain ⟨⟨t0, t1, t2, t3⟩, q1, q2, q3⟩ := ks
  obtain ⟨hd, hn, hb, hb8, hq, kb, hq45, hp, hp64⟩ := tp
  obtain ⟨⟨b0, b1, b2, b3, b4⟩, g0, g1, g2, g3⟩ := kb
  refine q_of (tb := fun j => tb_Ru_perform[j]?) rfl rfl (Nat.le_of_ble_eq_true rfl) ?_
  show BB _ _ 0 [.ref 49, .ref (55 + 4 * t), .null, .null, .null] [] _ _ _ _ _
  iterate 2 refine pm_B.next rfl rfl ?_
  refine q_cv (a := [.ref (55 + 4 * t)]) rfl s0 rfl (Nat.le_of_ble_eq_true rfl) (Nat.le_of_ble_eq_true rfl) (x_bodyOf u0 ks0 hd hn (by rw [show 55 + 4 * t + 1 = 56 + 4 * t by omega]; exact hb) hb8 hq) ?_
  iterate 2 refine pm_B.next rfl rfl ?_
  refine q_cs (a := [.ref (55 + 4 * t)]) rfl rfl (Nat.le_of_ble_eq_true rfl) (Nat.le_of_ble_eq_true rfl) (x_placeOf (v := nI p) ks0 hd hn (by rw [show 55 + 4 * t + 2 = 57 + 4 * t by omega]; exact hp)) ?_
  iterate 2 refine pm_B.next rfl rfl ?_
  refine q_getr rfl b0 (by decide) g1 ?_
  iterate 1 refine pm_B.next rfl rfl ?_
  refine q_iald rfl b2 p rfl hp64 (by decide) rfl ?_
  iterate 5 refine pm_B.next rfl rfl ?_
  refine q_top (nI_1 p) ?_
  refine q_cv (a := [.int (nI (p + 1))]) rfl t0 rfl (Nat.le_of_ble_eq_true rfl) (Nat.le_of_ble_eq_true rfl) (x_Sd_moveTo ks0 hd hn) ?_
  iterate 1 refine pm_B.next rfl rfl ?_
  refine q_getr rfl b0 (by decide) g0 ?_
  iterate 1 refine pm_B.next rfl rfl ?_
  refine q_iald rfl b1 p rfl hp64 (by decide) (v := A (q + 1) p) (by rw [u_nc (by omega)]) ?_
  rw [mvH, show 57 + 4 * t = 55 + 4 * t + 2 by omega] at kk
  exact kk
theorem p_read {t n b q p c rc st : Nat} (u : kU S P) (ht : t < 6) (tp : tpC S A P t n b q p) (hk : A (q + 1) p = 0) (hnm : A (q + 2) p = nI c) (hc : c < 8) (hst : A 49 6 = nI (st + 1)) (hnb : A (55 + 4 * t) 0 = nI t) (hrc : A 53 1 = nI rc) (hrc30 : rc < 2 ^ 30) :
    EE (d + 3) M_Ru_perform [.ref 49, .ref (55 + 4 * t)] SL S A P (fun r => ∃ A', (∃ A1, nrH (mvH A t n p) rc st t c 0 A1 ∧ A' = pm_u (pm_u A1 (88 + 3 * c) t (nI (st + 1))) (55 + 4 * t) 5 (A (87 + 3 * c) 2)) ∧ r = ((131, SL, S, A', P), none)) := by
  refine q_perform u ht tp ?_
  obtain ⟨⟨s0, s1, s2, s3, s4, s5, s6⟩, ⟨p0, p1, p2, p3, p4, p5, p6⟩, us, ul, uc, ur⟩ := id u
  rw [hk, hnm]
  iterate 4 refine pm_B.next rfl rfl ?_
  refine q_callv (a := [.ref (55 + 4 * t), .int (nI c)]) rfl s0 rfl (Nat.le_of_ble_eq_true rfl) (Nat.le_of_ble_eq_true rfl) (x_readCell u ht hc (by rw [mvH, u_nc (by omega)]; exact hst) (by rw [mvH, u_nc (by omega)]; exact hnb) (by rw [mvH, u_nc (by omega)]; exact hrc) hrc30) (fun h1 v hv => ?_)
  obtain ⟨A1, h1, hv⟩ := hv
  cases hv
  iterate 1 refine pm_B.next rfl rfl ?_
  exact q_vret (Q := fun r => ∃ A', (∃ A1, nrH (mvH A t n p) rc st t c 0 A1 ∧ A' = pm_u (pm_u A1 (88 + 3 * c) t (nI (st + 1))) (55 + 4 * t) 5 (A (87 + 3 * c) 2)) ∧ r = ((131, SL, S, A', P), none)) rfl ⟨_, ⟨A1, h1, by rw [mvH, u_nc (by omega)]⟩, rfl⟩
theorem p_write {t n b q p c rc st : Nat} (u : kU S P) (ht : t < 6) (tp : tpC S A P t n b q p) (hk : A (q + 1) p = 1) (hnm : A (q + 2) p = nI c) (hc : c < 8) (hst : A 49 6 = nI (st + 1)) (hnb : A (55 + 4 * t) 0 = nI t) (hrc : A 53 1 = nI rc) (hrc30 : rc < 2 ^ 30) :
    EE (d + 3) M_Ru_perform [.ref 49, .ref (55 + 4 * t)] SL S A P (fun r => ∃ A', (∃ A1, nrH (mvH A t n p) rc st t c 1 A1 ∧ A' = pm_u (pm_u A1 (89 + 3 * c) t (nI (st + 1))) (87 + 3 * c) 2 (A (55 + 4 * t) 5)) ∧ r = ((131, SL, S, A', P), none)) := by
  refine q_perform u ht tp ?_
  obtain ⟨⟨s0, s1, s2, s3, s4, s5, s6⟩, ⟨p0, p1, p2, p3, p4, p5, p6⟩, us, ul, uc, ur⟩ := id u
  rw [hk, hnm]
  iterate 4 refine pm_B.next rfl rfl ?_
  refine q_callv (a := [.ref (55 + 4 * t), .int (nI c)]) rfl s0 rfl (Nat.le_of_ble_eq_true rfl) (Nat.le_of_ble_eq_true rfl) (x_writeCell u ht hc (by rw [mvH, u_nc (by omega)]; exact hst) (by rw [mvH, u_nc (by omega)]; exact hnb) (by rw [mvH, u_nc (by omega)]; exact hrc) hrc30) (fun h1 v hv => ?_)
  obtain ⟨A1, h1, hv⟩ := hv
  cases hv
  iterate 1 refine pm_B.next rfl rfl ?_
  exact q_vret (Q := fun r => ∃ A', (∃ A1, nrH (mvH A t n p) rc st t c 1 A1 ∧ A' = pm_u (pm_u A1 (89 + 3 * c) t (nI (st + 1))) (87 + 3 * c) 2 (A (55 + 4 * t) 5)) ∧ r = ((131, SL, S, A', P), none)) rfl ⟨_, ⟨A1, h1, by rw [mvH, u_nc (by omega)]⟩, rfl⟩
theorem p_add {t n b q p : Nat} (u : kU S P) (ht : t < 6) (tp : tpC S A P t n b q p) (hk : A (q + 1) p = 2) :
    EE (d + 1) M_Ru_perform [.ref 49, .ref (55 + 4 * t)] SL S A P (fun r => r = ((131, SL, S, pm_u (mvH A t n p) (55 + 4 * t) 5 (A (55 + 4 * t) 5 + A (q + 2) p), P), none)) := by
  refine q_perform u ht tp ?_
  obtain ⟨⟨s0, s1, s2, s3, s4, s5, s6⟩, ⟨p0, p1, p2, p3, p4, p5, p6⟩, us, ul, uc, ur⟩ := id u
  obtain ⟨ps, ⟨⟨t0, t1, t2, t3⟩, q1, q2, q3⟩⟩ := us t ht
  rw [hk]
  iterate 3 refine pm_B.next rfl rfl ?_
  refine q_geti rfl t0 (by decide) (v := A (55 + 4 * t) 5) (by rw [mvH, u_nc (by omega)]) ?_
  iterate 2 refine pm_B.next rfl rfl ?_
  refine q_puti rfl t0 (by decide) ?_
  iterate 1 refine pm_B.next rfl rfl ?_
  exact q_vret rfl rfl
theorem p_set {t n b q p : Nat} (u : kU S P) (ht : t < 6) (tp : tpC S A P t n b q p) (hk : A (q + 1) p = 3) :
    EE (d + 1) M_Ru_perform [.ref 49, .ref (55 + 4 * t)] SL S A P (fun r => r = ((131, SL, S, pm_u (mvH A t n p) (55 + 4 * t) 5 (A (q + 2) p), P), none)) := by
  refine q_perform u ht tp ?_
  obtain ⟨⟨s0, s1, s2, s3, s4, s5, s6⟩, ⟨p0, p1, p2, p3, p4, p5, p6⟩, us, ul, uc, ur⟩ := id u
  obtain ⟨ps, ⟨⟨t0, t1, t2, t3⟩, q1, q2, q3⟩⟩ := us t ht
  rw [hk]
  iterate 3 refine pm_B.next rfl rfl ?_
  refine q_puti rfl t0 (by decide) ?_
  iterate 1 refine pm_B.next rfl rfl ?_
  exact q_vret rfl rfl
theorem p_sync {t n b q p l : Nat} {ow tm : Int32} (u : kU S P) (ht : t < 6) (tp : tpC S A P t n b q p) (hk : A (q + 1) p = 4) (hnm : A (q + 2) p = nI l) (hl : l < 4) (how : A (79 + 2 * l) 1 = ow) (htm : A (79 + 2 * l) 2 = tm) (hnb : A (55 + 4 * t) 0 = nI t) :
    EE (d + 2) M_Ru_perform [.ref 49, .ref (55 + 4 * t)] SL S A P (fun r => (ow = -1 ∧ r = ((131, SL, S, pm_u (pm_u (mxr (mvH A t n p) (58 + 4 * t) (80 + 2 * l) 6) (79 + 2 * l) 1 (nI t)) (79 + 2 * l) 2 (tm + 1), P), none)) ∨ (ow ≠ -1 ∧ r = ((131, SL, S, pm_u (mvH A t n p) (79 + 2 * l) 2 (tm + 1), P), none))) := by
  refine q_perform u ht tp ?_
  obtain ⟨⟨s0, s1, s2, s3, s4, s5, s6⟩, ⟨p0, p1, p2, p3, p4, p5, p6⟩, us, ul, uc, ur⟩ := id u
  obtain ⟨ps, ks⟩ := us t ht
  obtain ⟨pl, kl⟩ := ul l hl
  rw [hk, hnm]
  iterate 2 refine pm_B.next rfl rfl ?_
  refine q_getr rfl s0 (by decide) p2 ?_
  iterate 1 refine pm_B.next rfl rfl ?_
  refine q_aald rfl s2 l rfl hl (by decide) pl ?_
  iterate 1 refine pm_B.next rfl rfl ?_
  refine q_callv (a := [.ref (55 + 4 * t)]) rfl kl.1.1 rfl (Nat.le_of_ble_eq_true rfl) (Nat.le_of_ble_eq_true rfl) (x_Lk_take (hd := ow) (nb := nI t) (t := tm) kl ks (by rw [mvH, u_nc (by omega)]; exact how) (by rw [mvH, u_nc (by omega)]; exact hnb) (by rw [mvH, u_nc (by omega)]; exact htm) (by omega)) (fun h1 v hv => ?_)
  rcases hv with ⟨hz, hv⟩ | ⟨hz, hv⟩
  · cases hv
    iterate 1 refine pm_B.next rfl rfl ?_
    exact q_vret rfl (Or.inl ⟨hz, by rw [show 58 + 4 * t = 55 + 4 * t + 3 by omega, show 80 + 2 * l = 79 + 2 * l + 1 by omega]⟩)
  · cases hv
    iterate 1 refine pm_B.next rfl rfl ?_
    exact q_vret rfl (Or.inr ⟨hz, rfl⟩)
theorem p_end {t n b q p o l : Nat} {tm : Int32} (u : kU S P) (ht : t < 6) (tp : tpC S A P t n b q p) (hk : A (q + 1) p = 5) (hpt : A (q + 3) p = nI o) (ho : o < 64) (hl : A (q + 1) o = 4 → l < 4 ∧ A (q + 2) o = nI l ∧ A (79 + 2 * l) 2 = tm) :
    EE (d + 2) M_Ru_perform [.ref 49, .ref (55 + 4 * t)] SL S A P (fun r => ∃ A', ebH (mvH A t n p) q o t n l tm A' ∧ r = ((131, SL, S, A', P), none)) := by
  refine q_perform u ht tp ?_
  obtain ⟨⟨s0, s1, s2, s3, s4, s5, s6⟩, ⟨p0, p1, p2, p3, p4, p5, p6⟩, us, ul, uc, ur⟩ := id u
  obtain ⟨hd, hn, hb, hb8, hq, kb, hq45, hp, hp64⟩ := tp
  have kb0 := kb
  obtain ⟨⟨b0, b1, b2, b3, b4⟩, g0, g1, g2, g3⟩ := kb
  rw [hk]
  iterate 5 refine pm_B.next rfl rfl ?_
  refine q_getr rfl b0 (by decide) g2 ?_
  iterate 1 refine pm_B.next rfl rfl ?_
  refine q_iald rfl b3 p rfl hp64 (by decide) (v := nI o) (by rw [mvH, u_nc (by omega)]; exact hpt) ?_
  refine q_callv (a := [.ref (55 + 4 * t), .ref q, .int (nI o)]) rfl s0 rfl (Nat.le_of_ble_eq_true rfl) (Nat.le_of_ble_eq_true rfl) (x_endBlock u ht kb0 ho (n := n) (tm := tm) (l := l) (by rw [mvH, u_nc (by omega)]; exact hd) hn (fun g => ?_)) (fun h1 v hv => ?_)
  · rw [mvH, u_nc (by omega)] at g
    obtain ⟨z1, z2, z3⟩ := hl g
    exact ⟨z1, by rw [mvH, u_nc (by omega)]; exact z2, by rw [mvH, u_nc (by omega)]; exact z3⟩
  obtain ⟨A', h1', h2'⟩ := hv
  cases h2'
  iterate 1 refine pm_B.next rfl rfl ?_
  exact q_vret (Q := fun r => ∃ A', ebH (mvH A t n p) q o t n l tm A' ∧ r = ((131, SL, S, A', P), none)) rfl ⟨A', h1', rfl⟩
theorem p_if {t n b q p e : Nat} (u : kU S P) (ht : t < 6) (tp : tpC S A P t n b q p) (hk : A (q + 1) p = 6 ∨ A (q + 1) p = 8) (hpt : A (q + 3) p = nI e) :
    EE (d + 1) M_Ru_perform [.ref 49, .ref (55 + 4 * t)] SL S A P (fun r => (A (55 + 4 * t) 5 ≠ 0 ∧ r = ((131, SL, S, mvH A t n p, P), none)) ∨ (A (55 + 4 * t) 5 = 0 ∧ r = ((131, SL, S, pm_u (mvH A t n p) (57 + 4 * t) n (nI (e + 1)), P), none))) := by
  refine q_perform u ht tp ?_
  obtain ⟨⟨s0, s1, s2, s3, s4, s5, s6⟩, ⟨p0, p1, p2, p3, p4, p5, p6⟩, us, ul, uc, ur⟩ := id u
  obtain ⟨ps, ks⟩ := us t ht
  have ks0 := ks
  obtain ⟨⟨t0, t1, t2, t3⟩, q1, q2, q3⟩ := ks
  obtain ⟨hd, hn, hb, hb8, hq, kb, hq45, hp, hp64⟩ := tp
  obtain ⟨⟨b0, b1, b2, b3, b4⟩, g0, g1, g2, g3⟩ := kb
  refine pm_B.next (q := (59, _, _, _)) rfl (pm_sw_hit (by rcases hk with g | g <;> rw [g] <;> rfl)) ?_
  iterate 1 refine pm_B.next rfl rfl ?_
  refine q_geti rfl t0 (by decide) (v := A (55 + 4 * t) 5) (by rw [mvH, u_nc (by omega)]) ?_
  by_cases hz : A (55 + 4 * t) 5 = 0
  · refine r_ifF rfl (decide_eq_false (fun g => g hz)) ?_
    iterate 2 refine pm_B.next rfl rfl ?_
    refine q_getr rfl b0 (by decide) g2 ?_
    iterate 1 refine pm_B.next rfl rfl ?_
    refine q_iald rfl b3 p rfl hp64 (by decide) (v := nI e) (by rw [mvH, u_nc (by omega)]; exact hpt) ?_
    iterate 2 refine pm_B.next rfl rfl ?_
    refine q_top (nI_1 e) ?_
    refine q_cv (a := [.int (nI (e + 1))]) rfl t0 rfl (Nat.le_of_ble_eq_true rfl) (Nat.le_of_ble_eq_true rfl) (x_Sd_moveTo ks0 (by rw [mvH, u_nc (by omega)]; exact hd) hn) ?_
    iterate 1 refine pm_B.next rfl rfl ?_
    exact q_vret rfl (Or.inr ⟨hz, by rw [show 57 + 4 * t = 55 + 4 * t + 2 by omega]⟩)
  · refine r_ifT rfl (decide_eq_true hz) ?_
    exact q_vret rfl (Or.inl ⟨hz, rfl⟩)
theorem p_else {t n b q p e : Nat} (u : kU S P) (ht : t < 6) (tp : tpC S A P t n b q p) (hk : A (q + 1) p = 7) (hpt : A (q + 3) p = nI e) :
    EE (d + 1) M_Ru_perform [.ref 49, .ref (55 + 4 * t)] SL S A P (fun r => r = ((131, SL, S, pm_u (mvH A t n p) (57 + 4 * t) n (nI (e + 1)), P), none)) := by
  refine q_perform u ht tp ?_
  obtain ⟨⟨s0, s1, s2, s3, s4, s5, s6⟩, ⟨p0, p1, p2, p3, p4, p5, p6⟩, us, ul, uc, ur⟩ := id u
  obtain ⟨ps, ks⟩ := us t ht
  have ks0 := ks
  obtain ⟨⟨t0, t1, t2, t3⟩, q1, q2, q3⟩ := ks
  obtain ⟨hd, hn, hb, hb8, hq, kb, hq45, hp, hp64⟩ := tp
  obtain ⟨⟨b0, b1, b2, b3, b4⟩, g0, g1, g2, g3⟩ := kb
  rw [hk]
  iterate 3 refine pm_B.next rfl rfl ?_
  refine q_getr rfl b0 (by decide) g2 ?_
  iterate 1 refine pm_B.next rfl rfl ?_
  refine q_iald rfl b3 p rfl hp64 (by decide) (v := nI e) (by rw [mvH, u_nc (by omega)]; exact hpt) ?_
  iterate 2 refine pm_B.next rfl rfl ?_
  refine q_top (nI_1 e) ?_
  refine q_cv (a := [.int (nI (e + 1))]) rfl t0 rfl (Nat.le_of_ble_eq_true rfl) (Nat.le_of_ble_eq_true rfl) (x_Sd_moveTo ks0 (by rw [mvH, u_nc (by omega)]; exact hd) hn) ?_
  iterate 1 refine pm_B.next rfl rfl ?_
  exact q_vret rfl (by rw [show 57 + 4 * t = 55 + 4 * t + 2 by omega])
theorem p_fork {t n b q p c T nb q' sz : Nat} (u : kU S P) (ht : t < 6) (tp : tpC S A P t n b q p) (hk : A (q + 1) p = 9) (hnm : A (q + 2) p = nI c) (hc : c < 8) (hnb : A 1 3 = nI nb) (hnb8 : nb ≤ 8) (hT : A 49 5 = nI T) (hT6 : T ≤ 6) (htT : t < T) (hq : c < nb → P 2 c = some q' ∧ kB S P q' ∧ A q' 4 = nI sz ∧ sz < 1000 ∧ q' < 49) :
    EE (d + 3) M_Ru_perform [.ref 49, .ref (55 + 4 * t)] SL S A P (fun r => ((nb ≤ c ∨ T = 6) ∧ r = ((131, SL, S, mvH A t n p, P), none)) ∨ (c < nb ∧ T < 6 ∧ r = ((131, SL, S, fkH (mvH A t n p) t T c sz, P), none))) := by
  refine q_perform u ht tp ?_
  obtain ⟨⟨s0, s1, s2, s3, s4, s5, s6⟩, ⟨p0, p1, p2, p3, p4, p5, p6⟩, us, ul, uc, ur⟩ := id u
  rw [hk, hnm]
  iterate 4 refine pm_B.next rfl rfl ?_
  refine q_callv (a := [.ref (55 + 4 * t), .int (nI c)]) rfl s0 rfl (Nat.le_of_ble_eq_true rfl) (Nat.le_of_ble_eq_true rfl) (x_fork u ht (nb := nb) (q := q') (sz := sz) (by rw [mvH, u_nc (by omega)]; exact hnb) hnb8 hc (by rw [mvH, u_nc (by omega)]; exact hT) hT6 htT (fun g => ?_)) (fun h1 v hv => ?_)
  · obtain ⟨z1, z2, z3, z4, z5⟩ := hq g
    exact ⟨z1, z2, by rw [mvH, u_nc (by omega)]; exact z3, z4, z5⟩
  rcases hv with ⟨hz, hv⟩ | ⟨hz, hz2, hv⟩
  · cases hv
    iterate 1 refine pm_B.next rfl rfl ?_
    exact q_vret rfl (Or.inl ⟨hz, rfl⟩)
  · cases hv
    iterate 1 refine pm_B.next rfl rfl ?_
    exact q_vret rfl (Or.inr ⟨hz, hz2, rfl⟩)
theorem p_call {t n b q p c nb : Nat} (u : kU S P) (ht : t < 6) (tp : tpC S A P t n b q p) (hk : A (q + 1) p = 10) (hnm : A (q + 2) p = nI c) (hc : c < 8) (hnb : A 1 3 = nI nb) (hnb8 : nb ≤ 8) :
    EE (d + 2) M_Ru_perform [.ref 49, .ref (55 + 4 * t)] SL S A P (fun r => ((nb ≤ c ∨ n = 7) ∧ r = ((131, SL, S, mvH A t n p, P), none)) ∨ (c < nb ∧ n < 7 ∧ r = ((131, SL, S, pm_u (pm_u (pm_u (mvH A t n p) (56 + 4 * t) (n + 1) (nI c)) (57 + 4 * t) (n + 1) 0) (55 + 4 * t) 4 (nI (n + 2)), P), none))) := by
  refine q_perform u ht tp ?_
  obtain ⟨⟨s0, s1, s2, s3, s4, s5, s6⟩, ⟨p0, p1, p2, p3, p4, p5, p6⟩, us, ul, uc, ur⟩ := id u
  obtain ⟨ps, ks⟩ := us t ht
  obtain ⟨hd, hn, -⟩ := tp
  rw [hk, hnm]
  iterate 2 refine pm_B.next rfl rfl ?_
  refine q_getr rfl s0 (by decide) p0 ?_
  iterate 1 refine pm_B.next rfl rfl ?_
  refine q_cv (a := [.int (nI c)]) rfl s4 rfl (Nat.le_of_ble_eq_true rfl) (Nat.le_of_ble_eq_true rfl) (x_contains (n := nI nb) ⟨⟨s4, s5, s6⟩, p5, p6⟩ (by rw [mvH, u_nc (by omega)]; exact hnb)) ?_
  refine q_top (in_nI (by omega) (by omega)) ?_
  by_cases hbn : c < nb
  · rw [if_pos hbn]
    refine r_ifF rfl rfl ?_
    iterate 2 refine pm_B.next rfl rfl ?_
    refine q_callv (a := [.int (nI c)]) rfl ks.1.1 rfl (Nat.le_of_ble_eq_true rfl) (Nat.le_of_ble_eq_true rfl) (x_Sd_enter (n := n + 1) ks (by rw [mvH, u_nc (by omega)]; exact hd) (by omega)) (fun h1 v hv => ?_)
    rcases hv with ⟨hz, hv⟩ | ⟨hz, hv⟩
    · cases hv
      exact q_vret rfl (Or.inl ⟨Or.inr (by omega), rfl⟩)
    · cases hv
      exact q_vret rfl (Or.inr ⟨hbn, by omega, by rw [show 56 + 4 * t = 55 + 4 * t + 1 by omega, show 57 + 4 * t = 55 + 4 * t + 2 by omega]⟩)
  · rw [if_neg hbn]
    refine r_ifT rfl rfl ?_
    exact q_vret rfl (Or.inl ⟨Or.inl (by omega), rfl⟩)
end PERFORM
