section MORE
variable {d : Nat} {SL : Nat} {S : Nat → Nat × Nat} {A : Nat → Nat → Int32} {P : Nat → Nat → Option Nat}
variable {n : Nat} {SZ bq : Nat → Nat} {T st rc : Nat} {D TM TH : Nat → Nat} {FB FP : Nat → Nat → Nat}
/-- an END whose block is no SYNC -/
theorem s_end0 {t n0 o : Nat} {os : List Nat} (k : KK S P) (is : IS n SZ bq A P) (it : IT n SZ T st D FB FP A) (il : IL T D FB FP TM A) (ik : IK T st TH A) (ia : IA st rc TH A) (htT : t < T) (hD : D t = n0 + 1) (s4 : st < 4000) (hk : KS A (FB t n0) (FP t n0) = 5) (hs : bk_st (KS A (FB t n0)) (FP t n0) = o :: os) (ho4 : KS A (FB t n0) o ≠ 4) : OP d M_Lo_step M_Mo_step [.int (nI t)] SL S A P := by
  have T6 := it.T6
  have n8 := is.n8
  have d8 := (it.dep t htT).1
  obtain ⟨tp, tk, tk3, hb, hp, z64⟩ := tk_top k is it htT hD
  obtain ⟨t1, t2⟩ := tk _ hp
  have hw : wt_ (KS A (FB t n0) (FP t n0)) (A 118 (tl_ A D FB FP t)) (nI t) = 0 := by rw [hk]; rfl
  have hval := it.val t htT
  have hnu : bk_nu (KS A (FB t n0)) (FP t n0) := fun i hi h5 => is.nu hb i (by omega) h5
  obtain ⟨o', os', q, p1, p2, p3, p4, p5⟩ := pt_end (is.whl _ hb) (is.jcl _ hb) hp hk
  have eo : o' = o := by rw [hs] at p1; injection p1 with z; exact z.symm
  rw [eo] at p2 p5
  have hin := bk_in hs
  obtain ⟨q1, q2⟩ := tk q (by omega)
  have hq4 : KS A (FB t n0) q ≠ 4 := by
    rcases p5 with z | ⟨z, -⟩
    · rw [z]; exact ho4
    · rw [z]; decide
  have q45 := is.q45 (b := FB t n0) (by omega)
  have hX := p_end (d := d) (SL := SL) (o := q) (l := 0) (tm := 0) k.1 (by omega) tp (by rw [t1]; exact hk) (by rw [tk3]; exact p3) (by omega) (fun g => absurd (q1.symm.trans g) hq4)
  have mq : mvH (tkH A t st) t n0 (FP t n0) (bq (FB t n0) + 1) q = KS A (FB t n0) q := by rw [mvH, u_nc (by omega)]; exact q1
  have hYe : ∀ C, (∀ a, 111 ≤ a → C a = A a) → EE (d + 3) M_Mo_does [.ref 111, .int (nI t), .int (nI (FB t n0)), .int (nI (FP t n0))] SL S (stH C t n0 st (FP t n0) (A 125 t)) P (fun r => ∃ A', enH (stH C t n0 st (FP t n0) (A 125 t)) (FB t n0) o t n0 st 0 0 A' ∧ r = ((131, SL, S, A', P), none)) := fun C hC => by
    obtain ⟨w1, w2, w3, w4⟩ := st_top it htT hD hC
    exact d_end (d := d) (n := n0) (tm := 0) (l := 0) k.2.1 (by omega) w1 (by omega) (by omega) (by omega) (by rw [w2]; exact hk) (by rw [w2]; exact hnu) (by rw [w2]; exact hs) (fun g => by rw [w2] at g; exact absurd g ho4) (by rw [w4 111 (by omega) (by omega)]; exact it.mst)
  by_cases h8 : KS A (FB t n0) o = 8
  · have hqo : q = o := by
      rcases p5 with z | ⟨-, z⟩
      · exact z
      · rw [h8] at z; exact absurd z (by decide)
    refine step_place (p' := o) (v := A 121 t) k is it il ik ia htT hD s4 hw (pm_E.ups (pm_E.weaken hX (fun r hr => ?_)) (by omega)) (fun C hC => pm_E.weaken (hYe C hC) (fun r hr => ?_)) (by omega) (fun l hl => by rw [hs, cs_cons ho4, hin.2.2.1])
    · obtain ⟨A', hA', hr⟩ := hr
      rcases hA' with ⟨-, h⟩ | ⟨g, -⟩ | ⟨g, -⟩ | ⟨g, -⟩
      · rw [hr, h, mvH, u_uu, hqo, XP_id hval]
      · rw [mq, hqo] at g; exact absurd h8 g
      · rw [mq] at g; exact absurd g hq4
      · rw [mq] at g; exact absurd g hq4
    · obtain ⟨w1, w2, w3, w4⟩ := st_top it htT hD hC
      have e121 : stH C t n0 st (FP t n0) (A 125 t) 121 t = A 121 t := by rw [w4 121 (by omega) (by omega)]
      obtain ⟨A', hA', hr⟩ := hr
      unfold enH at hA'
      rw [w2] at hA'
      rcases hA' with ⟨-, h⟩ | ⟨g, -⟩ | ⟨g, -⟩ | ⟨g, -⟩
      · rw [hr, h, YP_id e121]
      · exact absurd h8 g
      · exact absurd g ho4
      · exact absurd g ho4
  · have hq8 : KS A (FB t n0) q ≠ 8 := by
      rcases p5 with z | ⟨z, -⟩
      · rw [z]; exact h8
      · rw [z]; decide
    refine step_place (p' := FP t n0 + 1) (v := A 121 t) k is it il ik ia htT hD s4 hw (pm_E.ups (pm_E.weaken hX (fun r hr => ?_)) (by omega)) (fun C hC => pm_E.weaken (hYe C hC) (fun r hr => ?_)) (by omega) (fun l hl => by rw [bk_st_end hk, hs, cs_cons ho4]; rfl)
    · obtain ⟨A', hA', hr⟩ := hr
      rcases hA' with ⟨g, -⟩ | ⟨-, -, h⟩ | ⟨g, -⟩ | ⟨g, -⟩
      · rw [mq] at g; exact absurd g hq8
      · rw [hr, h, mvH, XP_id hval]
      · rw [mq] at g; exact absurd g hq4
      · rw [mq] at g; exact absurd g hq4
    · obtain ⟨w1, w2, w3, w4⟩ := st_top it htT hD hC
      have e121 : stH C t n0 st (FP t n0) (A 125 t) 121 t = A 121 t := by rw [w4 121 (by omega) (by omega)]
      obtain ⟨A', hA', hr⟩ := hr
      unfold enH at hA'
      rw [w2] at hA'
      rcases hA' with ⟨g, -⟩ | ⟨-, -, h⟩ | ⟨g, -⟩ | ⟨g, -⟩
      · exact absurd g h8
      · rw [hr, h, ← YP_id e121, stH_p]
      · exact absurd g ho4
      · exact absurd g ho4
/-- a FORK that begins no thread, a CALL that enters no body -/
theorem s_fork0 {t n0 c : Nat} (k : KK S P) (is : IS n SZ bq A P) (it : IT n SZ T st D FB FP A) (il : IL T D FB FP TM A) (ik : IK T st TH A) (ia : IA st rc TH A) (htT : t < T) (hD : D t = n0 + 1) (s4 : st < 4000) (hk : KS A (FB t n0) (FP t n0) = 9) (hc : c < 8) (hnm : NS A (FB t n0) (FP t n0) = nI c) (hno : n ≤ c ∨ T = 6) : OP d M_Lo_step M_Mo_step [.int (nI t)] SL S A P := by
  have T6 := it.T6
  have n8 := is.n8
  have d8 := (it.dep t htT).1
  obtain ⟨tp, tk, tk3, hb, hp, z64⟩ := tk_top k is it htT hD
  obtain ⟨t1, t2⟩ := tk _ hp
  have hw : wt_ (KS A (FB t n0) (FP t n0)) (A 118 (tl_ A D FB FP t)) (nI t) = 0 := by rw [hk]; rfl
  have hval := it.val t htT
  have eT : ∀ a, a ≠ 49 → a ≠ 58 + 4 * t → tkH A t st a = A a := fun a h1 h2 => by
    funext b
    rw [tkH, u_nc h2, u_nc h1]
  refine step_place (p' := FP t n0 + 1) (v := A 121 t) k is it il ik ia htT hD s4 hw (pm_E.ups (pm_E.weaken (p_fork (d := d) (c := c) (T := T) (nb := n) (q' := bq c) (sz := SZ c) k.1 (by omega) tp (by rw [t1]; exact hk) (by rw [t2]; exact hnm) hc (by rw [eT 1 (by omega) (by omega)]; exact is.cn) n8 (by rw [tkH, u_nc (by omega), u_ni (by omega)]; exact it.cT) T6 htT (fun g => ?_)) (fun r hr => ?_)) (by omega)) (fun C hC => ?_) (by omega) (fun l hl => cs_no (by rw [hk]; rfl) (by rw [hk]; decide))
  · have q45 := is.q45 (b := c) (by omega)
    have := is.s64 c (Or.inl g)
    exact ⟨is.pbs c hc, k.bq is (by omega), by rw [eT _ (by omega) (by omega)]; exact is.csz c (Or.inl g), by omega, by omega⟩
  · rcases hr with ⟨-, hr⟩ | ⟨g1, g2, -⟩
    · rw [hr, mvH, XP_id hval]
    · omega
  · obtain ⟨w1, w2, w3, w4⟩ := st_top it htT hD hC
    have e121 : stH C t n0 st (FP t n0) (A 125 t) 121 t = A 121 t := by rw [w4 121 (by omega) (by omega)]
    refine pm_E.ups (pm_E.weaken (d_fork (d := d) (n := n0) (c := c) (nb := n) (T := T) (sz := SZ c) (st := st) k.2.1 (by omega) w1 (by omega) (by omega) (by rw [w2]; exact hk) (by rw [w3]; exact hnm) hc (by rw [w4 111 (by omega) (by omega)]; exact is.mn) n8 (by rw [w4 111 (by omega) (by omega)]; exact it.mT) T6 (fun g => ⟨by rw [w4 114 (by omega) (by omega)]; exact is.msz c (Or.inl g), by have := is.s64 c (Or.inl g); omega⟩) (by rw [w4 111 (by omega) (by omega)]; exact it.mst)) (fun r hr => ?_)) (by omega)
    rcases hr with ⟨-, hr⟩ | ⟨g1, g2, -⟩
    · rw [hr, ← YP_id e121, stH_p]
    · omega
theorem s_call0 {t n0 c : Nat} (k : KK S P) (is : IS n SZ bq A P) (it : IT n SZ T st D FB FP A) (il : IL T D FB FP TM A) (ik : IK T st TH A) (ia : IA st rc TH A) (htT : t < T) (hD : D t = n0 + 1) (s4 : st < 4000) (hk : KS A (FB t n0) (FP t n0) = 10) (hc : c < 8) (hnm : NS A (FB t n0) (FP t n0) = nI c) (hno : n ≤ c ∨ n0 = 7) : OP d M_Lo_step M_Mo_step [.int (nI t)] SL S A P := by
  have T6 := it.T6
  have n8 := is.n8
  have d8 := (it.dep t htT).1
  obtain ⟨tp, tk, tk3, hb, hp, z64⟩ := tk_top k is it htT hD
  obtain ⟨t1, t2⟩ := tk _ hp
  have hw : wt_ (KS A (FB t n0) (FP t n0)) (A 118 (tl_ A D FB FP t)) (nI t) = 0 := by rw [hk]; rfl
  have hval := it.val t htT
  refine step_place (p' := FP t n0 + 1) (v := A 121 t) k is it il ik ia htT hD s4 hw (pm_E.ups (pm_E.weaken (p_call (d := d) (c := c) (nb := n) k.1 (by omega) tp (by rw [t1]; exact hk) (by rw [t2]; exact hnm) hc (by rw [tkH, u_nc (by omega), u_nc (by omega)]; exact is.cn) n8) (fun r hr => ?_)) (by omega)) (fun C hC => ?_) (by omega) (fun l hl => cs_no (by rw [hk]; rfl) (by rw [hk]; decide))
  · rcases hr with ⟨-, hr⟩ | ⟨g1, g2, -⟩
    · rw [hr, mvH, XP_id hval]
    · omega
  · obtain ⟨w1, w2, w3, w4⟩ := st_top it htT hD hC
    have e121 : stH C t n0 st (FP t n0) (A 125 t) 121 t = A 121 t := by rw [w4 121 (by omega) (by omega)]
    refine pm_E.ups (pm_E.weaken (d_call (d := d) (n := n0) (c := c) (nb := n) k.2.1 (by omega) w1 (by omega) (by omega) (by omega) (by rw [w2]; exact hk) (by rw [w3]; exact hnm) hc (by rw [w4 111 (by omega) (by omega)]; exact is.mn) n8) (fun r hr => ?_)) (by omega)
    rcases hr with ⟨-, hr⟩ | ⟨g1, g2, -⟩
    · rw [hr, ← YP_id e121, stH_p]
    · omega
end MORE
