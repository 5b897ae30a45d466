section JUMPS
variable {d : Nat} {SL : Nat} {S : Nat → Nat × Nat} {A : Nat → Nat → Int32} {P : Nat → Nat → Option Nat}
variable {n : Nat} {SZ bq : Nat → Nat} {T st rc : Nat} {D TM TH : Nat → Nat} {FB FP : Nat → Nat → Nat}
theorem cl_some {ks : Nat → Int32} {N k : Nat} {q : Int32 → Prop} (hk : k ≤ N) : ∃ j, bk_CL ks N k q j := by
  have key : ∀ m i, i + m = N → ∃ j, i ≤ j ∧ ((j < N ∧ bk_st ks j = bk_st ks k ∧ q (ks j)) ∨ j = N) ∧ ∀ x, i ≤ x → x < j → ¬ (bk_st ks x = bk_st ks k ∧ q (ks x)) := by
    intro m
    induction m with
    | zero => exact fun i hi => ⟨N, by omega, Or.inr rfl, fun x _ _ => by omega⟩
    | succ m ih =>
      intro i hi
      by_cases h : bk_st ks i = bk_st ks k ∧ q (ks i)
      · exact ⟨i, Nat.le_refl _, Or.inl ⟨by omega, h.1, h.2⟩, fun x _ _ => by omega⟩
      · obtain ⟨j, h1, h2, h3⟩ := ih (i + 1) (by omega)
        refine ⟨j, by omega, h2, fun x hx hxj => ?_⟩
        by_cases hxi : x = i
        · rw [hxi]; exact h
        · exact h3 x (by omega) hxj
  exact key (N - k) k (by omega)
theorem cs_cons {ks ns : Nat → Int32} {l o : Nat} {r : List Nat} (h : ks o ≠ 4) : cs ks ns l (o :: r) = cs ks ns l r := by
  rw [cs, if_neg (fun g => h g.1), Nat.add_zero]
theorem XP_id {t n0 p' : Nat} {v : Int32} (h : A (55 + 4 * t) 5 = v) : pm_u (tkH A t st) (57 + 4 * t) n0 (nI p') = XP A t n0 st p' v := by
  have e : v = pm_u (tkH A t st) (57 + 4 * t) n0 (nI p') (55 + 4 * t) 5 := by rw [u_nc (by omega), tkH, u_nc (by omega), u_nc (by omega)]; exact h.symm
  rw [XP]
  conv => rhs; rw [e]
  rw [u_id]
theorem YP_id {H : Nat → Nat → Int32} {t n0 p' : Nat} {v : Int32} (h : H 121 t = v) : pm_u H 124 (8 * t + n0) (nI p') = YP H t n0 p' v := by
  have e : v = pm_u H 124 (8 * t + n0) (nI p') 121 t := by rw [u_nc (by omega)]; exact h.symm
  rw [YP]
  conv => rhs; rw [e]
  rw [u_id]
theorem s_ifwhile {t n0 : Nat} (k : KK S P) (is : IS n SZ bq A P) (it : IT n SZ T st D FB FP A) (il : IL T D FB FP TM A) (ik : IK T st TH A) (ia : IA st rc TH A) (htT : t < T) (hD : D t = n0 + 1) (s4 : st < 4000) (hk : KS A (FB t n0) (FP t n0) = 6 ∨ KS A (FB t n0) (FP t n0) = 8) : OP d M_Lo_step M_Mo_step [.int (nI t)] SL S A P := by
  have T6 := it.T6
  have n8 := is.n8
  have d8 := (it.dep t htT).1
  obtain ⟨tp, tk, tk3, hb, hp, z64⟩ := tk_top k is it htT hD
  obtain ⟨t1, t2⟩ := tk _ hp
  have hw : wt_ (KS A (FB t n0) (FP t n0)) (A 118 (tl_ A D FB FP t)) (nI t) = 0 := by rcases hk with h | h <;> rw [h] <;> rfl
  have hval := it.val t htT
  have e5 : tkH A t st (55 + 4 * t) 5 = A 121 t := by rw [tkH, u_nc (by omega), u_nc (by omega)]; exact hval
  have hop : bk_st (KS A (FB t n0)) (FP t n0 + 1) = FP t n0 :: bk_st (KS A (FB t n0)) (FP t n0) := bk_st_op (by rcases hk with h | h <;> rw [h] <;> rfl)
  have h4 : KS A (FB t n0) (FP t n0) ≠ 4 := by rcases hk with h | h <;> rw [h] <;> decide
  -- where it jumps to
  have hj : ∃ j, j < SZ (FB t n0) ∧ A (bq (FB t n0) + 3) (FP t n0) = nI j ∧ (∀ l, cs (KS A (FB t n0)) (NS A (FB t n0)) l (bk_st (KS A (FB t n0)) (j + 1)) = cs (KS A (FB t n0)) (NS A (FB t n0)) l (bk_st (KS A (FB t n0)) (FP t n0))) ∧ (KS A (FB t n0) (FP t n0) = 6 → bk_CL (KS A (FB t n0)) (SZ (FB t n0)) (FP t n0 + 1) (clq 1) j) ∧ (KS A (FB t n0) (FP t n0) = 8 → bk_CL (KS A (FB t n0)) (SZ (FB t n0)) (FP t n0 + 1) (clq 0) j) := by
    rcases hk with h | h
    · obtain ⟨j, hj⟩ := cl_some (ks := KS A (FB t n0)) (N := SZ (FB t n0)) (k := FP t n0 + 1) (q := clq 1) (by omega)
      obtain ⟨g1, g2, g3, g4, g5⟩ := pt_if (is.whl _ hb) (is.jcl _ hb) hp h hj
      refine ⟨j, g1, g2, fun l => ?_, fun _ => hj, fun z => by rw [h] at z; exact absurd z (by decide)⟩
      rcases g4 with z | z
      · rw [bk_st_end z, g3]; rfl
      · rw [bk_st_no (by rw [z]; rfl) (by rw [z]; decide), g3, cs_cons h4]
    · obtain ⟨j, hj⟩ := cl_some (ks := KS A (FB t n0)) (N := SZ (FB t n0)) (k := FP t n0 + 1) (q := clq 0) (by omega)
      obtain ⟨g1, g2, g3, g4⟩ := pt_while (is.whl _ hb) (is.jcl _ hb) hp h hj
      refine ⟨j, g1, g2, fun l => ?_, fun z => by rw [h] at z; exact absurd z (by decide), fun _ => hj⟩
      rw [bk_st_end g4, g3]; rfl
  obtain ⟨j, j1, j2, j3, j4, j5⟩ := hj
  have hX := p_if (d := d) (SL := SL) (e := j) k.1 (by omega) tp (by rw [t1]; exact hk) (by rw [tk3]; exact j2)
  rw [e5] at hX
  by_cases hz : A 121 t = 0
  · refine step_place (p' := j + 1) (v := A 121 t) k is it il ik ia htT hD s4 hw (pm_E.ups (pm_E.weaken hX (fun r hr => ?_)) (by omega)) (fun C hC => ?_) (by omega) (fun l hl => j3 l)
    · rcases hr with ⟨g, -⟩ | ⟨-, hr⟩
      · exact absurd hz g
      · rw [hr, mvH, u_uu, XP_id hval]
    · obtain ⟨g1, g2, g3, g4⟩ := st_top it htT hD hC
      have e121 : stH C t n0 st (FP t n0) (A 125 t) 121 t = A 121 t := by rw [g4 121 (by omega) (by omega)]
      rcases hk with h | h
      · refine pm_E.ups (pm_E.weaken (d_if (d := d) (n := n0) (sz := SZ (FB t n0)) k.2.1 (by omega) g1 (by omega) (by omega) hp (by rw [g4 114 (by omega) (by omega)]; exact is.msz _ (Or.inl hb)) z64 (by rw [g2]; exact h)) (fun r hr => ?_)) (by omega)
        rw [g2, e121] at hr
        rcases hr with ⟨g, -⟩ | ⟨-, j', hj', hr⟩
        · exact absurd hz g
        · rw [bk_CL_one hj' (j4 h)] at hr
          rw [hr, YP_id e121]
      · refine pm_E.ups (pm_E.weaken (d_while (d := d) (n := n0) (sz := SZ (FB t n0)) k.2.1 (by omega) g1 (by omega) (by omega) hp (by rw [g4 114 (by omega) (by omega)]; exact is.msz _ (Or.inl hb)) z64 (by rw [g2]; exact h)) (fun r hr => ?_)) (by omega)
        rw [g2, e121] at hr
        rcases hr with ⟨g, -⟩ | ⟨-, j', hj', hr⟩
        · exact absurd hz g
        · rw [bk_CL_one hj' (j5 h)] at hr
          rw [hr, YP_id e121]
  · refine step_place (p' := FP t n0 + 1) (v := A 121 t) k is it il ik ia htT hD s4 hw (pm_E.ups (pm_E.weaken hX (fun r hr => ?_)) (by omega)) (fun C hC => ?_) (by omega) (fun l hl => by rw [hop, cs_cons h4])
    · rcases hr with ⟨-, hr⟩ | ⟨g, -⟩
      · rw [hr, mvH, XP_id hval]
      · exact absurd g hz
    · obtain ⟨g1, g2, g3, g4⟩ := st_top it htT hD hC
      have e121 : stH C t n0 st (FP t n0) (A 125 t) 121 t = A 121 t := by rw [g4 121 (by omega) (by omega)]
      rcases hk with h | h
      · refine pm_E.ups (pm_E.weaken (d_if (d := d) (n := n0) (sz := SZ (FB t n0)) k.2.1 (by omega) g1 (by omega) (by omega) hp (by rw [g4 114 (by omega) (by omega)]; exact is.msz _ (Or.inl hb)) z64 (by rw [g2]; exact h)) (fun r hr => ?_)) (by omega)
        rw [g2, e121] at hr
        rcases hr with ⟨-, hr⟩ | ⟨g, -⟩
        · rw [hr, ← YP_id e121, stH_p]
        · exact absurd g hz
      · refine pm_E.ups (pm_E.weaken (d_while (d := d) (n := n0) (sz := SZ (FB t n0)) k.2.1 (by omega) g1 (by omega) (by omega) hp (by rw [g4 114 (by omega) (by omega)]; exact is.msz _ (Or.inl hb)) z64 (by rw [g2]; exact h)) (fun r hr => ?_)) (by omega)
        rw [g2, e121] at hr
        rcases hr with ⟨-, hr⟩ | ⟨g, -⟩
        · rw [hr, ← YP_id e121, stH_p]
        · exact absurd g hz
theorem s_else {t n0 : Nat} (k : KK S P) (is : IS n SZ bq A P) (it : IT n SZ T st D FB FP A) (il : IL T D FB FP TM A) (ik : IK T st TH A) (ia : IA st rc TH A) (htT : t < T) (hD : D t = n0 + 1) (s4 : st < 4000) (hk : KS A (FB t n0) (FP t n0) = 7) : OP d M_Lo_step M_Mo_step [.int (nI t)] SL S A P := by
  have T6 := it.T6
  have n8 := is.n8
  have d8 := (it.dep t htT).1
  obtain ⟨tp, tk, tk3, hb, hp, z64⟩ := tk_top k is it htT hD
  obtain ⟨t1, t2⟩ := tk _ hp
  have hw : wt_ (KS A (FB t n0) (FP t n0)) (A 118 (tl_ A D FB FP t)) (nI t) = 0 := by rw [hk]; rfl
  have hval := it.val t htT
  obtain ⟨j, hj⟩ := cl_some (ks := KS A (FB t n0)) (N := SZ (FB t n0)) (k := FP t n0 + 1) (q := clq 0) (by omega)
  obtain ⟨o, l0, g1, g2, g3, g4, g5, g6⟩ := pt_else (is.whl _ hb) (is.jcl _ hb) hp hk hj
  refine step_place (p' := j + 1) (v := A 121 t) k is it il ik ia htT hD s4 hw (pm_E.ups (pm_E.weaken (p_else (d := d) (e := j) k.1 (by omega) tp (by rw [t1]; exact hk) (by rw [tk3]; exact g4)) (fun r hr => ?_)) (by omega)) (fun C hC => ?_) (by omega) (fun l hl => ?_)
  · rw [hr, mvH, u_uu, XP_id hval]
  · obtain ⟨w1, w2, w3, w4⟩ := st_top it htT hD hC
    have e121 : stH C t n0 st (FP t n0) (A 125 t) 121 t = A 121 t := by rw [w4 121 (by omega) (by omega)]
    refine pm_E.ups (pm_E.weaken (d_else (d := d) (n := n0) (sz := SZ (FB t n0)) k.2.1 (by omega) w1 (by omega) (by omega) hp (by rw [w4 114 (by omega) (by omega)]; exact is.msz _ (Or.inl hb)) z64 (by rw [w2]; exact hk)) (fun r hr => ?_)) (by omega)
    rw [w2] at hr
    obtain ⟨j', hj', hr⟩ := hr
    rw [bk_CL_one hj' hj] at hr
    rw [hr, YP_id e121]
  · rw [bk_st_end g6, g5, g1, cs_cons (by rw [g2]; decide)]; rfl
end JUMPS
