section ENDS2
variable {d : Nat} {SL : Nat} {S : Nat → Nat × Nat} {A : Nat → Nat → Int32} {P : Nat → Nat → Option Nat}
variable {n : Nat} {SZ bq : Nat → Nat} {T st rc : Nat} {D TM TH : Nat → Nat} {FB FP : Nat → Nat → Nat}
/-- an END of a SYNC that gives the lock up -/
theorem s_end2 {t n0 l o : Nat} {os : List Nat} (k : KK S P) (is : IS n SZ bq A P) (it : IT n SZ T st D FB FP A) (il : IL T D FB FP TM A) (ik : IK T st TH A) (ia : IA st rc TH A) (htT : t < T) (hD : D t = n0 + 1) (s4 : st < 4000) (hk : KS A (FB t n0) (FP t n0) = 5) (hl4 : l < 4) (hs : bk_st (KS A (FB t n0)) (FP t n0) = o :: os) (h4 : KS A (FB t n0) o = 4) (hnm : NS A (FB t n0) o = nI l) (h2 : TM l = 1) : OP d M_Lo_step M_Mo_step [.int (nI t)] SL S A P := by
  have T6 := it.T6
  have n8 := is.n8
  have d8 := (it.dep t htT).1
  have hb' := tm_lt is it il (by omega) hl4
  obtain ⟨tp, tk, tk3, hb, hp, z64⟩ := tk_top k is it htT hD
  obtain ⟨t1, t2⟩ := tk _ hp
  have hw : wt_ (KS A (FB t n0) (FP t n0)) (A 118 (tl_ A D FB FP t)) (nI t) = 0 := by rw [hk]; rfl
  obtain ⟨i1, i2, i3, i4, i5⟩ := il.lks (by omega) l hl4
  have hnu : bk_nu (KS A (FB t n0)) (FP t n0) := fun i hi h5 => is.nu hb i (by omega) h5
  obtain ⟨o', os', q, p1, p2, p3, p4, p5⟩ := pt_end (is.whl _ hb) (is.jcl _ hb) hp hk
  have eo : o' = o := by rw [hs] at p1; injection p1 with z; exact z.symm
  rw [eo] at p2 p5
  have hqo : q = o := p5.resolve_right (fun z => by rw [h4] at z; exact absurd z.2 (by decide))
  rw [hqo] at p3
  obtain ⟨q1, q2⟩ := tk o (by omega)
  have q45 := is.q45 (b := FB t n0) (by omega)
  have em : nI (TM l) - 1 = nI (TM l - 1) := by rw [show TM l = TM l - 1 + 1 by omega, nI_pred, Nat.add_sub_cancel]
  have eT : ∀ a, a ≠ 49 → a ≠ 58 + 4 * t → tkH A t st a = A a := fun a h1 h2 => by
    funext b
    rw [tkH, u_nc h2, u_nc h1]
  have mq : mvH (tkH A t st) t n0 (FP t n0) (bq (FB t n0) + 1) o = 4 := by rw [mvH, u_nc (by omega), q1]; exact h4
  refine step_lock (l := l) (tm' := TM l - 1) (ow' := -1) (y := -1) (X := cp6 (pm_u (pm_u (mvH (tkH A t st) t n0 (FP t n0)) (79 + 2 * l) 2 (nI (TM l - 1))) (79 + 2 * l) 1 (-1)) (80 + 2 * l) (58 + 4 * t)) (Y := fun C => pm_u (pm_u (pm_u (stH C t n0 st (FP t n0) (A 125 t)) 119 l (nI (TM l - 1))) 118 l (-1)) 120 l (nI st)) k is it il ik ia htT hD s4 hw hl4 (pm_E.ups (pm_E.weaken (p_end (d := d) (o := o) (l := l) (tm := nI (TM l)) k.1 (by omega) tp (by rw [t1]; exact hk) (by rw [tk3]; exact p3) (by omega) (fun _ => ⟨hl4, by rw [q2]; exact hnm, by rw [eT _ (by omega) (by omega)]; exact i2⟩)) (fun r hr => ?_)) (by omega)) (fun a h1 h2 h3 h4 => ?_) (fun j => ?_) ⟨?_, ?_⟩ (fun C hC => ?_) (fun C hC a h1 h2 h3 h4 => ?_) (fun C hC => ⟨?_, ?_, fun x hx => ⟨?_, ?_, ?_⟩, fun q => ?_⟩) (Or.inl rfl) (fun A2 hn he => ?_) (Or.inr ⟨fun C hC => u_eq, fun A2 hn he => ?_⟩) (Or.inl ⟨by omega, rfl⟩) (fun x hx => ?_)
  · obtain ⟨A', hA', hr⟩ := hr
    unfold ebH at hA'
    rw [mq, em] at hA'
    rcases hA' with ⟨g, -⟩ | ⟨-, g, -⟩ | ⟨-, g', h⟩ | ⟨-, g, h⟩
    · exact absurd g (by decide)
    · exact absurd rfl g
    · exact absurd (by rw [h2]; rfl) g'
    · rw [hr, h]
  · funext b
    rw [cp6, if_neg (fun g => h4 g.1), u_nc h3, u_nc h3, mvH, u_nc h1]
  · rw [cp6, if_neg (by omega), u_nc (by omega), u_nc (by omega), mvH]
    by_cases h : j = n0
    · rw [if_pos h, h]; exact u_eq
    · rw [if_neg h, u_ni h, eT _ (by omega) (by omega)]
  · rw [cp6, if_neg (by omega)]; exact u_eq
  · rw [cp6, if_neg (by omega), u_ni (by omega)]; exact u_eq
  · obtain ⟨w1, w2, w3, w4⟩ := st_top it htT hD hC
    refine pm_E.weaken (d_end (d := d) (n := n0) (tm := nI (TM l)) (l := l) k.2.1 (by omega) w1 (by omega) (by omega) (by omega) (by rw [w2]; exact hk) (by rw [w2]; exact hnu) (by rw [w2]; exact hs) (fun _ => ⟨hl4, by rw [w3]; exact hnm, by rw [w4 119 (by omega) (by omega)]; exact i3⟩) (by rw [w4 111 (by omega) (by omega)]; exact it.mst)) (fun r hr => ?_)
    obtain ⟨A', hA', hr⟩ := hr
    unfold enH at hA'
    rw [w2, em, h4] at hA'
    rcases hA' with ⟨g, -⟩ | ⟨-, g, -⟩ | ⟨-, g', h⟩ | ⟨-, g, h⟩
    · exact absurd g (by decide)
    · exact absurd rfl g
    · rw [h2] at g'; exact absurd g' (by decide)
    · rw [hr, h]
  · funext b
    show pm_u _ _ _ _ a b = _
    rw [u_nc h3, u_nc h1, u_nc h2]
  · obtain ⟨w1, w2, w3, w4⟩ := st_top it htT hD hC
    show pm_u _ _ _ _ 118 l = _
    rw [u_nc (by omega)]; exact u_eq
  · show pm_u _ _ _ _ 119 l = _
    rw [u_nc (by omega), u_nc (by omega)]; exact u_eq
  · obtain ⟨w1, w2, w3, w4⟩ := st_top it htT hD hC
    show pm_u _ _ _ _ 118 x = _
    rw [u_nc (by omega), u_ni hx, u_nc (by omega), w4 118 (by omega) (by omega)]
  · obtain ⟨w1, w2, w3, w4⟩ := st_top it htT hD hC
    show pm_u _ _ _ _ 119 x = _
    rw [u_nc (by omega), u_nc (by omega), u_ni hx, w4 119 (by omega) (by omega)]
  · obtain ⟨w1, w2, w3, w4⟩ := st_top it htT hD hC
    show pm_u _ _ _ _ 120 x = _
    rw [u_ni hx, u_nc (by omega), u_nc (by omega), w4 120 (by omega) (by omega)]
  · show pm_u _ _ _ _ 127 q = _
    rw [u_nc (by omega), u_nc (by omega), u_nc (by omega), stH, u_nc (by omega), u_nc (by omega), u_nc (by omega)]
    by_cases h : q = st
    · rw [if_pos h, h]; exact u_eq
    · rw [if_neg h, u_ni h, u_nc (by omega), hC 127 (by omega)]
  · refine ck_tick ik htT s4 hn (fun u hu => ?_) (by omega)
    rw [he, cp6, if_neg (by omega), u_nc (by omega), u_nc (by omega), mvH, u_nc (by omega), tkH]
    by_cases h : u = t
    · rw [if_pos h, h]; exact u_eq
    · rw [if_neg h, u_ni h, u_nc (by omega)]
  · refine ck_tick ik htT s4 hn (fun u hu => ?_) (by omega)
    rw [he, cp6, if_pos ⟨rfl, hu⟩, u_nc (by omega), u_nc (by omega), mvH, u_nc (by omega), tkH]
    by_cases h : u = t
    · rw [if_pos h, h]; exact u_eq
    · rw [if_neg h, u_ni h, u_nc (by omega)]
  · rw [bk_st_end hk, hs, cs]
    show _ = TM x + cs _ _ x os
    by_cases h : x = l
    · rw [if_pos h, h, if_pos ⟨h4, hnm⟩]; omega
    · rw [if_neg h, if_neg (fun g => h ((nI_eq (by omega) (by omega)).mp (g.2.symm.trans hnm))), Nat.add_zero]
end ENDS2
