section SYNC0
variable {d : Nat} {SL : Nat} {S : Nat → Nat × Nat} {A : Nat → Nat → Int32} {P : Nat → Nat → Option Nat}
variable {n : Nat} {SZ bq : Nat → Nat} {T st rc : Nat} {D TM TH : Nat → Nat} {FB FP : Nat → Nat → Nat}
/-- a SYNC of a lock that nobody has -/
theorem s_sync0 {t n0 l : Nat} (k : KK S P) (is : IS n SZ bq A P) (it : IT n SZ T st D FB FP A) (il : IL T D FB FP TM A) (ik : IK T st TH A) (ia : IA st rc TH A) (htT : t < T) (hD : D t = n0 + 1) (s4 : st < 4000) (hk : KS A (FB t n0) (FP t n0) = 4) (hl4 : l < 4) (hnm : NS A (FB t n0) (FP t n0) = nI l) (hw : wt_ (KS A (FB t n0) (FP t n0)) (A 118 (tl_ A D FB FP t)) (nI t) = 0) (hT0 : TM l = 0) (how : A 118 l = -1) : OP d M_Lo_step M_Mo_step [.int (nI t)] SL S A P := by
  have T6 := it.T6
  have n8 := is.n8
  obtain ⟨tp, tk, tk3, hb, hp, z64⟩ := tk_top k is it htT hD
  obtain ⟨t1, t2⟩ := tk _ hp
  obtain ⟨i1, i2, i3, i4, i5⟩ := il.lks (by omega) l hl4
  have eT : ∀ a, a ≠ 49 → a ≠ 58 + 4 * t → tkH A t st a = A a := fun a h1 h2 => by
    funext b
    rw [tkH, u_nc h2, u_nc h1]
  refine step_lock (l := l) (tm' := TM l + 1) (ow' := nI t) (y := A 120 l) (X := pm_u (pm_u (mxr (mvH (tkH A t st) t n0 (FP t n0)) (58 + 4 * t) (80 + 2 * l) 6) (79 + 2 * l) 1 (nI t)) (79 + 2 * l) 2 (nI (TM l + 1))) (Y := fun C => pm_u (pm_u (pm_u (stH C t n0 st (FP t n0) (A 125 t)) 127 st (A 120 l)) 118 l (nI t)) 119 l (nI (TM l + 1))) k is it il ik ia htT hD s4 hw hl4 (pm_E.ups (pm_E.weaken (p_sync (d := d) (l := l) (ow := -1) (tm := nI (TM l)) k.1 (by omega) tp (by rw [t1]; exact hk) (by rw [t2]; exact hnm) hl4 (by rw [eT _ (by omega) (by omega), i1]; exact how) (by rw [eT _ (by omega) (by omega)]; exact i2) (by rw [eT _ (by omega) (by omega)]; exact it.num t (by omega))) (fun r hr => ?_)) (by omega)) (fun a h1 h2 h3 h4 => ?_) (fun j => ?_) ⟨?_, u_eq⟩ (fun C hC => ?_) (fun C hC a h1 h2 h3 h4 => ?_) (fun C hC => ⟨?_, u_eq, fun x hx => ⟨?_, ?_, ?_⟩, fun q => ?_⟩) (ik.fre (by omega) l hl4) (fun A2 hn he => ?_) (Or.inl ⟨?_, fun C hC => ?_⟩) (Or.inr ⟨by omega, t, htT, rfl⟩) (fun x hx => ?_)
  · rcases hr with ⟨-, hr⟩ | ⟨g, -⟩
    · rw [hr, nI_1]
    · exact absurd rfl g
  · funext b
    rw [u_nc h3, u_nc h3, mxr, if_neg (fun g => h2 g.1), mvH, u_nc h1]
  · rw [u_nc (by omega), u_nc (by omega), mxr, if_neg (by omega), mvH]
    by_cases h : j = n0
    · rw [if_pos h, h]; exact u_eq
    · rw [if_neg h, u_ni h, eT _ (by omega) (by omega)]
  · rw [u_ni (by omega)]; exact u_eq
  · obtain ⟨w1, w2, w3, w4⟩ := st_top it htT hD hC
    refine pm_E.ups (pm_E.weaken (d_sync (d := d) (n := n0) (l := l) (st := st) (tm := nI (TM l)) (fr := A 120 l) k.2.1 (by omega) w1 (by omega) (by omega) (by rw [w2]; exact hk) (by rw [w3]; exact hnm) hl4 (by rw [w4 119 (by omega) (by omega)]; exact i3) (by rw [w4 120 (by omega) (by omega)]) (by rw [w4 111 (by omega) (by omega)]; exact it.mst) s4) (fun r hr => ?_)) (by omega)
    rcases hr with ⟨-, hr⟩ | ⟨g, -⟩
    · rw [hr, nI_1]
    · exact absurd (by rw [hT0]; rfl) g
  · funext b
    show pm_u _ _ _ _ a b = _
    rw [u_nc h2, u_nc h1, u_nc h4]
  · show pm_u _ _ _ _ 118 l = _
    rw [u_nc (by omega)]; exact u_eq
  · obtain ⟨w1, w2, w3, w4⟩ := st_top it htT hD hC
    show pm_u _ _ _ _ 118 x = _
    rw [u_nc (by omega), u_ni hx, u_nc (by omega), w4 118 (by omega) (by omega)]
  · obtain ⟨w1, w2, w3, w4⟩ := st_top it htT hD hC
    show pm_u _ _ _ _ 119 x = _
    rw [u_ni hx, u_nc (by omega), u_nc (by omega), w4 119 (by omega) (by omega)]
  · obtain ⟨w1, w2, w3, w4⟩ := st_top it htT hD hC
    show pm_u _ _ _ _ 120 x = _
    rw [u_nc (by omega), u_nc (by omega), u_nc (by omega), w4 120 (by omega) (by omega)]
  · show pm_u _ _ _ _ 127 q = _
    rw [u_nc (by omega), u_nc (by omega)]
    by_cases h : q = st
    · rw [if_pos h, h]; exact u_eq
    · rw [if_neg h, u_ni h, stH, u_nc (by omega), u_nc (by omega), u_nc (by omega), u_ni h, u_nc (by omega), hC 127 (by omega)]
  · have r58 : ∀ u, u < 6 → A2 (58 + 4 * t) u = if tkH A t st (58 + 4 * t) u < A (80 + 2 * l) u then A (80 + 2 * l) u else tkH A t st (58 + 4 * t) u := fun u hu => by
      rw [he, u_nc (by omega), u_nc (by omega), mxr, if_pos ⟨rfl, hu⟩, mvH, u_nc (by omega), u_nc (by omega), eT (80 + 2 * l) (by omega) (by omega)]
    have tk58 : ∀ u, tkH A t st (58 + 4 * t) u = if u = t then nI (st + 1) else A (58 + 4 * t) u := fun u => by
      rw [tkH]
      by_cases h : u = t
      · rw [if_pos h, h]; exact u_eq
      · rw [if_neg h, u_ni h, u_nc (by omega)]
    refine ck_new hn s4 ik.edg (ik.lat t htT) (ik.fre (by omega) l hl4) (ik.own t htT) ?_ (fun u hu hut => ?_)
    · obtain ⟨c, c1, c2, -⟩ := ik.ckl (by omega) l hl4 t (by omega)
      rw [r58 t (by omega), tk58, if_pos rfl, c2, if_neg (nI_nlt (by omega) (by omega))]
    · obtain ⟨c, c1, c2, c3⟩ := ik.ckl (by omega) l hl4 u hu
      obtain ⟨e, e1, e2, e3⟩ := ik.ckt t htT u hu
      rw [r58 u hu, tk58, if_neg hut, c2, e2]
      by_cases h : e < c
      · rw [if_pos (nI_lt h (by omega))]
        exact ⟨c, c1, rfl, fun q hq hth => by rw [e3 q hq hth, c3 q hq hth]; omega⟩
      · rw [if_neg (nI_nlt (by omega) (by omega))]
        exact ⟨e, e1, rfl, fun q hq hth => by rw [e3 q hq hth, c3 q hq hth]; omega⟩
  · funext b
    rw [u_nc (by omega), u_nc (by omega), mxr, if_neg (by omega), mvH, u_nc (by omega), eT _ (by omega) (by omega)]
  · obtain ⟨w1, w2, w3, w4⟩ := st_top it htT hD hC
    show pm_u _ _ _ _ 120 l = _
    rw [u_nc (by omega), u_nc (by omega), u_nc (by omega), w4 120 (by omega) (by omega)]
  · rw [bk_st_op (by rw [hk]; rfl), cs]
    by_cases h : x = l
    · rw [if_pos h, h, if_pos ⟨hk, hnm⟩]; omega
    · rw [if_neg h, if_neg (fun g => h ((nI_eq (by omega) (by omega)).mp (g.2.symm.trans hnm))), Nat.add_zero]
end SYNC0
