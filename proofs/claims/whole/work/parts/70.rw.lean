section RDWR
variable {d : Nat} {SL : Nat} {S : Nat → Nat × Nat} {A : Nat → Nat → Int32} {P : Nat → Nat → Option Nat}
variable {n : Nat} {SZ bq : Nat → Nat} {T st rc : Nat} {D TM TH : Nat → Nat} {FB FP : Nat → Nat → Nat}
theorem s_read {t n0 c : Nat} (k : KK S P) (is : IS n SZ bq A P) (it : IT n SZ T st D FB FP A) (il : IL T D FB FP TM A) (ik : IK T st TH A) (ia : IA st rc TH A) (htT : t < T) (hD : D t = n0 + 1) (s4 : st < 4000) (hk : KS A (FB t n0) (FP t n0) = 0) (hc : c < 8) (hnm : NS A (FB t n0) (FP t n0) = nI c) : OP d M_Lo_step M_Mo_step [.int (nI t)] SL S A P := by
  have T6 := it.T6
  have n8 := is.n8
  have rcs := ia.rcs
  obtain ⟨tp, tk, -, hb, hp, z64⟩ := tk_top k is it htT hD
  obtain ⟨t1, t2⟩ := tk _ hp
  have eT : ∀ a, a ≠ 49 → a ≠ 58 + 4 * t → tkH A t st a = A a := fun a h1 h2 => by
    funext b
    rw [tkH, u_nc h2, u_nc h1]
  refine step_acc (c := c) (w := 0) (v := A 117 c) (x := A 117 c) k is it il ik ia htT hD s4 hc (by omega) hk (pm_E.ups (pm_E.weaken (p_read (d := d) (c := c) (rc := rc) (st := st) k.1 (by omega) tp (by rw [t1]; exact hk) (by rw [t2]; exact hnm) hc (by rw [tkH, u_nc (by omega)]; exact u_eq) (by rw [eT _ (by omega) (by omega)]; exact it.num t (by omega)) (by rw [eT _ (by omega) (by omega)]; exact ia.crc) (by omega)) (fun r hr => ?_)) (by omega)) (fun C hC he ha => ?_)
  · obtain ⟨A', ⟨A1, h1, h2⟩, hr⟩ := hr
    refine ⟨A', ⟨A1, h1, ?_⟩, hr⟩
    have ev : tkH A t st (87 + 3 * c) 2 = A 117 c := by rw [eT _ (by omega) (by omega)]; exact it.cel c hc
    rw [h2, ev]
    refine ⟨fun a g1 g2 g3 => ?_, fun u => ?_, fun j hj => ?_, u_eq, ?_⟩
    · funext b
      rw [u_nc g2, u_nc (by omega)]
    · rw [u_nc (by omega)]
      by_cases h : u = t
      · rw [if_pos h, h]; exact u_eq
      · rw [if_neg h, u_ni h]
    · rw [u_ni hj, u_nc (by omega)]
    · rw [u_nc (by omega), u_nc (by omega), nrH_o h1 (by omega) (by omega), mvH, u_nc (by omega)]; exact ev
  · obtain ⟨w1, w2, w3, w4⟩ := st_top (st := st) it htT hD hC
    refine pm_E.ups (pm_E.weaken (d_read (d := d) (n := n0) (c := c) (st := st) (rc := rc) k.2.1 (by omega) w1 (by omega) (by omega) (by rw [w2]; exact hk) (by rw [w3]; exact hnm) hc (by rw [w4 111 (by omega) (by omega)]; exact it.mst) s4 he ha (by rw [w4 111 (by omega) (by omega)]; exact ia.mrc) (by omega)) (fun r hr => ?_)) (by omega)
    obtain ⟨A', ⟨B, A1, h1, h2⟩, hr⟩ := hr
    refine ⟨A', ⟨B, A1, h1, ?_⟩, hr⟩
    obtain ⟨o1, o2, o3⟩ := mtH_o h1
    have ev : A1 117 c = A 117 c := by rw [o1 117 (by omega) (by omega) (by omega) (by omega), w4 117 (by omega) (by omega)]
    rw [h2, ev]
    refine ⟨fun a g1 g2 => ?_, fun u => ?_, fun e => ?_⟩
    · funext b
      rw [u_nc g1]
    · by_cases h : u = t
      · rw [if_pos h, h]; exact u_eq
      · rw [if_neg h, u_ni h]
    · rw [u_nc (by omega)]
      by_cases h : e = c
      · rw [if_pos h, h]; exact ev
      · rw [if_neg h]
theorem s_write {t n0 c : Nat} (k : KK S P) (is : IS n SZ bq A P) (it : IT n SZ T st D FB FP A) (il : IL T D FB FP TM A) (ik : IK T st TH A) (ia : IA st rc TH A) (htT : t < T) (hD : D t = n0 + 1) (s4 : st < 4000) (hk : KS A (FB t n0) (FP t n0) = 1) (hc : c < 8) (hnm : NS A (FB t n0) (FP t n0) = nI c) : OP d M_Lo_step M_Mo_step [.int (nI t)] SL S A P := by
  have T6 := it.T6
  have n8 := is.n8
  have rcs := ia.rcs
  obtain ⟨tp, tk, -, hb, hp, z64⟩ := tk_top k is it htT hD
  obtain ⟨t1, t2⟩ := tk _ hp
  have eT : ∀ a, a ≠ 49 → a ≠ 58 + 4 * t → tkH A t st a = A a := fun a h1 h2 => by
    funext b
    rw [tkH, u_nc h2, u_nc h1]
  refine step_acc (c := c) (w := 1) (v := A 121 t) (x := A 121 t) k is it il ik ia htT hD s4 hc (by omega) hk (pm_E.ups (pm_E.weaken (p_write (d := d) (c := c) (rc := rc) (st := st) k.1 (by omega) tp (by rw [t1]; exact hk) (by rw [t2]; exact hnm) hc (by rw [tkH, u_nc (by omega)]; exact u_eq) (by rw [eT _ (by omega) (by omega)]; exact it.num t (by omega)) (by rw [eT _ (by omega) (by omega)]; exact ia.crc) (by omega)) (fun r hr => ?_)) (by omega)) (fun C hC he ha => ?_)
  · obtain ⟨A', ⟨A1, h1, h2⟩, hr⟩ := hr
    refine ⟨A', ⟨A1, h1, ?_⟩, hr⟩
    have ev : tkH A t st (55 + 4 * t) 5 = A 121 t := by rw [eT _ (by omega) (by omega)]; exact it.val t htT
    rw [h2, ev]
    refine ⟨fun a g1 g2 g3 => ?_, fun u => ?_, fun j hj => ?_, ?_, u_eq⟩
    · funext b
      rw [u_nc g3, u_nc (by omega)]
    · rw [show 88 + 3 * c + 1 = 89 + 3 * c by omega, u_nc (by omega)]
      by_cases h : u = t
      · rw [if_pos h, h]; exact u_eq
      · rw [if_neg h, u_ni h]
    · rw [u_nc (by omega), u_nc (by omega)]
    · rw [u_nc (by omega), u_nc (by omega), nrH_o h1 (by omega) (by omega), mvH, u_nc (by omega)]; exact ev
  · obtain ⟨w1, w2, w3, w4⟩ := st_top (st := st) it htT hD hC
    refine pm_E.ups (pm_E.weaken (d_write (d := d) (n := n0) (c := c) (st := st) (rc := rc) k.2.1 (by omega) w1 (by omega) (by omega) (by rw [w2]; exact hk) (by rw [w3]; exact hnm) hc (by rw [w4 111 (by omega) (by omega)]; exact it.mst) s4 he ha (by rw [w4 111 (by omega) (by omega)]; exact ia.mrc) (by omega)) (fun r hr => ?_)) (by omega)
    obtain ⟨A', ⟨B, A1, h1, h2⟩, hr⟩ := hr
    refine ⟨A', ⟨B, A1, h1, ?_⟩, hr⟩
    obtain ⟨o1, o2, o3⟩ := mtH_o h1
    have ev : A1 121 t = A 121 t := by rw [o1 121 (by omega) (by omega) (by omega) (by omega), w4 121 (by omega) (by omega)]
    rw [h2, ev]
    refine ⟨fun a g1 g2 => ?_, fun u => ?_, fun e => ?_⟩
    · funext b
      rw [u_nc g2]
    · rw [u_nc (by omega)]
      by_cases h : u = t
      · rw [if_pos h, h]; exact ev
      · rw [if_neg h]
    · by_cases h : e = c
      · rw [if_pos h, h]; exact u_eq
      · rw [if_neg h, u_ni h]
end RDWR
