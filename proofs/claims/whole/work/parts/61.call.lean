section CALL
variable {d : Nat} {SL : Nat} {S : Nat → Nat × Nat} {A : Nat → Nat → Int32} {P : Nat → Nat → Option Nat}
variable {n : Nat} {SZ bq : Nat → Nat} {T st rc : Nat} {D TM TH : Nat → Nat} {FB FP : Nat → Nat → Nat}
/-- a CALL that enters body c -/
theorem s_call1 {t n0 c : Nat} (k : KK S P) (is : IS n SZ bq A P) (it : IT n SZ T st D FB FP A) (il : IL T D FB FP TM A) (ik : IK T st TH A) (ia : IA st rc TH A) (htT : t < T) (hD : D t = n0 + 1) (s4 : st < 4000) (hk : KS A (FB t n0) (FP t n0) = 10) (hc : c < n) (hnm : NS A (FB t n0) (FP t n0) = nI c) (hn7 : n0 < 7) : OP d M_Lo_step M_Mo_step [.int (nI t)] SL S A P := by
  have T6 := it.T6
  have n8 := is.n8
  obtain ⟨d8, dc, dm⟩ := it.dep t htT
  obtain ⟨tp, tk, tk3, hb, hp, z64⟩ := tk_top k is it htT hD
  obtain ⟨t1, t2⟩ := tk _ hp
  have hw : wt_ (KS A (FB t n0) (FP t n0)) (A 118 (tl_ A D FB FP t)) (nI t) = 0 := by rw [hk]; rfl
  have hval := it.val t htT
  have sto : ∀ C a, a < 124 ∨ 128 < a → stH C t n0 st (FP t n0) (A 125 t) a = C a := fun C a ha => by
    funext b
    rw [stH, u_nc (by omega), u_nc (by omega), u_nc (by omega), u_nc (by omega), u_nc (by omega)]
  refine step_local (n1 := n0 + 2) (fb := fun j => if j = n0 + 1 then c else FB t j) (fp := fun j => if j = n0 + 1 then 0 else if j = n0 then FP t n0 + 1 else FP t j) (v := A 121 t) (X := pm_u (pm_u (pm_u (mvH (tkH A t st) t n0 (FP t n0)) (56 + 4 * t) (n0 + 1) (nI c)) (57 + 4 * t) (n0 + 1) 0) (55 + 4 * t) 4 (nI (n0 + 2))) (Y := fun C => pm_u (pm_u (pm_u (stH C t n0 st (FP t n0) (A 125 t)) 123 (8 * t + (n0 + 1)) (nI c)) 124 (8 * t + (n0 + 1)) 0) 122 t (nI (n0 + 2))) k is it il ik ia htT hD s4 hw (pm_E.ups (pm_E.weaken (p_call (d := d) (c := c) (nb := n) k.1 (by omega) tp (by rw [t1]; exact hk) (by rw [t2]; exact hnm) (by omega) (by rw [tkH, u_nc (by omega), u_nc (by omega)]; exact is.cn) n8) (fun r hr => ?_)) (by omega)) (fun a h1 h2 h3 => ?_) ?_ ?_ u_eq (fun j hj => ?_) (by omega) (fun j hj => ?_) (fun C hC => ?_) (fun C hC a ha => ?_) (fun C hC => ?_) (fun C hC u hu hut => ?_) (fun l hl => ?_)
  · rcases hr with ⟨g, -⟩ | ⟨-, -, hr⟩
    · omega
    · exact hr
  · funext b
    rw [u_nc h1, u_nc h3, u_nc h2, mvH, u_nc h3]
  · rw [u_ni (by omega), u_nc (by omega), u_nc (by omega), mvH, u_nc (by omega), tkH, u_nc (by omega), u_nc (by omega)]
  · rw [u_ni (by omega), u_nc (by omega), u_nc (by omega), mvH, u_nc (by omega), tkH, u_nc (by omega), u_nc (by omega)]; exact hval
  · show _ = nI (if j = n0 + 1 then c else FB t j) ∧ _ = nI (if j = n0 + 1 then 0 else if j = n0 then FP t n0 + 1 else FP t j)
    by_cases h1 : j = n0 + 1
    · rw [if_pos h1, if_pos h1, h1]
      refine ⟨by rw [u_nc (by omega), u_nc (by omega)]; exact u_eq, by rw [u_nc (by omega)]; exact u_eq⟩
    · obtain ⟨f1, f2, f3, f4, f5, f6⟩ := it.frm t htT j (by omega)
      rw [if_neg h1, if_neg h1]
      refine ⟨by rw [u_nc (by omega), u_nc (by omega), u_ni h1, mvH, u_nc (by omega), tkH, u_nc (by omega), u_nc (by omega)]; exact f3, ?_⟩
      rw [u_nc (by omega), u_ni h1, u_nc (by omega), mvH]
      by_cases h2 : j = n0
      · rw [if_pos h2, h2]; exact u_eq
      · rw [if_neg h2, u_ni h2, tkH, u_nc (by omega), u_nc (by omega)]; exact f5
  · show (if j = n0 + 1 then c else FB t j) < n ∧ (if j = n0 + 1 then 0 else if j = n0 then FP t n0 + 1 else FP t j) ≤ SZ (if j = n0 + 1 then c else FB t j)
    by_cases h1 : j = n0 + 1
    · rw [if_pos h1, if_pos h1]; exact ⟨hc, Nat.zero_le _⟩
    · obtain ⟨f1, f2, -⟩ := it.frm t htT j (by omega)
      rw [if_neg h1, if_neg h1]
      refine ⟨f1, ?_⟩
      by_cases h2 : j = n0
      · rw [if_pos h2, h2]; omega
      · rw [if_neg h2]; exact f2
  · obtain ⟨w1, w2, w3, w4⟩ := st_top it htT hD hC
    refine pm_E.ups (pm_E.weaken (d_call (d := d) (n := n0) (c := c) (nb := n) k.2.1 (by omega) w1 (by omega) (by omega) (by omega) (by rw [w2]; exact hk) (by rw [w3]; exact hnm) (by omega) (by rw [w4 111 (by omega) (by omega)]; exact is.mn) n8) (fun r hr => ?_)) (by omega)
    rcases hr with ⟨g, -⟩ | ⟨-, -, hr⟩
    · omega
    · exact hr
  · funext b
    show pm_u _ _ _ _ a b = _
    rw [u_nc (by omega), u_nc (by omega), u_nc (by omega)]
  · refine ⟨?_, u_eq, fun j hj => ?_⟩
    · show pm_u _ _ _ _ 121 t = _
      rw [u_nc (by omega), u_nc (by omega), u_nc (by omega), sto C 121 (by omega), hC 121 (by omega)]
    · show pm_u _ _ _ _ 123 (8 * t + j) = nI (if j = n0 + 1 then c else FB t j) ∧ pm_u _ _ _ _ 124 (8 * t + j) = nI (if j = n0 + 1 then 0 else if j = n0 then FP t n0 + 1 else FP t j)
      by_cases h1 : j = n0 + 1
      · rw [if_pos h1, if_pos h1, h1]
        refine ⟨by rw [u_nc (by omega), u_nc (by omega)]; exact u_eq, by rw [u_nc (by omega)]; exact u_eq⟩
      · obtain ⟨f1, f2, f3, f4, f5, f6⟩ := it.frm t htT j (by omega)
        rw [if_neg h1, if_neg h1]
        refine ⟨by rw [u_nc (by omega), u_nc (by omega), u_ni (by omega), sto C 123 (by omega), hC 123 (by omega)]; exact f4, ?_⟩
        rw [u_nc (by omega), u_ni (by omega), u_nc (by omega), stH]
        by_cases h2 : j = n0
        · rw [if_pos h2, h2]; exact u_eq
        · rw [if_neg h2, u_ni (by omega), u_nc (by omega), u_nc (by omega), u_nc (by omega), u_nc (by omega), hC 124 (by omega)]; exact f6
  · refine ⟨?_, ?_, fun j hj => ⟨?_, ?_⟩⟩
    · show pm_u _ _ _ _ 121 u = _
      rw [u_nc (by omega), u_nc (by omega), u_nc (by omega), sto C 121 (by omega), hC 121 (by omega)]
    · show pm_u _ _ _ _ 122 u = _
      rw [u_ni hut, u_nc (by omega), u_nc (by omega), sto C 122 (by omega), hC 122 (by omega)]
    · show pm_u _ _ _ _ 123 (8 * u + j) = _
      rw [u_nc (by omega), u_nc (by omega), u_ni (by omega), sto C 123 (by omega), hC 123 (by omega)]
    · show pm_u _ _ _ _ 124 (8 * u + j) = _
      rw [u_nc (by omega), u_ni (by omega), u_nc (by omega), stH, u_ni (by omega), u_nc (by omega), u_nc (by omega), u_nc (by omega), u_nc (by omega), hC 124 (by omega)]
  · rw [hD]
    unfold ct
    rw [sm, sm, sm]
    have a1 : sm (fun j => cs (KS A (if j = n0 + 1 then c else FB t j)) (NS A (if j = n0 + 1 then c else FB t j)) l (bk_st (KS A (if j = n0 + 1 then c else FB t j)) (if j = n0 + 1 then 0 else if j = n0 then FP t n0 + 1 else FP t j))) n0 = sm (fun j => cs (KS A (FB t j)) (NS A (FB t j)) l (bk_st (KS A (FB t j)) (FP t j))) n0 := sm_cg n0 (fun j hj => by
      show cs (KS A (if j = n0 + 1 then c else FB t j)) (NS A (if j = n0 + 1 then c else FB t j)) l (bk_st (KS A (if j = n0 + 1 then c else FB t j)) (if j = n0 + 1 then 0 else if j = n0 then FP t n0 + 1 else FP t j)) = _
      rw [if_neg (by omega), if_neg (by omega), if_neg (by omega)])
    rw [a1]
    have b1 : n0 ≠ n0 + 1 := by omega
    have b2 := cs_no (ns := NS A (FB t n0)) (l := l) (ks := KS A (FB t n0)) (p := FP t n0) (by rw [hk]; rfl) (by rw [hk]; decide)
    simp only [if_neg b1, if_true]
    rw [b2]
    rfl
end CALL
