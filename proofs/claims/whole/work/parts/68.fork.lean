section FORK
variable {d : Nat} {SL : Nat} {S : Nat → Nat × Nat} {A : Nat → Nat → Int32} {P : Nat → Nat → Option Nat}
variable {n : Nat} {SZ bq : Nat → Nat} {T st rc : Nat} {D TM TH : Nat → Nat} {FB FP : Nat → Nat → Nat}
theorem fkH_o {t b sz a : Nat} (h1 : a ≠ 49) (h2 : a ≠ 55 + 4 * T) (h3 : a ≠ 56 + 4 * T) (h4 : a ≠ 57 + 4 * T) (h5 : a ≠ 58 + 4 * T) : fkH A t T b sz a = A a := by
  funext j
  rw [fkH, u_nc h2, u_nc h2, u_nc h4, u_nc h3, u_nc h2, u_nc h2, cp6, if_neg (fun g => h5 g.1), u_nc h1]
/-- a FORK that begins thread T in body c -/
theorem s_fork1 {t n0 c : Nat} (k : KK S P) (is : IS n SZ bq A P) (it : IT n SZ T st D FB FP A) (il : IL T D FB FP TM A) (ik : IK T st TH A) (ia : IA st rc TH A) (htT : t < T) (hD : D t = n0 + 1) (s4 : st < 4000) (hk : KS A (FB t n0) (FP t n0) = 9) (hc : c < n) (hnm : NS A (FB t n0) (FP t n0) = nI c) (hT5 : T < 6) : OP d M_Lo_step M_Mo_step [.int (nI t)] SL S A P := by
  have T6 := it.T6
  have n8 := is.n8
  obtain ⟨d8, dc, dm⟩ := it.dep t htT
  obtain ⟨tp, tk, tk3, hb, hp, z64⟩ := tk_top k is it htT hD
  obtain ⟨t1, t2⟩ := tk _ hp
  have hw : wt_ (KS A (FB t n0) (FP t n0)) (A 118 (tl_ A D FB FP t)) (nI t) = 0 := by rw [hk]; rfl
  have hval := it.val t htT
  have zc := is.s64 c (Or.inl hc)
  have qc := is.q45 (b := c) (by omega)
  have eT : ∀ a, a ≠ 49 → a ≠ 58 + 4 * t → tkH A t st a = A a := fun a h1 h2 => by
    funext b
    rw [tkH, u_nc h2, u_nc h1]
  have eM : ∀ a, a ≠ 57 + 4 * t → mvH (tkH A t st) t n0 (FP t n0) a = tkH A t st a := fun a h => by
    funext b
    rw [mvH, u_nc h]
  generalize hX : fkH (mvH (tkH A t st) t n0 (FP t n0)) t T c (SZ c) = X
  have X1 : ∀ a, a ≠ 49 → a ≠ 55 + 4 * T → a ≠ 56 + 4 * T → a ≠ 57 + 4 * T → a ≠ 58 + 4 * T → a ≠ 57 + 4 * t → a ≠ 58 + 4 * t → X a = A a := fun a h1 h2 h3 h4 h5 h6 h7 => by
    rw [← hX, fkH_o h1 h2 h3 h4 h5, eM a h6, eT a h1 h7]
  have hXo : ∀ a, 111 ≤ a → X a = A a := fun a ha => X1 a (by omega) (by omega) (by omega) (by omega) (by omega) (by omega) (by omega)
  have X57 : ∀ j, X (57 + 4 * t) j = if j = n0 then nI (FP t n0 + 1) else A (57 + 4 * t) j := fun j => by
    rw [← hX, fkH_o (by omega) (by omega) (by omega) (by omega) (by omega), mvH]
    by_cases h : j = n0
    · rw [if_pos h, h]; exact u_eq
    · rw [if_neg h, u_ni h, eT _ (by omega) (by omega)]
  have tk58 : ∀ u, mvH (tkH A t st) t n0 (FP t n0) (58 + 4 * t) u = if u = t then nI (st + 1) else A (58 + 4 * t) u := fun u => by
    rw [eM _ (by omega), tkH]
    by_cases h : u = t
    · rw [if_pos h, h]; exact u_eq
    · rw [if_neg h, u_ni h, u_nc (by omega)]
  have X58 : ∀ u, X (58 + 4 * t) u = if u = t then nI (st + 1) else A (58 + 4 * t) u := fun u => by
    rw [← hX, fkH_o (by omega) (by omega) (by omega) (by omega) (by omega)]; exact tk58 u
  have X58T : ∀ u, u < 6 → X (58 + 4 * T) u = if u = t then nI (st + 1) else A (58 + 4 * t) u := fun u hu => by
    rw [← hX, fkH, u_nc (by omega), u_nc (by omega), u_nc (by omega), u_nc (by omega), u_nc (by omega), u_nc (by omega), cp6, if_pos ⟨rfl, hu⟩, u_nc (by omega)]; exact tk58 u
  have X495 : X 49 5 = nI (T + 1) := by
    rw [← hX, fkH, u_nc (by omega), u_nc (by omega), u_nc (by omega), u_nc (by omega), u_nc (by omega), u_nc (by omega), cp6, if_neg (by omega)]; exact u_eq
  have X496 : X 49 6 = nI (st + 1) := by
    rw [← hX, fkH, u_nc (by omega), u_nc (by omega), u_nc (by omega), u_nc (by omega), u_nc (by omega), u_nc (by omega), cp6, if_neg (by omega), u_ni (by omega), eM _ (by omega), tkH, u_nc (by omega)]; exact u_eq
  have XT0 : X (55 + 4 * T) 0 = A (55 + 4 * T) 0 := by
    rw [← hX, fkH, u_ni (by omega), u_ni (by omega), u_nc (by omega), u_nc (by omega), u_ni (by omega), u_ni (by omega), cp6, if_neg (by omega), u_nc (by omega), eM _ (by omega), eT _ (by omega) (by omega)]
  have XT5 : X (55 + 4 * T) 5 = A 121 t := by
    rw [← hX, fkH, u_ni (by omega), u_ni (by omega), u_nc (by omega), u_nc (by omega), u_ni (by omega), u_eq, eM _ (by omega), eT _ (by omega) (by omega)]; exact hval
  have XT4 : X (55 + 4 * T) 4 = nI (if SZ c = 0 then 0 else 1) := by rw [← hX, fkH]; exact u_eq
  have XT6 : X (56 + 4 * T) 0 = nI c := by rw [← hX, fkH, u_nc (by omega), u_nc (by omega), u_nc (by omega)]; exact u_eq
  have XT7 : X (57 + 4 * T) 0 = 0 := by rw [← hX, fkH, u_nc (by omega), u_nc (by omega)]; exact u_eq
  have f7 := it.top t htT n0 hD
  have hfr : ∀ j, j < n0 + 1 → FB t j < n ∧ (if j = n0 then FP t n0 + 1 else FP t j) ≤ SZ (FB t j) := fun j hj => by
    obtain ⟨f1, f2, -⟩ := it.frm t htT j (by omega)
    refine ⟨f1, ?_⟩
    by_cases h : j = n0
    · rw [if_pos h, h]; omega
    · rw [if_neg h]; exact f2
  generalize hD1 : lvn (fun j => decide (SZ (FB t j) ≤ (if j = n0 then FP t n0 + 1 else FP t j))) (n0 + 1) = D1
  obtain ⟨L1, L2, L3⟩ := lvn_le (f := fun j => decide (SZ (FB t j) ≤ (if j = n0 then FP t n0 + 1 else FP t j))) (n0 + 1)
  rw [hD1] at L1 L2 L3
  have hCo : ∀ a, 111 ≤ a → pm_u X (55 + 4 * t) 4 (nI D1) a = A a := fun a ha => by
    funext b
    rw [u_nc (by omega), hXo a ha]
  have sto : ∀ C a, a < 124 ∨ 128 < a → stH C t n0 st (FP t n0) (A 125 t) a = C a := fun C a ha => by
    funext b
    rw [stH, u_nc (by omega), u_nc (by omega), u_nc (by omega), u_nc (by omega), u_nc (by omega)]
  have st124 : ∀ C, (∀ a, 111 ≤ a → C a = A a) → ∀ x, stH C t n0 st (FP t n0) (A 125 t) 124 x = if x = 8 * t + n0 then nI (FP t n0 + 1) else A 124 x := fun C hC x => by
    rw [stH]
    by_cases h : x = 8 * t + n0
    · rw [if_pos h, h]; exact u_eq
    · rw [if_neg h, u_ni h, u_nc (by omega), u_nc (by omega), u_nc (by omega), u_nc (by omega), hC 124 (by omega)]
  generalize hC : pm_u X (55 + 4 * t) 4 (nI D1) = C at hCo
  obtain ⟨w1, w2, w3, w4⟩ := st_top (st := st) it htT hD hCo
  have s124 := st124 C hCo
  generalize hZ : bgH (stH C t n0 st (FP t n0) (A 125 t)) T c (SZ c) (A 121 t) (nI st) = Z
  have zo : ∀ a, (a < 121 ∨ 125 < a) → a ≠ 111 → Z a = stH C t n0 st (FP t n0) (A 125 t) a := fun a h1 h2 => by rw [← hZ, bgH_o h1 h2]
  have z111 : ∀ j, j ≠ 11 → Z 111 j = A 111 j := fun j hj => by
    rw [← hZ, bgH, u_ni hj, u_nc (by omega), u_nc (by omega), u_nc (by omega), u_nc (by omega), u_nc (by omega), u_nc (by omega), u_nc (by omega), sto C 111 (by omega), hCo 111 (by omega)]
  have z11 : Z 111 11 = nI (T + 1) := by rw [← hZ, bgH]; exact u_eq
  have z121 : ∀ u, Z 121 u = if u = T then A 121 t else A 121 u := fun u => by
    rw [← hZ, bgH, u_nc (by omega), u_nc (by omega), u_nc (by omega), u_nc (by omega), u_nc (by omega), u_nc (by omega), u_nc (by omega)]
    by_cases h : u = T
    · rw [if_pos h, h]; exact u_eq
    · rw [if_neg h, u_ni h, sto C 121 (by omega), hCo 121 (by omega)]
  have z122 : ∀ u, Z 122 u = if u = T then nI (if SZ c = 0 then 0 else 1) else A 122 u := fun u => by
    rw [← hZ, bgH, u_nc (by omega)]
    by_cases h : u = T
    · rw [if_pos h, h, u_eq]
      congr 1
      by_cases z : SZ c = 0
      · rw [if_pos z, if_pos z.symm]
      · rw [if_neg z, if_neg (fun g => z g.symm)]
    · rw [if_neg h, u_ni h, u_ni h, u_nc (by omega), u_nc (by omega), u_nc (by omega), u_ni h, u_nc (by omega), sto C 122 (by omega), hCo 122 (by omega)]
  have z123 : ∀ x, Z 123 x = if x = 8 * T then nI c else A 123 x := fun x => by
    rw [← hZ, bgH, u_nc (by omega), u_nc (by omega), u_nc (by omega), u_nc (by omega)]
    by_cases h : x = 8 * T
    · rw [if_pos h, h]; exact u_eq
    · rw [if_neg h, u_ni h, u_nc (by omega), u_nc (by omega), u_nc (by omega), sto C 123 (by omega), hCo 123 (by omega)]
  have z124 : ∀ x, Z 124 x = if x = 8 * T then 0 else if x = 8 * t + n0 then nI (FP t n0 + 1) else A 124 x := fun x => by
    rw [← hZ, bgH, u_nc (by omega), u_nc (by omega), u_nc (by omega)]
    by_cases h : x = 8 * T
    · rw [if_pos h, h]; exact u_eq
    · rw [if_neg h, u_ni h, u_nc (by omega), u_nc (by omega), u_nc (by omega), u_nc (by omega)]; exact s124 x
  have z125 : ∀ u, Z 125 u = if u = T ∨ u = t then nI st else A 125 u := fun u => by
    rw [← hZ, bgH, u_nc (by omega), u_nc (by omega), u_nc (by omega), u_nc (by omega), u_nc (by omega)]
    by_cases h : u = T
    · rw [if_pos (Or.inl h), h]; exact u_eq
    · rw [u_ni h, u_nc (by omega), u_nc (by omega), stH, u_nc (by omega)]
      by_cases h2 : u = t
      · rw [if_pos (Or.inr h2), h2]; exact u_eq
      · rw [if_neg (fun g => g.elim h h2), u_ni h2, u_nc (by omega), u_nc (by omega), u_nc (by omega), hCo 125 (by omega)]
  refine step_gen (n1 := n0 + 1) (fb := FB t) (fp := fun j => if j = n0 then FP t n0 + 1 else FP t j) (RC := fun A' => A' = X) (RD := fun A' A'' => A'' = Z) k is it il htT hD s4 hw (pm_E.ups (pm_E.weaken (p_fork (d := d) (c := c) (T := T) (nb := n) (q' := bq c) (sz := SZ c) k.1 (by omega) tp (by rw [t1]; exact hk) (by rw [t2]; exact hnm) (by omega) (by rw [eT 1 (by omega) (by omega)]; exact is.cn) n8 (by rw [tkH, u_nc (by omega), u_ni (by omega)]; exact it.cT) T6 htT (fun _ => ⟨is.pbs c (by omega), k.bq is (by omega), by rw [eT _ (by omega) (by omega)]; exact is.csz c (Or.inl hc), by omega, by omega⟩)) (fun r hr => ?_)) (by omega)) (fun A' hA' => ?_) (by omega) hfr (fun A' hA' => ?_) (fun A' A'' hA' hA'' => ?_) (fun A' A'' hA' hA'' => ?_)
  · rcases hr with ⟨g, -⟩ | ⟨-, -, hr⟩
    · omega
    · exact ⟨X, rfl, by rw [hr, hX]⟩
  · subst hA'
    refine ⟨by rw [X1 _ (by omega) (by omega) (by omega) (by omega) (by omega) (by omega) (by omega), dc, hD], fun j hj => ?_, fun a ha => X1 a (by omega) (by omega) (by omega) (by omega) (by omega) (by omega) (by omega), hXo⟩
    obtain ⟨f1, f2, f3, f4, f5, f6⟩ := it.frm t htT j (by omega)
    refine ⟨by rw [X1 _ (by omega) (by omega) (by omega) (by omega) (by omega) (by omega) (by omega)]; exact f3, ?_⟩
    rw [X57]
    show _ = nI (if j = n0 then FP t n0 + 1 else FP t j)
    by_cases h : j = n0
    · rw [if_pos h, if_pos h]
    · rw [if_neg h, if_neg h]; exact f5
  · subst hA'
    rw [hD1, hC]
    refine pm_E.ups (pm_E.weaken (d_fork (d := d) (n := n0) (c := c) (nb := n) (T := T) (sz := SZ c) (st := st) k.2.1 (by omega) w1 (by omega) (by omega) (by rw [w2]; exact hk) (by rw [w3]; exact hnm) (by omega) (by rw [w4 111 (by omega) (by omega)]; exact is.mn) n8 (by rw [w4 111 (by omega) (by omega)]; exact it.mT) T6 (fun _ => ⟨by rw [w4 114 (by omega) (by omega)]; exact is.msz c (Or.inl hc), by omega⟩) (by rw [w4 111 (by omega) (by omega)]; exact it.mst)) (fun r hr => ?_)) (by omega)
    rcases hr with ⟨g, -⟩ | ⟨-, -, hr⟩
    · omega
    · exact ⟨Z, rfl, by rw [hr, w4 121 (by omega) (by omega), hZ]⟩
  · subst hA' hA''
    refine ⟨by rw [z111 17 (by omega)]; exact it.mst, by rw [z122, if_neg (by omega), dm, hD], fun j hj => ?_, by rw [zo 114 (by omega) (by omega), sto C 114 (by omega), hCo 114 (by omega)]⟩
    obtain ⟨f1, f2, f3, f4, f5, f6⟩ := it.frm t htT j (by omega)
    refine ⟨by rw [z123, if_neg (by omega)]; exact f4, ?_⟩
    rw [z124, if_neg (by omega)]
    show _ = nI (if j = n0 then FP t n0 + 1 else FP t j)
    by_cases h : j = n0
    · rw [if_pos h, if_pos (by omega)]
    · rw [if_neg h, if_neg (by omega)]; exact f6
  · subst hA' hA''
    rw [hD1]
    sorry
end FORK
