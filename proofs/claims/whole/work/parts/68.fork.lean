section FORK
variable {d : Nat} {SL : Nat} {S : Nat → Nat × Nat} {A : Nat → Nat → Int32} {P : Nat → Nat → Option Nat}
variable {n : Nat} {SZ bq : Nat → Nat} {T st rc : Nat} {D TM TH : Nat → Nat} {FB FP : Nat → Nat → Nat}
theorem fkH_o {t b sz a : Nat} (h1 : a ≠ 49) (h2 : a ≠ 55 + 4 * T) (h3 : a ≠ 56 + 4 * T) (h4 : a ≠ 57 + 4 * T) (h5 : a ≠ 58 + 4 * T) : fkH A t T b sz a = A a := by
  funext j
  rw [fkH, u_nc h2, u_nc h2, u_nc h4, u_nc h3, u_nc h2, u_nc h2, cp6, if_neg (fun g => h5 g.1), u_nc h1]
/-- a FORK that begins thread T in body c -/
theorem s_fork1 {t n0 c : Nat} (k : KK S P) (is : IS n SZ bq A P) (it : IT n SZ T st D FB FP A) (il : IL T D FB FP TM A) (ik : IK T st TH A) (ia : IA st rc TH A) (htT : t < T) (hD : D t = n0 + 1) (s4 : st < 4000) (hk : KS A (FB t n0) (FP t n0) = 9) (hc : c < n) (hnm : NS A (FB t n0) (FP t n0) = nI c) (hT5 : T < 6) : OP d M_Lo_step M_Mo_step [.int (nI t)] SL S A P := by
  have T6 := it.T6
  have n8 := is.n8
  obtain ⟨d8, dc, dm⟩ := it.dep t htT
  obtain ⟨tp, tk, tk3, hb, hp, z64⟩ := tk_top k is it htT hD
  obtain ⟨t1, t2⟩ := tk _ hp
  have hw : wt_ (KS A (FB t n0) (FP t n0)) (A 118 (tl_ A D FB FP t)) (nI t) = 0 := by rw [hk]; rfl
  have hval := it.val t htT
  have zc := is.s64 c (Or.inl hc)
  have qc := is.q45 (b := c) (by omega)
  have eT : ∀ a, a ≠ 49 → a ≠ 58 + 4 * t → tkH A t st a = A a := fun a h1 h2 => by
    funext b
    rw [tkH, u_nc h2, u_nc h1]
  have eM : ∀ a, a ≠ 57 + 4 * t → mvH (tkH A t st) t n0 (FP t n0) a = tkH A t st a := fun a h => by
    funext b
    rw [mvH, u_nc h]
  generalize hX : fkH (mvH (tkH A t st) t n0 (FP t n0)) t T c (SZ c) = X
  have X1 : ∀ a, a ≠ 49 → a ≠ 55 + 4 * T → a ≠ 56 + 4 * T → a ≠ 57 + 4 * T → a ≠ 58 + 4 * T → a ≠ 57 + 4 * t → a ≠ 58 + 4 * t → X a = A a := fun a h1 h2 h3 h4 h5 h6 h7 => by
    rw [← hX, fkH_o h1 h2 h3 h4 h5, eM a h6, eT a h1 h7]
  have hXo : ∀ a, 111 ≤ a → X a = A a := fun a ha => X1 a (by omega) (by omega) (by omega) (by omega) (by omega) (by omega) (by omega)
  have X57 : ∀ j, X (57 + 4 * t) j = if j = n0 then nI (FP t n0 + 1) else A (57 + 4 * t) j := fun j => by
    rw [← hX, fkH_o (by omega) (by omega) (by omega) (by omega) (by omega), mvH]
    by_cases h : j = n0
    · rw [if_pos h, h]; exact u_eq
    · rw [if_neg h, u_ni h, eT _ (by omega) (by omega)]
  have tk58 : ∀ u, mvH (tkH A t st) t n0 (FP t n0) (58 + 4 * t) u = if u = t then nI (st + 1) else A (58 + 4 * t) u := fun u => by
    rw [eM _ (by omega), tkH]
    by_cases h : u = t
    · rw [if_pos h, h]; exact u_eq
    · rw [if_neg h, u_ni h, u_nc (by omega)]
  have X58 : ∀ u, X (58 + 4 * t) u = if u = t then nI (st + 1) else A (58 + 4 * t) u := fun u => by
    rw [← hX, fkH_o (by omega) (by omega) (by omega) (by omega) (by omega)]; exact tk58 u
  have X58T : ∀ u, u < 6 → X (58 + 4 * T) u = if u = t then nI (st + 1) else A (58 + 4 * t) u := fun u hu => by
    rw [← hX, fkH, u_nc (by omega), u_nc (by omega), u_nc (by omega), u_nc (by omega), u_nc (by omega), u_nc (by omega), cp6, if_pos ⟨rfl, hu⟩, u_nc (by omega)]; exact tk58 u
  have X495 : X 49 5 = nI (T + 1) := by
    rw [← hX, fkH, u_nc (by omega), u_nc (by omega), u_nc (by omega), u_nc (by omega), u_nc (by omega), u_nc (by omega), cp6, if_neg (by omega)]; exact u_eq
  have X496 : X 49 6 = nI (st + 1) := by
    rw [← hX, fkH, u_nc (by omega), u_nc (by omega), u_nc (by omega), u_nc (by omega), u_nc (by omega), u_nc (by omega), cp6, if_neg (by omega), u_ni (by omega), eM _ (by omega), tkH, u_nc (by omega)]; exact u_eq
  have XT0 : X (55 + 4 * T) 0 = A (55 + 4 * T) 0 := by
    rw [← hX, fkH, u_ni (by omega), u_ni (by omega), u_nc (by omega), u_nc (by omega), u_ni (by omega), u_ni (by omega), cp6, if_neg (by omega), u_nc (by omega), eM _ (by omega), eT _ (by omega) (by omega)]
  have XT5 : X (55 + 4 * T) 5 = A 121 t := by
    rw [← hX, fkH, u_ni (by omega), u_ni (by omega), u_nc (by omega), u_nc (by omega), u_ni (by omega), u_eq, eM _ (by omega), eT _ (by omega) (by omega)]; exact hval
  have XT4 : X (55 + 4 * T) 4 = nI (if SZ c = 0 then 0 else 1) := by rw [← hX, fkH]; exact u_eq
  have XT6 : X (56 + 4 * T) 0 = nI c := by rw [← hX, fkH, u_nc (by omega), u_nc (by omega), u_nc (by omega)]; exact u_eq
  have XT7 : X (57 + 4 * T) 0 = 0 := by rw [← hX, fkH, u_nc (by omega), u_nc (by omega)]; exact u_eq
  have f7 := it.top t htT n0 hD
  have hfr : ∀ j, j < n0 + 1 → FB t j < n ∧ (if j = n0 then FP t n0 + 1 else FP t j) ≤ SZ (FB t j) := fun j hj => by
    obtain ⟨f1, f2, -⟩ := it.frm t htT j (by omega)
    refine ⟨f1, ?_⟩
    by_cases h : j = n0
    · rw [if_pos h, h]; omega
    · rw [if_neg h]; exact f2
  generalize hD1 : lvn (fun j => decide (SZ (FB t j) ≤ (if j = n0 then FP t n0 + 1 else FP t j))) (n0 + 1) = D1
  obtain ⟨L1, L2, L3⟩ := lvn_le (f := fun j => decide (SZ (FB t j) ≤ (if j = n0 then FP t n0 + 1 else FP t j))) (n0 + 1)
  rw [hD1] at L1 L2 L3
  have hCo : ∀ a, 111 ≤ a → pm_u X (55 + 4 * t) 4 (nI D1) a = A a := fun a ha => by
    funext b
    rw [u_nc (by omega), hXo a ha]
  have sto : ∀ C a, a < 124 ∨ 128 < a → stH C t n0 st (FP t n0) (A 125 t) a = C a := fun C a ha => by
    funext b
    rw [stH, u_nc (by omega), u_nc (by omega), u_nc (by omega), u_nc (by omega), u_nc (by omega)]
  have st124 : ∀ C, (∀ a, 111 ≤ a → C a = A a) → ∀ x, stH C t n0 st (FP t n0) (A 125 t) 124 x = if x = 8 * t + n0 then nI (FP t n0 + 1) else A 124 x := fun C hC x => by
    rw [stH]
    by_cases h : x = 8 * t + n0
    · rw [if_pos h, h]; exact u_eq
    · rw [if_neg h, u_ni h, u_nc (by omega), u_nc (by omega), u_nc (by omega), u_nc (by omega), hC 124 (by omega)]
  generalize hC : pm_u X (55 + 4 * t) 4 (nI D1) = C at hCo
  obtain ⟨w1, w2, w3, w4⟩ := st_top (st := st) it htT hD hCo
  have s124 := st124 C hCo
  generalize hZ : bgH (stH C t n0 st (FP t n0) (A 125 t)) T c (SZ c) (A 121 t) (nI st) = Z
  have zo : ∀ a, (a < 121 ∨ 125 < a) → a ≠ 111 → Z a = stH C t n0 st (FP t n0) (A 125 t) a := fun a h1 h2 => by rw [← hZ, bgH_o h1 h2]
  have z111 : ∀ j, j ≠ 11 → Z 111 j = A 111 j := fun j hj => by
    rw [← hZ, bgH, u_ni hj, u_nc (by omega), u_nc (by omega), u_nc (by omega), u_nc (by omega), u_nc (by omega), u_nc (by omega), u_nc (by omega), sto C 111 (by omega), hCo 111 (by omega)]
  have z11 : Z 111 11 = nI (T + 1) := by rw [← hZ, bgH]; exact u_eq
  have z121 : ∀ u, Z 121 u = if u = T then A 121 t else A 121 u := fun u => by
    rw [← hZ, bgH, u_nc (by omega), u_nc (by omega), u_nc (by omega), u_nc (by omega), u_nc (by omega), u_nc (by omega), u_nc (by omega)]
    by_cases h : u = T
    · rw [if_pos h, h]; exact u_eq
    · rw [if_neg h, u_ni h, sto C 121 (by omega), hCo 121 (by omega)]
  have z122 : ∀ u, Z 122 u = if u = T then nI (if SZ c = 0 then 0 else 1) else A 122 u := fun u => by
    rw [← hZ, bgH, u_nc (by omega)]
    by_cases h : u = T
    · rw [if_pos h, h, u_eq]
      congr 1
      by_cases z : SZ c = 0
      · rw [if_pos z, if_pos z.symm]
      · rw [if_neg z, if_neg (fun g => z g.symm)]
    · rw [if_neg h, u_ni h, u_ni h, u_nc (by omega), u_nc (by omega), u_nc (by omega), u_ni h, u_nc (by omega), sto C 122 (by omega), hCo 122 (by omega)]
  have z123 : ∀ x, Z 123 x = if x = 8 * T then nI c else A 123 x := fun x => by
    rw [← hZ, bgH, u_nc (by omega), u_nc (by omega), u_nc (by omega), u_nc (by omega)]
    by_cases h : x = 8 * T
    · rw [if_pos h, h]; exact u_eq
    · rw [if_neg h, u_ni h, u_nc (by omega), u_nc (by omega), u_nc (by omega), sto C 123 (by omega), hCo 123 (by omega)]
  have z124 : ∀ x, Z 124 x = if x = 8 * T then 0 else if x = 8 * t + n0 then nI (FP t n0 + 1) else A 124 x := fun x => by
    rw [← hZ, bgH, u_nc (by omega), u_nc (by omega), u_nc (by omega)]
    by_cases h : x = 8 * T
    · rw [if_pos h, h]; exact u_eq
    · rw [if_neg h, u_ni h, u_nc (by omega), u_nc (by omega), u_nc (by omega), u_nc (by omega)]; exact s124 x
  have z125 : ∀ u, Z 125 u = if u = T ∨ u = t then nI st else A 125 u := fun u => by
    rw [← hZ, bgH, u_nc (by omega), u_nc (by omega), u_nc (by omega), u_nc (by omega), u_nc (by omega)]
    by_cases h : u = T
    · rw [if_pos (Or.inl h), h]; exact u_eq
    · rw [u_ni h, u_nc (by omega), u_nc (by omega), stH, u_nc (by omega)]
      by_cases h2 : u = t
      · rw [if_pos (Or.inr h2), h2]; exact u_eq
      · rw [if_neg (fun g => g.elim h h2), u_ni h2, u_nc (by omega), u_nc (by omega), u_nc (by omega), hCo 125 (by omega)]
  refine step_gen (n1 := n0 + 1) (fb := FB t) (fp := fun j => if j = n0 then FP t n0 + 1 else FP t j) (RC := fun A' => A' = X) (RD := fun A' A'' => A'' = Z) k is it il htT hD s4 hw (pm_E.ups (pm_E.weaken (p_fork (d := d) (c := c) (T := T) (nb := n) (q' := bq c) (sz := SZ c) k.1 (by omega) tp (by rw [t1]; exact hk) (by rw [t2]; exact hnm) (by omega) (by rw [eT 1 (by omega) (by omega)]; exact is.cn) n8 (by rw [tkH, u_nc (by omega), u_ni (by omega)]; exact it.cT) T6 htT (fun _ => ⟨is.pbs c (by omega), k.bq is (by omega), by rw [eT _ (by omega) (by omega)]; exact is.csz c (Or.inl hc), by omega, by omega⟩)) (fun r hr => ?_)) (by omega)) (fun A' hA' => ?_) (by omega) hfr (fun A' hA' => ?_) (fun A' A'' hA' hA'' => ?_) (fun A' A'' hA' hA'' => ?_)
  · rcases hr with ⟨g, -⟩ | ⟨-, -, hr⟩
    · omega
    · exact ⟨X, rfl, by rw [hr, hX]⟩
  · subst hA'
    refine ⟨by rw [X1 _ (by omega) (by omega) (by omega) (by omega) (by omega) (by omega) (by omega), dc, hD], fun j hj => ?_, fun a ha => X1 a (by omega) (by omega) (by omega) (by omega) (by omega) (by omega) (by omega), hXo⟩
    obtain ⟨f1, f2, f3, f4, f5, f6⟩ := it.frm t htT j (by omega)
    refine ⟨by rw [X1 _ (by omega) (by omega) (by omega) (by omega) (by omega) (by omega) (by omega)]; exact f3, ?_⟩
    rw [X57]
    show _ = nI (if j = n0 then FP t n0 + 1 else FP t j)
    by_cases h : j = n0
    · rw [if_pos h, if_pos h]
    · rw [if_neg h, if_neg h]; exact f5
  · subst hA'
    rw [hD1, hC]
    refine pm_E.ups (pm_E.weaken (d_fork (d := d) (n := n0) (c := c) (nb := n) (T := T) (sz := SZ c) (st := st) k.2.1 (by omega) w1 (by omega) (by omega) (by rw [w2]; exact hk) (by rw [w3]; exact hnm) (by omega) (by rw [w4 111 (by omega) (by omega)]; exact is.mn) n8 (by rw [w4 111 (by omega) (by omega)]; exact it.mT) T6 (fun _ => ⟨by rw [w4 114 (by omega) (by omega)]; exact is.msz c (Or.inl hc), by omega⟩) (by rw [w4 111 (by omega) (by omega)]; exact it.mst)) (fun r hr => ?_)) (by omega)
    rcases hr with ⟨g, -⟩ | ⟨-, -, hr⟩
    · omega
    · exact ⟨Z, rfl, by rw [hr, w4 121 (by omega) (by omega), hZ]⟩
  · subst hA' hA''
    refine ⟨by rw [z111 17 (by omega)]; exact it.mst, by rw [z122, if_neg (by omega), dm, hD], fun j hj => ?_, by rw [zo 114 (by omega) (by omega), sto C 114 (by omega), hCo 114 (by omega)]⟩
    obtain ⟨f1, f2, f3, f4, f5, f6⟩ := it.frm t htT j (by omega)
    refine ⟨by rw [z123, if_neg (by omega)]; exact f4, ?_⟩
    rw [z124, if_neg (by omega)]
    show _ = nI (if j = n0 then FP t n0 + 1 else FP t j)
    by_cases h : j = n0
    · rw [if_pos h, if_pos (by omega)]
    · rw [if_neg h, if_neg (by omega)]; exact f6
  · subst hA' hA''
    rw [hD1]
    generalize hA2 : pm_u (pm_u A'' 122 t (nI D1)) 111 17 (nI (st + 1)) = A2
    have z1 : ∀ a, a ≠ 111 → a ≠ 122 → A2 a = A'' a := fun a h1 h2 => by
      funext b
      rw [← hA2, u_nc h1, u_nc h2]
    have c1 : ∀ a, a < 111 → A2 a = C a := fun a ha => by rw [z1 a (by omega) (by omega), zo a (by omega) (by omega), sto C a (by omega)]
    have c2 : ∀ a, a < 111 → a ≠ 55 + 4 * t → A2 a = A' a := fun a ha h => by
      rw [c1 a ha, ← hC]
      funext b
      rw [u_nc h]
    have eo : ∀ a, a < 111 → a ≠ 49 → a ≠ 55 + 4 * T → a ≠ 56 + 4 * T → a ≠ 57 + 4 * T → a ≠ 58 + 4 * T → a ≠ 55 + 4 * t → a ≠ 57 + 4 * t → a ≠ 58 + 4 * t → A2 a = A a := fun a h1 h2 h3 h4 h5 h6 h7 h8 h9 => by
      rw [c2 a h1 h7, X1 a h2 h3 h4 h5 h6 h8 h9]
    have er : ∀ a, 112 ≤ a → (a < 121 ∨ 128 < a) → A2 a = A a := fun a h1 h2 => by
      rw [z1 a (by omega) (by omega), zo a (by omega) (by omega), sto C a (by omega), hCo a (by omega)]
    have e111 : ∀ j, j ≠ 17 → j ≠ 11 → A2 111 j = A 111 j := fun j hj hj2 => by
      rw [← hA2, u_ni hj, u_nc (by omega), z111 j hj2]
    have hn : nst A A2 st (A 125 t) (-1) := by
      constructor
      · intro k
        rw [z1 126 (by omega) (by omega), zo 126 (by omega) (by omega), stH, u_nc (by omega), u_nc (by omega), u_nc (by omega), u_nc (by omega)]
        by_cases hk : k = st
        · rw [if_pos hk, hk]; exact u_eq
        · rw [if_neg hk, u_ni hk, hCo 126 (by omega)]
      · intro k
        rw [z1 127 (by omega) (by omega), zo 127 (by omega) (by omega), stH, u_nc (by omega), u_nc (by omega), u_nc (by omega)]
        by_cases hk : k = st
        · rw [if_pos hk, hk]; exact u_eq
        · rw [if_neg hk, u_ni hk, u_nc (by omega), hCo 127 (by omega)]
    have h128 : ∀ k, A2 128 k = if k = st then -1 else A 128 k := fun k => by
      rw [z1 128 (by omega) (by omega), zo 128 (by omega) (by omega), stH, u_nc (by omega), u_nc (by omega)]
      by_cases hk : k = st
      · rw [if_pos hk, hk]; exact u_eq
      · rw [if_neg hk, u_ni hk, u_nc (by omega), u_nc (by omega), hCo 128 (by omega)]
    have h125 : ∀ u, A2 125 u = if u = T ∨ u = t then nI st else A 125 u := fun u => by
      rw [z1 125 (by omega) (by omega)]; exact z125 u
    have eK : KS A2 = KS A := KS_cg (er 112 (by omega) (by omega))
    have eN : NS A2 = NS A := NS_cg (er 113 (by omega) (by omega))
    have htT' : t ≠ T := by omega
    refine ⟨n, SZ, bq, T + 1, st + 1, rc, fun u => if u = t then D1 else if u = T then (if SZ c = 0 then 0 else 1) else D u, TM, thn TH st t, fun u => if u = T then (fun _ => c) else FB u, fun u => if u = t then (fun j => if j = n0 then FP t n0 + 1 else FP t j) else if u = T then (fun _ => 0) else FP u, is.cong (fun a ha => eo a (by omega) (by omega) (by omega) (by omega) (by omega) (by omega) (by omega) (by omega) (by omega)) (fun a h1 h2 => er a h1 (by omega)) (e111 4 (by omega) (by omega)), it.step (by omega) (by omega) (by omega) s4 ?_ ?_ (e111 6 (by omega) (by omega)) (fun u hu => ?_) ?_ ?_ (fun c hc => ?_) (fun u hu => ?_), ⟨fun z => absurd z (by omega), fun _ l hl => ?_⟩, ik.step s4 htT (by omega) hn (Or.inl rfl) (fun u hu hut => ⟨?_, ?_⟩) (fun u hu hut => ?_) (fun l hl => Or.inl ⟨?_, ?_⟩), ia.plain h128 (fun c hc w hw => ?_) ?_ ?_ (er 130 (by omega) (by omega)) (e111 22 (by omega) (by omega))⟩
    · rw [c2 49 (by omega) (by omega)]; exact X495
    · rw [← hA2, u_ni (by omega), u_nc (by omega)]; exact z11
    · by_cases hut : u = t
      · rw [hut, c1 _ (by omega), ← hC, u_ni (by omega), X1 _ (by omega) (by omega) (by omega) (by omega) (by omega) (by omega) (by omega)]
      · by_cases huT : u = T
        · rw [huT, c2 _ (by omega) (by omega)]; exact XT0
        · rw [eo _ (by omega) (by omega) (by omega) (by omega) (by omega) (by omega) (by omega) (by omega) (by omega)]
    · rw [c2 49 (by omega) (by omega)]; exact X496
    · rw [← hA2]; exact u_eq
    · rw [eo _ (by omega) (by omega) (by omega) (by omega) (by omega) (by omega) (by omega) (by omega) (by omega), er 117 (by omega) (by omega)]; exact it.cel c hc
    · by_cases hut : u = t
      · subst hut
        show ITt n SZ A2 u (if u = u then D1 else if u = T then (if SZ c = 0 then 0 else 1) else D u) (if u = T then (fun _ => c) else FB u) (if u = u then (fun j => if j = n0 then FP u n0 + 1 else FP u j) else if u = T then (fun _ => 0) else FP u)
        rw [if_pos rfl, if_pos rfl, if_neg htT']
        refine ⟨?_, by omega, ?_, ?_, fun j hj => ?_, fun j hj => ?_⟩
        · rw [c1 _ (by omega), ← hC, u_ni (by omega), X1 _ (by omega) (by omega) (by omega) (by omega) (by omega) (by omega) (by omega), z1 121 (by omega) (by omega), z121, if_neg htT']; exact hval
        · rw [c1 _ (by omega), ← hC]; exact u_eq
        · rw [← hA2, u_nc (by omega)]; exact u_eq
        · obtain ⟨f1, f2, f3, f4, f5, f6⟩ := it.frm u htT j (by omega)
          refine ⟨f1, (hfr j (by omega)).2, by rw [eo _ (by omega) (by omega) (by omega) (by omega) (by omega) (by omega) (by omega) (by omega) (by omega)]; exact f3, by rw [z1 123 (by omega) (by omega), z123, if_neg (by omega)]; exact f4, ?_, ?_⟩
          · rw [c2 _ (by omega) (by omega), X57]
            show _ = nI (if j = n0 then FP u n0 + 1 else FP u j)
            by_cases h : j = n0
            · rw [if_pos h, if_pos h]
            · rw [if_neg h, if_neg h]; exact f5
          · rw [z1 124 (by omega) (by omega), z124, if_neg (by omega)]
            show _ = nI (if j = n0 then FP u n0 + 1 else FP u j)
            by_cases h : j = n0
            · rw [if_pos h, if_pos (by omega)]
            · rw [if_neg h, if_neg (by omega)]; exact f6
        · have w2 := (hfr j (by omega)).2
          have := of_decide_eq_false (L2 j hj)
          show (if j = n0 then FP u n0 + 1 else FP u j) < SZ (FB u j)
          omega
      · by_cases huT : u = T
        · subst huT
          show ITt n SZ A2 u (if u = t then D1 else if u = u then (if SZ c = 0 then 0 else 1) else D u) (if u = u then (fun _ => c) else FB u) (if u = t then (fun j => if j = n0 then FP t n0 + 1 else FP t j) else if u = u then (fun _ => 0) else FP u)
          rw [if_neg hut, if_neg hut, if_pos rfl, if_pos rfl, if_pos rfl]
          have d1 : (if SZ c = 0 then 0 else 1) ≤ 1 := by
            by_cases z : SZ c = 0
            · rw [if_pos z]; omega
            · rw [if_neg z]; omega
          refine ⟨?_, by omega, ?_, ?_, fun j hj => ?_, fun j hj => ?_⟩
          · rw [c2 _ (by omega) (by omega), XT5, z1 121 (by omega) (by omega), z121, if_pos rfl]
          · rw [c2 _ (by omega) (by omega)]; exact XT4
          · rw [← hA2, u_nc (by omega), u_ni hut, z122, if_pos rfl]
          · have j0 : j = 0 := by omega
            subst j0
            refine ⟨hc, Nat.zero_le _, by rw [c2 _ (by omega) (by omega)]; exact XT6, by rw [z1 123 (by omega) (by omega), z123, if_pos (by omega)], by rw [c2 _ (by omega) (by omega)]; exact XT7, by rw [z1 124 (by omega) (by omega), z124, if_pos (by omega)]; rfl⟩
          · show 0 < SZ c
            by_cases z : SZ c = 0
            · rw [if_pos z] at hj; omega
            · omega
        · show ITt n SZ A2 u (if u = t then D1 else if u = T then (if SZ c = 0 then 0 else 1) else D u) (if u = T then (fun _ => c) else FB u) (if u = t then (fun j => if j = n0 then FP t n0 + 1 else FP t j) else if u = T then (fun _ => 0) else FP u)
          rw [if_neg hut, if_neg huT, if_neg huT, if_neg hut, if_neg huT]
          refine (it.thr (by omega)).cong ?_ ?_ ?_ ?_ ?_ ?_ (fun j hj => ?_) (fun j hj => ?_)
          · rw [eo _ (by omega) (by omega) (by omega) (by omega) (by omega) (by omega) (by omega) (by omega) (by omega)]
          · rw [z1 121 (by omega) (by omega), z121, if_neg huT]
          · rw [eo _ (by omega) (by omega) (by omega) (by omega) (by omega) (by omega) (by omega) (by omega) (by omega)]
          · rw [← hA2, u_nc (by omega), u_ni hut, z122, if_neg huT]
          · rw [eo _ (by omega) (by omega) (by omega) (by omega) (by omega) (by omega) (by omega) (by omega) (by omega)]
          · rw [eo _ (by omega) (by omega) (by omega) (by omega) (by omega) (by omega) (by omega) (by omega) (by omega)]
          · rw [z1 123 (by omega) (by omega), z123, if_neg (by omega)]
          · rw [z1 124 (by omega) (by omega), z124, if_neg (by omega), if_neg (by omega)]
    · have et : tot A2 (fun u => if u = T then (fun _ => c) else FB u) (fun u => if u = t then (fun j => if j = n0 then FP t n0 + 1 else FP t j) else if u = T then (fun _ => 0) else FP u) (fun u => if u = t then D1 else if u = T then (if SZ c = 0 then 0 else 1) else D u) (T + 1) l = tot A FB FP D T l := by
        have ec : ∀ f g m, ct A2 f g m l = ct A f g m l := fun f g m => by simp only [ct, eK, eN]
        have eT0 : ct A2 (if T = T then (fun _ => c) else FB T) (if T = t then (fun j => if j = n0 then FP t n0 + 1 else FP t j) else if T = T then (fun _ => 0) else FP T) (if T = t then D1 else if T = T then (if SZ c = 0 then 0 else 1) else D T) l = 0 := by
          have nt : ¬ T = t := fun g => htT' g.symm
          simp only [if_true, if_neg nt]
          by_cases z : SZ c = 0
          · rw [if_pos z]; rfl
          · rw [if_neg z]; rfl
        have eU : ∀ u, u < T → ct A2 (if u = T then (fun _ => c) else FB u) (if u = t then (fun j => if j = n0 then FP t n0 + 1 else FP t j) else if u = T then (fun _ => 0) else FP u) (if u = t then D1 else if u = T then (if SZ c = 0 then 0 else 1) else D u) l = ct A (FB u) (FP u) (D u) l := fun u hu => by
          rw [ec]
          by_cases hut : u = t
          · subst hut
            rw [if_pos rfl, if_pos rfl, if_neg htT', ← hD1, ct_lvn (t := u) is hfr, hD]
            unfold ct
            rw [sm, sm]
            have a1 : sm (fun j => cs (KS A (FB u j)) (NS A (FB u j)) l (bk_st (KS A (FB u j)) (if j = n0 then FP u n0 + 1 else FP u j))) n0 = sm (fun j => cs (KS A (FB u j)) (NS A (FB u j)) l (bk_st (KS A (FB u j)) (FP u j))) n0 := sm_cg n0 (fun j hj => by
              show cs _ _ l (bk_st _ (if j = n0 then FP u n0 + 1 else FP u j)) = _
              rw [if_neg (by omega)])
            rw [a1]
            simp only [if_true]
            rw [cs_no (by rw [hk]; rfl) (by rw [hk]; decide)]
          · rw [if_neg hut, if_neg hut, if_neg (by omega), if_neg (by omega), if_neg (by omega)]
        unfold tot
        rw [sm]
        exact (congrArg (_ + ·) eT0).trans (sm_cg T eU)
      rw [eo _ (by omega) (by omega) (by omega) (by omega) (by omega) (by omega) (by omega) (by omega) (by omega), er 118 (by omega) (by omega), er 119 (by omega) (by omega), et]
      obtain ⟨i1, i2, i3, i4, i5⟩ := il.lks (by omega) l hl
      exact ⟨i1, i2, i3, i4, i5.imp id (fun g => ⟨g.1, g.2.elim (fun v hv => ⟨v, by omega, hv.2⟩)⟩)⟩
    · rw [h125, if_neg (by omega)]
    · rw [eo _ (by omega) (by omega) (by omega) (by omega) (by omega) (by omega) (by omega) (by omega) (by omega)]
    · refine ⟨by rw [h125, if_pos (by omega)], ?_⟩
      by_cases huT : u = T
      · subst huT
        exact ck_tick ik htT s4 hn (fun w hw => by rw [c2 _ (by omega) (by omega)]; exact X58T w hw) (by omega)
      · have : u = t := by omega
        subst this
        exact ck_tick ik htT s4 hn (fun w hw => by rw [c2 _ (by omega) (by omega)]; exact X58 w) (by omega)
    · rw [er 120 (by omega) (by omega)]
    · rw [eo _ (by omega) (by omega) (by omega) (by omega) (by omega) (by omega) (by omega) (by omega) (by omega)]
    · rw [eo _ (by omega) (by omega) (by omega) (by omega) (by omega) (by omega) (by omega) (by omega) (by omega)]
    · rw [eo 53 (by omega) (by omega) (by omega) (by omega) (by omega) (by omega) (by omega) (by omega) (by omega)]
    · rw [eo 54 (by omega) (by omega) (by omega) (by omega) (by omega) (by omega) (by omega) (by omega) (by omega)]
end FORK
