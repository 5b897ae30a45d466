section LOCKS
variable {d : Nat} {SL : Nat} {S : Nat → Nat × Nat} {A : Nat → Nat → Int32} {P : Nat → Nat → Option Nat}
variable {n : Nat} {SZ bq : Nat → Nat} {T st rc : Nat} {D TM TH : Nat → Nat} {FB FP : Nat → Nat → Nat}
/-- a step that takes or gives up lock l -/
theorem step_lock {t n0 l tm' : Nat} {ow' y : Int32} {X : Nat → Nat → Int32} {Y : (Nat → Nat → Int32) → Nat → Nat → Int32} (k : KK S P) (is : IS n SZ bq A P) (it : IT n SZ T st D FB FP A) (il : IL T D FB FP TM A) (ik : IK T st TH A) (ia : IA st rc TH A) (htT : t < T) (hD : D t = n0 + 1) (s4 : st < 4000) (hw : wt_ (KS A (FB t n0) (FP t n0)) (A 118 (tl_ A D FB FP t)) (nI t) = 0) (hl4 : l < 4)
    (hX : EE (d + 3) M_Ru_perform [.ref 49, .ref (55 + 4 * t)] SL S (tkH A t st) P (fun r => r = ((131, SL, S, X, P), none)))
    (X1 : ∀ a, a ≠ 57 + 4 * t → a ≠ 58 + 4 * t → a ≠ 79 + 2 * l → a ≠ 80 + 2 * l → X a = tkH A t st a) (X57 : ∀ j, X (57 + 4 * t) j = if j = n0 then nI (FP t n0 + 1) else A (57 + 4 * t) j) (X79 : X (79 + 2 * l) 1 = ow' ∧ X (79 + 2 * l) 2 = nI tm')
    (hY : ∀ C, (∀ a, 111 ≤ a → C a = A a) → EE (d + 3) M_Mo_does [.ref 111, .int (nI t), .int (nI (FB t n0)), .int (nI (FP t n0))] SL S (stH C t n0 st (FP t n0) (A 125 t)) P (fun r => r = ((131, SL, S, Y C, P), none)))
    (Y1 : ∀ C, (∀ a, 111 ≤ a → C a = A a) → ∀ a, a ≠ 118 → a ≠ 119 → a ≠ 120 → a ≠ 127 → Y C a = stH C t n0 st (FP t n0) (A 125 t) a)
    (Y2 : ∀ C, (∀ a, 111 ≤ a → C a = A a) → Y C 118 l = ow' ∧ Y C 119 l = nI tm' ∧ (∀ x, x ≠ l → Y C 118 x = A 118 x ∧ Y C 119 x = A 119 x ∧ Y C 120 x = A 120 x) ∧ ∀ q, Y C 127 q = if q = st then y else A 127 q)
    (hy : osf st y)
    (hck : ∀ A2, nst A A2 st (A 125 t) y → A2 (58 + 4 * t) = X (58 + 4 * t) → ck A2 (st + 1) (thn TH st t) (58 + 4 * t) (nI st))
    (hlk : (X (80 + 2 * l) = A (80 + 2 * l) ∧ ∀ C, (∀ a, 111 ≤ a → C a = A a) → Y C 120 l = A 120 l) ∨ ((∀ C, (∀ a, 111 ≤ a → C a = A a) → Y C 120 l = nI st) ∧ ∀ A2, nst A A2 st (A 125 t) y → A2 (80 + 2 * l) = X (80 + 2 * l) → ck A2 (st + 1) (thn TH st t) (80 + 2 * l) (nI st)))
    (hown : (tm' = 0 ∧ ow' = -1) ∨ (tm' ≠ 0 ∧ ∃ u, u < T ∧ ow' = nI u))
    (hcs : ∀ x, x < 4 → (if x = l then tm' else TM x) + cs (KS A (FB t n0)) (NS A (FB t n0)) x (bk_st (KS A (FB t n0)) (FP t n0)) = TM x + cs (KS A (FB t n0)) (NS A (FB t n0)) x (bk_st (KS A (FB t n0)) (FP t n0 + 1))) : OP d M_Lo_step M_Mo_step [.int (nI t)] SL S A P := by
  have T6 := it.T6
  have n8 := is.n8
  obtain ⟨d8, dc, dm⟩ := it.dep t htT
  have f7 := it.top t htT n0 hD
  have hval := it.val t htT
  have eT : ∀ a, a ≠ 49 → a ≠ 58 + 4 * t → tkH A t st a = A a := fun a h1 h2 => by
    funext b
    rw [tkH, u_nc h2, u_nc h1]
  have hXo : ∀ a, 111 ≤ a → X a = A a := fun a ha => by rw [X1 a (by omega) (by omega) (by omega) (by omega), eT a (by omega) (by omega)]
  have hfr : ∀ j, j < n0 + 1 → FB t j < n ∧ (if j = n0 then FP t n0 + 1 else FP t j) ≤ SZ (FB t j) := fun j hj => by
    obtain ⟨f1, f2, -⟩ := it.frm t htT j (by omega)
    refine ⟨f1, ?_⟩
    by_cases h : j = n0
    · rw [if_pos h, h]; omega
    · rw [if_neg h]; exact f2
  generalize hD1 : lvn (fun j => decide (SZ (FB t j) ≤ (if j = n0 then FP t n0 + 1 else FP t j))) (n0 + 1) = D1
  obtain ⟨L1, L2, L3⟩ := lvn_le (f := fun j => decide (SZ (FB t j) ≤ (if j = n0 then FP t n0 + 1 else FP t j))) (n0 + 1)
  rw [hD1] at L1 L2 L3
  have hCo : ∀ a, 111 ≤ a → pm_u X (55 + 4 * t) 4 (nI D1) a = A a := fun a ha => by
    funext b
    rw [u_nc (by omega), hXo a ha]
  have sto : ∀ C a, a < 124 ∨ 128 < a → stH C t n0 st (FP t n0) (A 125 t) a = C a := fun C a ha => by
    funext b
    rw [stH, u_nc (by omega), u_nc (by omega), u_nc (by omega), u_nc (by omega), u_nc (by omega)]
  have st124 : ∀ C, (∀ a, 111 ≤ a → C a = A a) → ∀ x, stH C t n0 st (FP t n0) (A 125 t) 124 x = if x = 8 * t + n0 then nI (FP t n0 + 1) else A 124 x := fun C hC x => by
    rw [stH]
    by_cases h : x = 8 * t + n0
    · rw [if_pos h, h]; exact u_eq
    · rw [if_neg h, u_ni h, u_nc (by omega), u_nc (by omega), u_nc (by omega), u_nc (by omega), hC 124 (by omega)]
  refine step_gen (n1 := n0 + 1) (fb := FB t) (fp := fun j => if j = n0 then FP t n0 + 1 else FP t j) (RC := fun A' => A' = X) (RD := fun A' A'' => A'' = Y (pm_u X (55 + 4 * t) 4 (nI D1))) k is it il htT hD s4 hw (pm_E.weaken hX (fun r hr => ⟨X, rfl, hr⟩)) (fun A' hA' => ?_) (by omega) hfr (fun A' hA' => ?_) (fun A' A'' hA' hA'' => ?_) (fun A' A'' hA' hA'' => ?_)
  · subst hA'
    refine ⟨by rw [X1 _ (by omega) (by omega) (by omega) (by omega), eT _ (by omega) (by omega), dc, hD], fun j hj => ?_, fun a ha => by rw [X1 a (by omega) (by omega) (by omega) (by omega), eT a (by omega) (by omega)], hXo⟩
    obtain ⟨f1, f2, f3, f4, f5, f6⟩ := it.frm t htT j (by omega)
    refine ⟨by rw [X1 _ (by omega) (by omega) (by omega) (by omega), eT _ (by omega) (by omega)]; exact f3, ?_⟩
    rw [X57]
    show _ = nI (if j = n0 then FP t n0 + 1 else FP t j)
    by_cases h : j = n0
    · rw [if_pos h, if_pos h]
    · rw [if_neg h, if_neg h]; exact f5
  · subst hA'
    rw [hD1]
    exact pm_E.weaken (hY _ hCo) (fun r hr => ⟨_, rfl, hr⟩)
  · subst hA' hA''
    have y5 := Y1 _ hCo
    refine ⟨by rw [y5 111 (by omega) (by omega) (by omega) (by omega), sto _ 111 (by omega), hCo 111 (by omega)]; exact it.mst, by rw [y5 122 (by omega) (by omega) (by omega) (by omega), sto _ 122 (by omega), hCo 122 (by omega), dm, hD], fun j hj => ?_, by rw [y5 114 (by omega) (by omega) (by omega) (by omega), sto _ 114 (by omega), hCo 114 (by omega)]⟩
    obtain ⟨f1, f2, f3, f4, f5, f6⟩ := it.frm t htT j (by omega)
    refine ⟨by rw [y5 123 (by omega) (by omega) (by omega) (by omega), sto _ 123 (by omega), hCo 123 (by omega)]; exact f4, ?_⟩
    rw [y5 124 (by omega) (by omega) (by omega) (by omega), st124 _ hCo]
    show _ = nI (if j = n0 then FP t n0 + 1 else FP t j)
    by_cases h : j = n0
    · rw [if_pos h, if_pos (by omega)]
    · rw [if_neg h, if_neg (by omega)]; exact f6
  · subst hA' hA''
    rw [hD1]
    obtain ⟨y1, y2, y3, y4⟩ := Y2 _ hCo
    have y5 := Y1 _ hCo
    have s124 := st124 _ hCo
    have ylk : (A' (80 + 2 * l) = A (80 + 2 * l) ∧ Y (pm_u A' (55 + 4 * t) 4 (nI D1)) 120 l = A 120 l) ∨ (Y (pm_u A' (55 + 4 * t) 4 (nI D1)) 120 l = nI st ∧ ∀ A2, nst A A2 st (A 125 t) y → A2 (80 + 2 * l) = A' (80 + 2 * l) → ck A2 (st + 1) (thn TH st t) (80 + 2 * l) (nI st)) := hlk.imp (fun g => ⟨g.1, g.2 _ hCo⟩) (fun g => ⟨g.1 _ hCo, g.2⟩)
    generalize hC : pm_u A' (55 + 4 * t) 4 (nI D1) = C at hCo y1 y2 y3 y4 y5 s124 ylk
    generalize hYC : Y C = Z at y1 y2 y3 y4 y5 ylk
    generalize hA2 : pm_u (pm_u Z 122 t (nI D1)) 111 17 (nI (st + 1)) = A2
    have z1 : ∀ a, a ≠ 111 → a ≠ 122 → A2 a = Z a := fun a h1 h2 => by
      funext b
      rw [← hA2, u_nc h1, u_nc h2]
    have c1 : ∀ a, a < 111 → A2 a = C a := fun a ha => by rw [z1 a (by omega) (by omega), y5 a (by omega) (by omega) (by omega) (by omega), sto C a (by omega)]
    have c2 : ∀ a, a < 111 → a ≠ 55 + 4 * t → A2 a = A' a := fun a ha h => by
      rw [c1 a ha, ← hC]
      funext b
      rw [u_nc h]
    have eo : ∀ a, a < 111 → a ≠ 55 + 4 * t → a ≠ 57 + 4 * t → a ≠ 49 → a ≠ 58 + 4 * t → a ≠ 79 + 2 * l → a ≠ 80 + 2 * l → A2 a = A a := fun a h1 h2 h3 h4 h5 h6 h7 => by
      rw [c2 a h1 h2, X1 a h3 h5 h6 h7, eT a h4 h5]
    have er : ∀ a, 112 ≤ a → a ≠ 118 → a ≠ 119 → a ≠ 120 → a ≠ 122 → (a < 124 ∨ 128 < a) → A2 a = A a := fun a h1 h2 h3 h4 h5 h6 => by
      rw [z1 a (by omega) (by omega), y5 a (by omega) (by omega) (by omega) (by omega), sto C a (by omega), hCo a (by omega)]
    have e111 : ∀ j, j ≠ 17 → A2 111 j = A 111 j := fun j hj => by
      rw [← hA2, u_ni hj, u_nc (by omega), y5 111 (by omega) (by omega) (by omega) (by omega), sto C 111 (by omega), hCo 111 (by omega)]
    have hn : nst A A2 st (A 125 t) y := by
      constructor
      · intro k
        rw [z1 126 (by omega) (by omega), y5 126 (by omega) (by omega) (by omega) (by omega), stH, u_nc (by omega), u_nc (by omega), u_nc (by omega), u_nc (by omega)]
        by_cases hk : k = st
        · rw [if_pos hk, hk]; exact u_eq
        · rw [if_neg hk, u_ni hk, hCo 126 (by omega)]
      · intro k
        rw [z1 127 (by omega) (by omega)]; exact y4 k
    have h128 : ∀ k, A2 128 k = if k = st then -1 else A 128 k := fun k => by
      rw [z1 128 (by omega) (by omega), y5 128 (by omega) (by omega) (by omega) (by omega), stH, u_nc (by omega), u_nc (by omega)]
      by_cases hk : k = st
      · rw [if_pos hk, hk]; exact u_eq
      · rw [if_neg hk, u_ni hk, u_nc (by omega), u_nc (by omega), hCo 128 (by omega)]
    have h125 : ∀ u, A2 125 u = if u = t then nI st else A 125 u := fun u => by
      rw [z1 125 (by omega) (by omega), y5 125 (by omega) (by omega) (by omega) (by omega), stH, u_nc (by omega)]
      by_cases hk : u = t
      · rw [if_pos hk, hk]; exact u_eq
      · rw [if_neg hk, u_ni hk, u_nc (by omega), u_nc (by omega), u_nc (by omega), hCo 125 (by omega)]
    have eK : KS A2 = KS A := KS_cg (er 112 (by omega) (by omega) (by omega) (by omega) (by omega) (by omega))
    have eN : NS A2 = NS A := NS_cg (er 113 (by omega) (by omega) (by omega) (by omega) (by omega) (by omega))
    refine ⟨n, SZ, bq, T, st + 1, rc, fun u => if u = t then D1 else D u, fun x => if x = l then tm' else TM x, thn TH st t, FB, fun u => if u = t then (fun j => if j = n0 then FP t n0 + 1 else FP t j) else FP u, is.cong (fun a ha => eo a (by omega) (by omega) (by omega) (by omega) (by omega) (by omega) (by omega)) (fun a h1 h2 => er a h1 (by omega) (by omega) (by omega) (by omega) (by omega)) (e111 4 (by omega)), it.step (by omega) (by omega) T6 s4 ?_ ?_ (e111 6 (by omega)) (fun u hu => ?_) ?_ ?_ (fun c hc => ?_) (fun u hu => ?_), ⟨fun z => absurd z (by omega), fun _ x hx => ?_⟩, ik.step s4 htT (Nat.le_refl _) hn hy (fun u hu hut => ⟨?_, ?_⟩) (fun u hu hut => ?_) (fun x hx => ?_), ia.plain h128 (fun c hc w hw => ?_) ?_ ?_ (er 130 (by omega) (by omega) (by omega) (by omega) (by omega) (by omega)) (e111 22 (by omega))⟩
    · rw [c2 49 (by omega) (by omega), X1 49 (by omega) (by omega) (by omega) (by omega), tkH, u_nc (by omega), u_ni (by omega)]; exact it.cT
    · rw [e111 11 (by omega)]; exact it.mT
    · by_cases hut : u = t
      · rw [hut, c1 _ (by omega), ← hC, u_ni (by omega), X1 _ (by omega) (by omega) (by omega) (by omega), eT _ (by omega) (by omega)]
      · rw [eo _ (by omega) (by omega) (by omega) (by omega) (by omega) (by omega) (by omega)]
    · rw [c2 49 (by omega) (by omega), X1 49 (by omega) (by omega) (by omega) (by omega), tkH, u_nc (by omega)]; exact u_eq
    · rw [← hA2]; exact u_eq
    · rw [eo _ (by omega) (by omega) (by omega) (by omega) (by omega) (by omega) (by omega), er 117 (by omega) (by omega) (by omega) (by omega) (by omega) (by omega)]; exact it.cel c hc
    · by_cases hut : u = t
      · subst hut
        show ITt n SZ A2 u (if u = u then D1 else D u) (FB u) (if u = u then (fun j => if j = n0 then FP u n0 + 1 else FP u j) else FP u)
        rw [if_pos rfl, if_pos rfl]
        refine ⟨?_, by omega, ?_, ?_, fun j hj => ?_, fun j hj => ?_⟩
        · rw [c1 _ (by omega), ← hC, u_ni (by omega), X1 _ (by omega) (by omega) (by omega) (by omega), eT _ (by omega) (by omega), er 121 (by omega) (by omega) (by omega) (by omega) (by omega) (by omega)]; exact hval
        · rw [c1 _ (by omega), ← hC]; exact u_eq
        · rw [← hA2, u_nc (by omega)]; exact u_eq
        · obtain ⟨f1, f2, f3, f4, f5, f6⟩ := it.frm u htT j (by omega)
          refine ⟨f1, (hfr j (by omega)).2, by rw [eo _ (by omega) (by omega) (by omega) (by omega) (by omega) (by omega) (by omega)]; exact f3, by rw [er 123 (by omega) (by omega) (by omega) (by omega) (by omega) (by omega)]; exact f4, ?_, ?_⟩
          · rw [c2 _ (by omega) (by omega), X57]
            show _ = nI (if j = n0 then FP u n0 + 1 else FP u j)
            by_cases h : j = n0
            · rw [if_pos h, if_pos h]
            · rw [if_neg h, if_neg h]; exact f5
          · rw [z1 124 (by omega) (by omega), y5 124 (by omega) (by omega) (by omega) (by omega), s124]
            show _ = nI (if j = n0 then FP u n0 + 1 else FP u j)
            by_cases h : j = n0
            · rw [if_pos h, if_pos (by omega)]
            · rw [if_neg h, if_neg (by omega)]; exact f6
        · have w2 := (hfr j (by omega)).2
          have := of_decide_eq_false (L2 j hj)
          show (if j = n0 then FP u n0 + 1 else FP u j) < SZ (FB u j)
          omega
      · show ITt n SZ A2 u (if u = t then D1 else D u) (FB u) (if u = t then (fun j => if j = n0 then FP t n0 + 1 else FP t j) else FP u)
        rw [if_neg hut, if_neg hut]
        refine (it.thr hu).cong ?_ ?_ ?_ ?_ ?_ ?_ (fun j hj => ?_) (fun j hj => ?_)
        · rw [eo _ (by omega) (by omega) (by omega) (by omega) (by omega) (by omega) (by omega)]
        · rw [er 121 (by omega) (by omega) (by omega) (by omega) (by omega) (by omega)]
        · rw [eo _ (by omega) (by omega) (by omega) (by omega) (by omega) (by omega) (by omega)]
        · rw [← hA2, u_nc (by omega), u_ni hut, y5 122 (by omega) (by omega) (by omega) (by omega), sto C 122 (by omega), hCo 122 (by omega)]
        · rw [eo _ (by omega) (by omega) (by omega) (by omega) (by omega) (by omega) (by omega)]
        · rw [eo _ (by omega) (by omega) (by omega) (by omega) (by omega) (by omega) (by omega)]
        · rw [er 123 (by omega) (by omega) (by omega) (by omega) (by omega) (by omega)]
        · rw [z1 124 (by omega) (by omega), y5 124 (by omega) (by omega) (by omega) (by omega), s124, if_neg (by omega)]
    · have et : (if x = l then tm' else TM x) = tot A2 FB (fun u => if u = t then (fun j => if j = n0 then FP t n0 + 1 else FP t j) else FP u) (fun u => if u = t then D1 else D u) T x := by
        have ec : ∀ f g m, ct A2 f g m x = ct A f g m x := fun f g m => by simp only [ct, eK, eN]
        have one := sm_one (f := fun u => ct A (FB u) (FP u) (D u) x) (f' := fun u => ct A2 (FB u) (if u = t then (fun j => if j = n0 then FP t n0 + 1 else FP t j) else FP u) (if u = t then D1 else D u) x) (t := t) T htT (fun u hu hut => by
          show ct A2 (FB u) (if u = t then (fun j => if j = n0 then FP t n0 + 1 else FP t j) else FP u) (if u = t then D1 else D u) x = _
          rw [ec, if_neg hut, if_neg hut])
        have ett : ct A2 (FB t) (if t = t then (fun j => if j = n0 then FP t n0 + 1 else FP t j) else FP t) (if t = t then D1 else D t) x = ct A (FB t) (fun j => if j = n0 then FP t n0 + 1 else FP t j) (n0 + 1) x := by
          rw [ec, if_pos rfl, if_pos rfl, ← hD1, ct_lvn (t := t) is hfr]
        have en : ct A (FB t) (fun j => if j = n0 then FP t n0 + 1 else FP t j) (n0 + 1) x + cs (KS A (FB t n0)) (NS A (FB t n0)) x (bk_st (KS A (FB t n0)) (FP t n0)) = ct A (FB t) (FP t) (D t) x + cs (KS A (FB t n0)) (NS A (FB t n0)) x (bk_st (KS A (FB t n0)) (FP t n0 + 1)) := by
          rw [hD]
          unfold ct
          rw [sm, sm]
          have a1 : sm (fun j => cs (KS A (FB t j)) (NS A (FB t j)) x (bk_st (KS A (FB t j)) (if j = n0 then FP t n0 + 1 else FP t j))) n0 = sm (fun j => cs (KS A (FB t j)) (NS A (FB t j)) x (bk_st (KS A (FB t j)) (FP t j))) n0 := sm_cg n0 (fun j hj => by
            show cs _ _ x (bk_st _ (if j = n0 then FP t n0 + 1 else FP t j)) = _
            rw [if_neg (by omega)])
          rw [a1]
          simp only [if_true]
          omega
        have h1 := hcs x hx
        have h2 := (il.lks (by omega) x hx).2.2.2.1
        change sm _ T + ct A (FB t) (FP t) (D t) x = sm _ T + ct A2 (FB t) (if t = t then (fun j => if j = n0 then FP t n0 + 1 else FP t j) else FP t) (if t = t then D1 else D t) x at one
        rw [ett] at one
        unfold tot at h2
        show (if x = l then tm' else TM x) = sm (fun u => ct A2 (FB u) (if u = t then (fun j => if j = n0 then FP t n0 + 1 else FP t j) else FP u) (if u = t then D1 else D u) x) T
        omega
      obtain ⟨i1, i2, i3, i4, i5⟩ := il.lks (by omega) x hx
      refine ⟨?_, ?_, ?_, et, ?_⟩
      · by_cases hxl : x = l
        · subst hxl
          rw [c2 _ (by omega) (by omega), X79.1, z1 118 (by omega) (by omega), y1]
        · rw [eo _ (by omega) (by omega) (by omega) (by omega) (by omega) (by omega) (by omega), z1 118 (by omega) (by omega), (y3 x hxl).1]; exact i1
      · show _ = nI (if x = l then tm' else TM x)
        by_cases hxl : x = l
        · subst hxl
          rw [if_pos rfl, c2 _ (by omega) (by omega)]; exact X79.2
        · rw [if_neg hxl, eo _ (by omega) (by omega) (by omega) (by omega) (by omega) (by omega) (by omega)]; exact i2
      · show _ = nI (if x = l then tm' else TM x)
        by_cases hxl : x = l
        · subst hxl
          rw [if_pos rfl, z1 119 (by omega) (by omega)]; exact y2
        · rw [if_neg hxl, z1 119 (by omega) (by omega), (y3 x hxl).2.1]; exact i3
      · show ((if x = l then tm' else TM x) = 0 ∧ _) ∨ ((if x = l then tm' else TM x) ≠ 0 ∧ _)
        by_cases hxl : x = l
        · subst hxl
          rw [if_pos rfl, z1 118 (by omega) (by omega), y1]; exact hown
        · rw [if_neg hxl, z1 118 (by omega) (by omega), (y3 x hxl).1]; exact i5
    · rw [h125, if_neg hut]
    · rw [eo _ (by omega) (by omega) (by omega) (by omega) (by omega) (by omega) (by omega)]
    · have : u = t := by omega
      subst this
      exact ⟨by rw [h125, if_pos rfl], hck A2 hn (c2 _ (by omega) (by omega))⟩
    · by_cases hxl : x = l
      · subst hxl
        rcases ylk with ⟨g1, g2⟩ | ⟨g1, g2⟩
        · exact Or.inl ⟨by rw [z1 120 (by omega) (by omega)]; exact g2, by rw [c2 _ (by omega) (by omega)]; exact g1⟩
        · exact Or.inr ⟨by rw [z1 120 (by omega) (by omega)]; exact g1, g2 A2 hn (c2 _ (by omega) (by omega))⟩
      · exact Or.inl ⟨by rw [z1 120 (by omega) (by omega)]; exact (y3 x hxl).2.2, by rw [eo _ (by omega) (by omega) (by omega) (by omega) (by omega) (by omega) (by omega)]⟩
    · rw [eo _ (by omega) (by omega) (by omega) (by omega) (by omega) (by omega) (by omega)]
    · rw [eo 53 (by omega) (by omega) (by omega) (by omega) (by omega) (by omega) (by omega)]
    · rw [eo 54 (by omega) (by omega) (by omega) (by omega) (by omega) (by omega) (by omega)]
end LOCKS
