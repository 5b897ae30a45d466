section LOCAL
variable {d : Nat} {SL : Nat} {S : Nat → Nat × Nat} {A : Nat → Nat → Int32} {P : Nat → Nat → Option Nat}
variable {n : Nat} {SZ bq : Nat → Nat} {T st rc : Nat} {D TM TH : Nat → Nat} {FB FP : Nat → Nat → Nat}
/-- the clock of a thread that has ticked, and learnt nothing -/
theorem ck_tick {A2 : Nat → Nat → Int32} {t e : Nat} (ik : IK T st TH A) (htT : t < T) (s4 : st < 4000) (h : nst A A2 st (A 125 t) (-1)) (hr : ∀ u, u < 6 → A2 e u = if u = t then nI (st + 1) else A (58 + 4 * t) u) (t6 : t < 6) : ck A2 (st + 1) (thn TH st t) e (nI st) := by
  refine ck_new h s4 ik.edg (ik.lat t htT) (Or.inl rfl) (ik.own t htT) (by rw [hr t t6, if_pos rfl]) (fun u hu hut => ?_)
  obtain ⟨c, h1, h2, h3⟩ := ik.ckt t htT u hu
  refine ⟨c, h1, by rw [hr u hu, if_neg hut]; exact h2, fun k hk hth => ?_⟩
  rw [← h3 k hk hth]
  exact ⟨fun g => g.resolve_right kn_no, Or.inl⟩
theorem ct_lvn {t n1 l : Nat} {fb fp : Nat → Nat} (is : IS n SZ bq A P) (hfr : ∀ j, j < n1 → fb j < n ∧ fp j ≤ SZ (fb j)) : ct A fb fp (lvn (fun j => decide (SZ (fb j) ≤ fp j)) n1) l = ct A fb fp n1 l := by
  refine sm_lvn n1 (fun j hj hf => ?_)
  obtain ⟨h1, h2⟩ := hfr j hj
  have : fp j = SZ (fb j) := by have := of_decide_eq_true hf; omega
  rw [this, (is.whl _ h1).2]
  rfl
theorem step_local {t n0 n1 : Nat} {fb fp : Nat → Nat} {v : Int32} {X : Nat → Nat → Int32} {Y : (Nat → Nat → Int32) → Nat → Nat → Int32} (k : KK S P) (is : IS n SZ bq A P) (it : IT n SZ T st D FB FP A) (il : IL T D FB FP TM A) (ik : IK T st TH A) (ia : IA st rc TH A) (htT : t < T) (hD : D t = n0 + 1) (s4 : st < 4000) (hw : wt_ (KS A (FB t n0) (FP t n0)) (A 118 (tl_ A D FB FP t)) (nI t) = 0)
    (hX : EE (d + 3) M_Ru_perform [.ref 49, .ref (55 + 4 * t)] SL S (tkH A t st) P (fun r => r = ((131, SL, S, X, P), none)))
    (X1 : ∀ a, a ≠ 55 + 4 * t → a ≠ 56 + 4 * t → a ≠ 57 + 4 * t → X a = tkH A t st a) (X2 : X (55 + 4 * t) 0 = A (55 + 4 * t) 0) (X3 : X (55 + 4 * t) 5 = v) (X4 : X (55 + 4 * t) 4 = nI n1) (X5 : ∀ j, j < n1 → X (56 + 4 * t) j = nI (fb j) ∧ X (57 + 4 * t) j = nI (fp j))
    (hn1 : n1 ≤ 8) (hfr : ∀ j, j < n1 → fb j < n ∧ fp j ≤ SZ (fb j))
    (hY : ∀ C, (∀ a, 111 ≤ a → C a = A a) → EE (d + 3) M_Mo_does [.ref 111, .int (nI t), .int (nI (FB t n0)), .int (nI (FP t n0))] SL S (stH C t n0 st (FP t n0) (A 125 t)) P (fun r => r = ((131, SL, S, Y C, P), none)))
    (Y1 : ∀ C, (∀ a, 111 ≤ a → C a = A a) → ∀ a, a < 121 ∨ 124 < a → Y C a = stH C t n0 st (FP t n0) (A 125 t) a)
    (Y2 : ∀ C, (∀ a, 111 ≤ a → C a = A a) → Y C 121 t = v ∧ Y C 122 t = nI n1 ∧ ∀ j, j < n1 → Y C 123 (8 * t + j) = nI (fb j) ∧ Y C 124 (8 * t + j) = nI (fp j))
    (Y3 : ∀ C, (∀ a, 111 ≤ a → C a = A a) → ∀ u, u < 6 → u ≠ t → Y C 121 u = A 121 u ∧ Y C 122 u = A 122 u ∧ ∀ j, j < 8 → Y C 123 (8 * u + j) = A 123 (8 * u + j) ∧ Y C 124 (8 * u + j) = A 124 (8 * u + j))
    (hcs : ∀ l, l < 4 → ct A fb fp n1 l = ct A (FB t) (FP t) (D t) l) : OP d M_Lo_step M_Mo_step [.int (nI t)] SL S A P := by
  have T6 := it.T6
  have n8 := is.n8
  have eT : ∀ a, a ≠ 49 → a ≠ 58 + 4 * t → tkH A t st a = A a := fun a h1 h2 => by
    funext b
    rw [tkH, u_nc h2, u_nc h1]
  have hXo : ∀ a, 111 ≤ a → X a = A a := fun a ha => by rw [X1 a (by omega) (by omega) (by omega), eT a (by omega) (by omega)]
  generalize hD1 : lvn (fun j => decide (SZ (fb j) ≤ fp j)) n1 = D1
  obtain ⟨L1, L2, L3⟩ := lvn_le (f := fun j => decide (SZ (fb j) ≤ fp j)) n1
  rw [hD1] at L1 L2 L3
  have hCo : ∀ a, 111 ≤ a → pm_u X (55 + 4 * t) 4 (nI D1) a = A a := fun a ha => by
    funext b
    rw [u_nc (by omega), hXo a ha]
  have sto : ∀ C a, a < 124 ∨ 128 < a → stH C t n0 st (FP t n0) (A 125 t) a = C a := fun C a ha => by
    funext b
    rw [stH, u_nc (by omega), u_nc (by omega), u_nc (by omega), u_nc (by omega), u_nc (by omega)]
  refine step_gen (n1 := n1) (fb := fb) (fp := fp) (RC := fun A' => A' = X) (RD := fun A' A'' => A'' = Y (pm_u X (55 + 4 * t) 4 (nI D1))) k is it il htT hD s4 hw (pm_E.weaken hX (fun r hr => ⟨X, rfl, hr⟩)) (fun A' hA' => ?_) hn1 hfr (fun A' hA' => ?_) (fun A' A'' hA' hA'' => ?_) (fun A' A'' hA' hA'' => ?_)
  · subst hA'
    exact ⟨X4, X5, fun a ha => by rw [X1 a (by omega) (by omega) (by omega), eT a (by omega) (by omega)], hXo⟩
  · subst hA'
    rw [hD1]
    exact pm_E.weaken (hY _ hCo) (fun r hr => ⟨_, rfl, hr⟩)
  · subst hA' hA''
    obtain ⟨y1, y2, y3⟩ := Y2 _ hCo
    refine ⟨?_, y2, y3, ?_⟩
    · rw [Y1 _ hCo 111 (by omega), sto _ 111 (by omega), hCo 111 (by omega)]; exact it.mst
    · rw [Y1 _ hCo 114 (by omega), sto _ 114 (by omega), hCo 114 (by omega)]
  · subst hA' hA''
    rw [hD1]
    obtain ⟨y1, y2, y3⟩ := Y2 _ hCo
    have y4 := Y3 _ hCo
    have y5 := Y1 _ hCo
    generalize hC : pm_u A' (55 + 4 * t) 4 (nI D1) = C at hCo y1 y2 y3 y4 y5
    generalize hYC : Y C = Z at y1 y2 y3 y4 y5
    generalize hA2 : pm_u (pm_u Z 122 t (nI D1)) 111 17 (nI (st + 1)) = A2
    have z1 : ∀ a, a ≠ 111 → a ≠ 122 → A2 a = Z a := fun a h1 h2 => by
      funext b
      rw [← hA2, u_nc h1, u_nc h2]
    have c1 : ∀ a, a < 111 → A2 a = C a := fun a ha => by rw [z1 a (by omega) (by omega), y5 a (by omega), sto C a (by omega)]
    have c2 : ∀ a, a < 111 → a ≠ 55 + 4 * t → A2 a = A' a := fun a ha h => by
      rw [c1 a ha, ← hC]
      funext b
      rw [u_nc h]
    have eo : ∀ a, a < 111 → a ≠ 55 + 4 * t → a ≠ 56 + 4 * t → a ≠ 57 + 4 * t → a ≠ 49 → a ≠ 58 + 4 * t → A2 a = A a := fun a h1 h2 h3 h4 h5 h6 => by
      rw [c2 a h1 h2, X1 a h2 h3 h4, eT a h5 h6]
    have er : ∀ a, 112 ≤ a → (a < 121 ∨ 128 < a) → A2 a = A a := fun a h1 h2 => by
      rw [z1 a (by omega) (by omega), y5 a (by omega), sto C a (by omega), hCo a (by omega)]
    have e111 : ∀ j, j ≠ 17 → A2 111 j = A 111 j := fun j hj => by
      rw [← hA2, u_ni hj, u_nc (by omega), y5 111 (by omega), sto C 111 (by omega), hCo 111 (by omega)]
    have hn : nst A A2 st (A 125 t) (-1) := by
      constructor
      · intro k
        rw [z1 126 (by omega) (by omega), y5 126 (by omega), stH, u_nc (by omega), u_nc (by omega), u_nc (by omega), u_nc (by omega)]
        by_cases hk : k = st
        · rw [if_pos hk, hk]; exact u_eq
        · rw [if_neg hk, u_ni hk, hCo 126 (by omega)]
      · intro k
        rw [z1 127 (by omega) (by omega), y5 127 (by omega), stH, u_nc (by omega), u_nc (by omega), u_nc (by omega)]
        by_cases hk : k = st
        · rw [if_pos hk, hk]; exact u_eq
        · rw [if_neg hk, u_ni hk, u_nc (by omega), hCo 127 (by omega)]
    have h128 : ∀ k, A2 128 k = if k = st then -1 else A 128 k := fun k => by
      rw [z1 128 (by omega) (by omega), y5 128 (by omega), stH, u_nc (by omega), u_nc (by omega)]
      by_cases hk : k = st
      · rw [if_pos hk, hk]; exact u_eq
      · rw [if_neg hk, u_ni hk, u_nc (by omega), u_nc (by omega), hCo 128 (by omega)]
    have h125 : ∀ u, A2 125 u = if u = t then nI st else A 125 u := fun u => by
      rw [z1 125 (by omega) (by omega), y5 125 (by omega), stH, u_nc (by omega)]
      by_cases hk : u = t
      · rw [if_pos hk, hk]; exact u_eq
      · rw [if_neg hk, u_ni hk, u_nc (by omega), u_nc (by omega), u_nc (by omega), hCo 125 (by omega)]
    have h58 : ∀ u, A2 (58 + 4 * t) u = if u = t then nI (st + 1) else A (58 + 4 * t) u := fun u => by
      rw [c2 _ (by omega) (by omega), X1 _ (by omega) (by omega) (by omega), tkH]
      by_cases hk : u = t
      · rw [if_pos hk, hk]; exact u_eq
      · rw [if_neg hk, u_ni hk, u_nc (by omega)]
    have eK : KS A2 = KS A := KS_cg (er 112 (by omega) (by omega))
    have eN : NS A2 = NS A := NS_cg (er 113 (by omega) (by omega))
    refine ⟨n, SZ, bq, T, st + 1, rc, fun u => if u = t then D1 else D u, TM, thn TH st t, fun u => if u = t then fb else FB u, fun u => if u = t then fp else FP u, is.cong (fun a ha => eo a (by omega) (by omega) (by omega) (by omega) (by omega) (by omega)) (fun a h1 h2 => er a h1 (by omega)) (e111 4 (by omega)), it.step (by omega) (by omega) T6 s4 ?_ ?_ (e111 6 (by omega)) (fun u hu => ?_) ?_ ?_ (fun c hc => ?_) (fun u hu => ?_), ⟨fun z => absurd z (by omega), fun _ l hl => ?_⟩, ik.step s4 htT (Nat.le_refl _) hn (Or.inl rfl) (fun u hu hut => ⟨?_, ?_⟩) (fun u hu hut => ?_) (fun l hl => Or.inl ⟨?_, ?_⟩), ia.plain h128 (fun c hc w hw => ?_) ?_ ?_ (er 130 (by omega) (by omega)) (e111 22 (by omega))⟩
    · rw [c2 49 (by omega) (by omega), X1 49 (by omega) (by omega) (by omega), tkH, u_nc (by omega), u_ni (by omega)]; exact it.cT
    · rw [e111 11 (by omega)]; exact it.mT
    · by_cases hut : u = t
      · rw [hut, c1 _ (by omega), ← hC, u_ni (by omega)]; exact X2
      · rw [eo _ (by omega) (by omega) (by omega) (by omega) (by omega) (by omega)]
    · rw [c2 49 (by omega) (by omega), X1 49 (by omega) (by omega) (by omega), tkH, u_nc (by omega)]; exact u_eq
    · rw [← hA2]; exact u_eq
    · rw [eo _ (by omega) (by omega) (by omega) (by omega) (by omega) (by omega), er 117 (by omega) (by omega)]; exact it.cel c hc
    · by_cases hut : u = t
      · subst hut
        show ITt n SZ A2 u (if u = u then D1 else D u) (if u = u then fb else FB u) (if u = u then fp else FP u)
        rw [if_pos rfl, if_pos rfl, if_pos rfl]
        refine ⟨?_, by omega, ?_, ?_, fun j hj => ?_, fun j hj => ?_⟩
        · rw [c1 _ (by omega), ← hC, u_ni (by omega), X3, z1 121 (by omega) (by omega), y1]
        · rw [c1 _ (by omega), ← hC]; exact u_eq
        · rw [← hA2, u_nc (by omega)]; exact u_eq
        · obtain ⟨w1, w2⟩ := hfr j (by omega)
          obtain ⟨w3, w4⟩ := X5 j (by omega)
          obtain ⟨w5, w6⟩ := y3 j (by omega)
          refine ⟨w1, w2, by rw [c2 _ (by omega) (by omega)]; exact w3, by rw [z1 123 (by omega) (by omega)]; exact w5, by rw [c2 _ (by omega) (by omega)]; exact w4, by rw [z1 124 (by omega) (by omega)]; exact w6⟩
        · obtain ⟨w1, w2⟩ := hfr j (by omega)
          have := of_decide_eq_false (L2 j hj)
          omega
      · show ITt n SZ A2 u (if u = t then D1 else D u) (if u = t then fb else FB u) (if u = t then fp else FP u)
        rw [if_neg hut, if_neg hut, if_neg hut]
        obtain ⟨w1, w2, w3⟩ := y4 u (by omega) hut
        refine (it.thr hu).cong ?_ ?_ ?_ ?_ ?_ ?_ (fun j hj => ?_) (fun j hj => ?_)
        · rw [eo _ (by omega) (by omega) (by omega) (by omega) (by omega) (by omega)]
        · rw [z1 121 (by omega) (by omega), w1]
        · rw [eo _ (by omega) (by omega) (by omega) (by omega) (by omega) (by omega)]
        · rw [← hA2, u_nc (by omega), u_ni hut, w2]
        · rw [eo _ (by omega) (by omega) (by omega) (by omega) (by omega) (by omega)]
        · rw [eo _ (by omega) (by omega) (by omega) (by omega) (by omega) (by omega)]
        · rw [z1 123 (by omega) (by omega), (w3 j hj).1]
        · rw [z1 124 (by omega) (by omega), (w3 j hj).2]
    · have et : tot A2 (fun u => if u = t then fb else FB u) (fun u => if u = t then fp else FP u) (fun u => if u = t then D1 else D u) T l = tot A FB FP D T l := by
        refine sm_cg T (fun u hu => ?_)
        show ct A2 (if u = t then fb else FB u) (if u = t then fp else FP u) (if u = t then D1 else D u) l = ct A (FB u) (FP u) (D u) l
        have ec : ∀ f g m, ct A2 f g m l = ct A f g m l := fun f g m => by simp only [ct, eK, eN]
        rw [ec]
        by_cases hut : u = t
        · subst hut
          rw [if_pos rfl, if_pos rfl, if_pos rfl, ← hD1, ct_lvn (t := u) is hfr, hcs l hl]
        · rw [if_neg hut, if_neg hut, if_neg hut]
      rw [eo _ (by omega) (by omega) (by omega) (by omega) (by omega) (by omega), er 118 (by omega) (by omega), er 119 (by omega) (by omega), et]
      exact il.lks (by omega) l hl
    · rw [h125, if_neg hut]
    · rw [eo _ (by omega) (by omega) (by omega) (by omega) (by omega) (by omega)]
    · have : u = t := by omega
      subst this
      exact ⟨by rw [h125, if_pos rfl], ck_tick ik htT s4 hn (fun w _ => h58 w) (by omega)⟩
    · rw [er 120 (by omega) (by omega)]
    · rw [eo _ (by omega) (by omega) (by omega) (by omega) (by omega) (by omega)]
    · rw [eo _ (by omega) (by omega) (by omega) (by omega) (by omega) (by omega)]
    · rw [eo 53 (by omega) (by omega) (by omega) (by omega) (by omega) (by omega)]
    · rw [eo 54 (by omega) (by omega) (by omega) (by omega) (by omega) (by omega)]
end LOCAL
