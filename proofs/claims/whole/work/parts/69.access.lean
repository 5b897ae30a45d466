section ACCESS
variable {d : Nat} {SL : Nat} {S : Nat → Nat × Nat} {A : Nat → Nat → Int32} {P : Nat → Nat → Option Nat}
variable {n : Nat} {SZ bq : Nat → Nat} {T st rc : Nat} {D TM TH : Nat → Nat} {FB FP : Nat → Nat → Nat}
/-- class: what an access does besides looking for a race -/
def aC (A1 A' : Nat → Nat → Int32) (t c w st : Nat) (v x : Int32) : Prop := (∀ a, a ≠ 88 + 3 * c + w → a ≠ 55 + 4 * t → a ≠ 87 + 3 * c → A' a = A1 a) ∧ (∀ u, A' (88 + 3 * c + w) u = if u = t then nI (st + 1) else A1 (88 + 3 * c + w) u) ∧ (∀ j, j ≠ 5 → A' (55 + 4 * t) j = A1 (55 + 4 * t) j) ∧ A' (55 + 4 * t) 5 = v ∧ A' (87 + 3 * c) 2 = x
/-- reference: the same -/
def aM (A1 A' : Nat → Nat → Int32) (t c : Nat) (v x : Int32) : Prop := (∀ a, a ≠ 121 → a ≠ 117 → A' a = A1 a) ∧ (∀ u, A' 121 u = if u = t then v else A1 121 u) ∧ ∀ e, A' 117 e = if e = c then x else A1 117 e
theorem mtH_o {Z Z1 : Nat → Nat → Int32} {a : Int32} {B : Nat → Int32} {R : Prop} (h : mtH Z st rc a B R Z1) : (∀ e, e ≠ 111 → e ≠ 128 → e ≠ 129 → e ≠ 130 → Z1 e = Z e) ∧ (∀ j, j ≠ 22 → Z1 111 j = Z 111 j) ∧ ∀ k, Z1 128 k = if k = st then a else Z 128 k := by
  have w : ∀ e b, e ≠ 129 → w129 (pm_u Z 128 st a) B e b = pm_u Z 128 st a e b := fun e b he => by rw [w129, if_neg he]
  have q : ∀ k, pm_u Z 128 st a 128 k = if k = st then a else Z 128 k := fun k => by
    by_cases hk : k = st
    · rw [if_pos hk, hk]; exact u_eq
    · rw [if_neg hk, u_ni hk]
  rcases h with ⟨-, h⟩ | ⟨-, -, h⟩ | ⟨-, -, h⟩
  · refine ⟨fun e h1 h2 h3 h4 => ?_, fun j hj => ?_, fun k => ?_⟩
    · funext b; rw [h, w e b h3, u_nc h2]
    · rw [h, w _ _ (by omega), u_nc (by omega)]
    · rw [h, w _ _ (by omega)]; exact q k
  · refine ⟨fun e h1 h2 h3 h4 => ?_, fun j hj => ?_, fun k => ?_⟩
    · funext b; rw [h, u_nc h1, u_nc h4, w e b h3, u_nc h2]
    · rw [h, u_ni hj, u_nc (by omega), w _ _ (by omega), u_nc (by omega)]
    · rw [h, u_nc (by omega), u_nc (by omega), w _ _ (by omega)]; exact q k
  · refine ⟨fun e h1 h2 h3 h4 => ?_, fun j hj => ?_, fun k => ?_⟩
    · funext b; rw [h, u_nc h1, w e b h3, u_nc h2]
    · rw [h, u_ni hj, w _ _ (by omega), u_nc (by omega)]
    · rw [h, u_nc (by omega), w _ _ (by omega)]; exact q k
/-- both logs -/
theorem log_eq {A2 Ac A1 Z Z1 : Nat → Nat → Int32} {t c w : Nat} {a : Int32} {B : Nat → Int32} {R : Prop} (hw : w < 2) (hn : nrH Ac rc st t c (nI w) A1) (hm : mtH Z st rc a B R Z1) (hr : (∃ u, u < 6 ∧ rc_ Ac (87 + 3 * c) (58 + 4 * t) (nI w) u) ↔ R)
    (c53 : Ac 53 = A 53) (c54 : Ac 54 = A 54) (z130 : Z 130 = A 130) (z111 : Z 111 = A 111) (e53 : A2 53 = A1 53) (e54 : A2 54 = A1 54) (e130 : A2 130 = Z1 130) (e22 : A2 111 22 = Z1 111 22) :
    ∃ rc', (rc' = rc ∧ A2 53 1 = A 53 1 ∧ A2 54 = A 54 ∧ A2 130 = A 130 ∧ A2 111 22 = A 111 22) ∨ (rc' = rc + 1 ∧ A2 53 1 = nI (rc + 1) ∧ A2 111 22 = nI (rc + 1) ∧ (∀ j, j < rc → j < 64 → A2 130 j = A 130 j ∧ ∀ m, m < 4 → A2 54 (4 * j + m) = A 54 (4 * j + m)) ∧ (rc < 64 → A2 130 rc = nI st ∧ A2 54 (4 * rc) = nI st ∧ A2 54 (4 * rc + 1) = nI t ∧ A2 54 (4 * rc + 2) = nI c ∧ A2 54 (4 * rc + 3) = nI w)) := by
  have wq : ∀ e b, e ≠ 129 → w129 (pm_u Z 128 st a) B e b = pm_u Z 128 st a e b := fun e b he => by rw [w129, if_neg he]
  by_cases hR : R
  · refine ⟨rc + 1, Or.inr ⟨rfl, ?_⟩⟩
    rw [e53, e54, e130, e22]
    have hn' : rlH Ac rc st t c (nI w) A1 := by
      rcases hn with ⟨_, g⟩ | ⟨g, _⟩
      · exact g
      · exact absurd (hr.mpr hR) (fun ⟨u, h1, h2⟩ => g u h1 h2)
    have ew : (if nI w = 0 then (0 : Int32) else 1) = nI w := by
      rcases (show w = 0 ∨ w = 1 by omega) with z | z <;> subst z <;> rfl
    rcases hm with ⟨g, _⟩ | ⟨_, h64, hZ⟩ | ⟨_, h64, hZ⟩
    · exact absurd hR g
    · rcases hn' with ⟨g, _⟩ | ⟨_, hA⟩
      · omega
      · rw [hA, hZ]
        refine ⟨u_eq, u_eq, fun j hj hj6 => ⟨?_, fun m hm => ?_⟩, fun _ => ⟨?_, ?_, ?_, ?_, ?_⟩⟩
        · rw [u_nc (by omega), u_ni (by omega), wq _ _ (by omega), u_nc (by omega), z130]
        · rw [u_nc (by omega), u_ni (by omega), u_ni (by omega), u_ni (by omega), u_ni (by omega), c54]
        · rw [u_nc (by omega)]; exact u_eq
        · rw [u_nc (by omega), u_ni (by omega), u_ni (by omega), u_ni (by omega)]; exact u_eq
        · rw [u_nc (by omega), u_ni (by omega), u_ni (by omega)]; exact u_eq
        · rw [u_nc (by omega), u_ni (by omega)]; exact u_eq
        · rw [u_nc (by omega), u_eq]; exact ew
    · rcases hn' with ⟨_, hA⟩ | ⟨g, _⟩
      · rw [hA, hZ]
        refine ⟨u_eq, u_eq, fun j hj hj6 => ⟨?_, fun m hm => ?_⟩, fun g => absurd g (by omega)⟩
        · rw [u_nc (by omega), wq _ _ (by omega), u_nc (by omega), z130]
        · rw [u_nc (by omega), c54]
      · omega
  · refine ⟨rc, Or.inl ⟨rfl, ?_⟩⟩
    rw [e53, e54, e130, e22]
    have hA : A1 = Ac := by
      rcases hn with ⟨g, _⟩ | ⟨_, g⟩
      · exact absurd (hr.mp g) hR
      · exact g
    rcases hm with ⟨_, hZ⟩ | ⟨g, _⟩ | ⟨g, _⟩
    · refine ⟨by rw [hA, c53], by rw [hA, c54], ?_, ?_⟩
      · funext b
        rw [hZ, wq _ _ (by omega), u_nc (by omega), z130]
      · rw [hZ, wq _ _ (by omega), u_nc (by omega), z111]
    · exact absurd g hR
    · exact absurd g hR
theorem step_acc {t n0 c w : Nat} {v x : Int32} (k : KK S P) (is : IS n SZ bq A P) (it : IT n SZ T st D FB FP A) (il : IL T D FB FP TM A) (ik : IK T st TH A) (ia : IA st rc TH A) (htT : t < T) (hD : D t = n0 + 1) (s4 : st < 4000) (hc : c < 8) (hw2 : w < 2) (hk : KS A (FB t n0) (FP t n0) = nI w)
    (hX : EE (d + 3) M_Ru_perform [.ref 49, .ref (55 + 4 * t)] SL S (tkH A t st) P (fun r => ∃ A', (∃ A1, nrH (mvH (tkH A t st) t n0 (FP t n0)) rc st t c (nI w) A1 ∧ aC A1 A' t c w st v x) ∧ r = ((131, SL, S, A', P), none)))
    (hY : ∀ C, (∀ a, 111 ≤ a → C a = A a) → (∀ k, k ≤ st → edb (stH C t n0 st (FP t n0) (A 125 t)) k) → (∀ k, k < st → acv (stH C t n0 st (FP t n0) (A 125 t)) k) → EE (d + 3) M_Mo_does [.ref 111, .int (nI t), .int (nI (FB t n0)), .int (nI (FP t n0))] SL S (stH C t n0 st (FP t n0) (A 125 t)) P (fun r => ∃ A'', (∃ B A1, mtH (stH C t n0 st (FP t n0) (A 125 t)) st rc (nI (16 * t + 2 * c + w)) B (∃ k, k < st ∧ rcd (stH C t n0 st (FP t n0) (A 125 t)) st t c w k) A1 ∧ aM A1 A'' t c v x) ∧ r = ((131, SL, S, A'', P), none))) : OP d M_Lo_step M_Mo_step [.int (nI t)] SL S A P := by
  have T6 := it.T6
  have n8 := is.n8
  obtain ⟨d8, dc, dm⟩ := it.dep t htT
  have hw : wt_ (KS A (FB t n0) (FP t n0)) (A 118 (tl_ A D FB FP t)) (nI t) = 0 := by
    rw [hk]
    rcases (show w = 0 ∨ w = 1 by omega) with z | z <;> subst z <;> rfl
  have f7 := it.top t htT n0 hD
  have eT : ∀ a, a ≠ 49 → a ≠ 58 + 4 * t → tkH A t st a = A a := fun a h1 h2 => by
    funext b
    rw [tkH, u_nc h2, u_nc h1]
  have eM : ∀ a, a ≠ 57 + 4 * t → mvH (tkH A t st) t n0 (FP t n0) a = tkH A t st a := fun a h => by
    funext b
    rw [mvH, u_nc h]
  have hfr : ∀ j, j < n0 + 1 → FB t j < n ∧ (if j = n0 then FP t n0 + 1 else FP t j) ≤ SZ (FB t j) := fun j hj => by
    obtain ⟨f1, f2, -⟩ := it.frm t htT j (by omega)
    refine ⟨f1, ?_⟩
    by_cases h : j = n0
    · rw [if_pos h, h]; omega
    · rw [if_neg h]; exact f2
  have hcs : ∀ l, ct A (FB t) (fun j => if j = n0 then FP t n0 + 1 else FP t j) (n0 + 1) l = ct A (FB t) (FP t) (D t) l := fun l => by
    rw [hD]
    unfold ct
    rw [sm, sm]
    have a1 : sm (fun j => cs (KS A (FB t j)) (NS A (FB t j)) l (bk_st (KS A (FB t j)) (if j = n0 then FP t n0 + 1 else FP t j))) n0 = sm (fun j => cs (KS A (FB t j)) (NS A (FB t j)) l (bk_st (KS A (FB t j)) (FP t j))) n0 := sm_cg n0 (fun j hj => by
      show cs _ _ l (bk_st _ (if j = n0 then FP t n0 + 1 else FP t j)) = _
      rw [if_neg (by omega)])
    rw [a1]
    simp only [if_true]
    rw [cs_no (by rw [hk]; rcases (show w = 0 ∨ w = 1 by omega) with z | z <;> subst z <;> rfl) (by rw [hk]; rcases (show w = 0 ∨ w = 1 by omega) with z | z <;> subst z <;> decide)]
  generalize hD1 : lvn (fun j => decide (SZ (FB t j) ≤ (if j = n0 then FP t n0 + 1 else FP t j))) (n0 + 1) = D1
  obtain ⟨L1, L2, L3⟩ := lvn_le (f := fun j => decide (SZ (FB t j) ≤ (if j = n0 then FP t n0 + 1 else FP t j))) (n0 + 1)
  rw [hD1] at L1 L2 L3
  have sto : ∀ C a, a < 124 ∨ 128 < a → stH C t n0 st (FP t n0) (A 125 t) a = C a := fun C a ha => by
    funext b
    rw [stH, u_nc (by omega), u_nc (by omega), u_nc (by omega), u_nc (by omega), u_nc (by omega)]
  have st124 : ∀ C, (∀ a, 111 ≤ a → C a = A a) → ∀ x, stH C t n0 st (FP t n0) (A 125 t) 124 x = if x = 8 * t + n0 then nI (FP t n0 + 1) else A 124 x := fun C hC x => by
    rw [stH]
    by_cases h : x = 8 * t + n0
    · rw [if_pos h, h]; exact u_eq
    · rw [if_neg h, u_ni h, u_nc (by omega), u_nc (by omega), u_nc (by omega), u_nc (by omega), hC 124 (by omega)]
  have st125 : ∀ C, (∀ a, 111 ≤ a → C a = A a) → ∀ u, stH C t n0 st (FP t n0) (A 125 t) 125 u = if u = t then nI st else A 125 u := fun C hC u => by
    rw [stH, u_nc (by omega)]
    by_cases hk : u = t
    · rw [if_pos hk, hk]; exact u_eq
    · rw [if_neg hk, u_ni hk, u_nc (by omega), u_nc (by omega), u_nc (by omega), hC 125 (by omega)]
  have st128 : ∀ C, (∀ a, 111 ≤ a → C a = A a) → ∀ k, stH C t n0 st (FP t n0) (A 125 t) 128 k = if k = st then -1 else A 128 k := fun C hC k => by
    rw [stH, u_nc (by omega), u_nc (by omega)]
    by_cases hk : k = st
    · rw [if_pos hk, hk]; exact u_eq
    · rw [if_neg hk, u_ni hk, u_nc (by omega), u_nc (by omega), hC 128 (by omega)]
  have stn : ∀ C, (∀ a, 111 ≤ a → C a = A a) → nst A (stH C t n0 st (FP t n0) (A 125 t)) st (A 125 t) (-1) := fun C hC => by
    constructor
    · intro k
      rw [stH, u_nc (by omega), u_nc (by omega), u_nc (by omega), u_nc (by omega)]
      by_cases hk : k = st
      · rw [if_pos hk, hk]; exact u_eq
      · rw [if_neg hk, u_ni hk, hC 126 (by omega)]
    · intro k
      rw [stH, u_nc (by omega), u_nc (by omega), u_nc (by omega)]
      by_cases hk : k = st
      · rw [if_pos hk, hk]; exact u_eq
      · rw [if_neg hk, u_ni hk, u_nc (by omega), hC 127 (by omega)]
  have tk58 : ∀ u, mvH (tkH A t st) t n0 (FP t n0) (58 + 4 * t) u = if u = t then nI (st + 1) else A (58 + 4 * t) u := fun u => by
    rw [eM _ (by omega), tkH]
    by_cases h : u = t
    · rw [if_pos h, h]; exact u_eq
    · rw [if_neg h, u_ni h, u_nc (by omega)]
  have ex1 : ∀ A', (∃ A1, nrH (mvH (tkH A t st) t n0 (FP t n0)) rc st t c (nI w) A1 ∧ aC A1 A' t c w st v x) → (∀ a, a ≠ 49 → a ≠ 53 → a ≠ 54 → a ≠ 55 + 4 * t → a ≠ 57 + 4 * t → a ≠ 58 + 4 * t → a ≠ 87 + 3 * c → a ≠ 88 + 3 * c + w → A' a = A a) ∧ (∀ j, A' (57 + 4 * t) j = if j = n0 then nI (FP t n0 + 1) else A (57 + 4 * t) j) ∧ (∀ u, A' (58 + 4 * t) u = if u = t then nI (st + 1) else A (58 + 4 * t) u) ∧ A' 49 = tkH A t st 49 ∧ (∀ j, j ≠ 5 → A' (55 + 4 * t) j = A (55 + 4 * t) j) ∧ (∀ u, A' (88 + 3 * c + w) u = if u = t then nI (st + 1) else A (88 + 3 * c + w) u) ∧ A' (55 + 4 * t) 5 = v ∧ A' (87 + 3 * c) 2 = x := by
    intro A' ⟨A1, h1, a1, a2, a3, a4, a5⟩
    refine ⟨fun a g1 g2 g3 g4 g5 g6 g7 g8 => ?_, fun j => ?_, fun u => ?_, ?_, fun j hj => ?_, fun u => ?_, a4, a5⟩
    · rw [a1 a g8 g4 g7, nrH_o h1 g2 g3, eM a g5, eT a g1 g6]
    · rw [a1 _ (by omega) (by omega) (by omega), nrH_o h1 (by omega) (by omega), mvH]
      by_cases h : j = n0
      · rw [if_pos h, h]; exact u_eq
      · rw [if_neg h, u_ni h, eT _ (by omega) (by omega)]
    · rw [a1 _ (by omega) (by omega) (by omega), nrH_o h1 (by omega) (by omega)]; exact tk58 u
    · rw [a1 _ (by omega) (by omega) (by omega), nrH_o h1 (by omega) (by omega), eM _ (by omega)]
    · rw [a3 j hj, nrH_o h1 (by omega) (by omega), eM _ (by omega), eT _ (by omega) (by omega)]
    · rw [a2, nrH_o h1 (by omega) (by omega), eM _ (by omega), eT _ (by omega) (by omega)]
  have hCo : ∀ A', (∃ A1, nrH (mvH (tkH A t st) t n0 (FP t n0)) rc st t c (nI w) A1 ∧ aC A1 A' t c w st v x) → ∀ a, 111 ≤ a → pm_u A' (55 + 4 * t) 4 (nI D1) a = A a := fun A' hA' a ha => by
    funext b
    rw [u_nc (by omega), (ex1 A' hA').1 a (by omega) (by omega) (by omega) (by omega) (by omega) (by omega) (by omega) (by omega)]
  refine step_gen (n1 := n0 + 1) (fb := FB t) (fp := fun j => if j = n0 then FP t n0 + 1 else FP t j) (RC := fun A' => ∃ A1, nrH (mvH (tkH A t st) t n0 (FP t n0)) rc st t c (nI w) A1 ∧ aC A1 A' t c w st v x) (RD := fun A' A'' => ∃ B A1, mtH (stH (pm_u A' (55 + 4 * t) 4 (nI D1)) t n0 st (FP t n0) (A 125 t)) st rc (nI (16 * t + 2 * c + w)) B (∃ k, k < st ∧ rcd (stH (pm_u A' (55 + 4 * t) 4 (nI D1)) t n0 st (FP t n0) (A 125 t)) st t c w k) A1 ∧ aM A1 A'' t c v x) k is it il htT hD s4 hw hX (fun A' hA' => ?_) (by omega) hfr (fun A' hA' => ?_) (fun A' A'' hA' hA'' => ?_) (fun A' A'' hA' hA'' => ?_)
  · obtain ⟨g1, g2, g3, g4, g5, g6, g7, g8⟩ := ex1 A' hA'
    refine ⟨by rw [g5 4 (by omega), dc, hD], fun j hj => ?_, fun a ha => g1 a (by omega) (by omega) (by omega) (by omega) (by omega) (by omega) (by omega) (by omega), fun a ha => g1 a (by omega) (by omega) (by omega) (by omega) (by omega) (by omega) (by omega) (by omega)⟩
    obtain ⟨f1, f2, f3, f4, f5, f6⟩ := it.frm t htT j (by omega)
    refine ⟨by rw [g1 _ (by omega) (by omega) (by omega) (by omega) (by omega) (by omega) (by omega) (by omega)]; exact f3, ?_⟩
    rw [g2]
    show _ = nI (if j = n0 then FP t n0 + 1 else FP t j)
    by_cases h : j = n0
    · rw [if_pos h, if_pos h]
    · rw [if_neg h, if_neg h]; exact f5
  · have hC := hCo A' hA'
    rw [hD1]
    generalize pm_u A' (55 + 4 * t) 4 (nI D1) = C at hC
    refine hY C hC (fun q hq => ?_) (fun q hq => ?_)
    · have h := stn C hC
      by_cases hqs : q = st
      · subst hqs
        unfold edb
        rw [h.1 q, h.2 q, if_pos rfl, if_pos rfl]
        exact ⟨ik.lat t htT, Or.inl rfl⟩
      · exact (nst_edb h hqs).mpr (ik.edg q (by omega))
    · unfold acv
      rw [st128 C hC, if_neg (by omega)]
      rcases ia.acs q hq with g | ⟨c1, w1, g1, g2, g3⟩
      · exact Or.inl g
      · exact Or.inr ⟨TH q, c1, w1, by have := ik.thr q hq; omega, g1, g2, g3⟩
  · have hC := hCo A' hA'
    generalize pm_u A' (55 + 4 * t) 4 (nI D1) = C at hC hA''
    obtain ⟨B, Z1, hm, m1, m2, m3⟩ := hA''
    obtain ⟨o1, o2, o3⟩ := mtH_o hm
    refine ⟨by rw [m1 111 (by omega) (by omega), o2 17 (by omega), sto C 111 (by omega), hC 111 (by omega)]; exact it.mst, by rw [m1 122 (by omega) (by omega), o1 122 (by omega) (by omega) (by omega) (by omega), sto C 122 (by omega), hC 122 (by omega), dm, hD], fun j hj => ?_, by rw [m1 114 (by omega) (by omega), o1 114 (by omega) (by omega) (by omega) (by omega), sto C 114 (by omega), hC 114 (by omega)]⟩
    obtain ⟨f1, f2, f3, f4, f5, f6⟩ := it.frm t htT j (by omega)
    refine ⟨by rw [m1 123 (by omega) (by omega), o1 123 (by omega) (by omega) (by omega) (by omega), sto C 123 (by omega), hC 123 (by omega)]; exact f4, ?_⟩
    rw [m1 124 (by omega) (by omega), o1 124 (by omega) (by omega) (by omega) (by omega), st124 C hC]
    show _ = nI (if j = n0 then FP t n0 + 1 else FP t j)
    by_cases h : j = n0
    · rw [if_pos h, if_pos (by omega)]
    · rw [if_neg h, if_neg (by omega)]; exact f6
  · rw [hD1]
    have hCC := hCo A' hA'
    obtain ⟨g1, g2, g3, g4, g5, g6, g7, g8⟩ := ex1 A' hA'
    generalize hC : pm_u A' (55 + 4 * t) 4 (nI D1) = C at hCC hA''
    obtain ⟨B, Z1, hm, m1, m2, m3⟩ := hA''
    obtain ⟨A1, hnr, ha⟩ := hA'
    obtain ⟨o1, o2, o3⟩ := mtH_o hm
    generalize hA2 : pm_u (pm_u A'' 122 t (nI D1)) 111 17 (nI (st + 1)) = A2
    have z1 : ∀ a, a ≠ 111 → a ≠ 122 → A2 a = A'' a := fun a h1 h2 => by
      funext b
      rw [← hA2, u_nc h1, u_nc h2]
    have z2 : ∀ a, a ≠ 111 → a ≠ 117 → a ≠ 121 → a ≠ 122 → a ≠ 128 → a ≠ 129 → a ≠ 130 → A2 a = stH C t n0 st (FP t n0) (A 125 t) a := fun a h1 h2 h3 h4 h5 h6 h7 => by
      rw [z1 a h1 h4, m1 a h3 h2, o1 a h1 h5 h6 h7]
    have c1 : ∀ a, a < 111 → A2 a = C a := fun a ha => by rw [z2 a (by omega) (by omega) (by omega) (by omega) (by omega) (by omega) (by omega), sto C a (by omega)]
    have c2 : ∀ a, a < 111 → a ≠ 55 + 4 * t → A2 a = A' a := fun a ha h => by
      rw [c1 a ha, ← hC]
      funext b
      rw [u_nc h]
    have eo : ∀ a, a < 111 → a ≠ 49 → a ≠ 53 → a ≠ 54 → a ≠ 55 + 4 * t → a ≠ 57 + 4 * t → a ≠ 58 + 4 * t → a ≠ 87 + 3 * c → a ≠ 88 + 3 * c + w → A2 a = A a := fun a h0 h1 h2 h3 h4 h5 h6 h7 h8 => by
      rw [c2 a h0 h4, g1 a h1 h2 h3 h4 h5 h6 h7 h8]
    have er : ∀ a, 112 ≤ a → a < 124 → a ≠ 117 → a ≠ 121 → a ≠ 122 → A2 a = A a := fun a h1 h2 h3 h4 h5 => by
      rw [z2 a (by omega) (by omega) (by omega) (by omega) (by omega) (by omega) (by omega), sto C a (by omega), hCC a (by omega)]
    have e111 : ∀ j, j ≠ 17 → j ≠ 22 → A2 111 j = A 111 j := fun j hj hj2 => by
      rw [← hA2, u_ni hj, u_nc (by omega), m1 111 (by omega) (by omega), o2 j hj2, sto C 111 (by omega), hCC 111 (by omega)]
    have hs := stn C hCC
    have hn : nst A A2 st (A 125 t) (-1) := by
      refine ⟨fun q => ?_, fun q => ?_⟩
      · rw [z2 126 (by omega) (by omega) (by omega) (by omega) (by omega) (by omega) (by omega)]; exact hs.1 q
      · rw [z2 127 (by omega) (by omega) (by omega) (by omega) (by omega) (by omega) (by omega)]; exact hs.2 q
    have h128 : ∀ k, A2 128 k = if k = st then nI (16 * t + 2 * c + w) else A 128 k := fun k => by
      rw [z1 128 (by omega) (by omega), m1 128 (by omega) (by omega), o3]
      by_cases hk : k = st
      · rw [if_pos hk, if_pos hk]
      · rw [if_neg hk, if_neg hk, st128 C hCC, if_neg hk]
    have h125 : ∀ u, A2 125 u = if u = t then nI st else A 125 u := fun u => by
      rw [z2 125 (by omega) (by omega) (by omega) (by omega) (by omega) (by omega) (by omega)]; exact st125 C hCC u
    have h121 : ∀ u, A2 121 u = if u = t then v else A 121 u := fun u => by
      rw [z1 121 (by omega) (by omega), m2, o1 121 (by omega) (by omega) (by omega) (by omega), sto C 121 (by omega), hCC 121 (by omega)]
    have h117 : ∀ u, A2 117 u = if u = c then x else A 117 u := fun u => by
      rw [z1 117 (by omega) (by omega), m3, o1 117 (by omega) (by omega) (by omega) (by omega), sto C 117 (by omega), hCC 117 (by omega)]
    have h124 : ∀ u, A2 124 u = if u = 8 * t + n0 then nI (FP t n0 + 1) else A 124 u := fun u => by
      rw [z2 124 (by omega) (by omega) (by omega) (by omega) (by omega) (by omega) (by omega)]; exact st124 C hCC u
    have eK : KS A2 = KS A := KS_cg (er 112 (by omega) (by omega) (by omega) (by omega) (by omega))
    have eN : NS A2 = NS A := NS_cg (er 113 (by omega) (by omega) (by omega) (by omega) (by omega))
    have hre := race_eq (Ac := mvH (tkH A t st) t n0 (FP t n0)) (w := w) ik ia T6 htT s4 hc hw2 hs (fun q hq => by rw [st128 C hCC, if_neg (by omega)]) (fun u _ => tk58 u) (fun u _ z hz => by rw [eM _ (by omega), eT _ (by omega) (by omega)])
    obtain ⟨rc', hlog⟩ := log_eq (A := A) (A2 := A2) hw2 hnr hm hre (by rw [eM _ (by omega), eT _ (by omega) (by omega)]) (by rw [eM _ (by omega), eT _ (by omega) (by omega)]) (by rw [sto C 130 (by omega), hCC 130 (by omega)]) (by rw [sto C 111 (by omega), hCC 111 (by omega)]) (by rw [c2 _ (by omega) (by omega), ha.1 _ (by omega) (by omega) (by omega)]) (by rw [c2 _ (by omega) (by omega), ha.1 _ (by omega) (by omega) (by omega)]) (by rw [z1 130 (by omega) (by omega), m1 130 (by omega) (by omega)]) (by rw [← hA2, u_ni (by omega), u_nc (by omega), m1 111 (by omega) (by omega)])
    refine ⟨n, SZ, bq, T, st + 1, rc', fun u => if u = t then D1 else D u, TM, thn TH st t, FB, fun u => if u = t then (fun j => if j = n0 then FP t n0 + 1 else FP t j) else FP u, is.cong (fun a ha => eo a (by omega) (by omega) (by omega) (by omega) (by omega) (by omega) (by omega) (by omega) (by omega)) (fun a h1 h2 => er a h1 (by omega) (by omega) (by omega) (by omega)) (e111 4 (by omega) (by omega)), it.step (by omega) (by omega) T6 s4 ?_ ?_ (e111 6 (by omega) (by omega)) (fun u hu => ?_) ?_ ?_ (fun e he => ?_) (fun u hu => ?_), ⟨fun z => absurd z (by omega), fun _ l hl => ?_⟩, ik.step s4 htT (Nat.le_refl _) hn (Or.inl rfl) (fun u hu hut => ⟨?_, ?_⟩) (fun u hu hut => ?_) (fun l hl => Or.inl ⟨?_, ?_⟩), ia.acc (by omega) hc hw2 h128 (fun u => ?_) (fun e he z hz hne => ?_) hlog s4⟩
    · rw [c2 49 (by omega) (by omega), g4, tkH, u_nc (by omega), u_ni (by omega)]; exact it.cT
    · rw [e111 11 (by omega) (by omega)]; exact it.mT
    · by_cases hut : u = t
      · rw [hut, c1 _ (by omega), ← hC, u_ni (by omega), g5 0 (by omega)]
      · rw [eo _ (by omega) (by omega) (by omega) (by omega) (by omega) (by omega) (by omega) (by omega) (by omega)]
    · rw [c2 49 (by omega) (by omega), g4, tkH, u_nc (by omega)]; exact u_eq
    · rw [← hA2]; exact u_eq
    · rw [h117]
      by_cases hec : e = c
      · rw [if_pos hec, hec, c2 _ (by omega) (by omega)]; exact g8
      · rw [if_neg hec, eo _ (by omega) (by omega) (by omega) (by omega) (by omega) (by omega) (by omega) (by omega) (by omega)]; exact it.cel e he
    · by_cases hut : u = t
      · subst hut
        show ITt n SZ A2 u (if u = u then D1 else D u) (FB u) (if u = u then (fun j => if j = n0 then FP u n0 + 1 else FP u j) else FP u)
        rw [if_pos rfl, if_pos rfl]
        refine ⟨?_, by omega, ?_, ?_, fun j hj => ?_, fun j hj => ?_⟩
        · rw [c1 _ (by omega), ← hC, u_ni (by omega), g7, h121, if_pos rfl]
        · rw [c1 _ (by omega), ← hC]; exact u_eq
        · rw [← hA2, u_nc (by omega)]; exact u_eq
        · obtain ⟨f1, f2, f3, f4, f5, f6⟩ := it.frm u htT j (by omega)
          refine ⟨f1, (hfr j (by omega)).2, by rw [eo _ (by omega) (by omega) (by omega) (by omega) (by omega) (by omega) (by omega) (by omega) (by omega)]; exact f3, by rw [er 123 (by omega) (by omega) (by omega) (by omega) (by omega)]; exact f4, ?_, ?_⟩
          · rw [c2 _ (by omega) (by omega), g2]
            show _ = nI (if j = n0 then FP u n0 + 1 else FP u j)
            by_cases h : j = n0
            · rw [if_pos h, if_pos h]
            · rw [if_neg h, if_neg h]; exact f5
          · rw [h124]
            show _ = nI (if j = n0 then FP u n0 + 1 else FP u j)
            by_cases h : j = n0
            · rw [if_pos h, if_pos (by omega)]
            · rw [if_neg h, if_neg (by omega)]; exact f6
        · have w2 := (hfr j (by omega)).2
          have := of_decide_eq_false (L2 j hj)
          show (if j = n0 then FP u n0 + 1 else FP u j) < SZ (FB u j)
          omega
      · show ITt n SZ A2 u (if u = t then D1 else D u) (FB u) (if u = t then (fun j => if j = n0 then FP t n0 + 1 else FP t j) else FP u)
        rw [if_neg hut, if_neg hut]
        refine (it.thr hu).cong ?_ ?_ ?_ ?_ ?_ ?_ (fun j hj => ?_) (fun j hj => ?_)
        · rw [eo _ (by omega) (by omega) (by omega) (by omega) (by omega) (by omega) (by omega) (by omega) (by omega)]
        · rw [h121, if_neg hut]
        · rw [eo _ (by omega) (by omega) (by omega) (by omega) (by omega) (by omega) (by omega) (by omega) (by omega)]
        · rw [← hA2, u_nc (by omega), u_ni hut, m1 122 (by omega) (by omega), o1 122 (by omega) (by omega) (by omega) (by omega), sto C 122 (by omega), hCC 122 (by omega)]
        · rw [eo _ (by omega) (by omega) (by omega) (by omega) (by omega) (by omega) (by omega) (by omega) (by omega)]
        · rw [eo _ (by omega) (by omega) (by omega) (by omega) (by omega) (by omega) (by omega) (by omega) (by omega)]
        · rw [er 123 (by omega) (by omega) (by omega) (by omega) (by omega)]
        · rw [h124, if_neg (by omega)]
    · have et : tot A2 FB (fun u => if u = t then (fun j => if j = n0 then FP t n0 + 1 else FP t j) else FP u) (fun u => if u = t then D1 else D u) T l = tot A FB FP D T l := by
        refine sm_cg T (fun u hu => ?_)
        show ct A2 (FB u) (if u = t then (fun j => if j = n0 then FP t n0 + 1 else FP t j) else FP u) (if u = t then D1 else D u) l = ct A (FB u) (FP u) (D u) l
        have ec : ∀ f g m, ct A2 f g m l = ct A f g m l := fun f g m => by simp only [ct, eK, eN]
        rw [ec]
        by_cases hut : u = t
        · subst hut
          rw [if_pos rfl, if_pos rfl, ← hD1, ct_lvn (t := u) is hfr, hcs l]
        · rw [if_neg hut, if_neg hut]
      rw [eo _ (by omega) (by omega) (by omega) (by omega) (by omega) (by omega) (by omega) (by omega) (by omega), er 118 (by omega) (by omega) (by omega) (by omega) (by omega), er 119 (by omega) (by omega) (by omega) (by omega) (by omega), et]
      exact il.lks (by omega) l hl
    · rw [h125, if_neg hut]
    · rw [eo _ (by omega) (by omega) (by omega) (by omega) (by omega) (by omega) (by omega) (by omega) (by omega)]
    · have : u = t := by omega
      subst this
      exact ⟨by rw [h125, if_pos rfl], ck_tick ik htT s4 hn (fun w _ => by rw [c2 _ (by omega) (by omega)]; exact g3 w) (by omega)⟩
    · rw [er 120 (by omega) (by omega) (by omega) (by omega) (by omega)]
    · rw [eo _ (by omega) (by omega) (by omega) (by omega) (by omega) (by omega) (by omega) (by omega) (by omega)]
    · rw [c2 _ (by omega) (by omega)]; exact g6 u
    · rw [eo _ (by omega) (by omega) (by omega) (by omega) (by omega) (by omega) (by omega) (by omega) (by omega)]
end ACCESS
