section PLACE
variable {d : Nat} {SL : Nat} {S : Nat → Nat × Nat} {A : Nat → Nat → Int32} {P : Nat → Nat → Option Nat}
variable {n : Nat} {SZ bq : Nat → Nat} {T st rc : Nat} {D TM TH : Nat → Nat} {FB FP : Nat → Nat → Nat}
/-- thread t moves to place p', with the value v -/
def XP (A : Nat → Nat → Int32) (t n0 st p' : Nat) (v : Int32) : Nat → Nat → Int32 := pm_u (pm_u (tkH A t st) (57 + 4 * t) n0 (nI p')) (55 + 4 * t) 5 v
def YP (H : Nat → Nat → Int32) (t n0 p' : Nat) (v : Int32) : Nat → Nat → Int32 := pm_u (pm_u H 124 (8 * t + n0) (nI p')) 121 t v
theorem step_place {t n0 p' : Nat} {v : Int32} (k : KK S P) (is : IS n SZ bq A P) (it : IT n SZ T st D FB FP A) (il : IL T D FB FP TM A) (ik : IK T st TH A) (ia : IA st rc TH A) (htT : t < T) (hD : D t = n0 + 1) (s4 : st < 4000) (hw : wt_ (KS A (FB t n0) (FP t n0)) (A 118 (tl_ A D FB FP t)) (nI t) = 0)
    (hX : EE (d + 3) M_Ru_perform [.ref 49, .ref (55 + 4 * t)] SL S (tkH A t st) P (fun r => r = ((131, SL, S, XP A t n0 st p' v, P), none)))
    (hY : ∀ C, (∀ a, 111 ≤ a → C a = A a) → EE (d + 3) M_Mo_does [.ref 111, .int (nI t), .int (nI (FB t n0)), .int (nI (FP t n0))] SL S (stH C t n0 st (FP t n0) (A 125 t)) P (fun r => r = ((131, SL, S, YP (stH C t n0 st (FP t n0) (A 125 t)) t n0 p' v, P), none)))
    (hp' : p' ≤ SZ (FB t n0)) (hcs : ∀ l, l < 4 → cs (KS A (FB t n0)) (NS A (FB t n0)) l (bk_st (KS A (FB t n0)) p') = cs (KS A (FB t n0)) (NS A (FB t n0)) l (bk_st (KS A (FB t n0)) (FP t n0))) : OP d M_Lo_step M_Mo_step [.int (nI t)] SL S A P := by
  have T6 := it.T6
  obtain ⟨d8, dc, dm⟩ := it.dep t htT
  have sto : ∀ C a, a < 124 ∨ 128 < a → stH C t n0 st (FP t n0) (A 125 t) a = C a := fun C a ha => by
    funext b
    rw [stH, u_nc (by omega), u_nc (by omega), u_nc (by omega), u_nc (by omega), u_nc (by omega)]
  refine step_local (n1 := n0 + 1) (fb := FB t) (fp := fun j => if j = n0 then p' else FP t j) (v := v) (X := XP A t n0 st p' v) (Y := fun C => YP (stH C t n0 st (FP t n0) (A 125 t)) t n0 p' v) k is it il ik ia htT hD s4 hw hX (fun a h1 h2 h3 => ?_) ?_ ?_ ?_ (fun j hj => ?_) (by omega) (fun j hj => ?_) hY (fun C hC a ha => ?_) (fun C hC => ?_) (fun C hC u hu hut => ?_) (fun l hl => ?_)
  · funext b
    rw [XP, u_nc h1, u_nc h3]
  · rw [XP, u_ni (by omega), u_nc (by omega), tkH, u_nc (by omega), u_nc (by omega)]
  · rw [XP]; exact u_eq
  · rw [XP, u_ni (by omega), u_nc (by omega), tkH, u_nc (by omega), u_nc (by omega), dc, hD]
  · obtain ⟨f1, f2, f3, f4, f5, f6⟩ := it.frm t htT j (by omega)
    refine ⟨by rw [XP, u_nc (by omega), u_nc (by omega), tkH, u_nc (by omega), u_nc (by omega)]; exact f3, ?_⟩
    rw [XP, u_nc (by omega)]
    show _ = nI (if j = n0 then p' else FP t j)
    by_cases hj0 : j = n0
    · rw [if_pos hj0, hj0]; exact u_eq
    · rw [if_neg hj0, u_ni hj0, tkH, u_nc (by omega), u_nc (by omega)]; exact f5
  · obtain ⟨f1, f2, -⟩ := it.frm t htT j (by omega)
    refine ⟨f1, ?_⟩
    show (if j = n0 then p' else FP t j) ≤ SZ (FB t j)
    by_cases hj0 : j = n0
    · rw [if_pos hj0, hj0]; exact hp'
    · rw [if_neg hj0]; exact f2
  · show YP (stH C t n0 st (FP t n0) (A 125 t)) t n0 p' v a = _
    funext b
    rw [YP, u_nc (by omega), u_nc (by omega)]
  · show YP (stH C t n0 st (FP t n0) (A 125 t)) t n0 p' v 121 t = v ∧ YP (stH C t n0 st (FP t n0) (A 125 t)) t n0 p' v 122 t = _ ∧ ∀ j, j < n0 + 1 → YP (stH C t n0 st (FP t n0) (A 125 t)) t n0 p' v 123 (8 * t + j) = _ ∧ YP (stH C t n0 st (FP t n0) (A 125 t)) t n0 p' v 124 (8 * t + j) = nI (if j = n0 then p' else FP t j)
    refine ⟨by rw [YP]; exact u_eq, by rw [YP, u_nc (by omega), u_nc (by omega), sto C 122 (by omega), hC 122 (by omega), dm, hD], fun j hj => ?_⟩
    obtain ⟨f1, f2, f3, f4, f5, f6⟩ := it.frm t htT j (by omega)
    refine ⟨by rw [YP, u_nc (by omega), u_nc (by omega), sto C 123 (by omega), hC 123 (by omega)]; exact f4, ?_⟩
    rw [YP, u_nc (by omega)]
    by_cases hj0 : j = n0
    · rw [if_pos hj0, hj0]; exact u_eq
    · rw [if_neg hj0, u_ni (by omega), stH, u_ni (by omega), u_nc (by omega), u_nc (by omega), u_nc (by omega), u_nc (by omega), hC 124 (by omega)]; exact f6
  · show YP (stH C t n0 st (FP t n0) (A 125 t)) t n0 p' v 121 u = _ ∧ YP (stH C t n0 st (FP t n0) (A 125 t)) t n0 p' v 122 u = _ ∧ ∀ j, j < 8 → YP (stH C t n0 st (FP t n0) (A 125 t)) t n0 p' v 123 (8 * u + j) = _ ∧ YP (stH C t n0 st (FP t n0) (A 125 t)) t n0 p' v 124 (8 * u + j) = _
    refine ⟨by rw [YP, u_ni hut, u_nc (by omega), sto C 121 (by omega), hC 121 (by omega)], by rw [YP, u_nc (by omega), u_nc (by omega), sto C 122 (by omega), hC 122 (by omega)], fun j hj => ⟨by rw [YP, u_nc (by omega), u_nc (by omega), sto C 123 (by omega), hC 123 (by omega)], ?_⟩⟩
    rw [YP, u_nc (by omega), u_ni (by omega), stH, u_ni (by omega), u_nc (by omega), u_nc (by omega), u_nc (by omega), u_nc (by omega), hC 124 (by omega)]
  · rw [hD]
    unfold ct
    rw [sm, sm]
    congr 1
    · refine sm_cg n0 (fun j hj => ?_)
      show cs _ _ l (bk_st _ (if j = n0 then p' else FP t j)) = _
      rw [if_neg (by omega)]
    · show cs _ _ l (bk_st _ (if n0 = n0 then p' else FP t n0)) = _
      rw [if_pos rfl]
      exact hcs l hl
/-- where a thread stands while it performs -/
theorem tk_top {t n0 : Nat} (k : KK S P) (is : IS n SZ bq A P) (it : IT n SZ T st D FB FP A) (htT : t < T) (hD : D t = n0 + 1) : tpC S (tkH A t st) P t n0 (FB t n0) (bq (FB t n0)) (FP t n0) ∧ (∀ i, i < SZ (FB t n0) → tkH A t st (bq (FB t n0) + 1) i = KS A (FB t n0) i ∧ tkH A t st (bq (FB t n0) + 2) i = NS A (FB t n0) i) ∧ tkH A t st (bq (FB t n0) + 3) = A (bq (FB t n0) + 3) ∧ FB t n0 < n ∧ FP t n0 < SZ (FB t n0) ∧ SZ (FB t n0) ≤ 64 := by
  have T6 := it.T6
  have n8 := is.n8
  obtain ⟨d8, dc, dm⟩ := it.dep t htT
  obtain ⟨f1, f2, f3, f4, f5, f6⟩ := it.frm t htT n0 (by omega)
  have f7 := it.top t htT n0 hD
  have z64 := is.s64 _ (Or.inl f1)
  have q45 := is.q45 (b := FB t n0) (by omega)
  have eT : ∀ a, a ≠ 49 → a ≠ 58 + 4 * t → tkH A t st a = A a := fun a h1 h2 => by
    funext b
    rw [tkH, u_nc h2, u_nc h1]
  refine ⟨⟨by rw [eT _ (by omega) (by omega), dc, hD], by omega, by rw [eT _ (by omega) (by omega)]; exact f3, by omega, is.pbs _ (by omega), k.bq is (by omega), q45.2, by rw [eT _ (by omega) (by omega)]; exact f5, by omega⟩, fun i hi => ?_, eT _ (by omega) (by omega), f1, f7, z64⟩
  rw [eT _ (by omega) (by omega), eT _ (by omega) (by omega)]
  exact is.ckn _ (Or.inl f1) i hi
/-- what the reference sees while it does -/
theorem st_top {C : Nat → Nat → Int32} {t n0 : Nat} (it : IT n SZ T st D FB FP A) (htT : t < T) (hD : D t = n0 + 1) (hC : ∀ a, 111 ≤ a → C a = A a) : stH C t n0 st (FP t n0) (A 125 t) 122 t = nI (n0 + 1) ∧ KS (stH C t n0 st (FP t n0) (A 125 t)) = KS A ∧ NS (stH C t n0 st (FP t n0) (A 125 t)) = NS A ∧ (∀ a, 111 ≤ a → a < 124 → stH C t n0 st (FP t n0) (A 125 t) a = A a) := by
  have sto : ∀ a, 111 ≤ a → a < 124 → stH C t n0 st (FP t n0) (A 125 t) a = A a := fun a h1 h2 => by
    funext b
    rw [stH, u_nc (by omega), u_nc (by omega), u_nc (by omega), u_nc (by omega), u_nc (by omega), hC a h1]
  obtain ⟨d8, dc, dm⟩ := it.dep t htT
  exact ⟨by rw [sto 122 (by omega) (by omega), dm, hD], KS_cg (sto 112 (by omega) (by omega)), NS_cg (sto 113 (by omega) (by omega)), sto⟩
theorem stH_p {C : Nat → Nat → Int32} {t n0 p : Nat} {x : Int32} : pm_u (stH C t n0 st p x) 124 (8 * t + n0) (nI (p + 1)) = stH C t n0 st p x := by rw [stH, u_uu]
theorem cs_no {ks ns : Nat → Int32} {l p : Nat} (h : bk_op (ks p) = false) (h5 : ¬ ks p = 5) : cs ks ns l (bk_st ks (p + 1)) = cs ks ns l (bk_st ks p) := by rw [bk_st_no h h5]
theorem s_addset {t n0 : Nat} (k : KK S P) (is : IS n SZ bq A P) (it : IT n SZ T st D FB FP A) (il : IL T D FB FP TM A) (ik : IK T st TH A) (ia : IA st rc TH A) (htT : t < T) (hD : D t = n0 + 1) (s4 : st < 4000) (hk : KS A (FB t n0) (FP t n0) = 2 ∨ KS A (FB t n0) (FP t n0) = 3) : OP d M_Lo_step M_Mo_step [.int (nI t)] SL S A P := by
  have T6 := it.T6
  obtain ⟨tp, tk, -, hb, hp, z64⟩ := tk_top k is it htT hD
  obtain ⟨t1, t2⟩ := tk _ hp
  have hw : wt_ (KS A (FB t n0) (FP t n0)) (A 118 (tl_ A D FB FP t)) (nI t) = 0 := by rcases hk with h | h <;> rw [h] <;> rfl
  have hval := it.val t htT
  have e5 : tkH A t st (55 + 4 * t) 5 = A 121 t := by rw [tkH, u_nc (by omega), u_nc (by omega)]; exact hval
  have n8 := is.n8
  rcases hk with h | h
  · refine step_place (p' := FP t n0 + 1) (v := A 121 t + NS A (FB t n0) (FP t n0)) k is it il ik ia htT hD s4 hw (pm_E.ups (pm_E.weaken (p_add (d := d) k.1 (by omega) tp (by rw [t1]; exact h)) (fun r hr => ?_)) (by omega)) (fun C hC => ?_) (by omega) (fun l hl => cs_no (by rw [h]; rfl) (by rw [h]; decide))
    · rw [hr, e5, t2]; rfl
    · obtain ⟨g1, g2, g3, g4⟩ := st_top it htT hD hC
      refine pm_E.ups (pm_E.weaken (d_add (d := d) (n := n0) k.2.1 (by omega) g1 (by omega) (by omega) (by rw [g2]; exact h)) (fun r hr => ?_)) (by omega)
      rw [hr, g3, YP, stH_p, g4 121 (by omega) (by omega)]
  · refine step_place (p' := FP t n0 + 1) (v := NS A (FB t n0) (FP t n0)) k is it il ik ia htT hD s4 hw (pm_E.ups (pm_E.weaken (p_set (d := d) k.1 (by omega) tp (by rw [t1]; exact h)) (fun r hr => ?_)) (by omega)) (fun C hC => ?_) (by omega) (fun l hl => cs_no (by rw [h]; rfl) (by rw [h]; decide))
    · rw [hr, t2]; rfl
    · obtain ⟨g1, g2, g3, g4⟩ := st_top it htT hD hC
      refine pm_E.ups (pm_E.weaken (d_set (d := d) (n := n0) k.2.1 (by omega) g1 (by omega) (by omega) (by rw [g2]; exact h)) (fun r hr => ?_)) (by omega)
      rw [hr, g3, YP, stH_p]
end PLACE
