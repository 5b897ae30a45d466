section GROUPS
variable {A A2 : Nat → Nat → Int32} {n st t T rc : Nat} {SZ D TH : Nat → Nat} {FB FP : Nat → Nat → Nat}
theorem IA.plain (ia : IA st rc TH A) (h128 : ∀ k, A2 128 k = if k = st then -1 else A 128 k) (hr : ∀ c, c < 8 → ∀ w, w < 2 → A2 (88 + 3 * c + w) = A (88 + 3 * c + w)) (h53 : A2 53 = A 53) (h54 : A2 54 = A 54) (h130 : A2 130 = A 130) (h22 : A2 111 22 = A 111 22) : IA (st + 1) rc (thn TH st t) A2 := by
  have rcs := ia.rcs
  have o128 : ∀ k, k < st → A2 128 k = A 128 k := fun k hk => by rw [h128, if_neg (by omega)]
  have oth : ∀ k, k < st → thn TH st t k = TH k := fun k hk => by rw [thn, if_neg (by omega)]
  refine ⟨by omega, by rw [h53]; exact ia.crc, by rw [h22]; exact ia.mrc, fun k hk => ?_, fun c hc w hw u hu => ?_, fun j hj hj6 => ?_⟩
  · by_cases hks : k = st
    · exact Or.inl (by rw [h128, if_pos hks])
    · rw [o128 k (by omega), oth k (by omega)]; exact ia.acs k (by omega)
  · obtain ⟨r, h1, h2, h3, h4⟩ := ia.rws c hc w hw u hu
    refine ⟨r, by omega, by rw [hr c hc w hw]; exact h2, fun k hk hth ha => ?_, fun z => ?_⟩
    · by_cases hks : k = st
      · rw [h128, if_pos hks] at ha
        exact absurd ha.symm (nI_m1 (by omega))
      · rw [oth k (by omega)] at hth
        rw [o128 k (by omega)] at ha
        exact h3 k (by omega) hth ha
    · rw [oth _ (by omega), o128 _ (by omega)]; exact h4 z
  · obtain ⟨k, τ, c, w, g1, g2, g3, g4, g5, g6, g7⟩ := ia.log j hj hj6
    refine ⟨k, τ, c, w, by omega, g2, g3, g4, by rw [h130]; exact g5, by rw [o128 k g1]; exact g6, by rw [h54]; exact g7⟩
theorem IA.acc {c0 w0 rc' : Nat} (ia : IA st rc TH A) (ht : t < 6) (hc0 : c0 < 8) (hw0 : w0 < 2) (h128 : ∀ k, A2 128 k = if k = st then nI (16 * t + 2 * c0 + w0) else A 128 k) (hr0 : ∀ u, A2 (88 + 3 * c0 + w0) u = if u = t then nI (st + 1) else A (88 + 3 * c0 + w0) u) (hr : ∀ c, c < 8 → ∀ w, w < 2 → 88 + 3 * c + w ≠ 88 + 3 * c0 + w0 → A2 (88 + 3 * c + w) = A (88 + 3 * c + w))
    (hlog : (rc' = rc ∧ A2 53 1 = A 53 1 ∧ A2 54 = A 54 ∧ A2 130 = A 130 ∧ A2 111 22 = A 111 22) ∨ (rc' = rc + 1 ∧ A2 53 1 = nI (rc + 1) ∧ A2 111 22 = nI (rc + 1) ∧ (∀ j, j < rc → j < 64 → A2 130 j = A 130 j ∧ ∀ m, m < 4 → A2 54 (4 * j + m) = A 54 (4 * j + m)) ∧ (rc < 64 → A2 130 rc = nI st ∧ A2 54 (4 * rc) = nI st ∧ A2 54 (4 * rc + 1) = nI t ∧ A2 54 (4 * rc + 2) = nI c0 ∧ A2 54 (4 * rc + 3) = nI w0))) (s4 : st < 4000) : IA (st + 1) rc' (thn TH st t) A2 := by
  have rcs := ia.rcs
  have o128 : ∀ k, k < st → A2 128 k = A 128 k := fun k hk => by rw [h128, if_neg (by omega)]
  have oth : ∀ k, k < st → thn TH st t k = TH k := fun k hk => by rw [thn, if_neg (by omega)]
  have nth : thn TH st t st = t := by rw [thn, if_pos rfl]
  have n128 : A2 128 st = nI (16 * t + 2 * c0 + w0) := by rw [h128, if_pos rfl]
  have olg : ∀ j, j < rc → j < 64 → A2 130 j = A 130 j ∧ ∀ m, m < 4 → A2 54 (4 * j + m) = A 54 (4 * j + m) := by
    rcases hlog with ⟨_, _, g1, g2, _⟩ | ⟨_, _, _, g, _⟩
    · exact fun j _ _ => ⟨by rw [g2], fun m _ => by rw [g1]⟩
    · exact g
  refine ⟨by rcases hlog with g | g <;> omega, ?_, ?_, fun k hk => ?_, fun c hc w hw u hu => ?_, fun j hj hj6 => ?_⟩
  · rcases hlog with ⟨g0, g1, _⟩ | ⟨g0, g1, _⟩
    · rw [g0, g1]; exact ia.crc
    · rw [g0]; exact g1
  · rcases hlog with ⟨g0, _, _, _, g1⟩ | ⟨g0, _, g1, _⟩
    · rw [g0, g1]; exact ia.mrc
    · rw [g0]; exact g1
  · by_cases hks : k = st
    · subst hks
      exact Or.inr ⟨c0, w0, hc0, hw0, by rw [n128, nth]⟩
    · rw [o128 k (by omega), oth k (by omega)]; exact ia.acs k (by omega)
  · obtain ⟨r, h1, h2, h3, h4⟩ := ia.rws c hc w hw u hu
    by_cases hcw : 88 + 3 * c + w = 88 + 3 * c0 + w0
    · have ec : c = c0 ∧ w = w0 := by omega
      obtain ⟨ec, ew⟩ := ec
      subst ec ew
      by_cases hut : u = t
      · subst hut
        refine ⟨st + 1, Nat.le_refl _, by rw [hr0, if_pos rfl], fun k hk _ _ => hk, fun _ => ?_⟩
        show thn TH st u st = u ∧ A2 128 st = _
        exact ⟨nth, n128⟩
      · refine ⟨r, by omega, by rw [hr0, if_neg hut]; exact h2, fun k hk hth ha => ?_, fun z => ?_⟩
        · by_cases hks : k = st
          · rw [hks, nth] at hth
            exact absurd hth.symm hut
          · rw [oth k (by omega)] at hth
            rw [o128 k (by omega)] at ha
            exact h3 k (by omega) hth ha
        · rw [oth _ (by omega), o128 _ (by omega)]; exact h4 z
    · refine ⟨r, by omega, by rw [hr c hc w hw hcw]; exact h2, fun k hk hth ha => ?_, fun z => ?_⟩
      · by_cases hks : k = st
        · rw [hks, n128] at ha
          have := (nI_eq (by omega) (by omega)).mp ha
          exfalso
          rw [hks, nth] at hth
          omega
        · rw [oth k (by omega)] at hth
          rw [o128 k (by omega)] at ha
          exact h3 k (by omega) hth ha
      · rw [oth _ (by omega), o128 _ (by omega)]; exact h4 z
  · by_cases hjr : j < rc
    · obtain ⟨k, τ, c, w, g1, g2, g3, g4, g5, g6, g7, g8, g9, g10⟩ := ia.log j hjr hj6
      obtain ⟨e1, e2⟩ := olg j hjr hj6
      exact ⟨k, τ, c, w, by omega, g2, g3, g4, e1.trans g5, by rw [o128 k g1]; exact g6, (e2 0 (by omega)).trans g7, (e2 1 (by omega)).trans g8, (e2 2 (by omega)).trans g9, (e2 3 (by omega)).trans g10⟩
    · rcases hlog with g | ⟨g0, _, _, _, g⟩
      · omega
      · have : j = rc := by omega
        subst this
        obtain ⟨k1, k2, k3, k4, k5⟩ := g hj6
        exact ⟨st, t, c0, w0, by omega, ht, hc0, hw0, k1, n128, k2, k3, k4, k5⟩
theorem race_eq {A' Ac : Nat → Nat → Int32} {c w : Nat} (ik : IK T st TH A) (ia : IA st rc TH A) (T6 : T ≤ 6) (htT : t < T) (s4 : st < 4000) (hc : c < 8) (hw : w < 2) (h : nst A A' st (A 125 t) (-1)) (h128 : ∀ k, k < st → A' 128 k = A 128 k) (hrow : ∀ u, u < 6 → Ac (58 + 4 * t) u = if u = t then nI (st + 1) else A (58 + 4 * t) u) (hrw : ∀ u, u < 6 → ∀ v, v < 2 → Ac (88 + 3 * c + v) u = A (88 + 3 * c + v) u) :
    (∃ u, u < 6 ∧ rc_ Ac (87 + 3 * c) (58 + 4 * t) (nI w) u) ↔ ∃ k, k < st ∧ rcd A' st t c w k := by
  have he := ik.edg
  have hx : osf st (A 125 t) := ik.lat t htT
  have hb : ∀ k, bfr A' st k ↔ kn A (A 125 t) k := fun k => by
    rw [bfr_new h s4 he hx (Or.inl rfl)]
    exact ⟨fun g => g.resolve_right kn_no, Or.inl⟩
  constructor
  · intro ⟨u, hu, hrc⟩
    have key : ∀ v, v < 2 → (w = 1 ∨ v = 1) → Ac (58 + 4 * t) u < Ac (88 + 3 * c + v) u → ∃ k, k < st ∧ rcd A' st t c w k := fun v hv hwv hlt => by
      obtain ⟨r, h1, h2, h3, h4⟩ := ia.rws c hc v hv u hu
      rw [hrow u hu, hrw u hu v hv, h2] at hlt
      by_cases hut : u = t
      · rw [if_pos hut] at hlt
        have := (nI_ltI (by omega) (by omega)).mp hlt
        omega
      · rw [if_neg hut] at hlt
        obtain ⟨cu, k1, k2, k3⟩ := ik.ckt t htT u hu
        rw [k2] at hlt
        have hlt := (nI_ltI (by omega) (by omega)).mp hlt
        obtain ⟨q1, q2⟩ := h4 (by omega)
        refine ⟨r - 1, by omega, u, v, hu, hv, by rw [h128 _ (by omega)]; exact q2, fun g => ?_, hut, hwv⟩
        have := (k3 (r - 1) (by omega) q1).mp ((hb _).mp g)
        omega
    rcases hrc with g | ⟨g0, g⟩
    · exact key 1 (by omega) (Or.inr rfl) (by rw [show 88 + 3 * c + 1 = 87 + 3 * c + 2 by omega]; exact g)
    · refine key 0 (by omega) (Or.inl ?_) (by rw [show 88 + 3 * c + 0 = 87 + 3 * c + 1 by omega]; exact g)
      rcases (show w = 0 ∨ w = 1 by omega) with z | z
      · subst z; exact absurd rfl g0
      · exact z
  · intro ⟨k, hk, τ, v, g1, g2, g3, g4, g5, g6⟩
    rw [h128 k hk] at g3
    have hth : TH k = τ := by
      rcases ia.acs k hk with z | ⟨c1, w1, z1, z2, z3⟩
      · exact absurd (g3.symm.trans z) (nI_m1 (by omega))
      · have := ik.thr k hk
        have := (nI_eq (by omega) (by omega)).mp (g3.symm.trans z3)
        omega
    obtain ⟨r, h1, h2, h3, h4⟩ := ia.rws c hc v g2 τ g1
    have hkr := h3 k hk hth g3
    obtain ⟨cu, k1, k2, k3⟩ := ik.ckt t htT τ g1
    have hnk : ¬ k < cu := fun z => g4 ((hb k).mpr ((k3 k hk hth).mpr z))
    have hlt : Ac (58 + 4 * t) τ < Ac (88 + 3 * c + v) τ := by
      rw [hrow τ g1, if_neg g5, hrw τ g1 v g2, h2, k2]
      exact nI_lt (by omega) (by omega)
    refine ⟨τ, g1, ?_⟩
    rcases (show v = 0 ∨ v = 1 by omega) with z | z
    · subst z
      refine Or.inr ⟨?_, by rw [show 87 + 3 * c + 1 = 88 + 3 * c + 0 by omega]; exact hlt⟩
      have : w = 1 := g6.resolve_right (by omega)
      rw [this]; decide
    · subst z
      exact Or.inl (by rw [show 87 + 3 * c + 2 = 88 + 3 * c + 1 by omega]; exact hlt)
/-- what a thread's cells must be -/
def ITt (n : Nat) (SZ : Nat → Nat) (A : Nat → Nat → Int32) (u D : Nat) (FB FP : Nat → Nat) : Prop := A (55 + 4 * u) 5 = A 121 u ∧ D ≤ 8 ∧ A (55 + 4 * u) 4 = nI D ∧ A 122 u = nI D ∧ (∀ j, j < D → FB j < n ∧ FP j ≤ SZ (FB j) ∧ A (56 + 4 * u) j = nI (FB j) ∧ A 123 (8 * u + j) = nI (FB j) ∧ A (57 + 4 * u) j = nI (FP j) ∧ A 124 (8 * u + j) = nI (FP j)) ∧ ∀ j, D = j + 1 → FP j < SZ (FB j)
theorem IT.thr (it : IT n SZ T st D FB FP A) {u : Nat} (hu : u < T) : ITt n SZ A u (D u) (FB u) (FP u) := ⟨it.val u hu, (it.dep u hu).1, (it.dep u hu).2.1, (it.dep u hu).2.2, it.frm u hu, it.top u hu⟩
theorem ITt.cong {u d : Nat} {fb fp : Nat → Nat} (h : ITt n SZ A u d fb fp) (h1 : A2 (55 + 4 * u) 5 = A (55 + 4 * u) 5) (h2 : A2 121 u = A 121 u) (h3 : A2 (55 + 4 * u) 4 = A (55 + 4 * u) 4) (h4 : A2 122 u = A 122 u) (h5 : A2 (56 + 4 * u) = A (56 + 4 * u)) (h6 : A2 (57 + 4 * u) = A (57 + 4 * u)) (h7 : ∀ j, j < 8 → A2 123 (8 * u + j) = A 123 (8 * u + j)) (h8 : ∀ j, j < 8 → A2 124 (8 * u + j) = A 124 (8 * u + j)) : ITt n SZ A2 u d fb fp := by
  obtain ⟨a1, a2, a3, a4, a5, a6⟩ := h
  refine ⟨by rw [h1, h2]; exact a1, a2, by rw [h3]; exact a3, by rw [h4]; exact a4, fun j hj => ?_, a6⟩
  rw [h5, h6, h7 j (by omega), h8 j (by omega)]
  exact a5 j hj
theorem IT.step {T' : Nat} {D' : Nat → Nat} {FB' FP' : Nat → Nat → Nat} (it : IT n SZ T st D FB FP A) (T0 : T ≠ 0) (hT' : T' ≠ 0) (T'6 : T' ≤ 6) (s4 : st < 4000) (h1 : A2 49 5 = nI T') (h2 : A2 111 11 = nI T') (h3 : A2 111 6 = A 111 6) (h4 : ∀ u, u < 6 → A2 (55 + 4 * u) 0 = A (55 + 4 * u) 0) (h5 : A2 49 6 = nI (st + 1)) (h6 : A2 111 17 = nI (st + 1)) (h7 : ∀ c, c < 8 → A2 (87 + 3 * c) 2 = A2 117 c) (h8 : ∀ u, u < T' → ITt n SZ A2 u (D' u) (FB' u) (FP' u)) : IT n SZ T' (st + 1) D' FB' FP' A2 := by
  refine ⟨T'6, h1, h2, ?_, fun u hu => by rw [h4 u hu]; exact it.num u hu, by omega, h5, h6, fun u hu => (h8 u hu).1, fun u hu => ⟨(h8 u hu).2.1, (h8 u hu).2.2.1, (h8 u hu).2.2.2.1⟩, fun u hu => (h8 u hu).2.2.2.2.1, fun u hu => (h8 u hu).2.2.2.2.2, h7, fun z => absurd z hT'⟩
  rw [h3, it.run, if_neg T0, if_neg hT']
theorem lvn_le {f : Nat → Bool} : ∀ m, lvn f m ≤ m ∧ (∀ j, lvn f m = j + 1 → f j = false) ∧ ∀ j, lvn f m ≤ j → j < m → f j = true
  | 0 => ⟨Nat.le_refl _, fun j h => by simp [lvn] at h, fun j _ h => absurd h (Nat.not_lt_zero _)⟩
  | m + 1 => by
    obtain ⟨h1, h2, h3⟩ := lvn_le (f := f) m
    unfold lvn
    by_cases h : f m = true
    · rw [if_pos h]
      refine ⟨by omega, h2, fun j hj hm => ?_⟩
      by_cases hjm : j = m
      · rw [hjm]; exact h
      · exact h3 j hj (by omega)
    · rw [if_neg h]
      refine ⟨Nat.le_refl _, fun j hj => ?_, fun j hj hm => by omega⟩
      have : j = m := by omega
      rw [this]
      exact Bool.not_eq_true _ ▸ h
theorem sm_lvn {f : Nat → Bool} {g : Nat → Nat} : ∀ m, (∀ j, j < m → f j = true → g j = 0) → sm g (lvn f m) = sm g m
  | 0, _ => rfl
  | m + 1, h => by
    have ih := sm_lvn (f := f) (g := g) m (fun j hj => h j (by omega))
    unfold lvn
    by_cases hf : f m = true
    · rw [if_pos hf, ih, sm, h m (by omega) hf, Nat.add_zero]
    · rw [if_neg hf]
theorem lvn_cg {f g : Nat → Bool} : ∀ m, (∀ j, j < m → f j = g j) → lvn f m = lvn g m
  | 0, _ => rfl
  | m + 1, h => by
    have ih := lvn_cg m (fun j hj => h j (by omega))
    simp only [lvn, ih, h m (by omega)]
theorem sm_one {f f' : Nat → Nat} {t : Nat} : ∀ T, t < T → (∀ u, u < T → u ≠ t → f' u = f u) → sm f' T + f t = sm f T + f' t
  | 0, h, _ => absurd h (Nat.not_lt_zero _)
  | T + 1, h, g => by
    by_cases ht : t = T
    · subst ht
      have := sm_cg (f := f') (g := f) t (fun u hu => g u (by omega) (by omega))
      simp only [sm, this]
      omega
    · have ih := sm_one (f := f) (f' := f') T (by omega) (fun u hu => g u (by omega))
      have := g T (by omega) (fun z => ht z.symm)
      simp only [sm, this]
      omega
end GROUPS
