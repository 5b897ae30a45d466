section OPS5
variable {d : Nat} {SL : Nat} {S : Nat → Nat × Nat} {A : Nat → Nat → Int32} {P : Nat → Nat → Option Nat}
theorem brH_o {b sz : Nat} {h : Int32} {a : Nat} (g : a < 49 ∨ 111 ≤ a) : brH A b sz h a = A a := by
  funext j
  rw [brH, u_nc (by omega), u_nc (by omega), u_nc (by omega), u_nc (by omega), u_nc (by omega), u_nc (by omega), fl_nc (by omega), u_nc (by omega), u_nc (by omega), u_nc (by omega), ceC_o 8 (by omega), lkC_o 4 (by omega)]
theorem brH_c {b sz : Nat} {h : Int32} {a : Nat} (g : 79 ≤ a) (g' : a < 111) : brH A b sz h a = ceC (lkC A 4) 8 a := by
  funext j
  rw [brH, u_nc (by omega), u_nc (by omega), u_nc (by omega), u_nc (by omega), u_nc (by omega), u_nc (by omega), fl_nc (by omega), u_nc (by omega), u_nc (by omega), u_nc (by omega)]
theorem bgH_o {T b sz : Nat} {v sv : Int32} {a : Nat} (h : a < 121 ∨ 125 < a) (h' : a ≠ 111) : bgH A T b sz v sv a = A a := by
  funext j
  rw [bgH, u_nc (by omega), u_nc (by omega), u_nc (by omega), u_nc (by omega), u_nc (by omega), u_nc (by omega), u_nc (by omega), u_nc (by omega)]
theorem saH_o {a : Nat} (h : a < 117 ∨ 120 < a) (h' : a ≠ 111) : saH A a = A a := by
  funext j
  rw [saH, u_nc (by omega), u_nc (by omega), u_nc (by omega), l2H, if_neg (by omega), if_neg (by omega), if_neg (by omega), fl_nc (by omega), u_nc (by omega)]
theorem op_start {v h : Int32} (k : KK S P) (i : Inv A P) : OP d M_Lo_start M_Mo_start [.int v, .int h] SL S A P := by
  have i0 := i
  obtain ⟨n, SZ, bq, T, st, rc, D, TM, TH, FB, FP, is, it, il, ik, ia⟩ := i
  have n8 := is.n8
  obtain ⟨⟨⟨s0, s1, s2, s3, s4, s5, s6⟩, -⟩, -, -, o0, o1, o2⟩ := id k
  refine pm_E.ups (d := d + 3) ?_ (by omega)
  refine q_of (tb := fun j => tb_Lo_start[j]?) rfl rfl (Nat.le_of_ble_eq_true rfl) ?_
  show BB _ _ 0 [.ref 0, .int v, .int h] [] _ _ _ _ _
  iterate 1 refine pm_B.next rfl rfl ?_
  refine q_getr rfl o0 (by decide) o1 ?_
  iterate 1 refine pm_B.next rfl rfl ?_
  refine q_cv (a := [.int v]) rfl s4 rfl (Nat.le_of_ble_eq_true rfl) (Nat.le_of_ble_eq_true rfl) (x_contains k.H is.cn) ?_
  rcases in_z v (nI n) with hz | hz
  · refine q_top hz ?_
    refine r_ifF rfl rfl ?_
    iterate 1 refine pm_B.next rfl rfl ?_
    exact q_zret rfl (Or.inl rfl) ⟨0, A, P, rfl, o2_eq (pm_E.ups (x_Mo_start_no (d := d) k.2.1 is.mn hz) (by omega)) i0 k⟩
  · obtain ⟨b, hb, e⟩ := in_one (by omega) hz
    subst e
    have q45 := is.q45 (b := b) (by omega)
    have z64 := is.s64 b (Or.inl hb)
    refine q_top hz ?_
    refine r_ifT rfl rfl ?_
    iterate 1 refine pm_B.next rfl rfl ?_
    refine q_getr rfl o0 (by decide) o2 ?_
    iterate 2 refine pm_B.next rfl rfl ?_
    refine q_cv (a := [.int (nI b), .int h]) rfl s0 rfl (Nat.le_of_ble_eq_true rfl) (Nat.le_of_ble_eq_true rfl) (x_Ru_begin (q := bq b) (sz := SZ b) k.1 (by omega) ⟨is.pbs b (by omega), k.bq is (by omega), is.csz b (Or.inl hb), by omega, by omega⟩) ?_
    iterate 1 refine pm_B.next rfl rfl ?_
    refine q_zret rfl (Or.inr rfl) ⟨1, _, P, rfl, pm_E.ups (pm_E.weaken (x_Mo_start (d := d) (n := n) (b := b) (sz := SZ b) k.2.1 (by rw [brH_o (by omega)]; exact is.mn) n8 hb (by rw [brH_o (by omega)]; exact is.msz b (Or.inl hb)) (by omega)) (fun r hr => ?_)) (by omega)⟩
    refine ⟨_, hr, ?_, k⟩
    generalize hA1 : brH A b (SZ b) h = A1
    generalize hA2 : bgH (saH A1) 0 b (SZ b) h (-1) = A2
    have e1 : ∀ a, a < 111 → A2 a = A1 a := fun a ha => by rw [← hA2, bgH_o (by omega) (by omega), saH_o (by omega) (by omega)]
    have e2 : ∀ a, a < 49 → A2 a = A a := fun a ha => by rw [e1 a (by omega), ← hA1, brH_o (by omega)]
    have e3 : ∀ a, 112 ≤ a → a ≤ 116 → A2 a = A a := fun a h1 h2 => by rw [← hA2, bgH_o (by omega) (by omega), saH_o (by omega) (by omega), ← hA1, brH_o (by omega)]
    have ec : ∀ a, 79 ≤ a → a < 111 → A2 a = ceC (lkC A 4) 8 a := fun a h1 h2 => by rw [e1 a h2, ← hA1, brH_c h1 h2]
    have f111 : ∀ j, j ≠ 11 → A2 111 j = saH A1 111 j := fun j hj => by
      rw [← hA2, bgH, u_ni hj, u_nc (by omega), u_nc (by omega), u_nc (by omega), u_nc (by omega), u_nc (by omega), u_nc (by omega), u_nc (by omega)]
    have l111 : ∀ j, l2H (fl (pm_u A1 111 6 1) 117 8 0) 4 111 j = pm_u A1 111 6 1 111 j := fun j => by
      rw [l2H, if_neg (by omega), if_neg (by omega), if_neg (by omega), fl_nc (by omega)]
    have hk : ∀ l, l < 4 → A2 (79 + 2 * l) 1 = -1 ∧ A2 (79 + 2 * l) 2 = 0 ∧ ∀ u, u < 6 → A2 (80 + 2 * l) u = 0 := fun l hl => by
      rw [ec _ (by omega) (by omega), ec (80 + 2 * l) (by omega) (by omega), ceC_o 8 (by omega), ceC_o 8 (by omega)]
      exact lkC_1 4 hl
    have hl2 : ∀ l, l < 4 → A2 118 l = -1 ∧ A2 119 l = 0 ∧ A2 120 l = -1 := fun l hl => by
      rw [← hA2, bgH_o (by omega) (by omega), bgH_o (by omega) (by omega), bgH_o (by omega) (by omega), saH, u_nc (by omega), u_nc (by omega), u_nc (by omega), u_nc (by omega), u_nc (by omega), u_nc (by omega), u_nc (by omega), u_nc (by omega), u_nc (by omega)]
      simp [l2H, hl]
    have hc2 : ∀ c, c < 8 → A2 117 c = 0 := fun c hc => by
      rw [← hA2, bgH_o (by omega) (by omega), saH, u_nc (by omega), u_nc (by omega), u_nc (by omega), l2H, if_neg (by omega), if_neg (by omega), if_neg (by omega), fl_in hc]
    have d0 : A2 122 0 = nI (if SZ b = 0 then 0 else 1) := by
      rw [← hA2, bgH, u_nc (by omega), u_eq]
      congr 1
      by_cases z : SZ b = 0
      · rw [if_pos z, if_pos z.symm]
      · rw [if_neg z, if_neg (fun g => z g.symm)]
    refine ⟨n, SZ, bq, 1, 0, 0, fun _ => if SZ b = 0 then 0 else 1, fun _ => 0, fun _ => 0, fun _ _ => b, fun _ _ => 0, is.cong e2 e3 ?_, ⟨by omega, ?_, ?_, ?_, fun t ht => ?_, by omega, ?_, ?_, fun t ht => ?_, fun t ht => ?_, fun t ht j hj => ?_, fun t ht j hj => ?_, fun c hc => ?_, fun z => absurd z (by omega)⟩, ⟨fun z => absurd z (by omega), fun _ l hl => ?_⟩, ⟨fun k hk => absurd hk (Nat.not_lt_zero _), fun k hk => absurd hk (Nat.not_lt_zero _), fun t ht => ?_, fun _ l hl => Or.inl (hl2 l hl).2.2, fun t ht k hk => absurd hk (Nat.not_lt_zero _), fun t ht u hu => ?_, fun _ l hl u hu => ?_⟩, ⟨Nat.le_refl _, ?_, ?_, fun k hk => absurd hk (Nat.not_lt_zero _), fun c hc w hw u hu => ?_, fun j hj => absurd hj (Nat.not_lt_zero _)⟩⟩
    · rw [f111 4 (by omega), saH, u_ni (by omega), u_ni (by omega), u_ni (by omega), l111, u_ni (by omega), ← hA1, brH_o (by omega)]
    · rw [e1 49 (by omega), ← hA1, brH, u_nc (by omega), u_nc (by omega), u_nc (by omega), u_nc (by omega), u_nc (by omega), u_nc (by omega), fl_nc (by omega)]
      exact u_eq
    · rw [← hA2, bgH]; exact u_eq
    · rw [f111 6 (by omega), saH, u_ni (by omega), u_ni (by omega), u_ni (by omega), l111]; exact u_eq
    · rw [e1 _ (by omega), ← hA1]
      have := it.num t ht
      by_cases ht0 : t = 0
      · subst ht0
        rw [brH, u_ni (by omega), u_ni (by omega), u_nc (by omega), u_nc (by omega), u_ni (by omega), u_ni (by omega), fl_nc (by omega), u_nc (by omega), u_nc (by omega), u_nc (by omega), ceC_o 8 (by omega), lkC_o 4 (by omega)]
        exact this
      · rw [brH, u_nc (by omega), u_nc (by omega), u_nc (by omega), u_nc (by omega), u_nc (by omega), u_nc (by omega), fl_nc (by omega), u_nc (by omega), u_nc (by omega), u_nc (by omega), ceC_o 8 (by omega), lkC_o 4 (by omega)]
        exact this
    · rw [e1 49 (by omega), ← hA1, brH, u_nc (by omega), u_nc (by omega), u_nc (by omega), u_nc (by omega), u_nc (by omega), u_nc (by omega), fl_nc (by omega), u_ni (by omega)]
      exact u_eq
    · rw [f111 17 (by omega), saH, u_ni (by omega)]; exact u_eq
    · have : t = 0 := by omega
      subst this
      have a1 : A2 (55 + 4 * 0) 5 = h := by
        rw [e1 _ (by omega), ← hA1, brH, u_ni (by omega), u_ni (by omega), u_nc (by omega), u_nc (by omega), u_ni (by omega)]; exact u_eq
      have a2 : A2 121 0 = h := by
        rw [← hA2, bgH, u_nc (by omega), u_nc (by omega), u_nc (by omega), u_nc (by omega), u_nc (by omega), u_nc (by omega), u_nc (by omega)]; exact u_eq
      rw [a1, a2]
    · have : t = 0 := by omega
      subst this
      refine ⟨by show (if SZ b = 0 then 0 else 1) ≤ 8; split <;> omega, ?_, d0⟩
      rw [e1 _ (by omega), ← hA1, brH]; exact u_eq
    · have : t = 0 := by omega
      subst this
      have hj0 : j = 0 := by
        change j < (if SZ b = 0 then 0 else 1) at hj
        split at hj <;> omega
      subst hj0
      refine ⟨hb, Nat.zero_le _, ?_, ?_, ?_, ?_⟩
      · rw [e1 _ (by omega), ← hA1, brH, u_nc (by omega), u_nc (by omega), u_nc (by omega)]; exact u_eq
      · rw [← hA2, bgH, u_nc (by omega), u_nc (by omega), u_nc (by omega), u_nc (by omega)]; exact u_eq
      · rw [e1 _ (by omega), ← hA1, brH, u_nc (by omega), u_nc (by omega)]; exact u_eq
      · rw [← hA2, bgH, u_nc (by omega), u_nc (by omega), u_nc (by omega)]; exact u_eq
    · change (if SZ b = 0 then 0 else 1) = j + 1 at hj
      show 0 < SZ b
      by_cases z : SZ b = 0
      · rw [if_pos z] at hj; omega
      · omega
    · rw [hc2 c hc, ec _ (by omega) (by omega)]
      exact (ceC_1 8 hc).1
    · obtain ⟨a1, a2, a3⟩ := hk l hl
      obtain ⟨b1, b2, b3⟩ := hl2 l hl
      refine ⟨a1.trans b1.symm, a2, b2, ?_, Or.inl ⟨rfl, b1⟩⟩
      show 0 = sm (fun t => ct A2 (fun _ => b) (fun _ => 0) (if SZ b = 0 then 0 else 1) l) 1
      by_cases z : SZ b = 0
      · simp [z, sm, ct]
      · simp [z, sm, ct, bk_st, cs]
    · have : t = 0 := by omega
      subst this
      refine Or.inl ?_
      rw [← hA2, bgH, u_nc (by omega), u_nc (by omega), u_nc (by omega), u_nc (by omega), u_nc (by omega)]; exact u_eq
    · have : t = 0 := by omega
      subst this
      refine ⟨0, Nat.le_refl _, ?_, fun k hk => absurd hk (Nat.not_lt_zero _)⟩
      rw [e1 _ (by omega), ← hA1, brH, u_nc (by omega), u_nc (by omega), u_nc (by omega), u_nc (by omega), u_nc (by omega), u_nc (by omega), fl_in hu]; rfl
    · exact ⟨0, Nat.le_refl _, (hk l hl).2.2 u hu, fun k hk => absurd hk (Nat.not_lt_zero _)⟩
    · rw [e1 53 (by omega), ← hA1, brH, u_nc (by omega), u_nc (by omega), u_nc (by omega), u_nc (by omega), u_nc (by omega), u_nc (by omega), fl_nc (by omega), u_nc (by omega), u_nc (by omega)]; exact u_eq
    · rw [f111 22 (by omega), saH]; exact u_eq
    · refine ⟨0, Nat.le_refl _, ?_, fun k hk => absurd hk (Nat.not_lt_zero _), fun z => absurd rfl z⟩
      rw [ec _ (by omega) (by omega)]
      obtain ⟨-, g1, g2⟩ := ceC_1 (A := lkC A 4) 8 hc
      rcases (show w = 0 ∨ w = 1 by omega) with g | g
      · subst g; exact g1 u hu
      · subst g; rw [show 88 + 3 * c + 1 = 89 + 3 * c by omega]; exact g2 u hu
end OPS5
