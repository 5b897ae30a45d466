section BEGIN
set_option maxRecDepth 100000 in
theorem lx_k1 : pm_is lx_h2.2.2.1 49 19 7 ∧ pm_is lx_h2.2.2.1 50 3 6 ∧ pm_is lx_h2.2.2.1 51 4 4 ∧ pm_is lx_h2.2.2.1 52 5 8 ∧ pm_is lx_h2.2.2.1 1 17 4 ∧ pm_is lx_h2.2.2.1 2 2 8 ∧ pm_is lx_h2.2.2.1 3 0 8 := by
  unfold pm_is
  decide +kernel
set_option maxRecDepth 100000 in
theorem lx_k2 : lx_h2.2.2.2.2 49 0 = some 1 ∧ lx_h2.2.2.2.2 49 1 = some 50 ∧ lx_h2.2.2.2.2 49 2 = some 51 ∧ lx_h2.2.2.2.2 49 3 = some 52 ∧ lx_h2.2.2.2.2 49 4 = some 53 ∧ lx_h2.2.2.2.2 1 0 = some 2 ∧ lx_h2.2.2.2.2 1 1 = some 3 := by decide +kernel
set_option maxRecDepth 100000 in
theorem lx_k3 : ∀ t, t < 6 → lx_h2.2.2.2.2 50 t = some (55 + 4 * t) ∧ kS lx_h2.2.2.1 lx_h2.2.2.2.2 (55 + 4 * t) := by
  unfold kS pm_is
  decide +kernel
set_option maxRecDepth 100000 in
theorem lx_k4 : ∀ l, l < 4 → lx_h2.2.2.2.2 51 l = some (79 + 2 * l) ∧ kL lx_h2.2.2.1 lx_h2.2.2.2.2 (79 + 2 * l) := by
  unfold kL pm_is
  decide +kernel
set_option maxRecDepth 100000 in
theorem lx_k5 : ∀ c, c < 8 → lx_h2.2.2.2.2 52 c = some (87 + 3 * c) ∧ kC lx_h2.2.2.1 lx_h2.2.2.2.2 (87 + 3 * c) := by
  unfold kC pm_is
  decide +kernel
set_option maxRecDepth 100000 in
theorem lx_k6 : kR lx_h2.2.2.1 lx_h2.2.2.2.2 := by
  unfold kR pm_is
  decide +kernel
set_option maxRecDepth 100000 in
theorem lx_m1 : pm_is lx_h2.2.2.1 111 24 24 ∧ pm_is lx_h2.2.2.1 112 0 576 ∧ pm_is lx_h2.2.2.1 113 0 576 ∧ pm_is lx_h2.2.2.1 114 0 9 ∧ pm_is lx_h2.2.2.1 115 0 8 ∧ pm_is lx_h2.2.2.1 116 0 8 := by
  unfold pm_is
  decide +kernel
set_option maxRecDepth 100000 in
theorem lx_p1 : lx_h2.2.2.2.2 111 0 = some 112 ∧ lx_h2.2.2.2.2 111 1 = some 113 ∧ lx_h2.2.2.2.2 111 2 = some 114 ∧ lx_h2.2.2.2.2 111 3 = some 115 ∧ lx_h2.2.2.2.2 111 5 = some 116 := by decide +kernel
set_option maxRecDepth 100000 in
theorem lx_m2 : pm_is lx_h2.2.2.1 117 0 8 ∧ pm_is lx_h2.2.2.1 118 0 4 ∧ pm_is lx_h2.2.2.1 119 0 4 ∧ pm_is lx_h2.2.2.1 120 0 4 ∧ pm_is lx_h2.2.2.1 121 0 6 ∧ pm_is lx_h2.2.2.1 122 0 6 ∧ pm_is lx_h2.2.2.1 123 0 48 ∧ pm_is lx_h2.2.2.1 124 0 48 ∧ pm_is lx_h2.2.2.1 125 0 6 := by
  unfold pm_is
  decide +kernel
set_option maxRecDepth 100000 in
theorem lx_p2 : lx_h2.2.2.2.2 111 7 = some 117 ∧ lx_h2.2.2.2.2 111 8 = some 118 ∧ lx_h2.2.2.2.2 111 9 = some 119 ∧ lx_h2.2.2.2.2 111 10 = some 120 ∧ lx_h2.2.2.2.2 111 12 = some 121 ∧ lx_h2.2.2.2.2 111 13 = some 122 ∧ lx_h2.2.2.2.2 111 14 = some 123 ∧ lx_h2.2.2.2.2 111 15 = some 124 ∧ lx_h2.2.2.2.2 111 16 = some 125 := by decide +kernel
set_option maxRecDepth 100000 in
theorem lx_m3 : pm_is lx_h2.2.2.1 126 0 4000 ∧ pm_is lx_h2.2.2.1 127 0 4000 ∧ pm_is lx_h2.2.2.1 128 0 4000 ∧ pm_is lx_h2.2.2.1 129 1 4000 ∧ pm_is lx_h2.2.2.1 130 0 64 := by
  unfold pm_is
  decide +kernel
set_option maxRecDepth 100000 in
theorem lx_p3 : lx_h2.2.2.2.2 111 18 = some 126 ∧ lx_h2.2.2.2.2 111 19 = some 127 ∧ lx_h2.2.2.2.2 111 20 = some 128 ∧ lx_h2.2.2.2.2 111 21 = some 129 ∧ lx_h2.2.2.2.2 111 23 = some 130 := by decide +kernel
set_option maxRecDepth 100000 in
theorem lx_k7 : ∀ j, j < 9 → kB lx_h2.2.2.1 lx_h2.2.2.2.2 (4 + 5 * j) := by
  unfold kB pm_is
  decide +kernel
set_option maxRecDepth 100000 in
theorem lx_k8 : pm_is lx_h2.2.2.1 0 16 2 ∧ lx_h2.2.2.2.2 0 0 = some 1 ∧ lx_h2.2.2.2.2 0 1 = some 49 := by
  unfold pm_is
  decide +kernel
theorem lx_KK : KK lx_h2.2.2.1 lx_h2.2.2.2.2 := ⟨⟨lx_k1, lx_k2, lx_k3, lx_k4, lx_k5, lx_k6⟩, ⟨⟨lx_m1, lx_p1⟩, ⟨lx_m2, lx_p2⟩, ⟨lx_m3, lx_p3⟩⟩, lx_k7, lx_k8⟩
set_option maxRecDepth 100000 in
theorem lx_d1 : (lx_h2.2.2.2.1 1 3 = 0 ∧ lx_h2.2.2.2.1 111 4 = 0 ∧ lx_h2.2.2.2.2 1 2 = some 4 ∧ lx_h2.2.2.2.1 4 4 = 0 ∧ lx_h2.2.2.2.1 114 8 = 0) ∧ (∀ b, b < 8 → lx_h2.2.2.2.2 2 b = some (9 + 5 * b) ∧ lx_h2.2.2.2.1 (9 + 5 * b) 4 = 0) ∧ ∀ c, c < 8 → lx_h2.2.2.2.1 3 c = -1 ∧ lx_h2.2.2.2.1 116 c = -1 := by decide +kernel
set_option maxRecDepth 100000 in
theorem lx_d2 : (lx_h2.2.2.2.1 49 5 = 0 ∧ lx_h2.2.2.2.1 111 11 = 0 ∧ lx_h2.2.2.2.1 111 6 = 0 ∧ lx_h2.2.2.2.1 49 6 = 0 ∧ lx_h2.2.2.2.1 111 17 = 0) ∧ (∀ t, t < 6 → lx_h2.2.2.2.1 (55 + 4 * t) 0 = Int32.ofNat t) ∧ ∀ c, c < 8 → lx_h2.2.2.2.1 (87 + 3 * c) 2 = 0 ∧ lx_h2.2.2.2.1 117 c = 0 := by decide +kernel
set_option maxRecDepth 100000 in
theorem lx_d3 : (∀ l, l < 4 → lx_h2.2.2.2.1 (79 + 2 * l) 1 = -1) ∧ (lx_h2.2.2.2.1 53 1 = 0 ∧ lx_h2.2.2.2.1 111 22 = 0) ∧ ∀ c, c < 8 → ∀ w, w < 2 → ∀ u, u < 6 → lx_h2.2.2.2.1 (88 + 3 * c + w) u = 0 := by decide +kernel
/-- at the beginning all is as it must be -/
theorem inv0 {A : Nat → Nat → Int32} {P : Nat → Nat → Option Nat} (h1 : (A 1 3 = 0 ∧ A 111 4 = 0 ∧ P 1 2 = some 4 ∧ A 4 4 = 0 ∧ A 114 8 = 0) ∧ (∀ b, b < 8 → P 2 b = some (9 + 5 * b) ∧ A (9 + 5 * b) 4 = 0) ∧ ∀ c, c < 8 → A 3 c = -1 ∧ A 116 c = -1)
    (h2 : (A 49 5 = 0 ∧ A 111 11 = 0 ∧ A 111 6 = 0 ∧ A 49 6 = 0 ∧ A 111 17 = 0) ∧ (∀ t, t < 6 → A (55 + 4 * t) 0 = Int32.ofNat t) ∧ ∀ c, c < 8 → A (87 + 3 * c) 2 = 0 ∧ A 117 c = 0)
    (h3 : (∀ l, l < 4 → A (79 + 2 * l) 1 = -1) ∧ (A 53 1 = 0 ∧ A 111 22 = 0) ∧ ∀ c, c < 8 → ∀ w, w < 2 → ∀ u, u < 6 → A (88 + 3 * c + w) u = 0) : Inv A P := by
  obtain ⟨⟨a1, a2, a3, a4, a5⟩, b1, b2⟩ := h1
  obtain ⟨⟨c1, c2, c3, c4, c5⟩, d1, d2⟩ := h2
  obtain ⟨e1, ⟨f1, f2⟩, g1⟩ := h3
  refine ⟨0, fun _ => 0, fun b => if b = 8 then 4 else 9 + 5 * b, 0, 0, 0, fun _ => 0, fun _ => 0, fun _ => 0, fun _ _ => 0, fun _ _ => 0, ?_, ?_, ?_, ?_, ?_⟩
  · refine ⟨by omega, a1, a2, a3, fun b hb => ?_, fun b hb => ?_, fun b b' hb hb' h => ?_, fun b hb hb8 => ?_, fun b hb => Nat.zero_le _, fun b hb => ?_, fun b hb => ?_, fun b hb i hi => absurd hi (Nat.not_lt_zero _), fun b hb i hi => absurd hi (Nat.not_lt_zero _), fun b hb => absurd hb (Nat.not_lt_zero _), fun b hb => absurd hb (Nat.not_lt_zero _), fun b hb => absurd hb (Nat.not_lt_zero _), fun b hb => absurd hb (Nat.not_lt_zero _), fun c hc => ?_⟩
    · show P 2 b = some (if b = 8 then 4 else 9 + 5 * b)
      rw [if_neg (by omega)]; exact (b1 b hb).1
    · show ∃ j, j < 9 ∧ (if b = 8 then 4 else 9 + 5 * b) = 4 + 5 * j
      by_cases z : b = 8
      · exact ⟨0, by omega, by rw [if_pos z]⟩
      · exact ⟨b + 1, by omega, by rw [if_neg z]; omega⟩
    · change (if b = 8 then 4 else 9 + 5 * b) = (if b' = 8 then 4 else 9 + 5 * b') at h
      by_cases z : b = 8
      · by_cases z' : b' = 8
        · omega
        · rw [if_pos z, if_neg z'] at h; omega
      · by_cases z' : b' = 8
        · rw [if_neg z, if_pos z'] at h; omega
        · rw [if_neg z, if_neg z'] at h; omega
    · show A (if b = 8 then 4 else 9 + 5 * b) 4 = 0
      rw [if_neg (by omega)]; exact (b1 b hb8).2
    · rcases hb with hb | hb
      · exact absurd hb (Nat.not_lt_zero _)
      · subst hb; exact a4
    · rcases hb with hb | hb
      · exact absurd hb (Nat.not_lt_zero _)
      · subst hb; exact a5
    · exact ⟨(b2 c hc).1.trans (b2 c hc).2.symm, Or.inl (b2 c hc).2⟩
  · exact ⟨by omega, c1, c2, by rw [if_pos rfl]; exact c3, d1, by omega, c4, c5, fun t ht => absurd ht (Nat.not_lt_zero _), fun t ht => absurd ht (Nat.not_lt_zero _), fun t ht => absurd ht (Nat.not_lt_zero _), fun t ht => absurd ht (Nat.not_lt_zero _), fun c hc => (d2 c hc).1.trans (d2 c hc).2.symm, fun _ c hc => (d2 c hc).2⟩
  · exact ⟨fun _ l hl => e1 l hl, fun h => absurd rfl h⟩
  · exact ⟨fun k hk => absurd hk (Nat.not_lt_zero _), fun k hk => absurd hk (Nat.not_lt_zero _), fun t ht => absurd ht (Nat.not_lt_zero _), fun h => absurd rfl h, fun t ht => absurd ht (Nat.not_lt_zero _), fun t ht => absurd ht (Nat.not_lt_zero _), fun h => absurd rfl h⟩
  · exact ⟨by omega, f1, f2, fun k hk => absurd hk (Nat.not_lt_zero _), fun c hc w hw u hu => ⟨0, by omega, g1 c hc w hw u hu, fun k hk => absurd hk (Nat.not_lt_zero _), fun h => absurd rfl h⟩, fun j hj => absurd hj (Nat.not_lt_zero _)⟩
theorem pu_run {L : Nat} {xs : Nat → Int32} {H1 H2 : pm_H} (hL : L ≤ 1536) (E1 : pm_E pm_Y pm_T 6 M_Lo_init [.ref 0] (pm_new pm_h0 16 2) (fun r => r = (H1, none))) (n1 : H1.1 = 111) (E2 : pm_E pm_Y pm_T 6 M_Mo_init [.ref 111] (pm_new H1 24 24) (fun r => r = (H2, none))) (n2 : H2.1 = 131) (s2 : H2.2.1 ≤ 30000) (k : KK H2.2.2.1 H2.2.2.2.2) (v : Inv H2.2.2.2.1 H2.2.2.2.2) :
    pm_B pm_Y pm_T 7 (LT L xs) (0, [.retAddr 0, .null, .null, .null], [], pm_h0) (fun r => r.2 = some (.int 1) ∧ r.1.1 ≤ 600000 ∧ r.1.2.1 ≤ 7302250) := by
  obtain ⟨N2, SL, S, A, P⟩ := H2
  change N2 = 131 at n2
  subst n2
  obtain ⟨N1, Q1⟩ := H1
  change N1 = 111 at n1
  subst n1
  iterate 2 refine pm_B.next rfl rfl ?_
  refine pm_B.call (d := 6) (a := [.ref 0]) rfl rfl E1 (fun h1 x hx => ?_)
  cases hx
  iterate 3 refine pm_B.next rfl rfl ?_
  refine pm_B.call (d := 6) (a := [.ref 111]) rfl rfl E2 (fun h1 x hx => ?_)
  cases hx
  iterate 3 refine pm_B.next rfl rfl ?_
  exact law_loop hL (fun A P => ⟨rfl, Nat.le_of_ble_eq_true rfl, Nat.le_trans s2 (by decide)⟩) L 0 A P (by omega) (by omega) k v
end BEGIN
