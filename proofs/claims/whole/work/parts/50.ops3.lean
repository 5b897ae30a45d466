section OPS3
variable {d : Nat} {SL : Nat} {S : Nat → Nat × Nat} {A : Nat → Nat → Int32} {P : Nat → Nat → Option Nat}
variable {n : Nat} {SZ bq : Nat → Nat} {T st rc : Nat} {D TM TH : Nat → Nat} {FB FP : Nat → Nat → Nat}
theorem IS.cong2 {A' : Nat → Nat → Int32} (h : IS n SZ bq A P) (h1 : ∀ a, a < 49 → a ≠ 3 → A' a = A a) (h2 : ∀ a, 112 ≤ a → a ≤ 115 → A' a = A a) (h3 : A' 111 4 = A 111 4) (hg : ∀ c, c < 8 → A' 3 c = A' 116 c ∧ (A' 116 c = -1 ∨ ∃ l, l < 4 ∧ A' 116 c = nI l)) : IS n SZ bq A' P := by
  have eK := KS_cg (h2 112 (by omega) (by omega))
  have eN := NS_cg (h2 113 (by omega) (by omega))
  have q45 : ∀ b, b < 9 → 4 ≤ bq b ∧ bq b < 45 := fun b hb => h.q45 hb
  refine ⟨h.n8, by rw [h1 1 (by omega) (by omega)]; exact h.cn, by rw [h3]; exact h.mn, h.ptx, h.pbs, h.bqv, h.bqi, fun b hb hb8 => ?_, h.s64, fun b hb => ?_, fun b hb => ?_, fun b hb i hi => ?_, fun b hb i hi => ?_, fun b hb => ?_, fun b hb => ?_, fun b hb k hk => ?_, fun b hb => ?_, hg⟩
  · have := q45 b (by omega)
    rw [h1 _ (by omega) (by omega)]; exact h.unu b hb hb8
  · have := q45 b (h.b9 hb)
    rw [h1 _ (by omega) (by omega)]; exact h.csz b hb
  · rw [h2 114 (by omega) (by omega)]; exact h.msz b hb
  · have := q45 b (h.b9 hb)
    rw [h1 (bq b + 1) (by omega) (by omega), h1 (bq b + 2) (by omega) (by omega), eK, eN]; exact h.ckn b hb i hi
  · rw [eK, eN]; exact h.fit b hb i hi
  · rw [eK]; exact h.whl b hb
  · have := q45 b (h.b9 (Or.inl hb))
    rw [eK, h1 _ (by omega) (by omega)]; exact h.jcl b hb
  · have := q45 b (h.b9 (Or.inl hb))
    rw [eK, eN, h1 _ (by omega) (by omega), h2 115 (by omega) (by omega)]; exact h.hld b hb k hk
  · have := q45 b (h.b9 (Or.inl hb))
    rw [h1 _ (by omega) (by omega), h2 115 (by omega) (by omega)]; exact h.crq b hb
theorem m1_lt {l : Int32} : l < -1 ↔ (l < 0 ∧ l ≠ -1) := by
  rw [Int32.lt_iff_toInt_lt, Int32.lt_iff_toInt_lt]
  have e : ((-1 : Int32)).toInt = -1 := rfl
  have e0 : ((0 : Int32)).toInt = 0 := rfl
  rw [e, e0]
  constructor
  · intro g
    exact ⟨by omega, fun z => by rw [z, e] at g; omega⟩
  · intro ⟨g1, g2⟩
    have : l.toInt ≠ -1 := fun z => g2 (Int32.toInt_inj.mp (z.trans e.symm))
    omega
theorem op_guard {c l : Int32} (k : KK S P) (i : Inv A P) : OP d M_Lo_guard M_Mo_guard [.int c, .int l] SL S A P := by
  have i0 := i
  obtain ⟨n, SZ, bq, T, st, rc, D, TM, TH, FB, FP, is, it, il, ik, ia⟩ := i
  have T6 := it.T6
  have z : EE (d + 6) M_Lo_guard [.ref 0, .int c, .int l] SL S A P (RR SL S (fun x A1 P1 => (x = 0 ∨ x = 1) ∧ O2 d M_Mo_guard [.int c, .int l] SL S x A1 P1)) := by
    refine pm_E.ups (w_guard (d := d + 1) k (pm_E.weaken (x_setGuard k.H) (fun r hr => ?_)) (fun x A1 P1 h => h.1)) (by omega)
    rcases hr with ⟨g, hr⟩ | ⟨j, hj, hc, hl, hr⟩
    · refine ⟨0, A, P, hr, Or.inl rfl, pm_E.ups (pm_E.weaken (x_Mo_guard (d := d) k.2.1) (fun r hr => ?_)) (by omega)⟩
      rcases hr with ⟨g2, hr⟩ | ⟨j, hj, hc, hl1, hl2, hr⟩
      · exact ⟨A, hr, i0, k⟩
      · exfalso
        subst hc
        rcases g with g | ⟨g1, g2⟩
        · rw [show (8 : Int32) = nI 8 from rfl, in_nI (by omega) (by omega), if_pos hj] at g
          exact absurd g (by decide)
        · unfold in_ at g2
          by_cases h0 : l < 0
          · exact hl1 (m1_lt.mpr ⟨h0, g1⟩)
          · rw [if_pos ⟨h0, Int32.not_le.mpr hl2⟩] at g2
            exact absurd g2 (by decide)
    · refine ⟨1, _, P, hr, Or.inr rfl, pm_E.ups (pm_E.weaken (x_Mo_guard (d := d) k.2.1) (fun r hr => ?_)) (by omega)⟩
      have hl' : ¬ l < -1 ∧ l < 4 ∧ (l = -1 ∨ ∃ m, m < 4 ∧ l = nI m) := by
        rcases hl with g | g
        · subst g; exact ⟨by decide, by decide, Or.inl rfl⟩
        · obtain ⟨m, h1, h2⟩ := in_one (T := 4) (by decide) g
          exact ⟨fun z => absurd (m1_lt.mp z).1 (by rw [h2]; exact nI_pos (by omega)), by rw [h2]; exact nI_lt (a := m) (b := 4) h1 (by decide), Or.inr ⟨m, h1, h2⟩⟩
      rcases hr with ⟨g2, hr⟩ | ⟨j', hj', hc', hl1, hl2, hr⟩
      · exfalso
        rcases g2 with g2 | g2 | g2
        · subst hc
          rw [show (8 : Int32) = nI 8 from rfl, in_nI (by omega) (by omega), if_pos hj] at g2
          exact absurd g2 (by decide)
        · exact hl'.1 g2
        · exact g2 hl'.2.1
      · have ej : j' = j := (nI_eq (by omega) (by omega)).mp (hc'.symm.trans hc)
        subst ej
        have eo : ∀ a, a ≠ 3 → a ≠ 116 → pm_u (pm_u A 3 j' l) 116 j' l a = A a := fun a h h' => by
          funext b
          rw [u_nc h', u_nc h]
        refine ⟨_, hr, ⟨n, SZ, bq, T, st, rc, D, TM, TH, FB, FP, is.cong2 (fun a h h' => eo a h' (by omega)) (fun a h h' => eo a (by omega) (by omega)) (by rw [eo 111 (by omega) (by omega)]) (fun c hc => ?_), it.cong (fun a h h' => eo a (by omega) (by omega)) (fun a h => eo a (by omega) (by omega)) (fun k _ => by rw [eo 111 (by omega) (by omega)]) (Nat.le_refl _) (fun _ _ => rfl), il.cong (fun a h h' => eo a (by omega) (by omega)) (fun a h => eo a (by omega) (by omega)) it (fun b _ i _ => ?_), ik.cong T6 (fun a h h' => eo a (by omega) (by omega)) (fun a h => eo a (by omega) (by omega)), ia.cong (fun a h h' => eo a (by omega) (by omega)) (fun a h => eo a (by omega) (by omega)) (fun k _ => by rw [eo 111 (by omega) (by omega)])⟩, k⟩
        · by_cases h : c = j'
          · subst h
            rw [u_nc (by decide), u_eq, u_eq]
            exact ⟨rfl, hl'.2.2⟩
          · rw [u_nc (by decide), u_ni h, u_ni h, u_nc (by decide)]
            exact is.gds c hc
        · rw [KS_cg (eo 112 (by omega) (by omega)), NS_cg (eo 113 (by omega) (by omega))]
          exact ⟨rfl, rfl⟩
  exact pm_E.weaken z (fun r hr => by
    obtain ⟨x, A1, P1, h1, h2⟩ := hr
    exact ⟨x, A1, P1, h1, h2.2⟩)
/-- the heap behind a statement, class and reference -/
def smH (A : Nat → Nat → Int32) (q sz : Nat) (kd nm : Int32) : Nat → Nat → Int32 := pm_u (pm_u (pm_u (pm_u (pm_u (pm_u A (q + 1) sz kd) (q + 2) sz nm) q 4 (nI (sz + 1))) 112 (512 + sz) kd) 113 (512 + sz) nm) 114 8 (nI (sz + 1))
theorem op_statement {kd nm : Int32} (k : KK S P) (i : Inv A P) : OP d M_Lo_statement M_Mo_statement [.int kd, .int nm] SL S A P := by
  have i0 := i
  obtain ⟨n, SZ, bq, T, st, rc, D, TM, TH, FB, FP, is, it, il, ik, ia⟩ := i
  have T6 := it.T6
  have n8 := is.n8
  have z64 := is.s64 8 (Or.inr rfl)
  have q8 := is.q45 (b := 8) (by omega)
  refine pm_E.ups (w_statement (d := d + 2) k (pm_E.weaken (x_addStatement (q := bq 8) (sz := SZ 8) k.H is.ptx (k.bq is (by omega)) (is.csz 8 (Or.inr rfl)) z64) (fun r hr => ?_))) (by omega)
  rcases hr with ⟨g, hr⟩ | ⟨hf, hs, hr⟩
  · refine ⟨-1, A, P, hr, pm_E.ups (pm_E.weaken (x_Mo_statement (d := d) (sz := SZ 8) k.2.1 (is.msz 8 (Or.inr rfl)) z64) (fun r hr => ?_)) (by omega)⟩
    rcases hr with ⟨g2, hr⟩ | ⟨hf, hs, hr⟩
    · exact ⟨A, hr, i0, k⟩
    · exfalso
      rcases g with g | g
      · rw [g] at hf; exact absurd hf (by decide)
      · omega
  · refine ⟨_, _, P, hr, pm_E.ups (pm_E.weaken (x_Mo_statement (d := d) (sz := SZ 8) k.2.1 (by rw [u_nc (by omega), u_nc (by omega), u_nc (by omega)]; exact is.msz 8 (Or.inr rfl)) z64) (fun r hr => ?_)) (by omega)⟩
    rcases hr with ⟨g, hr⟩ | ⟨-, -, hr⟩
    · exfalso
      rcases g with g | g
      · rw [g] at hf; exact absurd hf (by decide)
      · omega
    · refine ⟨_, hr, ?_, k⟩
      have eA : (pm_u (pm_u (pm_u (pm_u (pm_u (pm_u A (bq 8 + 1) (SZ 8) kd) (bq 8 + 2) (SZ 8) nm) (bq 8) 4 (nI (SZ 8 + 1))) 112 (512 + SZ 8) kd) 113 (512 + SZ 8) nm) 114 8 (nI (SZ 8 + 1))) = smH A (bq 8) (SZ 8) kd nm := rfl
      rw [eA]
      have eo : ∀ a, a ≠ bq 8 → a ≠ bq 8 + 1 → a ≠ bq 8 + 2 → a ≠ 112 → a ≠ 113 → a ≠ 114 → smH A (bq 8) (SZ 8) kd nm a = A a := fun a h1 h2 h3 h4 h5 h6 => by
        funext b
        rw [smH, u_nc h6, u_nc h5, u_nc h4, u_nc h1, u_nc h3, u_nc h2]
      have eb : ∀ b x, b < 8 → x < 5 → smH A (bq 8) (SZ 8) kd nm (bq b + x) = A (bq b + x) := fun b x hb hx => by
        have := is.q45 (b := b) (by omega)
        exact eo _ (is.sep (by omega) (by omega) (by omega) x 0 hx (by omega)) (is.sep (by omega) (by omega) (by omega) x 1 hx (by omega)) (is.sep (by omega) (by omega) (by omega) x 2 hx (by omega)) (by omega) (by omega) (by omega)
      have eK : ∀ b i, (b < 8 ∧ i < 64 ∨ b = 8 ∧ i < SZ 8) → KS (smH A (bq 8) (SZ 8) kd nm) b i = KS A b i := fun b i h => by
        unfold KS
        rw [smH, u_nc (by decide), u_nc (by decide), u_ni (by omega), u_nc (by omega), u_nc (by omega), u_nc (by omega)]
      have eN : ∀ b i, (b < 8 ∧ i < 64 ∨ b = 8 ∧ i < SZ 8) → NS (smH A (bq 8) (SZ 8) kd nm) b i = NS A b i := fun b i h => by
        unfold NS
        rw [smH, u_nc (by decide), u_ni (by omega), u_nc (by decide), u_nc (by omega), u_nc (by omega), u_nc (by omega)]
      have eK8 : KS (smH A (bq 8) (SZ 8) kd nm) 8 (SZ 8) = kd := by
        unfold KS
        rw [smH, u_nc (by decide), u_nc (by decide)]
        exact u_eq
      have eN8 : NS (smH A (bq 8) (SZ 8) kd nm) 8 (SZ 8) = nm := by
        unfold NS
        rw [smH, u_nc (by decide)]
        exact u_eq
      have e1 : ∀ i, smH A (bq 8) (SZ 8) kd nm (bq 8 + 1) i = if i = SZ 8 then kd else A (bq 8 + 1) i := fun i => by
        rw [smH, u_nc (by omega), u_nc (by omega), u_nc (by omega), u_nc (by omega), u_nc (by omega)]
        by_cases h : i = SZ 8
        · rw [if_pos h, h]; exact u_eq
        · rw [if_neg h, u_ni h]
      have e2 : ∀ i, smH A (bq 8) (SZ 8) kd nm (bq 8 + 2) i = if i = SZ 8 then nm else A (bq 8 + 2) i := fun i => by
        rw [smH, u_nc (by omega), u_nc (by omega), u_nc (by omega), u_nc (by omega)]
        by_cases h : i = SZ 8
        · rw [if_pos h, h]; exact u_eq
        · rw [if_neg h, u_ni h, u_nc (by omega)]
      have e114 : ∀ b, b ≠ 8 → smH A (bq 8) (SZ 8) kd nm 114 b = A 114 b := fun b hb => by
        rw [smH, u_ni hb, u_nc (by omega), u_nc (by omega), u_nc (by omega), u_nc (by omega), u_nc (by omega)]
      have z2 : ∀ b, b < n → (if b = 8 then SZ 8 + 1 else SZ b) = SZ b := fun b hb => by rw [if_neg (by omega)]
      refine ⟨n, fun b => if b = 8 then SZ 8 + 1 else SZ b, bq, T, st, rc, D, TM, TH, FB, FP, ⟨n8, ?_, ?_, is.ptx, is.pbs, is.bqv, is.bqi, fun b hb hb8 => ?_, fun b hb => ?_, fun b hb => ?_, fun b hb => ?_, fun b hb i hi => ?_, fun b hb i hi => ?_, fun b hb => ?_, fun b hb => ?_, fun b hb k hk => ?_, fun b hb => ?_, fun c hc => ?_⟩, it.cong (fun a h h' => eo a (by omega) (by omega) (by omega) (by omega) (by omega) (by omega)) (fun a h => eo a (by omega) (by omega) (by omega) (by omega) (by omega) (by omega)) (fun k _ => by rw [eo 111 (by omega) (by omega) (by omega) (by omega) (by omega) (by omega)]) (Nat.le_refl _) z2, il.cong (fun a h h' => eo a (by omega) (by omega) (by omega) (by omega) (by omega) (by omega)) (fun a h => eo a (by omega) (by omega) (by omega) (by omega) (by omega) (by omega)) it (fun b hb i hi => by have := is.s64 b (Or.inl hb); exact ⟨eK b i (by omega), eN b i (by omega)⟩), ik.cong T6 (fun a h h' => eo a (by omega) (by omega) (by omega) (by omega) (by omega) (by omega)) (fun a h => eo a (by omega) (by omega) (by omega) (by omega) (by omega) (by omega)), ia.cong (fun a h h' => eo a (by omega) (by omega) (by omega) (by omega) (by omega) (by omega)) (fun a h => eo a (by omega) (by omega) (by omega) (by omega) (by omega) (by omega)) (fun k _ => by rw [eo 111 (by omega) (by omega) (by omega) (by omega) (by omega) (by omega)])⟩
      · rw [eo 1 (by omega) (by omega) (by omega) (by omega) (by omega) (by omega)]; exact is.cn
      · rw [eo 111 (by omega) (by omega) (by omega) (by omega) (by omega) (by omega)]; exact is.mn
      · have := eb b 0 hb8 (by omega)
        rw [Nat.add_zero] at this
        rw [this]; exact is.unu b hb hb8
      · show (if b = 8 then SZ 8 + 1 else SZ b) ≤ 64
        by_cases h8 : b = 8
        · rw [if_pos h8]; omega
        · rw [if_neg h8]; exact is.s64 b hb
      · show _ = nI (if b = 8 then SZ 8 + 1 else SZ b)
        by_cases h8 : b = 8
        · subst h8
          rw [if_pos rfl, smH, u_nc (by omega), u_nc (by omega), u_nc (by omega)]; exact u_eq
        · have hb' : b < 8 := by rcases hb with h | h <;> omega
          have := eb b 0 hb' (by omega)
          rw [Nat.add_zero] at this
          rw [if_neg h8, this]; exact is.csz b hb
      · show _ = nI (if b = 8 then SZ 8 + 1 else SZ b)
        by_cases h8 : b = 8
        · subst h8
          rw [if_pos rfl, smH]; exact u_eq
        · rw [if_neg h8, e114 b h8]; exact is.msz b hb
      · change i < (if b = 8 then SZ 8 + 1 else SZ b) at hi
        by_cases h8 : b = 8
        · subst h8
          rw [if_pos rfl] at hi
          rw [e1, e2]
          by_cases hs' : i = SZ 8
          · subst hs'
            rw [if_pos rfl, if_pos rfl, eK8, eN8]; exact ⟨rfl, rfl⟩
          · rw [if_neg hs', if_neg hs', eK 8 i (by omega), eN 8 i (by omega)]
            exact is.ckn 8 hb i (by omega)
        · rw [if_neg h8] at hi
          have hb' : b < 8 := by rcases hb with h | h <;> omega
          have := is.s64 b hb
          rw [eb b 1 hb' (by omega), eb b 2 hb' (by omega), eK b i (by omega), eN b i (by omega)]
          exact is.ckn b hb i hi
      · change i < (if b = 8 then SZ 8 + 1 else SZ b) at hi
        by_cases h8 : b = 8
        · subst h8
          rw [if_pos rfl] at hi
          by_cases hs' : i = SZ 8
          · subst hs'
            rw [eK8, eN8]; exact hf
          · rw [eK 8 i (by omega), eN 8 i (by omega)]
            exact is.fit 8 hb i (by omega)
        · rw [if_neg h8] at hi
          have hb' : b < 8 := by rcases hb with h | h <;> omega
          have := is.s64 b hb
          rw [eK b i (by omega), eN b i (by omega)]
          exact is.fit b hb i hi
      · show bk_wh _ (if b = 8 then SZ 8 + 1 else SZ b)
        rw [z2 b hb]
        have := is.s64 b (Or.inl hb)
        exact (bk_wh_cg (fun i hi => eK b i (by omega))).mpr (is.whl b hb)
      · show jc _ _ (if b = 8 then SZ 8 + 1 else SZ b)
        rw [z2 b hb, eb b 3 (by omega) (by omega)]
        have := is.s64 b (Or.inl hb)
        exact jc_cg (fun i hi => (eK b i (by omega)).symm) (fun _ _ => rfl) (is.jcl b hb)
      · change k < (if b = 8 then SZ 8 + 1 else SZ b) at hk
        rw [z2 b hb] at hk
        have := is.s64 b (Or.inl hb)
        rw [eb b 4 (by omega) (by omega), eo 115 (by omega) (by omega) (by omega) (by omega) (by omega) (by omega), is.hld b hb k hk]
        exact (hl_cgk (n := SZ b) (by omega) (fun i hi => eK b i (by omega)) (fun i hi => eN b i (by omega))).symm
      · have := eb b 0 (by omega) (by omega)
        rw [Nat.add_zero] at this
        rw [this, eo 115 (by omega) (by omega) (by omega) (by omega) (by omega) (by omega)]; exact is.crq b hb
      · rw [eo 3 (by omega) (by omega) (by omega) (by omega) (by omega) (by omega), eo 116 (by omega) (by omega) (by omega) (by omega) (by omega) (by omega)]; exact is.gds c hc
end OPS3
