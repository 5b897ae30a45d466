section OPS2
theorem fit_8 {kd nm : Int32} (h : fit_ kd nm = 1) (hk : kd = 0 ∨ kd = 1 ∨ kd = 9 ∨ kd = 10) : ∃ j, j < 8 ∧ nm = nI j := by
  have : in_ nm (nI 8) = 1 := by
    rcases hk with g | g | g | g <;> (subst g; exact h)
  exact in_one (by decide) this
theorem fit_4 {nm : Int32} (h : fit_ 4 nm = 1) : ∃ l, l < 4 ∧ nm = nI l := in_one (by decide) (show in_ nm (nI 4) = 1 from h)
theorem clp {nm : Int32} {j N : Nat} (hN : N < 2 ^ 31) (hj : j < N) (e : nm = nI j) : nm.toNatClampNeg < N ∧ nm = nI nm.toNatClampNeg := by
  rw [e, nI_clamp (by omega)]
  exact ⟨hj, rfl⟩
variable {d : Nat} {SL : Nat} {S : Nat → Nat × Nat} {A : Nat → Nat → Int32} {P : Nat → Nat → Option Nat}
variable {n : Nat} {SZ bq : Nat → Nat} {T st rc : Nat} {D TM TH : Nat → Nat} {FB FP : Nat → Nat → Nat}
/-- where thread t stands: its body, its place, the lock -/
def tb_ (D : Nat → Nat) (FB : Nat → Nat → Nat) (t : Nat) : Nat := FB t (D t - 1)
def tl_ (A : Nat → Nat → Int32) (D : Nat → Nat) (FB FP : Nat → Nat → Nat) (t : Nat) : Nat := (NS A (tb_ D FB t) (tb_ D FP t)).toNatClampNeg
theorem ow_neg (il : IL T D FB FP TM A) (T6 : T ≤ 6) (hT : T ≠ 0) {l : Nat} (hl : l < 4) : (A 118 l < 0 ↔ A 118 l = -1) := by
  obtain ⟨-, -, -, -, h⟩ := il.lks hT l hl
  rcases h with ⟨-, h⟩ | ⟨-, t, ht, h⟩
  · rw [h]; decide
  · rw [h]
    exact ⟨fun g => absurd g (nI_pos (by omega)), fun g => absurd g (nI_m1 (by omega))⟩
theorem tops (k : KK S P) (is : IS n SZ bq A P) (it : IT n SZ T st D FB FP A) (il : IL T D FB FP TM A) {t : Nat} (ht : t < T) :
    tpS S A P t (D t) (tb_ D FB t) (bq (tb_ D FB t)) (tb_ D FP t) (tl_ A D FB FP t) (A 118 (tl_ A D FB FP t)) ∧ tpM A t (D t) (tb_ D FB t) (tb_ D FP t) (tl_ A D FB FP t) (A 118 (tl_ A D FB FP t)) ∧ (D t ≠ 0 → A (bq (tb_ D FB t) + 1) (tb_ D FP t) = KS A (tb_ D FB t) (tb_ D FP t) ∧ tb_ D FB t < n ∧ tb_ D FP t < SZ (tb_ D FB t)) := by
  have T6 := it.T6
  have n8 := is.n8
  obtain ⟨d8, dc, dm⟩ := it.dep t ht
  by_cases hz : D t = 0
  · exact ⟨⟨⟨dc, d8, it.num t (by omega)⟩, fun g => absurd hz g⟩, ⟨dm, d8, fun g => absurd hz g⟩, fun g => absurd hz g⟩
  · obtain ⟨f1, f2, f3, f4, f5, f6⟩ := it.frm t ht (D t - 1) (by omega)
    have f7 := it.top t ht (D t - 1) (by omega)
    have z64 := is.s64 _ (Or.inl f1)
    obtain ⟨c1, c2⟩ := is.ckn _ (Or.inl f1) _ f7
    have hfit := is.fit _ (Or.inl f1) _ f7
    have q45 := is.q45 (b := FB t (D t - 1)) (by omega)
    have hl : KS A (FB t (D t - 1)) (FP t (D t - 1)) = 4 → tl_ A D FB FP t < 4 ∧ NS A (FB t (D t - 1)) (FP t (D t - 1)) = nI (tl_ A D FB FP t) := fun g => by
      rw [g] at hfit
      obtain ⟨l, l1, l2⟩ := fit_4 hfit
      exact clp (by decide) l1 l2
    refine ⟨⟨⟨dc, d8, it.num t (by omega)⟩, fun _ => ⟨⟨by rw [show D t - 1 + 1 = D t by omega]; exact dc, by omega, f3, by unfold tb_; omega, is.pbs _ (by unfold tb_; omega), k.bq is (by unfold tb_; omega), q45.2, f5, by unfold tb_; omega⟩, fun g => ?_⟩⟩, ⟨dm, d8, fun _ => ⟨f4, by unfold tb_; omega, f6, by unfold tb_; omega, fun g => ?_⟩⟩, fun _ => ⟨c1, f1, f7⟩⟩
    · obtain ⟨g1, g2⟩ := hl (c1.symm.trans g)
      exact ⟨g1, c2.trans g2, (il.lks (by omega) _ g1).1⟩
    · obtain ⟨g1, g2⟩ := hl g
      exact ⟨g1, g2, rfl, ow_neg il T6 (by omega) g1⟩
theorem sv_cg {dt : Nat} {kd kd' ow nb : Int32} (h : dt ≠ 0 → kd = kd') : sv_ dt kd ow nb = sv_ dt kd' ow nb := by
  by_cases z : dt = 0
  · simp [sv_, z]
  · rw [h z]
theorem op_state {v : Int32} (k : KK S P) (i : Inv A P) : OP d M_Lo_state M_Mo_state [.int v] SL S A P := by
  have i0 := i
  obtain ⟨n, SZ, bq, T, st, rc, D, TM, TH, FB, FP, is, it, il, ik, ia⟩ := i
  have T6 := it.T6
  rcases in_z v (nI T) with hz | hz
  · exact pm_E.ups (w_state k (rr_eq (x_stateOf_no (d := d) k.1 it.cT v hz) (o2_eq (pm_E.ups (x_Mo_state_no (d := d) k.2.1 it.run it.mT v (Or.inr hz)) (by omega)) i0 k))) (by omega)
  · obtain ⟨t, ht, e⟩ := in_one (by omega) hz
    subst e
    obtain ⟨h1, h2, h3⟩ := tops k is it il ht
    have key := x_stateOf (d := d) (SL := SL) k.1 it.cT ht it.T6 h1
    rw [sv_cg (fun z => (h3 z).1)] at key
    exact pm_E.ups (w_state k (rr_eq key (o2_eq (pm_E.ups (x_Mo_state (d := d) k.2.1 it.run (by rw [if_neg (by omega)]; decide) it.mT ht it.T6 h2) (by omega)) i0 k))) (by omega)
theorem op_stuck (k : KK S P) (i : Inv A P) : OP d M_Lo_stuck M_Mo_stuck [] SL S A P := by
  have i0 := i
  obtain ⟨n, SZ, bq, T, st, rc, D, TM, TH, FB, FP, is, it, il, ik, ia⟩ := i
  have T6 := it.T6
  have k1 := x_isStuck (d := d) (SL := SL) k.1 it.cT it.T6 (fun t ht => (tops k is it il ht).1)
  have k2 := x_Mo_stuck (d := d) (SL := SL) k.2.1 it.run it.mT it.T6 (fun t ht => (tops k is it il ht).2.1)
  have e : stk (fun t => sv_ (D t) (A (bq (tb_ D FB t) + 1) (tb_ D FP t)) (A 118 (tl_ A D FB FP t)) (nI t)) T ↔ stk (fun t => sv_ (D t) (KS A (tb_ D FB t) (tb_ D FP t)) (A 118 (tl_ A D FB FP t)) (nI t)) T := by
    have e1 : ∀ t, t < T → sv_ (D t) (A (bq (tb_ D FB t) + 1) (tb_ D FP t)) (A 118 (tl_ A D FB FP t)) (nI t) = sv_ (D t) (KS A (tb_ D FB t) (tb_ D FP t)) (A 118 (tl_ A D FB FP t)) (nI t) := fun t ht => sv_cg (fun z => ((tops k is it il ht).2.2 z).1)
    constructor
    · exact fun ⟨g1, t, ht, g2⟩ => ⟨fun t ht => by show sv_ _ _ _ _ ≠ 0; rw [← e1 t ht]; exact g1 t ht, t, ht, by show sv_ _ _ _ _ ≠ 2; rw [← e1 t ht]; exact g2⟩
    · exact fun ⟨g1, t, ht, g2⟩ => ⟨fun t ht => by show sv_ _ _ _ _ ≠ 0; rw [e1 t ht]; exact g1 t ht, t, ht, by show sv_ _ _ _ _ ≠ 2; rw [e1 t ht]; exact g2⟩
  have z : EE (d + 6) M_Lo_stuck [.ref 0] SL S A P (RR SL S (fun x A1 P1 => (x = 0 ∨ x = 1) ∧ O2 d M_Mo_stuck [] SL S x A1 P1)) := by
    refine pm_E.ups (w_stuck (d := d + 3) k (pm_E.weaken k1 (fun r hr => ?_)) (fun x A1 P1 h => h.1)) (by omega)
    rcases hr with ⟨g, hr⟩ | ⟨g, hr⟩
    · refine ⟨1, A, P, hr, Or.inr rfl, pm_E.ups (pm_E.weaken k2 (fun r hr => ?_)) (by omega)⟩
      rcases hr with ⟨g2, hr⟩ | ⟨g2, hr⟩
      · exact ⟨A, hr, i0, k⟩
      · exact absurd (e.mp g) g2
    · refine ⟨0, A, P, hr, Or.inl rfl, pm_E.ups (pm_E.weaken k2 (fun r hr => ?_)) (by omega)⟩
      rcases hr with ⟨g2, hr⟩ | ⟨g2, hr⟩
      · exact absurd (e.mpr g2) g
      · exact ⟨A, hr, i0, k⟩
  exact pm_E.weaken z (fun r hr => by
    obtain ⟨x, A1, P1, h1, h2⟩ := hr
    exact ⟨x, A1, P1, h1, h2.2⟩)
theorem rgt_cg {g g' : Nat → Int32} {n : Nat} {rf rf' : Nat → Int32} {kd : Int32} {j : Nat} {hd : Int32} (h : kd = 0 ∨ kd = 1 → g j = g' j) (h' : j < n → rf j = rf' j) : rgt g n rf kd j hd ↔ rgt g' n rf' kd j hd := by
  unfold rgt
  constructor
  · exact fun ⟨a, b, c, e⟩ => ⟨fun z => by rw [← h (Or.inl z)]; exact a z, fun z => by rw [← h (Or.inr z)]; exact b z, fun z => by have := c z; exact ⟨this.1, by rw [← h' this.1]; exact this.2⟩, fun z => by have := e z; exact ⟨this.1, by rw [← h' this.1]; exact this.2⟩⟩
  · exact fun ⟨a, b, c, e⟩ => ⟨fun z => by rw [h (Or.inl z)]; exact a z, fun z => by rw [h (Or.inr z)]; exact b z, fun z => by have := c z; exact ⟨this.1, by rw [h' this.1]; exact this.2⟩, fun z => by have := e z; exact ⟨this.1, by rw [h' this.1]; exact this.2⟩⟩
theorem rgt_eq (is : IS n SZ bq A P) {b i : Nat} (hb : b < n) (hi : i < SZ b) : rC A n (A 115) (bq b) (fun i => (NS A b i).toNatClampNeg) i ↔ rM A n b (fun i => (NS A b i).toNatClampNeg) i := by
  unfold rC rM
  rw [(is.ckn b (Or.inl hb) i hi).1, is.hld b hb i hi]
  refine rgt_cg (fun z => ?_) (fun _ => rfl)
  obtain ⟨j, h1, h2⟩ := fit_8 (is.fit b (Or.inl hb) i hi) (by rcases z with z | z <;> simp [z])
  exact (is.gds _ (clp (by decide) h1 h2).1).1
theorem IS.num8 (is : IS n SZ bq A P) {b : Nat} (hb : bd n b) {i : Nat} (hi : i < SZ b) (hk : KS A b i = 0 ∨ KS A b i = 1 ∨ KS A b i = 9 ∨ KS A b i = 10) : (NS A b i).toNatClampNeg < 8 ∧ NS A b i = nI (NS A b i).toNatClampNeg := by
  obtain ⟨j, h1, h2⟩ := fit_8 (is.fit b hb i hi) hk
  exact clp (by decide) h1 h2
theorem IS.nu (is : IS n SZ bq A P) {b : Nat} (hb : b < n) : bk_nu (KS A b) (SZ b) := fun k hk h5 => ((is.whl b hb).1 k hk).1 h5
theorem IS.rb (is : IS n SZ bq A P) {b : Nat} (hb : b < n) : rb A b (SZ b) (fun i => (NS A b i).toNatClampNeg) := by
  have hfit := is.fit b (Or.inl hb)
  obtain ⟨-, h, h16, hrq⟩ := is.crq b hb
  refine ⟨is.msz b (Or.inl hb), is.s64 b (Or.inl hb), is.nu hb, fun k hk => ?_, fun k hk hh => is.num8 (Or.inl hb) hk hh⟩
  refine hl_small h16 hrq _ (fun o ho h4 => ?_)
  have := (bk_lt k o ho).1
  have hf := hfit o (by omega)
  rw [h4] at hf
  exact fit_4 hf
theorem op_check {v : Int32} (k : KK S P) (i : Inv A P) : OP d M_Lo_check M_Mo_check [.int v] SL S A P := by
  have i0 := i
  obtain ⟨n, SZ, bq, T, st, rc, D, TM, TH, FB, FP, is, it, il, ik, ia⟩ := i
  have n8 := is.n8
  obtain ⟨⟨⟨s0, s1, s2, s3, s4, s5, s6⟩, -⟩, -, -, o0, o1, o2⟩ := id k
  refine pm_E.ups (d := d + 4) ?_ (by omega)
  refine q_of (tb := fun j => tb_Lo_check[j]?) rfl rfl (Nat.le_of_ble_eq_true rfl) ?_
  show BB _ _ 0 [.ref 0, .int v] [] _ _ _ _ _
  iterate 1 refine pm_B.next rfl rfl ?_
  refine q_getr rfl o0 (by decide) o1 ?_
  iterate 1 refine pm_B.next rfl rfl ?_
  refine q_cv (a := [.int v]) rfl s4 rfl (Nat.le_of_ble_eq_true rfl) (Nat.le_of_ble_eq_true rfl) (x_contains k.H is.cn) ?_
  rcases in_z v (nI n) with hz | hz
  · refine q_top hz ?_
    refine r_ifT rfl rfl ?_
    iterate 1 refine pm_B.next rfl rfl ?_
    exact q_iret rfl ⟨-1, A, P, rfl, o2_eq (pm_E.ups (x_Mo_check_no (d := d) k.2.1 is.mn hz) (by omega)) i0 k⟩
  · obtain ⟨b, hb, e⟩ := in_one (by omega) hz
    subst e
    refine q_top hz ?_
    refine r_ifF rfl rfl ?_
    iterate 1 refine pm_B.next rfl rfl ?_
    refine q_getr rfl o0 (by decide) o1 ?_
    iterate 1 refine pm_B.next rfl rfl ?_
    refine q_callv (a := [.int (nI b)]) rfl s4 rfl (Nat.le_of_ble_eq_true rfl) (Nat.le_of_ble_eq_true rfl) (x_firstWrong (d := d) (n := n) (bq := bq) (rf := A 115) (jn := fun i => (NS A b i).toNatClampNeg) k.H (k.bq is (by omega)) (by omega) (is.pbs b (by omega)) is.cn n8 (fun b' hb' => ⟨is.pbs b' (by omega), (k.bq is (by omega)).1.1, (is.crq b' hb').1⟩) (is.csz b (Or.inl hb)) (is.s64 b (Or.inl hb)) (fun i hi hk => ?_)) (fun h1 v hv => ?_)
    · obtain ⟨c1, c2⟩ := is.ckn b (Or.inl hb) i hi
      rw [c1] at hk
      rw [c2]
      exact is.num8 (Or.inl hb) hi hk
    obtain ⟨i, hi1, hi2, hi3, hv⟩ := hv
    cases hv
    iterate 1 refine pm_B.next rfl rfl ?_
    refine q_iret rfl ⟨nI i, A, P, rfl, pm_E.ups (pm_E.weaken (x_Mo_check (d := d) k.2.1 is.mn n8 hb (fun c hc => (is.gds c hc).2) (is.rb hb)) (fun r hr => ?_)) (by omega)⟩
    obtain ⟨i', j1, j2, j3, hr⟩ := hr
    have e : i' = i := by
      rcases Nat.lt_trichotomy i' i with g | g | g
      · exact absurd ((rgt_eq is hb (by omega)).mp (hi2 i' g)) (j3 (by omega))
      · exact g
      · exact absurd ((rgt_eq is hb (by omega)).mpr (j2 i g)) (hi3 (by omega))
    rw [e] at hr
    exact ⟨A, hr, i0, k⟩
theorem op_sound (k : KK S P) (i : Inv A P) : OP d M_Lo_sound M_Mo_sound [] SL S A P := by
  have i0 := i
  obtain ⟨n, SZ, bq, T, st, rc, D, TM, TH, FB, FP, is, it, il, ik, ia⟩ := i
  have n8 := is.n8
  have k1 := x_allRight (d := d) (SL := SL) (n := n) (bq := bq) (sz := SZ) (jn := fun b i => (NS A b i).toNatClampNeg) (rf := A 115) k.H is.cn n8 (fun b hb => ⟨is.pbs b (by omega), k.bq is (by omega), (is.crq b hb).1, is.csz b (Or.inl hb), is.s64 b (Or.inl hb), fun i hi hk => by
    obtain ⟨c1, c2⟩ := is.ckn b (Or.inl hb) i hi
    rw [c1] at hk
    rw [c2]
    exact is.num8 (Or.inl hb) hi hk⟩)
  have k2 := x_Mo_sound (d := d) (SL := SL) (sz := SZ) (jn := fun b i => (NS A b i).toNatClampNeg) k.2.1 is.mn n8 (fun c hc => (is.gds c hc).2) (fun b hb => is.rb hb)
  have e : (∀ b, b < n → ∀ i, i < SZ b → rC A n (A 115) (bq b) (fun i => (NS A b i).toNatClampNeg) i) ↔ (∀ b, b < n → ∀ i, i < SZ b → rM A n b (fun i => (NS A b i).toNatClampNeg) i) :=
    ⟨fun g b hb i hi => (rgt_eq is hb hi).mp (g b hb i hi), fun g b hb i hi => (rgt_eq is hb hi).mpr (g b hb i hi)⟩
  have z : EE (d + 6) M_Lo_sound [.ref 0] SL S A P (RR SL S (fun x A1 P1 => (x = 0 ∨ x = 1) ∧ O2 d M_Mo_sound [] SL S x A1 P1)) := by
    refine pm_E.ups (w_sound (d := d + 4) k (pm_E.weaken k1 (fun r hr => ?_)) (fun x A1 P1 h => h.1)) (by omega)
    rcases hr with ⟨g, hr⟩ | ⟨g, hr⟩
    · refine ⟨1, A, P, hr, Or.inr rfl, pm_E.ups (pm_E.weaken k2 (fun r hr => ?_)) (by omega)⟩
      rcases hr with ⟨g2, hr⟩ | ⟨g2, hr⟩
      · exact ⟨A, hr, i0, k⟩
      · exact absurd (e.mp g) g2
    · refine ⟨0, A, P, hr, Or.inl rfl, pm_E.ups (pm_E.weaken k2 (fun r hr => ?_)) (by omega)⟩
      rcases hr with ⟨g2, hr⟩ | ⟨g2, hr⟩
      · exact absurd (e.mpr g2) g
      · exact ⟨A, hr, i0, k⟩
  exact pm_E.weaken z (fun r hr => by
    obtain ⟨x, A1, P1, h1, h2⟩ := hr
    exact ⟨x, A1, P1, h1, h2.2⟩)
end OPS2
