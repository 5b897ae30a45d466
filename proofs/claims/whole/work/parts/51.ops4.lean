section OPS4
variable {d : Nat} {SL : Nat} {S : Nat → Nat × Nat} {A : Nat → Nat → Int32} {P : Nat → Nat → Option Nat}
variable {n : Nat} {SZ bq : Nat → Nat} {T st rc : Nat} {D TM TH : Nat → Nat} {FB FP : Nat → Nat → Nat}
theorem KK.upd {P' : Nat → Nat → Option Nat} (k : KK S P) (e : ∀ a b, a ≠ 2 → (a ≠ 1 ∨ b ≠ 2) → P' a b = P a b) : KK S P' := by
  obtain ⟨⟨z0, ⟨p0, p1, p2, p3, p4, p5, p6⟩, us, ul, uc, ⟨zr, ur⟩⟩, ⟨⟨m0, p7, p8, p9, p10, p11⟩, ⟨m1, r7, r8, r9, r10, r12, r13, r14, r15, r16⟩, ⟨m2, r18, r19, r20, r21, r23⟩⟩, kb, o0, o1, o2⟩ := k
  have g : ∀ {a b : Nat} {x : Option Nat}, P a b = x → a ≠ 2 → (a ≠ 1 ∨ b ≠ 2) → P' a b = x := fun h h1 h2 => (e _ _ h1 h2).trans h
  refine ⟨⟨z0, ⟨g p0 (by omega) (by omega), g p1 (by omega) (by omega), g p2 (by omega) (by omega), g p3 (by omega) (by omega), g p4 (by omega) (by omega), g p5 (by omega) (by omega), g p6 (by omega) (by omega)⟩, fun t ht => ?_, fun l hl => ?_, fun c hc => ?_, ⟨zr, g ur (by omega) (by omega)⟩⟩, ⟨⟨m0, g p7 (by omega) (by omega), g p8 (by omega) (by omega), g p9 (by omega) (by omega), g p10 (by omega) (by omega), g p11 (by omega) (by omega)⟩, ⟨m1, g r7 (by omega) (by omega), g r8 (by omega) (by omega), g r9 (by omega) (by omega), g r10 (by omega) (by omega), g r12 (by omega) (by omega), g r13 (by omega) (by omega), g r14 (by omega) (by omega), g r15 (by omega) (by omega), g r16 (by omega) (by omega)⟩, ⟨m2, g r18 (by omega) (by omega), g r19 (by omega) (by omega), g r20 (by omega) (by omega), g r21 (by omega) (by omega), g r23 (by omega) (by omega)⟩⟩, fun j hj => ?_, o0, g o1 (by omega) (by omega), g o2 (by omega) (by omega)⟩
  · obtain ⟨h1, h2, h3, h4, h5⟩ := us t ht
    exact ⟨g h1 (by omega) (by omega), h2, g h3 (by omega) (by omega), g h4 (by omega) (by omega), g h5 (by omega) (by omega)⟩
  · obtain ⟨h1, h2, h3⟩ := ul l hl
    exact ⟨g h1 (by omega) (by omega), h2, g h3 (by omega) (by omega)⟩
  · obtain ⟨h1, h2, h3, h4⟩ := uc c hc
    exact ⟨g h1 (by omega) (by omega), h2, g h3 (by omega) (by omega), g h4 (by omega) (by omega)⟩
  · obtain ⟨h2, h3, h4, h5, h6⟩ := kb j hj
    exact ⟨h2, g h3 (by omega) (by omega), g h4 (by omega) (by omega), g h5 (by omega) (by omega), g h6 (by omega) (by omega)⟩
theorem and15 (x : Int32) : ∃ h, h < 16 ∧ x &&& 15 = nI h := by
  have e : (x &&& 15).toBitVec = x.toBitVec &&& 15#32 := rfl
  refine ⟨(x.toBitVec &&& 15#32).toNat, ?_, ?_⟩
  · have : (x.toBitVec &&& 15#32).toNat ≤ 15 := by
      rw [BitVec.toNat_and]
      exact Nat.and_le_right
    omega
  · refine Int32.toBitVec_inj.mp ?_
    rw [e]
    refine BitVec.eq_of_toNat_eq ?_
    show _ = (BitVec.ofNat 32 (x.toBitVec &&& 15#32).toNat).toNat
    rw [BitVec.toNat_ofNat, Nat.mod_eq_of_lt (x.toBitVec &&& 15#32).isLt]
theorem op_body {rq : Int32} (k : KK S P) (i : Inv A P) : OP d M_Lo_body M_Mo_body [.int rq] SL S A P := by
  obtain ⟨n, SZ, bq, T, st, rc, D, TM, TH, FB, FP, is, it, il, ik, ia⟩ := i
  have T6 := it.T6
  have n8 := is.n8
  have z64 := is.s64 8 (Or.inr rfl)
  have q8 := is.q45 (b := 8) (by omega)
  have ewh : bk_wh (A (bq 8 + 1)) (SZ 8) ↔ bk_wh (KS A 8) (SZ 8) := bk_wh_cg (fun i hi => (is.ckn 8 (Or.inr rfl) i hi).1)
  refine pm_E.ups (w_body (d := d + 2) k (pm_E.weaken (x_closeText (n := n) (sz := SZ 8) (tq := bq 8) (un := bq n) k.H is.cn n8 is.ptx (k.bq is (by omega)) (is.csz 8 (Or.inr rfl)) z64 (fun h => is.pbs n h) (by omega)) (fun r hr => ?_))) (by omega)
  rcases hr with ⟨g, A1, hA1, hr⟩ | ⟨hn7, hwh, pt, hd, hjc, hhd, hr⟩
  · have e1 : ∀ a, a ≠ bq 8 → a ≠ bq 8 + 3 → a ≠ bq 8 + 4 → A1 a = A a := fun a h1 h2 h3 => by
      rcases hA1 with h | ⟨pt, hd, h⟩
      · rw [h]
      · funext b
        rw [h, jb_o (by omega) h2 h3]
    have eo : ∀ a, a ≠ bq 8 → a ≠ bq 8 + 3 → a ≠ bq 8 + 4 → a ≠ 114 → pm_u (pm_u A1 (bq 8) 4 0) 114 8 0 a = A a := fun a h1 h2 h3 h4 => by
      funext b
      rw [u_nc h4, u_nc h1, e1 a h1 h2 h3]
    refine ⟨-1, _, P, hr, pm_E.ups (pm_E.weaken (x_Mo_body (d := d) (n := n) (sz := SZ 8) k.2.1 (by rw [u_nc (by omega), e1 111 (by omega) (by omega) (by omega)]; exact is.mn) n8 (by rw [u_nc (by omega), e1 114 (by omega) (by omega) (by omega)]; exact is.msz 8 (Or.inr rfl)) z64) (fun r hr => ?_)) (by omega)⟩
    rcases hr with ⟨h1, h2, hr⟩ | ⟨-, hr⟩
    · exfalso
      refine g ⟨h1, ewh.mpr ?_⟩
      rw [KS_cg (A := A) (by funext b; rw [u_nc (by omega), e1 112 (by omega) (by omega) (by omega)])] at h2
      exact h2
    · refine ⟨_, hr, ?_, k⟩
      generalize hA2 : pm_u (pm_u A1 (bq 8) 4 0) 114 8 0 = A2 at eo
      have f1 : A2 (bq 8) 4 = 0 := by rw [← hA2, u_nc (by omega)]; exact u_eq
      have f2 : A2 114 8 = 0 := by rw [← hA2]; exact u_eq
      have f3 : ∀ b, b ≠ 8 → A2 114 b = A 114 b := fun b hb => by rw [← hA2, u_ni hb, u_nc (by omega), e1 114 (by omega) (by omega) (by omega)]
      have eb : ∀ b x, b < 8 → x < 5 → A2 (bq b + x) = A (bq b + x) := fun b x hb hx => by
        have := is.q45 (b := b) (by omega)
        exact eo _ (is.sep (by omega) (by omega) (by omega) x 0 hx (by omega)) (is.sep (by omega) (by omega) (by omega) x 3 hx (by omega)) (is.sep (by omega) (by omega) (by omega) x 4 hx (by omega)) (by omega)
      have eb0 : ∀ b, b < 8 → A2 (bq b) = A (bq b) := fun b hb => eb b 0 hb (by omega)
      have eK : KS A2 = KS A := KS_cg (eo 112 (by omega) (by omega) (by omega) (by omega))
      have eN : NS A2 = NS A := NS_cg (eo 113 (by omega) (by omega) (by omega) (by omega))
      have z2 : ∀ b, b < n → (if b = 8 then 0 else SZ b) = SZ b := fun b hb => by rw [if_neg (by omega)]
      refine ⟨n, fun b => if b = 8 then 0 else SZ b, bq, T, st, rc, D, TM, TH, FB, FP, ⟨n8, ?_, ?_, is.ptx, is.pbs, is.bqv, is.bqi, fun b hb hb8 => ?_, fun b hb => ?_, fun b hb => ?_, fun b hb => ?_, fun b hb i hi => ?_, fun b hb i hi => ?_, fun b hb => ?_, fun b hb => ?_, fun b hb k hk => ?_, fun b hb => ?_, fun c hc => ?_⟩, it.cong (fun a h h' => eo a (by omega) (by omega) (by omega) (by omega)) (fun a h => eo a (by omega) (by omega) (by omega) (by omega)) (fun k _ => by rw [eo 111 (by omega) (by omega) (by omega) (by omega)]) (Nat.le_refl _) z2, il.cong (fun a h h' => eo a (by omega) (by omega) (by omega) (by omega)) (fun a h => eo a (by omega) (by omega) (by omega) (by omega)) it (fun b hb i hi => by rw [eK, eN]; exact ⟨rfl, rfl⟩), ik.cong T6 (fun a h h' => eo a (by omega) (by omega) (by omega) (by omega)) (fun a h => eo a (by omega) (by omega) (by omega) (by omega)), ia.cong (fun a h h' => eo a (by omega) (by omega) (by omega) (by omega)) (fun a h => eo a (by omega) (by omega) (by omega) (by omega)) (fun k _ => by rw [eo 111 (by omega) (by omega) (by omega) (by omega)])⟩
      · rw [eo 1 (by omega) (by omega) (by omega) (by omega)]; exact is.cn
      · rw [eo 111 (by omega) (by omega) (by omega) (by omega)]; exact is.mn
      · rw [eb0 b hb8]; exact is.unu b hb hb8
      · show (if b = 8 then 0 else SZ b) ≤ 64
        by_cases h8 : b = 8
        · rw [if_pos h8]; omega
        · rw [if_neg h8]; exact is.s64 b hb
      · show _ = nI (if b = 8 then 0 else SZ b)
        by_cases h8 : b = 8
        · subst h8
          rw [if_pos rfl]; exact f1
        · have hb' : b < 8 := by rcases hb with h | h <;> omega
          rw [if_neg h8, eb0 b hb']; exact is.csz b hb
      · show _ = nI (if b = 8 then 0 else SZ b)
        by_cases h8 : b = 8
        · subst h8
          rw [if_pos rfl]; exact f2
        · rw [if_neg h8, f3 b h8]; exact is.msz b hb
      · change i < (if b = 8 then 0 else SZ b) at hi
        by_cases h8 : b = 8
        · rw [if_pos h8] at hi; omega
        · rw [if_neg h8] at hi
          have hb' : b < 8 := by rcases hb with h | h <;> omega
          rw [eb b 1 hb' (by omega), eb b 2 hb' (by omega), eK, eN]
          exact is.ckn b hb i hi
      · change i < (if b = 8 then 0 else SZ b) at hi
        by_cases h8 : b = 8
        · rw [if_pos h8] at hi; omega
        · rw [if_neg h8] at hi
          rw [eK, eN]
          exact is.fit b hb i hi
      · show bk_wh _ (if b = 8 then 0 else SZ b)
        rw [z2 b hb, eK]; exact is.whl b hb
      · show jc _ _ (if b = 8 then 0 else SZ b)
        rw [z2 b hb, eb b 3 (by omega) (by omega), eK]; exact is.jcl b hb
      · change k < (if b = 8 then 0 else SZ b) at hk
        rw [z2 b hb] at hk
        rw [eb b 4 (by omega) (by omega), eK, eN, eo 115 (by omega) (by omega) (by omega) (by omega)]
        exact is.hld b hb k hk
      · rw [eb0 b (by omega), eo 115 (by omega) (by omega) (by omega) (by omega)]; exact is.crq b hb
      · rw [eo 3 (by omega) (by omega) (by omega) (by omega), eo 116 (by omega) (by omega) (by omega) (by omega)]; exact is.gds c hc
  · have qn := is.q45 (b := n) (by omega)
    generalize hA1 : pm_u (jb A (bq 8) (rq &&& 15) pt hd) 1 3 (nI (n + 1)) = A1 at hr
    generalize hP1 : pm_u (pm_u P 2 n (some (bq 8))) 1 2 (some (bq n)) = P1 at hr
    have e1 : ∀ a, a ≠ bq 8 → a ≠ bq 8 + 3 → a ≠ bq 8 + 4 → a ≠ 1 → A1 a = A a := fun a h1 h2 h3 h4 => by
      funext b
      rw [← hA1, u_nc h4, jb_o (by omega) h2 h3]
    have k1 : KK S P1 := k.upd (fun a b h1 h2 => by
      rw [← hP1]
      rcases h2 with h2 | h2
      · rw [u_nc h2, u_nc h1]
      · rw [u_ni h2, u_nc h1])
    refine ⟨nI n, A1, P1, hr, pm_E.ups (pm_E.weaken (x_Mo_body (d := d) (n := n) (sz := SZ 8) k1.2.1 (by rw [e1 111 (by omega) (by omega) (by omega) (by omega)]; exact is.mn) n8 (by rw [e1 114 (by omega) (by omega) (by omega) (by omega)]; exact is.msz 8 (Or.inr rfl)) z64) (fun r hr => ?_)) (by omega)⟩
    rcases hr with ⟨h1, h2, hr⟩ | ⟨g, hr⟩
    · refine ⟨_, hr, ?_, k1⟩
      generalize hA2 : pm_u (pm_u (pm_u (pm_u (cpb A1 n (SZ 8)) 114 n (nI (SZ 8))) 115 n (rq &&& 15)) 111 4 (nI (n + 1))) 114 8 0 = A2
      have eo : ∀ a, a ≠ bq 8 → a ≠ bq 8 + 3 → a ≠ bq 8 + 4 → a ≠ 1 → a ≠ 111 → a ≠ 112 → a ≠ 113 → a ≠ 114 → a ≠ 115 → A2 a = A a := fun a h1 h2 h3 h4 h5 h6 h7 h8 h9 => by
        funext b
        rw [← hA2, u_nc h8, u_nc h5, u_nc h9, u_nc h8, cpb_src (Or.inl ⟨h6, h7⟩), e1 a h1 h2 h3 h4]
      have eb : ∀ b x, b < 8 → x < 5 → A2 (bq b + x) = A (bq b + x) := fun b x hb hx => by
        have := is.q45 (b := b) (by omega)
        exact eo _ (is.sep (by omega) (by omega) (by omega) x 0 hx (by omega)) (is.sep (by omega) (by omega) (by omega) x 3 hx (by omega)) (is.sep (by omega) (by omega) (by omega) x 4 hx (by omega)) (by omega) (by omega) (by omega) (by omega) (by omega) (by omega)
      have eb0 : ∀ b, b < 8 → A2 (bq b) = A (bq b) := fun b hb => eb b 0 hb (by omega)
      have et : ∀ a, a < 49 → a ≠ 1 → A2 a = jb A (bq 8) (rq &&& 15) pt hd a := fun a h1 h2 => by
        funext b
        rw [← hA2, u_nc (by omega), u_nc (by omega), u_nc (by omega), u_nc (by omega), cpb_src (by omega), ← hA1, u_nc h2]
      have eK : ∀ b i, b < n → i < 64 → KS A2 b i = KS A b i := fun b i hb hi => by
        unfold KS
        rw [← hA2, u_nc (by omega), u_nc (by omega), u_nc (by omega), u_nc (by omega), cpb_src (by omega), e1 112 (by omega) (by omega) (by omega) (by omega)]
      have eN : ∀ b i, b < n → i < 64 → NS A2 b i = NS A b i := fun b i hb hi => by
        unfold NS
        rw [← hA2, u_nc (by omega), u_nc (by omega), u_nc (by omega), u_nc (by omega), cpb_src (by omega), e1 113 (by omega) (by omega) (by omega) (by omega)]
      have eKn : ∀ i, i < SZ 8 → KS A2 n i = A (bq 8 + 1) i := fun i hi => by
        rw [(is.ckn 8 (Or.inr rfl) i hi).1]
        unfold KS
        rw [← hA2, u_nc (by omega), u_nc (by omega), u_nc (by omega), u_nc (by omega), cpb, if_pos ⟨Or.inl rfl, by omega, by omega⟩, e1 112 (by omega) (by omega) (by omega) (by omega)]
        congr 1
        omega
      have eNn : ∀ i, i < SZ 8 → NS A2 n i = A (bq 8 + 2) i := fun i hi => by
        rw [(is.ckn 8 (Or.inr rfl) i hi).2]
        unfold NS
        rw [← hA2, u_nc (by omega), u_nc (by omega), u_nc (by omega), u_nc (by omega), cpb, if_pos ⟨Or.inr rfl, by omega, by omega⟩, e1 113 (by omega) (by omega) (by omega) (by omega)]
        congr 1
        omega
      have f114 : ∀ b, b < n → A2 114 b = A 114 b := fun b hb => by
        rw [← hA2, u_ni (by omega), u_nc (by omega), u_nc (by omega), u_ni (by omega), cpb_src (by omega), e1 114 (by omega) (by omega) (by omega) (by omega)]
      have f114n : A2 114 n = nI (SZ 8) := by
        rw [← hA2, u_ni (by omega), u_nc (by omega), u_nc (by omega)]; exact u_eq
      have f1148 : A2 114 8 = 0 := by rw [← hA2]; exact u_eq
      have f115 : ∀ b, b < n → A2 115 b = A 115 b := fun b hb => by
        rw [← hA2, u_nc (by omega), u_nc (by omega), u_ni (by omega), u_nc (by omega), cpb_src (by omega), e1 115 (by omega) (by omega) (by omega) (by omega)]
      have f115n : A2 115 n = rq &&& 15 := by
        rw [← hA2, u_nc (by omega), u_nc (by omega)]; exact u_eq
      have f111 : ∀ j, j ≠ 4 → A2 111 j = A 111 j := fun j hj => by
        rw [← hA2, u_nc (by omega), u_ni hj, u_nc (by omega), u_nc (by omega), cpb_src (by omega), e1 111 (by omega) (by omega) (by omega) (by omega)]
      have f1114 : A2 111 4 = nI (n + 1) := by
        rw [← hA2, u_nc (by omega)]; exact u_eq
      have f13 : A2 1 3 = nI (n + 1) := by
        rw [← hA2, u_nc (by omega), u_nc (by omega), u_nc (by omega), u_nc (by omega), cpb_src (by omega), ← hA1]; exact u_eq
      have t4 : A2 (bq 8) 4 = A (bq 8) 4 := by rw [et _ (by omega) (by omega), jb_o (by omega) (by omega) (by omega)]
      have t5 : A2 (bq 8) 5 = rq &&& 15 := by rw [et _ (by omega) (by omega)]; simp [jb]
      have t1 : A2 (bq 8 + 1) = A (bq 8 + 1) := by
        funext b
        rw [et _ (by omega) (by omega), jb_o (by omega) (by omega) (by omega)]
      have t2 : A2 (bq 8 + 2) = A (bq 8 + 2) := by
        funext b
        rw [et _ (by omega) (by omega), jb_o (by omega) (by omega) (by omega)]
      have t3 : A2 (bq 8 + 3) = pt := by
        funext b
        rw [et _ (by omega) (by omega), jb_3]
      have t4' : A2 (bq 8 + 4) = hd := by
        funext b
        rw [et _ (by omega) (by omega), jb_4]
      have zb : ∀ b, b < n → (if b = n then bq 8 else if b = 8 then bq n else bq b) = bq b := fun b hb => by rw [if_neg (by omega), if_neg (by omega)]
      have zz : ∀ b, b < n → (if b = n then SZ 8 else if b = 8 then 0 else SZ b) = SZ b := fun b hb => by rw [if_neg (by omega), if_neg (by omega)]
      have zn : (if n = n then bq 8 else if n = 8 then bq n else bq n) = bq 8 := if_pos rfl
      have z8 : (if 8 = n then bq 8 else if 8 = 8 then bq n else bq 8) = bq n := by rw [if_neg (by omega), if_pos rfl]
      have zsn : (if n = n then SZ 8 else if n = 8 then 0 else SZ n) = SZ 8 := if_pos rfl
      have zs8 : (if 8 = n then SZ 8 else if 8 = 8 then 0 else SZ 8) = 0 := by rw [if_neg (by omega), if_pos rfl]
      have cs3 : ∀ {b : Nat}, bd (n + 1) b → b < n ∨ b = n ∨ b = 8 := fun h => by rcases h with h | h <;> omega
      refine ⟨n + 1, fun b => if b = n then SZ 8 else if b = 8 then 0 else SZ b, fun b => if b = n then bq 8 else if b = 8 then bq n else bq b, T, st, rc, D, TM, TH, FB, FP, ⟨by omega, f13, f1114, ?_, fun b hb => ?_, fun b hb => ?_, fun b b' hb hb' he => ?_, fun b hb hb8 => ?_, fun b hb => ?_, fun b hb => ?_, fun b hb => ?_, fun b hb i hi => ?_, fun b hb i hi => ?_, fun b hb => ?_, fun b hb => ?_, fun b hb k hk => ?_, fun b hb => ?_, fun c hc => ?_⟩, it.cong (fun a h h' => eo a (by omega) (by omega) (by omega) (by omega) (by omega) (by omega) (by omega) (by omega) (by omega)) (fun a h => eo a (by omega) (by omega) (by omega) (by omega) (by omega) (by omega) (by omega) (by omega) (by omega)) f111 (by omega) zz, il.cong (fun a h h' => eo a (by omega) (by omega) (by omega) (by omega) (by omega) (by omega) (by omega) (by omega) (by omega)) (fun a h => eo a (by omega) (by omega) (by omega) (by omega) (by omega) (by omega) (by omega) (by omega) (by omega)) it (fun b hb i hi => by have := is.s64 b (Or.inl hb); exact ⟨eK b i hb (by omega), eN b i hb (by omega)⟩), ik.cong T6 (fun a h h' => eo a (by omega) (by omega) (by omega) (by omega) (by omega) (by omega) (by omega) (by omega) (by omega)) (fun a h => eo a (by omega) (by omega) (by omega) (by omega) (by omega) (by omega) (by omega) (by omega) (by omega)), ia.cong (fun a h h' => eo a (by omega) (by omega) (by omega) (by omega) (by omega) (by omega) (by omega) (by omega) (by omega)) (fun a h => eo a (by omega) (by omega) (by omega) (by omega) (by omega) (by omega) (by omega) (by omega) (by omega)) f111⟩
      · show P1 1 2 = some (if 8 = n then bq 8 else if 8 = 8 then bq n else bq 8)
        rw [z8, ← hP1]; exact u_eq
      · show P1 2 b = some (if b = n then bq 8 else if b = 8 then bq n else bq b)
        by_cases hbn : b = n
        · subst hbn
          rw [if_pos rfl, ← hP1, u_nc (by omega)]; exact u_eq
        · rw [if_neg hbn, if_neg (by omega), ← hP1, u_nc (by omega), u_ni hbn]; exact is.pbs b hb
      · show ∃ j, j < 9 ∧ (if b = n then bq 8 else if b = 8 then bq n else bq b) = 4 + 5 * j
        by_cases hbn : b = n
        · rw [if_pos hbn]; exact is.bqv 8 (by omega)
        · rw [if_neg hbn]
          by_cases h8 : b = 8
          · rw [if_pos h8]; exact is.bqv n (by omega)
          · rw [if_neg h8]; exact is.bqv b hb
      · change (if b = n then bq 8 else if b = 8 then bq n else bq b) = (if b' = n then bq 8 else if b' = 8 then bq n else bq b') at he
        have inj := fun x y (hx : x < 9) (hy : y < 9) (h : bq x = bq y) => is.bqi x y hx hy h
        by_cases a1 : b = n
        · rw [if_pos a1] at he
          by_cases c1 : b' = n
          · omega
          · rw [if_neg c1] at he
            by_cases c2 : b' = 8
            · rw [if_pos c2] at he; have := inj 8 n (by omega) (by omega) he; omega
            · rw [if_neg c2] at he; have := inj 8 b' (by omega) (by omega) he; omega
        · rw [if_neg a1] at he
          by_cases a2 : b = 8
          · rw [if_pos a2] at he
            by_cases c1 : b' = n
            · rw [if_pos c1] at he; have := inj n 8 (by omega) (by omega) he; omega
            · rw [if_neg c1] at he
              by_cases c2 : b' = 8
              · omega
              · rw [if_neg c2] at he; have := inj n b' (by omega) (by omega) he; omega
          · rw [if_neg a2] at he
            by_cases c1 : b' = n
            · rw [if_pos c1] at he; have := inj b 8 (by omega) (by omega) he; omega
            · rw [if_neg c1] at he
              by_cases c2 : b' = 8
              · rw [if_pos c2] at he; have := inj b n (by omega) (by omega) he; omega
              · rw [if_neg c2] at he; exact inj b b' (by omega) (by omega) he
      · show A2 (if b = n then bq 8 else if b = 8 then bq n else bq b) 4 = 0
        rw [if_neg (by omega), if_neg (by omega), eb0 b hb8]; exact is.unu b (by omega) hb8
      · show (if b = n then SZ 8 else if b = 8 then 0 else SZ b) ≤ 64
        rcases cs3 hb with h | h | h
        · rw [zz b h]; exact is.s64 b (Or.inl h)
        · subst h; rw [zsn]; exact z64
        · subst h; rw [zs8]; omega
      · show A2 (if b = n then bq 8 else if b = 8 then bq n else bq b) 4 = nI (if b = n then SZ 8 else if b = 8 then 0 else SZ b)
        rcases cs3 hb with h | h | h
        · rw [zb b h, zz b h, eb0 b (by omega)]; exact is.csz b (Or.inl h)
        · subst h; rw [zn, zsn, t4]; exact is.csz 8 (Or.inr rfl)
        · subst h; rw [z8, zs8, eb0 n h1]; exact is.unu n (Nat.le_refl _) h1
      · show A2 114 b = nI (if b = n then SZ 8 else if b = 8 then 0 else SZ b)
        rcases cs3 hb with h | h | h
        · rw [zz b h, f114 b h]; exact is.msz b (Or.inl h)
        · subst h; rw [zsn]; exact f114n
        · subst h; rw [zs8]; exact f1148
      · change i < (if b = n then SZ 8 else if b = 8 then 0 else SZ b) at hi
        show A2 ((if b = n then bq 8 else if b = 8 then bq n else bq b) + 1) i = _ ∧ A2 ((if b = n then bq 8 else if b = 8 then bq n else bq b) + 2) i = _
        rcases cs3 hb with h | h | h
        · rw [zz b h] at hi
          have := is.s64 b (Or.inl h)
          rw [zb b h, eb b 1 (by omega) (by omega), eb b 2 (by omega) (by omega), eK b i h (by omega), eN b i h (by omega)]
          exact is.ckn b (Or.inl h) i hi
        · subst h
          rw [zsn] at hi
          rw [zn, t1, t2, eKn i hi, eNn i hi]; exact ⟨rfl, rfl⟩
        · subst h
          rw [zs8] at hi; omega
      · change i < (if b = n then SZ 8 else if b = 8 then 0 else SZ b) at hi
        rcases cs3 hb with h | h | h
        · rw [zz b h] at hi
          have := is.s64 b (Or.inl h)
          rw [eK b i h (by omega), eN b i h (by omega)]
          exact is.fit b (Or.inl h) i hi
        · subst h
          rw [zsn] at hi
          rw [eKn i hi, eNn i hi, (is.ckn 8 (Or.inr rfl) i hi).1, (is.ckn 8 (Or.inr rfl) i hi).2]; exact is.fit 8 (Or.inr rfl) i hi
        · subst h
          rw [zs8] at hi; omega
      · show bk_wh (KS A2 b) (if b = n then SZ 8 else if b = 8 then 0 else SZ b)
        rcases (show b < n ∨ b = n by omega) with h | h
        · have := is.s64 b (Or.inl h)
          rw [zz b h]
          exact (bk_wh_cg (fun i hi => eK b i h (by omega))).mpr (is.whl b h)
        · subst h
          rw [zsn]
          exact (bk_wh_cg (fun i hi => eKn i hi)).mpr hwh
      · show jc (KS A2 b) (A2 ((if b = n then bq 8 else if b = 8 then bq n else bq b) + 3)) (if b = n then SZ 8 else if b = 8 then 0 else SZ b)
        rcases (show b < n ∨ b = n by omega) with h | h
        · have := is.s64 b (Or.inl h)
          rw [zz b h, zb b h, eb b 3 (by omega) (by omega)]
          exact jc_cg (fun i hi => (eK b i h (by omega)).symm) (fun _ _ => rfl) (is.jcl b h)
        · subst h
          rw [zsn, zn, t3]
          exact jc_cg (fun i hi => (eKn i hi).symm) (fun _ _ => rfl) hjc
      · change k < (if b = n then SZ 8 else if b = 8 then 0 else SZ b) at hk
        show A2 ((if b = n then bq 8 else if b = 8 then bq n else bq b) + 4) k = _
        rcases (show b < n ∨ b = n by omega) with h | h
        · have := is.s64 b (Or.inl h)
          rw [zz b h] at hk
          rw [zb b h, eb b 4 (by omega) (by omega), f115 b h, is.hld b h k hk]
          exact (hl_cgk (n := SZ b) (by omega) (fun i hi => eK b i h (by omega)) (fun i hi => eN b i h (by omega))).symm
        · subst h
          rw [zsn] at hk
          rw [zn, t4', f115n, hhd k hk]
          exact (hl_cgk (n := SZ 8) (by omega) (fun i hi => eKn i hi) (fun i hi => eNn i hi)).symm
      · show A2 (if b = n then bq 8 else if b = 8 then bq n else bq b) 5 = _ ∧ _
        rcases (show b < n ∨ b = n by omega) with h | h
        · rw [zb b h, eb0 b (by omega), f115 b h]; exact is.crq b h
        · subst h
          rw [zn, t5, f115n]; exact ⟨rfl, and15 rq⟩
      · rw [eo 3 (by omega) (by omega) (by omega) (by omega) (by omega) (by omega) (by omega) (by omega) (by omega), eo 116 (by omega) (by omega) (by omega) (by omega) (by omega) (by omega) (by omega) (by omega) (by omega)]; exact is.gds c hc
    · exfalso
      refine g ⟨hn7, ?_⟩
      rw [KS_cg (A := A) (e1 112 (by omega) (by omega) (by omega) (by omega))]
      exact ewh.mp hwh
end OPS4
