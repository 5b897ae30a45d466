section OPM
variable {cc : ByteArray} {nL : Nat} {own nm : String} {ret : Option FieldType} {Y : Nat → pm_N} {b : Nat → Nat} {i x : Nat}
theorem so_oinit {idx : Nat} (hl : Cond.methodLink own idx objectInit ∈ lw_tbl) (hin : Cond.instanceMethod objectInit ∈ lw_tbl) (hcode : Cond.code objectInit ⟨#[0xb1]⟩ 1 none ∈ lw_tbl) (hd : decode cc (b i) = .ok (.invokespecial idx, 3)) (hx : b x = b i + 3) : pm_S cc nL own nm ret Y b i (pm_oinit x) := by
  intro p l e R s m args below meth c Q D aC z bS X lc st h o ho
  unfold pm_oinit at ho
  split at ho
  · split at ho
    · rename_i a st' hcat
      cases ho
      refine pm_keep fun H locs ls kc ks hL hkc hks k => ?_
      have k := k ls hL.2.2
      rw [hx] at k
      have hG := X.2.2.2.2.1
      refine W.objInit X.1 X.2.1 X.2.2.2.1 (pm_word hG hl rfl) (pm_word hG hin rfl) (pm_word hG hcode rfl) rfl (by rw [X.2.2.1]; exact hL.2.2.1) rfl hd X.2.2.2.2.2.2.1 ?_ k
      have h40 := X.2.2.2.2.2.2.2.1
      show 2 * 0 + _ + 12 ≤ R.locals
      rw [pm_cat_t]
      omega
    · cases ho
  · cases ho
theorem so_max {idx : Nat} (hl : Cond.methodLink own idx Lib.Math.max.name ∈ lw_tbl) (hs : Cond.static Lib.Math.max.name ∈ lw_tbl) (hi : Cond.initialized "java/lang/Math" ∈ lw_tbl) (hcode : Cond.code Lib.Math.max.name Lib.Math.max.code 2 (some .int) ∈ lw_tbl) (hd : decode cc (b i) = .ok (.invokestatic idx, 3)) (hx : b x = b i + 3) : pm_S cc nL own nm ret Y b i (pm_max x) := by
  intro p l e R s m args below meth c Q D aC z bS X lc st h o ho
  unfold pm_max at ho
  split at ho
  · split at ho
    · rename_i v w st' hcat
      cases ho
      refine pm_keep fun H locs ls kc ks hL hkc hks k => ?_
      have k := k ls hL.2.2
      rw [hx] at k
      have hG := X.2.2.2.2.1
      refine va_mmax X.1 X.2.1 (by rw [X.2.2.1]; exact hL.2.2.1.symm) X.2.2.2.1 (pm_word hG hl rfl) (pm_word hG hs rfl) (pm_word hG hi rfl) (pm_word hG hcode rfl) X.2.2.2.2.2.2.1 ?_ hkc hks hd k
      have h40 := X.2.2.2.2.2.2.2.1
      rw [pm_cat_t]
      omega
    · cases ho
  · cases ho
theorem so_min {idx : Nat} (hl : Cond.methodLink own idx Lib.Math.min.name ∈ lw_tbl) (hs : Cond.static Lib.Math.min.name ∈ lw_tbl) (hi : Cond.initialized "java/lang/Math" ∈ lw_tbl) (hcode : Cond.code Lib.Math.min.name Lib.Math.min.code 2 (some .int) ∈ lw_tbl) (hd : decode cc (b i) = .ok (.invokestatic idx, 3)) (hx : b x = b i + 3) : pm_S cc nL own nm ret Y b i (pm_min x) := by
  intro p l e R s m args below meth c Q D aC z bS X lc st h o ho
  unfold pm_min at ho
  split at ho
  · split at ho
    · rename_i v w st' hcat
      cases ho
      refine pm_keep fun H locs ls kc ks hL hkc hks k => ?_
      have k := k ls hL.2.2
      rw [hx] at k
      have hG := X.2.2.2.2.1
      refine va_mmin X.1 X.2.1 (by rw [X.2.2.1]; exact hL.2.2.1.symm) X.2.2.2.1 (pm_word hG hl rfl) (pm_word hG hs rfl) (pm_word hG hi rfl) (pm_word hG hcode rfl) X.2.2.2.2.2.2.1 ?_ hkc hks hd k
      have h40 := X.2.2.2.2.2.2.2.1
      rw [pm_cat_t]
      omega
    · cases ho
  · cases ho
theorem pm_nn {w : Int32} (hw : ¬ w < 0) : w.toInt = (w.toNatClampNeg : Int) := by
  have hz0 : (0 : Int) ≤ w.toInt := by
    have := Int32.not_lt.mp hw
    simpa using Int32.le_iff_toInt_le.mp this
  show w.toInt = ((w.toInt.toNat : Nat) : Int)
  omega
theorem so_copy {idx : Nat} (hl : Cond.methodLink own idx arraycopyName ∈ lw_tbl) (hnat : Cond.native arraycopyName ∈ lw_tbl) (hstat : Cond.static arraycopyName ∈ lw_tbl) (hini : Cond.initialized "java/lang/System" ∈ lw_tbl) (hd : decode cc (b i) = .ok (.invokestatic idx, 3)) (hx : b x = b i + 3) : pm_S cc nL own nm ret Y b i (pm_copy x) := by
  intro p l e R s m args below meth c Q D aC z bS X lc st h o ho
  unfold pm_copy at ho
  split at ho
  · split at ho
    · rename_i n dp a sp a0 st' hq
      cases ho
      simp only [Bool.and_eq_true, decide_eq_true_eq, beq_iff_eq, Bool.not_eq_true', Bool.or_eq_false_iff, decide_eq_false_iff_not] at hq
      obtain ⟨⟨⟨⟨⟨c1, c2⟩, d1, d2⟩, s1, s2, s3⟩, l1, l2⟩, hcat⟩ := hq
      refine pm_put rfl rfl fun H locs ls kc ks hL kk => ?_
      rw [hx] at kk
      have hG := X.2.2.2.2.1
      have hA := (hG.2.2 0 .int rfl).1
      have hf : ∀ k, (h.2.2.1 k).1 = 0 → pm_v z h k = fun j => .int (h.2.2.2.1 k j) := fun k hk => by
        funext j
        exact pm_v_i (by rw [hk]; rfl)
      have hc0 := (pm_at_arr (by omega) c2).mp (hL.1.2 a0 c1)
      have hc1 := (pm_at_arr (by omega) d2).mp (hL.1.2 a d1)
      rw [hf a0 c2] at hc0
      rw [hf a d2] at hc1
      intro T hT XX
      obtain ⟨-, k0, hk0, cm0, hkk0⟩ := hA (h.2.2.1 a0).2 (fun j => .int (h.2.2.2.1 a0 j))
      obtain ⟨-, k1, hk1, cm1, hkk1⟩ := hA (h.2.2.1 a).2 (fun j => .int (h.2.2.2.1 a j))
      obtain ⟨vm', X', step⟩ := XX.arraycopy X.1 X.2.2.2.1 (pm_word hG hl rfl) (pm_word hG hnat rfl) (pm_word hG hstat rfl) (pm_word hG hini rfl) (src := z + a0) (dst := z + a) (srcPos := sp) (destPos := dp) (n := n) (by rw [hT]; exact hc0) (by rw [hT]; exact hc1)
        (fun _ h => by cases h) (fun _ h => by cases h) (fun h => by cases h) (fun h => by cases h) hk0 hk1 hkk0 hkk1 (by simp [refKind]) s1 s2 s3
        (by rw [pm_nn s1, pm_nn s3, arrV_size]; omega)
        (by rw [pm_nn s2, pm_nn s3, arrV_size]; omega)
        (fun vm₁ _ j hj => by
          have e1 : (arrV (aC 0) (h.2.2.1 a0).2 (fun j => Value.int (h.2.2.2.1 a0 j))).slots.getD (sp.toNatClampNeg + j) .null = .int (h.2.2.2.1 a0 (sp.toNatClampNeg + j)) := by
            rw [Array.getD_eq_getD_getElem?, arrV_read _ _ (by omega)]
            rfl
          refine ⟨?_, ?_⟩
          · rw [e1]
            rfl
          · rw [e1]
            exact trivial)
        (g := F0 m (b i) ls ((Value.int n :: .int dp :: .ref a :: .int sp :: .ref a0 :: st').map (pm_t z bS))) rfl (by rw [X.2.2.1]; exact hL.2.2.1) (rest := st'.map (pm_t z bS)) rfl (by rw [X.2.1]; exact hd) X.2.2.2.2.2.2.1 (by
          have h40 := X.2.2.2.2.2.2.2.1
          have e3 : nativeFrameWords "java/lang/System" "arraycopy" 5 + 11 ≤ 32 := by decide +kernel
          show 2 * 0 + _ + _ ≤ _
          rw [pm_cat_t]
          omega)
      have e1 : copied (arrV (aC 0) (h.2.2.1 a0).2 (fun j => Value.int (h.2.2.2.1 a0 j))) (arrV (aC 0) (h.2.2.1 a).2 (fun j => Value.int (h.2.2.2.1 a j))) sp dp n = arrV (aC 0) (h.2.2.1 a).2 (fun j => Value.int (va_cpy (h.2.2.2.1 a0) (h.2.2.2.1 a) sp.toNatClampNeg dp.toNatClampNeg n.toNatClampNeg j)) := va_copied (fun w => .int w) (aC 0) (aC 0) (h.2.2.2.1 a0) (h.2.2.2.1 a) l1
      rw [e1] at X' step
      have hlt : z + a < H.size := (Array.getElem?_eq_some_iff.mp hc1).1
      generalize hcell : arrV (aC 0) (h.2.2.1 a).2 (fun j => Value.int (va_cpy (h.2.2.2.1 a0) (h.2.2.2.1 a) sp.toNatClampNeg dp.toNatClampNeg n.toNatClampNeg j)) = cell at X' step
      have hheap : ((T.setVm vm').setCell (z + a) cell).heap = H.setIfInBounds (z + a) cell := by rw [← hT]; rfl
      have oq : ∀ q : Nat, q ≠ z + a → (H.setIfInBounds (z + a) cell)[q]? = H[q]? := fun q hq => by simp [Array.getElem?_setIfInBounds, Ne.symm hq]
      obtain ⟨t, a1, b1⟩ := kk _ _ (hL.1.set (k := a) rfl rfl (fun j hj => by funext q; simp [pm_v, pm_row, hj]) (by simp) oq ((pm_at_arr (h := (h.1, h.2.1, h.2.2.1, pm_row h.2.2.2.1 a (va_cpy (h.2.2.2.1 a0) (h.2.2.2.1 a) sp.toNatClampNeg dp.toNatClampNeg n.toNatClampNeg), h.2.2.2.2)) (t := 0) (by omega) d2).mpr (by
          rw [show (H.setIfInBounds (z + a) cell)[z + a]? = some cell by simp [Array.getElem?_setIfInBounds, hlt], ← hcell]
          congr 2
          funext q
          rw [pm_v_i (by show pm_rf (pm_ft (h.2.2.1 a).1 q) = false; rw [d2]; rfl)]
          simp [pm_row]))) ⟨by simp; exact hL.2.1.1, fun q g1 g2 => by
          rw [oq q (fun e => g2 (by rw [e]; exact Nat.le_add_right z a))]
          exact hL.2.1.2.1 q g1 g2, fun q hq => by
          rcases List.mem_append.mp hq with h | h
          · exact hL.2.1.2.2 q h
          · obtain ⟨w, -, hw⟩ := List.mem_map.mp h
            rw [← hw]
            exact Nat.le_add_right z a⟩ _ hheap X'
      exact ⟨t, step t a1, b1⟩
    · cases ho
  · cases ho
-- ===== switches =====
def pm_twc (b : Nat → Nat) (pc : Nat) : Int → List Int → List (Int32 × Nat) → Bool
  | _, [], [] => true
  | lo, o :: os, q :: ps => (q.1.toInt == lo) && (((pc : Nat) : Int) + o == ((b q.2 : Nat) : Int)) && pm_twc b pc (lo + 1) os ps
  | _, _, _ => false
theorem pm_tw {pc d : Nat} {v : Int32} {k : Nat → Option pm_O} : ∀ (os : List Int) (ps : List (Int32 × Nat)) (lo : Int), pm_twc b pc lo os ps = true → (∃ (j t : Nat) (o : Int), os[j]? = some o ∧ v.toInt = lo + j ∧ ((pc : Nat) : Int) + o = ((b t : Nat) : Int) ∧ pm_swt ps d v k = k t) ∨ ((v.toInt < lo ∨ lo + os.length ≤ v.toInt) ∧ pm_swt ps d v k = k d) := by
  intro os
  induction os with
  | nil =>
    intro ps lo h
    cases ps with
    | nil => exact Or.inr ⟨by simp only [List.length_nil]; omega, rfl⟩
    | cons q ps => cases h
  | cons o os ih =>
    intro ps lo h
    cases ps with
    | nil => cases h
    | cons q ps =>
      obtain ⟨a, t⟩ := q
      simp only [pm_twc, Bool.and_eq_true, beq_iff_eq] at h
      obtain ⟨⟨h1, h2⟩, h3⟩ := h
      by_cases hv : v = a
      · refine Or.inl ⟨0, t, o, rfl, by rw [hv, h1]; simp, h2, by simp [pm_swt, hv]⟩
      · have hne : v.toInt ≠ lo := fun g => hv (Int32.toInt_inj.mp (by rw [h1]; exact g))
        have e1 : pm_swt ((a, t) :: ps) d v k = pm_swt ps d v k := by simp [pm_swt, hv]
        rcases ih ps (lo + 1) h3 with ⟨j, t', o', g1, g2, g3, g4⟩ | ⟨g1, g2⟩
        · exact Or.inl ⟨j + 1, t', o', by simpa using g1, by rw [g2]; push_cast; omega, g3, by rw [e1]; exact g4⟩
        · refine Or.inr ⟨?_, by rw [e1]; exact g2⟩
          simp only [List.length_cons] at g1 ⊢
          push_cast at g1 ⊢
          omega
theorem so_tsw {ps : List (Int32 × Nat)} {d len : Nat} {df lo hi : Int} {offs : Array Int} (hd : decode cc (b i) = .ok (.tableswitch df lo hi offs, len)) (hw : pm_twc b (b i) lo offs.toList ps = true) (hh : lo + (offs.toList.length : Int) = hi + 1) (hdf : ((b i : Nat) : Int) + df = ((b d : Nat) : Int)) : pm_S cc nL own nm ret Y b i (pm_sw ps d) := by
  intro p l e R s m args below meth c Q D aC z bS X lc st h o ho
  unfold pm_sw at ho
  split at ho
  · rename_i v st'
    rcases pm_tw (b := b) (d := d) (v := v) (k := fun t => pm_nx t lc st' h) offs.toList ps lo hw with ⟨j, t, o', g1, g2, g3, g4⟩ | ⟨g1, g2⟩
    · rw [g4] at ho
      cases ho
      have hj := (List.getElem?_eq_some_iff.mp g1).1
      refine pm_keep fun H locs ls kc ks hL hkc hks k => ?_
      refine lv_tableIn X.1 X.2.1 hd (by omega) (by omega) (off := o') ?_ g3 (k ls hL.2.2)
      rw [show (v.toInt - lo).toNat = j by omega, ← Array.getElem?_toList]
      exact g1
    · rw [g2] at ho
      cases ho
      refine pm_keep fun H locs ls kc ks hL hkc hks k => ?_
      exact lv_tableOut X.1 X.2.1 hd (by omega) hdf (k ls hL.2.2)
  · cases ho
def pm_lwc (b : Nat → Nat) (pc : Nat) : List (Int × Int) → List (Int32 × Nat) → Bool
  | [], [] => true
  | o :: os, q :: ps => (q.1.toInt == o.1) && (((pc : Nat) : Int) + o.2 == ((b q.2 : Nat) : Int)) && pm_lwc b pc os ps
  | _, _ => false
theorem pm_lw {pc d : Nat} {df : Int} {v : Int32} {k : Nat → Option pm_O} (hdf : ((pc : Nat) : Int) + df = ((b d : Nat) : Int)) : ∀ (os : List (Int × Int)) (ps : List (Int32 × Nat)), pm_lwc b pc os ps = true → ∃ t : Nat, ((pc : Nat) : Int) + Op.lookupswitch.offset os df v.toInt = ((b t : Nat) : Int) ∧ pm_swt ps d v k = k t := by
  intro os
  induction os with
  | nil =>
    intro ps h
    cases ps with
    | nil => exact ⟨d, hdf, rfl⟩
    | cons q ps => cases h
  | cons o os ih =>
    intro ps h
    cases ps with
    | nil => cases h
    | cons q ps =>
      obtain ⟨a, t⟩ := q
      obtain ⟨o1, o2⟩ := o
      simp only [pm_lwc, Bool.and_eq_true, beq_iff_eq] at h
      obtain ⟨⟨h1, h2⟩, h3⟩ := h
      by_cases hv : v = a
      · subst hv
        refine ⟨t, ?_, by simp [pm_swt]⟩
        rw [Op.lookupswitch.offset_cons, if_pos h1.symm]
        exact h2
      · obtain ⟨t', g1, g2⟩ := ih ps h3
        exact ⟨t', by rw [lv_osw hv h1]; exact g1, by simp only [pm_swt, if_neg hv]; exact g2⟩
theorem so_lsw {ps : List (Int32 × Nat)} {d len : Nat} {df : Int} {prs : Array (Int × Int)} (hd : decode cc (b i) = .ok (.lookupswitch df prs, len)) (hsr : (prs.toList.zip (prs.toList.drop 1)).all (fun (a, next) => a.1 < next.1) = true) (hw : pm_lwc b (b i) prs.toList ps = true) (hdf : ((b i : Nat) : Int) + df = ((b d : Nat) : Int)) : pm_S cc nL own nm ret Y b i (pm_sw ps d) := by
  intro p l e R s m args below meth c Q D aC z bS X lc st h o ho
  unfold pm_sw at ho
  split at ho
  · rename_i v st'
    obtain ⟨t, g1, g2⟩ := pm_lw (b := b) (v := v) (k := fun t => pm_nx t lc st' h) hdf prs.toList ps hw
    rw [g2] at ho
    cases ho
    refine pm_keep fun H locs ls kc ks hL hkc hks k => ?_
    exact lv_lookup X.1 X.2.1 hd hsr rfl g1 (k ls hL.2.2)
  · cases ho
end OPM
-- ===== a whole activation =====
section SIM
variable {p : Program} {l : Launch} {e : Env} {R : Room} {s : State} {m : MethodId} {args : Array Value} {below : List Frame} {meth : Method} {c : Code} {Q : State → Prop} {D : va_G} {aC : Nat → ClassId} {z bS : Nat} {cc : ByteArray} {nL : Nat} {own nm : String} {ret : Option FieldType} {Y : Nat → pm_N} {b : Nat → Nat} {T : Nat → Option pm_I} {call : Nat → List Value → pm_H → Option pm_R}
theorem pm_simC (hT : ∀ j f, T j = some f → ∀ lc st h o, f lc st h = some o → pm_Sm p l e R s m args below meth c Q D aC z bS nL b j cc ret Y lc st h o) (hcall : ∀ mid a g r, call mid a g = some r → ∃ d, d + 2 ≤ R.frames ∧ 70 + 30 * d ≤ R.locals ∧ pm_M l D aC z bS d (Y mid) a g r.1 r.2) : ∀ (n : Nat) (q : pm_C) (r : pm_R), pm_ex call T n q = some r →
    (q.2.2.2.1 ≤ r.1.1 ∧ q.2.2.2.2.1 ≤ r.1.2.1) ∧ ∀ (H : Heap) (locs : List Loc) (ls : Array Slot) (kc ks : Nat), pm_L s D aC z bS nL q.2.1 q.2.2.2 H locs ls → kc + (r.1.1 - q.2.2.2.1) ≤ R.cells → ks + (r.1.2.1 - q.2.2.2.2.1) ≤ R.slots →
      (∀ (H' : Heap) (locs' : List Loc) (ls' : Array Slot) (pc : Nat), pm_W D aC z r.1 H' → va_S (fun q => z ≤ q) s.heap H' locs' → pm_rd cc pc ret r.2 → W p l e R s m args below meth c H' locs' (kc + (r.1.1 - q.2.2.2.1)) (ks + (r.1.2.1 - q.2.2.2.2.1)) Q (F0 m pc ls' (r.2.toList.map (pm_t z bS)))) →
      W p l e R s m args below meth c H locs kc ks Q (F0 m (b q.1) ls (q.2.2.1.map (pm_t z bS))) := by
  intro n
  induction n with
  | zero => intro q r h; cases h
  | succ n ih =>
    intro q r h
    obtain ⟨i, lc, st, h0⟩ := q
    cases hf : T i with
    | none => simp [pm_ex, hf] at h
    | some f =>
      have hS := hT _ _ hf lc st h0
      cases hw : f lc st h0 with
      | none => simp [pm_ex, hf, hw] at h
      | some o =>
        rcases o with w | w | w
        · simp only [pm_ex, hf, hw, Option.some.injEq] at h
          subst h
          obtain ⟨g1, g2, g3⟩ := hS _ hw
          obtain ⟨r1, r2⟩ := w
          dsimp only at g1 g2 g3
          subst g1
          subst g2
          refine ⟨⟨Nat.le_refl _, Nat.le_refl _⟩, fun H locs ls kc ks hL _ _ kk => ?_⟩
          simp only [Nat.sub_self, Nat.add_zero] at kk
          exact kk H locs ls _ hL.1 hL.2.1 g3
        · simp only [pm_ex, hf, hw] at h
          obtain ⟨g1, g2⟩ := hS _ hw
          obtain ⟨i1, i2⟩ := ih w r h
          dsimp only at g1 g2 i1 i2 ⊢
          refine ⟨⟨Nat.le_trans g1.1 i1.1, Nat.le_trans g1.2 i1.2⟩, fun H locs ls kc ks hL hc hs kk => ?_⟩
          refine g2 H locs ls kc ks hL (by omega) (by omega) (fun H' locs' ls' hL' => i2 H' locs' ls' _ _ hL' (by omega) (by omega) (fun H'' locs'' ls'' pc a1 a2 a3 => ?_))
          have k2 := kk H'' locs'' ls'' pc a1 a2 a3
          refine W.cs ?_ ?_ k2 <;> omega
        · simp only [pm_ex, hf, hw] at h
          obtain ⟨g1, g2⟩ := hS _ hw
          cases hr' : call w.1 w.2.1 w.2.2.2.2.2 with
          | none => simp [hr'] at h
          | some r' =>
            simp only [hr'] at h
            obtain ⟨d, d1, d2, hM⟩ := hcall _ _ _ _ hr'
            rw [g1] at hM
            obtain ⟨i1, i2⟩ := ih _ r h
            have m1 := hM.1
            dsimp only at g1 g2 i1 i2 m1 ⊢
            refine ⟨⟨Nat.le_trans m1.1 i1.1, Nat.le_trans m1.2 i1.2⟩, fun H locs ls kc ks hL hc hs kk => ?_⟩
            refine g2 d r'.1 r'.2 d1 d2 hM H locs ls kc ks hL (by omega) (by omega) (fun H' locs' hL' => i2 H' locs' ls _ _ hL' (by omega) (by omega) (fun H'' locs'' ls'' pc a1 a2 a3 => ?_))
            have k2 := kk H'' locs'' ls'' pc a1 a2 a3
            refine W.cs ?_ ?_ k2 <;> omega
theorem pm_sim (hT : ∀ j f, T j = some f → pm_S cc nL own nm ret Y b j f) (X : pm_X p R s m meth c cc nL own nm D aC z) (hcall : ∀ mid a g r, call mid a g = some r → ∃ d, d + 2 ≤ R.frames ∧ 70 + 30 * d ≤ R.locals ∧ pm_M l D aC z bS d (Y mid) a g r.1 r.2) : ∀ (n : Nat) (q : pm_C) (r : pm_R), pm_ex call T n q = some r →
    (q.2.2.2.1 ≤ r.1.1 ∧ q.2.2.2.2.1 ≤ r.1.2.1) ∧ ∀ (H : Heap) (locs : List Loc) (ls : Array Slot) (kc ks : Nat), pm_L s D aC z bS nL q.2.1 q.2.2.2 H locs ls → kc + (r.1.1 - q.2.2.2.1) ≤ R.cells → ks + (r.1.2.1 - q.2.2.2.2.1) ≤ R.slots →
      (∀ (H' : Heap) (locs' : List Loc) (ls' : Array Slot) (pc : Nat), pm_W D aC z r.1 H' → va_S (fun q => z ≤ q) s.heap H' locs' → pm_rd cc pc ret r.2 → W p l e R s m args below meth c H' locs' (kc + (r.1.1 - q.2.2.2.1)) (ks + (r.1.2.1 - q.2.2.2.2.1)) Q (F0 m pc ls' (r.2.toList.map (pm_t z bS)))) →
      W p l e R s m args below meth c H locs kc ks Q (F0 m (b q.1) ls (q.2.2.1.map (pm_t z bS))) := pm_simC (fun j f hf lc st h o ho => hT j f hf p l e R s m args below meth c Q D aC z bS X lc st h o ho) hcall
end SIM
theorem pm_V_entry {z bS nL : Nat} {a : List Value} (ha : a.all pm_ok = true) (hl : a.length ≤ nL) : pm_V z bS ((lg_sl (a.map (pm_t z bS)) ++ List.replicate (nL - (lg_sl (a.map (pm_t z bS))).length) Slot.unset).toArray) nL (a ++ List.replicate (nL - a.length) .null) := by
  have hcat : ∀ v ∈ a.map (pm_t z bS), v.category = 1 := by
    intro v hv
    obtain ⟨w, hw, rfl⟩ := List.mem_map.mp hv
    exact pm_t_cat (List.all_eq_true.mp ha w hw)
  have hsl : ∀ vs : List Value, (∀ v ∈ vs, v.category = 1) → lg_sl vs = vs.map Slot.val := by
    intro vs
    induction vs with
    | nil => intro _; rfl
    | cons v vs ih =>
      intro h
      have h1 := h v List.mem_cons_self
      have h2 := ih (fun w hw => h w (List.mem_cons_of_mem _ hw))
      simp only [lg_sl, List.flatMap_cons, List.map_cons] at h2 ⊢
      rw [h2, h1]
      rfl
  have hlen : (lg_sl (a.map (pm_t z bS))).length ≤ nL := by rw [hsl _ hcat]; simpa using hl
  have hh := lv_entry (a.map (pm_t z bS)) (n := nL) hlen
  refine ⟨hh.1, hh.2.1, by simp; omega, fun j w hj hw => ?_⟩
  have hja : j < a.length := by
    rcases Nat.lt_or_ge j a.length with h | h
    · exact h
    · rw [List.getElem?_append_right h] at hj
      have := List.eq_of_mem_replicate (List.mem_of_getElem? hj)
      subst this
      cases hw
  rw [List.getElem?_append_left hja] at hj
  rw [hsl _ hcat]
  have e1 : a[j] = w := (List.getElem?_eq_some_iff.mp hj).2
  simp [hja, List.getElem?_append_left, e1]
/-- a method's contract, out of a run of the pure machine -/
theorem pm_met {d : Nat} {y : MethodName} {cc : ByteArray} {nL : Nat} {ret : Option FieldType} {Y : Nat → pm_N} {b : Nat → Nat} {T : Nat → Option pm_I} {call : Nat → List Value → pm_H → Option pm_R} {n : Nat} {a : List Value} {h : pm_H} {r : pm_R} (hpl : plainName y.cls = true) (hb0 : b 0 = 0) (hT : ∀ j f, T j = some f → pm_S cc nL y.cls y.name ret Y b j f) (l : Launch) (D : va_G) (aC : Nat → ClassId) (z bS : Nat)
    (hcall : ∀ mid a g r, call mid a g = some r → ∃ d', d' + 1 ≤ d ∧ pm_M l D aC z bS d' (Y mid) a g r.1 r.2) (ha : a.all pm_ok = true) (hl : a.length ≤ nL) (hex : pm_ex call T n (0, a ++ List.replicate (nL - a.length) .null, [], h) = some r) (hmono : h.1 ≤ r.1.1 ∧ h.2.1 ≤ r.1.2.1) : pm_M l D aC z bS d (y, cc, nL, ret) a h r.1 r.2 := by
  refine ⟨hmono, Met.ofW (cc := cc) (maxL := nL) (ret := ret) hpl rfl ?_⟩
  intro p e s m args below meth c s₁ B hml hv
  obtain ⟨rfl, hW, hG⟩ := hv
  have hx := B.exec
  have hb := B.bytes
  have hr := B.returns
  have hown : s.vm.findClass y.cls = some m.cls := findClass_of_methodNamed B.named
  have hlocks := B.notSynchronized
  have hnm : meth.name = y.name := (name_of_methodNamed B.named B.method).1
  have X : pm_X p (pm_rm d (r.1.1 - h.1) (r.1.2.1 - h.2.1)) s m meth c cc nL y.cls y.name D aC z := ⟨hx, hb, hml, hown, hG, by rw [hW.1]; omega, by show 1 ≤ d + 1; omega, by show 40 ≤ 40 + 30 * d; omega, hnm⟩
  rw [lg_entry_eq]
  have sim := (pm_sim (l := l) (e := e) (args := (a.map (pm_t z bS)).toArray) (below := below) (Q := MQ below (pm_Qc D aC z bS r.1 r.2) (a.map (pm_t z bS)).toArray s (r.1.1 - h.1) (r.1.2.1 - h.2.1) (fun q => z ≤ q)) (bS := bS) hT X (fun mid a' g r' hr' => by
    obtain ⟨d', e1, e2⟩ := hcall mid a' g r' hr'
    exact ⟨d', by show d' + 2 ≤ d + 1; omega, by show 70 + 30 * d' ≤ 40 + 30 * d; omega, e2⟩) n _ _ hex).2 s.heap [] _ 0 0 ⟨hW, va_S.rf, pm_V_entry ha hl⟩ (by show 0 + (r.1.1 - h.1) ≤ r.1.1 - h.1; omega) (by show 0 + (r.1.2.1 - h.2.1) ≤ r.1.2.1 - h.2.1; omega) (fun H' locs' ls' pc a1 a2 a3 => ?_)
  · dsimp only at sim
    rw [hb0] at sim
    exact sim
  · obtain ⟨r1, r2⟩ := r
    refine W.cs (Nat.zero_add _) (Nat.zero_add _) ?_
    dsimp only at a1 a3 ⊢
    cases r2 with
    | none =>
      obtain ⟨c1, c2⟩ := a3
      exact W.vret hx hb (hr.trans c2) (fun t ht hW' => ⟨rfl, by rw [ht]; exact a1, a2.F ht⟩) a2.2.2 c1
    | some v =>
      cases v with
      | int w =>
        obtain ⟨c1, ty, c2, c3⟩ := a3
        exact W.zret hx hb (hr.trans c2) c3 (fun t ht hW' => ⟨rfl, by rw [ht]; exact a1, a2.F ht⟩) a2.2.2 c1
      | ref w =>
        obtain ⟨c1, C, c2⟩ := a3
        exact W.aret (v := .ref (z + w)) hx hb (hr.trans c2) (Or.inl ⟨C, rfl⟩) (Or.inr ⟨_, rfl⟩) (fun t ht hW' => ⟨rfl, by rw [ht]; exact a1, a2.F ht⟩) a2.2.2 c1
      | _ => exact a3.elim
def pm_go (Y : Nat → pm_N) (T : Nat → Nat → Option pm_I) (N : Nat) (call : Nat → List Value → pm_H → Option pm_R) (mid : Nat) (a : List Value) (h : pm_H) : Option pm_R :=
  if a.all pm_ok && decide (a.length ≤ (Y mid).2.2.1) then (match pm_ex call (T mid) N (0, a ++ List.replicate ((Y mid).2.2.1 - a.length) .null, [], h) with
    | some r => if decide (h.1 ≤ r.1.1) && decide (h.2.1 ≤ r.1.2.1) then some r else none
    | none => none) else none
theorem pm_go_spec {Y : Nat → pm_N} {T : Nat → Nat → Option pm_I} {N : Nat} {call : Nat → List Value → pm_H → Option pm_R} {mid : Nat} {a : List Value} {h : pm_H} {r : pm_R} (hr : pm_go Y T N call mid a h = some r) :
    a.all pm_ok = true ∧ a.length ≤ (Y mid).2.2.1 ∧ pm_ex call (T mid) N (0, a ++ List.replicate ((Y mid).2.2.1 - a.length) .null, [], h) = some r ∧ h.1 ≤ r.1.1 ∧ h.2.1 ≤ r.1.2.1 := by
  unfold pm_go at hr
  split at hr
  · rename_i hq
    simp only [Bool.and_eq_true, decide_eq_true_eq] at hq
    split at hr
    · rename_i r' hx
      split at hr
      · rename_i hm
        cases hr
        simp only [Bool.and_eq_true, decide_eq_true_eq] at hm
        exact ⟨hq.1, hq.2, hx, hm.1, hm.2⟩
      · cases hr
    · cases hr
  · cases hr
/-- method mid with the values a on the heap h, calls d deep, N steps a method -/
def pm_run (Y : Nat → pm_N) (T : Nat → Nat → Option pm_I) (N : Nat) : Nat → Nat → List Value → pm_H → Option pm_R
  | 0 => pm_go Y T N (fun _ _ _ => none)
  | d + 1 => pm_go Y T N (pm_run Y T N d)
theorem pm_runs {Y : Nat → pm_N} {T : Nat → Nat → Option pm_I} {B : Nat → Nat → Nat} (hpl : ∀ mid, plainName (Y mid).1.cls = true) (hb0 : ∀ mid, B mid 0 = 0) (hT : ∀ mid j f, T mid j = some f → pm_S (Y mid).2.1 (Y mid).2.2.1 (Y mid).1.cls (Y mid).1.name (Y mid).2.2.2 Y (B mid) j f) (l : Launch) (D : va_G) (aC : Nat → ClassId) (z bS N : Nat) :
    ∀ (d mid : Nat) (a : List Value) (h : pm_H) (r : pm_R), pm_run Y T N d mid a h = some r → pm_M l D aC z bS d (Y mid) a h r.1 r.2 := by
  intro d
  induction d with
  | zero =>
    intro mid a h r hr
    obtain ⟨h1, h2, h3, h4⟩ := pm_go_spec hr
    exact pm_met (hpl mid) (hb0 mid) (hT mid) l D aC z bS (fun _ _ _ _ q => by cases q) h1 h2 h3 h4
  | succ d ih =>
    intro mid a h r hr
    obtain ⟨h1, h2, h3, h4⟩ := pm_go_spec hr
    exact pm_met (hpl mid) (hb0 mid) (hT mid) l D aC z bS (fun mid' a' g r' q => ⟨d, Nat.le_refl _, ih mid' a' g r' q⟩) h1 h2 h3 h4
/-- a method's instructions one after the other, each as the code has it -/
def pm_Sl (cc : ByteArray) (nL : Nat) (own nm : String) (ret : Option FieldType) (Y : Nat → pm_N) (b : Nat → Nat) : Nat → List pm_I → Prop
  | _, [] => True
  | i, f :: l => pm_S cc nL own nm ret Y b i f ∧ pm_Sl cc nL own nm ret Y b (i + 1) l
theorem pm_Sl_at {cc : ByteArray} {nL : Nat} {own nm : String} {ret : Option FieldType} {Y : Nat → pm_N} {b : Nat → Nat} : ∀ (l : List pm_I) (i : Nat), pm_Sl cc nL own nm ret Y b i l → ∀ (j : Nat) (f : pm_I), l[j]? = some f → pm_S cc nL own nm ret Y b (i + j) f := by
  intro l
  induction l with
  | nil => intro i _ j f h; cases h
  | cons g l ih =>
    intro i h j f hj
    cases j with
    | zero => cases hj; exact h.1
    | succ j =>
      have := ih (i + 1) h.2 j f (by simpa using hj)
      rw [show i + (j + 1) = i + 1 + j by omega]
      exact this
def pm_b (l : List Nat) (i : Nat) : Nat := l.getD i 0
theorem so_none {cc : ByteArray} {nL : Nat} {own nm : String} {ret : Option FieldType} {Y : Nat → pm_N} {b : Nat → Nat} {i : Nat} : pm_S cc nL own nm ret Y b i (fun _ _ _ => none) := by
  intro p l e R s m args below meth c Q D aC z bS X lc st h o ho
  cases ho
