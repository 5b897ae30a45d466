-- ===== new cells =====
theorem pm_W.push {D : va_G} {aC : Nat → ClassId} {z : Nat} {h : pm_H} {H H1 : Heap} {t n : Nat} (hW : pm_W D aC z h H) (hz : H1.size = H.size + 1) (o1 : ∀ q : Nat, q < H.size → H1[q]? = H[q]?) (hc : pm_at D aC z (pm_new h t n) H1 h.1) : pm_W D aC z (pm_new h t n) H1 := by
  refine ⟨by rw [hz, hW.1]; show z + h.1 + 1 = z + (h.1 + 1); omega, fun k hk => ?_⟩
  by_cases hkn : k = h.1
  · rw [hkn]; exact hc
  · have hk' : k < h.1 := by
      have : k < h.1 + 1 := hk
      omega
    have hat := hW.2 k hk'
    have hq : H1[z + k]? = H[z + k]? := o1 _ (by rw [hW.1]; omega)
    have e1 : (pm_new h t n).2.2.1 k = h.2.2.1 k := by simp [pm_new, va_up, hkn]
    have e2 : pm_v z (pm_new h t n) k = pm_v z h k := by
      funext j
      simp [pm_v, pm_new, va_up, pm_row, hkn]
    refine ⟨fun hl => ?_, fun ci hci => ?_⟩
    · rw [hq, e1, e2]
      exact hat.1 (by rw [← e1]; exact hl)
    · obtain ⟨r, g1, g2, g3⟩ := hat.2 ci (by rw [← e1]; exact hci)
      exact ⟨r, g1, by rw [e1]; exact g2, by rw [e2]; exact g3.kept hq⟩
theorem pm_S_push {z : Nat} {s : State} {H H1 : Heap} {locs : List Loc} (hS : va_S (fun q => z ≤ q) s.heap H locs) (hz : H1.size = H.size + 1) (o1 : ∀ q : Nat, q < H.size → H1[q]? = H[q]?) : va_S (fun q => z ≤ q) s.heap H1 locs := ⟨Nat.le_trans hS.1 (by omega), fun q h1 h2 => (o1 q (Nat.lt_of_lt_of_le h1 hS.1)).trans (hS.2.1 q h1 h2), hS.2.2⟩
theorem pm_newk {h : pm_H} {t n : Nat} : (pm_new h t n).2.2.1 h.1 = (t, n) := by simp [pm_new, va_up]
theorem pm_newv {z : Nat} {h : pm_H} {t n j : Nat} : pm_v z (pm_new h t n) h.1 j = if pm_rf (pm_ft t j) then .null else .int 0 := by
  simp [pm_v, pm_new, va_up, pm_row, va_rf]
section OPN
variable {cc : ByteArray} {nL : Nat} {own nm : String} {ret : Option FieldType} {Y : Nat → pm_N} {b : Nat → Nat} {i x : Nat}
theorem pm_mkn {p : Program} {l : Launch} {e : Env} {R : Room} {s : State} {m : MethodId} {args : Array Value} {below : List Frame} {meth : Method} {c : Code} {Q : State → Prop} {D : va_G} {aC : Nat → ClassId} {z bS : Nat} {lc st st' : List Value} {h : pm_H} {t n : Nat}
    (k : ∀ (H : Heap) (locs : List Loc) (ls : Array Slot) (kc ks : Nat), pm_W D aC z h H → kc + 1 ≤ R.cells → ks + n ≤ R.slots → (∀ H1 : Heap, H1.size = H.size + 1 → (∀ q : Nat, q < H.size → H1[q]? = H[q]?) → pm_at D aC z (pm_new h t n) H1 h.1 → W p l e R s m args below meth c H1 locs (kc + 1) (ks + n) Q (F0 m (b x) ls (st'.map (pm_t z bS)))) → W p l e R s m args below meth c H locs kc ks Q (F0 m (b i) ls (st.map (pm_t z bS)))) :
    pm_SN p l e R s m args below meth c Q D aC z bS nL b i lc st h (x, lc, st', pm_new h t n) := by
  have e1 : (pm_new h t n).1 - h.1 = 1 := by show h.1 + 1 - h.1 = 1; omega
  have e2 : (pm_new h t n).2.1 - h.2.1 = n := by show h.2.1 + n - h.2.1 = n; omega
  refine ⟨⟨by show h.1 ≤ h.1 + 1; omega, by show h.2.1 ≤ h.2.1 + n; omega⟩, fun H locs ls kc ks hL g1 g2 kk => ?_⟩
  simp only [e1, e2] at g1 g2 kk
  exact k H locs ls kc ks hL.1 g1 g2 (fun H1 hz o1 hat => kk H1 locs ls ⟨hL.1.push hz o1 hat, pm_S_push hL.2.1 hz o1, hL.2.2⟩)
theorem so_newo {ci idx N : Nat} {C : String} {T : u_T} (hq : vwCl[ci]? = some (C, T, N)) (hdf : ∀ k, k < N → defaultValue (pm_ft (16 + ci) k) = if pm_rf (pm_ft (16 + ci) k) then .null else .int 0) (hcl : Cond.classLink own idx C ∈ lw_tbl) (hin : Cond.instantiable C N ∈ lw_tbl) (hini : Cond.initialized C ∈ lw_tbl) (hd : decode cc (b i) = .ok (.new idx, 3)) (hx : b x = b i + 3) : pm_S cc nL own nm ret Y b i (pm_newo x ci N) := by
  intro p l e R s m args below meth c Q D aC z bS X lc st h o ho'
  cases ho'
  refine pm_mkn fun H locs ls kc ks hW hkc hks kk => ?_
  rw [hx] at kk
  have hG := X.2.2.2.2.1
  have hKn := hG.2.1 ci _ hq
  have hts : ∀ w ∈ u_ws C T N, w.before args s = true := fun w hw => pm_word hG (pm_cF ci _ hq w hw).1 (pm_cF ci _ hq w hw).2
  refine W.newcK X.1 X.2.1 X.2.2.2.1 (pm_word hG hcl rfl) (pm_word hG hin rfl) (pm_word hG hini rfl) rfl hd hkc hks hKn.2.1 hW.1 fun H1 kC hkC e1 z1 o1 => ?_
  refine kk H1 (by rw [z1, hW.1]) (fun q hq' => o1 q (by rw [← hW.1]; exact hq')) ((pm_at_obj hq (by rw [pm_newk])).mpr ⟨by rw [pm_newk], ?_⟩)
  exact (u_born (pm_ft (16 + ci)) hts (fun _ h => h) hKn hkC e1 (fun k hk => pm_cT ci _ hq k hk)).to (fun k hk => by rw [pm_newv]; exact hdf k hk)
theorem pm_newprim {ty : FieldType} {atype : ArrayType} {t : Nat} (hty : newarray.typeOf atype = ty) (ht : pm_tg[t]? = some ty) (h16 : t < 16) (hft : ∀ j, pm_ft t j = ty) (hra : ∀ (U : State) (cA : ClassId), va_RA U cA ty → U.vm.findClass ("[" ++ ty.toString) = some cA) (hmk : ∀ U : State, pm_mk ty U → (Cond.arrayClass ty).before #[] U = true) (hdv : defaultValue ty = if pm_rf ty then .null else .int 0) (hbt : componentBytes ty ≤ 4) (hd : decode cc (b i) = .ok (.newarray atype, 2)) (hx : b x = b i + 2) : pm_S cc nL own nm ret Y b i (pm_newa x t) := by
  subst hty
  intro p l e R s m args below meth c Q D aC z bS X lc st h o ho'
  unfold pm_newa at ho'
  split at ho'
  · split at ho'
    · cases ho'
    · rename_i n st' hn
      cases ho'
      simp only [Bool.or_eq_true, decide_eq_true_eq, not_or] at hn
      refine pm_mkn fun H locs ls kc ks hW hkc hks kk => ?_
      rw [hx] at kk
      obtain ⟨a1, a2, a3⟩ := X.2.2.2.2.1.2.2 t _ ht
      refine va_newaK X.1 X.2.1 (word_at (State.WarmedH.refl s) (Or.inr ⟨_, rfl⟩) (hmk s a3)) rfl hd rfl hn.1 rfl ?_ hkc hks hW.1 fun H1 cA e1 z1 o1 _ hNm => ?_
      · have h1 := hn.2
        have h2 := Nat.mul_le_mul (Nat.not_lt.mp h1) hbt
        omega
      · have hcA : cA = aC t := Option.some.inj (hNm.symm.trans (hra _ _ a2))
        subst hcA
        refine kk H1 (by rw [z1, hW.1]) (fun q hq' => o1 q (by rw [← hW.1]; exact hq')) ((pm_at_arr (t := t) h16 (by rw [pm_newk])).mpr ?_)
        rw [e1, pm_newk]
        congr 2
        funext j
        rw [pm_newv, hft, hdv]
  · cases ho'
theorem so_newi (hd : decode cc (b i) = .ok (.newarray .int, 2)) (hx : b x = b i + 2) : pm_S cc nL own nm ret Y b i (pm_newa x 0) := pm_newprim (ty := .int) rfl rfl (by decide) (fun _ => rfl) (fun _ _ h => h) (fun _ h => h) rfl (by decide) hd hx
theorem so_newz (hd : decode cc (b i) = .ok (.newarray .boolean, 2)) (hx : b x = b i + 2) : pm_S cc nL own nm ret Y b i (pm_newa x 1) := pm_newprim (ty := .boolean) rfl rfl (by decide) (fun _ => rfl) (fun _ _ h => h) (fun _ h => h) rfl (by decide) hd hx
theorem so_anew {t idx : Nat} {C : String} (ht : pm_tg[t]? = some (.object C)) (h16 : t < 16) (hft : ∀ j, pm_ft t j = .object C) (hcl : Cond.classLink own idx C ∈ lw_tbl) (hd : decode cc (b i) = .ok (.anewarray idx, 3)) (hx : b x = b i + 3) : pm_S cc nL own nm ret Y b i (pm_newa x t) := by
  intro p l e R s m args below meth c Q D aC z bS X lc st h o ho'
  unfold pm_newa at ho'
  split at ho'
  · split at ho'
    · cases ho'
    · rename_i n st' hn
      cases ho'
      simp only [Bool.or_eq_true, decide_eq_true_eq, not_or] at hn
      refine pm_mkn fun H locs ls kc ks hW hkc hks kk => ?_
      rw [hx] at kk
      obtain ⟨a1, a2, a3⟩ := X.2.2.2.2.1.2.2 t _ ht
      refine W.anew X.1 X.2.1 X.2.2.2.1 (pm_word X.2.2.2.2.1 hcl rfl) (va_AO.use a3) rfl hd rfl hn.1 (by omega) hkc hks fun cA kA comp f1 f2 f3 f4 => ?_
      obtain ⟨kA', comp', -, -, -, k4⟩ := a2
      have hcA : cA = aC t := Option.some.inj (f1.symm.trans k4)
      subst hcA
      rw [hW.1]
      refine kk _ (by rw [Array.size_push]) (fun q hq' => by rw [Array.getElem?_push, if_neg (Nat.ne_of_lt hq')]) ((pm_at_arr (t := t) h16 (by rw [pm_newk])).mpr ?_)
      rw [← hW.1, Array.getElem?_push_size, arrV_new, pm_newk]
      congr 2
      funext j
      rw [pm_newv, hft]
      rfl
  · cases ho'
end OPN
-- ===== calls =====
theorem pm_blind {D : va_G} {aC : Nat → ClassId} {z bS : Nat} {a : List Value} {h : pm_H} : FrameBlind (pm_Pc D aC z bS a h) := by
  intro v U g mk q
  obtain ⟨q0, q1, q2⟩ := q
  exact ⟨q0, q1, q2.moved (U := U.calling g mk v) (State.WarmedH.refl U)⟩
theorem pm_pre {D : va_G} {aC : Nat → ClassId} {z bS : Nat} {a : List Value} {h : pm_H} {s : State} {H : Heap} (hG : pm_G D aC s) (hW : pm_W D aC z h H) : ∀ U : State, U.heap = H → s.WarmedH U.vm → pm_Pc D aC z bS a h (a.map (pm_t z bS)).toArray U := fun U hU hw => ⟨rfl, by rw [hU]; exact hW, hG.moved hw⟩
theorem pm_cat_t {z bS : Nat} (st : List Value) : ((st.map (pm_t z bS)).map fun v => v.category).sum = pm_cat st := by
  unfold pm_cat
  rw [List.map_map]
  congr 1
  apply List.map_congr_left
  intro v _
  cases v <;> rfl
section RUN
variable {p : Program} {l : Launch} {e : Env} {R : Room} {s : State} {m : MethodId} {args : Array Value} {below : List Frame} {meth : Method} {c : Code} {H : Heap} {locs : List Loc} {cells slots : Nat} {Q : State → Prop}
theorem pm_back {D : va_G} {aC : Nat → ClassId} {z bS mc ms pc : Nat} {ls : Array Slot} {st0 rest : List Value} {h' : pm_H} {v : Option Value} {a0 : Array Value} (hr : va_Run p l e R s m args below meth c H locs cells slots mc ms (F0 m pc ls st0) rest (pm_Qc D aC z bS h' v a0) (fun q => z ≤ q)) (hS : va_S (fun q => z ≤ q) s.heap H locs)
    (kk : ∀ (H' : Heap) (locs' : List Loc), pm_W D aC z h' H' → va_S (fun q => z ≤ q) s.heap H' locs' → W p l e R s m args below meth c H' locs' (cells + mc) (slots + ms) Q (F0 m (pc + 3) ls ((v.map (pm_t z bS)).toList ++ rest))) : W p l e R s m args below meth c H locs cells slots Q (F0 m pc ls st0) := by
  intro T hT X
  obtain ⟨v', st₀, t, T', L, h0, X', hL, e1, e2, ⟨hv, hw, hz, hk⟩, st⟩ := hr T hT X
  cases hv
  rw [h0] at hz hk
  obtain ⟨t2, a1, b1⟩ := kk T'.heap (locs ++ L) (by rw [e1]; exact hw)
    ⟨Nat.le_trans hS.1 (by rw [e1]; exact hz), fun q h1 h2 => by rw [e1, hk q (Nat.lt_of_lt_of_le h1 hS.1) h2]; exact hS.2.1 q h1 h2, fun q hq => by
      rcases List.mem_append.mp hq with h | h
      · exact hS.2.2 q h
      · exact hL q h⟩ T' rfl X'
  exact ⟨t2, st t2 a1, b1⟩
end RUN
def pm_ml (own : String) (idx : Nat) (y : MethodName) : Prop := Cond.methodLink own idx y ∈ lw_tbl ∨ ∃ host, Cond.methodLinkNest own idx y host ∈ lw_tbl
def pm_yd (y : MethodName) (n : Nat) : Prop := y.cls ≠ "java/lang/invoke/MethodHandle" ∧ y.cls ≠ "java/lang/invoke/VarHandle" ∧ (parseMethodDescriptor y.desc).map (fun d => d.parameters.length) = some n
theorem pm_calls_spec {x mid n : Nat} {lc st : List Value} {h : pm_H} {o : pm_O} (ho : pm_calls x mid n lc st h = some o) : o = .inr (.inr (mid, (st.take n).reverse, (x, lc, st.drop n, h))) ∧ n ≤ st.length ∧ pm_cat (st.drop n) ≤ 8 := by
  unfold pm_calls at ho
  split at ho
  · rename_i hq
    cases ho
    simp only [Bool.and_eq_true, decide_eq_true_eq] at hq
    exact ⟨rfl, hq.1, hq.2⟩
  · cases ho
section OPC
variable {cc : ByteArray} {nL : Nat} {own nm : String} {ret : Option FieldType} {Y : Nat → pm_N} {b : Nat → Nat} {i x : Nat}
theorem so_callv {mid n ci idx mL N : Nat} {y : MethodName} {bytes : ByteArray} {rt : Option FieldType} {T : u_T} (hY : Y mid = (y, bytes, mL, rt)) (hq : vwCl[ci]? = some (y.cls, T, N)) (hcode : Cond.code y bytes mL rt ∈ lw_tbl) (hini : Cond.initialized y.cls ∈ lw_tbl) (hins : Cond.instanceMethod y ∈ lw_tbl) (hsel : Cond.selects y.cls y y ∈ lw_tbl) (hl : pm_ml own idx y) (hyd : pm_yd y n) (hm : mL ≤ 11) (hd : decode cc (b i) = .ok (.invokevirtual idx, 3)) (hx : b x = b i + 3) : pm_S cc nL own nm ret Y b i (pm_callv x mid (n + 1) ci) := by
  intro p l e R s m args below meth c Q D aC z bS X lc st h o ho
  unfold pm_callv at ho
  split at ho
  · rename_i k As hargs
    split at ho
    · rename_i hk
      simp only [Bool.and_eq_true, decide_eq_true_eq, beq_iff_eq] at hk
      obtain ⟨rfl, hlen, hcat⟩ := pm_calls_spec ho
      refine ⟨rfl, fun d h' v hf hlo hM H locs ls kc ks hL hc hs kk => ?_⟩
      rw [hY] at hM
      dsimp only at hM hc hs kk
      rw [hargs] at hM
      rw [hx] at kk
      have hst : st = As.reverse ++ .ref k :: st.drop (n + 1) := by
        have h1 : st.take (n + 1) = As.reverse ++ [.ref k] := by rw [← List.reverse_reverse (st.take (n + 1)), hargs, List.reverse_cons]
        have h2 : st = st.take (n + 1) ++ st.drop (n + 1) := (List.take_append_drop _ _).symm
        rw [h1] at h2
        simpa using h2
      have hAs : (As.map (pm_t z bS)).length = n := by
        have h1 := congrArg List.length hargs
        simp only [List.length_reverse, List.length_take, List.length_cons] at h1
        rw [List.length_map]
        omega
      have hG := X.2.2.2.2.1
      obtain ⟨-, cellB, v1, v2, v3, -⟩ := (pm_at_obj hq hk.2).mp (hL.1.2 k hk.1)
      have hrec : ∃ cellB : Cell, H[z + k]? = some cellB ∧ cellB.vm.isStatics = false ∧ s.vm.findClass y.cls = some cellB.cls := ⟨cellB, v1, by rw [v3]; rfl, by rw [v2]; exact (hG.2.1 ci _ hq).2.1⟩
      have hpre := pm_pre (bS := bS) (a := .ref k :: As) hG hL.1
      have ht : ∀ w ∈ [Cond.code y bytes mL rt], w.before args s = true := fun w hw => by rw [List.mem_singleton.mp hw]; exact pm_word hG hcode rfl
      have hGi : GoodIn [Cond.code y bytes mL rt] [Cond.code y bytes mL rt] := fun w hw => ⟨hw, by rw [List.mem_singleton.mp hw]; exact Or.inl rfl⟩
      have hroom : (pm_rm d (h'.1 - h.1) (h'.2.1 - h.2.1)).frames + 1 ≤ R.frames ∧ 8 + (mL + 11) + (pm_rm d (h'.1 - h.1) (h'.2.1 - h.2.1)).locals ≤ R.locals := by
        simp only [pm_rm]
        omega
      have hcat' : ((((st.drop (n + 1)).map (pm_t z bS)).map fun v => v.category).sum) ≤ 8 := by rw [pm_cat_t]; exact hcat
      have hgo : va_Run p l e R s m args below meth c H locs kc ks (h'.1 - h.1) (h'.2.1 - h.2.1) (F0 m (b i) ls (st.map (pm_t z bS))) ((st.drop (n + 1)).map (pm_t z bS)) (pm_Qc D aC z bS h' v (Value.ref (z + k) :: As.map (pm_t z bS)).toArray) (fun q => z ≤ q) := by
        have hstk : st.map (pm_t z bS) = (As.map (pm_t z bS)).reverse ++ .ref (z + k) :: (st.drop (n + 1)).map (pm_t z bS) := by
          conv => lhs; rw [hst]
          rw [List.map_append, List.map_reverse]
          rfl
        rcases hl with hl | ⟨host, hl⟩
        · exact va_runV (C := y.cls) ⟨X.1, X.2.1, X.2.2.1, X.2.2.2.1, ht⟩ hM.2 ⟨callB_of n ht hGi rfl rfl rfl (pm_word hG hini rfl) (pm_word hG hl rfl) hyd hroom, pm_word hG hins rfl, pm_word hG hsel rfl⟩ ⟨pm_blind, hrec, hpre⟩ rfl hAs hL.2.2.1 hstk (lv_room hcat') hd ⟨hc, hs⟩
        · exact va_runVN (C := y.cls) ⟨X.1, X.2.1, X.2.2.1, X.2.2.2.1, ht⟩ hM.2 ⟨va_cnB n ht hGi rfl rfl rfl (hG.1 _ hl rfl) (pm_word hG hini rfl) hyd hroom, pm_word hG hins rfl, pm_word hG hsel rfl⟩ ⟨pm_blind, hrec, hpre⟩ rfl hAs hL.2.2.1 hstk (lv_room hcat') hd ⟨hc, hs⟩
      refine pm_back hgo hL.2.1 (fun H' locs' hW hS => ?_)
      have k2 := kk H' locs' ⟨hW, hS, hL.2.2⟩
      rw [List.map_append] at k2
      cases v <;> exact k2
    · cases ho
  · cases ho
theorem so_callc {mid n idx mL : Nat} {y : MethodName} {bytes : ByteArray} (hY : Y mid = (y, bytes, mL, none)) (hyn : y.name = "<init>") (hcode : Cond.code y bytes mL none ∈ lw_tbl) (hini : Cond.initialized y.cls ∈ lw_tbl) (hins : Cond.instanceMethod y ∈ lw_tbl) (hl : pm_ml own idx y) (hyd : pm_yd y n) (hm : mL ≤ 11) (hd : decode cc (b i) = .ok (.invokespecial idx, 3)) (hx : b x = b i + 3) : pm_S cc nL own nm ret Y b i (pm_callc x mid (n + 1)) := by
  intro p l e R s m args below meth c Q D aC z bS X lc st h o ho
  unfold pm_callc at ho
  split at ho
  · rename_i k As hargs
    obtain ⟨rfl, hlen, hcat⟩ := pm_calls_spec ho
    refine ⟨rfl, fun d h' v hf hlo hM H locs ls kc ks hL hc hs kk => ?_⟩
    rw [hY] at hM
    dsimp only at hM hc hs kk
    rw [hargs] at hM
    rw [hx] at kk
    have hst : st = As.reverse ++ .ref k :: st.drop (n + 1) := by
      have h1 : st.take (n + 1) = As.reverse ++ [.ref k] := by rw [← List.reverse_reverse (st.take (n + 1)), hargs, List.reverse_cons]
      have h2 : st = st.take (n + 1) ++ st.drop (n + 1) := (List.take_append_drop _ _).symm
      rw [h1] at h2
      simpa using h2
    have hAs : (As.map (pm_t z bS)).length = n := by
      have h1 := congrArg List.length hargs
      simp only [List.length_reverse, List.length_take, List.length_cons] at h1
      rw [List.length_map]
      omega
    have hG := X.2.2.2.2.1
    have hpre := pm_pre (bS := bS) (a := .ref k :: As) hG hL.1
    have ht : ∀ w ∈ [Cond.code y bytes mL none], w.before args s = true := fun w hw => by rw [List.mem_singleton.mp hw]; exact pm_word hG hcode rfl
    have hGi : GoodIn [Cond.code y bytes mL none] [Cond.code y bytes mL none] := fun w hw => ⟨hw, by rw [List.mem_singleton.mp hw]; exact Or.inl rfl⟩
    have hroom : (pm_rm d (h'.1 - h.1) (h'.2.1 - h.2.1)).frames + 1 ≤ R.frames ∧ 8 + (mL + 11) + (pm_rm d (h'.1 - h.1) (h'.2.1 - h.2.1)).locals ≤ R.locals := by
      simp only [pm_rm]
      omega
    have hcat' : ((((st.drop (n + 1)).map (pm_t z bS)).map fun v => v.category).sum) ≤ 8 := by rw [pm_cat_t]; exact hcat
    have hgo : va_Run p l e R s m args below meth c H locs kc ks (h'.1 - h.1) (h'.2.1 - h.2.1) (F0 m (b i) ls (st.map (pm_t z bS))) ((st.drop (n + 1)).map (pm_t z bS)) (pm_Qc D aC z bS h' v (Value.ref (z + k) :: As.map (pm_t z bS)).toArray) (fun q => z ≤ q) := by
      have hstk : st.map (pm_t z bS) = (As.map (pm_t z bS)).reverse ++ .ref (z + k) :: (st.drop (n + 1)).map (pm_t z bS) := by
        conv => lhs; rw [hst]
        rw [List.map_append, List.map_reverse]
        rfl
      rcases hl with hl | ⟨host, hl⟩
      · exact va_runI ⟨X.1, X.2.1, X.2.2.1, X.2.2.2.1, ht⟩ hM.2 ⟨callB_of n ht hGi rfl rfl rfl (pm_word hG hini rfl) (pm_word hG hl rfl) hyd hroom, hyn, pm_word hG hins rfl⟩ ⟨pm_blind, hpre⟩ rfl hAs hL.2.2.1 hstk (lv_room hcat') hd ⟨hc, hs⟩
      · exact va_runIN ⟨X.1, X.2.1, X.2.2.1, X.2.2.2.1, ht⟩ hM.2 ⟨va_cnB n ht hGi rfl rfl rfl (hG.1 _ hl rfl) (pm_word hG hini rfl) hyd hroom, hyn, pm_word hG hins rfl⟩ ⟨pm_blind, hpre⟩ rfl hAs hL.2.2.1 hstk (lv_room hcat') hd ⟨hc, hs⟩
    refine pm_back hgo hL.2.1 (fun H' locs' hW hS => ?_)
    have k2 := kk H' locs' ⟨hW, hS, hL.2.2⟩
    rw [List.map_append] at k2
    cases v <;> exact k2
  · cases ho
theorem so_calls {mid n idx mL : Nat} {y : MethodName} {bytes : ByteArray} {rt : Option FieldType} (hY : Y mid = (y, bytes, mL, rt)) (hcode : Cond.code y bytes mL rt ∈ lw_tbl) (hini : Cond.initialized y.cls ∈ lw_tbl) (hstt : Cond.static y ∈ lw_tbl) (hl : pm_ml own idx y) (hyd : pm_yd y n) (hm : mL ≤ 11) (hd : decode cc (b i) = .ok (.invokestatic idx, 3)) (hx : b x = b i + 3) : pm_S cc nL own nm ret Y b i (pm_calls x mid n) := by
  intro p l e R s m args below meth c Q D aC z bS X lc st h o ho
  obtain ⟨rfl, hlen, hcat⟩ := pm_calls_spec ho
  refine ⟨rfl, fun d h' v hf hlo hM H locs ls kc ks hL hc hs kk => ?_⟩
  rw [hY] at hM
  dsimp only at hM hc hs kk
  rw [hx] at kk
  have hAs : (((st.take n).reverse).map (pm_t z bS)).length = n := by
    simp only [List.length_map, List.length_reverse, List.length_take]
    omega
  have hG := X.2.2.2.2.1
  have hpre := pm_pre (bS := bS) (a := (st.take n).reverse) hG hL.1
  have ht : ∀ w ∈ [Cond.code y bytes mL rt], w.before args s = true := fun w hw => by rw [List.mem_singleton.mp hw]; exact pm_word hG hcode rfl
  have hGi : GoodIn [Cond.code y bytes mL rt] [Cond.code y bytes mL rt] := fun w hw => ⟨hw, by rw [List.mem_singleton.mp hw]; exact Or.inl rfl⟩
  have hroom : (pm_rm d (h'.1 - h.1) (h'.2.1 - h.2.1)).frames + 1 ≤ R.frames ∧ 8 + (mL + 11) + (pm_rm d (h'.1 - h.1) (h'.2.1 - h.2.1)).locals ≤ R.locals := by
    simp only [pm_rm]
    omega
  have hcat' : ((((st.drop n).map (pm_t z bS)).map fun v => v.category).sum) ≤ 8 := by rw [pm_cat_t]; exact hcat
  have hgo : va_Run p l e R s m args below meth c H locs kc ks (h'.1 - h.1) (h'.2.1 - h.2.1) (F0 m (b i) ls (st.map (pm_t z bS))) ((st.drop n).map (pm_t z bS)) (pm_Qc D aC z bS h' v (((st.take n).reverse).map (pm_t z bS)).toArray) (fun q => z ≤ q) := by
    have hstk : st.map (pm_t z bS) = (((st.take n).reverse).map (pm_t z bS)).reverse ++ (st.drop n).map (pm_t z bS) := by
      rw [← List.map_reverse, List.reverse_reverse, ← List.map_append, List.take_append_drop]
    rcases hl with hl | ⟨host, hl⟩
    · exact va_runS ⟨X.1, X.2.1, X.2.2.1, X.2.2.2.1, ht⟩ hM.2 ⟨callB_of n ht hGi rfl rfl rfl (pm_word hG hini rfl) (pm_word hG hl rfl) hyd hroom, pm_word hG hstt rfl⟩ ⟨pm_blind, hpre⟩ rfl hAs hL.2.2.1 hstk (lv_room hcat') hd ⟨hc, hs⟩
    · exact va_runSN ⟨X.1, X.2.1, X.2.2.1, X.2.2.2.1, ht⟩ hM.2 ⟨va_cnB n ht hGi rfl rfl rfl (hG.1 _ hl rfl) (pm_word hG hini rfl) hyd hroom, pm_word hG hstt rfl, trivial⟩ ⟨pm_blind, hpre⟩ rfl hAs hL.2.2.1 hstk (lv_room hcat') hd ⟨hc, hs⟩
  refine pm_back hgo hL.2.1 (fun H' locs' hW hS => ?_)
  have k2 := kk H' locs' ⟨hW, hS, hL.2.2⟩
  rw [List.map_append] at k2
  cases v <;> exact k2
end OPC
