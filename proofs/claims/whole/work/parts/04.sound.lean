/-! What the machine's heap holds, when the pure heap is h: cell c stands at the address z + c. -/
def pm_t (z bS : Nat) (v : Value) : Value := match v with
  | .ref a => .ref (z + a)
  | .retAddr _ => .ref bS
  | w => w
def pm_v (z : Nat) (h : pm_H) (k j : Nat) : Value := if pm_rf (pm_ft (h.2.2.1 k).1 j) then va_rf ((h.2.2.2.2 k j).map (fun a => z + a)) else .int (h.2.2.2.1 k j)
def pm_at (D : va_G) (aC : Nat → ClassId) (z : Nat) (h : pm_H) (H : Heap) (k : Nat) : Prop :=
  ((h.2.2.1 k).1 < 16 → H[z + k]? = some (arrV (aC (h.2.2.1 k).1) (h.2.2.1 k).2 (pm_v z h k))) ∧
  ∀ ci : Nat, (h.2.2.1 k).1 = 16 + ci → ∃ r : vw_C, vwCl[ci]? = some r ∧ r.2.2 = (h.2.2.1 k).2 ∧ t_OB (z + k) (D.1 ci) r.2.2 (D.2 ci) H (pm_v z h k)
def pm_W (D : va_G) (aC : Nat → ClassId) (z : Nat) (h : pm_H) (H : Heap) : Prop := H.size = z + h.1 ∧ ∀ k, k < h.1 → pm_at D aC z h H k
def pm_mk (ty : FieldType) (U : State) : Prop := match ty with
  | .object C => va_AO C U
  | t => (Cond.arrayClass t).before #[] U = true
def pm_G (D : va_G) (aC : Nat → ClassId) (U : State) : Prop :=
  (∀ w ∈ lw_tbl, pm_gd w = true → va_Nw w U) ∧ (∀ (ci : Nat) (q : vw_C), vwCl[ci]? = some q → u_Kn U q.1 q.2.1 q.2.2 (D.1 ci) (D.2 ci)) ∧
  ∀ (t : Nat) (ty : FieldType), pm_tg[t]? = some ty → ArrOfT U (aC t) ty ∧ va_RA U (aC t) ty ∧ pm_mk ty U
theorem pm_mk.moved {s U : State} (hW : s.WarmedH U.vm) {ty : FieldType} (h : pm_mk ty s) : pm_mk ty U := by
  cases ty with
  | object C => exact va_AO.moved hW.alike h
  | _ => exact word_at hW (Or.inr ⟨_, rfl⟩) h
theorem pm_G.moved {D : va_G} {aC : Nat → ClassId} {s U : State} (hW : s.WarmedH U.vm) (h : pm_G D aC s) : pm_G D aC U := by
  refine ⟨fun w h1 h2 => ?_, fun ci q hq => u_Kn_moved hW.alike (h.2.1 ci q hq), fun t ty ht => ?_⟩
  · have h3 := h.1 w h1 h2
    simp only [pm_gd, Bool.and_eq_true] at h2
    exact va_tabs h2.1 (rfl : (s.setVm U.vm).vm = U.vm) (Cond.onTables_warmH (T := s) (args' := #[]) hW h2.1 h2.2 h3)
  · obtain ⟨a1, a2, a3⟩ := h.2.2 t ty ht
    exact ⟨arrOfT_moved hW.alike a1, a2.moved hW.alike, a3.moved hW⟩
theorem pm_word {D : va_G} {aC : Nat → ClassId} {s : State} {args : Array Value} (h : pm_G D aC s) {w : Cond} (h1 : w ∈ lw_tbl) (h2 : pm_gd w = true) : w.before args s = true := by
  have h3 := h.1 w h1 h2
  simp only [pm_gd, Bool.and_eq_true] at h2
  exact va_Nw.use h2.1 h3
-- the locals
def pm_V (z bS : Nat) (ls : Array Slot) (nL : Nat) (lc : List Value) : Prop := ls.size = nL ∧ lv_wf ls ∧ lc.length = nL ∧ ∀ (j : Nat) (w : Value), lc[j]? = some w → pm_ok w = true → ls[j]? = some (.val (pm_t z bS w))
def pm_ll (z bS : Nat) : Nat → List Value → List (Nat × Value)
  | _, [] => []
  | i, v :: l => if pm_ok v then (i, pm_t z bS v) :: pm_ll z bS (i + 1) l else pm_ll z bS (i + 1) l
theorem pm_ll_mem {z bS : Nat} {q : Nat × Value} : ∀ (l : List Value) (i : Nat), q ∈ pm_ll z bS i l ↔ ∃ (j : Nat) (w : Value), l[j]? = some w ∧ pm_ok w = true ∧ q = (i + j, pm_t z bS w) := by
  intro l
  induction l with
  | nil => intro i; simp [pm_ll]
  | cons v l ih =>
    intro i
    have key : (∃ (j : Nat) (w : Value), (v :: l)[j]? = some w ∧ pm_ok w = true ∧ q = (i + j, pm_t z bS w)) ↔ (pm_ok v = true ∧ q = (i, pm_t z bS v)) ∨ ∃ (j : Nat) (w : Value), l[j]? = some w ∧ pm_ok w = true ∧ q = (i + 1 + j, pm_t z bS w) := by
      constructor
      · rintro ⟨j, w, h1, h2, h3⟩
        cases j with
        | zero =>
          simp at h1
          subst h1
          exact Or.inl ⟨h2, by simpa using h3⟩
        | succ j => exact Or.inr ⟨j, w, by simpa using h1, h2, by rw [h3]; congr 1; omega⟩
      · rintro (⟨h1, h2⟩ | ⟨j, w, h1, h2, h3⟩)
        · exact ⟨0, v, by simp, h1, by simpa using h2⟩
        · exact ⟨j + 1, w, by simpa using h1, h2, by rw [h3]; congr 1; omega⟩
    rw [key]
    simp only [pm_ll]
    split
    · rename_i hv
      simp [ih, hv]
    · rename_i hv
      simp [ih, hv]
theorem pm_V.has {z bS nL : Nat} {ls : Array Slot} {lc : List Value} (h : pm_V z bS ls nL lc) : lv_has ls nL (pm_ll z bS 0 lc) := by
  refine ⟨h.1, h.2.1, fun q hq => ?_⟩
  obtain ⟨j, w, h1, h2, h3⟩ := (pm_ll_mem lc 0).mp hq
  rw [h3]
  simpa using h.2.2.2 j w h1 h2
theorem pm_t_cat {z bS : Nat} {w : Value} (h : pm_ok w = true) : (pm_t z bS w).category = 1 := by
  cases w <;> first | rfl | cases h
theorem pm_V.set {z bS nL i : Nat} {ls ls' : Array Slot} {lc : List Value} {v : Value} (h : pm_V z bS ls nL lc) (hv : pm_ok v = true) (h' : lv_has ls' nL ((i, pm_t z bS v) :: (pm_ll z bS 0 lc).filter (fun q => !(q.1 == i) && !(q.1 + 1 == i && q.2.category == 2)))) : pm_V z bS ls' nL (lc.set i v) := by
  refine ⟨h'.1, h'.2.1, by rw [List.length_set]; exact h.2.2.1, fun j w hj hw => ?_⟩
  by_cases hji : j = i
  · subst hji
    have hl : j < lc.length := by
      have := (List.getElem?_eq_some_iff.mp hj).1
      simpa using this
    rw [List.getElem?_set_self hl] at hj
    cases hj
    exact h'.2.2 (j, pm_t z bS v) List.mem_cons_self
  · rw [List.getElem?_set_ne (Ne.symm hji)] at hj
    refine h'.2.2 (j, pm_t z bS w) (List.mem_cons_of_mem _ (List.mem_filter.mpr ⟨(pm_ll_mem lc 0).mpr ⟨j, w, hj, hw, by simp⟩, ?_⟩))
    simp [hji, pm_t_cat hw]
def pm_L (s : State) (D : va_G) (aC : Nat → ClassId) (z bS nL : Nat) (lc : List Value) (h : pm_H) (H : Heap) (locs : List Loc) (ls : Array Slot) : Prop := pm_W D aC z h H ∧ va_S (fun q => z ≤ q) s.heap H locs ∧ pm_V z bS ls nL lc
/-- what holds in a whole activation of a method: its code cc with nL locals, of class own, its name nm -/
def pm_X (p : Program) (R : Room) (s : State) (m : MethodId) (meth : Method) (c : Code) (cc : ByteArray) (nL : Nat) (own nm : String) (D : va_G) (aC : Nat → ClassId) (z : Nat) : Prop :=
  p.tables.exec = Jvm.exec ∧ c.code = cc ∧ c.maxLocals = nL ∧ s.vm.findClass own = some m.cls ∧ pm_G D aC s ∧ z ≤ s.heap.size ∧ 1 ≤ R.frames ∧ 40 ≤ R.locals ∧ meth.name = nm
/-- a method's contract: from the pure heap h with the values a it comes to h' with the answer v -/
def pm_Pc (D : va_G) (aC : Nat → ClassId) (z bS : Nat) (a : List Value) (h : pm_H) : Array Value → State → Prop := va_Pc (a.map (pm_t z bS)) (fun U => pm_W D aC z h U.heap ∧ pm_G D aC U)
def pm_Qc (D : va_G) (aC : Nat → ClassId) (z bS : Nat) (h : pm_H) (v : Option Value) : Array Value → State → Outcome → State → Prop := fun _ st oc t => oc = .returned (v.map (pm_t z bS)) ∧ pm_W D aC z h t.heap ∧ va_F (fun q => z ≤ q) st t
abbrev pm_N : Type := MethodName × ByteArray × Nat × Option FieldType
def pm_rm (d mc ms : Nat) : Room := { frames := d + 1, cells := mc, slots := ms, locals := 40 + 30 * d }
def pm_M (l : Launch) (D : va_G) (aC : Nat → ClassId) (z bS d : Nat) (y : pm_N) (a : List Value) (h h' : pm_H) (v : Option Value) : Prop :=
  (h.1 ≤ h'.1 ∧ h.2.1 ≤ h'.2.1) ∧ Met l y.1 [Cond.code y.1 y.2.1 y.2.2.1 y.2.2.2] (pm_rm d (h'.1 - h.1) (h'.2.1 - h.2.1)) (pm_Pc D aC z bS a h) (pm_Qc D aC z bS h' v) (h'.1 - h.1) (h'.2.1 - h.2.1) (fun q => z ≤ q)
/-- an end: which instruction may stand there -/
def pm_rd (cc : ByteArray) (pc : Nat) (ret : Option FieldType) (v : Option Value) : Prop := match v with
  | none => decode cc pc = .ok (.return_, 1) ∧ ret = none
  | some (.int w) => decode cc pc = .ok (.ireturn, 1) ∧ ∃ ty, ret = some ty ∧ narrow ty (.int w) = .int w
  | some (.ref _) => decode cc pc = .ok (.areturn, 1) ∧ ∃ C, ret = some (.object C)
  | _ => False
section SND
variable (p : Program) (l : Launch) (e : Env) (R : Room) (s : State) (m : MethodId) (args : Array Value) (below : List Frame) (meth : Method) (c : Code) (Q : State → Prop) (D : va_G) (aC : Nat → ClassId) (z bS nL : Nat) (b : Nat → Nat) (i : Nat)
def pm_SN (lc st : List Value) (h : pm_H) (q : pm_C) : Prop :=
  (h.1 ≤ q.2.2.2.1 ∧ h.2.1 ≤ q.2.2.2.2.1) ∧ ∀ (H : Heap) (locs : List Loc) (ls : Array Slot) (kc ks : Nat), pm_L s D aC z bS nL lc h H locs ls → kc + (q.2.2.2.1 - h.1) ≤ R.cells → ks + (q.2.2.2.2.1 - h.2.1) ≤ R.slots →
    (∀ (H' : Heap) (locs' : List Loc) (ls' : Array Slot), pm_L s D aC z bS nL q.2.1 q.2.2.2 H' locs' ls' → W p l e R s m args below meth c H' locs' (kc + (q.2.2.2.1 - h.1)) (ks + (q.2.2.2.2.1 - h.2.1)) Q (F0 m (b q.1) ls' (q.2.2.1.map (pm_t z bS)))) →
    W p l e R s m args below meth c H locs kc ks Q (F0 m (b i) ls (st.map (pm_t z bS)))
def pm_SC (Y : Nat → pm_N) (lc st : List Value) (h : pm_H) (q : Nat × List Value × pm_C) : Prop :=
  q.2.2.2.2.2 = h ∧ ∀ (d : Nat) (h' : pm_H) (v : Option Value), d + 2 ≤ R.frames → 70 + 30 * d ≤ R.locals → pm_M l D aC z bS d (Y q.1) q.2.1 h h' v → ∀ (H : Heap) (locs : List Loc) (ls : Array Slot) (kc ks : Nat), pm_L s D aC z bS nL lc h H locs ls → kc + (h'.1 - h.1) ≤ R.cells → ks + (h'.2.1 - h.2.1) ≤ R.slots →
    (∀ (H' : Heap) (locs' : List Loc), pm_L s D aC z bS nL q.2.2.2.1 h' H' locs' ls → W p l e R s m args below meth c H' locs' (kc + (h'.1 - h.1)) (ks + (h'.2.1 - h.2.1)) Q (F0 m (b q.2.2.1) ls ((v.toList ++ q.2.2.2.2.1).map (pm_t z bS)))) →
    W p l e R s m args below meth c H locs kc ks Q (F0 m (b i) ls (st.map (pm_t z bS)))
def pm_SR (cc : ByteArray) (ret : Option FieldType) (st : List Value) (h : pm_H) (q : pm_R) : Prop :=
  q.1 = h ∧ st = q.2.toList ∧ pm_rd cc (b i) ret q.2
def pm_Sm (cc : ByteArray) (ret : Option FieldType) (Y : Nat → pm_N) (lc st : List Value) (h : pm_H) (o : pm_O) : Prop := match o with
  | .inl q => pm_SR b i cc ret st h q
  | .inr (.inl q) => pm_SN p l e R s m args below meth c Q D aC z bS nL b i lc st h q
  | .inr (.inr q) => pm_SC p l e R s m args below meth c Q D aC z bS nL b i Y lc st h q
end SND
/-- an instruction f at number i is what stands in the code at b i -/
def pm_S (cc : ByteArray) (nL : Nat) (own nm : String) (ret : Option FieldType) (Y : Nat → pm_N) (b : Nat → Nat) (i : Nat) (f : pm_I) : Prop :=
  ∀ (p : Program) (l : Launch) (e : Env) (R : Room) (s : State) (m : MethodId) (args : Array Value) (below : List Frame) (meth : Method) (c : Code) (Q : State → Prop) (D : va_G) (aC : Nat → ClassId) (z bS : Nat), pm_X p R s m meth c cc nL own nm D aC z →
    ∀ (lc st : List Value) (h : pm_H) (o : pm_O), f lc st h = some o → pm_Sm p l e R s m args below meth c Q D aC z bS nL b i cc ret Y lc st h o
theorem pm_keep {p : Program} {l : Launch} {e : Env} {R : Room} {s : State} {m : MethodId} {args : Array Value} {below : List Frame} {meth : Method} {c : Code} {Q : State → Prop} {D : va_G} {aC : Nat → ClassId} {z bS nL : Nat} {b : Nat → Nat} {i x : Nat} {lc lc' st st' : List Value} {h : pm_H}
    (k : ∀ (H : Heap) (locs : List Loc) (ls : Array Slot) (kc ks : Nat), pm_L s D aC z bS nL lc h H locs ls → kc ≤ R.cells → ks ≤ R.slots → (∀ ls' : Array Slot, pm_V z bS ls' nL lc' → W p l e R s m args below meth c H locs kc ks Q (F0 m (b x) ls' (st'.map (pm_t z bS)))) → W p l e R s m args below meth c H locs kc ks Q (F0 m (b i) ls (st.map (pm_t z bS)))) :
    pm_SN p l e R s m args below meth c Q D aC z bS nL b i lc st h (x, lc', st', h) := by
  refine ⟨⟨Nat.le_refl _, Nat.le_refl _⟩, fun H locs ls kc ks hL h1 h2 kk => ?_⟩
  simp only [Nat.sub_self, Nat.add_zero] at h1 h2 kk
  exact k H locs ls kc ks hL h1 h2 (fun ls' hV => kk H locs ls' ⟨hL.1, hL.2.1, hV⟩)
/-- an instruction that changes one cell, and makes none -/
theorem pm_put {p : Program} {l : Launch} {e : Env} {R : Room} {s : State} {m : MethodId} {args : Array Value} {below : List Frame} {meth : Method} {c : Code} {Q : State → Prop} {D : va_G} {aC : Nat → ClassId} {z bS nL : Nat} {b : Nat → Nat} {i x : Nat} {lc st st' : List Value} {h h' : pm_H} (h1 : h'.1 = h.1) (h2 : h'.2.1 = h.2.1)
    (k : ∀ (H : Heap) (locs : List Loc) (ls : Array Slot) (kc ks : Nat), pm_L s D aC z bS nL lc h H locs ls → (∀ (H' : Heap) (locs' : List Loc), pm_W D aC z h' H' → va_S (fun q => z ≤ q) s.heap H' locs' → W p l e R s m args below meth c H' locs' kc ks Q (F0 m (b x) ls (st'.map (pm_t z bS)))) → W p l e R s m args below meth c H locs kc ks Q (F0 m (b i) ls (st.map (pm_t z bS)))) :
    pm_SN p l e R s m args below meth c Q D aC z bS nL b i lc st h (x, lc, st', h') := by
  refine ⟨⟨Nat.le_of_eq h1.symm, Nat.le_of_eq h2.symm⟩, fun H locs ls kc ks hL g1 g2 kk => ?_⟩
  simp only [h1, h2, Nat.sub_self, Nat.add_zero] at kk
  exact k H locs ls kc ks hL (fun H' locs' hW hS => kk H' locs' ls ⟨hW, hS, hL.2.2⟩)
theorem pm_W.set {D : va_G} {aC : Nat → ClassId} {z : Nat} {h h' : pm_H} {H H1 : Heap} {k : Nat} (hW : pm_W D aC z h H) (h1 : h'.1 = h.1) (h2 : h'.2.2.1 = h.2.2.1) (ho : ∀ a, a ≠ k → pm_v z h' a = pm_v z h a) (hz : H1.size = H.size) (oq : ∀ q : Nat, q ≠ z + k → H1[q]? = H[q]?) (hc : pm_at D aC z h' H1 k) : pm_W D aC z h' H1 := by
  refine ⟨by rw [hz, h1]; exact hW.1, fun a ha => ?_⟩
  by_cases hak : a = k
  · rw [hak]; exact hc
  · have hat := hW.2 a (by rw [← h1]; exact ha)
    have hq : H1[z + a]? = H[z + a]? := oq _ (by omega)
    refine ⟨fun hl => ?_, fun ci hci => ?_⟩
    · rw [hq, h2, ho a hak]
      exact hat.1 (by rw [← h2]; exact hl)
    · obtain ⟨r, g1, g2, g3⟩ := hat.2 ci (by rw [← h2]; exact hci)
      exact ⟨r, g1, by rw [h2]; exact g2, by rw [ho a hak]; exact g3.kept hq⟩
