-- ===== fields =====
theorem pm_v_i {z : Nat} {h : pm_H} {k j : Nat} (h0 : pm_rf (pm_ft (h.2.2.1 k).1 j) = false) : pm_v z h k j = .int (h.2.2.2.1 k j) := by
  unfold pm_v
  rw [h0]
  rfl
theorem pm_v_r {z : Nat} {h : pm_H} {k j r : Nat} (h0 : pm_rf (pm_ft (h.2.2.1 k).1 j) = true) (hr : h.2.2.2.2 k j = some r) : pm_v z h k j = .ref (z + r) := by
  unfold pm_v
  rw [h0, hr]
  rfl
theorem pm_obj_spec {h : pm_H} {k ci j : Nat} (hq : pm_obj h k ci j = true) : k < h.1 ∧ (h.2.2.1 k).1 = 16 + ci ∧ j < (h.2.2.1 k).2 := by
  simp only [pm_obj, Bool.and_eq_true, decide_eq_true_eq, beq_iff_eq] at hq
  exact ⟨hq.1.1, hq.1.2, hq.2⟩
theorem pm_arr_spec {h : pm_H} {k t : Nat} {i : Int32} (hq : pm_arr h k t i = true) : k < h.1 ∧ (h.2.2.1 k).1 = t ∧ ¬ (i < 0 ∨ (h.2.2.1 k).2 ≤ i.toNatClampNeg) := by
  simp only [pm_arr, Bool.and_eq_true, decide_eq_true_eq, beq_iff_eq, Bool.not_eq_true', Bool.or_eq_false_iff, decide_eq_false_iff_not] at hq
  exact ⟨hq.1.1, hq.1.2, fun g => g.elim hq.2.1 hq.2.2⟩
section FLD
variable {p : Program} {l : Launch} {e : Env} {R : Room} {s : State} {m : MethodId} {args : Array Value} {below : List Frame} {meth : Method} {c : Code} {H : Heap} {locs : List Loc} {cells slots : Nat} {Q : State → Prop}
variable {cc : ByteArray} {nL : Nat} {own nm : String} {D : va_G} {aC : Nat → ClassId} {z : Nat} {pc : Nat} {ls : Array Slot} {rest : List Value}
def pm_fl (own : String) (idx : Nat) (C n d : String) : Prop := Cond.fieldLink own idx C n d ∈ lw_tbl ∨ ∃ host, Cond.fieldLinkNest own idx C n d host ∈ lw_tbl
theorem pm_Wget (X : pm_X p R s m meth c cc nL own nm D aC z) {ci k idx N a : Nat} {C : String} {T : u_T} (hq : vwCl[ci]? = some (C, T, N)) (hk : k < N) (ho : (T k).1 = C) (hl : pm_fl own idx C (T k).2.1 (T k).2.2.1) {V : Nat → Value} (hob : t_OB a (D.1 ci) N (D.2 ci) H V) (hdg : decode cc pc = .ok (.getfield idx, 3))
    (kk : W p l e R s m args below meth c H locs cells slots Q (F0 m (pc + 3) ls (V k :: rest))) : W p l e R s m args below meth c H locs cells slots Q (F0 m pc ls (.ref a :: rest)) := by
  obtain ⟨hexec, hb, -, hown, hG, -⟩ := X
  obtain ⟨cell, q1, q2, q3, q4⟩ := hob
  obtain ⟨hS, hfc, kC, hkC, hkind⟩ := hG.2.1 ci _ hq
  obtain ⟨cf, kf, fi, f, hi, hsl⟩ := hS k hk
  have hts : ∀ w ∈ u_ws C T N, w.before args s = true := fun w hw => pm_word hG (pm_cF ci _ hq w hw).1 (pm_cF ci _ hq w hw).2
  have hst := (u_facts hfc hkC (u_lays hts (fun _ h => h) hk) hi).1
  have hi' : s.fieldFound? C (T k).2.1 (T k).2.2.1 = some (cf, kf, fi, f) := by rw [← hi]; exact congrArg (fun o => s.fieldFound? o (T k).2.1 (T k).2.2.1) ho.symm
  rcases hl with hl | ⟨host, hl⟩
  · exact W.getf hexec hb hown (pm_word hG hl rfl) hi' hst q1 (by rw [q3]; exact fun h => by cases h) (v := V k) (by rw [hsl]; exact q4 k hk) rfl rfl hdg kk
  · exact va_Wgetf hexec hb hown (pm_word hG hl rfl) hi' hst q1 (by rw [q3]; exact fun h => by cases h) (v := V k) (by rw [hsl]; exact q4 k hk) rfl rfl hdg kk
/-- which fields may be written: those that aren't final, and final ones in their own constructor -/
def pm_fw (own nm : String) (idx : Nat) (C : String) (q : String × String × String × Bool) : Prop := (q.2.2.2 = false ∧ pm_fl own idx C q.2.1 q.2.2.1) ∨ (q.2.2.2 = true ∧ nm = "<init>" ∧ q.1 = own ∧ Cond.fieldLink own idx C q.2.1 q.2.2.1 ∈ lw_tbl)
theorem pm_Wput (X : pm_X p R s m meth c cc nL own nm D aC z) {ci k idx N a : Nat} {C : String} {T : u_T} (hq : vwCl[ci]? = some (C, T, N)) (hk : k < N) (ho : (T k).1 = C) (hl : pm_fw own nm idx C (T k)) {V : Nat → Value} (hob : t_OB a (D.1 ci) N (D.2 ci) H V) {v : Value} (hn : narrow (pm_ft (16 + ci) k) v = v) (hfit : fits (pm_ft (16 + ci) k) v = true) (hdg : decode cc pc = .ok (.putfield idx, 3))
    (kk : ∀ (H1 : Heap) (locs1 : List Loc), t_OB a (D.1 ci) N (D.2 ci) H1 (updV V k v) → H1.size = H.size → (∀ q : Nat, q ≠ a → H1[q]? = H[q]?) → (∃ w, locs1 = locs ++ [⟨a, w⟩]) → W p l e R s m args below meth c H1 locs1 cells slots Q (F0 m (pc + 3) ls rest)) : W p l e R s m args below meth c H locs cells slots Q (F0 m pc ls (v :: .ref a :: rest)) := by
  obtain ⟨hexec, hb, -, hown, hG, -, -, -, hnm⟩ := X
  obtain ⟨cell, q1, q2, q3, q4⟩ := hob
  obtain ⟨hS, hfc, kC, hkC, hkind⟩ := hG.2.1 ci _ hq
  have hts : ∀ w ∈ u_ws C T N, w.before args s = true := fun w hw => pm_word hG (pm_cF ci _ hq w hw).1 (pm_cF ci _ hq w hw).2
  have hap : ∀ x y, x < N → y < N → x ≠ y → (D.2 ci) x ≠ (D.2 ci) y := by
    intro x y hx hy hne
    obtain ⟨_, _, _, fa, hia, ea⟩ := hS x hx
    obtain ⟨_, _, _, fb, hib, eb⟩ := hS y hy
    rw [← ea, ← eb]
    refine u_apart (u_lays hts (fun _ h => h) hx) (u_lays hts (fun _ h => h) hy) hia hib ?_
    rw [(State.fieldFound?_type hia (pm_cT ci _ hq x hx)).1, (State.fieldFound?_type hib (pm_cT ci _ hq y hy)).1]
    exact pm_cN ci _ hq x hx y hy hne
  obtain ⟨cf, kf, fi, f, hi, hsl⟩ := hS k hk
  have hst := (u_facts hfc hkC (u_lays hts (fun _ h => h) hk) hi).1
  have hi' : s.fieldFound? C (T k).2.1 (T k).2.2.1 = some (cf, kf, fi, f) := by rw [← hi]; exact congrArg (fun o => s.fieldFound? o (T k).2.1 (T k).2.2.1) ho.symm
  have hlay := hts _ (u_in_lay hk)
  unfold u_lay at hlay
  have hd := pm_cT ci _ hq k hk
  rcases hl with ⟨hfin, hl⟩ | ⟨hfin, hini, hdecl, hl⟩
  · rw [if_neg (by rw [hfin]; decide)] at hlay
    have h6 := u_store hfc hkC hkind hlay hi hd hn hfit
    rcases hl with hl | ⟨host, hl⟩
    · refine W.putK hexec hb (f := f) ⟨hown, pm_word hG hl rfl, ⟨_, _, _, hi'⟩, hst⟩ (by rw [q2]; exact h6) q1 q3 (by rw [hsl]; exact k2_hasslot (q4 k hk)) rfl rfl hdg fun H' e1 e2 e3 => ?_
      rw [hsl] at e1 ⊢
      exact kk H' _ ⟨_, e1, q2, q3, t_set q4 hap hk v⟩ e2 e3 ⟨_, rfl⟩
    · refine va_WputK hexec hb (f := f) hown (pm_word hG hl rfl) hi' hst (by rw [q2]; exact h6) q1 q3 (by rw [hsl]; exact k2_hasslot (q4 k hk)) rfl rfl hdg fun H' e1 e2 e3 => ?_
      rw [hsl] at e1 ⊢
      exact kk H' _ ⟨_, e1, q2, q3, t_set q4 hap hk v⟩ e2 e3 ⟨_, rfl⟩
  · rw [if_pos hfin] at hlay
    have hcf : m.cls = cf := by
      obtain ⟨_, _, c', _, _, _, -, -, hf', -, -, -, hown2, -⟩ := Cond.laysFinal_spec hlay
      have e1 : c' = cf := by have := hi.symm.trans hf'; simp at this; exact this.1.symm
      rw [hdecl] at hown2
      rw [← e1]; exact Option.some.inj (hown.symm.trans hown2)
    have h6 := u_fits hfc hkC hkind (Or.inr hlay) hi hd hn hfit
    refine W.putFinK hexec hb hown (pm_word hG hl rfl) hi' hst hcf (hnm.trans hini) (by rw [q2]; exact h6) q1 q3 (by rw [hsl]; exact k2_hasslot (q4 k hk)) rfl rfl hdg fun H' e1 e2 e3 => ?_
    rw [hsl] at e1 ⊢
    exact kk H' _ ⟨_, e1, q2, q3, t_set q4 hap hk v⟩ e2 e3 ⟨_, rfl⟩
end FLD
theorem pm_at_obj {D : va_G} {aC : Nat → ClassId} {z : Nat} {h : pm_H} {H : Heap} {k ci : Nat} {C : String} {T : u_T} {N : Nat} (hq : vwCl[ci]? = some (C, T, N)) (h1 : (h.2.2.1 k).1 = 16 + ci) : pm_at D aC z h H k ↔ (N = (h.2.2.1 k).2 ∧ t_OB (z + k) (D.1 ci) N (D.2 ci) H (pm_v z h k)) := by
  constructor
  · intro g
    obtain ⟨r, g1, g2, g3⟩ := g.2 ci h1
    rw [hq] at g1
    cases g1
    exact ⟨g2, g3⟩
  · intro g
    refine ⟨fun hl => absurd hl (by omega), fun ci' h' => ?_⟩
    have : ci' = ci := by omega
    subst this
    exact ⟨_, hq, g.1, g.2⟩
theorem pm_at_arr {D : va_G} {aC : Nat → ClassId} {z : Nat} {h : pm_H} {H : Heap} {k t : Nat} (ht : t < 16) (h1 : (h.2.2.1 k).1 = t) : pm_at D aC z h H k ↔ H[z + k]? = some (arrV (aC t) (h.2.2.1 k).2 (pm_v z h k)) := by
  constructor
  · intro g
    have := g.1 (by omega)
    rw [h1] at this
    exact this
  · intro g
    exact ⟨fun _ => by rw [h1]; exact g, fun ci h' => by omega⟩
section OPF
variable {cc : ByteArray} {nL : Nat} {own nm : String} {ret : Option FieldType} {Y : Nat → pm_N} {b : Nat → Nat} {i x : Nat}
theorem so_geti {ci k idx N : Nat} {C : String} {T : u_T} (hq : vwCl[ci]? = some (C, T, N)) (hk : k < N) (ho : (T k).1 = C) (hr : pm_rf (pm_ft (16 + ci) k) = false) (hl : pm_fl own idx C (T k).2.1 (T k).2.2.1) (hd : decode cc (b i) = .ok (.getfield idx, 3)) (hx : b x = b i + 3) : pm_S cc nL own nm ret Y b i (pm_geti x ci k) := by
  intro p l e R s m args below meth c Q D aC z bS X lc st h o ho'
  unfold pm_geti at ho'
  split at ho'
  · split at ho'
    · rename_i a st' hobj
      cases ho'
      obtain ⟨g1, g2, g3⟩ := pm_obj_spec hobj
      refine pm_keep fun H locs ls kc ks hL hkc hks kk => ?_
      have kk := kk ls hL.2.2
      rw [hx] at kk
      have hat := ((pm_at_obj hq g2).mp (hL.1.2 a g1)).2
      refine pm_Wget X hq hk ho hl hat hd ?_
      rw [pm_v_i (by rw [g2]; exact hr)]
      exact kk
    · cases ho'
  · cases ho'
theorem so_getr {ci k idx N : Nat} {C : String} {T : u_T} (hq : vwCl[ci]? = some (C, T, N)) (hk : k < N) (ho : (T k).1 = C) (hr : pm_rf (pm_ft (16 + ci) k) = true) (hl : pm_fl own idx C (T k).2.1 (T k).2.2.1) (hd : decode cc (b i) = .ok (.getfield idx, 3)) (hx : b x = b i + 3) : pm_S cc nL own nm ret Y b i (pm_getr x ci k) := by
  intro p l e R s m args below meth c Q D aC z bS X lc st h o ho'
  unfold pm_getr at ho'
  split at ho'
  · split at ho'
    · rename_i a st' hobj
      split at ho'
      · rename_i r hrr
        cases ho'
        obtain ⟨g1, g2, g3⟩ := pm_obj_spec hobj
        refine pm_keep fun H locs ls kc ks hL hkc hks kk => ?_
        have kk := kk ls hL.2.2
        rw [hx] at kk
        have hat := ((pm_at_obj hq g2).mp (hL.1.2 a g1)).2
        refine pm_Wget X hq hk ho hl hat hd ?_
        rw [pm_v_r (by rw [g2]; exact hr) hrr]
        exact kk
      · cases ho'
    · cases ho'
  · cases ho'
theorem pm_puts {p : Program} {l : Launch} {e : Env} {R : Room} {s : State} {m : MethodId} {args : Array Value} {below : List Frame} {meth : Method} {c : Code} {Q : State → Prop} {D : va_G} {aC : Nat → ClassId} {z bS : Nat} (X : pm_X p R s m meth c cc nL own nm D aC z) {ci k idx N : Nat} {C : String} {T : u_T} (hq : vwCl[ci]? = some (C, T, N)) (hk : k < N) (ho : (T k).1 = C) (hl : pm_fw own nm idx C (T k)) (hd : decode cc (b i) = .ok (.putfield idx, 3)) (hx : b x = b i + 3)
    {lc st : List Value} {h h' : pm_H} {a : Nat} {v : Value} (g1 : a < h.1) (g2 : (h.2.2.1 a).1 = 16 + ci) (h1 : h'.1 = h.1) (h2 : h'.2.1 = h.2.1) (h3 : h'.2.2.1 = h.2.2.1) (hn : narrow (pm_ft (16 + ci) k) (pm_t z bS v) = pm_t z bS v) (hfit : fits (pm_ft (16 + ci) k) (pm_t z bS v) = true) (hv : ∀ j, j ≠ a → pm_v z h' j = pm_v z h j) (hu : updV (pm_v z h a) k (pm_t z bS v) = pm_v z h' a) : pm_SN p l e R s m args below meth c Q D aC z bS nL b i lc (v :: .ref a :: st) h (x, lc, st, h') := by
  refine pm_put h1 h2 fun H locs ls kc ks hL kk => ?_
  rw [hx] at kk
  obtain ⟨hN, hat⟩ := (pm_at_obj hq g2).mp (hL.1.2 a g1)
  refine pm_Wput X hq hk ho hl hat hn hfit hd (fun H1 locs1 hob hz oq hlo => ?_)
  obtain ⟨w, rfl⟩ := hlo
  refine kk H1 _ (hL.1.set h1 h3 hv hz oq ?_) (hL.2.1.put hz oq (Nat.le_add_right z a))
  refine (pm_at_obj hq (by rw [h3]; exact g2)).mpr ⟨by rw [h3]; exact hN, ?_⟩
  rw [← hu]
  exact hob
theorem pm_v_sA {z : Nat} {h : pm_H} {a k : Nat} {v : Int32} : (∀ j, j ≠ a → pm_v z (pm_sA h a k v) j = pm_v z h j) ∧ (pm_rf (pm_ft (h.2.2.1 a).1 k) = false → updV (pm_v z h a) k (.int v) = pm_v z (pm_sA h a k v) a) := by
  refine ⟨fun j hj => ?_, fun h0 => ?_⟩
  · funext q
    simp [pm_v, pm_sA, pm_u, hj]
  · funext q
    by_cases hqk : q = k
    · subst hqk
      simp [updV, pm_v, pm_sA, pm_u, h0]
    · simp [updV, pm_v, pm_sA, pm_u, hqk]
theorem pm_v_sP {z : Nat} {h : pm_H} {a k r : Nat} : (∀ j, j ≠ a → pm_v z (pm_sP h a k (some r)) j = pm_v z h j) ∧ (pm_rf (pm_ft (h.2.2.1 a).1 k) = true → updV (pm_v z h a) k (.ref (z + r)) = pm_v z (pm_sP h a k (some r)) a) := by
  refine ⟨fun j hj => ?_, fun h0 => ?_⟩
  · funext q
    simp [pm_v, pm_sP, pm_u, hj]
  · funext q
    by_cases hqk : q = k
    · subst hqk
      simp [updV, pm_v, pm_sP, pm_u, h0, va_rf]
    · simp [updV, pm_v, pm_sP, pm_u, hqk]
theorem so_puti {ci k idx N : Nat} {C : String} {T : u_T} (hq : vwCl[ci]? = some (C, T, N)) (hk : k < N) (ho : (T k).1 = C) (hr : pm_ft (16 + ci) k = .int) (hl : pm_fw own nm idx C (T k)) (hd : decode cc (b i) = .ok (.putfield idx, 3)) (hx : b x = b i + 3) : pm_S cc nL own nm ret Y b i (pm_puti x ci k) := by
  intro p l e R s m args below meth c Q D aC z bS X lc st h o ho'
  unfold pm_puti at ho'
  split at ho'
  · split at ho'
    · rename_i v a st' hobj
      cases ho'
      obtain ⟨g1, g2, g3⟩ := pm_obj_spec hobj
      exact pm_puts X hq hk ho hl hd hx g1 g2 rfl rfl rfl (by rw [hr]; rfl) (by rw [hr]; rfl) pm_v_sA.1 (pm_v_sA.2 (by rw [g2, hr]; rfl))
    · cases ho'
  · cases ho'
theorem so_putz {ci k idx N : Nat} {C : String} {T : u_T} (hq : vwCl[ci]? = some (C, T, N)) (hk : k < N) (ho : (T k).1 = C) (hr : pm_ft (16 + ci) k = .boolean) (hl : pm_fw own nm idx C (T k)) (hd : decode cc (b i) = .ok (.putfield idx, 3)) (hx : b x = b i + 3) : pm_S cc nL own nm ret Y b i (pm_putz x ci k) := by
  intro p l e R s m args below meth c Q D aC z bS X lc st h o ho'
  unfold pm_putz at ho'
  split at ho'
  · split at ho'
    · rename_i v a st' hobj
      cases ho'
      rw [Bool.and_eq_true] at hobj
      obtain ⟨g1, g2, g3⟩ := pm_obj_spec hobj.1
      have hv := hobj.2
      simp only [Bool.or_eq_true, beq_iff_eq] at hv
      exact pm_puts X hq hk ho hl hd hx g1 g2 rfl rfl rfl (by rw [hr]; rcases hv with rfl | rfl <;> rfl) (by rw [hr]; rcases hv with rfl | rfl <;> rfl) pm_v_sA.1 (pm_v_sA.2 (by rw [g2, hr]; rfl))
    · cases ho'
  · cases ho'
theorem so_putr {ci k idx N : Nat} {C : String} {T : u_T} (hq : vwCl[ci]? = some (C, T, N)) (hk : k < N) (ho : (T k).1 = C) (hr : pm_rf (pm_ft (16 + ci) k) = true) (hl : pm_fw own nm idx C (T k)) (hd : decode cc (b i) = .ok (.putfield idx, 3)) (hx : b x = b i + 3) : pm_S cc nL own nm ret Y b i (pm_putr x ci k) := by
  intro p l e R s m args below meth c Q D aC z bS X lc st h o ho'
  unfold pm_putr at ho'
  split at ho'
  · split at ho'
    · rename_i r a st' hobj
      cases ho'
      obtain ⟨g1, g2, g3⟩ := pm_obj_spec hobj
      have hn : narrow (pm_ft (16 + ci) k) (.ref (z + r)) = .ref (z + r) := by
        revert hr; cases pm_ft (16 + ci) k <;> intro hr <;> first | rfl | cases hr
      have hfit : fits (pm_ft (16 + ci) k) (.ref (z + r)) = true := by
        revert hr; cases pm_ft (16 + ci) k <;> intro hr <;> first | rfl | cases hr
      exact pm_puts X hq hk ho hl hd hx g1 g2 rfl rfl rfl hn hfit pm_v_sP.1 (pm_v_sP.2 (by rw [g2]; exact hr))
    · cases ho'
  · cases ho'
-- ===== arrays =====
theorem so_iald (hd : decode cc (b i) = .ok (.iaload, 1)) (hx : b x = b i + 1) : pm_S cc nL own nm ret Y b i (pm_iald x 0) := by
  intro p l e R s m args below meth c Q D aC z bS X lc st h o ho'
  unfold pm_iald at ho'
  split at ho'
  · split at ho'
    · rename_i j a st' harr
      cases ho'
      obtain ⟨g1, g2, g3⟩ := pm_arr_spec harr
      refine pm_keep fun H locs ls kc ks hL hkc hks kk => ?_
      have kk := kk ls hL.2.2
      rw [hx] at kk
      have hat := (pm_at_arr (by omega) g2).mp (hL.1.2 a g1)
      have hlt : j.toNatClampNeg < (h.2.2.1 a).2 := Nat.not_le.mp fun q => g3 (Or.inr q)
      exact W.iald (v := .int (h.2.2.2.1 a j.toNatClampNeg)) X.1 X.2.1 hat ((X.2.2.2.2.1.2.2 0 .int rfl).1 _ _) (fun q => by cases q) (by rw [arrV_size]; exact g3) (by rw [arrV_read _ _ hlt, pm_v_i (by rw [g2]; rfl)]) rfl rfl hd kk
    · cases ho'
  · cases ho'
theorem so_zald (hd : decode cc (b i) = .ok (.baload, 1)) (hx : b x = b i + 1) : pm_S cc nL own nm ret Y b i (pm_iald x 1) := by
  intro p l e R s m args below meth c Q D aC z bS X lc st h o ho'
  unfold pm_iald at ho'
  split at ho'
  · split at ho'
    · rename_i j a st' harr
      cases ho'
      obtain ⟨g1, g2, g3⟩ := pm_arr_spec harr
      refine pm_keep fun H locs ls kc ks hL hkc hks kk => ?_
      have kk := kk ls hL.2.2
      rw [hx] at kk
      have hat := (pm_at_arr (by omega) g2).mp (hL.1.2 a g1)
      have hlt : j.toNatClampNeg < (h.2.2.1 a).2 := Nat.not_le.mp fun q => g3 (Or.inr q)
      exact W.zald (v := .int (h.2.2.2.1 a j.toNatClampNeg)) X.1 X.2.1 hat ((X.2.2.2.2.1.2.2 1 .boolean rfl).1 _ _) (fun q => by cases q) (by rw [arrV_size]; exact g3) (by rw [arrV_read _ _ hlt, pm_v_i (by rw [g2]; rfl)]) rfl rfl hd kk
    · cases ho'
  · cases ho'
theorem so_iast (hd : decode cc (b i) = .ok (.iastore, 1)) (hx : b x = b i + 1) : pm_S cc nL own nm ret Y b i (pm_iast x) := by
  intro p l e R s m args below meth c Q D aC z bS X lc st h o ho'
  unfold pm_iast at ho'
  split at ho'
  · split at ho'
    · rename_i v j a st' harr
      cases ho'
      obtain ⟨g1, g2, g3⟩ := pm_arr_spec harr
      refine pm_put rfl rfl fun H locs ls kc ks hL kk => ?_
      rw [hx] at kk
      have hat := (pm_at_arr (by omega) g2).mp (hL.1.2 a g1)
      refine W.iast X.1 X.2.1 hat ((X.2.2.2.2.1.2.2 0 .int rfl).1 _ _) (fun q => by cases q) (by rw [arrV_size]; exact g3) rfl rfl hd fun H1 e1 hz oq => ?_
      refine kk H1 _ (hL.1.set rfl rfl pm_v_sA.1 hz oq ((pm_at_arr (h := pm_sA h a j.toNatClampNeg v) (t := 0) (by omega) g2).mpr ?_)) (hL.2.1.put hz oq (Nat.le_add_right z a))
      rw [e1, arrV_store, pm_v_sA.2 (by rw [g2]; rfl)]
      rfl
    · cases ho'
  · cases ho'
theorem so_zast (hd : decode cc (b i) = .ok (.bastore, 1)) (hx : b x = b i + 1) : pm_S cc nL own nm ret Y b i (pm_zast x) := by
  intro p l e R s m args below meth c Q D aC z bS X lc st h o ho'
  unfold pm_zast at ho'
  split at ho'
  · split at ho'
    · rename_i v j a st' harr
      cases ho'
      obtain ⟨g1, g2, g3⟩ := pm_arr_spec harr
      refine pm_put rfl rfl fun H locs ls kc ks hL kk => ?_
      rw [hx] at kk
      have hat := (pm_at_arr (by omega) g2).mp (hL.1.2 a g1)
      refine W.zast X.1 X.2.1 hat ((X.2.2.2.2.1.2.2 1 .boolean rfl).1 _ _) (fun q => by cases q) (by rw [arrV_size]; exact g3) rfl rfl hd fun H1 e1 hz oq => ?_
      refine kk H1 _ (hL.1.set rfl rfl pm_v_sA.1 hz oq ((pm_at_arr (h := pm_sA h a j.toNatClampNeg (v &&& 1)) (t := 1) (by omega) g2).mpr ?_)) (hL.2.1.put hz oq (Nat.le_add_right z a))
      rw [e1, arrV_store, show narrow .boolean (.int v) = .int (v &&& 1) from rfl, pm_v_sA.2 (by rw [g2]; rfl)]
      rfl
    · cases ho'
  · cases ho'
theorem so_aald {t : Nat} {C : String} (ht : pm_tg[t]? = some (.object C)) (h16 : t < 16) (hr : ∀ j, pm_rf (pm_ft t j) = true) (hd : decode cc (b i) = .ok (.aaload, 1)) (hx : b x = b i + 1) : pm_S cc nL own nm ret Y b i (pm_aald x t) := by
  intro p l e R s m args below meth c Q D aC z bS X lc st h o ho'
  unfold pm_aald at ho'
  split at ho'
  · split at ho'
    · rename_i j a st' harr
      split at ho'
      · rename_i r hrr
        cases ho'
        obtain ⟨g1, g2, g3⟩ := pm_arr_spec harr
        refine pm_keep fun H locs ls kc ks hL hkc hks kk => ?_
        have kk := kk ls hL.2.2
        rw [hx] at kk
        have hat := (pm_at_arr h16 g2).mp (hL.1.2 a g1)
        have hlt : j.toNatClampNeg < (h.2.2.1 a).2 := Nat.not_le.mp fun q => g3 (Or.inr q)
        exact W.aald (v := .ref (z + r)) (ty := .object C) X.1 X.2.1 hat ((X.2.2.2.2.1.2.2 t _ ht).1 _ _) rfl (fun q => by cases q) (by rw [arrV_size]; exact g3) (by rw [arrV_read _ _ hlt, pm_v_r (by rw [g2]; exact hr _) hrr]) rfl rfl hd kk
      · cases ho'
    · cases ho'
  · cases ho'
theorem so_aast {t ci N : Nat} {C : String} {T : u_T} (ht : pm_tg[t]? = some (.object C)) (hq : vwCl[ci]? = some (C, T, N)) (h16 : t < 16) (hr : ∀ j, pm_rf (pm_ft t j) = true) (hd : decode cc (b i) = .ok (.aastore, 1)) (hx : b x = b i + 1) : pm_S cc nL own nm ret Y b i (pm_aast x t ci) := by
  intro p l e R s m args below meth c Q D aC z bS X lc st h o ho'
  unfold pm_aast at ho'
  split at ho'
  · split at ho'
    · rename_i r j a st' harr
      cases ho'
      simp only [Bool.and_eq_true, decide_eq_true_eq, beq_iff_eq] at harr
      obtain ⟨harr, hr1, hr2⟩ := harr
      obtain ⟨g1, g2, g3⟩ := pm_arr_spec harr
      refine pm_put rfl rfl fun H locs ls kc ks hL kk => ?_
      rw [hx] at kk
      have hat := (pm_at_arr h16 g2).mp (hL.1.2 a g1)
      have hlt : j.toNatClampNeg < (h.2.2.1 a).2 := Nat.not_le.mp fun q => g3 (Or.inr q)
      obtain ⟨-, cellV, v1, v2, v3, -⟩ := (pm_at_obj hq hr2).mp (hL.1.2 r hr1)
      have hG := X.2.2.2.2.1
      have hcls := (hG.2.1 ci _ hq).2
      obtain ⟨hAr, ⟨kA, comp, k1, k2, k3, -⟩, -⟩ := hG.2.2 t _ ht
      have hcomp : comp = D.1 ci := Option.some.inj (k3.symm.trans hcls.1)
      subst hcomp
      obtain ⟨kC, hkC, -⟩ := hcls.2
      refine W.aast X.1 X.2.1 hat (fun q h => by cases h) (fun h => by cases h) k1 k2 rfl hkC ⟨fun q => g3 (Or.inl q), by rw [arrV_size]; exact hlt⟩ v1 (fun q h => by rw [v3] at h; cases h) (by rw [v2]; exact hkC) (by rw [v2]; exact va_assign hcls) rfl rfl hd fun H1 e1 hz oq => ?_
      refine kk H1 _ (hL.1.set rfl rfl pm_v_sP.1 hz oq ((pm_at_arr (h := pm_sP h a j.toNatClampNeg (some r)) (t := t) h16 g2).mpr ?_)) (hL.2.1.put hz oq (Nat.le_add_right z a))
      rw [e1, arrV_store, pm_v_sP.2 (by rw [g2]; exact hr _)]
      rfl
    · cases ho'
  · cases ho'
theorem so_alen {t : Nat} {ty : FieldType} (ht : pm_tg[t]? = some ty) (h16 : t < 16) (hd : decode cc (b i) = .ok (.arraylength, 1)) (hx : b x = b i + 1) : pm_S cc nL own nm ret Y b i (pm_alen x t) := by
  intro p l e R s m args below meth c Q D aC z bS X lc st h o ho'
  unfold pm_alen at ho'
  split at ho'
  · split at ho'
    · rename_i a st' harr
      cases ho'
      simp only [Bool.and_eq_true, decide_eq_true_eq, beq_iff_eq] at harr
      obtain ⟨g1, g2⟩ := harr
      refine pm_keep fun H locs ls kc ks hL hkc hks kk => ?_
      have kk := kk ls hL.2.2
      rw [hx] at kk
      have hat := (pm_at_arr h16 g2).mp (hL.1.2 a g1)
      exact W.alen (n := Int32.ofNat (h.2.2.1 a).2) X.1 X.2.1 hat ((X.2.2.2.2.1.2.2 t _ ht).1 _ _) (by rw [arrV_size] <;> rfl) rfl rfl hd kk
    · cases ho'
  · cases ho'
end OPF
