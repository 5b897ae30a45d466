/-! Runs of the pure machine, instruction by instruction: pm_E, a method comes to an end with Q; pm_B, its body does from a place on. -/
def pm_cl (Y : Nat → pm_N) (T : Nat → Nat → Option pm_I) (N : Nat) : Nat → Nat → List Value → pm_H → Option pm_R
  | 0 => fun _ _ _ => none
  | d + 1 => pm_run Y T N d
def pm_E (Y : Nat → pm_N) (T : Nat → Nat → Option pm_I) (d mid : Nat) (a : List Value) (h : pm_H) (Q : pm_R → Prop) : Prop := ∃ N r, pm_run Y T N d mid a h = some r ∧ Q r
def pm_B (Y : Nat → pm_N) (T : Nat → Nat → Option pm_I) (d : Nat) (tb : Nat → Option pm_I) (q : pm_C) (Q : pm_R → Prop) : Prop := ∃ N n r, pm_ex (pm_cl Y T N d) tb n q = some r ∧ Q r
section RULES
variable {Y : Nat → pm_N} {T : Nat → Nat → Option pm_I} {d mid : Nat} {Q : pm_R → Prop} {tb : Nat → Option pm_I}
theorem pm_run_cl (N d : Nat) : pm_run Y T N d = pm_go Y T N (pm_cl Y T N d) := by cases d <;> rfl
theorem pm_go_mono {call call' : Nat → List Value → pm_H → Option pm_R} (hc : ∀ m a h r, call m a h = some r → call' m a h = some r) {N N' : Nat} (hN : N ≤ N') {m : Nat} {a : List Value} {h : pm_H} {r : pm_R} (hr : pm_go Y T N call m a h = some r) : pm_go Y T N' call' m a h = some r := by
  obtain ⟨h1, h2, h3, h4, h5⟩ := pm_go_spec hr
  have h6 := pm_ex_mono hc N N' _ _ hN h3
  unfold pm_go
  simp only [h1, h2, h6, h4, h5, decide_true, Bool.and_self, if_true]
theorem pm_cl_mono {N N' : Nat} (hN : N ≤ N') : ∀ (d m : Nat) (a : List Value) (h : pm_H) (r : pm_R), pm_cl Y T N d m a h = some r → pm_cl Y T N' d m a h = some r := by
  intro d
  induction d with
  | zero => intro m a h r q; cases q
  | succ d ih =>
    intro m a h r q
    have q1 : pm_run Y T N d m a h = some r := q
    show pm_run Y T N' d m a h = some r
    rw [pm_run_cl] at q1 ⊢
    exact pm_go_mono ih hN q1
theorem pm_cl_up {N : Nat} : ∀ (d m : Nat) (a : List Value) (h : pm_H) (r : pm_R), pm_cl Y T N d m a h = some r → pm_cl Y T N (d + 1) m a h = some r := by
  intro d
  induction d with
  | zero => intro m a h r q; cases q
  | succ d ih =>
    intro m a h r q
    have q1 : pm_run Y T N d m a h = some r := q
    show pm_run Y T N (d + 1) m a h = some r
    rw [pm_run_cl] at q1 ⊢
    exact pm_go_mono ih (Nat.le_refl _) q1
theorem pm_E.up {m : Nat} {a : List Value} {h : pm_H} (k : pm_E Y T d m a h Q) : pm_E Y T (d + 1) m a h Q := by
  obtain ⟨N, r, hN, hQ⟩ := k
  exact ⟨N, r, pm_cl_up (d + 1) m a h r hN, hQ⟩
theorem pm_E.ups {m d' : Nat} {a : List Value} {h : pm_H} (k : pm_E Y T d m a h Q) (hd : d ≤ d') : pm_E Y T d' m a h Q := by
  obtain ⟨e, rfl⟩ : ∃ e, d' = d + e := ⟨d' - d, by omega⟩
  clear hd
  induction e with
  | zero => exact k
  | succ e ih => exact ih.up
theorem pm_E.weaken {m : Nat} {a : List Value} {h : pm_H} {Q' : pm_R → Prop} (k : pm_E Y T d m a h Q) (hq : ∀ r, Q r → Q' r) : pm_E Y T d m a h Q' := by
  obtain ⟨N, r, hN, hQ⟩ := k
  exact ⟨N, r, hN, hq r hQ⟩
theorem pm_E.of {a : List Value} {h : pm_H} (hT : T mid = tb) (ha : a.all pm_ok = true) (hl : a.length ≤ (Y mid).2.2.1) (k : pm_B Y T d tb (0, a ++ List.replicate ((Y mid).2.2.1 - a.length) .null, [], h) (fun r => (h.1 ≤ r.1.1 ∧ h.2.1 ≤ r.1.2.1) ∧ Q r)) : pm_E Y T d mid a h Q := by
  subst hT
  obtain ⟨N, n, r, k, ⟨h1, h2⟩, hQ⟩ := k
  refine ⟨max N n, r, ?_, hQ⟩
  have k2 := pm_ex_mono (pm_cl_mono (Nat.le_max_left N n) d) n (max N n) _ _ (Nat.le_max_right N n) k
  rw [pm_run_cl]
  unfold pm_go
  simp only [ha, hl, k2, h1, h2, decide_true, Bool.and_self, if_true]
variable {pc x : Nat} {lc st : List Value} {h : pm_H} {f : pm_I}
theorem pm_B.weaken {q : pm_C} {Q' : pm_R → Prop} (k : pm_B Y T d tb q Q) (hq : ∀ r, Q r → Q' r) : pm_B Y T d tb q Q' := by
  obtain ⟨N, n, r, hN, hQ⟩ := k
  exact ⟨N, n, r, hN, hq r hQ⟩
theorem pm_B.next {q : pm_C} (hf : tb pc = some f) (hq : f lc st h = some (.inr (.inl q))) (k : pm_B Y T d tb q Q) : pm_B Y T d tb (pc, lc, st, h) Q := by
  obtain ⟨N, n, r, k, hQ⟩ := k
  refine ⟨N, n + 1, r, ?_, hQ⟩
  simp only [pm_ex, hf, hq]
  exact k
theorem pm_B.ret {r : pm_R} (hf : tb pc = some f) (hq : f lc st h = some (.inl r)) (hQ : Q r) : pm_B Y T d tb (pc, lc, st, h) Q := by
  refine ⟨0, 1, r, ?_, hQ⟩
  simp only [pm_ex, hf, hq]
theorem pm_B.call {m : Nat} {a : List Value} {lc' st' : List Value} {Qc : pm_R → Prop} (hf : tb pc = some f) (hq : f lc st h = some (.inr (.inr (m, a, (x, lc', st', h))))) (hc : pm_E Y T d m a h Qc) (k : ∀ (h1 : pm_H) (v : Option Value), Qc (h1, v) → pm_B Y T (d + 1) tb (x, lc', v.toList ++ st', h1) Q) : pm_B Y T (d + 1) tb (pc, lc, st, h) Q := by
  obtain ⟨N', r', hc, hQc⟩ := hc
  obtain ⟨h1, v⟩ := r'
  obtain ⟨N, n, r, k, hQ⟩ := k h1 v hQc
  refine ⟨max N N', n + 1, r, ?_, hQ⟩
  have k2 := pm_ex_mono (pm_cl_mono (Nat.le_max_left N N') (d + 1)) n n _ _ (Nat.le_refl _) k
  have c2 : pm_cl Y T (max N N') (d + 1) m a h = some (h1, v) := pm_cl_mono (Nat.le_max_right N N') (d + 1) m a h (h1, v) hc
  simp only [pm_ex, hf, hq, c2]
  exact k2
theorem r_geti {ci k n c : Nat} {v : Int32} (hf : tb pc = some (pm_geti x ci k)) (hc : c < h.1) (hs : h.2.2.1 c = (16 + ci, n)) (hk : k < n) (hv : h.2.2.2.1 c k = v) (kk : pm_B Y T d tb (x, lc, .int v :: st, h) Q) : pm_B Y T d tb (pc, lc, .ref c :: st, h) Q := by
  refine pm_B.next hf ?_ kk
  simp [pm_geti, pm_obj, hc, hs, hk, pm_nx, hv]
theorem r_getr {ci k n c v : Nat} (hf : tb pc = some (pm_getr x ci k)) (hc : c < h.1) (hs : h.2.2.1 c = (16 + ci, n)) (hk : k < n) (hv : h.2.2.2.2 c k = some v) (kk : pm_B Y T d tb (x, lc, .ref v :: st, h) Q) : pm_B Y T d tb (pc, lc, .ref c :: st, h) Q := by
  refine pm_B.next hf ?_ kk
  simp [pm_getr, pm_obj, hc, hs, hk, pm_nx, hv]
theorem r_puti {ci k n c : Nat} {v : Int32} (hf : tb pc = some (pm_puti x ci k)) (hc : c < h.1) (hs : h.2.2.1 c = (16 + ci, n)) (hk : k < n) (kk : pm_B Y T d tb (x, lc, st, pm_sA h c k v) Q) : pm_B Y T d tb (pc, lc, .int v :: .ref c :: st, h) Q := by
  refine pm_B.next hf ?_ kk
  simp [pm_puti, pm_obj, hc, hs, hk, pm_nx]
theorem r_putz {ci k n c : Nat} {v : Int32} (hf : tb pc = some (pm_putz x ci k)) (hc : c < h.1) (hs : h.2.2.1 c = (16 + ci, n)) (hk : k < n) (hz : v = 0 ∨ v = 1) (kk : pm_B Y T d tb (x, lc, st, pm_sA h c k v) Q) : pm_B Y T d tb (pc, lc, .int v :: .ref c :: st, h) Q := by
  refine pm_B.next hf ?_ kk
  simp [pm_putz, pm_obj, hc, hs, hk, pm_nx, hz]
theorem r_putr {ci k n c v : Nat} (hf : tb pc = some (pm_putr x ci k)) (hc : c < h.1) (hs : h.2.2.1 c = (16 + ci, n)) (hk : k < n) (kk : pm_B Y T d tb (x, lc, st, pm_sP h c k (some v)) Q) : pm_B Y T d tb (pc, lc, .ref v :: .ref c :: st, h) Q := by
  refine pm_B.next hf ?_ kk
  simp [pm_putr, pm_obj, hc, hs, hk, pm_nx]
theorem pm_arr_ok {c t n j : Nat} {i : Int32} (hc : c < h.1) (hs : h.2.2.1 c = (t, n)) (hi : i = nI j) (hj : j < n) (hn : n < 2 ^ 31) : pm_arr h c t i = true ∧ i.toNatClampNeg = j := by
  subst hi
  have h1 := nI_clamp (n := j) (by omega)
  have h2 := nI_pos (n := j) (by omega)
  refine ⟨?_, h1⟩
  have h3 : ¬ n ≤ j := by omega
  simp [pm_arr, hc, hs, h1, h2, h3]
theorem r_iald {c t n j : Nat} {i v : Int32} (hf : tb pc = some (pm_iald x t)) (hc : c < h.1) (hs : h.2.2.1 c = (t, n)) (hi : i = nI j) (hj : j < n) (hn : n < 2 ^ 31) (hv : h.2.2.2.1 c j = v) (kk : pm_B Y T d tb (x, lc, .int v :: st, h) Q) : pm_B Y T d tb (pc, lc, .int i :: .ref c :: st, h) Q := by
  obtain ⟨h1, h2⟩ := pm_arr_ok hc hs hi hj hn
  refine pm_B.next hf ?_ kk
  simp [pm_iald, h1, h2, pm_nx, hv]
theorem r_iast {c n j : Nat} {i v : Int32} (hf : tb pc = some (pm_iast x)) (hc : c < h.1) (hs : h.2.2.1 c = (0, n)) (hi : i = nI j) (hj : j < n) (hn : n < 2 ^ 31) (kk : pm_B Y T d tb (x, lc, st, pm_sA h c j v) Q) : pm_B Y T d tb (pc, lc, .int v :: .int i :: .ref c :: st, h) Q := by
  obtain ⟨h1, h2⟩ := pm_arr_ok hc hs hi hj hn
  refine pm_B.next hf ?_ kk
  simp [pm_iast, h1, h2, pm_nx]
theorem r_zast {c n j : Nat} {i v : Int32} (hf : tb pc = some (pm_zast x)) (hc : c < h.1) (hs : h.2.2.1 c = (1, n)) (hi : i = nI j) (hj : j < n) (hn : n < 2 ^ 31) (kk : pm_B Y T d tb (x, lc, st, pm_sA h c j (v &&& 1)) Q) : pm_B Y T d tb (pc, lc, .int v :: .int i :: .ref c :: st, h) Q := by
  obtain ⟨h1, h2⟩ := pm_arr_ok hc hs hi hj hn
  refine pm_B.next hf ?_ kk
  simp [pm_zast, h1, h2, pm_nx]
theorem r_aald {c t n j v : Nat} {i : Int32} (hf : tb pc = some (pm_aald x t)) (hc : c < h.1) (hs : h.2.2.1 c = (t, n)) (hi : i = nI j) (hj : j < n) (hn : n < 2 ^ 31) (hv : h.2.2.2.2 c j = some v) (kk : pm_B Y T d tb (x, lc, .ref v :: st, h) Q) : pm_B Y T d tb (pc, lc, .int i :: .ref c :: st, h) Q := by
  obtain ⟨h1, h2⟩ := pm_arr_ok hc hs hi hj hn
  refine pm_B.next hf ?_ kk
  simp [pm_aald, h1, h2, pm_nx, hv]
theorem r_aast {c t ci n j v n' : Nat} {i : Int32} (hf : tb pc = some (pm_aast x t ci)) (hc : c < h.1) (hs : h.2.2.1 c = (t, n)) (hi : i = nI j) (hj : j < n) (hn : n < 2 ^ 31) (hv : v < h.1) (hvs : h.2.2.1 v = (16 + ci, n')) (kk : pm_B Y T d tb (x, lc, st, pm_sP h c j (some v)) Q) : pm_B Y T d tb (pc, lc, .ref v :: .int i :: .ref c :: st, h) Q := by
  obtain ⟨h1, h2⟩ := pm_arr_ok hc hs hi hj hn
  refine pm_B.next hf ?_ kk
  simp [pm_aast, h1, h2, pm_nx, hv, hvs]
theorem r_alen {c t n : Nat} {v : Int32} (hf : tb pc = some (pm_alen x t)) (hc : c < h.1) (hs : h.2.2.1 c = (t, n)) (hv : nI n = v) (kk : pm_B Y T d tb (x, lc, .int v :: st, h) Q) : pm_B Y T d tb (pc, lc, .ref c :: st, h) Q := by
  refine pm_B.next hf ?_ kk
  subst hv
  simp [pm_alen, hc, hs, pm_nx, nI]
theorem r_icT {t : Nat} {q : Int32 → Int32 → Bool} {u w : Int32} (hf : tb pc = some (pm_icmp t x q)) (hq : q u w = true) (kk : pm_B Y T d tb (t, lc, st, h) Q) : pm_B Y T d tb (pc, lc, .int w :: .int u :: st, h) Q := by
  refine pm_B.next hf ?_ kk
  simp only [pm_icmp, hq, if_true]
  rfl
theorem r_icF {t : Nat} {q : Int32 → Int32 → Bool} {u w : Int32} (hf : tb pc = some (pm_icmp t x q)) (hq : q u w = false) (kk : pm_B Y T d tb (x, lc, st, h) Q) : pm_B Y T d tb (pc, lc, .int w :: .int u :: st, h) Q := by
  refine pm_B.next hf ?_ kk
  simp only [pm_icmp, hq]
  rfl
theorem r_ifT {t : Nat} {q : Int32 → Bool} {u : Int32} (hf : tb pc = some (pm_if t x q)) (hq : q u = true) (kk : pm_B Y T d tb (t, lc, st, h) Q) : pm_B Y T d tb (pc, lc, .int u :: st, h) Q := by
  refine pm_B.next hf ?_ kk
  simp only [pm_if, hq, if_true]
  rfl
theorem r_ifF {t : Nat} {q : Int32 → Bool} {u : Int32} (hf : tb pc = some (pm_if t x q)) (hq : q u = false) (kk : pm_B Y T d tb (x, lc, st, h) Q) : pm_B Y T d tb (pc, lc, .int u :: st, h) Q := by
  refine pm_B.next hf ?_ kk
  simp only [pm_if, hq]
  rfl
theorem r_ic {t : Nat} {q : Int32 → Int32 → Bool} {u w : Int32} (hf : tb pc = some (pm_icmp t x q)) (k1 : q u w = true → pm_B Y T d tb (t, lc, st, h) Q) (k2 : q u w = false → pm_B Y T d tb (x, lc, st, h) Q) : pm_B Y T d tb (pc, lc, .int w :: .int u :: st, h) Q := by
  cases hq : q u w with
  | true => exact r_icT hf hq (k1 hq)
  | false => exact r_icF hf hq (k2 hq)
theorem r_if {t : Nat} {q : Int32 → Bool} {u : Int32} (hf : tb pc = some (pm_if t x q)) (k1 : q u = true → pm_B Y T d tb (t, lc, st, h) Q) (k2 : q u = false → pm_B Y T d tb (x, lc, st, h) Q) : pm_B Y T d tb (pc, lc, .int u :: st, h) Q := by
  cases hq : q u with
  | true => exact r_ifT hf hq (k1 hq)
  | false => exact r_ifF hf hq (k2 hq)
end RULES
