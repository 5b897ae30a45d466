/-! The rules once more, over heaps that are written out: 131 cells of the kinds S, ints A, references P. -/
def pm_is (S : Nat → Nat × Nat) (c t n : Nat) : Prop := c < 131 ∧ S c = (t, n)
section QR
variable {d : Nat} {Q : pm_R → Prop} {tb : Nat → Option pm_I} {pc x : Nat} {lc st : List Value} {SL : Nat} {S : Nat → Nat × Nat} {A : Nat → Nat → Int32} {P : Nat → Nat → Option Nat}
/-- a method: what it comes to -/
abbrev EE (d mid : Nat) (a : List Value) (SL : Nat) (S : Nat → Nat × Nat) (A : Nat → Nat → Int32) (P : Nat → Nat → Option Nat) (Q : pm_R → Prop) : Prop := pm_E pm_Y pm_T d mid a (131, SL, S, A, P) Q
abbrev BB (d : Nat) (tb : Nat → Option pm_I) (pc : Nat) (lc st : List Value) (SL : Nat) (S : Nat → Nat × Nat) (A : Nat → Nat → Int32) (P : Nat → Nat → Option Nat) (Q : pm_R → Prop) : Prop := pm_B pm_Y pm_T d tb (pc, lc, st, (131, SL, S, A, P)) Q
theorem q_geti {ci k n c : Nat} {v : Int32} (hf : tb pc = some (pm_geti x ci k)) (hs : pm_is S c (16 + ci) n) (hk : k < n) (hv : A c k = v) (kk : BB d tb x lc (.int v :: st) SL S A P Q) : BB d tb pc lc (.ref c :: st) SL S A P Q := r_geti hf hs.1 hs.2 hk hv kk
theorem q_getr {ci k n c v : Nat} (hf : tb pc = some (pm_getr x ci k)) (hs : pm_is S c (16 + ci) n) (hk : k < n) (hv : P c k = some v) (kk : BB d tb x lc (.ref v :: st) SL S A P Q) : BB d tb pc lc (.ref c :: st) SL S A P Q := r_getr hf hs.1 hs.2 hk hv kk
theorem q_puti {ci k n c : Nat} {v : Int32} (hf : tb pc = some (pm_puti x ci k)) (hs : pm_is S c (16 + ci) n) (hk : k < n) (kk : BB d tb x lc st SL S (pm_u A c k v) P Q) : BB d tb pc lc (.int v :: .ref c :: st) SL S A P Q := r_puti hf hs.1 hs.2 hk kk
theorem q_putz {ci k n c : Nat} {v : Int32} (hf : tb pc = some (pm_putz x ci k)) (hs : pm_is S c (16 + ci) n) (hk : k < n) (hz : v = 0 ∨ v = 1) (kk : BB d tb x lc st SL S (pm_u A c k v) P Q) : BB d tb pc lc (.int v :: .ref c :: st) SL S A P Q := r_putz hf hs.1 hs.2 hk hz kk
theorem q_putr {ci k n c v : Nat} (hf : tb pc = some (pm_putr x ci k)) (hs : pm_is S c (16 + ci) n) (hk : k < n) (kk : BB d tb x lc st SL S A (pm_u P c k (some v)) Q) : BB d tb pc lc (.ref v :: .ref c :: st) SL S A P Q := r_putr hf hs.1 hs.2 hk kk
theorem q_iald {c t n : Nat} {v i : Int32} (hf : tb pc = some (pm_iald x t)) (hs : pm_is S c t n) (j : Nat) (hi : i = nI j) (hj : j < n) (hn : n < 2 ^ 31) (hv : A c j = v) (kk : BB d tb x lc (.int v :: st) SL S A P Q) : BB d tb pc lc (.int i :: .ref c :: st) SL S A P Q := r_iald hf hs.1 hs.2 hi hj hn hv kk
theorem q_iast {c n : Nat} {v i : Int32} (hf : tb pc = some (pm_iast x)) (hs : pm_is S c 0 n) (j : Nat) (hi : i = nI j) (hj : j < n) (hn : n < 2 ^ 31) (kk : BB d tb x lc st SL S (pm_u A c j v) P Q) : BB d tb pc lc (.int v :: .int i :: .ref c :: st) SL S A P Q := r_iast hf hs.1 hs.2 hi hj hn kk
theorem q_zast {c n : Nat} {v i : Int32} (hf : tb pc = some (pm_zast x)) (hs : pm_is S c 1 n) (j : Nat) (hi : i = nI j) (hj : j < n) (hn : n < 2 ^ 31) (kk : BB d tb x lc st SL S (pm_u A c j (v &&& 1)) P Q) : BB d tb pc lc (.int v :: .int i :: .ref c :: st) SL S A P Q := r_zast hf hs.1 hs.2 hi hj hn kk
theorem q_aald {c t n v : Nat} {i : Int32} (hf : tb pc = some (pm_aald x t)) (hs : pm_is S c t n) (j : Nat) (hi : i = nI j) (hj : j < n) (hn : n < 2 ^ 31) (hv : P c j = some v) (kk : BB d tb x lc (.ref v :: st) SL S A P Q) : BB d tb pc lc (.int i :: .ref c :: st) SL S A P Q := r_aald hf hs.1 hs.2 hi hj hn hv kk
theorem q_aast {c t ci n n' v : Nat} {i : Int32} (hf : tb pc = some (pm_aast x t ci)) (hs : pm_is S c t n) (j : Nat) (hi : i = nI j) (hj : j < n) (hn : n < 2 ^ 31) (hv : pm_is S v (16 + ci) n') (kk : BB d tb x lc st SL S A (pm_u P c j (some v)) Q) : BB d tb pc lc (.ref v :: .int i :: .ref c :: st) SL S A P Q := r_aast hf hs.1 hs.2 hi hj hn hv.1 hv.2 kk
theorem q_alen {c t n : Nat} {v : Int32} (hf : tb pc = some (pm_alen x t)) (hs : pm_is S c t n) (hv : nI n = v) (kk : BB d tb x lc (.int v :: st) SL S A P Q) : BB d tb pc lc (.ref c :: st) SL S A P Q := r_alen hf hs.1 hs.2 hv kk
/-- a number on the stack gets another name -/
theorem q_top {v w : Int32} (h : v = w) (kk : BB d tb pc lc (.int w :: st) SL S A P Q) : BB d tb pc lc (.int v :: st) SL S A P Q := h ▸ kk
theorem q_lc {lc' : List Value} (h : lc = lc') (kk : BB d tb pc lc' st SL S A P Q) : BB d tb pc lc st SL S A P Q := h ▸ kk
/-- calls; the receiver's kind is asked for -/
theorem q_callv {m n ci k n0 : Nat} {a : List Value} {Qc : pm_R → Prop} (hf : tb pc = some (pm_callv x m n ci)) (hs : pm_is S k (16 + ci) n0) (ha : (st.take n).reverse = .ref k :: a) (hn : n ≤ st.length) (hcat : pm_cat (st.drop n) ≤ 8) (hc : EE d m (.ref k :: a) SL S A P Qc) (kk : ∀ (h1 : pm_H) (v : Option Value), Qc (h1, v) → pm_B pm_Y pm_T (d + 1) tb (x, lc, v.toList ++ st.drop n, h1) Q) : BB (d + 1) tb pc lc st SL S A P Q := by
  refine pm_B.call hf ?_ hc kk
  simp [pm_callv, pm_calls, ha, hs.1, hs.2, hn, hcat]
theorem q_calls {m n : Nat} {a : List Value} {Qc : pm_R → Prop} (hf : tb pc = some (pm_calls x m n)) (ha : (st.take n).reverse = a) (hn : n ≤ st.length) (hcat : pm_cat (st.drop n) ≤ 8) (hc : EE d m a SL S A P Qc) (kk : ∀ (h1 : pm_H) (v : Option Value), Qc (h1, v) → pm_B pm_Y pm_T (d + 1) tb (x, lc, v.toList ++ st.drop n, h1) Q) : BB (d + 1) tb pc lc st SL S A P Q := by
  refine pm_B.call hf ?_ hc kk
  simp [pm_calls, ha, hn, hcat]
/-- calls of methods whose end is known exactly -/
theorem q_cv {m n ci k n0 : Nat} {a : List Value} {A' : Nat → Nat → Int32} {P' : Nat → Nat → Option Nat} {v : Option Value} (hf : tb pc = some (pm_callv x m n ci)) (hs : pm_is S k (16 + ci) n0) (ha : (st.take n).reverse = .ref k :: a) (hn : n ≤ st.length) (hcat : pm_cat (st.drop n) ≤ 8) (hc : EE d m (.ref k :: a) SL S A P (fun r => r = ((131, SL, S, A', P'), v))) (kk : BB (d + 1) tb x lc (v.toList ++ st.drop n) SL S A' P' Q) : BB (d + 1) tb pc lc st SL S A P Q := by
  refine q_callv hf hs ha hn hcat hc (fun h1 v1 e => ?_)
  cases e
  exact kk
theorem q_cs {m n : Nat} {a : List Value} {A' : Nat → Nat → Int32} {P' : Nat → Nat → Option Nat} {v : Option Value} (hf : tb pc = some (pm_calls x m n)) (ha : (st.take n).reverse = a) (hn : n ≤ st.length) (hcat : pm_cat (st.drop n) ≤ 8) (hc : EE d m a SL S A P (fun r => r = ((131, SL, S, A', P'), v))) (kk : BB (d + 1) tb x lc (v.toList ++ st.drop n) SL S A' P' Q) : BB (d + 1) tb pc lc st SL S A P Q := by
  refine q_calls hf ha hn hcat hc (fun h1 v1 e => ?_)
  cases e
  exact kk
/-- a method's start: its cells stay in number -/
theorem q_of {mid : Nat} {a : List Value} (hT : pm_T mid = tb) (ha : a.all pm_ok = true) (hl : a.length ≤ (pm_Y mid).2.2.1) (kk : BB d tb 0 (a ++ List.replicate ((pm_Y mid).2.2.1 - a.length) .null) [] SL S A P (fun r => (131 ≤ r.1.1 ∧ SL ≤ r.1.2.1) ∧ Q r)) : EE d mid a SL S A P Q := pm_E.of hT ha hl kk
theorem q_iret {v : Int32} (hf : tb pc = some pm_iret) (hQ : Q ((131, SL, S, A, P), some (.int v))) : BB d tb pc lc [.int v] SL S A P (fun r => (131 ≤ r.1.1 ∧ SL ≤ r.1.2.1) ∧ Q r) := pm_B.ret hf rfl ⟨⟨Nat.le_refl _, Nat.le_refl _⟩, hQ⟩
theorem q_vret (hf : tb pc = some pm_vret) (hQ : Q ((131, SL, S, A, P), none)) : BB d tb pc lc [] SL S A P (fun r => (131 ≤ r.1.1 ∧ SL ≤ r.1.2.1) ∧ Q r) := pm_B.ret hf rfl ⟨⟨Nat.le_refl _, Nat.le_refl _⟩, hQ⟩
theorem q_aret {v : Nat} (hf : tb pc = some pm_aret) (hQ : Q ((131, SL, S, A, P), some (.ref v))) : BB d tb pc lc [.ref v] SL S A P (fun r => (131 ≤ r.1.1 ∧ SL ≤ r.1.2.1) ∧ Q r) := pm_B.ret hf rfl ⟨⟨Nat.le_refl _, Nat.le_refl _⟩, hQ⟩
theorem q_zret {v : Int32} (hf : tb pc = some pm_zret) (hz : v = 0 ∨ v = 1) (hQ : Q ((131, SL, S, A, P), some (.int v))) : BB d tb pc lc [.int v] SL S A P (fun r => (131 ≤ r.1.1 ∧ SL ≤ r.1.2.1) ∧ Q r) := by
  refine pm_B.ret hf ?_ ⟨⟨Nat.le_refl _, Nat.le_refl _⟩, hQ⟩
  rcases hz with rfl | rfl <;> rfl
end QR
