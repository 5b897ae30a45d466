section INV
/-- step k is known at x -/
def kn (A : Nat → Nat → Int32) (x : Int32) (k : Nat) : Prop := ∃ j, j < 4000 ∧ x = nI j ∧ (k = j ∨ bfr A j k)
/-- row e is the clock of what is known at x -/
def ck (A : Nat → Nat → Int32) (st : Nat) (TH : Nat → Nat) (e : Nat) (x : Int32) : Prop := ∀ u, u < 6 → ∃ c, c ≤ st ∧ A e u = nI c ∧ ∀ k, k < st → TH k = u → (kn A x k ↔ k < c)
/-- how many blocks of lock l are among these -/
def cs (ks ns : Nat → Int32) (l : Nat) : List Nat → Nat
  | [] => 0
  | o :: r => cs ks ns l r + (if ks o = 4 ∧ ns o = nI l then 1 else 0)
def sm (f : Nat → Nat) : Nat → Nat
  | 0 => 0
  | n + 1 => sm f n + f n
def ct (A : Nat → Nat → Int32) (FB FP : Nat → Nat) (D l : Nat) : Nat := sm (fun j => cs (KS A (FB j)) (NS A (FB j)) l (bk_st (KS A (FB j)) (FP j))) D
def tot (A : Nat → Nat → Int32) (FB FP : Nat → Nat → Nat) (D : Nat → Nat) (T l : Nat) : Nat := sm (fun t => ct A (FB t) (FP t) (D t) l) T
/-- the threads -/
def IT (n : Nat) (SZ : Nat → Nat) (T st : Nat) (D : Nat → Nat) (FB FP : Nat → Nat → Nat) (A : Nat → Nat → Int32) : Prop :=
  (T ≤ 6) ∧
  (A 49 5 = nI T) ∧
  (A 111 11 = nI T) ∧
  (A 111 6 = if T = 0 then 0 else 1) ∧
  (∀ t, t < 6 → A (55 + 4 * t) 0 = nI t) ∧
  (st ≤ 4000) ∧
  (A 49 6 = nI st) ∧
  (A 111 17 = nI st) ∧
  (∀ t, t < T → A (55 + 4 * t) 5 = A 121 t) ∧
  (∀ t, t < T → D t ≤ 8 ∧ A (55 + 4 * t) 4 = nI (D t) ∧ A 122 t = nI (D t)) ∧
  (∀ t, t < T → ∀ j, j < D t → FB t j < n ∧ FP t j ≤ SZ (FB t j) ∧ A (56 + 4 * t) j = nI (FB t j) ∧ A 123 (8 * t + j) = nI (FB t j) ∧ A (57 + 4 * t) j = nI (FP t j) ∧ A 124 (8 * t + j) = nI (FP t j)) ∧
  (∀ t, t < T → ∀ j, D t = j + 1 → FP t j < SZ (FB t j)) ∧
  (∀ c, c < 8 → A (87 + 3 * c) 2 = A 117 c) ∧
  (T = 0 → ∀ c, c < 8 → A 117 c = 0)
theorem IT.T6 {n : Nat} {SZ : Nat → Nat} {T st : Nat} {D : Nat → Nat} {FB FP : Nat → Nat → Nat} {A : Nat → Nat → Int32} (h : IT n SZ T st D FB FP A) : T ≤ 6 := h.1
theorem IT.cT {n : Nat} {SZ : Nat → Nat} {T st : Nat} {D : Nat → Nat} {FB FP : Nat → Nat → Nat} {A : Nat → Nat → Int32} (h : IT n SZ T st D FB FP A) : A 49 5 = nI T := h.2.1
theorem IT.mT {n : Nat} {SZ : Nat → Nat} {T st : Nat} {D : Nat → Nat} {FB FP : Nat → Nat → Nat} {A : Nat → Nat → Int32} (h : IT n SZ T st D FB FP A) : A 111 11 = nI T := h.2.2.1
theorem IT.run {n : Nat} {SZ : Nat → Nat} {T st : Nat} {D : Nat → Nat} {FB FP : Nat → Nat → Nat} {A : Nat → Nat → Int32} (h : IT n SZ T st D FB FP A) : A 111 6 = if T = 0 then 0 else 1 := h.2.2.2.1
theorem IT.num {n : Nat} {SZ : Nat → Nat} {T st : Nat} {D : Nat → Nat} {FB FP : Nat → Nat → Nat} {A : Nat → Nat → Int32} (h : IT n SZ T st D FB FP A) : ∀ t, t < 6 → A (55 + 4 * t) 0 = nI t := h.2.2.2.2.1
theorem IT.st4 {n : Nat} {SZ : Nat → Nat} {T st : Nat} {D : Nat → Nat} {FB FP : Nat → Nat → Nat} {A : Nat → Nat → Int32} (h : IT n SZ T st D FB FP A) : st ≤ 4000 := h.2.2.2.2.2.1
theorem IT.cst {n : Nat} {SZ : Nat → Nat} {T st : Nat} {D : Nat → Nat} {FB FP : Nat → Nat → Nat} {A : Nat → Nat → Int32} (h : IT n SZ T st D FB FP A) : A 49 6 = nI st := h.2.2.2.2.2.2.1
theorem IT.mst {n : Nat} {SZ : Nat → Nat} {T st : Nat} {D : Nat → Nat} {FB FP : Nat → Nat → Nat} {A : Nat → Nat → Int32} (h : IT n SZ T st D FB FP A) : A 111 17 = nI st := h.2.2.2.2.2.2.2.1
theorem IT.val {n : Nat} {SZ : Nat → Nat} {T st : Nat} {D : Nat → Nat} {FB FP : Nat → Nat → Nat} {A : Nat → Nat → Int32} (h : IT n SZ T st D FB FP A) : ∀ t, t < T → A (55 + 4 * t) 5 = A 121 t := h.2.2.2.2.2.2.2.2.1
theorem IT.dep {n : Nat} {SZ : Nat → Nat} {T st : Nat} {D : Nat → Nat} {FB FP : Nat → Nat → Nat} {A : Nat → Nat → Int32} (h : IT n SZ T st D FB FP A) : ∀ t, t < T → D t ≤ 8 ∧ A (55 + 4 * t) 4 = nI (D t) ∧ A 122 t = nI (D t) := h.2.2.2.2.2.2.2.2.2.1
theorem IT.frm {n : Nat} {SZ : Nat → Nat} {T st : Nat} {D : Nat → Nat} {FB FP : Nat → Nat → Nat} {A : Nat → Nat → Int32} (h : IT n SZ T st D FB FP A) : ∀ t, t < T → ∀ j, j < D t → FB t j < n ∧ FP t j ≤ SZ (FB t j) ∧ A (56 + 4 * t) j = nI (FB t j) ∧ A 123 (8 * t + j) = nI (FB t j) ∧ A (57 + 4 * t) j = nI (FP t j) ∧ A 124 (8 * t + j) = nI (FP t j) := h.2.2.2.2.2.2.2.2.2.2.1
theorem IT.top {n : Nat} {SZ : Nat → Nat} {T st : Nat} {D : Nat → Nat} {FB FP : Nat → Nat → Nat} {A : Nat → Nat → Int32} (h : IT n SZ T st D FB FP A) : ∀ t, t < T → ∀ j, D t = j + 1 → FP t j < SZ (FB t j) := h.2.2.2.2.2.2.2.2.2.2.2.1
theorem IT.cel {n : Nat} {SZ : Nat → Nat} {T st : Nat} {D : Nat → Nat} {FB FP : Nat → Nat → Nat} {A : Nat → Nat → Int32} (h : IT n SZ T st D FB FP A) : ∀ c, c < 8 → A (87 + 3 * c) 2 = A 117 c := h.2.2.2.2.2.2.2.2.2.2.2.2.1
theorem IT.ce0 {n : Nat} {SZ : Nat → Nat} {T st : Nat} {D : Nat → Nat} {FB FP : Nat → Nat → Nat} {A : Nat → Nat → Int32} (h : IT n SZ T st D FB FP A) : T = 0 → ∀ c, c < 8 → A 117 c = 0 := h.2.2.2.2.2.2.2.2.2.2.2.2.2
/-- the locks -/
def IL (T : Nat) (D : Nat → Nat) (FB FP : Nat → Nat → Nat) (TM : Nat → Nat) (A : Nat → Nat → Int32) : Prop :=
  (T = 0 → ∀ l, l < 4 → A (79 + 2 * l) 1 = -1) ∧
  (T ≠ 0 → ∀ l, l < 4 → A (79 + 2 * l) 1 = A 118 l ∧ A (79 + 2 * l) 2 = nI (TM l) ∧ A 119 l = nI (TM l) ∧ TM l = tot A FB FP D T l ∧ ((TM l = 0 ∧ A 118 l = -1) ∨ (TM l ≠ 0 ∧ ∃ t, t < T ∧ A 118 l = nI t)))
theorem IL.lk0 {T : Nat} {D : Nat → Nat} {FB FP : Nat → Nat → Nat} {TM : Nat → Nat} {A : Nat → Nat → Int32} (h : IL T D FB FP TM A) : T = 0 → ∀ l, l < 4 → A (79 + 2 * l) 1 = -1 := h.1
theorem IL.lks {T : Nat} {D : Nat → Nat} {FB FP : Nat → Nat → Nat} {TM : Nat → Nat} {A : Nat → Nat → Int32} (h : IL T D FB FP TM A) : T ≠ 0 → ∀ l, l < 4 → A (79 + 2 * l) 1 = A 118 l ∧ A (79 + 2 * l) 2 = nI (TM l) ∧ A 119 l = nI (TM l) ∧ TM l = tot A FB FP D T l ∧ ((TM l = 0 ∧ A 118 l = -1) ∨ (TM l ≠ 0 ∧ ∃ t, t < T ∧ A 118 l = nI t)) := h.2
/-- the clocks -/
def IK (T st : Nat) (TH : Nat → Nat) (A : Nat → Nat → Int32) : Prop :=
  (∀ k, k < st → TH k < T) ∧
  (∀ k, k < st → edb A k) ∧
  (∀ t, t < T → A 125 t = -1 ∨ ∃ j, j < st ∧ A 125 t = nI j) ∧
  (T ≠ 0 → ∀ l, l < 4 → A 120 l = -1 ∨ ∃ j, j < st ∧ A 120 l = nI j) ∧
  (∀ t, t < T → ∀ k, k < st → TH k = t → kn A (A 125 t) k) ∧
  (∀ t, t < T → ck A st TH (58 + 4 * t) (A 125 t)) ∧
  (T ≠ 0 → ∀ l, l < 4 → ck A st TH (80 + 2 * l) (A 120 l))
theorem IK.thr {T st : Nat} {TH : Nat → Nat} {A : Nat → Nat → Int32} (h : IK T st TH A) : ∀ k, k < st → TH k < T := h.1
theorem IK.edg {T st : Nat} {TH : Nat → Nat} {A : Nat → Nat → Int32} (h : IK T st TH A) : ∀ k, k < st → edb A k := h.2.1
theorem IK.lat {T st : Nat} {TH : Nat → Nat} {A : Nat → Nat → Int32} (h : IK T st TH A) : ∀ t, t < T → A 125 t = -1 ∨ ∃ j, j < st ∧ A 125 t = nI j := h.2.2.1
theorem IK.fre {T st : Nat} {TH : Nat → Nat} {A : Nat → Nat → Int32} (h : IK T st TH A) : T ≠ 0 → ∀ l, l < 4 → A 120 l = -1 ∨ ∃ j, j < st ∧ A 120 l = nI j := h.2.2.2.1
theorem IK.own {T st : Nat} {TH : Nat → Nat} {A : Nat → Nat → Int32} (h : IK T st TH A) : ∀ t, t < T → ∀ k, k < st → TH k = t → kn A (A 125 t) k := h.2.2.2.2.1
theorem IK.ckt {T st : Nat} {TH : Nat → Nat} {A : Nat → Nat → Int32} (h : IK T st TH A) : ∀ t, t < T → ck A st TH (58 + 4 * t) (A 125 t) := h.2.2.2.2.2.1
theorem IK.ckl {T st : Nat} {TH : Nat → Nat} {A : Nat → Nat → Int32} (h : IK T st TH A) : T ≠ 0 → ∀ l, l < 4 → ck A st TH (80 + 2 * l) (A 120 l) := h.2.2.2.2.2.2
/-- the accesses and the races -/
def IA (st rc : Nat) (TH : Nat → Nat) (A : Nat → Nat → Int32) : Prop :=
  (rc ≤ st) ∧
  (A 53 1 = nI rc) ∧
  (A 111 22 = nI rc) ∧
  (∀ k, k < st → A 128 k = -1 ∨ ∃ c w, c < 8 ∧ w < 2 ∧ A 128 k = nI (16 * TH k + 2 * c + w)) ∧
  (∀ c, c < 8 → ∀ w, w < 2 → ∀ u, u < 6 → ∃ r, r ≤ st ∧ A (88 + 3 * c + w) u = nI r ∧ (∀ k, k < st → TH k = u → A 128 k = nI (16 * u + 2 * c + w) → k < r) ∧ (r ≠ 0 → TH (r - 1) = u ∧ A 128 (r - 1) = nI (16 * u + 2 * c + w))) ∧
  (∀ j, j < rc → j < 64 → ∃ k τ c w, k < st ∧ τ < 6 ∧ c < 8 ∧ w < 2 ∧ A 130 j = nI k ∧ A 128 k = nI (16 * τ + 2 * c + w) ∧ A 54 (4 * j) = nI k ∧ A 54 (4 * j + 1) = nI τ ∧ A 54 (4 * j + 2) = nI c ∧ A 54 (4 * j + 3) = nI w)
theorem IA.rcs {st rc : Nat} {TH : Nat → Nat} {A : Nat → Nat → Int32} (h : IA st rc TH A) : rc ≤ st := h.1
theorem IA.crc {st rc : Nat} {TH : Nat → Nat} {A : Nat → Nat → Int32} (h : IA st rc TH A) : A 53 1 = nI rc := h.2.1
theorem IA.mrc {st rc : Nat} {TH : Nat → Nat} {A : Nat → Nat → Int32} (h : IA st rc TH A) : A 111 22 = nI rc := h.2.2.1
theorem IA.acs {st rc : Nat} {TH : Nat → Nat} {A : Nat → Nat → Int32} (h : IA st rc TH A) : ∀ k, k < st → A 128 k = -1 ∨ ∃ c w, c < 8 ∧ w < 2 ∧ A 128 k = nI (16 * TH k + 2 * c + w) := h.2.2.2.1
theorem IA.rws {st rc : Nat} {TH : Nat → Nat} {A : Nat → Nat → Int32} (h : IA st rc TH A) : ∀ c, c < 8 → ∀ w, w < 2 → ∀ u, u < 6 → ∃ r, r ≤ st ∧ A (88 + 3 * c + w) u = nI r ∧ (∀ k, k < st → TH k = u → A 128 k = nI (16 * u + 2 * c + w) → k < r) ∧ (r ≠ 0 → TH (r - 1) = u ∧ A 128 (r - 1) = nI (16 * u + 2 * c + w)) := h.2.2.2.2.1
theorem IA.log {st rc : Nat} {TH : Nat → Nat} {A : Nat → Nat → Int32} (h : IA st rc TH A) : ∀ j, j < rc → j < 64 → ∃ k τ c w, k < st ∧ τ < 6 ∧ c < 8 ∧ w < 2 ∧ A 130 j = nI k ∧ A 128 k = nI (16 * τ + 2 * c + w) ∧ A 54 (4 * j) = nI k ∧ A 54 (4 * j + 1) = nI τ ∧ A 54 (4 * j + 2) = nI c ∧ A 54 (4 * j + 3) = nI w := h.2.2.2.2.2
theorem sm_cg {f g : Nat → Nat} : ∀ n, (∀ i, i < n → f i = g i) → sm f n = sm g n
  | 0, _ => rfl
  | n + 1, h => by
    have := sm_cg n (fun i hi => h i (by omega))
    simp only [sm, this, h n (by omega)]
theorem cs_cg {ks ks' ns ns' : Nat → Int32} {l : Nat} : ∀ r : List Nat, (∀ o, o ∈ r → ks o = ks' o ∧ ns o = ns' o) → cs ks ns l r = cs ks' ns' l r
  | [], _ => rfl
  | o :: r, h => by
    have ih := cs_cg (l := l) r (fun x hx => h x (List.mem_cons_of_mem _ hx))
    obtain ⟨h1, h2⟩ := h o List.mem_cons_self
    simp only [cs, ih, h1, h2]
theorem cs_cgk {ks ks' ns ns' : Nat → Int32} {l : Nat} {n k : Nat} (hk : k ≤ n) (h1 : ∀ i, i < n → ks i = ks' i) (h2 : ∀ i, i < n → ns i = ns' i) : cs ks ns l (bk_st ks k) = cs ks' ns' l (bk_st ks' k) := by
  rw [bk_st_cg h1 k hk]
  refine cs_cg _ (fun o ho => ?_)
  rw [← bk_st_cg h1 k hk] at ho
  have := (bk_lt k o ho).1
  exact ⟨h1 o (by omega), h2 o (by omega)⟩
theorem bfr_cg {A A' : Nat → Nat → Int32} (h1 : A' 126 = A 126) (h2 : A' 127 = A 127) : bfr A' = bfr A := by
  funext s k
  simp only [bfr, ed, h1, h2]
theorem kn_cg {A A' : Nat → Nat → Int32} (h1 : A' 126 = A 126) (h2 : A' 127 = A 127) : kn A' = kn A := by
  funext x k
  simp only [kn, bfr_cg h1 h2]
section
variable {n n' : Nat} {SZ SZ' : Nat → Nat} {T st rc : Nat} {D TM TH : Nat → Nat} {FB FP : Nat → Nat → Nat} {A A' : Nat → Nat → Int32}
theorem IT.cong (h : IT n SZ T st D FB FP A) (h1 : ∀ a, 49 ≤ a → a < 111 → A' a = A a) (h2 : ∀ a, 117 ≤ a → A' a = A a) (h3 : ∀ k, k ≠ 4 → A' 111 k = A 111 k) (hn : n ≤ n') (hz : ∀ b, b < n → SZ' b = SZ b) : IT n' SZ' T st D FB FP A' := by
  have T6 := h.T6
  refine ⟨h.T6, ?_, ?_, ?_, fun t ht => ?_, h.st4, ?_, ?_, fun t ht => ?_, fun t ht => ?_, fun t ht j hj => ?_, fun t ht j hj => ?_, fun c hc => ?_, fun z c hc => ?_⟩
  · rw [h1 49 (by omega) (by omega)]; exact h.cT
  · rw [h3 11 (by omega)]; exact h.mT
  · rw [h3 6 (by omega)]; exact h.run
  · rw [h1 _ (by omega) (by omega)]; exact h.num t ht
  · rw [h1 49 (by omega) (by omega)]; exact h.cst
  · rw [h3 17 (by omega)]; exact h.mst
  · rw [h1 _ (by omega) (by omega), h2 121 (by omega)]; exact h.val t ht
  · rw [h1 _ (by omega) (by omega), h2 122 (by omega)]; exact h.dep t ht
  · obtain ⟨g1, g2, g3⟩ := h.frm t ht j hj
    rw [h1 (56 + 4 * t) (by omega) (by omega), h1 (57 + 4 * t) (by omega) (by omega), h2 123 (by omega), h2 124 (by omega), hz _ g1]
    exact ⟨by omega, g2, g3⟩
  · obtain ⟨g1, g2, g3⟩ := h.frm t ht j (by omega)
    rw [hz _ g1]; exact h.top t ht j hj
  · rw [h1 _ (by omega) (by omega), h2 117 (by omega)]; exact h.cel c hc
  · rw [h2 117 (by omega)]; exact h.ce0 z c hc
theorem IL.cong (h : IL T D FB FP TM A) (h1 : ∀ a, 49 ≤ a → a < 111 → A' a = A a) (h2 : ∀ a, 117 ≤ a → A' a = A a) (ht : IT n SZ T st D FB FP A) (hk : ∀ b, b < n → ∀ i, i < SZ b → KS A' b i = KS A b i ∧ NS A' b i = NS A b i) : IL T D FB FP TM A' := by
  refine ⟨fun z l hl => ?_, fun z l hl => ?_⟩
  · rw [h1 _ (by omega) (by omega)]; exact h.lk0 z l hl
  · have e : tot A' FB FP D T l = tot A FB FP D T l := by
      refine sm_cg T (fun t htt => ?_)
      refine sm_cg (D t) (fun j hj => ?_)
      obtain ⟨g1, g2, g3⟩ := ht.frm t htt j hj
      exact cs_cgk g2 (fun i hi => (hk _ g1 i hi).1) (fun i hi => (hk _ g1 i hi).2)
    rw [h1 _ (by omega) (by omega), h2 118 (by omega), h2 119 (by omega), e]
    exact h.lks z l hl
theorem IK.cong (h : IK T st TH A) (T6 : T ≤ 6) (h1 : ∀ a, 49 ≤ a → a < 111 → A' a = A a) (h2 : ∀ a, 117 ≤ a → A' a = A a) : IK T st TH A' := by
  have e := kn_cg (A := A) (A' := A') (h2 126 (by omega)) (h2 127 (by omega))
  refine ⟨h.thr, fun k hk => ?_, fun t ht => ?_, fun z l hl => ?_, fun t ht k hk hh => ?_, fun t ht => ?_, fun z l hl => ?_⟩
  · simp only [edb, h2 126 (by omega), h2 127 (by omega)]; exact h.edg k hk
  · rw [h2 125 (by omega)]; exact h.lat t ht
  · rw [h2 120 (by omega)]; exact h.fre z l hl
  · rw [h2 125 (by omega), e]; exact h.own t ht k hk hh
  · simp only [ck, h2 125 (by omega), e, h1 (58 + 4 * t) (by omega) (by omega)]; exact h.ckt t ht
  · simp only [ck, h2 120 (by omega), e, h1 (80 + 2 * l) (by omega) (by omega)]; exact h.ckl z l hl
theorem IA.cong (h : IA st rc TH A) (h1 : ∀ a, 49 ≤ a → a < 111 → A' a = A a) (h2 : ∀ a, 117 ≤ a → A' a = A a) (h3 : ∀ k, k ≠ 4 → A' 111 k = A 111 k) : IA st rc TH A' := by
  refine ⟨h.rcs, ?_, ?_, fun k hk => ?_, fun c hc w hw u hu => ?_, fun j hj hj64 => ?_⟩
  · rw [h1 53 (by omega) (by omega)]; exact h.crc
  · rw [h3 22 (by omega)]; exact h.mrc
  · rw [h2 128 (by omega)]; exact h.acs k hk
  · rw [h2 128 (by omega), h1 _ (by omega) (by omega)]; exact h.rws c hc w hw u hu
  · rw [h2 128 (by omega), h2 130 (by omega), h1 54 (by omega) (by omega)]; exact h.log j hj hj64
end
/-- what is so between two calls -/
def Inv (A : Nat → Nat → Int32) (P : Nat → Nat → Option Nat) : Prop := ∃ (n : Nat) (SZ bq : Nat → Nat) (T st rc : Nat) (D TM TH : Nat → Nat) (FB FP : Nat → Nat → Nat), IS n SZ bq A P ∧ IT n SZ T st D FB FP A ∧ IL T D FB FP TM A ∧ IK T st TH A ∧ IA st rc TH A
/-- what is fixed -/
def KK (S : Nat → Nat × Nat) (P : Nat → Nat → Option Nat) : Prop := kU S P ∧ kM S P ∧ (∀ j, j < 9 → kB S P (4 + 5 * j)) ∧ pm_is S 0 16 2 ∧ P 0 0 = some 1 ∧ P 0 1 = some 49
theorem KK.bq {S : Nat → Nat × Nat} {P P' : Nat → Nat → Option Nat} {n : Nat} {SZ bq : Nat → Nat} {A : Nat → Nat → Int32} (k : KK S P) (h : IS n SZ bq A P') {b : Nat} (hb : b < 9) : kB S P (bq b) := by
  obtain ⟨j, h1, h2⟩ := h.bqv b hb
  rw [h2]
  exact k.2.2.1 j h1
theorem KK.H {S : Nat → Nat × Nat} {P : Nat → Nat → Option Nat} (k : KK S P) : kH S P := by
  obtain ⟨⟨s0, s1, s2, s3, s4, s5, s6⟩, ⟨p0, p1, p2, p3, p4, p5, p6⟩, -⟩ := k.1
  exact ⟨⟨s4, s5, s6⟩, p5, p6⟩
end INV
