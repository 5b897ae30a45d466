section STATIC
theorem bk_st_cg {ks ks' : Nat → Int32} {n : Nat} (h : ∀ i, i < n → ks i = ks' i) : ∀ k, k ≤ n → bk_st ks k = bk_st ks' k
  | 0, _ => rfl
  | k + 1, hk => by
    have ih := bk_st_cg h k (by omega)
    have hk' := h k (by omega)
    simp only [bk_st, ih, hk']
theorem cu_cg {ks ks' : Nat → Int32} {n y : Nat} (h : ∀ i, i < n → ks i = ks' i) : ∀ k, k ≤ n → cu ks k y = cu ks' k y
  | 0, _ => rfl
  | k + 1, hk => by
    have ih := cu_cg (y := y) h k (by omega)
    have hk' := h k (by omega)
    simp only [cu, ih, hk', bk_st_cg h k (by omega)]
theorem hl_cg {ks ks' ns ns' : Nat → Int32} {rq : Int32} : ∀ l : List Nat, (∀ o, o ∈ l → ks o = ks' o ∧ ns o = ns' o) → hl ks ns rq l = hl ks' ns' rq l
  | [], _ => rfl
  | o :: l, h => by
    have ih := hl_cg (rq := rq) l (fun x hx => h x (List.mem_cons_of_mem _ hx))
    obtain ⟨h1, h2⟩ := h o List.mem_cons_self
    simp only [hl, ih, h1, h2]
theorem hl_cgk {ks ks' ns ns' : Nat → Int32} {rq : Int32} {n k : Nat} (hk : k ≤ n) (h1 : ∀ i, i < n → ks i = ks' i) (h2 : ∀ i, i < n → ns i = ns' i) : hl ks ns rq (bk_st ks k) = hl ks' ns' rq (bk_st ks' k) := by
  rw [bk_st_cg h1 k hk]
  refine hl_cg _ (fun o ho => ?_)
  rw [← bk_st_cg h1 k hk] at ho
  have := (bk_lt k o ho).1
  exact ⟨h1 o (by omega), h2 o (by omega)⟩
theorem bk_wh_cg1 {ks ks' : Nat → Int32} {n : Nat} (h : ∀ i, i < n → ks i = ks' i) (g : bk_wh ks n) : bk_wh ks' n := by
  refine ⟨fun k hk => ⟨fun h5 => ?_, fun h7 => ?_⟩, ?_⟩
  · rw [← bk_st_cg h k (by omega)]
    exact (g.1 k hk).1 (by rw [h k hk]; exact h5)
  · obtain ⟨o, l, e1, e2, e3⟩ := (g.1 k hk).2 (by rw [h k hk]; exact h7)
    have ho := (bk_in e1).1
    refine ⟨o, l, by rw [← bk_st_cg h k (by omega)]; exact e1, by rw [← h o (by omega)]; exact e2, fun j h1 h2 h3 => ?_⟩
    rw [← h j (by omega)]
    rw [← bk_st_cg h k (by omega), ← bk_st_cg h j (by omega)] at h3
    exact e3 j h1 h2 h3
  · rw [← bk_st_cg h n (by omega)]
    exact g.2
theorem bk_wh_cg {ks ks' : Nat → Int32} {n : Nat} (h : ∀ i, i < n → ks i = ks' i) : bk_wh ks n ↔ bk_wh ks' n := ⟨bk_wh_cg1 h, bk_wh_cg1 (fun i hi => (h i hi).symm)⟩
theorem jc_cg {ks ks' pt pt' : Nat → Int32} {n : Nat} (h : ∀ i, i < n → ks i = ks' i) (h' : ∀ i, i < n → pt i = pt' i) (g : jc ks pt n) : jc ks' pt' n := by
  intro e he h5 o l hs
  rw [← h e he] at h5
  rw [← bk_st_cg h e (by omega)] at hs
  have ho := (bk_in hs).1
  have hc : cu ks' e o < e := cu_lt ho
  have ec := cu_cg (y := o) h e (by omega)
  obtain ⟨g1, g2, g3⟩ := g e he h5 o l hs
  rw [ec] at g1 g2 g3
  exact ⟨by rw [← h' _ (by omega)]; exact g1, by rw [← h' _ he]; exact g2, fun z => by rw [← h' _ (by omega)]; exact g3 z⟩
theorem KS_cg {A A' : Nat → Nat → Int32} (h : A' 112 = A 112) : KS A' = KS A := by
  funext b k
  simp only [KS, h]
theorem NS_cg {A A' : Nat → Nat → Int32} (h : A' 113 = A 113) : NS A' = NS A := by
  funext b k
  simp only [NS, h]
/-- a body, or the text -/
def bd (n b : Nat) : Prop := b < n ∨ b = 8
/-- what class and reference hold of bodies and guards -/
def IS (n : Nat) (SZ bq : Nat → Nat) (A : Nat → Nat → Int32) (P : Nat → Nat → Option Nat) : Prop :=
  (n ≤ 8) ∧
  (A 1 3 = nI n) ∧
  (A 111 4 = nI n) ∧
  (P 1 2 = some (bq 8)) ∧
  (∀ b, b < 8 → P 2 b = some (bq b)) ∧
  (∀ b, b < 9 → ∃ j, j < 9 ∧ bq b = 4 + 5 * j) ∧
  (∀ b b', b < 9 → b' < 9 → bq b = bq b' → b = b') ∧
  (∀ b, n ≤ b → b < 8 → A (bq b) 4 = 0) ∧
  (∀ b, bd n b → SZ b ≤ 64) ∧
  (∀ b, bd n b → A (bq b) 4 = nI (SZ b)) ∧
  (∀ b, bd n b → A 114 b = nI (SZ b)) ∧
  (∀ b, bd n b → ∀ i, i < SZ b → A (bq b + 1) i = KS A b i ∧ A (bq b + 2) i = NS A b i) ∧
  (∀ b, bd n b → ∀ i, i < SZ b → fit_ (KS A b i) (NS A b i) = 1) ∧
  (∀ b, b < n → bk_wh (KS A b) (SZ b)) ∧
  (∀ b, b < n → jc (KS A b) (A (bq b + 3)) (SZ b)) ∧
  (∀ b, b < n → ∀ k, k < SZ b → A (bq b + 4) k = hl (KS A b) (NS A b) (A 115 b) (bk_st (KS A b) k)) ∧
  (∀ b, b < n → A (bq b) 5 = A 115 b ∧ ∃ h, h < 16 ∧ A 115 b = nI h) ∧
  (∀ c, c < 8 → A 3 c = A 116 c ∧ (A 116 c = -1 ∨ ∃ l, l < 4 ∧ A 116 c = nI l))
theorem IS.n8 {n : Nat} {SZ bq : Nat → Nat} {A : Nat → Nat → Int32} {P : Nat → Nat → Option Nat} (h : IS n SZ bq A P) : n ≤ 8 := h.1
theorem IS.cn {n : Nat} {SZ bq : Nat → Nat} {A : Nat → Nat → Int32} {P : Nat → Nat → Option Nat} (h : IS n SZ bq A P) : A 1 3 = nI n := h.2.1
theorem IS.mn {n : Nat} {SZ bq : Nat → Nat} {A : Nat → Nat → Int32} {P : Nat → Nat → Option Nat} (h : IS n SZ bq A P) : A 111 4 = nI n := h.2.2.1
theorem IS.ptx {n : Nat} {SZ bq : Nat → Nat} {A : Nat → Nat → Int32} {P : Nat → Nat → Option Nat} (h : IS n SZ bq A P) : P 1 2 = some (bq 8) := h.2.2.2.1
theorem IS.pbs {n : Nat} {SZ bq : Nat → Nat} {A : Nat → Nat → Int32} {P : Nat → Nat → Option Nat} (h : IS n SZ bq A P) : ∀ b, b < 8 → P 2 b = some (bq b) := h.2.2.2.2.1
theorem IS.bqv {n : Nat} {SZ bq : Nat → Nat} {A : Nat → Nat → Int32} {P : Nat → Nat → Option Nat} (h : IS n SZ bq A P) : ∀ b, b < 9 → ∃ j, j < 9 ∧ bq b = 4 + 5 * j := h.2.2.2.2.2.1
theorem IS.bqi {n : Nat} {SZ bq : Nat → Nat} {A : Nat → Nat → Int32} {P : Nat → Nat → Option Nat} (h : IS n SZ bq A P) : ∀ b b', b < 9 → b' < 9 → bq b = bq b' → b = b' := h.2.2.2.2.2.2.1
theorem IS.unu {n : Nat} {SZ bq : Nat → Nat} {A : Nat → Nat → Int32} {P : Nat → Nat → Option Nat} (h : IS n SZ bq A P) : ∀ b, n ≤ b → b < 8 → A (bq b) 4 = 0 := h.2.2.2.2.2.2.2.1
theorem IS.s64 {n : Nat} {SZ bq : Nat → Nat} {A : Nat → Nat → Int32} {P : Nat → Nat → Option Nat} (h : IS n SZ bq A P) : ∀ b, bd n b → SZ b ≤ 64 := h.2.2.2.2.2.2.2.2.1
theorem IS.csz {n : Nat} {SZ bq : Nat → Nat} {A : Nat → Nat → Int32} {P : Nat → Nat → Option Nat} (h : IS n SZ bq A P) : ∀ b, bd n b → A (bq b) 4 = nI (SZ b) := h.2.2.2.2.2.2.2.2.2.1
theorem IS.msz {n : Nat} {SZ bq : Nat → Nat} {A : Nat → Nat → Int32} {P : Nat → Nat → Option Nat} (h : IS n SZ bq A P) : ∀ b, bd n b → A 114 b = nI (SZ b) := h.2.2.2.2.2.2.2.2.2.2.1
theorem IS.ckn {n : Nat} {SZ bq : Nat → Nat} {A : Nat → Nat → Int32} {P : Nat → Nat → Option Nat} (h : IS n SZ bq A P) : ∀ b, bd n b → ∀ i, i < SZ b → A (bq b + 1) i = KS A b i ∧ A (bq b + 2) i = NS A b i := h.2.2.2.2.2.2.2.2.2.2.2.1
theorem IS.fit {n : Nat} {SZ bq : Nat → Nat} {A : Nat → Nat → Int32} {P : Nat → Nat → Option Nat} (h : IS n SZ bq A P) : ∀ b, bd n b → ∀ i, i < SZ b → fit_ (KS A b i) (NS A b i) = 1 := h.2.2.2.2.2.2.2.2.2.2.2.2.1
theorem IS.whl {n : Nat} {SZ bq : Nat → Nat} {A : Nat → Nat → Int32} {P : Nat → Nat → Option Nat} (h : IS n SZ bq A P) : ∀ b, b < n → bk_wh (KS A b) (SZ b) := h.2.2.2.2.2.2.2.2.2.2.2.2.2.1
theorem IS.jcl {n : Nat} {SZ bq : Nat → Nat} {A : Nat → Nat → Int32} {P : Nat → Nat → Option Nat} (h : IS n SZ bq A P) : ∀ b, b < n → jc (KS A b) (A (bq b + 3)) (SZ b) := h.2.2.2.2.2.2.2.2.2.2.2.2.2.2.1
theorem IS.hld {n : Nat} {SZ bq : Nat → Nat} {A : Nat → Nat → Int32} {P : Nat → Nat → Option Nat} (h : IS n SZ bq A P) : ∀ b, b < n → ∀ k, k < SZ b → A (bq b + 4) k = hl (KS A b) (NS A b) (A 115 b) (bk_st (KS A b) k) := h.2.2.2.2.2.2.2.2.2.2.2.2.2.2.2.1
theorem IS.crq {n : Nat} {SZ bq : Nat → Nat} {A : Nat → Nat → Int32} {P : Nat → Nat → Option Nat} (h : IS n SZ bq A P) : ∀ b, b < n → A (bq b) 5 = A 115 b ∧ ∃ h, h < 16 ∧ A 115 b = nI h := h.2.2.2.2.2.2.2.2.2.2.2.2.2.2.2.2.1
theorem IS.gds {n : Nat} {SZ bq : Nat → Nat} {A : Nat → Nat → Int32} {P : Nat → Nat → Option Nat} (h : IS n SZ bq A P) : ∀ c, c < 8 → A 3 c = A 116 c ∧ (A 116 c = -1 ∨ ∃ l, l < 4 ∧ A 116 c = nI l) := h.2.2.2.2.2.2.2.2.2.2.2.2.2.2.2.2.2
theorem IS.q45 {n : Nat} {SZ bq : Nat → Nat} {A : Nat → Nat → Int32} {P : Nat → Nat → Option Nat} (h : IS n SZ bq A P) {b : Nat} (hb : b < 9) : 4 ≤ bq b ∧ bq b < 45 := by
  obtain ⟨j, h1, h2⟩ := h.bqv b hb
  omega
/-- the cells of two bodies are not the same -/
theorem IS.sep {n : Nat} {SZ bq : Nat → Nat} {A : Nat → Nat → Int32} {P : Nat → Nat → Option Nat} (h : IS n SZ bq A P) {b b' : Nat} (hb : b < 9) (hb' : b' < 9) (hne : b ≠ b') (x y : Nat) (hx : x < 5) (hy : y < 5) : bq b + x ≠ bq b' + y := by
  obtain ⟨j, h1, h2⟩ := h.bqv b hb
  obtain ⟨j', h1', h2'⟩ := h.bqv b' hb'
  have : bq b ≠ bq b' := fun g => hne (h.bqi b b' hb hb' g)
  omega
theorem IS.b9 {n : Nat} {SZ bq : Nat → Nat} {A : Nat → Nat → Int32} {P : Nat → Nat → Option Nat} (h : IS n SZ bq A P) {b : Nat} (hb : bd n b) : b < 9 := by
  have := h.n8
  rcases hb with hb | hb <;> omega
theorem IS.cong {n : Nat} {SZ bq : Nat → Nat} {A A' : Nat → Nat → Int32} {P : Nat → Nat → Option Nat} (h : IS n SZ bq A P) (h1 : ∀ a, a < 49 → A' a = A a) (h2 : ∀ a, 112 ≤ a → a ≤ 116 → A' a = A a) (h3 : A' 111 4 = A 111 4) : IS n SZ bq A' P := by
  have eK := KS_cg (h2 112 (by omega) (by omega))
  have eN := NS_cg (h2 113 (by omega) (by omega))
  have q45 : ∀ b, b < 9 → bq b < 45 := fun b hb => (h.q45 hb).2
  refine ⟨h.n8, by rw [h1 1 (by omega)]; exact h.cn, by rw [h3]; exact h.mn, h.ptx, h.pbs, h.bqv, h.bqi, fun b hb hb8 => ?_, h.s64, fun b hb => ?_, fun b hb => ?_, fun b hb i hi => ?_, fun b hb i hi => ?_, fun b hb => ?_, fun b hb => ?_, fun b hb k hk => ?_, fun b hb => ?_, fun c hc => ?_⟩
  · rw [h1 _ (by have := q45 b (by omega); omega)]; exact h.unu b hb hb8
  · rw [h1 _ (by have := q45 b (h.b9 hb); omega)]; exact h.csz b hb
  · rw [h2 114 (by omega) (by omega)]; exact h.msz b hb
  · rw [h1 _ (by have := q45 b (h.b9 hb); omega), h1 _ (by have := q45 b (h.b9 hb); omega), eK, eN]; exact h.ckn b hb i hi
  · rw [eK, eN]; exact h.fit b hb i hi
  · rw [eK]; exact h.whl b hb
  · rw [eK, h1 _ (by have := q45 b (h.b9 (Or.inl hb)); omega)]; exact h.jcl b hb
  · rw [eK, eN, h1 _ (by have := q45 b (h.b9 (Or.inl hb)); omega), h2 115 (by omega) (by omega)]; exact h.hld b hb k hk
  · rw [h1 _ (by have := q45 b (h.b9 (Or.inl hb)); omega), h2 115 (by omega) (by omega)]; exact h.crq b hb
  · rw [h1 3 (by omega), h2 116 (by omega) (by omega)]; exact h.gds c hc
end STATIC
