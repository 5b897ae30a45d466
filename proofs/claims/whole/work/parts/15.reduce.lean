/-! THE CLAIM OUT OF ONE WALK OF THE LAW'S BODY. Your part is whole_start (and what it stands on); all else here is the same for every law, but numbers. -/
def R_law : String := "LockLoomLaw"
def lw_P (b : Addr) (xs : List Int32) (args : Array Value) (s : State) : Prop := args = #[.ref b] ∧ s.IntsAt b xs ∧ xs.length ≤ 1536 ∧ (Jvm.Cond.and given_1 narrow_1).before args s = true
def lw_Q (_ : Array Value) (s : State) (o : Outcome) (t : State) : Prop := o = .returned (some (.int 1)) ∧ Framed s o t [] 600000 7302250
def lw_Z (below : List Frame) (a : Array Value) (s : State) : State → Prop := fun t => ∃ o, t.status = .running ∧ Ended t below o ∧ lw_Q a s o t
/-- the law's own end, with 1 on the stack, nothing written that was there before, its room as the claim has it -/
theorem lw_ret {p : Program} {l : Launch} {e : Env} {s : State} {m : MethodId} {below : List Frame} {meth : Method} {c : Code} {b : Nat} (hx : p.tables.exec = Jvm.exec) (hb : c.code = code) (hr : meth.sig.returnType = ret) (hlocks : meth.locks = false) {pc : Nat} {H : Heap} {ls : Array Slot} (hdg : decode code pc = .ok (.ireturn, 1)) : W p l e room_1 s m #[Value.ref b] below meth c H [] 600000 7302250 (lw_Z below #[Value.ref b] s) (F0 m pc ls [.int 1]) := by
  intro T hT X
  obtain ⟨fs, hret, hrun, hended, hW, hframe⟩ := X.leave (v := some (.int 1)) (hlocks := hlocks) (fun h => by rw [hr] at h; cases h)
  have hmeth' : T.vm.method? m = some meth := X.method'
  refine ⟨T.setFrames fs, ?_, .returned (some (.int 1)), hrun, hended, rfl, ⟨_, rfl⟩, hW, hframe⟩
  jvm_step X.here [X.here.top, hx, hb, hdg, hmeth', hr, ret, narrow_b1]
  (try refine ⟨rfl, ?_⟩); (try refine ⟨rfl, ?_⟩)
  first | (intro acts; rw [hret _ acts rfl rfl rfl]) | rw [hret _ _ rfl rfl rfl]
  exact Steps.refl _
/-- what holds at the law's entry: the machine, the code, the tables' words (any of lw_tbl by 'hts w (by decide +kernel)'), the script of L ints xs at the cell b, what the Statement gives of the start (any of its parts by flat_of_before) -/
def lw_At (p : Program) (s : State) (m : MethodId) (meth : Method) (c : Code) (b L : Nat) (xs : Nat → Int32) : Prop :=
  p.tables.exec = Jvm.exec ∧ c.code = code ∧ meth.sig.returnType = ret ∧ c.maxLocals = 4 ∧ s.vm.findClass R_law = some m.cls ∧ (∀ w ∈ lw_tbl, w.before #[Value.ref b] s = true) ∧ va_X b L xs s s.heap ∧ b < s.heap.size ∧ meth.locks = false ∧ (Jvm.Cond.and given_1 narrow_1).before #[Value.ref b] s = true
def pm_h0 : pm_H := (0, 0, fun _ => (0, 0), fun _ _ => 0, fun _ _ => none)
/-- the walk of the law's body, out of a run of the pure machine that ends with 1 -/
theorem whole_red {p : Program} {e : Env} {s : State} {m : MethodId} {below : List Frame} {meth : Method} {c : Code} (l : Launch) {b L : Nat} {xs : Nat → Int32} (C0 : lw_At p s m meth c b L xs)
    (hrun : ∃ (N n : Nat) (hf : pm_H), pm_ex (pm_cl pm_Y pm_T N 7) (fun j => (tb_law L xs)[j]?) n (0, [.retAddr 0, .null, .null, .null], [], pm_h0) = some (hf, some (.int 1)) ∧ hf.1 ≤ 600000 ∧ hf.2.1 ≤ 7302250) :
    W p l e room_1 s m #[Value.ref b] below meth c s.heap [] 0 0 (lw_Z below #[Value.ref b] s) (entryFrame m ([Value.ref b] : List Value).toArray 4) := by
  obtain ⟨hx, hb, hr, hml, hown, hts, hX, hbl, hlocks, hgv⟩ := C0
  obtain ⟨D, aC, hG⟩ := pm_G_of hts
  obtain ⟨N, n, hf, hex, hc, hs⟩ := hrun
  have X : pm_X p room_1 s m meth c code 4 R_Law meth.name D aC s.heap.size := ⟨hx, hb, hml, hown, hG, Nat.le_refl _, by decide, by decide, rfl⟩
  have hW0 : pm_W D aC s.heap.size pm_h0 s.heap := ⟨rfl, fun k hk => absurd hk (Nat.not_lt_zero k)⟩
  have hV := pm_V_entry (z := s.heap.size) (bS := b) (nL := 4) (a := [.retAddr 0]) rfl (by decide)
  rw [lg_entry_eq]
  have sim0 := pm_simC (p := p) (l := l) (e := e) (R := room_1) (s := s) (m := m) (args := #[Value.ref b]) (below := below) (meth := meth) (c := c) (Q := lw_Z below #[Value.ref b] s) (D := D) (aC := aC) (z := s.heap.size) (bS := b) (cc := code) (nL := 4) (ret := ret) (Y := pm_Y) (b := pm_b bp_law) (T := fun j => (tb_law L xs)[j]?)
    (fun j f hf => by
      have h1 := pm_Sk_at _ 0 (sd_law (l := l) (e := e) (args := #[Value.ref b]) (below := below) (Q := lw_Z below #[Value.ref b] s) (bS := b) X hX hbl) j f hf
      rw [Nat.zero_add] at h1
      exact h1)
    (fun mid a g r hr' => ⟨6, by decide, by decide, pm_runs pm_hpl pm_hb0 pm_hT l D aC s.heap.size b N 6 mid a g r hr'⟩) n _ _ hex
  have sim := sim0.2 s.heap [] _ 0 0 ⟨hW0, va_S.rf, hV⟩ (by show 0 + (hf.1 - 0) ≤ 600000; omega) (by show 0 + (hf.2.1 - 0) ≤ 7302250; omega) (fun H' locs' ls' pc a1 a2 a3 => by
      refine va_forget (fun q hq => a2.2.2 q hq) ?_
      refine W.widen (k := 600000) (n := 7302250) (by show 0 + (hf.1 - 0) ≤ 600000; omega) (by show 0 + (hf.2.1 - 0) ≤ 7302250; omega) ?_
      exact lw_ret hx hb hr hlocks a3.1)
  exact sim
