/-! The pure machine: a heap of numbered cells (h.1 cells, h.2.1 slots in all; h.2.2.1 c: the kind and the length of cell c, kinds below 16 are arrays, 16 + ci objects of class ci; h.2.2.2.1 c j: the int at place j; h.2.2.2.2 c j: the reference there), a list of locals, a list of operands. An instruction is a function. -/
abbrev pm_H : Type := Nat × Nat × (Nat → Nat × Nat) × (Nat → Nat → Int32) × (Nat → Nat → Option Nat)
abbrev pm_R : Type := pm_H × Option Value
abbrev pm_C : Type := Nat × List Value × List Value × pm_H
abbrev pm_O : Type := pm_R ⊕ (pm_C ⊕ (Nat × List Value × pm_C))
abbrev pm_I : Type := List Value → List Value → pm_H → Option pm_O
def pm_u {α : Type} (f : Nat → Nat → α) (c i : Nat) (x : α) : Nat → Nat → α := fun a b => if a = c ∧ b = i then x else f a b
def pm_row {α : Type} (f : Nat → Nat → α) (c : Nat) (g : Nat → α) : Nat → Nat → α := fun a b => if a = c then g b else f a b
def pm_sA (h : pm_H) (c i : Nat) (x : Int32) : pm_H := (h.1, h.2.1, h.2.2.1, pm_u h.2.2.2.1 c i x, h.2.2.2.2)
def pm_sP (h : pm_H) (c i : Nat) (x : Option Nat) : pm_H := (h.1, h.2.1, h.2.2.1, h.2.2.2.1, pm_u h.2.2.2.2 c i x)
def pm_new (h : pm_H) (t n : Nat) : pm_H := (h.1 + 1, h.2.1 + n, va_up h.2.2.1 h.1 (t, n), pm_row h.2.2.2.1 h.1 (fun _ => 0), pm_row h.2.2.2.2 h.1 (fun _ => none))
def pm_rf : FieldType → Bool
  | .object _ => true
  | .array _ => true
  | _ => false
def pm_nx (x : Nat) (lc st : List Value) (h : pm_H) : Option pm_O := some (.inr (.inl (x, lc, st, h)))
-- the instructions; x is the number of the next one
def pm_const (x : Nat) (v : Int32) : pm_I := fun lc st h => pm_nx x lc (.int v :: st) h
def pm_iload (x a : Nat) : pm_I := fun lc st h => match lc[a]? with
  | some (.int v) => pm_nx x lc (.int v :: st) h
  | _ => none
def pm_aload (x a : Nat) : pm_I := fun lc st h => match lc[a]? with
  | some (.ref v) => pm_nx x lc (.ref v :: st) h
  | some (.retAddr v) => pm_nx x lc (.retAddr v :: st) h
  | _ => none
def pm_istore (x a : Nat) : pm_I := fun lc st h => match st with
  | .int v :: st => pm_nx x (lc.set a (.int v)) st h
  | _ => none
def pm_astore (x a : Nat) : pm_I := fun lc st h => match st with
  | .ref v :: st => pm_nx x (lc.set a (.ref v)) st h
  | _ => none
def pm_iinc (x a : Nat) (v : Int32) : pm_I := fun lc st h => match lc[a]? with
  | some (.int w) => pm_nx x (lc.set a (.int (w + v))) st h
  | _ => none
def pm_bin (x : Nat) (f : Int32 → Int32 → Int32) : pm_I := fun lc st h => match st with
  | .int b :: .int a :: st => pm_nx x lc (.int (f a b) :: st) h
  | _ => none
def pm_div (x : Nat) (f : Int32 → Int32 → Int32) : pm_I := fun lc st h => match st with
  | .int b :: .int a :: st => if b = 0 then none else pm_nx x lc (.int (f a b) :: st) h
  | _ => none
def pm_ok (v : Value) : Bool := match v with
  | .int _ => true
  | .ref _ => true
  | .retAddr _ => true
  | _ => false
def pm_dup (x : Nat) : pm_I := fun lc st h => match st with
  | v :: st => if pm_ok v then pm_nx x lc (v :: v :: st) h else none
  | _ => none
def pm_dupx1 (x : Nat) : pm_I := fun lc st h => match st with
  | v :: w :: st => if pm_ok v && pm_ok w then pm_nx x lc (v :: w :: v :: st) h else none
  | _ => none
def pm_dup2 (x : Nat) : pm_I := fun lc st h => match st with
  | v :: w :: st => if pm_ok v && pm_ok w then pm_nx x lc (v :: w :: v :: w :: st) h else none
  | _ => none
def pm_pop (x : Nat) : pm_I := fun lc st h => match st with
  | v :: st => if pm_ok v then pm_nx x lc st h else none
  | _ => none
/-- t: where to, if so; x: where to, if not -/
def pm_if (t x : Nat) (q : Int32 → Bool) : pm_I := fun lc st h => match st with
  | .int a :: st => if q a then pm_nx t lc st h else pm_nx x lc st h
  | _ => none
def pm_icmp (t x : Nat) (q : Int32 → Int32 → Bool) : pm_I := fun lc st h => match st with
  | .int b :: .int a :: st => if q a b then pm_nx t lc st h else pm_nx x lc st h
  | _ => none
def pm_goto (t : Nat) : pm_I := fun lc st h => pm_nx t lc st h
def pm_swt (ps : List (Int32 × Nat)) (d : Nat) (v : Int32) (k : Nat → Option pm_O) : Option pm_O := match ps with
  | [] => k d
  | (a, t) :: ps => if v = a then k t else pm_swt ps d v k
def pm_sw (ps : List (Int32 × Nat)) (d : Nat) : pm_I := fun lc st h => match st with
  | .int v :: st => pm_swt ps d v (fun t => pm_nx t lc st h)
  | _ => none
def pm_obj (h : pm_H) (c ci k : Nat) : Bool := decide (c < h.1) && ((h.2.2.1 c).1 == 16 + ci) && decide (k < (h.2.2.1 c).2)
def pm_arr (h : pm_H) (c t : Nat) (i : Int32) : Bool := decide (c < h.1) && ((h.2.2.1 c).1 == t) && !(decide (i < 0) || decide ((h.2.2.1 c).2 ≤ i.toNatClampNeg))
def pm_geti (x ci k : Nat) : pm_I := fun lc st h => match st with
  | .ref c :: st => if pm_obj h c ci k then pm_nx x lc (.int (h.2.2.2.1 c k) :: st) h else none
  | _ => none
def pm_getr (x ci k : Nat) : pm_I := fun lc st h => match st with
  | .ref c :: st => if pm_obj h c ci k then (match h.2.2.2.2 c k with
    | some r => pm_nx x lc (.ref r :: st) h
    | none => none) else none
  | _ => none
def pm_puti (x ci k : Nat) : pm_I := fun lc st h => match st with
  | .int v :: .ref c :: st => if pm_obj h c ci k then pm_nx x lc st (pm_sA h c k v) else none
  | _ => none
def pm_putz (x ci k : Nat) : pm_I := fun lc st h => match st with
  | .int v :: .ref c :: st => if pm_obj h c ci k && (v == 0 || v == 1) then pm_nx x lc st (pm_sA h c k v) else none
  | _ => none
def pm_putr (x ci k : Nat) : pm_I := fun lc st h => match st with
  | .ref r :: .ref c :: st => if pm_obj h c ci k then pm_nx x lc st (pm_sP h c k (some r)) else none
  | _ => none
def pm_iald (x t : Nat) : pm_I := fun lc st h => match st with
  | .int i :: .ref c :: st => if pm_arr h c t i then pm_nx x lc (.int (h.2.2.2.1 c i.toNatClampNeg) :: st) h else none
  | _ => none
def pm_iast (x : Nat) : pm_I := fun lc st h => match st with
  | .int v :: .int i :: .ref c :: st => if pm_arr h c 0 i then pm_nx x lc st (pm_sA h c i.toNatClampNeg v) else none
  | _ => none
def pm_zast (x : Nat) : pm_I := fun lc st h => match st with
  | .int v :: .int i :: .ref c :: st => if pm_arr h c 1 i then pm_nx x lc st (pm_sA h c i.toNatClampNeg (v &&& 1)) else none
  | _ => none
def pm_aald (x t : Nat) : pm_I := fun lc st h => match st with
  | .int i :: .ref c :: st => if pm_arr h c t i then (match h.2.2.2.2 c i.toNatClampNeg with
    | some r => pm_nx x lc (.ref r :: st) h
    | none => none) else none
  | _ => none
/-- t: the array's kind, ci: the class that its elements have -/
def pm_aast (x t ci : Nat) : pm_I := fun lc st h => match st with
  | .ref r :: .int i :: .ref c :: st => if pm_arr h c t i && (decide (r < h.1) && ((h.2.2.1 r).1 == 16 + ci)) then pm_nx x lc st (pm_sP h c i.toNatClampNeg (some r)) else none
  | _ => none
def pm_alen (x t : Nat) : pm_I := fun lc st h => match st with
  | .ref c :: st => if decide (c < h.1) && ((h.2.2.1 c).1 == t) then pm_nx x lc (.int (Int32.ofNat (h.2.2.1 c).2) :: st) h else none
  | _ => none
def pm_sld (x L : Nat) (xs : Nat → Int32) : pm_I := fun lc st h => match st with
  | .int i :: .retAddr _ :: st => if !(decide (i < 0) || decide (L ≤ i.toNatClampNeg)) then pm_nx x lc (.int (xs i.toNatClampNeg) :: st) h else none
  | _ => none
def pm_slen (x L : Nat) : pm_I := fun lc st h => match st with
  | .retAddr _ :: st => pm_nx x lc (.int (Int32.ofNat L) :: st) h
  | _ => none
def pm_newo (x ci N : Nat) : pm_I := fun lc st h => pm_nx x lc (.ref h.1 :: st) (pm_new h (16 + ci) N)
def pm_newa (x t : Nat) : pm_I := fun lc st h => match st with
  | .int i :: st => if decide (i < 0) || decide (100000000 < i.toNatClampNeg) then none else pm_nx x lc (.ref h.1 :: st) (pm_new h t i.toNatClampNeg)
  | _ => none
def pm_cat (st : List Value) : Nat := (st.map fun v => v.category).sum
/-- n values of the stack go along; ci: the receiver's class, where there is one -/
def pm_calls (x mid n : Nat) : pm_I := fun lc st h => if decide (n ≤ st.length) && decide (pm_cat (st.drop n) ≤ 8) then some (.inr (.inr (mid, (st.take n).reverse, (x, lc, st.drop n, h)))) else none
def pm_callv (x mid n ci : Nat) : pm_I := fun lc st h => match (st.take n).reverse with
  | .ref c :: _ => if decide (c < h.1) && ((h.2.2.1 c).1 == 16 + ci) then pm_calls x mid n lc st h else none
  | _ => none
def pm_callc (x mid n : Nat) : pm_I := fun lc st h => match (st.take n).reverse with
  | .ref _ :: _ => pm_calls x mid n lc st h
  | _ => none
def pm_oinit (x : Nat) : pm_I := fun lc st h => match st with
  | .ref _ :: st => if pm_cat st ≤ 8 then pm_nx x lc st h else none
  | _ => none
def pm_max (x : Nat) : pm_I := fun lc st h => match st with
  | .int b :: .int a :: st => if pm_cat st ≤ 8 then pm_nx x lc (.int (if a < b then b else a) :: st) h else none
  | _ => none
def pm_min (x : Nat) : pm_I := fun lc st h => match st with
  | .int b :: .int a :: st => if pm_cat st ≤ 8 then pm_nx x lc (.int (if b < a then b else a) :: st) h else none
  | _ => none
def pm_copy (x : Nat) : pm_I := fun lc st h => match st with
  | .int n :: .int dp :: .ref d :: .int sp :: .ref c :: st =>
    if (decide (c < h.1) && ((h.2.2.1 c).1 == 0)) && (decide (d < h.1) && ((h.2.2.1 d).1 == 0)) && !(decide (sp < 0) || (decide (dp < 0) || decide (n < 0))) && (decide (sp.toNatClampNeg + n.toNatClampNeg ≤ (h.2.2.1 c).2) && decide (dp.toNatClampNeg + n.toNatClampNeg ≤ (h.2.2.1 d).2)) && decide (pm_cat st ≤ 8) then
      pm_nx x lc st (h.1, h.2.1, h.2.2.1, pm_row h.2.2.2.1 d (va_cpy (h.2.2.2.1 c) (h.2.2.2.1 d) sp.toNatClampNeg dp.toNatClampNeg n.toNatClampNeg), h.2.2.2.2)
    else none
  | _ => none
def pm_vret : pm_I := fun _ st h => match st with
  | [] => some (.inl (h, none))
  | _ => none
def pm_iret : pm_I := fun _ st h => match st with
  | [.int v] => some (.inl (h, some (.int v)))
  | _ => none
def pm_zret : pm_I := fun _ st h => match st with
  | [.int v] => if v == 0 || v == 1 then some (.inl (h, some (.int v))) else none
  | _ => none
def pm_aret : pm_I := fun _ st h => match st with
  | [.ref v] => some (.inl (h, some (.ref v)))
  | _ => none
/-- n steps of a method with the instructions T -/
def pm_ex (call : Nat → List Value → pm_H → Option pm_R) (T : Nat → Option pm_I) : Nat → pm_C → Option pm_R
  | 0, _ => none
  | n + 1, c => match T c.1 with
    | none => none
    | some f => match f c.2.1 c.2.2.1 c.2.2.2 with
      | none => none
      | some (.inl r) => some r
      | some (.inr (.inl q)) => pm_ex call T n q
      | some (.inr (.inr q)) => match call q.1 q.2.1 q.2.2.2.2.2 with
        | none => none
        | some r => pm_ex call T n (q.2.2.1, q.2.2.2.1, r.2.toList ++ q.2.2.2.2.1, r.1)
theorem pm_ex_mono {call call' : Nat → List Value → pm_H → Option pm_R} {T : Nat → Option pm_I} (hc : ∀ m a h r, call m a h = some r → call' m a h = some r) : ∀ (n n' : Nat) (c : pm_C) (r : pm_R), n ≤ n' → pm_ex call T n c = some r → pm_ex call' T n' c = some r := by
  intro n
  induction n with
  | zero => intro n' c r _ h; cases h
  | succ n ih =>
    intro n' c r hn h
    obtain ⟨n', rfl⟩ : ∃ k, n' = k + 1 := ⟨n' - 1, by omega⟩
    have hn : n ≤ n' := by omega
    cases hf : T c.1 with
    | none => simp [pm_ex, hf] at h
    | some f =>
      cases hw : f c.2.1 c.2.2.1 c.2.2.2 with
      | none => simp [pm_ex, hf, hw] at h
      | some o =>
        rcases o with w | w | w
        · simp only [pm_ex, hf, hw] at h ⊢
          exact h
        · simp only [pm_ex, hf, hw] at h ⊢
          exact ih _ _ _ hn h
        · simp only [pm_ex, hf, hw] at h ⊢
          cases hr : call w.1 w.2.1 w.2.2.2.2.2 with
          | none => simp [hr] at h
          | some r' =>
            simp only [hr] at h
            simp only [hc _ _ _ _ hr]
            exact ih _ _ _ hn h
