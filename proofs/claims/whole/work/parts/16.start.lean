/-! The two constructors, run as they stand; what the heap is then. -/
def lx_r1 : Option pm_R := pm_run pm_Y pm_T 400 6 M_Lo_init [.ref 0] (pm_new pm_h0 16 2)
def lx_h1 : pm_H := match lx_r1 with
  | some r => r.1
  | none => pm_h0
def lx_c (r : Option pm_R) : Bool := match r with
  | some (_, none) => true
  | _ => false
theorem lx_c_spec {r : Option pm_R} (h : lx_c r = true) : r = some ((match r with | some r => r.1 | none => pm_h0), none) := by
  match r, h with
  | some (a, none), _ => rfl
set_option maxRecDepth 100000 in
theorem lx_ok1 : lx_c lx_r1 = true := by decide +kernel
def lx_r2 : Option pm_R := pm_run pm_Y pm_T 400 6 M_Mo_init [.ref 111] (pm_new lx_h1 24 24)
def lx_h2 : pm_H := match lx_r2 with
  | some r => r.1
  | none => pm_h0
set_option maxRecDepth 100000 in
theorem lx_ok2 : lx_c lx_r2 = true := by decide +kernel
