theorem lx_n1 : lx_h1.1 = 111 := by decide +kernel
theorem lx_n2 : lx_h2.1 = 131 := by decide +kernel
theorem lx_s2 : lx_h2.2.1 ≤ 30000 := by decide +kernel
/-- the kinds and lengths of the cells -/
def lx_S (c : Nat) : Nat × Nat :=
  if c = 0 then (16, 2) else if c = 1 then (17, 4) else if c = 2 then (2, 8) else if c = 3 then (0, 8)
  else if c < 49 then (if (c - 4) % 5 = 0 then (18, 6) else (0, 64))
  else if c = 49 then (19, 7) else if c = 50 then (3, 6) else if c = 51 then (4, 4) else if c = 52 then (5, 8) else if c = 53 then (20, 2) else if c = 54 then (0, 256)
  else if c < 79 then (if (c - 55) % 4 = 0 then (21, 6) else if (c - 55) % 4 = 3 then (0, 6) else (0, 8))
  else if c < 87 then (if (c - 79) % 2 = 0 then (22, 3) else (0, 6))
  else if c < 111 then (if (c - 87) % 3 = 0 then (23, 3) else (0, 6))
  else if c = 111 then (24, 24) else if c = 112 then (0, 576) else if c = 113 then (0, 576) else if c = 114 then (0, 9) else if c = 115 then (0, 8) else if c = 116 then (0, 8)
  else if c = 117 then (0, 8) else if c = 118 then (0, 4) else if c = 119 then (0, 4) else if c = 120 then (0, 4) else if c = 121 then (0, 6) else if c = 122 then (0, 6)
  else if c = 123 then (0, 48) else if c = 124 then (0, 48) else if c = 125 then (0, 6) else if c = 126 then (0, 4000) else if c = 127 then (0, 4000) else if c = 128 then (0, 4000)
  else if c = 129 then (1, 4000) else (0, 64)
set_option maxRecDepth 100000 in
theorem lx_sh : ∀ c, c < 131 → lx_h2.2.2.1 c = lx_S c := by decide +kernel
/-- the ints at the start -/
def lx_A (c i : Nat) : Int32 := if c = 3 ∨ c = 116 then -1 else if c < 55 then 0 else if c < 79 then (if (c - 55) % 4 = 0 ∧ i = 0 then Int32.ofNat ((c - 55) / 4) else 0) else if c < 87 then (if (c - 79) % 2 = 0 ∧ i = 1 then -1 else 0) else 0
/-- the references at the start -/
def lx_P (c i : Nat) : Option Nat :=
  if c = 0 then (if i = 0 then some 1 else some 49)
  else if c = 1 then (if i = 0 then some 2 else if i = 1 then some 3 else if i = 2 then some 4 else none)
  else if c = 2 then some (9 + 5 * i)
  else if c < 49 then (if (c - 4) % 5 = 0 ∧ i < 4 ∧ 4 ≤ c then some (c + 1 + i) else none)
  else if c = 49 then (if i = 0 then some 1 else if i = 1 then some 50 else if i = 2 then some 51 else if i = 3 then some 52 else if i = 4 then some 53 else none)
  else if c = 50 then some (55 + 4 * i) else if c = 51 then some (79 + 2 * i) else if c = 52 then some (87 + 3 * i)
  else if c = 53 then (if i = 0 then some 54 else none)
  else if c < 79 then (if (c - 55) % 4 = 0 ∧ 1 ≤ i ∧ i < 4 ∧ 55 ≤ c then some (c + i) else none)
  else if c < 87 then (if (c - 79) % 2 = 0 ∧ i = 0 then some (c + 1) else none)
  else if c < 111 then (if (c - 87) % 3 = 0 ∧ i < 2 then some (c + 1 + i) else none)
  else none
set_option maxRecDepth 100000 in
theorem lx_pa : ∀ c, c < 111 → ∀ i, i < (lx_S c).2 → lx_h2.2.2.2.1 c i = lx_A c i ∧ lx_h2.2.2.2.2 c i = lx_P c i := by decide +kernel
