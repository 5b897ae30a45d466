section OPS
variable {cc : ByteArray} {nL : Nat} {own nm : String} {ret : Option FieldType} {Y : Nat → pm_N} {b : Nat → Nat} {i x : Nat}
theorem so_const1 {n : Int} {v : Int32} (hd : decode cc (b i) = .ok (.iconst n, 1)) (hv : Int32.ofInt n = v) (hx : b x = b i + 1) : pm_S cc nL own nm ret Y b i (pm_const x v) := by
  intro p l e R s m args below meth c Q D aC z bS X lc st h o ho
  cases ho
  refine pm_keep fun H locs ls kc ks hL hkc hks k => ?_
  have k := k ls hL.2.2
  rw [hx] at k
  exact lv_iconst X.1 X.2.1 hd hv k
theorem so_const2 {n : Int} {v : Int32} (hd : decode cc (b i) = .ok (.bipush n, 2)) (hv : (Int8.ofInt n).toInt32 = v) (hx : b x = b i + 2) : pm_S cc nL own nm ret Y b i (pm_const x v) := by
  intro p l e R s m args below meth c Q D aC z bS X lc st h o ho
  cases ho
  refine pm_keep fun H locs ls kc ks hL hkc hks k => ?_
  have k := k ls hL.2.2
  rw [hx] at k
  exact lv_bipush X.1 X.2.1 hd hv k
theorem so_const3 {n : Int} {v : Int32} (hd : decode cc (b i) = .ok (.sipush n, 3)) (hv : (Int16.ofInt n).toInt32 = v) (hx : b x = b i + 3) : pm_S cc nL own nm ret Y b i (pm_const x v) := by
  intro p l e R s m args below meth c Q D aC z bS X lc st h o ho
  cases ho
  refine pm_keep fun H locs ls kc ks hL hkc hks k => ?_
  have k := k ls hL.2.2
  rw [hx] at k
  exact lv_sipush X.1 X.2.1 hd hv k
theorem so_iload {a : Nat} (hd : decode cc (b i) = .ok (.iload a, 2)) (hx : b x = b i + 2) : pm_S cc nL own nm ret Y b i (pm_iload x a) := by
  intro p l e R s m args below meth c Q D aC z bS X lc st h o ho
  unfold pm_iload at ho
  split at ho
  · rename_i v hv
    cases ho
    refine pm_keep fun H locs ls kc ks hL hkc hks k => ?_
    have k := k ls hL.2.2
    rw [hx] at k
    exact lv_iload X.1 X.2.1 hd (hL.2.2.2.2.2 _ _ hv rfl) k
  · cases ho
theorem so_iloadn {a : Nat} {n : Fin 4} (hd : decode cc (b i) = .ok (.iload_n n, 1)) (hn : (n : Nat) = a) (hx : b x = b i + 1) : pm_S cc nL own nm ret Y b i (pm_iload x a) := by
  intro p l e R s m args below meth c Q D aC z bS X lc st h o ho
  unfold pm_iload at ho
  split at ho
  · rename_i v hv
    cases ho
    refine pm_keep fun H locs ls kc ks hL hkc hks k => ?_
    have k := k ls hL.2.2
    rw [hx] at k
    exact lv_iload_n X.1 X.2.1 hd hn (hL.2.2.2.2.2 _ _ hv rfl) k
  · cases ho
theorem so_aload {a : Nat} (hd : decode cc (b i) = .ok (.aload a, 2)) (hx : b x = b i + 2) : pm_S cc nL own nm ret Y b i (pm_aload x a) := by
  intro p l e R s m args below meth c Q D aC z bS X lc st h o ho
  unfold pm_aload at ho
  split at ho
  · rename_i v hv
    cases ho
    refine pm_keep fun H locs ls kc ks hL hkc hks k => ?_
    have k := k ls hL.2.2
    rw [hx] at k
    exact lv_aload X.1 X.2.1 hd (hL.2.2.2.2.2 _ _ hv rfl) k
  · rename_i v hv
    cases ho
    refine pm_keep fun H locs ls kc ks hL hkc hks k => ?_
    have k := k ls hL.2.2
    rw [hx] at k
    exact lv_aload X.1 X.2.1 hd (hL.2.2.2.2.2 _ _ hv rfl) k
  · cases ho
theorem so_aloadn {a : Nat} {n : Fin 4} (hd : decode cc (b i) = .ok (.aload_n n, 1)) (hn : (n : Nat) = a) (hx : b x = b i + 1) : pm_S cc nL own nm ret Y b i (pm_aload x a) := by
  intro p l e R s m args below meth c Q D aC z bS X lc st h o ho
  unfold pm_aload at ho
  split at ho
  · rename_i v hv
    cases ho
    refine pm_keep fun H locs ls kc ks hL hkc hks k => ?_
    have k := k ls hL.2.2
    rw [hx] at k
    exact lv_aload_n X.1 X.2.1 hd hn (hL.2.2.2.2.2 _ _ hv rfl) k
  · rename_i v hv
    cases ho
    refine pm_keep fun H locs ls kc ks hL hkc hks k => ?_
    have k := k ls hL.2.2
    rw [hx] at k
    exact lv_aload_n X.1 X.2.1 hd hn (hL.2.2.2.2.2 _ _ hv rfl) k
  · cases ho
theorem so_istore {a : Nat} (hd : decode cc (b i) = .ok (.istore a, 2)) (ha : a < nL) (hx : b x = b i + 2) : pm_S cc nL own nm ret Y b i (pm_istore x a) := by
  intro p l e R s m args below meth c Q D aC z bS X lc st h o ho
  unfold pm_istore at ho
  split at ho
  · rename_i v st'
    cases ho
    refine pm_keep fun H locs ls kc ks hL hkc hks k => ?_
    refine lv_istore X.1 X.2.1 hd hL.2.2.has ha rfl (fun ls' h' => ?_)
    have k := k ls' (hL.2.2.set rfl h')
    rw [hx] at k
    exact k
  · cases ho
theorem so_istoren {a : Nat} {n : Fin 4} (hd : decode cc (b i) = .ok (.istore_n n, 1)) (hn : (n : Nat) = a) (ha : a < nL) (hx : b x = b i + 1) : pm_S cc nL own nm ret Y b i (pm_istore x a) := by
  intro p l e R s m args below meth c Q D aC z bS X lc st h o ho
  unfold pm_istore at ho
  split at ho
  · rename_i v st'
    cases ho
    refine pm_keep fun H locs ls kc ks hL hkc hks k => ?_
    refine lv_istore_n X.1 X.2.1 hd hn hL.2.2.has ha rfl (fun ls' h' => ?_)
    have k := k ls' (hL.2.2.set rfl h')
    rw [hx] at k
    exact k
  · cases ho
theorem so_astore {a : Nat} (hd : decode cc (b i) = .ok (.astore a, 2)) (ha : a < nL) (hx : b x = b i + 2) : pm_S cc nL own nm ret Y b i (pm_astore x a) := by
  intro p l e R s m args below meth c Q D aC z bS X lc st h o ho
  unfold pm_astore at ho
  split at ho
  · rename_i v st'
    cases ho
    refine pm_keep fun H locs ls kc ks hL hkc hks k => ?_
    refine lv_astore X.1 X.2.1 hd hL.2.2.has ha rfl (fun ls' h' => ?_)
    have k := k ls' (hL.2.2.set rfl h')
    rw [hx] at k
    exact k
  · cases ho
theorem so_astoren {a : Nat} {n : Fin 4} (hd : decode cc (b i) = .ok (.astore_n n, 1)) (hn : (n : Nat) = a) (ha : a < nL) (hx : b x = b i + 1) : pm_S cc nL own nm ret Y b i (pm_astore x a) := by
  intro p l e R s m args below meth c Q D aC z bS X lc st h o ho
  unfold pm_astore at ho
  split at ho
  · rename_i v st'
    cases ho
    refine pm_keep fun H locs ls kc ks hL hkc hks k => ?_
    refine lv_astore_n X.1 X.2.1 hd hn hL.2.2.has ha rfl (fun ls' h' => ?_)
    have k := k ls' (hL.2.2.set rfl h')
    rw [hx] at k
    exact k
  · cases ho
theorem so_iinc {a : Nat} {n : Int} {v : Int32} (hd : decode cc (b i) = .ok (.iinc a n, 3)) (hv : Int32.ofInt n = v) (ha : a < nL) (hx : b x = b i + 3) : pm_S cc nL own nm ret Y b i (pm_iinc x a v) := by
  intro p l e R s m args below meth c Q D aC z bS X lc st h o ho
  unfold pm_iinc at ho
  split at ho
  · rename_i w hw
    cases ho
    refine pm_keep fun H locs ls kc ks hL hkc hks k => ?_
    obtain ⟨j, hj⟩ := List.getElem?_of_mem ((pm_ll_mem (z := z) (bS := bS) lc 0).mpr ⟨a, .int w, hw, rfl, rfl⟩)
    rw [Nat.zero_add] at hj
    refine lv_iinc X.1 X.2.1 hd hL.2.2.has hj (by rw [hv]) ha rfl (fun ls' h' => ?_)
    have k := k ls' (hL.2.2.set (v := .int (w + v)) rfl h')
    rw [hx] at k
    exact k
  · cases ho
theorem so_iadd (hd : decode cc (b i) = .ok (.iadd, 1)) (hx : b x = b i + 1) : pm_S cc nL own nm ret Y b i (pm_bin x (fun a b => a + b)) := by
  intro p l e R s m args below meth c Q D aC z bS X lc st h o ho
  unfold pm_bin at ho
  split at ho
  · cases ho
    refine pm_keep fun H locs ls kc ks hL hkc hks k => ?_
    have k := k ls hL.2.2
    rw [hx] at k
    exact lv_iadd X.1 X.2.1 hd k
  · cases ho
theorem so_isub (hd : decode cc (b i) = .ok (.isub, 1)) (hx : b x = b i + 1) : pm_S cc nL own nm ret Y b i (pm_bin x (fun a b => a - b)) := by
  intro p l e R s m args below meth c Q D aC z bS X lc st h o ho
  unfold pm_bin at ho
  split at ho
  · cases ho
    refine pm_keep fun H locs ls kc ks hL hkc hks k => ?_
    have k := k ls hL.2.2
    rw [hx] at k
    exact lv_isub X.1 X.2.1 hd k
  · cases ho
theorem so_imul (hd : decode cc (b i) = .ok (.imul, 1)) (hx : b x = b i + 1) : pm_S cc nL own nm ret Y b i (pm_bin x (fun a b => a * b)) := by
  intro p l e R s m args below meth c Q D aC z bS X lc st h o ho
  unfold pm_bin at ho
  split at ho
  · cases ho
    refine pm_keep fun H locs ls kc ks hL hkc hks k => ?_
    have k := k ls hL.2.2
    rw [hx] at k
    exact lv_imul X.1 X.2.1 hd k
  · cases ho
theorem so_iand (hd : decode cc (b i) = .ok (.iand, 1)) (hx : b x = b i + 1) : pm_S cc nL own nm ret Y b i (pm_bin x (fun a b => a &&& b)) := by
  intro p l e R s m args below meth c Q D aC z bS X lc st h o ho
  unfold pm_bin at ho
  split at ho
  · cases ho
    refine pm_keep fun H locs ls kc ks hL hkc hks k => ?_
    have k := k ls hL.2.2
    rw [hx] at k
    exact lv_iand X.1 X.2.1 hd k
  · cases ho
theorem so_ior (hd : decode cc (b i) = .ok (.ior, 1)) (hx : b x = b i + 1) : pm_S cc nL own nm ret Y b i (pm_bin x (fun a b => a ||| b)) := by
  intro p l e R s m args below meth c Q D aC z bS X lc st h o ho
  unfold pm_bin at ho
  split at ho
  · cases ho
    refine pm_keep fun H locs ls kc ks hL hkc hks k => ?_
    have k := k ls hL.2.2
    rw [hx] at k
    exact lv_ior X.1 X.2.1 hd k
  · cases ho
theorem so_ixor (hd : decode cc (b i) = .ok (.ixor, 1)) (hx : b x = b i + 1) : pm_S cc nL own nm ret Y b i (pm_bin x (fun a b => a ^^^ b)) := by
  intro p l e R s m args below meth c Q D aC z bS X lc st h o ho
  unfold pm_bin at ho
  split at ho
  · cases ho
    refine pm_keep fun H locs ls kc ks hL hkc hks k => ?_
    have k := k ls hL.2.2
    rw [hx] at k
    exact lv_ixor X.1 X.2.1 hd k
  · cases ho
theorem so_ishl (hd : decode cc (b i) = .ok (.ishl, 1)) (hx : b x = b i + 1) : pm_S cc nL own nm ret Y b i (pm_bin x (fun a b => a <<< (b &&& 31))) := by
  intro p l e R s m args below meth c Q D aC z bS X lc st h o ho
  unfold pm_bin at ho
  split at ho
  · cases ho
    refine pm_keep fun H locs ls kc ks hL hkc hks k => ?_
    have k := k ls hL.2.2
    rw [hx] at k
    exact lv_ishl X.1 X.2.1 hd k
  · cases ho
theorem so_ishr (hd : decode cc (b i) = .ok (.ishr, 1)) (hx : b x = b i + 1) : pm_S cc nL own nm ret Y b i (pm_bin x (fun a b => a >>> (b &&& 31))) := by
  intro p l e R s m args below meth c Q D aC z bS X lc st h o ho
  unfold pm_bin at ho
  split at ho
  · cases ho
    refine pm_keep fun H locs ls kc ks hL hkc hks k => ?_
    have k := k ls hL.2.2
    rw [hx] at k
    exact lv_ishr X.1 X.2.1 hd k
  · cases ho
theorem so_idiv (hd : decode cc (b i) = .ok (.idiv, 1)) (hx : b x = b i + 1) : pm_S cc nL own nm ret Y b i (pm_div x (fun a b => a / b)) := by
  intro p l e R s m args below meth c Q D aC z bS X lc st h o ho
  unfold pm_div at ho
  split at ho
  · split at ho
    · cases ho
    · rename_i hne
      cases ho
      refine pm_keep fun H locs ls kc ks hL hkc hks k => ?_
      have k := k ls hL.2.2
      rw [hx] at k
      exact lv_idiv X.1 X.2.1 hd hne k
  · cases ho
theorem so_irem (hd : decode cc (b i) = .ok (.irem, 1)) (hx : b x = b i + 1) : pm_S cc nL own nm ret Y b i (pm_div x (fun a b => a - a / b * b)) := by
  intro p l e R s m args below meth c Q D aC z bS X lc st h o ho
  unfold pm_div at ho
  split at ho
  · split at ho
    · cases ho
    · rename_i hne
      cases ho
      refine pm_keep fun H locs ls kc ks hL hkc hks k => ?_
      have k := k ls hL.2.2
      rw [hx] at k
      exact lv_irem X.1 X.2.1 hd hne k
  · cases ho
theorem so_dup (hd : decode cc (b i) = .ok (.dup, 1)) (hx : b x = b i + 1) : pm_S cc nL own nm ret Y b i (pm_dup x) := by
  intro p l e R s m args below meth c Q D aC z bS X lc st h o ho
  unfold pm_dup at ho
  split at ho
  · split at ho
    · rename_i hv
      cases ho
      refine pm_keep fun H locs ls kc ks hL hkc hks k => ?_
      have k := k ls hL.2.2
      rw [hx] at k
      exact lv_dup X.1 X.2.1 hd (pm_t_cat hv) k
    · cases ho
  · cases ho
theorem so_dupx1 (hd : decode cc (b i) = .ok (.dup_x1, 1)) (hx : b x = b i + 1) : pm_S cc nL own nm ret Y b i (pm_dupx1 x) := by
  intro p l e R s m args below meth c Q D aC z bS X lc st h o ho
  unfold pm_dupx1 at ho
  split at ho
  · split at ho
    · rename_i hv
      cases ho
      simp only [Bool.and_eq_true] at hv
      refine pm_keep fun H locs ls kc ks hL hkc hks k => ?_
      have k := k ls hL.2.2
      rw [hx] at k
      exact lv_dup_x1 X.1 X.2.1 hd (pm_t_cat hv.1) (pm_t_cat hv.2) k
    · cases ho
  · cases ho
theorem so_dup2 (hd : decode cc (b i) = .ok (.dup2, 1)) (hx : b x = b i + 1) : pm_S cc nL own nm ret Y b i (pm_dup2 x) := by
  intro p l e R s m args below meth c Q D aC z bS X lc st h o ho
  unfold pm_dup2 at ho
  split at ho
  · split at ho
    · rename_i hv
      cases ho
      simp only [Bool.and_eq_true] at hv
      refine pm_keep fun H locs ls kc ks hL hkc hks k => ?_
      have k := k ls hL.2.2
      rw [hx] at k
      exact lv_dup2_11 X.1 X.2.1 hd (pm_t_cat hv.1) (pm_t_cat hv.2) k
    · cases ho
  · cases ho
theorem so_pop (hd : decode cc (b i) = .ok (.pop, 1)) (hx : b x = b i + 1) : pm_S cc nL own nm ret Y b i (pm_pop x) := by
  intro p l e R s m args below meth c Q D aC z bS X lc st h o ho
  unfold pm_pop at ho
  split at ho
  · split at ho
    · rename_i hv
      cases ho
      refine pm_keep fun H locs ls kc ks hL hkc hks k => ?_
      have k := k ls hL.2.2
      rw [hx] at k
      exact lv_pop X.1 X.2.1 hd (pm_t_cat hv) k
    · cases ho
  · cases ho
theorem so_if_eq {t : Nat} {off : Int} (hd : decode cc (b i) = .ok (.ifCond .eq off, 3)) (ht : ((b i : Nat) : Int) + off = ((b t : Nat) : Int)) (hx : b x = b i + 3) : pm_S cc nL own nm ret Y b i (pm_if t x (fun a => decide (a = 0))) := by
  intro p l e R s m args below meth c Q D aC z bS X lc st h o ho
  unfold pm_if at ho
  split at ho
  · split at ho
    · rename_i hq
      cases ho
      rw [decide_eq_true_eq] at hq
      refine pm_keep fun H locs ls kc ks hL hkc hks k => ?_
      exact lv_if_eq X.1 X.2.1 hd ht (fun _ => k ls hL.2.2) (fun g => absurd hq g)
    · rename_i hq
      cases ho
      rw [decide_eq_true_eq] at hq
      refine pm_keep fun H locs ls kc ks hL hkc hks k => ?_
      have k := k ls hL.2.2
      rw [hx] at k
      exact lv_if_eq X.1 X.2.1 hd ht (fun g => absurd g hq) (fun _ => k)
  · cases ho
theorem so_icmp_eq {t : Nat} {off : Int} (hd : decode cc (b i) = .ok (.if_icmp .eq off, 3)) (ht : ((b i : Nat) : Int) + off = ((b t : Nat) : Int)) (hx : b x = b i + 3) : pm_S cc nL own nm ret Y b i (pm_icmp t x (fun a b => decide (a = b))) := by
  intro p l e R s m args below meth c Q D aC z bS X lc st h o ho
  unfold pm_icmp at ho
  split at ho
  · split at ho
    · rename_i hq
      cases ho
      rw [decide_eq_true_eq] at hq
      refine pm_keep fun H locs ls kc ks hL hkc hks k => ?_
      exact lv_icmp_eq X.1 X.2.1 hd ht (fun _ => k ls hL.2.2) (fun g => absurd hq g)
    · rename_i hq
      cases ho
      rw [decide_eq_true_eq] at hq
      refine pm_keep fun H locs ls kc ks hL hkc hks k => ?_
      have k := k ls hL.2.2
      rw [hx] at k
      exact lv_icmp_eq X.1 X.2.1 hd ht (fun g => absurd g hq) (fun _ => k)
  · cases ho
theorem so_if_ne {t : Nat} {off : Int} (hd : decode cc (b i) = .ok (.ifCond .ne off, 3)) (ht : ((b i : Nat) : Int) + off = ((b t : Nat) : Int)) (hx : b x = b i + 3) : pm_S cc nL own nm ret Y b i (pm_if t x (fun a => decide (a ≠ 0))) := by
  intro p l e R s m args below meth c Q D aC z bS X lc st h o ho
  unfold pm_if at ho
  split at ho
  · split at ho
    · rename_i hq
      cases ho
      rw [decide_eq_true_eq] at hq
      refine pm_keep fun H locs ls kc ks hL hkc hks k => ?_
      exact lv_if_ne X.1 X.2.1 hd ht (fun _ => k ls hL.2.2) (fun g => absurd g hq)
    · rename_i hq
      cases ho
      rw [decide_eq_true_eq] at hq
      refine pm_keep fun H locs ls kc ks hL hkc hks k => ?_
      have k := k ls hL.2.2
      rw [hx] at k
      exact lv_if_ne X.1 X.2.1 hd ht (fun g => absurd g hq) (fun _ => k)
  · cases ho
theorem so_icmp_ne {t : Nat} {off : Int} (hd : decode cc (b i) = .ok (.if_icmp .ne off, 3)) (ht : ((b i : Nat) : Int) + off = ((b t : Nat) : Int)) (hx : b x = b i + 3) : pm_S cc nL own nm ret Y b i (pm_icmp t x (fun a b => decide (a ≠ b))) := by
  intro p l e R s m args below meth c Q D aC z bS X lc st h o ho
  unfold pm_icmp at ho
  split at ho
  · split at ho
    · rename_i hq
      cases ho
      rw [decide_eq_true_eq] at hq
      refine pm_keep fun H locs ls kc ks hL hkc hks k => ?_
      exact lv_icmp_ne X.1 X.2.1 hd ht (fun _ => k ls hL.2.2) (fun g => absurd g hq)
    · rename_i hq
      cases ho
      rw [decide_eq_true_eq] at hq
      refine pm_keep fun H locs ls kc ks hL hkc hks k => ?_
      have k := k ls hL.2.2
      rw [hx] at k
      exact lv_icmp_ne X.1 X.2.1 hd ht (fun g => absurd g hq) (fun _ => k)
  · cases ho
theorem so_if_lt {t : Nat} {off : Int} (hd : decode cc (b i) = .ok (.ifCond .lt off, 3)) (ht : ((b i : Nat) : Int) + off = ((b t : Nat) : Int)) (hx : b x = b i + 3) : pm_S cc nL own nm ret Y b i (pm_if t x (fun a => decide (a < 0))) := by
  intro p l e R s m args below meth c Q D aC z bS X lc st h o ho
  unfold pm_if at ho
  split at ho
  · split at ho
    · rename_i hq
      cases ho
      rw [decide_eq_true_eq] at hq
      refine pm_keep fun H locs ls kc ks hL hkc hks k => ?_
      exact lv_if_lt X.1 X.2.1 hd ht (fun _ => k ls hL.2.2) (fun g => absurd hq g)
    · rename_i hq
      cases ho
      rw [decide_eq_true_eq] at hq
      refine pm_keep fun H locs ls kc ks hL hkc hks k => ?_
      have k := k ls hL.2.2
      rw [hx] at k
      exact lv_if_lt X.1 X.2.1 hd ht (fun g => absurd g hq) (fun _ => k)
  · cases ho
theorem so_icmp_lt {t : Nat} {off : Int} (hd : decode cc (b i) = .ok (.if_icmp .lt off, 3)) (ht : ((b i : Nat) : Int) + off = ((b t : Nat) : Int)) (hx : b x = b i + 3) : pm_S cc nL own nm ret Y b i (pm_icmp t x (fun a b => decide (a < b))) := by
  intro p l e R s m args below meth c Q D aC z bS X lc st h o ho
  unfold pm_icmp at ho
  split at ho
  · split at ho
    · rename_i hq
      cases ho
      rw [decide_eq_true_eq] at hq
      refine pm_keep fun H locs ls kc ks hL hkc hks k => ?_
      exact lv_icmp_lt X.1 X.2.1 hd ht (fun _ => k ls hL.2.2) (fun g => absurd hq g)
    · rename_i hq
      cases ho
      rw [decide_eq_true_eq] at hq
      refine pm_keep fun H locs ls kc ks hL hkc hks k => ?_
      have k := k ls hL.2.2
      rw [hx] at k
      exact lv_icmp_lt X.1 X.2.1 hd ht (fun g => absurd g hq) (fun _ => k)
  · cases ho
theorem so_if_ge {t : Nat} {off : Int} (hd : decode cc (b i) = .ok (.ifCond .ge off, 3)) (ht : ((b i : Nat) : Int) + off = ((b t : Nat) : Int)) (hx : b x = b i + 3) : pm_S cc nL own nm ret Y b i (pm_if t x (fun a => decide (0 ≤ a))) := by
  intro p l e R s m args below meth c Q D aC z bS X lc st h o ho
  unfold pm_if at ho
  split at ho
  · split at ho
    · rename_i hq
      cases ho
      rw [decide_eq_true_eq] at hq
      refine pm_keep fun H locs ls kc ks hL hkc hks k => ?_
      exact lv_if_ge X.1 X.2.1 hd ht (fun _ => k ls hL.2.2) (fun g => absurd hq g)
    · rename_i hq
      cases ho
      rw [decide_eq_true_eq] at hq
      refine pm_keep fun H locs ls kc ks hL hkc hks k => ?_
      have k := k ls hL.2.2
      rw [hx] at k
      exact lv_if_ge X.1 X.2.1 hd ht (fun g => absurd g hq) (fun _ => k)
  · cases ho
theorem so_icmp_ge {t : Nat} {off : Int} (hd : decode cc (b i) = .ok (.if_icmp .ge off, 3)) (ht : ((b i : Nat) : Int) + off = ((b t : Nat) : Int)) (hx : b x = b i + 3) : pm_S cc nL own nm ret Y b i (pm_icmp t x (fun a b => decide (b ≤ a))) := by
  intro p l e R s m args below meth c Q D aC z bS X lc st h o ho
  unfold pm_icmp at ho
  split at ho
  · split at ho
    · rename_i hq
      cases ho
      rw [decide_eq_true_eq] at hq
      refine pm_keep fun H locs ls kc ks hL hkc hks k => ?_
      exact lv_icmp_ge X.1 X.2.1 hd ht (fun _ => k ls hL.2.2) (fun g => absurd hq g)
    · rename_i hq
      cases ho
      rw [decide_eq_true_eq] at hq
      refine pm_keep fun H locs ls kc ks hL hkc hks k => ?_
      have k := k ls hL.2.2
      rw [hx] at k
      exact lv_icmp_ge X.1 X.2.1 hd ht (fun g => absurd g hq) (fun _ => k)
  · cases ho
theorem so_if_gt {t : Nat} {off : Int} (hd : decode cc (b i) = .ok (.ifCond .gt off, 3)) (ht : ((b i : Nat) : Int) + off = ((b t : Nat) : Int)) (hx : b x = b i + 3) : pm_S cc nL own nm ret Y b i (pm_if t x (fun a => decide (0 < a))) := by
  intro p l e R s m args below meth c Q D aC z bS X lc st h o ho
  unfold pm_if at ho
  split at ho
  · split at ho
    · rename_i hq
      cases ho
      rw [decide_eq_true_eq] at hq
      refine pm_keep fun H locs ls kc ks hL hkc hks k => ?_
      exact lv_if_gt X.1 X.2.1 hd ht (fun _ => k ls hL.2.2) (fun g => absurd hq g)
    · rename_i hq
      cases ho
      rw [decide_eq_true_eq] at hq
      refine pm_keep fun H locs ls kc ks hL hkc hks k => ?_
      have k := k ls hL.2.2
      rw [hx] at k
      exact lv_if_gt X.1 X.2.1 hd ht (fun g => absurd g hq) (fun _ => k)
  · cases ho
theorem so_icmp_gt {t : Nat} {off : Int} (hd : decode cc (b i) = .ok (.if_icmp .gt off, 3)) (ht : ((b i : Nat) : Int) + off = ((b t : Nat) : Int)) (hx : b x = b i + 3) : pm_S cc nL own nm ret Y b i (pm_icmp t x (fun a b => decide (b < a))) := by
  intro p l e R s m args below meth c Q D aC z bS X lc st h o ho
  unfold pm_icmp at ho
  split at ho
  · split at ho
    · rename_i hq
      cases ho
      rw [decide_eq_true_eq] at hq
      refine pm_keep fun H locs ls kc ks hL hkc hks k => ?_
      exact lv_icmp_gt X.1 X.2.1 hd ht (fun _ => k ls hL.2.2) (fun g => absurd hq g)
    · rename_i hq
      cases ho
      rw [decide_eq_true_eq] at hq
      refine pm_keep fun H locs ls kc ks hL hkc hks k => ?_
      have k := k ls hL.2.2
      rw [hx] at k
      exact lv_icmp_gt X.1 X.2.1 hd ht (fun g => absurd g hq) (fun _ => k)
  · cases ho
theorem so_if_le {t : Nat} {off : Int} (hd : decode cc (b i) = .ok (.ifCond .le off, 3)) (ht : ((b i : Nat) : Int) + off = ((b t : Nat) : Int)) (hx : b x = b i + 3) : pm_S cc nL own nm ret Y b i (pm_if t x (fun a => decide (a ≤ 0))) := by
  intro p l e R s m args below meth c Q D aC z bS X lc st h o ho
  unfold pm_if at ho
  split at ho
  · split at ho
    · rename_i hq
      cases ho
      rw [decide_eq_true_eq] at hq
      refine pm_keep fun H locs ls kc ks hL hkc hks k => ?_
      exact lv_if_le X.1 X.2.1 hd ht (fun _ => k ls hL.2.2) (fun g => absurd hq g)
    · rename_i hq
      cases ho
      rw [decide_eq_true_eq] at hq
      refine pm_keep fun H locs ls kc ks hL hkc hks k => ?_
      have k := k ls hL.2.2
      rw [hx] at k
      exact lv_if_le X.1 X.2.1 hd ht (fun g => absurd g hq) (fun _ => k)
  · cases ho
theorem so_icmp_le {t : Nat} {off : Int} (hd : decode cc (b i) = .ok (.if_icmp .le off, 3)) (ht : ((b i : Nat) : Int) + off = ((b t : Nat) : Int)) (hx : b x = b i + 3) : pm_S cc nL own nm ret Y b i (pm_icmp t x (fun a b => decide (a ≤ b))) := by
  intro p l e R s m args below meth c Q D aC z bS X lc st h o ho
  unfold pm_icmp at ho
  split at ho
  · split at ho
    · rename_i hq
      cases ho
      rw [decide_eq_true_eq] at hq
      refine pm_keep fun H locs ls kc ks hL hkc hks k => ?_
      exact lv_icmp_le X.1 X.2.1 hd ht (fun _ => k ls hL.2.2) (fun g => absurd hq g)
    · rename_i hq
      cases ho
      rw [decide_eq_true_eq] at hq
      refine pm_keep fun H locs ls kc ks hL hkc hks k => ?_
      have k := k ls hL.2.2
      rw [hx] at k
      exact lv_icmp_le X.1 X.2.1 hd ht (fun g => absurd g hq) (fun _ => k)
  · cases ho
theorem so_goto {t : Nat} {off : Int} (hd : decode cc (b i) = .ok (.goto off, 3)) (ht : ((b i : Nat) : Int) + off = ((b t : Nat) : Int)) : pm_S cc nL own nm ret Y b i (pm_goto t) := by
  intro p l e R s m args below meth c Q D aC z bS X lc st h o ho
  cases ho
  refine pm_keep fun H locs ls kc ks hL hkc hks k => ?_
  exact lv_goto X.1 X.2.1 hd ht (k ls hL.2.2)
theorem so_vret (hd : decode cc (b i) = .ok (.return_, 1)) (hr : ret = none) : pm_S cc nL own nm ret Y b i (pm_vret) := by
  intro p l e R s m args below meth c Q D aC z bS X lc st h o ho
  unfold pm_vret at ho
  split at ho
  · cases ho
    exact ⟨rfl, rfl, hd, hr⟩
  · cases ho
theorem so_iret (hd : decode cc (b i) = .ok (.ireturn, 1)) (hr : ret = some .int) : pm_S cc nL own nm ret Y b i (pm_iret) := by
  intro p l e R s m args below meth c Q D aC z bS X lc st h o ho
  unfold pm_iret at ho
  split at ho
  · cases ho
    exact ⟨rfl, rfl, hd, .int, hr, rfl⟩
  · cases ho
theorem so_zret (hd : decode cc (b i) = .ok (.ireturn, 1)) (hr : ret = some .boolean) : pm_S cc nL own nm ret Y b i (pm_zret) := by
  intro p l e R s m args below meth c Q D aC z bS X lc st h o ho
  unfold pm_zret at ho
  split at ho
  · split at ho
    · rename_i hv
      cases ho
      refine ⟨rfl, rfl, hd, .boolean, hr, ?_⟩
      simp only [Bool.or_eq_true, beq_iff_eq] at hv
      rcases hv with rfl | rfl <;> rfl
    · cases ho
  · cases ho
theorem so_aret {C : String} (hd : decode cc (b i) = .ok (.areturn, 1)) (hr : ret = some (.object C)) : pm_S cc nL own nm ret Y b i (pm_aret) := by
  intro p l e R s m args below meth c Q D aC z bS X lc st h o ho
  unfold pm_aret at ho
  split at ho
  · cases ho
    exact ⟨rfl, rfl, hd, C, hr⟩
  · cases ho
end OPS
