section ENDS
variable {d : Nat} {SL : Nat} {S : Nat → Nat × Nat} {A : Nat → Nat → Int32} {P : Nat → Nat → Option Nat}
variable {n : Nat} {SZ bq : Nat → Nat} {T st rc : Nat} {D TM TH : Nat → Nat} {FB FP : Nat → Nat → Nat}
theorem sm_ge {f : Nat → Nat} {i : Nat} : ∀ m, i < m → f i ≤ sm f m
  | 0, h => absurd h (Nat.not_lt_zero _)
  | m + 1, h => by
    by_cases hm : i = m
    · subst hm; simp only [sm]; omega
    · have := sm_ge (f := f) m (show i < m by omega)
      simp only [sm]; omega
theorem tm_pos {t n0 l o : Nat} {os : List Nat} (it : IT n SZ T st D FB FP A) (il : IL T D FB FP TM A) (htT : t < T) (hD : D t = n0 + 1) (hl4 : l < 4) (hs : bk_st (KS A (FB t n0)) (FP t n0) = o :: os) (h4 : KS A (FB t n0) o = 4) (hnm : NS A (FB t n0) o = nI l) : 0 < TM l := by
  rw [(il.lks (by omega) l hl4).2.2.2.1]
  have a : ct A (FB t) (FP t) (D t) l ≤ tot A FB FP D T l := sm_ge (f := fun u => ct A (FB u) (FP u) (D u) l) T htT
  have b : cs (KS A (FB t n0)) (NS A (FB t n0)) l (bk_st (KS A (FB t n0)) (FP t n0)) ≤ ct A (FB t) (FP t) (D t) l := sm_ge (f := fun j => cs (KS A (FB t j)) (NS A (FB t j)) l (bk_st (KS A (FB t j)) (FP t j))) (D t) (by omega)
  rw [hs, cs, if_pos ⟨h4, hnm⟩] at b
  omega
end ENDS
