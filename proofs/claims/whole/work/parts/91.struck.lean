/-! part 91: struck -/
section STR
variable (a b : Nat → Int32) (n1 n2 : Nat)
def pL (i : Nat) : List Int32 := ((List.range i).map a).reverse
theorem pL_succ (i : Nat) : pL a (i + 1) = a i :: pL a i := by
  unfold pL
  rw [List.range_succ, List.map_append, List.reverse_append]
  rfl
def sL (i : Nat) : List Int32 := ((List.range n1).map a).drop i
theorem sL_succ {i : Nat} (h : i < n1) : sL a n1 i = a i :: sL a n1 (i + 1) := by
  unfold sL
  rw [List.drop_eq_getElem_cons (by rw [List.length_map, List.length_range]; exact h)]
  simp
theorem sL_all : sL a n1 n1 = [] := by
  unfold sL
  exact List.drop_eq_nil_of_le (by rw [List.length_map, List.length_range]; exact Nat.le_refl _)
def pT (i j : Nat) : Nat := lc (pL a i) (pL b j)
def sT (i j : Nat) : Nat := lc (sL a n1 i) (sL b n2 j)
theorem pT_left (j : Nat) : pT a b 0 j = 0 := lc_nil' _
theorem pT_up (i : Nat) : pT a b i 0 = 0 := lc_nil _
theorem pT_step (i j : Nat) : pT a b (i + 1) (j + 1) = if a i = b j then pT a b i j + 1 else max (pT a b i (j + 1)) (pT a b (i + 1) j) := by
  by_cases h : a i = b j
  · rw [if_pos h]
    show lc (pL a (i + 1)) (pL b (j + 1)) = lc (pL a i) (pL b j) + 1
    rw [pL_succ, pL_succ, lc_same h]
  · rw [if_neg h]
    show lc (pL a (i + 1)) (pL b (j + 1)) = max (lc (pL a i) (pL b (j + 1))) (lc (pL a (i + 1)) (pL b j))
    rw [pL_succ, pL_succ, lc_other h]
theorem sT_left (j : Nat) : sT a b n1 n2 n1 j = 0 := by unfold sT; rw [sL_all]; exact lc_nil' _
theorem sT_up (i : Nat) : sT a b n1 n2 i n2 = 0 := by unfold sT; rw [sL_all]; exact lc_nil _
theorem sT_step {i j : Nat} (hi : i < n1) (hj : j < n2) : sT a b n1 n2 i j = if a i = b j then sT a b n1 n2 (i + 1) (j + 1) + 1 else max (sT a b n1 n2 (i + 1) j) (sT a b n1 n2 i (j + 1)) := by
  by_cases h : a i = b j
  · rw [if_pos h]
    show lc (sL a n1 i) (sL b n2 j) = lc (sL a n1 (i + 1)) (sL b n2 (j + 1)) + 1
    rw [sL_succ a n1 hi, sL_succ b n2 hj, lc_same h]
  · rw [if_neg h]
    show lc (sL a n1 i) (sL b n2 j) = max (lc (sL a n1 (i + 1)) (sL b n2 j)) (lc (sL a n1 i) (sL b n2 (j + 1)))
    rw [sL_succ a n1 hi, sL_succ b n2 hj, lc_other h]
theorem both_T : pT a b n1 n2 = sT a b n1 n2 0 0 := by
  show lc ((List.range n1).map a).reverse ((List.range n2).map b).reverse = lc (((List.range n1).map a).drop 0) (((List.range n2).map b).drop 0)
  rw [lc_rev, List.drop_zero, List.drop_zero]
theorem pT_le (i j : Nat) : pT a b i j ≤ i := by
  obtain ⟨⟨l, l1, l2, l3⟩, _⟩ := lc_max _ (pL a i) (pL b j) (Nat.le_refl _)
  have := l1.length_le
  unfold pT
  unfold pL at this l3 ⊢
  rw [List.length_reverse, List.length_map, List.length_range] at this
  omega
theorem sT_le (i j : Nat) : sT a b n1 n2 i j ≤ n1 := by
  obtain ⟨⟨l, l1, l2, l3⟩, _⟩ := lc_max _ (sL a n1 i) (sL b n2 j) (Nat.le_refl _)
  have := l1.length_le
  unfold sT
  unfold sL at this l3 ⊢
  rw [List.length_drop, List.length_map, List.length_range] at this
  omega
end STR
