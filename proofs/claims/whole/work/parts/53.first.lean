/-! part 53: last and seen: the same answers, the same states after -/
theorem i32_int {n : Nat} (h : n < 2 ^ 31) : (Int32.ofNat n).toInt = n := Int32.toInt_ofNat_of_lt h
theorem i32_dig {x : Int32} {n : Nat} (hn : n < 2 ^ 31) (h0 : ¬ x < 0) (h1 : x < Int32.ofNat n) : ∃ k, k < n ∧ x = Int32.ofNat k := by
  rw [Int32.lt_iff_toInt_lt] at h0 h1
  rw [i32_int hn] at h1
  have h0 : (0 : Int) ≤ x.toInt := by
    have : (0 : Int32).toInt = 0 := rfl
    omega
  refine ⟨x.toInt.toNat, by omega, ?_⟩
  apply Int32.toInt_inj.mp
  rw [i32_int (by omega)]
  omega
theorem i32_pred {n : Nat} (h : 1 ≤ n) (hn : n < 2 ^ 31) : Int32.ofNat n - 1 = Int32.ofNat (n - 1) := by
  obtain ⟨k, rfl⟩ : ∃ k, n = k + 1 := ⟨n - 1, by omega⟩
  rw [Nat.add_sub_cancel, Int32.ofNat_add]
  exact Int32.add_sub_cancel _ _
theorem within_below {p : Int32} {n : Nat} (h : 1 ≤ n) (hn : n < 2 ^ 31) : fX12_within p 0 (Int32.ofNat n - 1) = if p < 0 then 0 else (if Int32.ofNat n ≤ p then 0 else 1) := by
  unfold fX12_within
  rw [i32_pred h hn]
  by_cases h1 : p < 0
  · rw [if_pos h1, if_pos h1]
  · rw [if_neg h1, if_neg h1]
    have e : (Int32.ofNat (n - 1) < p) ↔ (Int32.ofNat n ≤ p) := by
      rw [Int32.lt_iff_toInt_lt, Int32.le_iff_toInt_le, i32_int hn, i32_int (by omega)]
      omega
    by_cases h2 : Int32.ofNat n ≤ p
    · rw [if_pos h2, if_pos (e.mpr h2)]
    · rw [if_neg h2, if_neg (fun z => h2 (e.mp z))]
theorem label_eq {p : Int32} {n : Nat} (h : 1 ≤ n) (hn : n < 2 ^ 31) : fX12_isLabel (Int32.ofNat n) p = fX7_hasLabel (Int32.ofNat n) p := by
  unfold fX12_isLabel fX7_hasLabel
  exact within_below h hn
theorem label_dig {p : Int32} {n : Nat} (hn : n < 2 ^ 31) (h : ¬ fX7_hasLabel (Int32.ofNat n) p = 0) : ∃ k, k < n ∧ p = Int32.ofNat k := by
  unfold fX7_hasLabel at h
  by_cases h1 : p < 0
  · rw [if_pos h1] at h; exact absurd rfl h
  · rw [if_neg h1] at h
    by_cases h2 : Int32.ofNat n ≤ p
    · rw [if_pos h2] at h; exact absurd rfl h
    · refine i32_dig hn h1 ?_
      rw [Int32.le_iff_toInt_le] at h2
      rw [Int32.lt_iff_toInt_lt]
      omega
theorem withLast_put (c : Int64) {v : Nat} (hv : v < 4) : IsPut c (fX7_withLast c (Int32.ofNat v)) 40 2 v := by
  have e : fX7_withLast c (Int32.ofNat v) = fX7_withDigit c (Int32.ofNat 40) (Int32.ofNat v) := by
    unfold fX7_withLast fX7_withDigit
    rw [show (((3 : Int64) <<< ((Int32.ofNat 40).toInt64 &&& 63)) ^^^ ((-1) : Int64)) = ((-3298534883329) : Int64) by decide +kernel]
    rfl
  rw [e]
  exact fX7_withDigit_put c (by decide) hv
theorem last_eq {c m : Int64} {n : Nat} (h : 1 ≤ n) (hn : n ≤ 4) (hS : Sx c m) (th p : Int32) : (fX12_last (Int32.ofNat n) m th p).1 = (fX11_last (Int32.ofNat n) c p).1 ∧ Sx (fX11_last (Int32.ofNat n) c p).2 (fX12_last (Int32.ofNat n) m th p).2.1 := by
  unfold fX12_last fX11_last
  rw [label_eq h (by omega)]
  by_cases h1 : fX7_hasLabel (Int32.ofNat n) p = 0
  · rw [if_pos h1, if_pos h1]
    exact ⟨rfl, hS⟩
  · rw [if_neg h1, if_neg h1]
    obtain ⟨k, hk, rfl⟩ := label_dig (by omega) h1
    refine ⟨?_, hS.put blk_last (withLast_put c (by omega)) (fX12_put_put m (n := 7) (w := 2) (by decide) (by decide) (by decide) (by omega))⟩
    show fX12_get m 7 2 = fX7_lastOf c
    rw [fX7_lastOf_dg, show fX12_get m 7 2 = Int32.ofNat (dg m 7 2) from fX12_get_dg m (n := 7) (w := 2) (by decide) (by decide) (by decide), hS.dg blk_last]
theorem kind_eq {p v : Int32} {n : Nat} (h : 1 ≤ n) (hn : n < 2 ^ 31) : fX12_isSort (Int32.ofNat n) p v = fX7_hasKind (Int32.ofNat n) p v := by
  unfold fX12_isSort fX7_hasKind
  rw [label_eq h hn]
  by_cases h1 : fX7_hasLabel (Int32.ofNat n) p = 0
  · rw [if_pos h1, if_pos h1]
  · rw [if_neg h1, if_neg h1]
    by_cases h2 : v = 0
    · subst h2; rfl
    · by_cases h3 : v = 1
      · subst h3; rfl
      · rw [if_neg h2, if_neg h3]
        have : fX12_within v 0 1 = 0 := by
          unfold fX12_within
          by_cases h4 : v < 0
          · rw [if_pos h4]
          · rw [if_neg h4]
            by_cases h5 : (1 : Int32) < v
            · rw [if_pos h5]
            · exfalso
              have h6 : v < Int32.ofNat 2 := by
                rw [Int32.lt_iff_toInt_lt] at h5 ⊢
                rw [i32_int (by decide)]
                have : (1 : Int32).toInt = 1 := rfl
                omega
              obtain ⟨k, hk, rfl⟩ := i32_dig (n := 2) (by decide) h4 h6
              rcases (show k = 0 ∨ k = 1 by omega) with rfl | rfl
              · exact h2 rfl
              · exact h3 rfl
        rw [this]; rfl
theorem kind_dig {p v : Int32} {n : Nat} (hn : n ≤ 4) (h : ¬ fX7_hasKind (Int32.ofNat n) p v = 0) : ∃ k : Fin 8, 2 * p + v = Int32.ofNat k.val ∧ ∃ a b : Nat, a < n ∧ b < 2 ∧ p = Int32.ofNat a ∧ v = Int32.ofNat b ∧ k.val = 2 * a + b := by
  unfold fX7_hasKind at h
  by_cases h1 : fX7_hasLabel (Int32.ofNat n) p = 0
  · rw [if_pos h1] at h; exact absurd rfl h
  · rw [if_neg h1] at h
    obtain ⟨a, ha, rfl⟩ := label_dig (by omega) h1
    have hv : ∃ b : Nat, b < 2 ∧ v = Int32.ofNat b := by
      by_cases h2 : v = 0
      · exact ⟨0, by decide, h2⟩
      · by_cases h3 : v = 1
        · exact ⟨1, by decide, h3⟩
        · rw [if_neg h2, if_neg h3] at h; exact absurd rfl h
    obtain ⟨b, hb, rfl⟩ := hv
    have key : ∀ (x : Fin 4) (y : Fin 2), 2 * Int32.ofNat x.val + Int32.ofNat y.val = Int32.ofNat (2 * x.val + y.val) := by decide +kernel
    exact ⟨⟨2 * a + b, by omega⟩, key ⟨a, by omega⟩ ⟨b, hb⟩, a, b, ha, hb, rfl, rfl, rfl⟩
