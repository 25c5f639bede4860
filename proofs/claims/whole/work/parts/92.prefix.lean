/-! part 92: struck, the two tables laid -/
section STW
theorem valueAt_eq {s : Int32} {b : Int64} {mm : Int32} {A : Nat → Int32} (h : Rx s b mm A) {n i : Nat} (hs : mm = Int32.ofNat n) (hn : n ≤ 40) (hi : i < n) : fX6_valueAt s b (Int32.ofNat i) = A i := by
  obtain ⟨n', hn', e1, e2, hA⟩ := h
  have hnn : n' = n := (i32_eq (by omega) (by omega)).mp (by rw [← e2, hs])
  subst hnn
  subst e1
  unfold fX6_valueAt
  rw [if_neg (fun z => by have := (i32_lt (b := 0) (by omega) (by decide)).mp z; omega), if_pos ((i32_lt (by omega) (by omega)).mpr hi), hA i hi, i32_pred (by omega) (by omega), i32_sub (by omega)]
  rw [show ((Int32.ofNat (n' - 1 - i)).toInt64.toUInt64 &&& Int64.toUInt64 63) = UInt64.ofNat (n' - 1 - i) from sh32u ⟨n' - 1 - i, by omega⟩, low_dg _ (w := 1) (by decide) 1 rfl, ushr_dg b (by omega)]
  congr 1
  have e2 : (b.toBitVec.toNat >>> (n' - 1 - i)) % 2 ^ 1 = dg b (n' - 1 - i) 1 := rfl
  rw [e2]
  apply Nat.eq_of_testBit_eq
  intro j
  rw [dg_bit]
  by_cases h : j < 1
  · obtain rfl : j = 0 := by omega
    cases hb : bt b (n' - 1 - i) <;> simp [hb]
  · have h3 : (bt b (n' - 1 - i)).toNat.testBit j = false := by
      apply Nat.testBit_lt_two_pow
      have : 2 ^ 1 ≤ 2 ^ j := Nat.pow_le_pow_right (by decide) (by omega)
      cases bt b (n' - 1 - i) <;> simp <;> omega
    simp [h, h3]
variable {a b : Nat → Int32} {n1 n2 : Nat} {s2 s5 : Int32} {b2 b5 : Int64} {F : Nat}
theorem common_row (h1 : n1 ≤ 40) (h2 : n2 ≤ 40) (hva : ∀ i, i < n1 → fX6_valueAt (Int32.ofNat n1) b2 (Int32.ofNat i) = a i) (hvb : ∀ j, j < n2 → fX6_valueAt (Int32.ofNat n2) b5 (Int32.ofNat j) = b j) (hF : 100 ≤ F) {i : Nat} (hi : i < n1) (A4 : Nat → Int32) (hA : ∀ j, j ≤ n2 → cAt 41 A4 (Int32.ofNat j) = Int32.ofNat (pT a b i j)) : ∃ B, gloop (fun u4 : (Int32 × Int32 × (Nat → Int32)) => fX6_commonWith_S23 F (Int32.ofNat n1) b2 (Int32.ofNat n2) b5 (Int32.ofNat i) u4.1 u4.2.1 u4.2.2) F (0, 1, A4) = some B ∧ ∀ j, j ≤ n2 → cAt 41 B (Int32.ofNat j) = Int32.ofNat (pT a b (i + 1) j) := by
  refine gl_ix (st := fun u4 : (Int32 × Int32 × (Nat → Int32)) => fX6_commonWith_S23 F (Int32.ofNat n1) b2 (Int32.ofNat n2) b5 (Int32.ofNat i) u4.1 u4.2.1 u4.2.2) (fun k s => s.1 = Int32.ofNat (pT a b i k) ∧ s.2.1 = Int32.ofNat (k + 1) ∧ ∀ j, j ≤ n2 → cAt 41 s.2.2 (Int32.ofNat j) = Int32.ofNat (if j ≤ k then pT a b (i + 1) j else pT a b i j)) (fun B => ∀ j, j ≤ n2 → cAt 41 B (Int32.ofNat j) = Int32.ofNat (pT a b (i + 1) j)) n2 ?_ ?_ F 0 (0, 1, A4) (Nat.zero_le _) ⟨?_, rfl, fun j hj => ?_⟩ (by omega)
  · rintro k ⟨v3, v4, B⟩ hk ⟨g1, g2, g3⟩
    dsimp only at g1 g2 g3 ⊢
    subst g1 g2
    have e1 := g3 (k + 1) (by omega)
    have e0 := g3 k (by omega)
    rw [if_neg (by omega)] at e1
    rw [if_pos (Nat.le_refl _)] at e0
    have p1 := pT_le a b i k
    have p2 := pT_le a b i (k + 1)
    have p3 := pT_le a b (i + 1) k
    have hst := pT_step a b i k
    have fin : ∀ w : Nat, w = pT a b (i + 1) (k + 1) → ∃ s', fX6_commonWith_J87 F (Int32.ofNat n1) b2 (Int32.ofNat n2) b5 (Int32.ofNat i) (Int32.ofNat (k + 1)) (Int32.ofNat (pT a b i (k + 1))) (Int32.ofNat w) (Int32.ofNat (k + 1)) B = some (.inr s') ∧ s'.1 = Int32.ofNat (pT a b i (k + 1)) ∧ s'.2.1 = Int32.ofNat (k + 1 + 1) ∧ ∀ j, j ≤ n2 → cAt 41 s'.2.2 (Int32.ofNat j) = Int32.ofNat (if j ≤ k + 1 then pT a b (i + 1) j else pT a b i j) := by
      intro w hw
      unfold fX6_commonWith_J87
      refine ⟨_, rfl, rfl, i32_succ _, fun j hj => ?_⟩
      show cAt 41 (cPut 41 B (Int32.ofNat (k + 1)) (Int32.ofNat w)) (Int32.ofNat j) = _
      rw [cAt_put (by omega) (by decide) (by omega)]
      by_cases h : j = k + 1
      · subst h; rw [if_pos rfl, if_pos (Nat.le_refl _), hw]
      · rw [if_neg h, g3 j hj]
        by_cases h2 : j ≤ k
        · rw [if_pos h2, if_pos (by omega)]
        · rw [if_neg h2, if_neg (by omega)]
    unfold fX6_commonWith_S23
    rw [if_neg (fun z => by have := (i32_lt (by omega) (by omega)).mp z; omega), i32_pred (by omega) (by omega), Nat.add_sub_cancel, hva i hi, hvb k hk, e1, e0, i32_succ]
    by_cases h : a i = b k
    · rw [if_pos h] at hst ⊢
      exact fin _ hst.symm
    · rw [if_neg h] at hst ⊢
      by_cases hl : pT a b i (k + 1) < pT a b (i + 1) k
      · rw [if_pos ((i32_lt (by omega) (by omega)).mpr hl)]
        exact fin _ (by omega)
      · rw [if_neg (fun z => hl ((i32_lt (by omega) (by omega)).mp z))]
        exact fin _ (by omega)
  · rintro ⟨v3, v4, B⟩ ⟨g1, g2, g3⟩
    dsimp only at g1 g2 g3 ⊢
    subst g2
    unfold fX6_commonWith_S23
    rw [if_pos ((i32_lt (by omega) (by omega)).mpr (by omega))]
    exact ⟨_, rfl, fun j hj => by rw [g3 j hj, if_pos hj]⟩
  · show (0 : Int32) = _
    rw [pT_up]
    rfl
  · show cAt 41 A4 (Int32.ofNat j) = _
    rw [hA j hj]
    by_cases h : j ≤ 0
    · have : j = 0 := by omega
      subst this
      rw [if_pos (Nat.le_refl _), pT_up, pT_up]
    · rw [if_neg h]
theorem common_eq (h1 : n1 ≤ 40) (h2 : n2 ≤ 40) (hva : ∀ i, i < n1 → fX6_valueAt (Int32.ofNat n1) b2 (Int32.ofNat i) = a i) (hvb : ∀ j, j < n2 → fX6_valueAt (Int32.ofNat n2) b5 (Int32.ofNat j) = b j) (hF : 100 ≤ F) (A4 : Nat → Int32) : ∃ B, fX6_commonWith F (Int32.ofNat n1) b2 (Int32.ofNat n2) b5 A4 = some (Int32.ofNat (pT a b n1 n2), B) := by
  have key := gl_ix (st := fun u2 : (Int32 × (Nat → Int32)) => fX6_commonWith_S10 F (Int32.ofNat n1) b2 (Int32.ofNat n2) b5 u2.1 u2.2) (fun i s => s.1 = Int32.ofNat i ∧ ∀ j, j ≤ n2 → cAt 41 s.2 (Int32.ofNat j) = Int32.ofNat (pT a b i j)) (fun B => ∀ j, j ≤ n2 → cAt 41 B (Int32.ofNat j) = Int32.ofNat (pT a b n1 j)) n1 ?_ ?_ F 0 (0, cFill 41 A4 0) (Nat.zero_le _) ⟨rfl, fun j hj => ?_⟩ (by omega)
  · obtain ⟨B, e, h⟩ := key
    unfold fX6_commonWith
    rw [e, Option.bind_some, h n2 (Nat.le_refl _)]
    exact ⟨B, rfl⟩
  · rintro i ⟨v2, B⟩ hi ⟨g1, g2⟩
    dsimp only at g1 g2 ⊢
    subst g1
    unfold fX6_commonWith_S10
    obtain ⟨C, e, h⟩ := common_row h1 h2 hva hvb hF hi B g2
    rw [if_neg (fun z => by have := (i32_le (by omega) (by omega)).mp z; omega), e, i32_succ]
    exact ⟨_, rfl, rfl, h⟩
  · rintro ⟨v2, B⟩ ⟨g1, g2⟩
    dsimp only at g1 g2 ⊢
    subst g1
    unfold fX6_commonWith_S10
    rw [if_pos ((i32_le (by omega) (by omega)).mpr (Nat.le_refl _))]
    exact ⟨_, rfl, g2⟩
  · show cAt 41 (cFill 41 A4 0) (Int32.ofNat j) = _
    rw [cAt_nat (by omega) (by decide), pT_left]
    show (if j < 41 then (0 : Int32) else A4 j) = _
    rw [if_pos (by omega)]
    rfl
end STW
