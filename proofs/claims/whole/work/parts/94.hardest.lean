/-! part 94: the hardest state -/
section HARD
variable {n : Nat} {W : Nat → Nat} {F : Nat}
def best (W : Nat → Nat) : Nat → Nat
  | 0 => 0
  | k + 1 => if W (k + 1) ≤ W (best W k) then best W k else k + 1
theorem best_le (k : Nat) : best W k ≤ k := by
  induction k with
  | zero => exact Nat.le_refl _
  | succ k ih =>
    show (if W (k + 1) ≤ W (best W k) then best W k else k + 1) ≤ k + 1
    split <;> omega
theorem best_top (hW : ∀ s, s < n → W s ≤ 1000000) {k : Nat} (h : W (best W k) = 1000000) : ∀ j, k ≤ j → j < n → best W j = best W k := by
  intro j
  induction j with
  | zero => intro h1 _; rw [show k = 0 by omega]
  | succ j ih =>
    intro h1 h2
    by_cases he : k = j + 1
    · rw [he]
    · have := ih (by omega) (by omega)
      show (if W (j + 1) ≤ W (best W j) then best W j else j + 1) = best W k
      rw [this, h, if_pos (hW _ h2)]
theorem told_le {x y : Nat} (hx : x < 1000000) (hy : y < 1000000) : (fX12_told (Int32.ofNat x) ≤ fX12_told (Int32.ofNat y)) ↔ x ≤ y := by
  rw [← td_told (by omega), ← td_told (by omega)]
  unfold td
  rw [if_pos hx, if_pos hy]
  exact i32_le (by omega) (by omega)
theorem hardest_eq (hn1 : 1 ≤ n) (hn6 : n ≤ 6000) (hW : ∀ s, s < n → W s ≤ 1000000) {A44 : Nat → Int32} (hA : ∀ s, s < n → cAt 6000 A44 (Int32.ofNat s) = fX12_told (Int32.ofNat (W s))) (hF : 70000 ≤ F) : fX4_hardest F A44 (Int32.ofNat n) = some (Int32.ofNat (best W (n - 1))) := by
  have key := gl_inv (st := fun u1 : (Int32 × Int32) => fX4_hardest_S4 F A44 (Int32.ofNat n) u1.1 u1.2) (fun s => ∃ k, k < n ∧ s = (Int32.ofNat (best W k), Int32.ofNat (k + 1))) (fun s => n - s.2.toNatClampNeg) (fun r => r = Int32.ofNat (best W (n - 1))) ?_ F (0, 1) ⟨0, by omega, rfl⟩ (by show n - (1 : Int32).toNatClampNeg < F; omega)
  · obtain ⟨r, e, h⟩ := key
    unfold fX4_hardest
    rw [e, Option.bind_some, h]
  · rintro s ⟨k, hk, rfl⟩
    have hb := best_le (W := W) k
    have hWb := hW (best W k) (by omega)
    unfold fX4_hardest_S4
    dsimp only
    by_cases hkn : n ≤ k + 1
    · rw [if_pos ((i32_le (by omega) (by omega)).mpr hkn)]
      exact Or.inl ⟨_, rfl, by rw [show n - 1 = k by omega]⟩
    · have hW1 := hW (k + 1) (by omega)
      rw [if_neg (fun z => hkn ((i32_le (by omega) (by omega)).mp z)), hA _ (show best W k < n by omega), hA _ (show k + 1 < n by omega)]
      by_cases ht : fX12_told (Int32.ofNat (W (best W k))) = -2
      · rw [if_pos ht]
        have hle := (told_far hWb).mp ht
        have hle2 : 1000000 ≤ W (best W k) := (i32_le (a := 1000000) (by decide) (by omega)).mp hle
        exact Or.inl ⟨_, rfl, by rw [best_top hW (show W (best W k) = 1000000 by omega) (n - 1) (by omega) (by omega)]⟩
      · have hlt : W (best W k) < 1000000 := by
          by_cases h : W (best W k) < 1000000
          · exact h
          · exact absurd ((told_far hWb).mpr ((i32_le (a := 1000000) (by decide) (by omega)).mpr (by omega))) ht
        have go : ∀ w : Nat, w = best W (k + 1) → ∃ s', (some (Sum.inr (Int32.ofNat w, Int32.ofNat (k + 1) + 1)) : Option (Int32 ⊕ (Int32 × Int32))) = some (.inr s') ∧ (∃ k, k < n ∧ s' = (Int32.ofNat (best W k), Int32.ofNat (k + 1))) ∧ n - s'.2.toNatClampNeg < n - (Int32.ofNat (k + 1)).toNatClampNeg := by
          intro w hw
          refine ⟨_, rfl, ⟨k + 1, by omega, by rw [hw, i32_succ]⟩, ?_⟩
          show n - (Int32.ofNat (k + 1) + 1).toNatClampNeg < _
          rw [i32_succ, tnc (show k + 1 + 1 < 2 ^ 31 by omega), tnc (show k + 1 < 2 ^ 31 by omega)]
          omega
        have hbs : best W (k + 1) = if W (k + 1) ≤ W (best W k) then best W k else k + 1 := rfl
        rw [if_neg ht]
        unfold fX4_hardest_J54 fX4_hardest_J56
        by_cases ht2 : fX12_told (Int32.ofNat (W (k + 1))) = -2
        · rw [if_pos ht2]
          have hle := (told_far hW1).mp ht2
          have hle2 : 1000000 ≤ W (k + 1) := (i32_le (a := 1000000) (by decide) (by omega)).mp hle
          exact Or.inr (go (k + 1) (by rw [hbs, if_neg (by omega)]))
        · have hlt2 : W (k + 1) < 1000000 := by
            by_cases h : W (k + 1) < 1000000
            · exact h
            · exact absurd ((told_far hW1).mpr ((i32_le (a := 1000000) (by decide) (by omega)).mpr (by omega))) ht2
          rw [if_neg ht2]
          by_cases hc : W (k + 1) ≤ W (best W k)
          · rw [if_pos ((told_le hlt2 hlt).mpr hc)]
            exact Or.inr (go (best W k) (by rw [hbs, if_pos hc]))
          · rw [if_neg (fun z => hc ((told_le hlt2 hlt).mp z))]
            exact Or.inr (go (k + 1) (by rw [hbs, if_neg hc]))
end HARD
