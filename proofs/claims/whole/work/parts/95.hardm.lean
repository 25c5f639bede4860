/-! part 95: the hardest state, the reference -/
section HARDM
variable {n : Nat} {W P : Nat → Nat} {F : Nat}
theorem hard_m (hn1 : 1 ≤ n) (hn6 : n ≤ 6000) (hW : ∀ s, s < n → W s ≤ 1000000) (hP : ∀ s, s < n → P s < 6001) {A87 A94 : Nat → Int32} (h87 : ∀ s, s < n → A87 s = Int32.ofNat (P s)) (h94 : ∀ s, s < n → A94 (P s) = Int32.ofNat (W s)) (hF : 70000 ≤ F) (x0 x1 x2 x3 v1 x18 : Int32) (x19 : Int64) (x20 x21 x22 x35 x43 x44 x45 x55 : Int32) (A76 A77 A78 : Nat → Int32) (A79 : Nat → Int64) (A80 A81 A82 A83 A84 A85 A86 A88 A89 A90 A91 A92 A93 A95 A96 A100 A101 A102 : Nat → Int32) : gloop (fun u : (Int32 × Int32) => fX12_every_S45 F x0 x1 x2 x3 v1 x18 x19 x20 x21 x22 (Int32.ofNat n) x35 x43 x44 x45 x55 A76 A77 A78 A79 A80 A81 A82 A83 A84 A85 A86 A87 A88 A89 A90 A91 A92 A93 A94 A95 A96 A100 A101 A102 u.1 u.2) F (0, 1) = some (Int32.ofNat (best W (n - 1))) := by
  have key := gl_for (st := fun u : (Int32 × Int32) => fX12_every_S45 F x0 x1 x2 x3 v1 x18 x19 x20 x21 x22 (Int32.ofNat n) x35 x43 x44 x45 x55 A76 A77 A78 A79 A80 A81 A82 A83 A84 A85 A86 A87 A88 A89 A90 A91 A92 A93 A94 A95 A96 A100 A101 A102 u.1 u.2) (out := Int32.ofNat (best W (n - 1))) (n - 1) (fun k => (Int32.ofNat (best W k), Int32.ofNat (k + 1))) (fun k hk => ?_) ?_ (F := F) (by omega)
  · exact key
  · have hb := best_le (W := W) k
    have w1 := hW (k + 1) (by omega)
    have w2 := hW (best W k) (by omega)
    have p1 := hP (k + 1) (by omega)
    have p2 := hP (best W k) (by omega)
    have hbs : best W (k + 1) = if W (k + 1) ≤ W (best W k) then best W k else k + 1 := rfl
    unfold fX12_every_S45 fX12_every_J80
    dsimp only
    rw [if_neg (fun z => by have := (i32_le (by omega) (by omega)).mp z; omega), if_pos (inb_t (by omega) (by omega)), tnc (show k + 1 < 2 ^ 31 by omega), h87 _ (show k + 1 < n by omega), if_pos (inb_t (by omega) p1), if_pos (inb_t (by omega) (by omega)), tnc (show best W k < 2 ^ 31 by omega), h87 _ (show best W k < n by omega), if_pos (inb_t (by omega) p2), tnc (show P (k + 1) < 2 ^ 31 by omega), tnc (show P (best W k) < 2 ^ 31 by omega), h94 _ (show k + 1 < n by omega), h94 _ (show best W k < n by omega), hbs, i32_succ]
    by_cases hc : W (k + 1) ≤ W (best W k)
    · rw [if_pos ((i32_le (by omega) (by omega)).mpr hc), if_pos hc]
    · rw [if_neg (fun z => hc ((i32_le (by omega) (by omega)).mp z)), if_neg hc]
  · unfold fX12_every_S45
    dsimp only
    rw [if_pos ((i32_le (by omega) (by omega)).mpr (by omega))]
end HARDM
