/-! part 54: seen and sender -/
theorem seenAt_c : ∀ k : Fin 8, fX7_seenAt (Int32.ofNat k.val) = Int32.ofNat (24 + 2 * (7 - k.val)) := by decide +kernel
theorem packetsAt_c : ∀ k : Fin 8, fX7_packetsAt (Int32.ofNat k.val) = Int32.ofNat (8 + 2 * (7 - k.val)) := by decide +kernel
theorem lettersAt_c : ∀ k : Fin 4, fX7_lettersAt (Int32.ofNat k.val) = Int32.ofNat (2 * (3 - k.val)) := by decide +kernel
theorem seenAt_m : ∀ (a : Fin 4) (b : Fin 2), fX12_seenAt (Int32.ofNat a.val) (Int32.ofNat b.val) = Int32.ofNat (9 + 2 * (2 * a.val + b.val)) := by decide +kernel
theorem packetAt_m : ∀ (a : Fin 4) (b : Fin 2), fX12_packetAt (Int32.ofNat a.val) (Int32.ofNat b.val) = Int32.ofNat (25 + 2 * (2 * a.val + b.val)) := by decide +kernel
theorem letterAt_m : ∀ a : Fin 4, fX12_letterAt (Int32.ofNat a.val) = Int32.ofNat (41 + 2 * a.val) := by decide +kernel
/-- one digit of two bits read and written on both sides -/
theorem slot_eq {c m : Int64} (hS : Sx c m) {nm nc : Nat} (hb : blk nm nc 2 = true) {v : Nat} (hv : v < 4) : fX12_get m (Int32.ofNat nm) 2 = fX7_digit c (Int32.ofNat nc) ∧ Sx (fX7_withDigit c (Int32.ofNat nc) (Int32.ofNat v)) (fX12_put m (Int32.ofNat nm) 2 (Int32.ofNat v)) := by
  have hle := blk.le hb
  refine ⟨?_, hS.put hb (fX7_withDigit_put c (by omega) hv) (fX12_put_put m (w := 2) (by omega) (by omega) (by decide) hv)⟩
  rw [fX7_digit_dg c (by omega), show fX12_get m (Int32.ofNat nm) 2 = Int32.ofNat (dg m nm 2) from fX12_get_dg m (w := 2) (by omega) (by omega) (by decide), hS.dg hb]
theorem seen_eq {c m : Int64} {n w : Nat} (h : 1 ≤ n) (hn : n ≤ 4) (hw : 1 ≤ w) (hw4 : w ≤ 4) (hS : Sx c m) (th p v x : Int32) : (fX12_seen (Int32.ofNat n) (Int32.ofNat w) m th p v x).1 = (fX11_seen (Int32.ofNat n) (Int32.ofNat w) c p v x).1 ∧ Sx (fX11_seen (Int32.ofNat n) (Int32.ofNat w) c p v x).2 (fX12_seen (Int32.ofNat n) (Int32.ofNat w) m th p v x).2.1 := by
  unfold fX12_seen fX11_seen
  rw [kind_eq h (by omega), within_below hw (by omega)]
  by_cases h1 : fX7_hasKind (Int32.ofNat n) p v = 0
  · rw [if_pos h1, if_pos h1]
    exact ⟨rfl, hS⟩
  · rw [if_neg h1, if_neg h1]
    obtain ⟨k, hk, a, b, ha, hb, rfl, rfl, hkv⟩ := kind_dig hn h1
    by_cases h2 : x < 0
    · simp only [if_pos h2]
      exact ⟨rfl, hS⟩
    · simp only [if_neg h2]
      by_cases h3 : x < Int32.ofNat w
      · have h4 : ¬ Int32.ofNat w ≤ x := by
          rw [Int32.lt_iff_toInt_lt] at h3
          rw [Int32.le_iff_toInt_le]
          omega
        rw [if_neg h4, if_pos h3, if_neg (by decide)]
        obtain ⟨y, hy, rfl⟩ := i32_dig (by omega) h2 h3
        have hm : fX12_seenAt (Int32.ofNat a) (Int32.ofNat b) = Int32.ofNat (9 + 2 * k.val) := by
          rw [hkv]
          exact seenAt_m ⟨a, by omega⟩ ⟨b, hb⟩
        rw [hk, hm, seenAt_c k]
        exact slot_eq hS (blk_seen k) (by omega)
      · have h4 : Int32.ofNat w ≤ x := by
          rw [Int32.lt_iff_toInt_lt] at h3
          rw [Int32.le_iff_toInt_le]
          omega
        rw [if_pos h4, if_neg h3, if_pos rfl]
        exact ⟨rfl, hS⟩
theorem withSender_put (c : Int64) {a b n t : Nat} (ha : a < 4) (hb : b < 2) (hn : n < 8) (p4 : Int32) (ht : t = if p4 = 0 then 0 else 1) : fX7_withSender c (Int32.ofNat a) (Int32.ofNat b) (Int32.ofNat n) p4 = fX12_put (fX12_put (fX12_put (fX12_put c (Int32.ofNat 47) (Int32.ofNat 2) (Int32.ofNat a)) (Int32.ofNat 46) (Int32.ofNat 1) (Int32.ofNat b)) (Int32.ofNat 43) (Int32.ofNat 3) (Int32.ofNat n)) (Int32.ofNat 42) (Int32.ofNat 1) (Int32.ofNat t) := by
  have ht2 : t < 2 := by subst ht; split <;> decide
  apply bt_ext
  intro i hi
  have e1 := fX12_put_put c (n := 47) (w := 2) (v := a) (by decide) (by decide) (by decide) ha
  have e2 := fX12_put_put (fX12_put c (Int32.ofNat 47) (Int32.ofNat 2) (Int32.ofNat a)) (n := 46) (w := 1) (v := b) (by decide) (by decide) (by decide) hb
  have e3 := fX12_put_put (fX12_put (fX12_put c (Int32.ofNat 47) (Int32.ofNat 2) (Int32.ofNat a)) (Int32.ofNat 46) (Int32.ofNat 1) (Int32.ofNat b)) (n := 43) (w := 3) (v := n) (by decide) (by decide) (by decide) hn
  have e4 := fX12_put_put (fX12_put (fX12_put (fX12_put c (Int32.ofNat 47) (Int32.ofNat 2) (Int32.ofNat a)) (Int32.ofNat 46) (Int32.ofNat 1) (Int32.ofNat b)) (Int32.ofNat 43) (Int32.ofNat 3) (Int32.ofNat n)) (n := 42) (w := 1) (v := t) (by decide) (by decide) (by decide) ht2
  rw [e4 i hi, e3 i hi, e2 i hi, e1 i hi]
  have hmask : bt ((-558551906910209) : Int64) i = !(decide (42 ≤ i ∧ i < 49)) := by
    have key : ∀ k : Fin 64, bt ((-558551906910209) : Int64) k.val = !(decide (42 ≤ k.val ∧ k.val < 49)) := by decide +kernel
    exact key ⟨i, hi⟩
  have htk : ∀ z : Int64, bt (if p4 = 0 then z ||| 0 else z ||| (4398046511104 : Int64)) i = (bt z i || (decide (i = 42) && t.testBit 0)) := by
    intro z
    subst ht
    by_cases h : p4 = 0
    · rw [if_pos h, if_pos h, bt_or]
      have key : ∀ k : Fin 64, bt (0 : Int64) k.val = false := by decide +kernel
      rw [show bt (0 : Int64) i = false from key ⟨i, hi⟩]
      simp
    · rw [if_neg h, if_neg h, bt_or]
      have key : ∀ k : Fin 64, bt (4398046511104 : Int64) k.val = decide (k.val = 42) := by decide +kernel
      rw [show bt (4398046511104 : Int64) i = decide (i = 42) from key ⟨i, hi⟩]
      simp
  unfold fX7_withSender
  rw [show ((47 : Int32).toInt64 &&& 63) = Int64.ofNat 47 from sh32 ⟨47, by decide⟩, show ((46 : Int32).toInt64 &&& 63) = Int64.ofNat 46 from sh32 ⟨46, by decide⟩, show ((43 : Int32).toInt64 &&& 63) = Int64.ofNat 43 from sh32 ⟨43, by decide⟩]
  rw [htk, bt_or, bt_or, bt_or, bt_and, hmask, bt_shl _ (by decide) hi, bt_shl _ (by decide) hi, bt_shl _ (by decide) hi, bt_i32 (by omega) (by omega), bt_i32 (by omega) (by omega), bt_i32 (by omega) (by omega)]
  have z1 : 2 ≤ i - 47 → a.testBit (i - 47) = false := fun h => Nat.testBit_lt_two_pow (Nat.lt_of_lt_of_le ha (Nat.pow_le_pow_right (n := 2) (i := 2) (by decide) h))
  have z2 : 1 ≤ i - 46 → b.testBit (i - 46) = false := fun h => Nat.testBit_lt_two_pow (Nat.lt_of_lt_of_le hb (Nat.pow_le_pow_right (n := 2) (i := 1) (by decide) h))
  have z3 : 3 ≤ i - 43 → n.testBit (i - 43) = false := fun h => Nat.testBit_lt_two_pow (Nat.lt_of_lt_of_le hn (Nat.pow_le_pow_right (n := 2) (i := 3) (by decide) h))
  by_cases c1 : i < 42
  · have : ¬ 47 ≤ i ∧ ¬ 46 ≤ i ∧ ¬ 43 ≤ i ∧ ¬ 42 ≤ i ∧ ¬ i = 42 := by omega
    simp [this]
  · by_cases c2 : i = 42
    · subst c2; simp
    · by_cases c3 : i < 46
      · have : ¬ 47 ≤ i ∧ ¬ 46 ≤ i ∧ 43 ≤ i ∧ 42 ≤ i ∧ i < 49 ∧ ¬ i < 42 + 1 ∧ i < 43 + 3 := by omega
        simp [this, c2]
      · by_cases c4 : i = 46
        · subst c4; simp [z3 (by decide)]
        · by_cases c5 : i < 49
          · have : 47 ≤ i ∧ 46 ≤ i ∧ 43 ≤ i ∧ 42 ≤ i ∧ ¬ i < 42 + 1 ∧ ¬ i < 43 + 3 ∧ ¬ i < 46 + 1 ∧ i < 47 + 2 := by omega
            simp [this, c2, c5, z3 (by omega), z2 (by omega)]
          · have : 47 ≤ i ∧ 46 ≤ i ∧ 43 ≤ i ∧ 42 ≤ i ∧ ¬ i < 42 + 1 ∧ ¬ i < 43 + 3 ∧ ¬ i < 46 + 1 ∧ ¬ i < 47 + 2 := by omega
            simp [this, c2, c5, z3 (by omega), z2 (by omega), z1 (by omega)]
