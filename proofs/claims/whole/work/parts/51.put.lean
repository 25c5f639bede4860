/-! part 51: the bits of a state, written -/
def bt (x : Int64) (i : Nat) : Bool := x.toBitVec.getLsbD i
theorem bt_ext {x y : Int64} (h : ∀ i, i < 64 → bt x i = bt y i) : x = y := by
  apply Int64.toBitVec_inj.mp
  exact BitVec.eq_of_getLsbD_eq (fun i hi => h i hi)
theorem bt_big (x : Int64) {i : Nat} (h : 64 ≤ i) : bt x i = false := BitVec.getLsbD_of_ge _ _ h
theorem bt_and (x y : Int64) (i : Nat) : bt (x &&& y) i = (bt x i && bt y i) := by
  unfold bt; rw [Int64.toBitVec_and, BitVec.getLsbD_and]
theorem bt_or (x y : Int64) (i : Nat) : bt (x ||| y) i = (bt x i || bt y i) := by
  unfold bt; rw [Int64.toBitVec_or, BitVec.getLsbD_or]
theorem bt_not (x : Int64) {i : Nat} (h : i < 64) : bt (x ^^^ (-1)) i = !bt x i := by
  unfold bt
  rw [Int64.toBitVec_xor, BitVec.getLsbD_xor]
  have key : ∀ k : Fin 64, ((-1 : Int64)).toBitVec.getLsbD k.val = true := by decide +kernel
  rw [show ((-1 : Int64)).toBitVec.getLsbD i = true from key ⟨i, h⟩, Bool.xor_true]
theorem bt_shl (x : Int64) {n i : Nat} (hn : n < 64) (hi : i < 64) : bt (x <<< Int64.ofNat n) i = (decide (n ≤ i) && bt x (i - n)) := by
  unfold bt
  rw [Int64.toBitVec_shiftLeft]
  have key : ∀ k : Fin 64, ((Int64.ofNat k.val).toBitVec.smod 64).toNat = k.val := by decide +kernel
  have e : (x.toBitVec <<< ((Int64.ofNat n).toBitVec.smod 64)) = x.toBitVec <<< n := by
    rw [BitVec.shiftLeft_eq', key ⟨n, hn⟩]
  rw [e, BitVec.getLsbD_shiftLeft]
  by_cases h : n ≤ i
  · simp [h, hi, Nat.not_lt.mpr h]
  · simp [h, Nat.lt_of_not_le h]
theorem bt_i32 {v : Nat} (hv : v < 2 ^ 31) {i : Nat} (hi : i < 64) : bt (Int32.ofNat v).toInt64 i = v.testBit i := by
  unfold bt
  have hm : (Int32.ofNat v).toBitVec.msb = false := by
    rw [BitVec.msb_eq_decide]
    rw [i32_nat]
    simp only [decide_eq_false_iff_not, Nat.not_le]
    omega
  rw [Int32.toBitVec_toInt64, BitVec.signExtend_eq_setWidth_of_msb_false hm, BitVec.getLsbD_setWidth]
  show (decide (i < 64) && ((Int32.ofNat v).toBitVec.toNat).testBit i) = _
  rw [i32_nat, Nat.mod_eq_of_lt (by omega)]
  simp [hi]
/-- y is x with v written at n, w bits wide -/
def IsPut (x y : Int64) (n w v : Nat) : Prop := ∀ i, i < 64 → bt y i = if n ≤ i ∧ i < n + w then v.testBit (i - n) else bt x i
theorem put_bits {x k y : Int64} {n w v : Nat} (hn : n + w ≤ 64) (hn2 : n < 64) (hw : w ≤ 31) (hv : v < 2 ^ w) (hk : ∀ i, i < 64 → bt k i = decide (i < w)) (hy : y = (x &&& ((k <<< Int64.ofNat n) ^^^ (-1))) ||| ((Int32.ofNat v).toInt64 <<< Int64.ofNat n)) : IsPut x y n w v := by
  intro i hi
  subst hy
  have hv31 : v < 2 ^ 31 := Nat.lt_of_lt_of_le hv (Nat.pow_le_pow_right (by decide) hw)
  rw [bt_or, bt_and, bt_not _ hi, bt_shl _ hn2 hi, bt_shl _ hn2 hi, hk _ (by omega), bt_i32 hv31 (by omega)]
  by_cases h1 : n ≤ i
  · by_cases h2 : i < n + w
    · have h3 : i - n < w := by omega
      simp [h1, h2, h3]
    · have h3 : ¬ i - n < w := by omega
      have h4 : v.testBit (i - n) = false := Nat.testBit_lt_two_pow (Nat.lt_of_lt_of_le hv (Nat.pow_le_pow_right (by decide) (by omega)))
      simp [h1, h2, h3, h4]
  · simp [h1]
theorem fX7_withDigit_put (c : Int64) {n v : Nat} (hn : n + 2 ≤ 64) (hv : v < 4) : IsPut c (fX7_withDigit c (Int32.ofNat n) (Int32.ofNat v)) n 2 v := by
  refine put_bits (k := 3) hn (by omega) (by decide) hv (fun i hi => ?_) ?_
  · have key : ∀ k : Fin 64, bt 3 k.val = decide (k.val < 2) := by decide +kernel
    exact key ⟨i, hi⟩
  · unfold fX7_withDigit
    rw [show ((Int32.ofNat n).toInt64 &&& 63) = Int64.ofNat n from sh32 ⟨n, by omega⟩]
theorem fX12_put_put (m : Int64) {n w v : Nat} (hn : n + w ≤ 64) (hn2 : n < 64) (hw : w = 1 ∨ w = 2 ∨ w = 3) (hv : v < 2 ^ w) : IsPut m (fX12_put m (Int32.ofNat n) (Int32.ofNat w) (Int32.ofNat v)) n w v := by
  refine put_bits (k := ((1 : Int64) <<< ((Int32.ofNat w).toInt64 &&& 63)) - 1) hn hn2 (by omega) hv (fun i hi => ?_) ?_
  · rcases hw with rfl | rfl | rfl
    · have key : ∀ k : Fin 64, bt (((1 : Int64) <<< ((Int32.ofNat 1).toInt64 &&& 63)) - 1) k.val = decide (k.val < 1) := by decide +kernel
      exact key ⟨i, hi⟩
    · have key : ∀ k : Fin 64, bt (((1 : Int64) <<< ((Int32.ofNat 2).toInt64 &&& 63)) - 1) k.val = decide (k.val < 2) := by decide +kernel
      exact key ⟨i, hi⟩
    · have key : ∀ k : Fin 64, bt (((1 : Int64) <<< ((Int32.ofNat 3).toInt64 &&& 63)) - 1) k.val = decide (k.val < 3) := by decide +kernel
      exact key ⟨i, hi⟩
  · unfold fX12_put
    rw [show ((Int32.ofNat n).toInt64 &&& 63) = Int64.ofNat n from sh32 ⟨n, hn2⟩]
