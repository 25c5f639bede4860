/-! part 50: the bits of a state -/
def dg (x : Int64) (n w : Nat) : Nat := (x.toBitVec.toNat >>> n) % 2 ^ w
theorem sh32 : ∀ n : Fin 64, ((Int32.ofNat n.val).toInt64 &&& 63) = Int64.ofNat n.val := by decide +kernel
theorem sh32u : ∀ n : Fin 64, ((Int32.ofNat n.val).toInt64.toUInt64 &&& Int64.toUInt64 63) = UInt64.ofNat n.val := by decide +kernel
theorem dg_lt (x : Int64) (n w : Nat) : dg x n w < 2 ^ w := Nat.mod_lt _ (Nat.two_pow_pos w)
theorem i32_nat (n : Nat) : (Int32.ofNat n).toBitVec.toNat = n % 2 ^ 32 := rfl
theorem ushr_dg (c : Int64) {n : Nat} (h : n < 64) : ((c.toUInt64 >>> UInt64.ofNat n).toInt64).toBitVec.toNat = c.toBitVec.toNat >>> n := by
  show (c.toUInt64 >>> UInt64.ofNat n).toBitVec.toNat = _
  rw [UInt64.toBitVec_shiftRight]
  simp [BitVec.toNat_ushiftRight, UInt64.toNat_ofNat, Nat.mod_eq_of_lt h]
/-- the low bits of a long, read as an int -/
theorem low_dg (y : Int64) {w : Nat} (hw : w ≤ 31) (k : Int32) (hk : k.toBitVec.toNat = 2 ^ w - 1) : (y.toInt32 &&& k) = Int32.ofNat (y.toBitVec.toNat % 2 ^ w) := by
  apply Int32.toBitVec_inj.mp
  apply BitVec.eq_of_toNat_eq
  have h2 : 2 ^ w ∣ 2 ^ 32 := Nat.pow_dvd_pow 2 (by omega)
  have h3 : y.toBitVec.toNat % 2 ^ w < 2 ^ 32 := Nat.lt_of_lt_of_le (Nat.mod_lt _ (Nat.two_pow_pos w)) (Nat.pow_le_pow_right (by decide) (by omega))
  rw [Int32.toBitVec_and, BitVec.toNat_and, Int64.toBitVec_toInt32, BitVec.signExtend_eq_setWidth_of_le _ (by decide), BitVec.toNat_setWidth, hk, Nat.and_two_pow_sub_one_eq_mod, i32_nat, Nat.mod_eq_of_lt h3, Nat.mod_mod_of_dvd _ h2]
theorem fX7_digit_dg (c : Int64) {n : Nat} (h : n < 64) : fX7_digit c (Int32.ofNat n) = Int32.ofNat (dg c n 2) := by
  unfold fX7_digit dg
  rw [show ((Int32.ofNat n).toInt64.toUInt64 &&& Int64.toUInt64 63) = UInt64.ofNat n from sh32u ⟨n, h⟩, low_dg _ (w := 2) (by decide) 3 rfl, ushr_dg c h]
theorem fX7_labelOf_dg (c : Int64) : fX7_labelOf c = Int32.ofNat (dg c 47 2) := fX7_digit_dg c (by decide)
theorem fX7_lastOf_dg (c : Int64) : fX7_lastOf c = Int32.ofNat (dg c 40 2) := fX7_digit_dg c (by decide)
theorem fX7_acksOf_dg (c : Int64) : fX7_acksOf c = Int32.ofNat (dg c 43 3) := by
  unfold fX7_acksOf dg
  rw [show ((43 : Int32).toInt64.toUInt64 &&& Int64.toUInt64 63) = UInt64.ofNat 43 from sh32u ⟨43, by decide⟩, low_dg _ (w := 3) (by decide) 7 rfl, ushr_dg c (by decide)]
theorem fX7_valueOf_dg (c : Int64) : fX7_valueOf c = Int32.ofNat (dg c 46 1) := by
  unfold fX7_valueOf dg
  rw [show ((46 : Int32).toInt64.toUInt64 &&& Int64.toUInt64 63) = UInt64.ofNat 46 from sh32u ⟨46, by decide⟩, low_dg _ (w := 1) (by decide) 1 rfl, ushr_dg c (by decide)]
/-- the reference's digit: an arithmetic shift, but no bit of the sign is read -/
theorem sshr_dg (c : Int64) {n w : Nat} (h : n + w ≤ 64) (hn : n < 64) : (c >>> Int64.ofNat n).toBitVec.toNat % 2 ^ w = (c.toBitVec.toNat >>> n) % 2 ^ w := by
  rw [Int64.toBitVec_shiftRight]
  have e : (BitVec.sshiftRight' c.toBitVec ((Int64.ofNat n).toBitVec.smod 64)) = BitVec.sshiftRight c.toBitVec n := by
    have : ((Int64.ofNat n).toBitVec.smod 64).toNat = n := by
      have key : ∀ k : Fin 64, ((Int64.ofNat k.val).toBitVec.smod 64).toNat = k.val := by decide +kernel
      exact key ⟨n, hn⟩
    rw [BitVec.sshiftRight', this]
  rw [e]
  apply Nat.eq_of_testBit_eq
  intro i
  rw [Nat.testBit_mod_two_pow, Nat.testBit_mod_two_pow]
  by_cases hi : i < w
  · simp only [hi, decide_true, Bool.true_and, Nat.testBit_shiftRight]
    show (BitVec.sshiftRight c.toBitVec n).getLsbD i = c.toBitVec.getLsbD (n + i)
    rw [BitVec.getLsbD_sshiftRight]
    have h1 : n + i < 64 := by omega
    have h2 : i < 64 := by omega
    simp [h1, Nat.not_le.mpr h2]
  · simp [hi]
theorem fX12_get_dg (c : Int64) {n w : Nat} (h : n + w ≤ 64) (hn : n < 64) (hw : w = 1 ∨ w = 2 ∨ w = 3) : fX12_get c (Int32.ofNat n) (Int32.ofNat w) = Int32.ofNat (dg c n w) := by
  unfold fX12_get dg
  rw [show ((Int32.ofNat n).toInt64 &&& 63) = Int64.ofNat n from sh32 ⟨n, hn⟩, low_dg _ (w := w) (by omega) _ (by rcases hw with rfl | rfl | rfl <;> decide +kernel), sshr_dg c h hn]
