/-! part 55: sender -/
theorem Sx.sender {c m : Int64} (hS : Sx c m) {a b n t : Nat} (ha : a < 4) (hb : b < 2) (hn : n < 8) (p4 : Int32) (ht : t = if p4 = 0 then 0 else 1) : Sx (fX7_withSender c (Int32.ofNat a) (Int32.ofNat b) (Int32.ofNat n) p4) (fX12_put (fX12_put (fX12_put (fX12_put m 0 2 (Int32.ofNat a)) 2 1 (Int32.ofNat b)) 3 3 (Int32.ofNat n)) 6 1 (Int32.ofNat t)) := by
  have ht2 : t < 2 := by subst ht; split <;> decide
  rw [withSender_put c ha hb hn p4 ht]
  have s1 := hS.put blk_label (fX12_put_put c (n := 47) (w := 2) (by decide) (by decide) (by decide) ha) (fX12_put_put m (n := 0) (w := 2) (by decide) (by decide) (by decide) ha)
  have s2 := s1.put blk_value (fX12_put_put _ (n := 46) (w := 1) (by decide) (by decide) (by decide) hb) (fX12_put_put _ (n := 2) (w := 1) (by decide) (by decide) (by decide) hb)
  have s3 := s2.put blk_acks (fX12_put_put _ (n := 43) (w := 3) (by decide) (by decide) (by decide) hn) (fX12_put_put _ (n := 3) (w := 3) (by decide) (by decide) (by decide) hn)
  exact s3.put blk_taken (fX12_put_put _ (n := 42) (w := 1) (by decide) (by decide) (by decide) ht2) (fX12_put_put _ (n := 6) (w := 1) (by decide) (by decide) (by decide) ht2)
theorem sender_eq {c m : Int64} {n w : Nat} (h : 1 ≤ n) (hn : n ≤ 4) (hw : 1 ≤ w) (hw7 : w ≤ 7) (hS : Sx c m) (th p v x p4 : Int32) : (fX12_sender (Int32.ofNat n) (Int32.ofNat w) m th p v x p4).1 = (fX11_sender (Int32.ofNat n) (Int32.ofNat w) c p v x p4).1 ∧ Sx (fX11_sender (Int32.ofNat n) (Int32.ofNat w) c p v x p4).2 (fX12_sender (Int32.ofNat n) (Int32.ofNat w) m th p v x p4).2.1 ∧ (fX12_sender (Int32.ofNat n) (Int32.ofNat w) m th p v x p4).2.2 = 0 := by
  unfold fX12_sender fX11_sender
  rw [kind_eq h (by omega), within_below hw (by omega)]
  by_cases h1 : fX7_hasKind (Int32.ofNat n) p v = 0
  · rw [if_pos h1, if_pos h1]
    exact ⟨rfl, hS, rfl⟩
  · rw [if_neg h1, if_neg h1]
    obtain ⟨k, hk, a, b, ha, hb, rfl, rfl, hkv⟩ := kind_dig hn h1
    by_cases h2 : x < 0
    · simp only [if_pos h2]
      exact ⟨rfl, hS, rfl⟩
    · simp only [if_neg h2]
      by_cases h3 : x < Int32.ofNat w
      · have h4 : ¬ Int32.ofNat w ≤ x := by
          rw [Int32.lt_iff_toInt_lt] at h3
          rw [Int32.le_iff_toInt_le]
          omega
        rw [if_neg h4, if_pos h3, if_neg (by decide)]
        obtain ⟨y, hy, rfl⟩ := i32_dig (by omega) h2 h3
        by_cases h5 : p4 = 0
        · rw [if_pos h5]
          exact ⟨rfl, hS.sender (by omega) hb (by omega) p4 (t := 0) (by rw [if_pos h5]), rfl⟩
        · rw [if_neg h5]
          exact ⟨rfl, hS.sender (by omega) hb (by omega) p4 (t := 1) (by rw [if_neg h5]), rfl⟩
      · have h4 : Int32.ofNat w ≤ x := by
          rw [Int32.lt_iff_toInt_lt] at h3
          rw [Int32.le_iff_toInt_le]
          omega
        rw [if_pos h4, if_neg h3, if_pos rfl]
        exact ⟨rfl, hS, rfl⟩
theorem first_eq {n : Nat} (h : 1 ≤ n) (hn : n ≤ 4) : Sx (fX7_atFirst (Int32.ofNat n)) (fX12_put 0 7 2 (Int32.ofNat n - 1)) := by
  have hz : Sx 0 0 := by
    have key : ∀ k : Fin 64, bt (0 : Int64) k.val = false := by decide +kernel
    have k0 : ∀ i, bt (0 : Int64) i = false := fun i => by
      by_cases hi : i < 64
      · exact key ⟨i, hi⟩
      · exact bt_big _ (by omega)
    exact ⟨fun i _ => by rw [k0, k0], fun i _ => k0 i, fun i _ => k0 i⟩
  have e : fX7_atFirst (Int32.ofNat n) = fX7_withDigit 0 (Int32.ofNat 40) (Int32.ofNat (n - 1)) := by
    rcases (show n = 1 ∨ n = 2 ∨ n = 3 ∨ n = 4 by omega) with rfl | rfl | rfl | rfl <;> decide +kernel
  rw [e, i32_pred h (by omega)]
  exact hz.put blk_last (fX7_withDigit_put 0 (by decide) (by omega)) (fX12_put_put 0 (n := 7) (w := 2) (by decide) (by decide) (by decide) (by omega))
