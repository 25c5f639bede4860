/-! part 9zf: setting the sender, the last and the seen keeps the channels' bounds -/
section KEEPS
theorem lg_high {cap : Nat} {c c' : Int64} {n w v : Nat} (h : IsPut c c' n w v) (hn : 24 ≤ n) (hL : Lg cap c) : Lg cap c' := by
  have h1 : pkSum c' = pkSum c := by
    unfold pkSum
    exact sumTo_congr 8 (fun k hk => put_dg_ne h (by omega) (by omega))
  have h2 : ltSum c' = ltSum c := by
    unfold ltSum
    exact sumTo_congr 4 (fun k hk => put_dg_ne h (by omega) (by omega))
  unfold Lg
  rw [h1, h2]
  exact hL
theorem last_lg {cap n : Nat} {c : Int64} (hn : n ≤ 4) (hL : Lg cap c) (p : Int32) : Lg cap (fX11_last (Int32.ofNat n) c p).2 := by
  unfold fX11_last
  by_cases h1 : fX7_hasLabel (Int32.ofNat n) p = 0
  · rw [if_pos h1]; exact hL
  · rw [if_neg h1]
    obtain ⟨k, hk, rfl⟩ := label_dig (by omega) h1
    exact lg_high (withLast_put c (by omega)) (by decide) hL
theorem seen_lg {cap n w : Nat} {c : Int64} (hn : n ≤ 4) (hw4 : w ≤ 4) (hL : Lg cap c) (p v x : Int32) : Lg cap (fX11_seen (Int32.ofNat n) (Int32.ofNat w) c p v x).2 := by
  unfold fX11_seen
  by_cases h1 : fX7_hasKind (Int32.ofNat n) p v = 0
  · rw [if_pos h1]; exact hL
  · rw [if_neg h1]
    obtain ⟨k, hk, a, b, ha, hb, rfl, rfl, hkv⟩ := kind_dig hn h1
    by_cases h2 : x < 0
    · rw [if_pos h2]; exact hL
    · rw [if_neg h2]
      by_cases h3 : x < Int32.ofNat w
      · rw [if_pos h3]
        obtain ⟨y, hy, rfl⟩ := i32_dig (by omega) h2 h3
        rw [hk, seenAt_c k]
        exact lg_high (fX7_withDigit_put c (by omega) (by omega)) (by omega) hL
      · rw [if_neg h3]; exact hL
theorem sender_lg {cap n w : Nat} {c : Int64} (hn : n ≤ 4) (hw7 : w ≤ 7) (hL : Lg cap c) (p v x p4 : Int32) : Lg cap (fX11_sender (Int32.ofNat n) (Int32.ofNat w) c p v x p4).2 := by
  unfold fX11_sender
  by_cases h1 : fX7_hasKind (Int32.ofNat n) p v = 0
  · rw [if_pos h1]; exact hL
  · rw [if_neg h1]
    obtain ⟨k, hk, a, b, ha, hb, rfl, rfl, hkv⟩ := kind_dig hn h1
    by_cases h2 : x < 0
    · rw [if_pos h2]; exact hL
    · rw [if_neg h2]
      by_cases h3 : x < Int32.ofNat w
      · rw [if_pos h3]
        obtain ⟨y, hy, rfl⟩ := i32_dig (by omega) h2 h3
        have ht2 : (if p4 = 0 then 0 else 1 : Nat) < 2 := by split <;> decide
        show Lg cap (fX7_withSender c (Int32.ofNat a) (Int32.ofNat b) (Int32.ofNat y) p4)
        rw [withSender_put c (by omega) hb (by omega) p4 rfl]
        exact lg_high (fX12_put_put _ (n := 42) (w := 1) (by decide) (by decide) (by decide) ht2) (by decide) (lg_high (fX12_put_put _ (n := 43) (w := 3) (by decide) (by decide) (by decide) (by omega)) (by decide) (lg_high (fX12_put_put _ (n := 46) (w := 1) (by decide) (by decide) (by decide) hb) (by decide) (lg_high (fX12_put_put c (n := 47) (w := 2) (by decide) (by decide) (by decide) (by omega)) (by decide) hL)))
      · rw [if_neg h3]; exact hL
end KEEPS
