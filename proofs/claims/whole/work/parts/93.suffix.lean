/-! part 93: struck, the reference's table; the call -/
section STM
variable {a b : Nat → Int32} {n1 n2 : Nat} {F : Nat}
theorem cell41 (i j : Nat) : ((41 : Int32) * Int32.ofNat i) + Int32.ofNat j = Int32.ofNat (41 * i + j) := by
  rw [show (41 : Int32) = Int32.ofNat 41 from rfl, i32_mul, i32_add]
theorem suffix_row (h1 : n1 ≤ 40) (h2 : n2 ≤ 40) (hF : 100 ≤ F) {i : Nat} (hi : i ≤ n1) (th : Int32) (A : Nat → Int32) (hA : ∀ i' j, i < i' → i' ≤ n1 → j ≤ n2 → A (41 * i' + j) = Int32.ofNat (sT a b n1 n2 i' j)) : ∃ B, gloop (fun u4 : (Int32 × (Nat → Int32)) => fX12_struck_S19 F (Int32.ofNat n1) (Int32.ofNat n2) a b (Int32.ofNat i) th u4.1 u4.2) F (Int32.ofNat n2, A) = some B ∧ ∀ i' j, i ≤ i' → i' ≤ n1 → j ≤ n2 → B (41 * i' + j) = Int32.ofNat (sT a b n1 n2 i' j) := by
  refine gl_ix (st := fun u4 : (Int32 × (Nat → Int32)) => fX12_struck_S19 F (Int32.ofNat n1) (Int32.ofNat n2) a b (Int32.ofNat i) th u4.1 u4.2) (fun k s => s.1 = dI (n2 + 1 - k) ∧ ∀ i' j, i ≤ i' → i' ≤ n1 → j ≤ n2 → (i < i' ∨ n2 + 1 - k ≤ j) → s.2 (41 * i' + j) = Int32.ofNat (sT a b n1 n2 i' j)) (fun B => ∀ i' j, i ≤ i' → i' ≤ n1 → j ≤ n2 → B (41 * i' + j) = Int32.ofNat (sT a b n1 n2 i' j)) (n2 + 1) ?_ ?_ F 0 (Int32.ofNat n2, A) (Nat.zero_le _) ⟨(dI_s n2).symm, fun i' j p1 p2 p3 p4 => hA i' j (by omega) p2 p3⟩ (by omega)
  · rintro k ⟨v2, B⟩ hk ⟨g1, g2⟩
    dsimp only at g1 g2 ⊢
    obtain ⟨j, hj, hjk⟩ : ∃ j, j ≤ n2 ∧ n2 + 1 - k = j + 1 := ⟨n2 - k, by omega, by omega⟩
    have hjk2 : n2 + 1 - (k + 1) = j := by omega
    rw [hjk] at g1 g2
    rw [dI_s] at g1
    rw [hjk2]
    subst g1
    have b1 := sT_le a b n1 n2 i (j + 1)
    have b2 := sT_le a b n1 n2 (i + 1) j
    have b3 := sT_le a b n1 n2 (i + 1) (j + 1)
    -- what is laid at the place
    have fin : ∀ w : Nat, w = sT a b n1 n2 i j → ∃ s', fX12_struck_J137 F (Int32.ofNat n1) (Int32.ofNat n2) a b (Int32.ofNat i) (Int32.ofNat j) th (upd B (41 * i + j) (Int32.ofNat w)) = some (.inr s') ∧ s'.1 = dI j ∧ ∀ i' j', i ≤ i' → i' ≤ n1 → j' ≤ n2 → (i < i' ∨ j ≤ j') → s'.2 (41 * i' + j') = Int32.ofNat (sT a b n1 n2 i' j') := by
      intro w hw
      unfold fX12_struck_J137
      refine ⟨_, rfl, dI_down, fun i' j' p1 p2 p3 p4 => ?_⟩
      show upd B (41 * i + j) (Int32.ofNat w) (41 * i' + j') = _
      by_cases h : i' = i ∧ j' = j
      · rw [h.1, h.2, upd_at, hw]
      · rw [upd_ne (by omega)]
        exact g2 i' j' p1 p2 p3 (by omega)
    have zero : sT a b n1 n2 i j = 0 → ∃ s', fX12_struck_J46 F (Int32.ofNat n1) (Int32.ofNat n2) a b (Int32.ofNat i) (Int32.ofNat j) (Int32.ofNat (41 * i + j)) th B = some (.inr s') ∧ s'.1 = dI j ∧ ∀ i' j', i ≤ i' → i' ≤ n1 → j' ≤ n2 → (i < i' ∨ j ≤ j') → s'.2 (41 * i' + j') = Int32.ofNat (sT a b n1 n2 i' j') := by
      intro h0
      unfold fX12_struck_J46
      rw [if_pos (inb_t (by omega) (by omega)), tnc (by omega)]
      exact fin 0 h0.symm
    have put : ∀ w : Nat, w = sT a b n1 n2 i j → ∃ s', fX12_struck_J136 F (Int32.ofNat n1) (Int32.ofNat n2) a b (Int32.ofNat i) (Int32.ofNat j) (Int32.ofNat w) (Int32.ofNat (41 * i + j)) th B = some (.inr s') ∧ s'.1 = dI j ∧ ∀ i' j', i ≤ i' → i' ≤ n1 → j' ≤ n2 → (i < i' ∨ j ≤ j') → s'.2 (41 * i' + j') = Int32.ofNat (sT a b n1 n2 i' j') := by
      intro w hw
      unfold fX12_struck_J136
      rw [if_pos (inb_t (by omega) (by omega)), tnc (by omega)]
      exact fin w hw
    unfold fX12_struck_S19
    rw [if_neg (fun z => by have := (i32_lt (b := 0) (by omega) (by decide)).mp z; omega), cell41]
    by_cases hi1 : i = n1
    · rw [if_pos (by rw [hi1])]
      exact zero (by rw [hi1]; exact sT_left a b n1 n2 j)
    · rw [if_neg (fun z => hi1 ((i32_eq (by omega) (by omega)).mp z))]
      by_cases hj1 : j = n2
      · rw [if_pos (by rw [hj1])]
        exact zero (by rw [hj1]; exact sT_up a b n1 n2 i)
      · rw [if_neg (fun z => hj1 ((i32_eq (by omega) (by omega)).mp z))]
        have hst := sT_step a b n1 n2 (show i < n1 by omega) (show j < n2 by omega)
        have q1 := g2 i (j + 1) (by omega) (by omega) (by omega) (by omega)
        have q2 := g2 (i + 1) j (by omega) (by omega) (by omega) (by omega)
        have q3 := g2 (i + 1) (j + 1) (by omega) (by omega) (by omega) (by omega)
        rw [show 41 * i + (j + 1) = 41 * i + j + 1 by omega] at q1
        rw [show 41 * (i + 1) + j = 41 * i + j + 41 by omega] at q2
        rw [show 41 * (i + 1) + (j + 1) = 41 * i + j + 42 by omega] at q3
        rw [if_pos (inb_t (by omega) (by omega)), if_pos (inb_t (by omega) (by omega)), tnc (show i < 2 ^ 31 by omega), tnc (show j < 2 ^ 31 by omega), show Int32.ofNat (41 * i + j) + 42 = Int32.ofNat (41 * i + j + 42) from i32_add _ 42, show Int32.ofNat (41 * i + j) + 41 = Int32.ofNat (41 * i + j + 41) from i32_add _ 41, i32_succ]
        by_cases he : a i = b j
        · rw [if_pos he] at hst ⊢
          rw [if_pos (inb_t (by omega) (by omega)), if_pos (inb_t (by omega) (by omega)), tnc (show 41 * i + j < 2 ^ 31 by omega), tnc (show 41 * i + j + 42 < 2 ^ 31 by omega), q3, show (1 : Int32) + Int32.ofNat (sT a b n1 n2 (i + 1) (j + 1)) = Int32.ofNat (1 + sT a b n1 n2 (i + 1) (j + 1)) from i32_add 1 _]
          exact fin _ (by omega)
        · rw [if_neg he] at hst ⊢
          rw [if_pos (inb_t (by omega) (by omega)), if_pos (inb_t (by omega) (by omega)), tnc (show 41 * i + j + 41 < 2 ^ 31 by omega), tnc (show 41 * i + j + 1 < 2 ^ 31 by omega), q2, q1]
          by_cases hle : sT a b n1 n2 (i + 1) j ≤ sT a b n1 n2 i (j + 1)
          · rw [if_pos ((i32_le (by omega) (by omega)).mpr hle), if_pos (inb_t (by omega) (by omega))]
            exact put _ (by omega)
          · rw [if_neg (fun z => hle ((i32_le (by omega) (by omega)).mp z)), if_pos (inb_t (by omega) (by omega))]
            exact put _ (by omega)
  · rintro ⟨v2, B⟩ ⟨g1, g2⟩
    dsimp only at g1 g2 ⊢
    rw [Nat.sub_self] at g1 g2
    subst g1
    unfold fX12_struck_S19
    rw [if_pos (show dI 0 < 0 by decide)]
    exact ⟨_, rfl, fun i' j p1 p2 p3 => g2 i' j p1 p2 p3 (Or.inr (Nat.zero_le _))⟩
theorem suffix_eq (h1 : n1 ≤ 40) (h2 : n2 ≤ 40) (hF : 100 ≤ F) (th : Int32) (A : Nat → Int32) : ∃ B, fX12_struck F (Int32.ofNat n1) (Int32.ofNat n2) a b th A = some (Int32.ofNat (n1 + n2) - 2 * Int32.ofNat (sT a b n1 n2 0 0), 0, B) := by
  have key := gl_ix (st := fun u2 : (Int32 × (Nat → Int32)) => fX12_struck_S10 F (Int32.ofNat n1) (Int32.ofNat n2) a b 0 u2.1 u2.2) (fun k s => s.1 = dI (n1 + 1 - k) ∧ ∀ i' j, n1 + 1 - k ≤ i' → i' ≤ n1 → j ≤ n2 → s.2 (41 * i' + j) = Int32.ofNat (sT a b n1 n2 i' j)) (fun B => B 0 = Int32.ofNat (sT a b n1 n2 0 0)) (n1 + 1) ?_ ?_ F 0 (Int32.ofNat n1, A) (Nat.zero_le _) ⟨(dI_s n1).symm, fun i' j p1 p2 => by omega⟩ (by omega)
  · obtain ⟨B, e, h⟩ := key
    unfold fX12_struck
    rw [e, Option.bind_some, show (0 : Int32).toNatClampNeg = 0 from n0, h, i32_add]
    exact ⟨B, rfl⟩
  · rintro k ⟨v1, B⟩ hk ⟨g1, g2⟩
    dsimp only at g1 g2 ⊢
    obtain ⟨i, hi, hik⟩ : ∃ i, i ≤ n1 ∧ n1 + 1 - k = i + 1 := ⟨n1 - k, by omega, by omega⟩
    have hik2 : n1 + 1 - (k + 1) = i := by omega
    rw [hik] at g1 g2
    rw [dI_s] at g1
    rw [hik2]
    subst g1
    unfold fX12_struck_S10
    obtain ⟨C, e, h⟩ := suffix_row (a := a) (b := b) h1 h2 hF hi 0 B (fun i' j p1 p2 p3 => g2 i' j (by omega) p2 p3)
    rw [if_neg (fun z => by have := (i32_lt (b := 0) (by omega) (by decide)).mp z; omega), e]
    exact ⟨_, rfl, dI_down, h⟩
  · rintro ⟨v1, B⟩ ⟨g1, g2⟩
    dsimp only at g1 g2 ⊢
    rw [Nat.sub_self] at g1 g2
    subst g1
    unfold fX12_struck_S10
    rw [if_pos (show dI 0 < 0 by decide)]
    exact ⟨_, rfl, g2 0 0 (Nat.le_refl _) (Nat.zero_le _) (Nat.zero_le _)⟩
theorem struck_call {s2 s5 mf md : Int32} {b2 b5 : Int64} {A72 A73 : Nat → Int32} (h2 : Rx s2 b2 mf A72) (h5 : Rx s5 b5 md A73) (hF : 100 ≤ F) (A4 A103 : Nat → Int32) (th : Int32) : ∃ out B4 B103, fX11_struck F s2 b2 s5 b5 A4 = some (out, B4) ∧ fX12_struck F mf md A72 A73 th A103 = some (out, 0, B103) := by
  obtain ⟨n, hn, e1, e2, _⟩ := id h2
  obtain ⟨k, hk, d1, d2, _⟩ := id h5
  have va : ∀ i, i < n → fX6_valueAt (Int32.ofNat n) b2 (Int32.ofNat i) = A72 i := fun i hi => by
    rw [← e1]; exact valueAt_eq h2 e2 hn hi
  have vb : ∀ j, j < k → fX6_valueAt (Int32.ofNat k) b5 (Int32.ofNat j) = A73 j := fun j hj => by
    rw [← d1]; exact valueAt_eq h5 d2 hk hj
  obtain ⟨B, c1⟩ := common_eq hn hk va vb hF A4
  obtain ⟨C, c2⟩ := suffix_eq (a := A72) (b := A73) hn hk hF th A103
  subst e1 e2 d1 d2
  unfold fX11_struck
  rw [c1, c2, both_T, Option.bind_some, i32_add]
  exact ⟨_, _, _, rfl, rfl⟩
end STM
