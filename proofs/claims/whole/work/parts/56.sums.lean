/-! part 56: loops that end; sums of digits -/
theorem gl_for {σ ρ : Type} {st : σ → Option (ρ ⊕ σ)} {out : ρ} (n : Nat) (f : Nat → σ) (h : ∀ i, i < n → st (f i) = some (.inr (f (i + 1)))) (ho : st (f n) = some (.inl out)) {F : Nat} (hF : n + 1 ≤ F) : gloop st F (f 0) = some out := by
  induction n generalizing f F with
  | zero =>
    obtain ⟨G, rfl⟩ : ∃ G, F = G + 1 := ⟨F - 1, by omega⟩
    simp only [gloop, ho]
  | succ n ih =>
    obtain ⟨G, rfl⟩ : ∃ G, F = G + 1 := ⟨F - 1, by omega⟩
    simp only [gloop, h 0 (by omega)]
    exact ih (fun i => f (i + 1)) (fun i hi => h (i + 1) (by omega)) ho (by omega)
/-- a loop with an invariant and a measure -/
theorem gl_inv {σ ρ : Type} {st : σ → Option (ρ ⊕ σ)} (I : σ → Prop) (μ : σ → Nat) (Q : ρ → Prop) (h : ∀ s, I s → (∃ r, st s = some (.inl r) ∧ Q r) ∨ (∃ s', st s = some (.inr s') ∧ I s' ∧ μ s' < μ s)) : ∀ (F : Nat) (s : σ), I s → μ s < F → ∃ r, gloop st F s = some r ∧ Q r := by
  intro F
  induction F with
  | zero => intro s _ hm; omega
  | succ F ih =>
    intro s hI hm
    rcases h s hI with ⟨r, hr, hQ⟩ | ⟨s', hs, hI', hlt⟩
    · exact ⟨r, by simp only [gloop, hr], hQ⟩
    · obtain ⟨r, hr, hQ⟩ := ih s' hI' (by omega)
      exact ⟨r, by simp only [gloop, hs]; exact hr, hQ⟩
def sumTo (g : Nat → Nat) : Nat → Nat
  | 0 => 0
  | n + 1 => sumTo g n + g n
theorem sumTo_congr {g h : Nat → Nat} : ∀ n, (∀ k, k < n → g k = h k) → sumTo g n = sumTo h n := by
  intro n
  induction n with
  | zero => intro _; rfl
  | succ n ih => intro e; simp only [sumTo]; rw [ih (fun k hk => e k (by omega)), e n (by omega)]
theorem sumTo_le {g : Nat → Nat} {b : Nat} (h : ∀ k, g k ≤ b) : ∀ n, sumTo g n ≤ n * b := by
  intro n
  induction n with
  | zero => simp [sumTo]
  | succ n ih => simp only [sumTo]; have := h n; rw [Nat.succ_mul]; omega
theorem i32_lt {a b : Nat} (ha : a < 2 ^ 31) (hb : b < 2 ^ 31) : (Int32.ofNat a < Int32.ofNat b) ↔ a < b := by
  rw [Int32.lt_iff_toInt_lt, i32_int ha, i32_int hb]; omega
theorem i32_le {a b : Nat} (ha : a < 2 ^ 31) (hb : b < 2 ^ 31) : (Int32.ofNat a ≤ Int32.ofNat b) ↔ a ≤ b := by
  rw [Int32.le_iff_toInt_le, i32_int ha, i32_int hb]; omega
theorem i32_eq {a b : Nat} (ha : a < 2 ^ 31) (hb : b < 2 ^ 31) : (Int32.ofNat a = Int32.ofNat b) ↔ a = b := by
  rw [← Int32.toInt_inj, i32_int ha, i32_int hb]; omega
theorem i32_add (a b : Nat) : Int32.ofNat a + Int32.ofNat b = Int32.ofNat (a + b) := (Int32.ofNat_add a b).symm
theorem i32_mul (a b : Nat) : Int32.ofNat a * Int32.ofNat b = Int32.ofNat (a * b) := (Int32.ofNat_mul a b).symm
theorem i32_sub {a b : Nat} (h : b ≤ a) : Int32.ofNat a - Int32.ofNat b = Int32.ofNat (a - b) := by
  obtain ⟨k, rfl⟩ := Nat.exists_eq_add_of_le h
  rw [← i32_add, Nat.add_sub_cancel_left, Int32.add_comm]
  exact Int32.add_sub_cancel _ _
theorem bt_ushr (c : Int64) {n : Nat} (h : n < 64) (i : Nat) : bt ((c.toUInt64 >>> UInt64.ofNat n).toInt64) i = bt c (n + i) := by
  unfold bt
  show ((c.toUInt64 >>> UInt64.ofNat n).toInt64).toBitVec.toNat.testBit i = c.toBitVec.toNat.testBit (n + i)
  rw [ushr_dg c h, Nat.testBit_shiftRight]
theorem dg_two (c : Int64) (n : Nat) : dg c n 2 = (bt c n).toNat + 2 * (bt c (n + 1)).toNat := by
  apply Nat.eq_of_testBit_eq
  intro i
  rw [dg_bit]
  have key : ∀ a b : Bool, ∀ i : Nat, (a.toNat + 2 * b.toNat).testBit i = if i = 0 then a else if i = 1 then b else false := by
    intro a b i
    by_cases h0 : i = 0
    · subst h0; cases a <;> cases b <;> rfl
    · by_cases h1 : i = 1
      · subst h1; cases a <;> cases b <;> rfl
      · rw [if_neg h0, if_neg h1]
        apply Nat.testBit_lt_two_pow
        have : 2 ^ 2 ≤ 2 ^ i := Nat.pow_le_pow_right (by decide) (by omega)
        cases a <;> cases b <;> simp <;> omega
  rw [key]
  by_cases h0 : i = 0
  · subst h0; simp
  · by_cases h1 : i = 1
    · subst h1; simp
    · rw [if_neg h0, if_neg h1]
      have : ¬ i < 2 := by omega
      simp [this]
def sp8 (m : Nat) (b0 b1 b2 b3 b4 b5 b6 b7 : Bool) : Int64 := Int64.ofNat (m * (b0.toNat + 4 * b1.toNat + 16 * b2.toNat + 64 * b3.toNat + 256 * b4.toNat + 1024 * b5.toNat + 4096 * b6.toNat + 16384 * b7.toNat))
def su8 (b0 b1 b2 b3 b4 b5 b6 b7 : Bool) : Nat := b0.toNat + b1.toNat + b2.toNat + b3.toNat + b4.toNat + b5.toNat + b6.toNat + b7.toNat
theorem bc_1 : ∀ b0 b1 b2 b3 b4 b5 b6 b7 : Bool, fJ13_bitCount_95d88 (sp8 1 b0 b1 b2 b3 b4 b5 b6 b7) = Int32.ofNat (su8 b0 b1 b2 b3 b4 b5 b6 b7) := by decide +kernel
theorem bc_2 : ∀ b0 b1 b2 b3 b4 b5 b6 b7 : Bool, fJ13_bitCount_95d88 (sp8 2 b0 b1 b2 b3 b4 b5 b6 b7) = Int32.ofNat (su8 b0 b1 b2 b3 b4 b5 b6 b7) := by decide +kernel
def pk8 (b0 b1 b2 b3 b4 b5 b6 b7 : Bool) (j : Nat) : Bool := match j with | 0 => b0 | 1 => b1 | 2 => b2 | 3 => b3 | 4 => b4 | 5 => b5 | 6 => b6 | 7 => b7 | _ => false
theorem sp_1 : ∀ b0 b1 b2 b3 b4 b5 b6 b7 : Bool, ∀ i : Fin 64, bt (sp8 1 b0 b1 b2 b3 b4 b5 b6 b7) i.val = (decide (i.val % 2 = 0) && pk8 b0 b1 b2 b3 b4 b5 b6 b7 (i.val / 2)) := by decide +kernel
theorem sp_2 : ∀ b0 b1 b2 b3 b4 b5 b6 b7 : Bool, ∀ i : Fin 64, bt (sp8 2 b0 b1 b2 b3 b4 b5 b6 b7) i.val = (decide (i.val % 2 = 1) && pk8 b0 b1 b2 b3 b4 b5 b6 b7 (i.val / 2)) := by decide +kernel
theorem mask_1 : ∀ i : Fin 64, bt 21845 i.val = (decide (i.val % 2 = 0) && decide (i.val < 16)) := by decide +kernel
theorem mask_2 : ∀ i : Fin 64, bt 43690 i.val = (decide (i.val % 2 = 1) && decide (i.val < 16)) := by decide +kernel
theorem mask_3 : ∀ i : Fin 64, bt 85 i.val = (decide (i.val % 2 = 0) && decide (i.val < 8)) := by decide +kernel
theorem mask_4 : ∀ i : Fin 64, bt 170 i.val = (decide (i.val % 2 = 1) && decide (i.val < 8)) := by decide +kernel
theorem sp_a (y : Int64) : (y &&& 21845) = sp8 1 (bt y 0) (bt y 2) (bt y 4) (bt y 6) (bt y 8) (bt y 10) (bt y 12) (bt y 14) := by
  apply bt_ext
  intro i hi
  rw [bt_and, show bt 21845 i = _ from mask_1 ⟨i, hi⟩, show bt (sp8 1 _ _ _ _ _ _ _ _) i = _ from sp_1 _ _ _ _ _ _ _ _ ⟨i, hi⟩]
  by_cases h : i % 2 = 0
  · obtain ⟨j, rfl⟩ : ∃ j, i = 2 * j := ⟨i / 2, by omega⟩
    rw [show 2 * j / 2 = j by omega]
    rcases (show j = 0 ∨ j = 1 ∨ j = 2 ∨ j = 3 ∨ j = 4 ∨ j = 5 ∨ j = 6 ∨ j = 7 ∨ 8 ≤ j by omega) with rfl | rfl | rfl | rfl | rfl | rfl | rfl | rfl | h8 <;> try simp [pk8]
    have : ¬ 2 * j < 16 := by omega
    obtain ⟨k, rfl⟩ : ∃ k, j = k + 8 := ⟨j - 8, by omega⟩
    simp [this, pk8]
  · simp [h]
theorem sp_b (y : Int64) : (y &&& 43690) = sp8 2 (bt y 1) (bt y 3) (bt y 5) (bt y 7) (bt y 9) (bt y 11) (bt y 13) (bt y 15) := by
  apply bt_ext
  intro i hi
  rw [bt_and, show bt 43690 i = _ from mask_2 ⟨i, hi⟩, show bt (sp8 2 _ _ _ _ _ _ _ _) i = _ from sp_2 _ _ _ _ _ _ _ _ ⟨i, hi⟩]
  by_cases h : i % 2 = 1
  · obtain ⟨j, rfl⟩ : ∃ j, i = 2 * j + 1 := ⟨i / 2, by omega⟩
    rw [show (2 * j + 1) / 2 = j by omega]
    rcases (show j = 0 ∨ j = 1 ∨ j = 2 ∨ j = 3 ∨ j = 4 ∨ j = 5 ∨ j = 6 ∨ j = 7 ∨ 8 ≤ j by omega) with rfl | rfl | rfl | rfl | rfl | rfl | rfl | rfl | h8 <;> try simp [pk8]
    have : ¬ 2 * j + 1 < 16 := by omega
    obtain ⟨k, rfl⟩ : ∃ k, j = k + 8 := ⟨j - 8, by omega⟩
    simp [this, pk8]
  · simp [h]
theorem sp_c (y : Int64) : (y &&& 85) = sp8 1 (bt y 0) (bt y 2) (bt y 4) (bt y 6) false false false false := by
  apply bt_ext
  intro i hi
  rw [bt_and, show bt 85 i = _ from mask_3 ⟨i, hi⟩, show bt (sp8 1 _ _ _ _ _ _ _ _) i = _ from sp_1 _ _ _ _ _ _ _ _ ⟨i, hi⟩]
  by_cases h : i % 2 = 0
  · obtain ⟨j, rfl⟩ : ∃ j, i = 2 * j := ⟨i / 2, by omega⟩
    rw [show 2 * j / 2 = j by omega]
    rcases (show j = 0 ∨ j = 1 ∨ j = 2 ∨ j = 3 ∨ j = 4 ∨ j = 5 ∨ j = 6 ∨ j = 7 ∨ 8 ≤ j by omega) with rfl | rfl | rfl | rfl | rfl | rfl | rfl | rfl | h8 <;> try simp [pk8]
    have : ¬ 2 * j < 8 := by omega
    obtain ⟨k, rfl⟩ : ∃ k, j = k + 8 := ⟨j - 8, by omega⟩
    simp [this, pk8]
  · simp [h]
theorem sp_d (y : Int64) : (y &&& 170) = sp8 2 (bt y 1) (bt y 3) (bt y 5) (bt y 7) false false false false := by
  apply bt_ext
  intro i hi
  rw [bt_and, show bt 170 i = _ from mask_4 ⟨i, hi⟩, show bt (sp8 2 _ _ _ _ _ _ _ _) i = _ from sp_2 _ _ _ _ _ _ _ _ ⟨i, hi⟩]
  by_cases h : i % 2 = 1
  · obtain ⟨j, rfl⟩ : ∃ j, i = 2 * j + 1 := ⟨i / 2, by omega⟩
    rw [show (2 * j + 1) / 2 = j by omega]
    rcases (show j = 0 ∨ j = 1 ∨ j = 2 ∨ j = 3 ∨ j = 4 ∨ j = 5 ∨ j = 6 ∨ j = 7 ∨ 8 ≤ j by omega) with rfl | rfl | rfl | rfl | rfl | rfl | rfl | rfl | h8 <;> try simp [pk8]
    have : ¬ 2 * j + 1 < 8 := by omega
    obtain ⟨k, rfl⟩ : ∃ k, j = k + 8 := ⟨j - 8, by omega⟩
    simp [this, pk8]
  · simp [h]
def seSum (c : Int64) : Nat := sumTo (fun k => dg c (24 + 2 * (7 - k)) 2) 8
def pkSum (c : Int64) : Nat := sumTo (fun k => dg c (8 + 2 * (7 - k)) 2) 8
def ltSum (c : Int64) : Nat := sumTo (fun k => dg c (2 * (3 - k)) 2) 4
theorem packetsIn_sum (c : Int64) : fX7_packetsIn c = Int32.ofNat (pkSum c) := by
  unfold fX7_packetsIn
  rw [show ((8 : Int32).toInt64.toUInt64 &&& Int64.toUInt64 63) = UInt64.ofNat 8 from sh32u ⟨8, by decide⟩, sp_a, sp_b, bc_1, bc_2]
  rw [show (2 : Int32) = Int32.ofNat 2 from rfl, i32_mul, i32_add]
  congr 1
  simp only [bt_ushr c (show 8 < 64 by decide), pkSum, sumTo, su8, dg_two, Nat.reduceSub, Nat.reduceMul, Nat.reduceAdd]
  omega
theorem seenIn_sum (c : Int64) : fX7_seenIn c = Int32.ofNat (seSum c) := by
  unfold fX7_seenIn
  rw [show ((24 : Int32).toInt64.toUInt64 &&& Int64.toUInt64 63) = UInt64.ofNat 24 from sh32u ⟨24, by decide⟩, sp_a, sp_b, bc_1, bc_2]
  rw [show (2 : Int32) = Int32.ofNat 2 from rfl, i32_mul, i32_add]
  congr 1
  simp only [bt_ushr c (show 24 < 64 by decide), seSum, sumTo, su8, dg_two, Nat.reduceSub, Nat.reduceMul, Nat.reduceAdd]
  omega
theorem lettersIn_sum (c : Int64) : fX7_lettersIn c = Int32.ofNat (ltSum c) := by
  unfold fX7_lettersIn
  rw [sp_c, sp_d, bc_1, bc_2]
  rw [show (2 : Int32) = Int32.ofNat 2 from rfl, i32_mul, i32_add]
  congr 1
  simp only [ltSum, sumTo, su8, dg_two, Bool.toNat_false, Nat.reduceSub, Nat.reduceMul, Nat.reduceAdd]
  omega
theorem dg2_le (c : Int64) (n : Nat) : dg c n 2 ≤ 3 := Nat.le_of_lt_succ (dg_lt c n 2)
theorem packetsOf_sum {c m : Int64} (hS : Sx c m) {F : Nat} (hF : 9 ≤ F) : fX12_packetsOf F m = some (Int32.ofNat (pkSum c)) := by
  unfold fX12_packetsOf
  refine Option.bind_eq_some_iff.mpr ⟨Int32.ofNat (pkSum c), gl_for 8 (fun i => (Int32.ofNat (sumTo (fun k => dg m (25 + 2 * k) 2) i), Int32.ofNat i)) ?_ ?_ hF, rfl⟩
  · intro i hi
    show fX12_packetsOf_S4 F m _ _ = _
    unfold fX12_packetsOf_S4
    have h8 : ¬ (8 : Int32) ≤ Int32.ofNat i := by rw [show (8 : Int32) = Int32.ofNat 8 from rfl, i32_le (by decide) (by omega)]; omega
    rw [if_neg h8, show (25 : Int32) + 2 * Int32.ofNat i = Int32.ofNat (25 + 2 * i) by rw [show (25 : Int32) = Int32.ofNat 25 from rfl, show (2 : Int32) = Int32.ofNat 2 from rfl, i32_mul, i32_add]]
    rw [show fX12_get m (Int32.ofNat (25 + 2 * i)) 2 = Int32.ofNat (dg m (25 + 2 * i) 2) from fX12_get_dg m (w := 2) (by omega) (by omega) (by decide), i32_add, show (1 : Int32) = Int32.ofNat 1 from rfl, i32_add]
    rfl
  · show fX12_packetsOf_S4 F m _ _ = _
    unfold fX12_packetsOf_S4
    rw [if_pos (show (8 : Int32) ≤ Int32.ofNat 8 by decide)]
    rw [show sumTo (fun k => dg m (25 + 2 * k) 2) 8 = pkSum c from sumTo_congr 8 (fun k hk => hS.dg (blk_packets ⟨k, hk⟩))]
theorem lettersOf_sum {c m : Int64} (hS : Sx c m) {F : Nat} (hF : 5 ≤ F) : fX12_lettersOf F m = some (Int32.ofNat (ltSum c)) := by
  unfold fX12_lettersOf
  refine Option.bind_eq_some_iff.mpr ⟨Int32.ofNat (ltSum c), gl_for 4 (fun i => (Int32.ofNat (sumTo (fun k => dg m (41 + 2 * k) 2) i), Int32.ofNat i)) ?_ ?_ hF, rfl⟩
  · intro i hi
    show fX12_lettersOf_S4 F m _ _ = _
    unfold fX12_lettersOf_S4
    have h8 : ¬ (4 : Int32) ≤ Int32.ofNat i := by rw [show (4 : Int32) = Int32.ofNat 4 from rfl, i32_le (by decide) (by omega)]; omega
    rw [if_neg h8, show (41 : Int32) + 2 * Int32.ofNat i = Int32.ofNat (41 + 2 * i) by rw [show (41 : Int32) = Int32.ofNat 41 from rfl, show (2 : Int32) = Int32.ofNat 2 from rfl, i32_mul, i32_add]]
    rw [show fX12_get m (Int32.ofNat (41 + 2 * i)) 2 = Int32.ofNat (dg m (41 + 2 * i) 2) from fX12_get_dg m (w := 2) (by omega) (by omega) (by decide), i32_add, show (1 : Int32) = Int32.ofNat 1 from rfl, i32_add]
    rfl
  · show fX12_lettersOf_S4 F m _ _ = _
    unfold fX12_lettersOf_S4
    rw [if_pos (show (4 : Int32) ≤ Int32.ofNat 4 by decide)]
    rw [show sumTo (fun k => dg m (41 + 2 * k) 2) 4 = ltSum c from sumTo_congr 4 (fun k hk => hS.dg (blk_letters ⟨k, hk⟩))]
