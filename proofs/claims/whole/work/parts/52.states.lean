/-! part 52: the two states, bit by bit: the reference's bit i is the class's bit piT i -/
def piT (i : Nat) : Nat := if i < 2 then 47 + i else if i = 2 then 46 else if i < 6 then 43 + (i - 3) else if i = 6 then 42 else if i < 9 then 40 + (i - 7) else if i < 25 then 24 + 2 * (7 - (i - 9) / 2) + (i - 9) % 2 else if i < 41 then 8 + 2 * (7 - (i - 25) / 2) + (i - 25) % 2 else 2 * (3 - (i - 41) / 2) + (i - 41) % 2
def Sx (c m : Int64) : Prop := (∀ i, i < 49 → bt m i = bt c (piT i)) ∧ (∀ i, 49 ≤ i → bt c i = false) ∧ (∀ i, 49 ≤ i → bt m i = false)
theorem piT_lt {i : Nat} (h : i < 49) : piT i < 49 := by
  have key : ∀ k : Fin 49, piT k.val < 49 := by decide +kernel
  exact key ⟨i, h⟩
/-- the class's bit j is the reference's bit piI j -/
theorem piT_onto {j : Nat} (h : j < 49) : ∃ i, i < 49 ∧ piT i = j := by
  have key : ∀ k : Fin 49, ∃ i : Fin 49, piT i.val = k.val := by decide +kernel
  obtain ⟨i, hi⟩ := key ⟨j, h⟩
  exact ⟨i.val, i.isLt, hi⟩
theorem dg_bit (x : Int64) (n w i : Nat) : (dg x n w).testBit i = (decide (i < w) && bt x (n + i)) := by
  unfold dg bt
  rw [Nat.testBit_mod_two_pow, Nat.testBit_shiftRight]
  rfl
/-- a digit's place on both sides -/
def blk (nm nc w : Nat) : Bool := decide (nm + w ≤ 49) && decide (nc + w ≤ 49) && (List.range 49).all (fun i => if nm ≤ i ∧ i < nm + w then piT i == nc + (i - nm) else !(decide (nc ≤ piT i ∧ piT i < nc + w)))
theorem blk.le {nm nc w : Nat} (h : blk nm nc w = true) : nm + w ≤ 49 ∧ nc + w ≤ 49 := by
  simp only [blk, Bool.and_eq_true, decide_eq_true_eq] at h
  exact h.1
theorem blk.at {nm nc w : Nat} (h : blk nm nc w = true) {i : Nat} (hi : i < 49) : if nm ≤ i ∧ i < nm + w then piT i = nc + (i - nm) else ¬ (nc ≤ piT i ∧ piT i < nc + w) := by
  simp only [blk, Bool.and_eq_true] at h
  have h1 := List.all_eq_true.mp h.2 i (List.mem_range.mpr hi)
  by_cases hc : nm ≤ i ∧ i < nm + w
  · rw [if_pos hc] at h1 ⊢
    exact eq_of_beq h1
  · rw [if_neg hc] at h1 ⊢
    simp only [Bool.not_eq_true', decide_eq_false_iff_not] at h1
    exact h1
theorem Sx.dg {c m : Int64} (h : Sx c m) {nm nc w : Nat} (hb : blk nm nc w = true) : dg m nm w = dg c nc w := by
  apply Nat.eq_of_testBit_eq
  intro i
  rw [dg_bit, dg_bit]
  by_cases hi : i < w
  · have hle := blk.le hb
    rw [h.1 (nm + i) (by omega)]
    have h1 := blk.at hb (i := nm + i) (by omega)
    rw [if_pos ⟨by omega, by omega⟩] at h1
    rw [h1, show nc + (nm + i - nm) = nc + i by omega]
  · simp [hi]
theorem Sx.put {c m c' m' : Int64} (h : Sx c m) {nm nc w v : Nat} (hb : blk nm nc w = true) (h1 : IsPut c c' nc w v) (h2 : IsPut m m' nm w v) : Sx c' m' := by
  have hle := blk.le hb
  refine ⟨fun i hi => ?_, fun i hi => ?_, fun i hi => ?_⟩
  · have hp := piT_lt hi
    rw [h2 i (by omega), h1 (piT i) (by omega)]
    have hx := blk.at hb hi
    by_cases hc : nm ≤ i ∧ i < nm + w
    · rw [if_pos hc] at hx
      rw [if_pos hc, if_pos ⟨by omega, by omega⟩, hx, show nc + (i - nm) - nc = i - nm by omega]
    · rw [if_neg hc] at hx
      rw [if_neg hc, if_neg hx]
      exact h.1 i hi
  · by_cases h64 : i < 64
    · rw [h1 i h64, if_neg (by omega)]
      exact h.2.1 i hi
    · exact bt_big _ (by omega)
  · by_cases h64 : i < 64
    · rw [h2 i h64, if_neg (by omega)]
      exact h.2.2 i hi
    · exact bt_big _ (by omega)
theorem blk_seen : ∀ k : Fin 8, blk (9 + 2 * k.val) (24 + 2 * (7 - k.val)) 2 = true := by decide +kernel
theorem blk_packets : ∀ k : Fin 8, blk (25 + 2 * k.val) (8 + 2 * (7 - k.val)) 2 = true := by decide +kernel
theorem blk_letters : ∀ k : Fin 4, blk (41 + 2 * k.val) (2 * (3 - k.val)) 2 = true := by decide +kernel
theorem blk_label : blk 0 47 2 = true := by decide +kernel
theorem blk_value : blk 2 46 1 = true := by decide +kernel
theorem blk_acks : blk 3 43 3 = true := by decide +kernel
theorem blk_taken : blk 6 42 1 = true := by decide +kernel
theorem blk_last : blk 7 40 2 = true := by decide +kernel
/-- either state settles the other -/
theorem Sx.inj {c c' m : Int64} (h : Sx c m) (h' : Sx c' m) : c = c' := by
  apply bt_ext
  intro j hj
  by_cases h49 : j < 49
  · obtain ⟨i, hi, rfl⟩ := piT_onto h49
    rw [← h.1 i hi, ← h'.1 i hi]
  · rw [h.2.1 j (by omega), h'.2.1 j (by omega)]
theorem Sx.fn {c m m' : Int64} (h : Sx c m) (h' : Sx c m') : m = m' := by
  apply bt_ext
  intro i hi
  by_cases h49 : i < 49
  · rw [h.1 i h49, h'.1 i h49]
  · rw [h.2.2 i (by omega), h'.2.2 i (by omega)]
