/-! part 61: what an act leaves behind: queue, rows, counts -/
def bi (x : Int32) (i : Nat) : Bool := x.toBitVec.getLsbD i
def Qx (qb qs mq : Int32) (A : Nat → Int32) : Prop := ∃ n, n ≤ 30 ∧ qs = Int32.ofNat n ∧ mq = Int32.ofNat n ∧ (∀ i, i < n → A i = Int32.ofNat (bi qb i).toNat) ∧ (∀ i, n ≤ i → bi qb i = false)
def Rx (sz : Int32) (b : Int64) (mn : Int32) (A : Nat → Int32) : Prop := ∃ n, n ≤ 40 ∧ sz = Int32.ofNat n ∧ mn = Int32.ofNat n ∧ (∀ i, i < n → A i = Int32.ofNat (bt b (n - 1 - i)).toNat)
def Cx (A B : Nat → Int32) : Prop := ∀ i, i < 8 → A i = B i
theorem tnc {n : Nat} (h : n < 2 ^ 31) : (Int32.ofNat n).toNatClampNeg = n := by
  show (Int32.ofNat n).toInt.toNat = n
  rw [i32_int h]; rfl
theorem inb_ofNat {n N : Nat} (h : n < 2 ^ 31) : inb (Int32.ofNat n) N = decide (n < N) := by
  unfold inb
  rw [i32_int h]
  by_cases hn : n < N
  · rw [decide_eq_true hn, decide_eq_true (show (0 : Int) ≤ (n : Int) by omega), decide_eq_true (show (n : Int) < (N : Int) by omega)]; rfl
  · rw [decide_eq_false hn, decide_eq_false (show ¬ (n : Int) < (N : Int) by omega), Bool.and_false]
theorem inb_t {n N : Nat} (h : n < 2 ^ 31) (hn : n < N) : inb (Int32.ofNat n) N = true := by rw [inb_ofNat h]; exact decide_eq_true hn
theorem upd_at (f : Nat → Int32) (k : Nat) (x : Int32) : upd f k x k = x := if_pos rfl
theorem upd_ne {f : Nat → Int32} {k j : Nat} {x : Int32} (h : j ≠ k) : upd f k x j = f j := if_neg h
theorem bi_ext {x y : Int32} (h : ∀ i, i < 32 → bi x i = bi y i) : x = y := by
  apply Int32.toBitVec_inj.mp
  exact BitVec.eq_of_getLsbD_eq (fun i hi => h i hi)
theorem bi_big (x : Int32) {i : Nat} (h : 32 ≤ i) : bi x i = false := BitVec.getLsbD_of_ge _ _ h
theorem bi_and (x y : Int32) (i : Nat) : bi (x &&& y) i = (bi x i && bi y i) := by
  unfold bi; rw [Int32.toBitVec_and, BitVec.getLsbD_and]
theorem bi_or (x y : Int32) (i : Nat) : bi (x ||| y) i = (bi x i || bi y i) := by
  unfold bi; rw [Int32.toBitVec_or, BitVec.getLsbD_or]
theorem bi_one : ∀ i : Fin 32, bi (1 : Int32) i.val = decide (i.val = 0) := by decide +kernel
theorem bi_bool (b : Bool) {i : Nat} (hi : i < 32) : bi (Int32.ofNat b.toNat) i = (decide (i = 0) && b) := by
  cases b
  · have key : ∀ k : Fin 32, bi (Int32.ofNat false.toNat) k.val = false := by decide +kernel
    rw [show bi (Int32.ofNat false.toNat) i = false from key ⟨i, hi⟩]; simp
  · have key : ∀ k : Fin 32, bi (Int32.ofNat true.toNat) k.val = decide (k.val = 0) := by decide +kernel
    rw [show bi (Int32.ofNat true.toNat) i = _ from key ⟨i, hi⟩]; simp
theorem bi_low (x : Int32) : x &&& (1 : Int32) = Int32.ofNat (bi x 0).toNat := by
  apply bi_ext
  intro i hi
  rw [bi_and, show bi (1 : Int32) i = _ from bi_one ⟨i, hi⟩, bi_bool _ hi]
  by_cases h : i = 0
  · subst h; simp
  · simp [h]
theorem bi_ushr1 (x : Int32) (i : Nat) : bi ((x.toUInt32 >>> ((1 : Int32).toUInt32 &&& Int32.toUInt32 31)).toInt32) i = bi x (i + 1) := by
  rw [show ((1 : Int32).toUInt32 &&& Int32.toUInt32 31) = (1 : UInt32) by decide +kernel]
  unfold bi
  show ((x.toUInt32 >>> (1 : UInt32)).toBitVec).getLsbD i = _
  rw [UInt32.toBitVec_shiftRight]
  rw [show ((1 : UInt32).toBitVec % 32) = 1#32 by decide +kernel]
  simp [BitVec.getLsbD_ushiftRight, Nat.add_comm]
theorem shift_upd (A : Nat → Int32) (i : Nat) : upd (fun j => if j < i then A (j + 1) else A j) i ((fun j => if j < i then A (j + 1) else A j) (i + 1)) = fun j => if j < i + 1 then A (j + 1) else A j := by
  funext j
  by_cases h1 : j = i
  · subst h1
    rw [upd_at]
    show (if j + 1 < j then A (j + 1 + 1) else A (j + 1)) = _
    rw [if_neg (by omega), if_pos (by omega)]
  · rw [upd_ne h1]
    by_cases h2 : j < i
    · show (if j < i then A (j + 1) else A j) = _
      rw [if_pos h2, if_pos (by omega)]
    · show (if j < i then A (j + 1) else A j) = _
      rw [if_neg h2, if_neg (by omega)]
theorem take_eq {qb : Int32} {A : Nat → Int32} {qs mq : Int32} (h : Qx qb qs mq A) (hq : ¬ mq ≤ 0) {F : Nat} (hF : 31 ≤ F) (x0 x1 x2 x3 : Int32) (x4 : Int64) (x9 x11 : Int32) (x19 : Int64) (x20 x21 x22 : Int32) (A71 A72 A73 : Nat → Int32) : ∃ B, gloop (fun u33 : (Int32 × (Nat → Int32)) => fX12_acts_S205 F x0 x1 x2 x3 x4 mq x9 x11 x19 x20 x21 x22 A71 A72 A73 u33.1 u33.2) F (1, A) = some B ∧ Qx (fX11_takeFromQueue qb qs).1 (fX11_takeFromQueue qb qs).2 (mq - 1) B := by
  obtain ⟨n, hn, rfl, rfl, hA, hB⟩ := h
  have hn1 : 1 ≤ n := by
    rcases Nat.eq_zero_or_pos n with h0 | h0
    · subst h0; exact absurd (by decide) hq
    · exact h0
  refine ⟨fun j => if j < n - 1 then A (j + 1) else A j, ?_, ?_⟩
  · refine gl_for (n - 1) (fun i => (Int32.ofNat (i + 1), fun j => if j < i then A (j + 1) else A j)) (fun i hi => ?_) ?_ (by omega)
    · show fX12_acts_S205 F _ _ _ _ _ (Int32.ofNat n) _ _ _ _ _ _ _ _ _ (Int32.ofNat (i + 1)) _ = _
      unfold fX12_acts_S205
      rw [if_neg (fun z => by have := (i32_le (by omega) (by omega)).mp z; omega), if_pos (inb_t (by omega) (by omega)), show Int32.ofNat (i + 1) - 1 = Int32.ofNat i from i32_pred (by omega) (by omega), if_pos (inb_t (by omega) (by omega)), tnc (by omega), tnc (by omega), i32_succ]
      exact congrArg (fun B => some (Sum.inr (Int32.ofNat (i + 1 + 1), B))) (shift_upd A i)
    · show fX12_acts_S205 F _ _ _ _ _ (Int32.ofNat n) _ _ _ _ _ _ _ _ _ (Int32.ofNat (n - 1 + 1)) _ = _
      unfold fX12_acts_S205
      rw [if_pos ((i32_le (by omega) (by omega)).mpr (by omega))]
  · unfold fX11_takeFromQueue
    rw [if_neg hq]
    refine ⟨n - 1, by omega, i32_pred hn1 (by omega), i32_pred hn1 (by omega), fun i hi => ?_, fun i hi => ?_⟩
    · show (if i < n - 1 then A (i + 1) else A i) = _
      rw [if_pos hi, hA _ (by omega), bi_ushr1]
    · rw [bi_ushr1]; exact hB _ (by omega)
/-- a row's next number -/
theorem row_eq {sz : Int32} {b : Int64} {mn : Int32} {A : Nat → Int32} (h : Rx sz b mn A) {v : Nat} (hv : v < 2) {F : Nat} (hF : 40 ≤ F) : ∃ Y, fX12_comesTo F A mn (Int32.ofNat v) = some Y ∧ Rx (fX6_add sz b (Int32.ofNat v)).1 (fX6_add sz b (Int32.ofNat v)).2 Y.1 Y.2 := by
  obtain ⟨n, hn, rfl, rfl, hA⟩ := h
  have hb : ∀ i, i < 64 → bt ((b <<< ((1 : Int32).toInt64 &&& 63)) ||| (Int32.ofNat v).toInt64) i = if i = 0 then v.testBit 0 else bt b (i - 1) := by
    intro i hi
    rw [bt_or, show ((1 : Int32).toInt64 &&& 63) = Int64.ofNat 1 from sh32 ⟨1, by decide⟩, bt_shl b (by decide) hi, bt_i32 (by omega) hi]
    by_cases h0 : i = 0
    · subst h0; simp
    · have : 1 ≤ i := by omega
      have hz : v.testBit i = false := by
        apply Nat.testBit_lt_two_pow
        have : 2 ^ 1 ≤ 2 ^ i := Nat.pow_le_pow_right (by decide) (by omega)
        omega
      simp [h0, this, hz]
  have hv0 : Int32.ofNat v = Int32.ofNat (v.testBit 0).toNat := by
    rcases (show v = 0 ∨ v = 1 by omega) with rfl | rfl <;> rfl
  unfold fX12_comesTo fX6_add
  rw [i32_succ]
  by_cases h40 : n = 40
  · subst h40
    rw [if_pos (show (40 : Int32) ≤ Int32.ofNat 40 by decide), if_pos (show (40 : Int32) < Int32.ofNat (40 + 1) by decide)]
    have hl : gloop (fun u2 : (Int32 × (Nat → Int32)) => fX12_comesTo_S16 F (Int32.ofNat v) u2.1 u2.2) F (1, A) = some (fun j => if j < 39 then A (j + 1) else A j) := by
      refine gl_for 39 (fun i => (Int32.ofNat (i + 1), fun j => if j < i then A (j + 1) else A j)) (fun i hi => ?_) ?_ (by omega)
      · show fX12_comesTo_S16 F _ (Int32.ofNat (i + 1)) _ = _
        unfold fX12_comesTo_S16
        rw [if_neg (fun z => by have := (i32_le (a := 40) (by omega) (by omega)).mp z; omega), if_pos (inb_t (by omega) (by omega)), show Int32.ofNat (i + 1) - 1 = Int32.ofNat i from i32_pred (by omega) (by omega), if_pos (inb_t (by omega) (by omega)), tnc (by omega), tnc (by omega), i32_succ]
        exact congrArg (fun B => some (Sum.inr (Int32.ofNat (i + 1 + 1), B))) (shift_upd A i)
      · show fX12_comesTo_S16 F _ (Int32.ofNat (39 + 1)) _ = _
        unfold fX12_comesTo_S16
        rw [if_pos (show (40 : Int32) ≤ Int32.ofNat (39 + 1) by decide)]
    rw [hl]
    refine ⟨_, rfl, 40, by decide, rfl, rfl, fun i hi => ?_⟩
    show upd (fun j => if j < 39 then A (j + 1) else A j) (39 : Int32).toNatClampNeg (Int32.ofNat v) i = _
    rw [show (39 : Int32).toNatClampNeg = 39 from tnc (n := 39) (by decide)]
    show _ = Int32.ofNat (bt ((b <<< ((1 : Int32).toInt64 &&& 63)) ||| (Int32.ofNat v).toInt64) (40 - 1 - i)).toNat
    rw [hb _ (by omega)]
    by_cases h1 : i = 39
    · subst h1
      rw [upd_at, if_pos (by decide)]; exact hv0
    · rw [upd_ne h1]
      show (if i < 39 then A (i + 1) else A i) = _
      rw [if_pos (by omega), if_neg (by omega), hA _ (by omega)]
      congr 3
  · rw [if_neg (fun z => by have := (i32_le (a := 40) (by omega) (by omega)).mp z; omega), if_pos (inb_t (by omega) (by omega)), if_neg (fun z => by have := (i32_lt (a := 40) (by omega) (by omega)).mp z; omega), tnc (by omega)]
    refine ⟨_, rfl, n + 1, by omega, rfl, rfl, fun i hi => ?_⟩
    show upd A n (Int32.ofNat v) i = Int32.ofNat (bt ((b <<< ((1 : Int32).toInt64 &&& 63)) ||| (Int32.ofNat v).toInt64) (n + 1 - 1 - i)).toNat
    rw [hb _ (by omega)]
    by_cases h1 : i = n
    · subst h1
      rw [upd_at, if_pos (by omega)]; exact hv0
    · rw [upd_ne h1, if_neg (by omega), hA _ (by omega)]
      congr 3
      omega
/-! what stands above a state's 49 bits -/
theorem K_low : ∀ (o : Fin 8) (w : Fin 5) (lo : Fin 2) (i : Fin 49), bt (mk64 o.val ||| lostBits w.val lo.val) i.val = false := by decide +kernel
theorem K_out : ∀ (o : Fin 8) (w : Fin 5) (lo : Fin 2), dg (mk64 o.val ||| lostBits w.val lo.val) 52 3 = o.val := by decide +kernel
theorem K_p : ∀ (o : Fin 8) (w : Fin 5) (lo : Fin 2), (mk64 o.val ||| lostBits w.val lo.val) &&& 72057594037927936 = (if lo.val = 1 ∧ (w.val = 0 ∨ w.val = 3) then 72057594037927936 else 0) := by decide +kernel
theorem K_l : ∀ (o : Fin 8) (w : Fin 5) (lo : Fin 2), (mk64 o.val ||| lostBits w.val lo.val) &&& 144115188075855872 = (if lo.val = 1 ∧ ¬ (w.val = 0 ∨ w.val = 3) then 144115188075855872 else 0) := by decide +kernel
section KX
variable {c : Int64} {o w lo : Nat}
theorem kx_state (h : Hz c) (ho : o < 8) (hw : w < 5) (hl : lo < 2) : (c ||| (mk64 o ||| lostBits w lo)) &&& (562949953421311 : Int64) = c := by
  apply bt_ext
  intro i hi
  have key : ∀ k : Fin 64, bt (562949953421311 : Int64) k.val = decide (k.val < 49) := by decide +kernel
  rw [bt_and, bt_or, show bt (562949953421311 : Int64) i = _ from key ⟨i, hi⟩]
  by_cases h49 : i < 49
  · rw [show bt (mk64 o ||| lostBits w lo) i = false from K_low ⟨o, ho⟩ ⟨w, hw⟩ ⟨lo, hl⟩ ⟨i, h49⟩]; simp [h49]
  · rw [h i (by omega)]; simp [h49]
theorem kx_high (h : Hz c) (K M : Int64) (hM : ∀ i, i < 49 → bt M i = false) : (c ||| K) &&& M = K &&& M := by
  apply bt_ext
  intro i hi
  rw [bt_and, bt_and, bt_or]
  by_cases h49 : i < 49
  · rw [hM i h49, Bool.and_false, Bool.and_false]
  · rw [h i (by omega), Bool.false_or]
theorem kx_out (h : Hz c) (ho : o < 8) (hw : w < 5) (hl : lo < 2) : fX7_outcomeOf (c ||| (mk64 o ||| lostBits w lo)) = Int32.ofNat o := by
  unfold fX7_outcomeOf
  rw [show ((52 : Int32).toInt64.toUInt64 &&& Int64.toUInt64 63) = UInt64.ofNat 52 from sh32u ⟨52, by decide⟩, low_dg _ (w := 3) (by decide) 7 rfl, ushr_dg _ (by decide)]
  show Int32.ofNat (dg (c ||| (mk64 o ||| lostBits w lo)) 52 3) = _
  congr 1
  refine Eq.trans ?_ (K_out ⟨o, ho⟩ ⟨w, hw⟩ ⟨lo, hl⟩)
  apply Nat.eq_of_testBit_eq
  intro i
  rw [dg_bit, dg_bit, bt_or, h (52 + i) (by omega), Bool.false_or]
theorem kx_p (h : Hz c) (ho : o < 8) (hw : w < 5) (hl : lo < 2) : (lg_cmp ((c ||| (mk64 o ||| lostBits w lo)) &&& (72057594037927936 : Int64)) 0 = 0) ↔ ¬ (lo = 1 ∧ (w = 0 ∨ w = 3)) := by
  have key : ∀ k : Fin 49, bt (72057594037927936 : Int64) k.val = false := by decide +kernel
  rw [lg_cmp_eq, kx_high h _ _ (fun i hi => key ⟨i, hi⟩), show (mk64 o ||| lostBits w lo) &&& 72057594037927936 = _ from K_p ⟨o, ho⟩ ⟨w, hw⟩ ⟨lo, hl⟩]
  by_cases hc : lo = 1 ∧ (w = 0 ∨ w = 3)
  · rw [if_pos hc]; exact ⟨fun z => absurd z (by decide), fun z => absurd hc z⟩
  · rw [if_neg hc]; exact ⟨fun _ => hc, fun _ => rfl⟩
theorem kx_l (h : Hz c) (ho : o < 8) (hw : w < 5) (hl : lo < 2) : (lg_cmp ((c ||| (mk64 o ||| lostBits w lo)) &&& (144115188075855872 : Int64)) 0 = 0) ↔ ¬ (lo = 1 ∧ ¬ (w = 0 ∨ w = 3)) := by
  have key : ∀ k : Fin 49, bt (144115188075855872 : Int64) k.val = false := by decide +kernel
  rw [lg_cmp_eq, kx_high h _ _ (fun i hi => key ⟨i, hi⟩), show (mk64 o ||| lostBits w lo) &&& 144115188075855872 = _ from K_l ⟨o, ho⟩ ⟨w, hw⟩ ⟨lo, hl⟩]
  by_cases hc : lo = 1 ∧ ¬ (w = 0 ∨ w = 3)
  · rw [if_pos hc]; exact ⟨fun z => absurd z (by decide), fun z => absurd hc z⟩
  · rw [if_neg hc]; exact ⟨fun _ => hc, fun _ => rfl⟩
end KX
