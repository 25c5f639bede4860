/-! part 9s: the bits of a double, by halving and doubling -/
section BTSO
variable {F : Nat}
def nx (i : Nat) : Int32 := -(Int32.ofNat i)
theorem nx_step : ∀ i : Fin 1022, nx i.val + (-1) = nx (i.val + 1) ∧ ¬ nx i.val ≤ -1022 := by decide +kernel
theorem nx_add : ∀ i : Fin 1023, nx i.val + 1023 = Int32.ofNat (1023 - i.val) := by decide +kernel
theorem halve {x : UInt64} {c k : Nat} (h : DV x c (k + 1)) (hk : 1022 ≤ k) : DV (FP.ddiv x (4611686018427387904 : UInt64)) c k ∧ nn64 (FP.ddiv x (4611686018427387904 : UInt64)) = true := by
  have hc : 2 ^ 52 ≤ c := h.2.2.1.resolve_left (by omega)
  have hk5 := h.2.2.2
  have hx : FV x (c * 2 ^ (k + 1)) := ⟨c, k + 1, h, rfl⟩
  have e1 : c * 2 ^ (k + 1) * 2 ^ 1074 = c * 2 ^ k * 2 ^ 1075 := by
    rw [Nat.mul_assoc, Nat.mul_assoc, ← Nat.pow_add, ← Nat.pow_add, show k + 1 + 1074 = k + 1075 by omega]
  obtain ⟨u, u1, u2⟩ := fv_div hx fv_2 (Nat.two_pow_pos _) (by
    rw [e1]
    refine Nat.mul_le_mul_right _ ?_
    calc c * 2 ^ k ≤ 2 ^ 53 * 2 ^ 2044 := Nat.mul_le_mul (Nat.le_of_lt h.2.1) (Nat.pow_le_pow_right (by decide) (by omega))
      _ = 2 ^ 2097 := (Nat.pow_add 2 53 2044).symm)
  have := u2 c k h.2.1
  rw [e1] at this
  have e : u = c * 2 ^ k := Nat.le_antisymm (this.1 (Nat.le_refl _)) (this.2 (Nat.le_refl _))
  have hn := fv_nn u1
  obtain ⟨c', k', g1, g2⟩ := u1
  obtain ⟨rfl, rfl⟩ := val_inj g1.2.1 g1.2.2.1 h.2.1 (Or.inr hc) (g2.symm.trans e)
  exact ⟨g1, hn⟩
theorem twice {x : UInt64} {C j : Nat} (h : FV x (C * 2 ^ j)) (hC : C < 2 ^ 53) (hj : C * 2 ^ j < 2 ^ 1074) : FV (FP.dmul x (4611686018427387904 : UInt64)) (C * 2 ^ (j + 1)) := by
  have e1 : C * 2 ^ j * 2 ^ 1075 = C * 2 ^ (j + 1) * 2 ^ 1074 := by
    rw [Nat.mul_assoc, Nat.mul_assoc, ← Nat.pow_add, ← Nat.pow_add, show j + 1 + 1074 = j + 1075 by omega]
  obtain ⟨u, u1, u2⟩ := fv_mul h fv_2 (by
    calc C * 2 ^ j * 2 ^ 1075 ≤ 2 ^ 1074 * 2 ^ 1075 := Nat.mul_le_mul_right _ (Nat.le_of_lt hj)
      _ = 2 ^ 1075 * 2 ^ 1074 := Nat.mul_comm _ _
      _ ≤ 2 ^ 2097 * 2 ^ 1074 := Nat.mul_le_mul_right _ (Nat.pow_le_pow_right (by decide) (by decide)))
  have := u2 C (j + 1) hC
  rw [e1] at this
  have e : u = C * 2 ^ (j + 1) := Nat.le_antisymm (this.1 (Nat.le_refl _)) (this.2 (Nat.le_refl _))
  rw [← e]
  exact u1
theorem big_iff {c k n : Nat} (h2 : c < 2 ^ 53) (h3 : k = 0 ∨ 2 ^ 52 ≤ c) (hn : 1 ≤ n) : (2 ^ (52 + n) ≤ c * 2 ^ k) ↔ n ≤ k := by
  constructor
  · intro h
    by_cases hk : n ≤ k
    · exact hk
    · obtain ⟨d, rfl⟩ : ∃ d, n = d + (1 + k) := ⟨n - 1 - k, by omega⟩
      have h5 : c * 2 ^ k < 2 ^ 53 * 2 ^ k := Nat.mul_lt_mul_of_pos_right h2 (Nat.two_pow_pos k)
      have h6 : 2 ^ 53 * 2 ^ k ≤ 2 ^ (52 + (d + (1 + k))) := by
        rw [← Nat.pow_add]
        exact Nat.pow_le_pow_right (by decide) (by omega)
      omega
  · intro h
    have h4 := h3.resolve_left (by omega)
    rw [Nat.pow_add]
    exact Nat.mul_le_mul h4 (Nat.pow_le_pow_right (by decide) h)
/-- the halvings -/
theorem halves {c k : Nat} (hc2 : c < 2 ^ 53) (hc3 : k = 0 ∨ 2 ^ 52 ≤ c) (hk5 : k ≤ 2045) (hF : 1200 ≤ F) {x : UInt64} (h : DV x c k) : ∃ (y : UInt64) (t : Nat), gloop (fun u1 : (UInt64 × Int32 × Int32) => fX3_bitsOf_S8 F u1.1 u1.2.1 u1.2.2) F (x, 0, 0) = some (y, Int32.ofNat t) ∧ DV y c (k - t) ∧ t ≤ k ∧ k - t ≤ 1022 ∧ (t = 0 ∨ k - t = 1022) := by
  have key : ∀ (n i : Nat) (F' : Nat) (x : UInt64), (k = i + n + 1022 ∨ (n = 0 ∧ k ≤ 1022 ∧ i = 0)) → n < F' → DV x c (k - i) → i + n ≤ 1023 → ∃ (y : UInt64) (t : Nat), gloop (fun u1 : (UInt64 × Int32 × Int32) => fX3_bitsOf_S8 F u1.1 u1.2.1 u1.2.2) F' (x, Int32.ofNat i, Int32.ofNat i) = some (y, Int32.ofNat t) ∧ DV y c (k - t) ∧ t ≤ k ∧ k - t ≤ 1022 ∧ (t = 0 ∨ k - t = 1022) := by
    intro n
    induction n with
    | zero =>
      intro i F' x hn hF' hx hin
      obtain ⟨G, rfl⟩ : ∃ G, F' = G + 1 := ⟨F' - 1, by omega⟩
      refine ⟨x, i, ?_, hx, by omega, by omega, by omega⟩
      simp only [gloop]
      unfold fX3_bitsOf_S8
      have hb := big_iff (n := 1023) hx.2.1 hx.2.2.1 (by decide)
      rw [if_neg (fun z => by have := (i32_le (a := 1100) (by decide) (by omega)).mp z; omega), if_pos ((fv_cmp ⟨_, _, hx, rfl⟩ fv_2 .l).1.mpr (by
        by_cases hlt : c * 2 ^ (k - i) < 2 ^ 1075
        · exact hlt
        · have := hb.mp (by omega)
          omega))]
    | succ n ih =>
      intro i F' x hn hF' hx hin
      obtain ⟨G, rfl⟩ : ∃ G, F' = G + 1 := ⟨F' - 1, by omega⟩
      obtain ⟨d, hd⟩ : ∃ d, k - i = d + 1 := ⟨k - i - 1, by omega⟩
      rw [hd] at hx
      obtain ⟨g1, g2⟩ := halve hx (by omega)
      have hb := big_iff (n := 1023) hx.2.1 hx.2.2.1 (by decide)
      have hst : fX3_bitsOf_S8 F x (Int32.ofNat i) (Int32.ofNat i) = some (.inr (FP.ddiv x (4611686018427387904 : UInt64), Int32.ofNat (i + 1), Int32.ofNat (i + 1))) := by
        unfold fX3_bitsOf_S8
        rw [if_neg (fun z => by have := (i32_le (a := 1100) (by decide) (by omega)).mp z; omega), if_neg (fun z => by
          have h1 := (fv_cmp ⟨_, _, hx, rfl⟩ fv_2 .l).1.mp z
          have h2 := hb.mpr (by omega)
          have h3 : (2 : Nat) ^ (52 + 1023) = 2 ^ 1075 := rfl
          omega), if_pos g2, i32_succ]
      simp only [gloop, hst]
      clear hst hb
      exact ih (i + 1) G _ (Or.inl (by omega)) (by omega) (by rw [show k - (i + 1) = d by omega]; exact g1) (by omega)
  exact key (k - 1022) 0 F x (by omega) (by omega) h (by omega)
/-- the doublings -/
theorem doubles {c k : Nat} (hc2 : c < 2 ^ 53) (hc3 : k = 0 ∨ 2 ^ 52 ≤ c) (hk : k ≤ 1022) (hF : 1200 ≤ F) {x : UInt64} (h : FV x (c * 2 ^ k)) (hz : 2 ^ 52 ≤ c ∨ c < 2 ^ 52) : ∃ y : UInt64, gloop (fun u9 : (UInt64 × Int32 × Int32) => fX3_bitsOf_S42 F u9.1 u9.2.1 u9.2.2) F (x, nx 0, 0) = some (y, nx (1022 - k)) ∧ FV y (c * 2 ^ 1022) := by
  have key : ∀ (n i : Nat) (F' : Nat) (x : UInt64), k + i + n = 1022 → n < F' → FV x (c * 2 ^ (k + i)) → ∃ y : UInt64, gloop (fun u9 : (UInt64 × Int32 × Int32) => fX3_bitsOf_S42 F u9.1 u9.2.1 u9.2.2) F' (x, nx i, Int32.ofNat i) = some (y, nx (1022 - k)) ∧ FV y (c * 2 ^ 1022) := by
    intro n
    induction n with
    | zero =>
      intro i F' x hn hF' hx
      obtain ⟨G, rfl⟩ : ∃ G, F' = G + 1 := ⟨F' - 1, by omega⟩
      obtain rfl : i = 1022 - k := by omega
      rw [show k + (1022 - k) = 1022 by omega] at hx
      refine ⟨x, ?_, hx⟩
      simp only [gloop]
      unfold fX3_bitsOf_S42
      by_cases h0 : (1022 : Int32) ≤ Int32.ofNat (1022 - k)
      · rw [if_pos h0]
      · have hk0 : k ≠ 0 := fun z => h0 (by subst z; decide)
        have hc := hc3.resolve_left hk0
        rw [if_neg h0, if_pos ((fv_cmp hx fv_1 .g).2.1.mpr (by
          have := Nat.mul_le_mul_right (2 ^ 1022) hc
          rw [← Nat.pow_add] at this
          exact this))]
    | succ n ih =>
      intro i F' x hn hF' hx
      obtain ⟨G, rfl⟩ : ∃ G, F' = G + 1 := ⟨F' - 1, by omega⟩
      have hlt : c * 2 ^ (k + i) < 2 ^ 1074 := by
        calc c * 2 ^ (k + i) < 2 ^ 53 * 2 ^ (k + i) := Nat.mul_lt_mul_of_pos_right hc2 (Nat.two_pow_pos _)
          _ = 2 ^ (53 + (k + i)) := (Nat.pow_add 2 53 (k + i)).symm
          _ ≤ 2 ^ 1074 := Nat.pow_le_pow_right (by decide) (by omega)
      have g1 := twice hx hc2 hlt
      obtain ⟨s1, s2⟩ := nx_step ⟨i, by omega⟩
      have hst : fX3_bitsOf_S42 F x (nx i) (Int32.ofNat i) = some (.inr (FP.dmul x (4611686018427387904 : UInt64), nx (i + 1), Int32.ofNat (i + 1))) := by
        unfold fX3_bitsOf_S42
        rw [if_neg (fun z => by have := (i32_le (a := 1022) (by decide) (by omega)).mp z; omega), if_neg (fun z => by
          have h1 := (fv_cmp hx fv_1 .g).2.1.mp z
          omega), if_neg s2, if_pos (fv_nn g1), i32_succ]
        rw [show nx i + (-1) = nx (i + 1) from s1]
      simp only [gloop, hst]
      exact ih (i + 1) G _ (by omega) (by omega) (by rw [show k + (i + 1) = k + i + 1 by omega]; exact g1)
  exact key (1022 - k) 0 F x (by omega) (by omega) h
theorem ofnat_bit {m i : Nat} (hi : i < 64) : bt (Int64.ofNat m) i = m.testBit i := by
  show (BitVec.ofNat 64 m).getLsbD i = _
  rw [BitVec.getLsbD_ofNat]
  simp [hi]
theorem u64_bit (x : UInt64) (i : Nat) : bt x.toInt64 i = x.toNat.testBit i := rfl
theorem fraction {y : UInt64} {m : Nat} (h : FV y (m * 2 ^ 1022)) (hm : m < 2 ^ 53) (hb : m * 2 ^ 1022 < 2 ^ 1075) : nn64 (FP.dmul y (4841369599423283200 : UInt64)) = true ∧ FP.d2l (FP.dmul y (4841369599423283200 : UInt64)) = Int64.ofNat m := by
  have e1 : m * 2 ^ 1022 * 2 ^ 1126 = m * 2 ^ 1074 * 2 ^ 1074 := by
    rw [Nat.mul_assoc, Nat.mul_assoc, ← Nat.pow_add, ← Nat.pow_add]
  obtain ⟨u, u1, u2⟩ := fv_mul h fv_52 (by
    calc m * 2 ^ 1022 * 2 ^ 1126 ≤ 2 ^ 1075 * 2 ^ 1126 := Nat.mul_le_mul_right _ (Nat.le_of_lt hb)
      _ ≤ 2 ^ 2097 * 2 ^ 1074 := by
        rw [← Nat.pow_add, ← Nat.pow_add]
        exact Nat.pow_le_pow_right (by decide) (by decide))
  have := u2 m 1074 hm
  rw [e1] at this
  have e : u = m * 2 ^ 1074 := Nat.le_antisymm (this.1 (Nat.le_refl _)) (this.2 (Nat.le_refl _))
  rw [e] at u1
  exact ⟨fv_nn u1, fv_d2l u1 (by omega)⟩
theorem tail_low {y : UInt64} {c : Nat} (h : FV y (c * 2 ^ 1022)) (hc : c < 2 ^ 52) (v : Int32) : fX3_bitsOf_J79 F y v = some (Int64.ofNat c) := by
  have hlt : c * 2 ^ 1022 < 2 ^ 1074 := by
    have := Nat.mul_lt_mul_of_pos_right hc (Nat.two_pow_pos 1022)
    rw [← Nat.pow_add] at this
    exact this
  obtain ⟨g1, g2⟩ := fraction h (by omega) (Nat.lt_of_lt_of_le hlt (Nat.pow_le_pow_right (by decide) (by decide)))
  unfold fX3_bitsOf_J79
  rw [if_neg (fun z => by have := (fv_cmp h fv_1 .g).2.1.mp z; omega), if_pos g1, g2]
theorem tail_high {y : UInt64} {c k : Nat} (h : FV y (c * 2 ^ 1022)) (hc : 2 ^ 52 ≤ c) (hc2 : c < 2 ^ 53) {v : Int32} (hk : k ≤ 2045) (hv : v + 1023 = Int32.ofNat (k + 1)) : fX3_bitsOf_J79 F y v = some (((Int32.ofNat (k + 1)).toInt64 <<< Int64.ofNat 52) ||| Int64.ofNat (c - 2 ^ 52)) := by
  have hge : 2 ^ 1074 ≤ c * 2 ^ 1022 := by
    have := Nat.mul_le_mul_right (2 ^ 1022) hc
    rw [← Nat.pow_add] at this
    exact this
  have hval : c * 2 ^ 1022 = 2 ^ 1074 + (c - 2 ^ 52) * 2 ^ 1022 := by
    rw [Nat.sub_mul, ← Nat.pow_add]
    omega
  have hlt : (c - 2 ^ 52) * 2 ^ 1022 < 2 ^ 1074 := by
    have := Nat.mul_lt_mul_of_pos_right (show c - 2 ^ 52 < 2 ^ 52 by omega) (Nat.two_pow_pos 1022)
    rw [← Nat.pow_add] at this
    exact this
  have hs := fv_sub h fv_1 (C := c - 2 ^ 52) (j := 1022) (by omega) hval (Nat.le_trans (Nat.le_of_lt hlt) (Nat.pow_le_pow_right (by decide) (by decide)))
  obtain ⟨g1, g2⟩ := fraction hs (by omega) (Nat.lt_of_lt_of_le hlt (Nat.pow_le_pow_right (by decide) (by decide)))
  unfold fX3_bitsOf_J79
  rw [if_pos ((fv_cmp h fv_1 .g).2.1.mpr hge), if_pos (fv_nn hs), if_pos g1, g2, hv]
  rfl
theorem bits_eq (hF : 1200 ≤ F) {x : UInt64} {v : Nat} (h : FV x v) : fX3_bitsOf F x = some x.toInt64 := by
  obtain ⟨c, k, hx, rfl⟩ := h
  obtain ⟨h1, h2, h3, h4⟩ := id hx
  obtain ⟨y, t, e1, g1, g2, g3, g4⟩ := halves h2 h3 h4 hF hx
  unfold fX3_bitsOf
  rw [e1, Option.bind_some]
  unfold fX3_bitsOf_J39
  dsimp only
  by_cases hlow : c < 2 ^ 52
  · obtain rfl : k = 0 := by omega
    obtain rfl : t = 0 := by omega
    obtain ⟨z, f1, f2⟩ := doubles (k := 0) h2 (Or.inl rfl) (by decide) hF ⟨c, 0, g1, rfl⟩ (by omega)
    rw [show Int32.ofNat 0 = nx 0 by decide, f1, Option.bind_some]
    rw [tail_low f2 hlow]
    congr 1
    apply bt_ext
    intro i hi
    rw [ofnat_bit hi, u64_bit, h1]
    congr 1
    omega
  · have hk0 : k - t = 0 ∨ 2 ^ 52 ≤ c := Or.inr (by omega)
    have hfin : ∀ (z : UInt64) (v : Int32), FV z (c * 2 ^ 1022) → v + 1023 = Int32.ofNat (k + 1) → fX3_bitsOf_J79 F z v = some x.toInt64 := by
      intro z v hz hv
      rw [tail_high hz (by omega) h2 h4 hv]
      congr 1
      apply bt_ext
      intro i hi
      rw [bt_or, bt_shl _ (by decide) hi, ofnat_bit hi, u64_bit, h1]
      have e : k * 2 ^ 52 + c = 2 ^ 52 * (k + 1) + (c - 2 ^ 52) := by omega
      rw [e, Nat.testBit_two_pow_mul_add _ (by omega)]
      by_cases hi5 : i < 52
      · rw [if_pos hi5, decide_eq_false (by omega), Bool.false_and, Bool.false_or]
      · rw [if_neg hi5, decide_eq_true (by omega), Bool.true_and, bt_i32 (by omega) (by omega)]
        have hz : (c - 2 ^ 52).testBit i = false := Nat.testBit_lt_two_pow (Nat.lt_of_lt_of_le (show c - 2 ^ 52 < 2 ^ 52 by omega) (Nat.pow_le_pow_right (by decide) (by omega)))
        rw [hz, Bool.or_false]
    by_cases ht : t = 0
    · subst ht
      rw [Nat.sub_zero] at g1 g3
      obtain ⟨z, f1, f2⟩ := doubles (k := k) h2 h3 g3 hF ⟨c, k, g1, rfl⟩ (by omega)
      rw [show Int32.ofNat 0 = nx 0 by decide, f1, Option.bind_some]
      refine hfin z _ f2 ?_
      rw [show nx (1022 - k) + 1023 = Int32.ofNat (1023 - (1022 - k)) from nx_add ⟨1022 - k, by omega⟩, show 1023 - (1022 - k) = k + 1 by omega]
    · have hkt : k - t = 1022 := by omega
      rw [hkt] at g1
      have hy : FV y (c * 2 ^ 1022) := ⟨c, 1022, g1, rfl⟩
      have hge : 2 ^ 1074 ≤ c * 2 ^ 1022 := by
        have := Nat.mul_le_mul_right (2 ^ 1022) (show 2 ^ 52 ≤ c by omega)
        rw [← Nat.pow_add] at this
        exact this
      have hst : gloop (fun u9 : (UInt64 × Int32 × Int32) => fX3_bitsOf_S42 F u9.1 u9.2.1 u9.2.2) F (y, Int32.ofNat t, 0) = some (y, Int32.ofNat t) := by
        obtain ⟨G, hG⟩ : ∃ G, F = G + 1 := ⟨F - 1, by omega⟩
        have h1 : fX3_bitsOf_S42 F y (Int32.ofNat t) 0 = some (.inl (y, Int32.ofNat t)) := by
          unfold fX3_bitsOf_S42
          rw [if_neg (by decide), if_pos ((fv_cmp hy fv_1 .g).2.1.mpr hge)]
        rw [hG] at h1 ⊢
        simp only [gloop, h1]
      rw [hst, Option.bind_some]
      exact hfin y _ hy (by rw [show (1023 : Int32) = Int32.ofNat 1023 from rfl, i32_add, show t + 1023 = k + 1 by omega])
theorem bits_m {x : UInt64} {v : Nat} (h : FV x v) : fJxe99ae_doubleToLongBits_ccdee x = x.toInt64 := by
  unfold fJxe99ae_doubleToLongBits_ccdee fJxe99ae_isNaN_b9ae7
  rw [if_pos (by rw [if_pos ((fv_cmp h h .l).2.2.mpr rfl)])]
end BTSO
