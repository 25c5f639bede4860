/-! part 9r: quotients, products, differences, orders of doubles that are finite and not negative -/
section DOPS
/-- a rounded number as a double -/
theorem fv_round {num den : Nat} (hd : 0 < den) (e : Int) (hb : qN num e ≤ 2 ^ 2097 * qD den e) : ∃ u, FV (UInt64.ofNat (FP.Core.encode FP.Core.b64 (FP.Core.roundRatio FP.Core.b64 false num den e))) u ∧ ∀ C j : Nat, C < 2 ^ 53 → (qN num e ≤ C * 2 ^ j * qD den e → u ≤ C * 2 ^ j) ∧ (C * 2 ^ j * qD den e ≤ qN num e → C * 2 ^ j ≤ u) := by
  by_cases h0 : num = 0
  · subst h0
    unfold FP.Core.roundRatio
    rw [if_pos rfl, show FP.Core.Fmt.qmin FP.Core.b64 = ((0 : Nat) : Int) - 1074 by decide +kernel]
    refine ⟨0, ⟨0, 0, enc_dv (by decide) (Or.inl rfl) (by decide), rfl⟩, fun C j hC => ⟨fun _ => Nat.zero_le _, fun z => ?_⟩⟩
    unfold qN at z
    rw [Nat.zero_mul] at z
    have h1 := qD_pos hd e
    rcases Nat.mul_eq_zero.mp (Nat.le_zero.mp z) with h | h
    · omega
    · omega
  · obtain ⟨c', k', e1, e2, e3, e4, e5⟩ := round_spec false (num := num) (by omega) hd e hb
    rw [e1]
    exact ⟨c' * 2 ^ k', ⟨c', k', enc_dv e2 e3 e4, rfl⟩, e5⟩
theorem le_scale {N D v w X : Nat} (hw : 0 < w) (hD : 0 < D) (h : N * w = v * X * D) (M : Nat) : (N ≤ M * D ↔ v * X ≤ M * w) ∧ (M * D ≤ N ↔ M * w ≤ v * X) := by
  have e1 : M * D * w = M * w * D := by simp only [Nat.mul_assoc, Nat.mul_comm, Nat.mul_left_comm]
  constructor
  · rw [← Nat.mul_le_mul_right_iff hw, h, e1, Nat.mul_le_mul_right_iff hD]
  · rw [← Nat.mul_le_mul_right_iff (n := M * D) (m := N) hw, h, e1, Nat.mul_le_mul_right_iff hD]
theorem fv_div {x y : UInt64} {v w : Nat} (h : FV x v) (g : FV y w) (hw : 0 < w) (hb : v * 2 ^ 1074 ≤ 2 ^ 2097 * w) : ∃ u, FV (FP.ddiv x y) u ∧ ∀ C j : Nat, C < 2 ^ 53 → (v * 2 ^ 1074 ≤ C * 2 ^ j * w → u ≤ C * 2 ^ j) ∧ (C * 2 ^ j * w ≤ v * 2 ^ 1074 → C * 2 ^ j ≤ u) := by
  obtain ⟨c, k, h1, rfl⟩ := h
  obtain ⟨d, l, g1, rfl⟩ := g
  have hd : 0 < d := by
    rcases Nat.eq_zero_or_pos d with h | h
    · subst h; rw [Nat.zero_mul] at hw; omega
    · exact h
  show ∃ u, FV (UInt64.ofNat (FP.Core.div FP.Core.b64 x.toNat y.toNat)) u ∧ _
  unfold FP.Core.div
  rw [dv_dec h1, dv_dec g1]
  unfold FP.Core.quotient
  dsimp only
  rw [if_neg (by omega), show (false != false) = false from rfl]
  have hD := qD_pos hd ((k : Int) - 1074 - ((l : Int) - 1074))
  have hs : qN c ((k : Int) - 1074 - ((l : Int) - 1074)) * (d * 2 ^ l) = c * 2 ^ k * 2 ^ 1074 * qD d ((k : Int) - 1074 - ((l : Int) - 1074)) := by
    unfold qN qD
    have e1 : c * 2 ^ ((k : Int) - 1074 - ((l : Int) - 1074) + 1074).toNat * (d * 2 ^ l) = c * d * 2 ^ (((k : Int) - 1074 - ((l : Int) - 1074) + 1074).toNat + l) := by
      rw [Nat.pow_add]
      simp only [Nat.mul_assoc, Nat.mul_comm, Nat.mul_left_comm]
    have e2 : c * 2 ^ k * 2 ^ 1074 * (d * 2 ^ (-((k : Int) - 1074 - ((l : Int) - 1074) + 1074)).toNat) = c * d * 2 ^ (k + 1074 + (-((k : Int) - 1074 - ((l : Int) - 1074) + 1074)).toNat) := by
      rw [Nat.pow_add, Nat.pow_add]
      simp only [Nat.mul_assoc, Nat.mul_comm, Nat.mul_left_comm]
    rw [e1, e2, show ((k : Int) - 1074 - ((l : Int) - 1074) + 1074).toNat + l = k + 1074 + (-((k : Int) - 1074 - ((l : Int) - 1074) + 1074)).toNat by omega]
  obtain ⟨u, u1, u2⟩ := fv_round (num := c) hd ((k : Int) - 1074 - ((l : Int) - 1074)) ((le_scale hw hD hs _).1.mpr hb)
  refine ⟨u, u1, fun C j hC => ?_⟩
  have := u2 C j hC
  have sc := le_scale hw hD hs (C * 2 ^ j)
  exact ⟨fun z => this.1 (sc.1.mpr z), fun z => this.2 (sc.2.mpr z)⟩
theorem fv_mul {x y : UInt64} {v w : Nat} (h : FV x v) (g : FV y w) (hb : v * w ≤ 2 ^ 2097 * 2 ^ 1074) : ∃ u, FV (FP.dmul x y) u ∧ ∀ C j : Nat, C < 2 ^ 53 → (v * w ≤ C * 2 ^ j * 2 ^ 1074 → u ≤ C * 2 ^ j) ∧ (C * 2 ^ j * 2 ^ 1074 ≤ v * w → C * 2 ^ j ≤ u) := by
  obtain ⟨c, k, h1, rfl⟩ := h
  obtain ⟨d, l, g1, rfl⟩ := g
  show ∃ u, FV (UInt64.ofNat (FP.Core.mul FP.Core.b64 x.toNat y.toNat)) u ∧ _
  unfold FP.Core.mul
  rw [dv_dec h1, dv_dec g1]
  unfold FP.Core.exactProduct FP.Core.round
  dsimp only
  rw [show (false != false) = false from rfl]
  have hD := qD_pos (den := 1) (by decide) ((k : Int) - 1074 + ((l : Int) - 1074))
  have hs : qN (c * d) ((k : Int) - 1074 + ((l : Int) - 1074)) * 2 ^ 1074 = c * 2 ^ k * (d * 2 ^ l) * qD 1 ((k : Int) - 1074 + ((l : Int) - 1074)) := by
    unfold qN qD
    rw [Nat.one_mul]
    have e1 : c * d * 2 ^ ((k : Int) - 1074 + ((l : Int) - 1074) + 1074).toNat * 2 ^ 1074 = c * d * 2 ^ (((k : Int) - 1074 + ((l : Int) - 1074) + 1074).toNat + 1074) := by
      rw [Nat.pow_add, Nat.mul_assoc (c * d)]
    have e2 : c * 2 ^ k * (d * 2 ^ l) * 2 ^ (-((k : Int) - 1074 + ((l : Int) - 1074) + 1074)).toNat = c * d * 2 ^ (k + l + (-((k : Int) - 1074 + ((l : Int) - 1074) + 1074)).toNat) := by
      rw [Nat.pow_add, Nat.pow_add]
      simp only [Nat.mul_assoc, Nat.mul_comm, Nat.mul_left_comm]
    rw [e1, e2, show ((k : Int) - 1074 + ((l : Int) - 1074) + 1074).toNat + 1074 = k + l + (-((k : Int) - 1074 + ((l : Int) - 1074) + 1074)).toNat by omega]
  obtain ⟨u, u1, u2⟩ := fv_round (num := c * d) (den := 1) (by decide) ((k : Int) - 1074 + ((l : Int) - 1074)) ((le_scale (Nat.two_pow_pos 1074) hD hs _).1.mpr hb)
  refine ⟨u, u1, fun C j hC => ?_⟩
  have := u2 C j hC
  have sc := le_scale (Nat.two_pow_pos 1074) hD hs (C * 2 ^ j)
  exact ⟨fun z => this.1 (sc.1.mpr z), fun z => this.2 (sc.2.mpr z)⟩
theorem fv_sub {x y : UInt64} {v w C j : Nat} (h : FV x v) (g : FV y w) (hC : C < 2 ^ 53) (hv : v = w + C * 2 ^ j) (hb : C * 2 ^ j ≤ 2 ^ 2097) : FV (FP.dsub x y) (C * 2 ^ j) := by
  obtain ⟨c, k, h1, rfl⟩ := h
  obtain ⟨d, l, g1, rfl⟩ := g
  show FV (UInt64.ofNat (FP.Core.sub FP.Core.b64 x.toNat y.toNat)) _
  unfold FP.Core.sub
  rw [dv_dec h1, dv_dec g1]
  unfold FP.Core.negate FP.Core.exactSum
  dsimp only
  rw [show (!false) = true from rfl]
  have hmin : min ((k : Int) - 1074) ((l : Int) - 1074) = ((min k l : Nat) : Int) - 1074 := by omega
  have hc : c * 2 ^ (k - min k l) * 2 ^ min k l = c * 2 ^ k := by
    rw [Nat.mul_assoc, ← Nat.pow_add, show k - min k l + min k l = k by omega]
  have hd : d * 2 ^ (l - min k l) * 2 ^ min k l = d * 2 ^ l := by
    rw [Nat.mul_assoc, ← Nat.pow_add, show l - min k l + min k l = l by omega]
  have hle : d * 2 ^ (l - min k l) ≤ c * 2 ^ (k - min k l) := by
    refine Nat.le_of_mul_le_mul_right ?_ (Nat.two_pow_pos (min k l))
    rw [hc, hd]
    omega
  have hval : (c * 2 ^ (k - min k l) - d * 2 ^ (l - min k l)) * 2 ^ min k l = C * 2 ^ j := by
    rw [Nat.sub_mul, hc, hd]
    omega
  have hsu : FP.Core.sumUnits false c ((k : Int) - 1074) true d ((l : Int) - 1074) (min ((k : Int) - 1074) ((l : Int) - 1074)) = ((c * 2 ^ (k - min k l) - d * 2 ^ (l - min k l) : Nat) : Int) := by
    unfold FP.Core.sumUnits FP.Core.signed FP.Core.inUnits
    rw [hmin, show ((k : Int) - 1074 - (((min k l : Nat) : Int) - 1074)).toNat = k - min k l by omega, show ((l : Int) - 1074 - (((min k l : Nat) : Int) - 1074)).toNat = l - min k l by omega, if_neg (by decide), if_pos rfl]
    generalize c * 2 ^ (k - min k l) = A at hle
    generalize d * 2 ^ (l - min k l) = B at hle
    omega
  rw [hsu, hmin, Int.natAbs_natCast]
  have hsg : FP.Core.sumSign false true ((c * 2 ^ (k - min k l) - d * 2 ^ (l - min k l) : Nat) : Int) = false := by
    unfold FP.Core.sumSign
    split
    · rfl
    · exact decide_eq_false (by omega)
  rw [hsg]
  generalize c * 2 ^ (k - min k l) - d * 2 ^ (l - min k l) = S at hval
  generalize min k l = i at hval
  unfold FP.Core.round
  dsimp only
  obtain ⟨u, u1, u2⟩ := fv_round (num := S) (den := 1) (by decide) ((i : Int) - 1074) (by rw [qN_fin, qD_fin, hval, Nat.mul_one]; exact hb)
  have := u2 C j hC
  rw [qN_fin, qD_fin, hval, Nat.mul_one] at this
  have e : u = C * 2 ^ j := Nat.le_antisymm (this.1 (Nat.le_refl _)) (this.2 (Nat.le_refl _))
  rw [← e]
  exact u1
theorem fv_i2d {k : Nat} (h1 : 1 ≤ k) (h2 : k < 2 ^ 31) : FV (FP.i2d (Int32.ofNat k)) (k * 2 ^ 1074) := by
  show FV (UInt64.ofNat (FP.Core.fromInt FP.Core.b64 (Int32.ofNat k).toInt)) _
  rw [i32_int h2]
  unfold FP.Core.fromInt FP.Core.ofInt FP.Core.round
  dsimp only
  rw [decide_eq_false (by omega), Int.natAbs_natCast]
  have eN : qN k 0 = k * 2 ^ 1074 := rfl
  have eD : qD 1 0 = 1 := rfl
  obtain ⟨u, u1, u2⟩ := fv_round (num := k) (den := 1) (by decide) 0 (by
    rw [eN, eD, Nat.mul_one]
    calc k * 2 ^ 1074 ≤ 2 ^ 31 * 2 ^ 1074 := Nat.mul_le_mul_right _ (Nat.le_of_lt h2)
      _ = 2 ^ (31 + 1074) := (Nat.pow_add 2 31 1074).symm
      _ ≤ 2 ^ 2097 := Nat.pow_le_pow_right (by decide) (by decide))
  have := u2 k 1074 (by omega)
  rw [eN, eD, Nat.mul_one] at this
  have e : u = k * 2 ^ 1074 := Nat.le_antisymm (this.1 (Nat.le_refl _)) (this.2 (Nat.le_refl _))
  rw [← e]
  exact u1
theorem fv_0 : FV FP.dconst0 0 := ⟨0, 0, ⟨rfl, by decide, Or.inl rfl, by decide⟩, rfl⟩
theorem fv_1 : FV FP.dconst1 (2 ^ 1074) := ⟨2 ^ 52, 1022, ⟨by decide +kernel, by decide, Or.inr (Nat.le_refl _), by decide⟩, by rw [← Nat.pow_add]⟩
theorem fv_2 : FV (4611686018427387904 : UInt64) (2 ^ 1075) := ⟨2 ^ 52, 1023, ⟨by decide +kernel, by decide, Or.inr (Nat.le_refl _), by decide⟩, by rw [← Nat.pow_add]⟩
theorem fv_52 : FV (4841369599423283200 : UInt64) (2 ^ 1126) := ⟨2 ^ 52, 1074, ⟨by decide +kernel, by decide, Or.inr (Nat.le_refl _), by decide⟩, by rw [← Nat.pow_add]⟩
theorem fv_cmp {x y : UInt64} {v w : Nat} (h : FV x v) (g : FV y w) (op : CmpOp) : (Op.cmpValue (FP.dcmp x y) op < 0 ↔ v < w) ∧ (0 ≤ Op.cmpValue (FP.dcmp x y) op ↔ w ≤ v) ∧ (Op.cmpValue (FP.dcmp x y) op = 0 ↔ v = w) := by
  obtain ⟨c, k, h1, rfl⟩ := h
  obtain ⟨d, l, g1, rfl⟩ := g
  have hmin : min ((k : Int) - 1074) ((l : Int) - 1074) = ((min k l : Nat) : Int) - 1074 := by omega
  have hc : c * 2 ^ (k - min k l) * 2 ^ min k l = c * 2 ^ k := by
    rw [Nat.mul_assoc, ← Nat.pow_add, show k - min k l + min k l = k by omega]
  have hd : d * 2 ^ (l - min k l) * 2 ^ min k l = d * 2 ^ l := by
    rw [Nat.mul_assoc, ← Nat.pow_add, show l - min k l + min k l = l by omega]
  have hp := Nat.two_pow_pos (min k l)
  have e0 : FP.dcmp x y = some (compare ((c * 2 ^ (k - min k l) : Nat) : Int) ((d * 2 ^ (l - min k l) : Nat) : Int)) := by
    show FP.Core.cmp FP.Core.b64 x.toNat y.toNat = _
    unfold FP.Core.cmp
    rw [dv_dec h1, dv_dec g1]
    unfold FP.Core.order FP.Core.signed FP.Core.inUnits
    dsimp only
    rw [hmin, show ((k : Int) - 1074 - (((min k l : Nat) : Int) - 1074)).toNat = k - min k l by omega, show ((l : Int) - 1074 - (((min k l : Nat) : Int) - 1074)).toNat = l - min k l by omega, if_neg (by decide), if_neg (by decide)]
  rw [e0, ← hc, ← hd]
  generalize c * 2 ^ (k - min k l) = A
  generalize d * 2 ^ (l - min k l) = B
  rw [Nat.mul_lt_mul_right hp, Nat.mul_le_mul_right_iff hp, Nat.mul_right_cancel_iff hp]
  rcases Nat.lt_trichotomy A B with hab | hab | hab
  · have e : compare (A : Int) (B : Int) = .lt := by
      rw [Int.compare_eq_lt]; omega
    rw [e]
    refine ⟨⟨fun _ => hab, fun _ => ?_⟩, ⟨fun z => ?_, fun z => by omega⟩, ⟨fun z => ?_, fun z => by omega⟩⟩
    · show (-1 : Int32) < 0; decide
    · exact absurd z (show ¬ (0 : Int32) ≤ -1 by decide)
    · exact absurd z (show ¬ (-1 : Int32) = 0 by decide)
  · subst hab
    have e : compare (A : Int) (A : Int) = .eq := by
      rw [Int.compare_eq_eq]
    rw [e]
    refine ⟨⟨fun z => ?_, fun z => by omega⟩, ⟨fun z => Nat.le_refl _, fun z => ?_⟩, ⟨fun z => rfl, fun z => rfl⟩⟩
    · exact absurd z (show ¬ (0 : Int32) < 0 by decide)
    · show (0 : Int32) ≤ 0; decide
  · have e : compare (A : Int) (B : Int) = .gt := by
      rw [Int.compare_eq_gt]; omega
    rw [e]
    refine ⟨⟨fun z => ?_, fun z => by omega⟩, ⟨fun z => Nat.le_of_lt hab, fun z => ?_⟩, ⟨fun z => ?_, fun z => by omega⟩⟩
    · exact absurd z (show ¬ (1 : Int32) < 0 by decide)
    · show (0 : Int32) ≤ 1; decide
    · exact absurd z (show ¬ (1 : Int32) = 0 by decide)
theorem fv_d2l {x : UInt64} {n : Nat} (h : FV x (n * 2 ^ 1074)) (hn : n < 2 ^ 63) : FP.d2l x = Int64.ofNat n := by
  obtain ⟨c, k, h1, h2⟩ := h
  show FP.Core.toL (FP.Core.decode FP.Core.b64 x.toNat) = _
  rw [dv_dec h1]
  unfold FP.Core.toL FP.Core.toInt FP.Core.truncate FP.Core.signed
  dsimp only
  rw [if_neg (by decide)]
  have e : c * 2 ^ ((k : Int) - 1074).toNat / 2 ^ (-((k : Int) - 1074)).toNat = n := by
    by_cases hk : k ≤ 1074
    · rw [show ((k : Int) - 1074).toNat = 0 by omega, show (-((k : Int) - 1074)).toNat = 1074 - k by omega, Nat.pow_zero, Nat.mul_one]
      have h3 : c = n * 2 ^ (1074 - k) := by
        refine Nat.eq_of_mul_eq_mul_right (Nat.two_pow_pos k) ?_
        rw [← h2, Nat.mul_assoc, ← Nat.pow_add, show 1074 - k + k = 1074 by omega]
      rw [h3, Nat.mul_div_cancel _ (Nat.two_pow_pos _)]
    · rw [show ((k : Int) - 1074).toNat = k - 1074 by omega, show (-((k : Int) - 1074)).toNat = 0 by omega, Nat.pow_zero, Nat.div_one]
      refine Nat.eq_of_mul_eq_mul_right (Nat.two_pow_pos 1074) ?_
      rw [h2, Nat.mul_assoc, ← Nat.pow_add, show k - 1074 + 1074 = k by omega]
  rw [e]
  have e2 : max (-2 ^ 63 : Int) (min (2 ^ 63 - 1) (n : Int)) = (n : Int) := by omega
  rw [e2]
  rfl
end DOPS
