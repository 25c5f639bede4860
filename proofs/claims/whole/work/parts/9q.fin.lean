/-! part 9q: doubles that are finite and not negative, by their values in units of 2 ^ -1074 -/
section FIND
/-- x is c * 2 ^ k units -/
def DV (x : UInt64) (c k : Nat) : Prop := x.toNat = k * 2 ^ 52 + c ∧ c < 2 ^ 53 ∧ (k = 0 ∨ 2 ^ 52 ≤ c) ∧ k ≤ 2045
def FV (x : UInt64) (v : Nat) : Prop := ∃ c k, DV x c k ∧ v = c * 2 ^ k
theorem dv_dec {x : UInt64} {c k : Nat} (h : DV x c k) : FP.Core.decode FP.Core.b64 x.toNat = .fin false c ((k : Int) - 1074) := by
  obtain ⟨h1, h2, h3, h4⟩ := h
  have ht : FP.Core.Fmt.tails FP.Core.b64 = 2 ^ 52 := rfl
  have hx : FP.Core.Fmt.exps FP.Core.b64 = 2048 := rfl
  have hq : FP.Core.Fmt.qmin FP.Core.b64 = -1074 := by decide +kernel
  unfold FP.Core.decode FP.Core.fieldE FP.Core.fieldT FP.Core.fieldS
  rw [ht, hx, hq, h1]
  by_cases hc : c < 2 ^ 52
  · obtain rfl : k = 0 := by omega
    rw [show (0 * 2 ^ 52 + c) / 2 ^ 52 % 2048 = 0 by omega, show (0 * 2 ^ 52 + c) % 2 ^ 52 = c by omega, if_neg (by decide), if_pos rfl, show (0 * 2 ^ 52 + c) / 2 ^ 52 / 2048 % 2 = 0 by omega]
    rfl
  · rw [show (k * 2 ^ 52 + c) / 2 ^ 52 % 2048 = k + 1 by omega, show (k * 2 ^ 52 + c) % 2 ^ 52 = c - 2 ^ 52 by omega, if_neg (by omega), if_neg (by omega), show (k * 2 ^ 52 + c) / 2 ^ 52 / 2048 % 2 = 0 by omega]
    have e1 : 2 ^ 52 + (c - 2 ^ 52) = c := by omega
    have e2 : (-1074 : Int) + (((k + 1 : Nat) : Int) - 1) = (k : Int) - 1074 := by omega
    rw [e1, e2]
    rfl
theorem enc_dv {c k : Nat} (h2 : c < 2 ^ 53) (h3 : k = 0 ∨ 2 ^ 52 ≤ c) (h4 : k ≤ 2045) : DV (UInt64.ofNat (FP.Core.encode FP.Core.b64 (.fin false c ((k : Int) - 1074)))) c k := by
  have ht : FP.Core.Fmt.tails FP.Core.b64 = 2 ^ 52 := rfl
  have hx : FP.Core.Fmt.exps FP.Core.b64 = 2048 := rfl
  have hq : FP.Core.Fmt.qmin FP.Core.b64 = -1074 := by decide +kernel
  refine ⟨?_, h2, h3, h4⟩
  unfold FP.Core.encode FP.Core.assemble
  dsimp only
  rw [ht, hx, hq]
  have e0 : (Bool.toNat false) = 0 := rfl
  rw [e0]
  by_cases hc : c < 2 ^ 52
  · rw [if_pos hc]
    obtain rfl : k = 0 := by omega
    rw [UInt64.toNat_ofNat_of_lt' (by show _ < 18446744073709551616; omega)]
  · rw [if_neg hc, show ((k : Int) - 1074 - -1074).toNat = k by omega, UInt64.toNat_ofNat_of_lt' (by show _ < 18446744073709551616; omega)]
    omega
theorem dbl_inj {x y : UInt64} {c k : Nat} (h : DV x c k) (g : DV y c k) : x = y := UInt64.toNat_inj.mp (by rw [h.1, g.1])
/-- the value settles the double -/
theorem val_inj {c k c' k' : Nat} (h2 : c < 2 ^ 53) (h3 : k = 0 ∨ 2 ^ 52 ≤ c) (g2 : c' < 2 ^ 53) (g3 : k' = 0 ∨ 2 ^ 52 ≤ c') (e : c * 2 ^ k = c' * 2 ^ k') : c = c' ∧ k = k' := by
  have aux : ∀ {c k c' k' : Nat}, c < 2 ^ 53 → (k' = 0 ∨ 2 ^ 52 ≤ c') → c * 2 ^ k = c' * 2 ^ k' → ¬ k < k' := by
    intro c k c' k' h2 g3 e h
    have g4 : 2 ^ 52 ≤ c' := g3.resolve_left (by omega)
    obtain ⟨d, rfl⟩ : ∃ d, k' = d + (1 + k) := ⟨k' - 1 - k, by omega⟩
    have h5 : c * 2 ^ k < 2 ^ 53 * 2 ^ k := Nat.mul_lt_mul_of_pos_right h2 (Nat.two_pow_pos k)
    have h6 : 2 ^ 53 * 2 ^ k ≤ c' * 2 ^ (d + (1 + k)) := by
      calc 2 ^ 53 * 2 ^ k = 2 ^ 52 * 2 ^ (1 + k) := by rw [Nat.pow_add 2 1 k, ← Nat.mul_assoc]
        _ ≤ 2 ^ 52 * 2 ^ (d + (1 + k)) := Nat.mul_le_mul_left _ (Nat.pow_le_pow_right (by decide) (by omega))
        _ ≤ c' * 2 ^ (d + (1 + k)) := Nat.mul_le_mul_right _ g4
    omega
  have h1 := aux h2 g3 e
  have h2' := aux g2 h3 e.symm
  obtain rfl : k = k' := by omega
  exact ⟨Nat.eq_of_mul_eq_mul_right (Nat.two_pow_pos k) e, rfl⟩
theorem fv_inj {x y : UInt64} {v : Nat} (h : FV x v) (g : FV y v) : x = y := by
  obtain ⟨c, k, h1, h2⟩ := h
  obtain ⟨c', k', g1, g2⟩ := g
  obtain ⟨rfl, rfl⟩ := val_inj h1.2.1 h1.2.2.1 g1.2.1 g1.2.2.1 (h2.symm.trans g2)
  exact dbl_inj h1 g1
theorem fv_fun {x : UInt64} {v w : Nat} (h : FV x v) (g : FV x w) : v = w := by
  obtain ⟨c, k, h1, rfl⟩ := h
  obtain ⟨c', k', g1, rfl⟩ := g
  have a := dv_dec h1
  rw [dv_dec g1] at a
  injection a with a1 a2 a3
  rw [a2, show k = k' by omega]
theorem fv_nn {x : UInt64} {v : Nat} (h : FV x v) : nn64 x = true := by
  obtain ⟨c, k, ⟨h1, h2, h3, h4⟩, _⟩ := h
  unfold nn64
  apply decide_eq_true
  have hlt : x.toNat < 2 ^ 63 := by omega
  have e : x &&& 0x7fffffffffffffff = x := by
    apply UInt64.toNat_inj.mp
    rw [UInt64.toNat_and, show (0x7fffffffffffffff : UInt64).toNat = 2 ^ 63 - 1 from rfl, Nat.and_two_pow_sub_one_eq_mod, Nat.mod_eq_of_lt hlt]
  rw [e, UInt64.le_iff_toNat_le]
  show x.toNat ≤ 9218868437227405312
  omega
/-- units of a number -/
theorem qN_fin (c k : Nat) : qN c ((k : Int) - 1074) = c * 2 ^ k := by
  unfold qN
  rw [show ((k : Int) - 1074 + 1074).toNat = k by omega]
theorem qD_fin (d k : Nat) : qD d ((k : Int) - 1074) = d := by
  unfold qD
  rw [show (-((k : Int) - 1074 + 1074)).toNat = 0 by omega, Nat.pow_zero, Nat.mul_one]
/-- a sum -/
theorem fv_add {x y : UInt64} {v w : Nat} (h : FV x v) (g : FV y w) (hb : v + w ≤ 2 ^ 2097) : ∃ u, FV (FP.dadd x y) u ∧ ∀ C j : Nat, C < 2 ^ 53 → (v + w ≤ C * 2 ^ j → u ≤ C * 2 ^ j) ∧ (C * 2 ^ j ≤ v + w → C * 2 ^ j ≤ u) := by
  obtain ⟨c, k, h1, rfl⟩ := h
  obtain ⟨d, l, g1, rfl⟩ := g
  show ∃ u, FV (UInt64.ofNat (FP.Core.add FP.Core.b64 x.toNat y.toNat)) u ∧ _
  unfold FP.Core.add
  rw [dv_dec h1, dv_dec g1]
  unfold FP.Core.exactSum
  dsimp only
  have hmin : min ((k : Int) - 1074) ((l : Int) - 1074) = ((min k l : Nat) : Int) - 1074 := by omega
  have hsu : FP.Core.sumUnits false c ((k : Int) - 1074) false d ((l : Int) - 1074) (min ((k : Int) - 1074) ((l : Int) - 1074)) = ((c * 2 ^ (k - min k l) + d * 2 ^ (l - min k l) : Nat) : Int) := by
    unfold FP.Core.sumUnits FP.Core.signed FP.Core.inUnits
    rw [hmin, show ((k : Int) - 1074 - (((min k l : Nat) : Int) - 1074)).toNat = k - min k l by omega, show ((l : Int) - 1074 - (((min k l : Nat) : Int) - 1074)).toNat = l - min k l by omega]
    rfl
  rw [hsu, hmin, Int.natAbs_natCast]
  have hsg : FP.Core.sumSign false false ((c * 2 ^ (k - min k l) + d * 2 ^ (l - min k l) : Nat) : Int) = false := by
    unfold FP.Core.sumSign
    split
    · rfl
    · exact decide_eq_false (by omega)
  rw [hsg]
  have hval : (c * 2 ^ (k - min k l) + d * 2 ^ (l - min k l)) * 2 ^ min k l = c * 2 ^ k + d * 2 ^ l := by
    rw [Nat.add_mul, Nat.mul_assoc, Nat.mul_assoc, ← Nat.pow_add, ← Nat.pow_add, show k - min k l + min k l = k by omega, show l - min k l + min k l = l by omega]
  generalize c * 2 ^ (k - min k l) + d * 2 ^ (l - min k l) = S at hval
  generalize min k l = i at hval
  unfold FP.Core.round
  dsimp only
  by_cases hS : S = 0
  · subst hS
    rw [Nat.zero_mul] at hval
    unfold FP.Core.roundRatio
    rw [if_pos rfl, show FP.Core.Fmt.qmin FP.Core.b64 = ((0 : Nat) : Int) - 1074 by decide +kernel]
    refine ⟨0, ⟨0, 0, enc_dv (by decide) (Or.inl rfl) (by decide), rfl⟩, fun C j hC => ⟨fun _ => Nat.zero_le _, fun z => ?_⟩⟩
    rw [← hval] at z
    exact z
  · obtain ⟨c', k', e1, e2, e3, e4, e5⟩ := round_spec false (num := S) (den := 1) (by omega) (by decide) ((i : Int) - 1074) (by rw [qN_fin, qD_fin, hval, Nat.mul_one]; exact hb)
    rw [e1]
    refine ⟨c' * 2 ^ k', ⟨c', k', enc_dv e2 e3 e4, rfl⟩, fun C j hC => ?_⟩
    have := e5 C j hC
    rw [qN_fin, qD_fin, hval, Nat.mul_one] at this
    exact this
end FIND
