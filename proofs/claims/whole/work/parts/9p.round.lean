/-! part 9p: rounding, in whole numbers -/
section RNDG
theorem sc_le {a b u w : Nat} {S : Int} (h : b * 2 ^ S.toNat ≤ a * 2 ^ (-S).toNat) (hu : (u : Int) = S + w) : b * 2 ^ u ≤ a * 2 ^ w := by
  obtain ⟨t, h1, h2⟩ : ∃ t, u = S.toNat + t ∧ w = (-S).toNat + t := ⟨w - (-S).toNat, by omega, by omega⟩
  rw [h1, h2, Nat.pow_add, Nat.pow_add, ← Nat.mul_assoc, ← Nat.mul_assoc]
  exact Nat.mul_le_mul_right _ h
theorem sc_lt {a b u w : Nat} {S : Int} (h : a * 2 ^ (-S).toNat < b * 2 ^ S.toNat) (hu : (u : Int) = S + w) : a * 2 ^ w < b * 2 ^ u := by
  obtain ⟨t, h1, h2⟩ : ∃ t, u = S.toNat + t ∧ w = (-S).toNat + t := ⟨w - (-S).toNat, by omega, by omega⟩
  rw [h1, h2, Nat.pow_add, Nat.pow_add, ← Nat.mul_assoc, ← Nat.mul_assoc]
  exact Nat.mul_lt_mul_of_pos_right h (Nat.two_pow_pos t)
theorem cs_le {a b u w : Nat} {S : Int} (h : b * 2 ^ u ≤ a * 2 ^ w) (hu : (u : Int) = S + w) : b * 2 ^ S.toNat ≤ a * 2 ^ (-S).toNat := by
  obtain ⟨t, h1, h2⟩ : ∃ t, u = S.toNat + t ∧ w = (-S).toNat + t := ⟨w - (-S).toNat, by omega, by omega⟩
  rw [h1, h2, Nat.pow_add, Nat.pow_add, ← Nat.mul_assoc, ← Nat.mul_assoc] at h
  exact Nat.le_of_mul_le_mul_right h (Nat.two_pow_pos t)
theorem cs_lt {a b u w : Nat} {S : Int} (h : a * 2 ^ w < b * 2 ^ u) (hu : (u : Int) = S + w) : a * 2 ^ (-S).toNat < b * 2 ^ S.toNat := by
  obtain ⟨t, h1, h2⟩ : ∃ t, u = S.toNat + t ∧ w = (-S).toNat + t := ⟨w - (-S).toNat, by omega, by omega⟩
  rw [h1, h2, Nat.pow_add, Nat.pow_add, ← Nat.mul_assoc, ← Nat.mul_assoc] at h
  exact Nat.lt_of_mul_lt_mul_right h
/-- nearest, against a whole number -/
theorem near_le {a b M : Nat} (hb : 0 < b) (h : a ≤ M * b) : FP.Core.nearest a b ≤ M := by
  have h1 := Nat.div_add_mod a b
  have h2 := Nat.mod_lt a hb
  have h3 : a / b ≤ M := by
    have := Nat.div_le_div_right (c := b) h
    rw [Nat.mul_div_cancel _ hb] at this
    exact this
  unfold FP.Core.nearest
  by_cases hm : a / b = M
  · have h4 : a % b = 0 := by
      rw [hm, Nat.mul_comm] at h1
      omega
    rw [h4, if_pos (by omega)]
    exact h3
  · split
    · exact h3
    · split
      · omega
      · have := Nat.mod_lt (a / b) (show 0 < 2 by decide)
        omega
theorem near_ge {a b M : Nat} (hb : 0 < b) (h : M * b ≤ a) : M ≤ FP.Core.nearest a b := by
  have h3 : M ≤ a / b := (Nat.le_div_iff_mul_le hb).mpr h
  unfold FP.Core.nearest
  split
  · exact h3
  · split <;> omega
/-- the exponent of the leading digit -/
theorem lead_spec {a b : Nat} (ha : 0 < a) (hb : 0 < b) : b * 2 ^ (FP.Core.leading a b).toNat ≤ a * 2 ^ (-(FP.Core.leading a b)).toNat ∧ a * 2 ^ (-(FP.Core.leading a b + 1)).toNat < b * 2 ^ (FP.Core.leading a b + 1).toNat := by
  have a1 : 2 ^ a.log2 ≤ a := Nat.log2_self_le (by omega)
  have a2 : a < 2 ^ (a.log2 + 1) := Nat.lt_log2_self
  have b1 : 2 ^ b.log2 ≤ b := Nat.log2_self_le (by omega)
  have b2 : b < 2 ^ (b.log2 + 1) := Nat.lt_log2_self
  unfold FP.Core.leading
  dsimp only
  generalize a.log2 = A at *
  generalize b.log2 = B at *
  have up : a * 2 ^ (-((A : Int) - (B : Int) + 1)).toNat < b * 2 ^ ((A : Int) - (B : Int) + 1).toNat := by
    refine cs_lt (u := A + 1) (w := B) ?_ (by omega)
    calc a * 2 ^ B < 2 ^ (A + 1) * 2 ^ B := Nat.mul_lt_mul_of_pos_right a2 (Nat.two_pow_pos B)
      _ = 2 ^ B * 2 ^ (A + 1) := Nat.mul_comm _ _
      _ ≤ b * 2 ^ (A + 1) := Nat.mul_le_mul_right _ b1
  have lo : b * 2 ^ ((A : Int) - (B : Int) - 1).toNat ≤ a * 2 ^ (-((A : Int) - (B : Int) - 1)).toNat := by
    refine cs_le (u := A) (w := B + 1) ?_ (by omega)
    calc b * 2 ^ A ≤ 2 ^ (B + 1) * 2 ^ A := Nat.mul_le_mul_right _ (Nat.le_of_lt b2)
      _ = 2 ^ A * 2 ^ (B + 1) := Nat.mul_comm _ _
      _ ≤ a * 2 ^ (B + 1) := Nat.mul_le_mul_right _ a1
  by_cases h : b * 2 ^ ((A : Int) - (B : Int)).toNat ≤ a * 2 ^ (-((A : Int) - (B : Int))).toNat
  · rw [if_pos h]
    exact ⟨h, up⟩
  · rw [if_neg h]
    refine ⟨lo, ?_⟩
    rw [show (A : Int) - (B : Int) - 1 + 1 = (A : Int) - (B : Int) by omega]
    omega
/-- N / D is the magnitude in units of 2 ^ -1074 -/
def qN (num : Nat) (e : Int) : Nat := num * 2 ^ (e + 1074).toNat
def qD (den : Nat) (e : Int) : Nat := den * 2 ^ (-(e + 1074)).toNat
theorem quant_spec {num den : Nat} (hn : 0 < num) (hd : 0 < den) (e : Int) : ∃ k : Nat, FP.Core.quantum FP.Core.b64 num den e = (k : Int) - 1074 ∧ qN num e < 2 ^ 53 * 2 ^ k * qD den e ∧ (k = 0 ∨ 2 ^ 52 * 2 ^ k * qD den e ≤ qN num e) := by
  obtain ⟨l1, l2⟩ := lead_spec hn hd
  unfold FP.Core.quantum
  generalize FP.Core.leading num den = L at l1 l2
  have hq : FP.Core.Fmt.qmin FP.Core.b64 = -1074 := by decide +kernel
  have hp : ((FP.Core.b64.p : Nat) : Int) = 53 := by decide +kernel
  rw [hq, hp]
  have e1 : ∀ x k : Nat, x * 2 ^ k * qD den e = den * 2 ^ (k + (-(e + 1074)).toNat) * x := by
    intro x k
    unfold qD
    rw [Nat.pow_add]
    simp only [Nat.mul_assoc, Nat.mul_comm, Nat.mul_left_comm]
  by_cases hk : L + e - (53 - 1) ≤ -1074
  · refine ⟨0, by omega, ?_, Or.inl rfl⟩
    rw [show 2 ^ 53 * 2 ^ 0 * qD den e = 1 * 2 ^ 53 * qD den e by rw [Nat.pow_zero, Nat.mul_one], e1, Nat.mul_one]
    unfold qN
    by_cases hc : 0 ≤ L + 1 + ((e + 1074).toNat : Int)
    · exact Nat.lt_of_lt_of_le (sc_lt (u := (L + 1 + ((e + 1074).toNat : Int)).toNat) l2 (by omega)) (Nat.mul_le_mul_left _ (Nat.pow_le_pow_right (by decide) (by omega)))
    · have h3 : num * 2 ^ (e + 1074).toNat ≤ num * 2 ^ (-(L + 1)).toNat := Nat.mul_le_mul_left _ (Nat.pow_le_pow_right (by decide) (by omega))
      have h4 : den * 2 ^ (L + 1).toNat ≤ den * 2 ^ (53 + (-(e + 1074)).toNat) := Nat.mul_le_mul_left _ (Nat.pow_le_pow_right (by decide) (by omega))
      omega
  · refine ⟨(L + e - (53 - 1) + 1074).toNat, by omega, ?_, Or.inr ?_⟩
    · rw [show 2 ^ 53 * 2 ^ (L + e - (53 - 1) + 1074).toNat * qD den e = 1 * 2 ^ (53 + (L + e - (53 - 1) + 1074).toNat) * qD den e by rw [Nat.one_mul, Nat.pow_add], e1, Nat.mul_one]
      unfold qN
      exact sc_lt l2 (by omega)
    · rw [show 2 ^ 52 * 2 ^ (L + e - (53 - 1) + 1074).toNat * qD den e = 1 * 2 ^ (52 + (L + e - (53 - 1) + 1074).toNat) * qD den e by rw [Nat.one_mul, Nat.pow_add], e1, Nat.mul_one]
      unfold qN
      exact sc_le l1 (by omega)
theorem qD_pos {den : Nat} (hd : 0 < den) (e : Int) : 0 < qD den e := Nat.mul_pos hd (Nat.two_pow_pos _)
theorem units_le (num den : Nat) (e : Int) (k M : Nat) : (M * FP.Core.unitsDen den e ((k : Int) - 1074) ≤ FP.Core.unitsNum num e ((k : Int) - 1074)) ↔ M * 2 ^ k * qD den e ≤ qN num e := by
  unfold FP.Core.unitsDen FP.Core.unitsNum qD qN
  have e1 : M * (den * 2 ^ ((k : Int) - 1074 - e).toNat) = M * den * 2 ^ ((k : Int) - 1074 - e).toNat := (Nat.mul_assoc _ _ _).symm
  have e2 : M * 2 ^ k * (den * 2 ^ (-(e + 1074)).toNat) = M * den * 2 ^ (k + (-(e + 1074)).toNat) := by
    rw [Nat.pow_add]
    simp only [Nat.mul_assoc, Nat.mul_comm, Nat.mul_left_comm]
  have e3 : (e - ((k : Int) - 1074)).toNat = (-((k : Int) - 1074 - e)).toNat := by omega
  rw [e1, e2, e3]
  exact ⟨fun h => sc_le h (by omega), fun h => cs_le h (by omega)⟩
theorem units_ge (num den : Nat) (e : Int) (k M : Nat) : (FP.Core.unitsNum num e ((k : Int) - 1074) ≤ M * FP.Core.unitsDen den e ((k : Int) - 1074)) ↔ qN num e ≤ M * 2 ^ k * qD den e := by
  unfold FP.Core.unitsDen FP.Core.unitsNum qD qN
  have e1 : M * (den * 2 ^ ((k : Int) - 1074 - e).toNat) = M * den * 2 ^ ((k : Int) - 1074 - e).toNat := (Nat.mul_assoc _ _ _).symm
  have e2 : M * 2 ^ k * (den * 2 ^ (-(e + 1074)).toNat) = M * den * 2 ^ (k + (-(e + 1074)).toNat) := by
    rw [Nat.pow_add]
    simp only [Nat.mul_assoc, Nat.mul_comm, Nat.mul_left_comm]
  have e3 : ((k : Int) - 1074 - e).toNat = (-(e - ((k : Int) - 1074))).toNat := by omega
  rw [e1, e2, e3]
  exact ⟨fun h => sc_le h (by omega), fun h => cs_le h (by omega)⟩
/-- the rounded number, against numbers that have at most 53 digits -/
theorem round_spec (s : Bool) {num den : Nat} (hn : 0 < num) (hd : 0 < den) (e : Int) (hb : qN num e ≤ 2 ^ 2097 * qD den e) : ∃ c k : Nat, FP.Core.roundRatio FP.Core.b64 s num den e = .fin s c ((k : Int) - 1074) ∧ c < 2 ^ 53 ∧ (k = 0 ∨ 2 ^ 52 ≤ c) ∧ k ≤ 2045 ∧ ∀ C j : Nat, C < 2 ^ 53 → (qN num e ≤ C * 2 ^ j * qD den e → c * 2 ^ k ≤ C * 2 ^ j) ∧ (C * 2 ^ j * qD den e ≤ qN num e → C * 2 ^ j ≤ c * 2 ^ k) := by
  obtain ⟨k, hk, hi, lo⟩ := quant_spec hn hd e
  have hD := qD_pos hd e
  unfold FP.Core.roundRatio FP.Core.roundAt
  rw [if_neg (by omega), hk]
  have hud : 0 < FP.Core.unitsDen den e ((k : Int) - 1074) := Nat.mul_pos hd (Nat.two_pow_pos _)
  have n1 : FP.Core.nearest (FP.Core.unitsNum num e ((k : Int) - 1074)) (FP.Core.unitsDen den e ((k : Int) - 1074)) ≤ 2 ^ 53 := near_le hud ((units_ge num den e k (2 ^ 53)).mpr (Nat.le_of_lt hi))
  have n2 : k = 0 ∨ 2 ^ 52 ≤ FP.Core.nearest (FP.Core.unitsNum num e ((k : Int) - 1074)) (FP.Core.unitsDen den e ((k : Int) - 1074)) := lo.imp id (fun h => near_ge hud ((units_le num den e k (2 ^ 52)).mpr h))
  have key : ∀ C j : Nat, C < 2 ^ 53 → (qN num e ≤ C * 2 ^ j * qD den e → FP.Core.nearest (FP.Core.unitsNum num e ((k : Int) - 1074)) (FP.Core.unitsDen den e ((k : Int) - 1074)) * 2 ^ k ≤ C * 2 ^ j) ∧ (C * 2 ^ j * qD den e ≤ qN num e → C * 2 ^ j ≤ FP.Core.nearest (FP.Core.unitsNum num e ((k : Int) - 1074)) (FP.Core.unitsDen den e ((k : Int) - 1074)) * 2 ^ k) := by
    intro C j hC
    by_cases hj : k ≤ j
    · obtain ⟨d, rfl⟩ : ∃ d, j = d + k := ⟨j - k, by omega⟩
      have e1 : C * 2 ^ (d + k) = C * 2 ^ d * 2 ^ k := by rw [Nat.pow_add, Nat.mul_assoc]
      rw [e1]
      exact ⟨fun h => Nat.mul_le_mul_right _ (near_le hud ((units_ge num den e k _).mpr h)), fun h => Nat.mul_le_mul_right _ (near_ge hud ((units_le num den e k _).mpr h))⟩
    · have lo' : 2 ^ 52 * 2 ^ k * qD den e ≤ qN num e := lo.resolve_left (by omega)
      have n2' := n2.resolve_left (by omega)
      have hlt : C * 2 ^ j < 2 ^ 52 * 2 ^ k := by
        obtain ⟨d, rfl⟩ : ∃ d, k = d + (1 + j) := ⟨k - 1 - j, by omega⟩
        calc C * 2 ^ j < 2 ^ 53 * 2 ^ j := Nat.mul_lt_mul_of_pos_right hC (Nat.two_pow_pos j)
          _ = 2 ^ 52 * 2 ^ (1 + j) := by rw [Nat.pow_add 2 1 j, ← Nat.mul_assoc]
          _ ≤ 2 ^ 52 * 2 ^ (d + (1 + j)) := Nat.mul_le_mul_left _ (Nat.pow_le_pow_right (by decide) (by omega))
      refine ⟨fun h => ?_, fun _ => Nat.le_trans (Nat.le_of_lt hlt) (Nat.mul_le_mul_right _ n2')⟩
      have h1 : C * 2 ^ j * qD den e < 2 ^ 52 * 2 ^ k * qD den e := Nat.mul_lt_mul_of_pos_right hlt hD
      omega
  have hcap := (key 1 2097 (by decide)).1 (by rw [Nat.one_mul]; exact hb)
  rw [Nat.one_mul] at hcap
  generalize FP.Core.nearest (FP.Core.unitsNum num e ((k : Int) - 1074)) (FP.Core.unitsDen den e ((k : Int) - 1074)) = n at n1 n2 key hcap
  have hqm : FP.Core.Fmt.qmax FP.Core.b64 = 971 := by decide +kernel
  have hpp : FP.Core.b64.p = 53 := rfl
  have htl : FP.Core.Fmt.tails FP.Core.b64 = 2 ^ 52 := rfl
  have kle : ∀ i : Nat, 2 ^ 52 * 2 ^ i ≤ 2 ^ 2097 → i ≤ 2045 := by
    intro i h
    rw [← Nat.pow_add] at h
    have := (Nat.pow_le_pow_iff_right (show 1 < 2 by decide)).mp h
    omega
  have kle2 : k ≤ 2045 := by
    rcases n2 with h | h
    · omega
    · exact kle k (Nat.le_trans (Nat.mul_le_mul_right _ h) hcap)
  unfold FP.Core.settle
  rw [hpp, htl]
  by_cases hn53 : n < 2 ^ 53
  · rw [if_pos hn53]
    unfold FP.Core.bound
    rw [hqm, if_pos (by omega)]
    exact ⟨n, k, rfl, hn53, n2, kle2, key⟩
  · have hn' : n = 2 ^ 53 := by omega
    have e1 : 2 ^ 52 * 2 ^ (k + 1) = n * 2 ^ k := by
      rw [hn', show (2 : Nat) ^ (k + 1) = 2 * 2 ^ k by rw [Nat.pow_succ, Nat.mul_comm], ← Nat.mul_assoc]
    have hk1 := kle (k + 1) (by rw [e1]; exact hcap)
    rw [if_neg hn53]
    unfold FP.Core.bound
    rw [hqm, if_pos (by omega)]
    refine ⟨2 ^ 52, k + 1, by rw [show (k : Int) - 1074 + 1 = ((k + 1 : Nat) : Int) - 1074 by omega], by decide, Or.inr (Nat.le_refl _), hk1, fun C j hC => ?_⟩
    rw [e1]
    exact key C j hC
end RNDG
