/-! part 68: queue, of, count, kind, queued, row -/
theorem bi_shl (x : Int32) {n i : Nat} (hn : n < 32) (hi : i < 32) : bi (x <<< (Int32.ofNat n &&& 31)) i = (decide (n ≤ i) && bi x (i - n)) := by
  unfold bi
  rw [Int32.toBitVec_shiftLeft]
  have key : ∀ k : Fin 32, ((Int32.ofNat k.val &&& 31).toBitVec.smod 32).toNat = k.val := by decide +kernel
  have e : (x.toBitVec <<< ((Int32.ofNat n &&& 31).toBitVec.smod 32)) = x.toBitVec <<< n := by
    rw [BitVec.shiftLeft_eq', key ⟨n, hn⟩]
  rw [e, BitVec.getLsbD_shiftLeft]
  by_cases h : n ≤ i
  · simp [h, hi, Nat.not_lt.mpr h]
  · simp [h, Nat.lt_of_not_le h]
theorem bi_sshr0 (x : Int32) {n : Nat} (hn : n < 32) : bi (x >>> (Int32.ofNat n &&& 31)) 0 = bi x n := by
  unfold bi
  rw [Int32.toBitVec_shiftRight]
  have key : ∀ k : Fin 32, ((Int32.ofNat k.val &&& 31).toBitVec.smod 32).toNat = k.val := by decide +kernel
  have e : (BitVec.sshiftRight' x.toBitVec ((Int32.ofNat n &&& 31).toBitVec.smod 32)) = BitVec.sshiftRight x.toBitVec n := by
    rw [BitVec.sshiftRight', key ⟨n, hn⟩]
  rw [e, BitVec.getLsbD_sshiftRight]
  simp [hn]
theorem bi_mask : ∀ (n : Fin 32) (i : Fin 32), bi (((1 : Int32) <<< (Int32.ofNat n.val &&& 31)) - 1) i.val = decide (i.val < n.val) := by decide +kernel
theorem bi_ushr0 (x : Int32) {n : Nat} (hn : n < 32) : bi ((x.toUInt32 >>> ((Int32.ofNat n).toUInt32 &&& Int32.toUInt32 31)).toInt32) 0 = bi x n := by
  have key : ∀ k : Fin 32, (((Int32.ofNat k.val).toUInt32 &&& Int32.toUInt32 31).toBitVec % 32).toNat = k.val := by decide +kernel
  unfold bi
  show ((x.toUInt32 >>> ((Int32.ofNat n).toUInt32 &&& Int32.toUInt32 31)).toBitVec).getLsbD 0 = _
  rw [UInt32.toBitVec_shiftRight, BitVec.ushiftRight_eq', key ⟨n, hn⟩, BitVec.getLsbD_ushiftRight]
  rfl
theorem queue_eq {qb qs mq : Int32} {A : Nat → Int32} (h : Qx qb qs mq A) (th p1 p2 : Int32) {F : Nat} (hF : 40 ≤ F) : ∃ r mq' A', fX12_queue F mq th A p1 p2 = some (r, mq', 0, A') ∧ (fX11_queue qb qs p1 p2).1 = r ∧ Qx (fX11_queue qb qs p1 p2).2.1 (fX11_queue qb qs p1 p2).2.2 mq' A' := by
  obtain ⟨q, hq, rfl, rfl, hA, hB⟩ := id h
  unfold fX12_queue fX11_queue
  rcases within_pos (p := p2) (a := 1) (b := 20) (by decide) (by decide) with ⟨w1, w2⟩ | ⟨w1, w2, w3, n, hn1, hn, rfl⟩
  · rw [show fX12_within p2 1 20 = 0 from w1, if_pos rfl]
    by_cases a : p2 < 1
    · rw [if_pos a]; exact ⟨_, _, _, rfl, rfl, h⟩
    · have hb : ¬ p2 ≤ 20 := w2.resolve_left a
      have hb2 : (20 : Int32) < p2 := by rw [Int32.le_iff_toInt_le] at hb; rw [Int32.lt_iff_toInt_lt]; omega
      rw [if_neg a, if_pos hb2]; exact ⟨_, _, _, rfl, rfl, h⟩
  · rw [if_neg (show ¬ fX12_within (Int32.ofNat n) 1 20 = 0 from w1), if_neg (show ¬ Int32.ofNat n < 1 from w2), if_neg (show ¬ (20 : Int32) < Int32.ofNat n from fun z => by have := (i32_lt (a := 20) (by decide) (by omega)).mp z; omega), i32_add]
    by_cases h30 : q + n ≤ 30
    · have c1 : Int32.ofNat (q + n) ≤ 30 := (i32_le (b := 30) (by omega) (by decide)).mpr h30
      rw [if_pos c1, if_pos c1]
      have hl : gloop (fun u5 : (Int32 × (Nat → Int32)) => fX12_queue_S30 F p1 (Int32.ofNat n) (Int32.ofNat q) 0 u5.1 u5.2) F (0, A) = some (fun j => if q ≤ j ∧ j < q + n then Int32.ofNat (bi p1 (j - q)).toNat else A j) := by
        have e0 : (fun j => if q ≤ j ∧ j < q + 0 then Int32.ofNat (bi p1 (j - q)).toNat else A j) = A := by
          funext j
          rw [if_neg (by omega)]
        have h := gl_for (st := fun u5 : (Int32 × (Nat → Int32)) => fX12_queue_S30 F p1 (Int32.ofNat n) (Int32.ofNat q) 0 u5.1 u5.2) (out := fun j => if q ≤ j ∧ j < q + n then Int32.ofNat (bi p1 (j - q)).toNat else A j) n (fun i => (Int32.ofNat i, fun j => if q ≤ j ∧ j < q + i then Int32.ofNat (bi p1 (j - q)).toNat else A j)) (fun i hi => by
          show fX12_queue_S30 F _ _ _ _ (Int32.ofNat i) _ = _
          unfold fX12_queue_S30
          rw [if_neg (fun z => by have := (i32_le (by omega) (by omega)).mp z; omega), i32_add, if_pos (inb_t (by omega) (by omega)), tnc (by omega), i32_succ, bi_low, bi_sshr0 p1 (by omega)]
          refine congrArg (fun B => some (Sum.inr (Int32.ofNat (i + 1), B))) ?_
          funext j
          by_cases hj : j = q + i
          · subst hj
            rw [upd_at, if_pos (by omega), show q + i - q = i by omega]
          · rw [upd_ne hj]
            dsimp only
            by_cases h2 : q ≤ j ∧ j < q + i
            · rw [if_pos h2, if_pos (by omega)]
            · rw [if_neg h2, if_neg (by omega)]) (by
          show fX12_queue_S30 F _ _ _ _ (Int32.ofNat n) _ = _
          unfold fX12_queue_S30
          rw [if_pos ((i32_le (by omega) (by omega)).mpr (Nat.le_refl _))]) (F := F) (by omega)
        rw [e0] at h
        exact h
      rw [hl]
      refine ⟨_, _, _, rfl, rfl, q + n, h30, rfl, rfl, fun i hi => ?_, fun i hi => ?_⟩
      · show (if q ≤ i ∧ i < q + n then Int32.ofNat (bi p1 (i - q)).toNat else A i) = Int32.ofNat (bi (qb ||| ((p1 &&& (((1 : Int32) <<< (Int32.ofNat n &&& 31)) - 1)) <<< (Int32.ofNat q &&& 31))) i).toNat
        rw [bi_or, bi_shl _ (by omega) (by omega), bi_and]
        by_cases h2 : q ≤ i ∧ i < q + n
        · rw [if_pos h2, hB i h2.1, show bi (((1 : Int32) <<< (Int32.ofNat n &&& 31)) - 1) (i - q) = _ from bi_mask ⟨n, by omega⟩ ⟨i - q, by omega⟩]
          have : i - q < n := by omega
          simp [h2.1, this]
        · rw [if_neg h2, hA i (by omega)]
          have : ¬ q ≤ i := by omega
          simp [this]
      · show bi (qb ||| ((p1 &&& (((1 : Int32) <<< (Int32.ofNat n &&& 31)) - 1)) <<< (Int32.ofNat q &&& 31))) i = false
        by_cases h32 : i < 32
        · rw [bi_or, bi_shl _ (by omega) h32, bi_and, hB i (by omega), show bi (((1 : Int32) <<< (Int32.ofNat n &&& 31)) - 1) (i - q) = _ from bi_mask ⟨n, by omega⟩ ⟨i - q, by omega⟩]
          have : ¬ i - q < n := by omega
          simp [this]
        · exact bi_big _ (by omega)
    · have c1 : ¬ Int32.ofNat (q + n) ≤ 30 := fun z => h30 ((i32_le (b := 30) (by omega) (by decide)).mp z)
      rw [if_neg c1, if_neg c1]; exact ⟨_, _, _, rfl, rfl, h⟩
theorem of_eq {c m : Int64} (hS : Sx c m) {cap lab ack cop qs tl th p : Int32} {F : Nat} (hF : 9 ≤ F) : fX12_of F cap lab ack cop m qs tl th p = some (fX11_of c qs tl cap lab ack cop p, 0) := by
  unfold fX12_of fX11_of
  rw [fX7_labelOf_dg, fX7_valueOf_dg, fX7_acksOf_dg, fX7_lastOf_dg, packetsIn_sum, lettersIn_sum, takenOf_dg, mg_lb hS, mg_vl hS, mg_ak hS, mg_tk hS, mg_ls hS, packetsOf_sum hS hF, lettersOf_sum hS (by omega)]
  have ht : (if (if dg c 42 1 = 0 then (0 : Int32) else 1) = 0 then (0 : Int32) else 1) = Int32.ofNat (dg c 42 1) := by
    rcases dg1 c 42 with h | h <;> rw [h] <;> decide
  rw [ht]
  simp only [Option.bind_some]
  by_cases h0 : p = 0
  · rw [if_pos h0, if_pos h0]
  rw [if_neg h0, if_neg h0]
  by_cases h1 : p = 1
  · rw [if_pos h1, if_pos h1]
  rw [if_neg h1, if_neg h1]
  by_cases h2 : p = 2
  · rw [if_pos h2, if_pos h2]
  rw [if_neg h2, if_neg h2]
  by_cases h3 : p = 3
  · rw [if_pos h3, if_pos h3]
  rw [if_neg h3, if_neg h3]
  by_cases h4 : p = 4
  · rw [if_pos h4, if_pos h4]
  rw [if_neg h4, if_neg h4]
  by_cases h5 : p = 5
  · rw [if_pos h5, if_pos h5]
  rw [if_neg h5, if_neg h5]
  by_cases h6 : p = 6
  · rw [if_pos h6, if_pos h6]
  rw [if_neg h6, if_neg h6]
  by_cases h7 : p = 7
  · rw [if_pos h7, if_pos h7]
  rw [if_neg h7, if_neg h7]
  by_cases h8 : p = 8
  · rw [if_pos h8, if_pos h8]
  rw [if_neg h8, if_neg h8]
  by_cases h9 : p = 9
  · rw [if_pos h9, if_pos h9]
  rw [if_neg h9, if_neg h9]
  by_cases h10 : p = 10
  · rw [if_pos h10, if_pos h10]
  rw [if_neg h10, if_neg h10]
  by_cases h11 : p = 11
  · rw [if_pos h11, if_pos h11]
  rw [if_neg h11, if_neg h11]
  by_cases h12 : p = 12
  · rw [if_pos h12, if_pos h12]
  rw [if_neg h12, if_neg h12]
theorem count_eq {A B : Nat → Int32} (h : Cx A B) (th p : Int32) : ∃ r, fX11_count A p = some r ∧ fX12_count B th p = some (r, 0) := by
  unfold fX11_count fX12_count
  rcases within_pos (p := p) (a := 0) (b := 7) (by decide) (by decide) with ⟨w1, w2⟩ | ⟨w1, w2, w3, n, hn1, hn, rfl⟩
  · rw [show fX12_within p 0 7 = 0 from w1, if_pos rfl]
    by_cases a : p < 0
    · rw [if_pos a]; exact ⟨_, rfl, rfl⟩
    · have hb : ¬ p ≤ 7 := w2.resolve_left a
      rw [if_neg a, if_neg (fun z => hb (by rw [Int32.lt_iff_toInt_lt] at z; rw [Int32.le_iff_toInt_le]; have : (7 : Int32).toInt = 7 := rfl; have : (8 : Int32).toInt = 8 := rfl; omega))]
      exact ⟨_, rfl, rfl⟩
  · rw [if_neg (show ¬ fX12_within (Int32.ofNat n) 0 7 = 0 from w1), if_neg (show ¬ Int32.ofNat n < 0 from w2), if_pos (show Int32.ofNat n < 8 from (i32_lt (b := 8) (by omega) (by decide)).mpr (by omega)), if_pos (inb_t (by omega) (by omega)), if_pos (inb_t (by omega) (by omega)), tnc (by omega), h n (by omega)]
    exact ⟨_, rfl, rfl⟩
theorem within_flat {p : Int32} (n : Nat) (hn : n < 2 ^ 31) : (fX12_within p 0 (Int32.ofNat n - 1) = 0 ∧ (p < 0 ∨ ¬ p < Int32.ofNat n)) ∨ (¬ fX12_within p 0 (Int32.ofNat n - 1) = 0 ∧ ¬ p < 0 ∧ p < Int32.ofNat n ∧ ∃ i, i < n ∧ p = Int32.ofNat i) := by
  by_cases h0 : n = 0
  · subst h0
    have e : fX12_within p 0 (Int32.ofNat 0 - 1) = 0 := by
      unfold fX12_within
      by_cases a : p < 0
      · rw [if_pos a]
      · rw [if_neg a, if_pos (show Int32.ofNat 0 - 1 < p from by
          rw [Int32.lt_iff_toInt_lt] at a ⊢
          have h1 : (Int32.ofNat 0 - 1).toInt = -1 := by decide +kernel
          have h2 : (0 : Int32).toInt = 0 := rfl
          omega)]
    refine Or.inl ⟨e, ?_⟩
    by_cases a : p < 0
    · exact Or.inl a
    · exact Or.inr a
  · rw [i32_pred (by omega) hn]
    rcases within_pos (p := p) (a := 0) (b := n - 1) (by decide) (by omega) with ⟨w1, w2⟩ | ⟨w1, w2, w3, i, hi1, hi, rfl⟩
    · refine Or.inl ⟨w1, w2.imp id (fun a z => a ?_)⟩
      rw [Int32.lt_iff_toInt_lt, i32_int hn] at z
      rw [Int32.le_iff_toInt_le, i32_int (by omega)]
      omega
    · exact Or.inr ⟨w1, w2, (i32_lt (by omega) hn).mpr (by omega), i, by omega, rfl⟩
theorem row_call {s2 : Int32} {b2 : Int64} {mf s5 : Int32} {b5 : Int64} {md : Int32} {A72 A73 : Nat → Int32} (h2 : Rx s2 b2 mf A72) (h5 : Rx s5 b5 md A73) (th p1 p2 : Int32) : fX12_row mf md A72 A73 th p1 p2 = some (fX11_row s2 b2 s5 b5 p1 p2, 0) := by
  have key : ∀ {s : Int32} {b : Int64} {mm : Int32} {A : Nat → Int32}, Rx s b mm A → (p2 = -1 → s = mm) ∧ (¬ p2 = -1 → (fX12_within p2 0 (mm - 1) = 0 ∧ fX6_valueAt s b p2 = -1) ∨ (¬ fX12_within p2 0 (mm - 1) = 0 ∧ inb p2 40 = true ∧ A p2.toNatClampNeg = fX6_valueAt s b p2)) := by
    intro s b mm A ⟨n, hn, e1, e2, hA⟩
    subst e1 e2
    refine ⟨fun _ => rfl, fun _ => ?_⟩
    unfold fX6_valueAt
    rcases within_flat (p := p2) n (by omega) with ⟨w1, w2⟩ | ⟨w1, w2, w3, i, hi, rfl⟩
    · refine Or.inl ⟨w1, ?_⟩
      by_cases a : p2 < 0
      · rw [if_pos a]
      · rw [if_neg a, if_neg (w2.resolve_left a)]
    · refine Or.inr ⟨w1, inb_t (by omega) (by omega), ?_⟩
      rw [if_neg w2, if_pos w3, tnc (by omega), hA i hi, i32_pred (by omega) (by omega), i32_sub (by omega)]
      rw [show ((Int32.ofNat (n - 1 - i)).toInt64.toUInt64 &&& Int64.toUInt64 63) = UInt64.ofNat (n - 1 - i) from sh32u ⟨n - 1 - i, by omega⟩, low_dg _ (w := 1) (by decide) 1 rfl, ushr_dg b (by omega)]
      congr 1
      have e2 : (b.toBitVec.toNat >>> (n - 1 - i)) % 2 ^ 1 = dg b (n - 1 - i) 1 := rfl
      rw [e2]
      apply Nat.eq_of_testBit_eq
      intro j
      rw [dg_bit]
      by_cases h : j < 1
      · obtain rfl : j = 0 := by omega
        cases hb : bt b (n - 1 - i) <;> simp [hb]
      · have h3 : (bt b (n - 1 - i)).toNat.testBit j = false := by
          apply Nat.testBit_lt_two_pow
          have : 2 ^ 1 ≤ 2 ^ j := Nat.pow_le_pow_right (by decide) (by omega)
          cases bt b (n - 1 - i) <;> simp <;> omega
        simp [h, h3]
  unfold fX12_row fX11_row
  rcases within_pos (p := p1) (a := 0) (b := 1) (by decide) (by decide) with ⟨w1, w2⟩ | ⟨w1, w2, w3, n, hn1, hn, rfl⟩
  · rw [show fX12_within p1 0 1 = 0 from w1, if_pos rfl]
    by_cases a : p1 < 0
    · rw [if_pos a]
    · rw [if_neg a, if_neg (show ¬ p1 ≤ 1 from w2.resolve_left a)]
  · rw [if_neg (show ¬ fX12_within (Int32.ofNat n) 0 1 = 0 from w1), if_neg (show ¬ Int32.ofNat n < 0 from w2), if_pos (show Int32.ofNat n ≤ 1 from w3)]
    rcases (show n = 0 ∨ n = 1 by omega) with rfl | rfl
    · rw [if_pos (show Int32.ofNat 0 = 0 from rfl), if_pos (show Int32.ofNat 0 = 0 from rfl)]
      unfold fX12_row_J31 fX11_row_J26_2
      by_cases hp : p2 = -1
      · rw [if_pos hp, if_pos hp, (key h2).1 hp]
      · rw [if_neg hp, if_neg hp]
        rcases (key h2).2 hp with ⟨g1, g2⟩ | ⟨g1, g2, g3⟩
        · rw [if_pos g1, g2]
        · rw [if_neg g1, if_pos (show Int32.ofNat 0 = 0 from rfl), if_pos g2, g3]
    · rw [if_neg (show ¬ Int32.ofNat 1 = 0 by decide), if_neg (show ¬ Int32.ofNat 1 = 0 by decide)]
      unfold fX12_row_J31 fX11_row_J26
      by_cases hp : p2 = -1
      · rw [if_pos hp, if_pos hp, (key h5).1 hp]
      · rw [if_neg hp, if_neg hp]
        rcases (key h5).2 hp with ⟨g1, g2⟩ | ⟨g1, g2, g3⟩
        · rw [if_pos g1, g2]
        · rw [if_neg g1, if_neg (show ¬ Int32.ofNat 1 = 0 by decide), if_pos g2, g3]
theorem queued_call {qb qs mq : Int32} {A : Nat → Int32} (h : Qx qb qs mq A) (th p : Int32) : ∃ v t, fX12_queued mq A th p = some (v, t) ∧ ((fX11_queued qb qs p = none ∧ t = 1) ∨ (fX11_queued qb qs p = some v ∧ t = 0)) := by
  obtain ⟨n, hn, rfl, rfl, hA, hB⟩ := h
  unfold fX12_queued fX11_queued fX11_queued_J12 fX12_queued_J20
  rcases within_flat (p := p) n (by omega) with ⟨w1, w2⟩ | ⟨w1, w2, w3, i, hi, rfl⟩
  · rw [if_pos w1, if_neg (by decide)]
    refine ⟨_, _, rfl, Or.inl ⟨?_, rfl⟩⟩
    by_cases a : p < 0
    · rw [if_pos a]
    · rw [if_neg a, if_neg (w2.resolve_left a)]
  · rw [if_neg w1, if_pos rfl, if_pos (inb_t (by omega) (by omega)), if_neg w2, if_pos w3, tnc (by omega), hA i hi, bi_low, bi_ushr0 qb (by omega)]
    exact ⟨_, _, rfl, Or.inr ⟨rfl, rfl⟩⟩
theorem kind_call {c m : Int64} {lab : Nat} (hS : Sx c m) (h1 : 1 ≤ lab) (hlab : lab ≤ 4) (th p1 p2 p3 : Int32) : (fX11_kind c (Int32.ofNat lab) p1 p2 p3 = none ∧ (fX12_kind (Int32.ofNat lab) m th p1 p2 p3).2 = 1) ∨ (fX11_kind c (Int32.ofNat lab) p1 p2 p3 = some (fX12_kind (Int32.ofNat lab) m th p1 p2 p3).1 ∧ (fX12_kind (Int32.ofNat lab) m th p1 p2 p3).2 = 0) := by
  have j36 : ∀ x y z w : Int32, (fX12_kind_J36 (Int32.ofNat lab) m x y z w).2 = 1 := by
    intro x y z w
    unfold fX12_kind_J36 fX12_kind_J37
    rw [if_pos rfl]
  have j32 : ∀ x y z w : Int32, fX12_kind_J32 (Int32.ofNat lab) m x y z w = ((if z = 0 then fX12_get m (fX12_seenAt x y) 2 else if z = 1 then fX12_get m (fX12_packetAt x y) 2 else fX12_get m (fX12_letterAt x) 2), 0) := by
    intro x y z w
    unfold fX12_kind_J32 fX12_kind_J37
    rw [if_neg (by decide)]
    by_cases z0 : z = 0
    · rw [if_pos z0, if_pos z0]
    · rw [if_neg z0, if_neg z0]
      by_cases z1 : z = 1
      · rw [if_pos z1, if_pos z1]
      · rw [if_neg z1, if_neg z1]
  unfold fX11_kind fX12_kind
  rw [label_eq h1 (by omega)]
  rcases within_pos (p := p3) (a := 0) (b := 2) (by decide) (by decide) with ⟨w1, w2⟩ | ⟨w1, w2, w3, n, hn1, hn, rfl⟩
  · rw [show fX12_within p3 0 2 = 0 from w1, if_pos rfl]
    have hne : ¬ p3 = 2 := by
      rintro rfl
      rcases w2 with h | h
      · exact absurd h (by decide)
      · exact absurd (by decide : (2 : Int32) ≤ Int32.ofNat 2) h
    rw [if_neg hne]
    refine Or.inl ⟨?_, j36 _ _ _ _⟩
    unfold fX11_kind_J28 fX11_kind_J49
    by_cases a : p3 < 0
    · rw [if_pos a]
    · rw [if_neg a, if_pos (by
        have h := w2.resolve_left a
        rw [Int32.le_iff_toInt_le] at h
        rw [Int32.lt_iff_toInt_lt]
        have : (1 : Int32).toInt = 1 := rfl
        have : (Int32.ofNat 2).toInt = 2 := rfl
        omega)]
  · rw [if_neg (show ¬ fX12_within (Int32.ofNat n) 0 2 = 0 from w1)]
    by_cases hl : fX7_hasLabel (Int32.ofNat lab) p1 = 0
    · rw [if_pos hl, if_pos hl]
      refine Or.inl ⟨?_, j36 _ _ _ _⟩
      have : fX11_kind_J28 c (Int32.ofNat lab) p1 p2 (Int32.ofNat n) = none := by
        unfold fX11_kind_J28 fX11_kind_J49
        have hk : fX7_hasKind (Int32.ofNat lab) p1 p2 = 0 := by unfold fX7_hasKind; rw [if_pos hl]
        rw [if_pos hk]
        split
        · rfl
        · split <;> rfl
      rw [this]; split <;> rfl
    · rw [if_neg hl, if_neg hl]
      by_cases h2 : Int32.ofNat n = 2
      · rw [if_pos h2, if_pos h2, j32]
        obtain ⟨l, hl4, rfl⟩ := label_dig (by omega) hl
        rw [h2, if_neg (by decide), if_neg (by decide), lAt_k (by omega), mg_lt hS (by omega), lettersAt_p l (by omega), fX7_digit_dg c (by unfold ltPos; omega)]
        exact Or.inr ⟨rfl, rfl⟩
      · rw [if_neg h2, if_neg h2]
        have hn2 : n < 2 := by
          rcases (show n = 2 ∨ n < 2 by omega) with rfl | h
          · exact absurd rfl h2
          · exact h
        have hkind : (fX12_within p2 0 1 = 0) ↔ fX7_hasKind (Int32.ofNat lab) p1 p2 = 0 := by
          rw [← kind_eq h1 (by omega)]
          unfold fX12_isSort
          rw [label_eq h1 (by omega), if_neg hl]
          by_cases hh : fX12_within p2 0 1 = 0
          · rw [if_pos hh]; exact ⟨fun _ => rfl, fun _ => hh⟩
          · rw [if_neg hh]; exact ⟨fun z => absurd z hh, fun z => absurd z (by decide)⟩
        unfold fX11_kind_J28 fX11_kind_J49 fX11_kind_J87
        rw [if_neg (i32_nneg (by omega)), if_neg (show ¬ (1 : Int32) < Int32.ofNat n from fun z => by have := (i32_lt (a := 1) (by decide) (by omega)).mp z; omega)]
        by_cases hk : fX7_hasKind (Int32.ofNat lab) p1 p2 = 0
        · rw [if_pos hk, if_pos (hkind.mpr hk)]
          exact Or.inl ⟨rfl, j36 _ _ _ _⟩
        · rw [if_neg hk, if_neg (fun z => hk (hkind.mp z)), j32]
          obtain ⟨k, hkk, a, b, ha, hb, rfl, rfl, hkv⟩ := kind_dig hlab hk
          rw [hkk, show fX12_seenAt (Int32.ofNat a) (Int32.ofNat b) = Int32.ofNat (9 + 2 * k.val) by rw [hkv]; exact seenAt_m ⟨a, by omega⟩ ⟨b, hb⟩, show fX12_packetAt (Int32.ofNat a) (Int32.ofNat b) = Int32.ofNat (25 + 2 * k.val) by rw [hkv]; exact packetAt_m ⟨a, by omega⟩ ⟨b, hb⟩, mg_se hS k.isLt, mg_pk hS k.isLt, seenAt_p k.val k.isLt, packetsAt_p k.val k.isLt, fX7_digit_dg c (by unfold sePos; omega), fX7_digit_dg c (by unfold pkPos; omega)]
          rcases (show n = 0 ∨ n = 1 by omega) with rfl | rfl
          · rw [if_pos (show Int32.ofNat 0 = 0 from rfl), if_pos (show Int32.ofNat 0 = 0 from rfl)]
            exact Or.inr ⟨rfl, rfl⟩
          · rw [if_neg (show ¬ Int32.ofNat 1 = 0 by decide), if_neg (show ¬ Int32.ofNat 1 = 0 by decide), if_pos (show Int32.ofNat 1 = 1 from rfl)]
            exact Or.inr ⟨rfl, rfl⟩
