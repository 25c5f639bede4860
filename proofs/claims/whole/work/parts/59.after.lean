/-! part 59: the class's act -/
theorem z64 : ∀ i : Nat, bt (0 : Int64) i = false := by
  intro i
  have key : ∀ k : Fin 64, bt (0 : Int64) k.val = false := by decide +kernel
  by_cases hi : i < 64
  · exact key ⟨i, hi⟩
  · exact bt_big _ (by omega)
theorem bit_one {c : Int64} {n : Nat} (hn : n < 64) : (lg_cmp (((c.toUInt64 >>> UInt64.ofNat n).toInt64) &&& (1 : Int64)) 0 = 0) ↔ dg c n 1 = 0 := by
  rw [lg_cmp_eq]
  have e1 : ∀ i, i < 64 → bt ((((c.toUInt64 >>> UInt64.ofNat n).toInt64) &&& (1 : Int64))) i = (decide (i = 0) && bt c n) := by
    intro i hi
    have key : ∀ k : Fin 64, bt (1 : Int64) k.val = decide (k.val = 0) := by decide +kernel
    rw [bt_and, bt_ushr c hn, show bt (1 : Int64) i = decide (i = 0) from key ⟨i, hi⟩]
    by_cases h : i = 0
    · subst h; simp
    · simp [h]
  have e2 : dg c n 1 = (bt c n).toNat := by
    apply Nat.eq_of_testBit_eq
    intro i
    rw [dg_bit]
    by_cases h : i < 1
    · obtain rfl : i = 0 := by omega
      cases hb : bt c n <;> simp [hb]
    · have h2 : (bt c n).toNat.testBit i = false := by
        apply Nat.testBit_lt_two_pow
        have : 2 ^ 1 ≤ 2 ^ i := Nat.pow_le_pow_right (by decide) (by omega)
        cases bt c n <;> simp <;> omega
      simp [h, h2]
  rw [e2]
  constructor
  · intro h
    have h0 := e1 0 (by decide)
    rw [h, z64] at h0
    have : bt c n = false := by simpa using h0.symm
    rw [this]; rfl
  · intro h
    have hb : bt c n = false := by cases hb : bt c n <;> simp_all
    apply bt_ext
    intro i hi
    rw [e1 i hi, z64, hb]; simp
theorem takenOf_dg (c : Int64) : fX7_takenOf c = if dg c 42 1 = 0 then 0 else 1 := by
  unfold fX7_takenOf
  rw [show ((42 : Int32).toInt64.toUInt64 &&& Int64.toUInt64 63) = UInt64.ofNat 42 from sh32u ⟨42, by decide⟩]
  by_cases h : dg c 42 1 = 0
  · rw [if_pos ((bit_one (by decide)).mpr h), if_pos h]
  · rw [if_neg (fun z => h ((bit_one (by decide)).mp z)), if_neg h]
theorem dg1 (c : Int64) (n : Nat) : dg c n 1 = 0 ∨ dg c n 1 = 1 := by
  have := dg_lt c n 1
  omega
def lostBits (w lost : Nat) : Int64 := if lost = 0 then 0 else if w = 0 ∨ w = 3 then 72057594037927936 else 144115188075855872
def mk64 (out : Nat) : Int64 := Int64.ofNat out <<< Int64.ofNat 52
def codeN (w k told : Nat) : Int32 := Int32.ofNat (w + 8 * k + 64 * told)
theorem code_which : ∀ (w : Fin 5) (k : Fin 8) (t : Fin 2), fX0_whichOf (codeN w.val k.val t.val) = Int32.ofNat w.val := by decide +kernel
theorem code_kind : ∀ (w : Fin 5) (k : Fin 8) (t : Fin 2), fX0_kindOf (codeN w.val k.val t.val) = Int32.ofNat k.val := by decide +kernel
theorem code_told : ∀ (w : Fin 5) (k : Fin 8) (t : Fin 2), fX0_toldOf (codeN w.val k.val t.val) = Int32.ofNat t.val := by decide +kernel
theorem half_kind : ∀ k : Fin 8, (Int32.ofNat k.val) >>> (1 &&& 31) = Int32.ofNat (k.val / 2) := by decide +kernel
theorem or_zero (x : Int64) : x ||| 0 = x := by
  apply bt_ext
  intro i hi
  rw [bt_or, z64, Bool.or_false]
theorem or_assoc64 (x y z : Int64) : (x ||| y) ||| z = x ||| (y ||| z) := by
  apply bt_ext
  intro i hi
  rw [bt_or, bt_or, bt_or, bt_or, Bool.or_assoc]
theorem dg_or (x o : Int64) {n w : Nat} (h : ∀ i, n ≤ i → i < n + w → bt o i = false) : dg (x ||| o) n w = dg x n w := by
  apply Nat.eq_of_testBit_eq
  intro i
  rw [dg_bit, dg_bit]
  by_cases hi : i < w
  · rw [bt_or, h _ (by omega) (by omega), Bool.or_false]
  · simp [hi]
theorem put_or {x y : Int64} (o : Int64) {n w v : Nat} (hp : IsPut x y n w v) (h : ∀ i, n ≤ i → i < n + w → bt o i = false) : IsPut (x ||| o) (y ||| o) n w v := by
  intro i hi
  rw [bt_or, hp i hi]
  by_cases hc : n ≤ i ∧ i < n + w
  · rw [if_pos hc, if_pos hc, h i hc.1 hc.2, Bool.or_false]
  · rw [if_neg hc, if_neg hc, bt_or]
theorem add_or (x o : Int64) {n : Nat} (hn : n + 2 ≤ 64) (hd : dg x n 2 + 1 < 4) (h : ∀ i, n ≤ i → i < n + 2 → bt o i = false) : (x ||| o) + ((1 : Int64) <<< ((Int32.ofNat n).toInt64 &&& 63)) = pt x n 2 (dg x n 2 + 1) ||| o := by
  rw [show ((Int32.ofNat n).toInt64 &&& 63) = Int64.ofNat n from sh32 ⟨n, by omega⟩]
  refine (put_inc (x := x ||| o) (y := pt x n 2 (dg x n 2 + 1) ||| o) (n := n) (w := 2) ?_ hn (by omega) ?_).symm
  · rw [dg_or x o h]
    exact put_or o (pt2 x hn hd) h
  · rw [dg_or x o h]; exact hd
theorem mk_low : ∀ (o : Fin 8) (i : Fin 52), bt (mk64 o.val) i.val = false := by decide +kernel
theorem kAt_dg (c : Int64) : ((((c.toUInt64 >>> ((46 : Int32).toInt64.toUInt64 &&& Int64.toUInt64 63)).toInt64).toInt32) &&& (7 : Int32)) = Int32.ofNat (kOf c) := by
  rw [show ((46 : Int32).toInt64.toUInt64 &&& Int64.toUInt64 63) = UInt64.ofNat 46 from sh32u ⟨46, by decide⟩, low_dg _ (w := 3) (by decide) 7 rfl, ushr_dg c (by decide), ← kOf_3]
  rfl
theorem seen_clear (c : Int64) {l : Nat} (hl : l < 4) : fX7_withLast (c &&& ((-1099494850561) : Int64)) (Int32.ofNat l) = clrTo (pt c 40 2 l) 8 := by
  apply bt_ext
  intro i hi
  rw [clr_bits _ 8 (by decide) i hi, bt_pt c (by decide) (by decide) (by decide) hl hi]
  rw [withLast_put _ hl i hi, bt_and]
  have key : ∀ k : Fin 64, bt ((-1099494850561) : Int64) k.val = !(decide (24 ≤ k.val ∧ k.val < 40)) := by decide +kernel
  rw [show bt ((-1099494850561) : Int64) i = _ from key ⟨i, hi⟩]
  by_cases h1 : 40 ≤ i ∧ i < 40 + 2
  · rw [if_pos h1, if_neg (by omega), if_pos h1]
  · rw [if_neg h1, if_neg h1]
    by_cases h2 : 24 + 2 * (8 - 8) ≤ i ∧ i < 40
    · have h3 : 24 ≤ i ∧ i < 40 := by omega
      rw [if_pos h2]; simp [h3]
    · have h3 : ¬ (24 ≤ i ∧ i < 40) := by omega
      rw [if_neg h2]; simp [h3]
theorem or_taken (d : Int64) : d ||| (4398046511104 : Int64) = pt d 42 1 1 := by
  apply bt_ext
  intro i hi
  have key : ∀ k : Fin 64, bt (4398046511104 : Int64) k.val = decide (k.val = 42) := by decide +kernel
  rw [bt_or, show bt (4398046511104 : Int64) i = _ from key ⟨i, hi⟩, bt_pt d (by decide) (by decide) (by decide) (by decide) hi]
  by_cases h : i = 42
  · subst h; simp
  · rw [if_neg (by omega)]; simp [h]
theorem mk1 : mk64 1 = 4503599627370496 := by decide +kernel
theorem mk2 : mk64 2 = 9007199254740992 := by decide +kernel
theorem mk3 : mk64 3 = 13510798882111488 := by decide +kernel
theorem delivery_eq (d : Int64) {k : Nat} (hk : k < 8) : fX7_afterDelivery d (Int32.ofNat k) = (dlv d k).1 ||| mk64 (dlv d k).2 := by
  unfold fX7_afterDelivery dlv
  rw [kAt_dg, half_kind ⟨k, hk⟩, seen_clear d (by show k / 2 < 4; omega), takenOf_dg]
  by_cases h1 : k = kOf d
  · rw [if_pos ((i32_eq (by omega) (by have := kOf_lt d; omega)).mpr h1), if_pos h1]
    rcases dg1 d 42 with h2 | h2
    · rw [if_pos h2, if_pos rfl, if_neg (show ¬ dg d 42 1 = 1 by omega), or_taken]
      show _ = _ ||| mk64 1
      rw [mk1]
    · rw [if_neg (show ¬ dg d 42 1 = 0 by omega), if_neg (by decide), if_pos h2]
      show _ = _ ||| mk64 3
      rw [mk3]
  · rw [if_neg (fun z => h1 ((i32_eq (by omega) (by have := kOf_lt d; omega)).mp z)), if_neg h1]
    show _ = _ ||| mk64 2
    rw [mk2]
theorem mk0 : mk64 0 = 0 := by decide +kernel
theorem lost0 (w : Nat) : lostBits w 0 = 0 := rfl
theorem or_mk0 (x : Int64) (w : Nat) : x ||| (mk64 0 ||| lostBits w 0) = x := by rw [mk0, lost0, or_zero, or_zero]
theorem dlv_out (d : Int64) (k : Nat) : (dlv d k).2 < 8 := by
  unfold dlv
  by_cases h1 : k = kOf d
  · rw [if_pos h1]
    by_cases h2 : dg d 42 1 = 1
    · rw [if_pos h2]; exact (by decide : 3 < 8)
    · rw [if_neg h2]; exact (by decide : 1 < 8)
  · rw [if_neg h1]; exact (by decide : 2 < 8)
theorem arr_out (cop : Nat) (c : Int64) (k : Nat) : (arr cop c k).2 < 8 := by
  unfold arr
  by_cases h1 : k / 2 = dg c 40 2
  · rw [if_pos h1]; exact (by decide : 0 < 8)
  · rw [if_neg h1]
    by_cases h2 : cop ≤ dg c (sePos k) 2 + 1
    · rw [if_pos h2]; exact dlv_out _ _
    · rw [if_neg h2]; exact (by decide : 0 < 8)
theorem arr_lt (cop : Nat) (c : Int64) {k : Nat} (hk : k < 8) (hc : cop ≤ 4) : dg (arr cop c k).1 (ltPos (k / 2)) 2 = dg c (ltPos (k / 2)) 2 := by
  have hle := dg2_le c (pkPos k)
  have e0 : dg (pt c (pkPos k) 2 (dg c (pkPos k) 2 - 1)) (ltPos (k / 2)) 2 = dg c (ltPos (k / 2)) 2 := pt_ne c (by unfold pkPos; omega) (by unfold pkPos; omega) (by decide) (by omega) (by unfold ltPos; omega) (by unfold ltPos pkPos; omega)
  have e7 : ∀ x : Int64, dg (clrTo (pt x 40 2 (k / 2)) 8) (ltPos (k / 2)) 2 = dg x (ltPos (k / 2)) 2 := by
    intro x
    rw [clr_dg _ (by omega) (by unfold ltPos; omega) (by unfold ltPos; omega), pt_ne x (by decide) (by decide) (by decide) (by omega) (by unfold ltPos; omega) (by unfold ltPos; omega)]
  unfold arr
  by_cases h5 : k / 2 = dg c 40 2
  · rw [if_pos h5]; exact e0
  · rw [if_neg h5]
    by_cases h6 : cop ≤ dg c (sePos k) 2 + 1
    · rw [if_pos h6]
      unfold dlv
      by_cases h7 : k = kOf (pt c (pkPos k) 2 (dg c (pkPos k) 2 - 1))
      · rw [if_pos h7]
        by_cases h8 : dg (pt c (pkPos k) 2 (dg c (pkPos k) 2 - 1)) 42 1 = 1
        · rw [if_pos h8]
          show dg (clrTo _ 8) _ 2 = _
          rw [e7]; exact e0
        · rw [if_neg h8]
          show dg (pt (clrTo _ 8) 42 1 1) _ 2 = _
          rw [pt_ne _ (by decide) (by decide) (by decide) (by decide) (by unfold ltPos; omega) (by unfold ltPos; omega), e7]; exact e0
      · rw [if_neg h7]
        show dg (clrTo _ 8) _ 2 = _
        rw [e7]; exact e0
    · rw [if_neg h6]
      show dg (pt _ (sePos k) 2 _) _ 2 = _
      rw [pt_ne _ (by unfold sePos; omega) (by unfold sePos; omega) (by decide) (by omega) (by unfold ltPos; omega) (by unfold ltPos sePos; omega)]; exact e0
theorem packetsAt_p (k : Nat) (hk : k < 8) : fX7_packetsAt (Int32.ofNat k) = Int32.ofNat (pkPos k) := packetsAt_c ⟨k, hk⟩
theorem seenAt_p (k : Nat) (hk : k < 8) : fX7_seenAt (Int32.ofNat k) = Int32.ofNat (sePos k) := seenAt_c ⟨k, hk⟩
theorem lettersAt_p (k : Nat) (hk : k < 4) : fX7_lettersAt (Int32.ofNat k) = Int32.ofNat (ltPos k) := lettersAt_c ⟨k, hk⟩
theorem arrive_eq {cap cop : Nat} {c : Int64} {k : Nat} (hcap : cap ≤ 2) (hcop : cop ≤ 4) (hk : k < 8) (hL : Lg cap c) (h1 : 1 ≤ dg c (pkPos k) 2) : fX7_afterArrive (Int32.ofNat cap) (Int32.ofNat cop) c (Int32.ofNat k) = if ltSum c < cap then pt (arr cop c k).1 (ltPos (k / 2)) 2 (dg c (ltPos (k / 2)) 2 + 1) ||| mk64 (arr cop c k).2 else (arr cop c k).1 ||| (mk64 (arr cop c k).2 ||| 144115188075855872) := by
  have hk4 : k / 2 < 4 := by omega
  have hlt := arr_lt cop c hk hcop
  have hout := arr_out cop c k
  have hle := dg2_le c (pkPos k)
  -- what the class does with the letters
  have hJ : ∀ v : Int64, v = (arr cop c k).1 ||| mk64 (arr cop c k).2 → fX7_afterArrive_J63 (Int32.ofNat cap) (Int32.ofNat cop) c v (Int32.ofNat (k / 2)) = if ltSum c < cap then pt (arr cop c k).1 (ltPos (k / 2)) 2 (dg c (ltPos (k / 2)) 2 + 1) ||| mk64 (arr cop c k).2 else (arr cop c k).1 ||| (mk64 (arr cop c k).2 ||| 144115188075855872) := by
    intro v hv
    unfold fX7_afterArrive_J63
    have hl := ltSum_le c
    rw [lettersIn_sum, lettersAt_p _ hk4]
    by_cases h : ltSum c < cap
    · rw [if_pos ((i32_lt (by omega) (by omega)).mpr h), if_pos h, hv]
      have hd := dg_le_lt c hk4
      rw [add_or _ _ (by unfold ltPos; omega) (by rw [hlt]; omega) (fun i h1 h2 => mk_low ⟨_, hout⟩ ⟨i, by unfold ltPos at h2; omega⟩), hlt]
    · rw [if_neg (fun z => h ((i32_lt (by omega) (by omega)).mp z)), if_neg h, hv, or_assoc64]
  unfold fX7_afterArrive
  rw [half_kind ⟨k, hk⟩, fX7_lastOf_dg, packetsAt_p k hk, sub_pt c (by unfold pkPos; omega) h1, seenAt_p k hk, fX7_digit_dg c (by unfold sePos; omega), delivery_eq _ hk]
  have hdl := dg2_le c 40
  have hds := dg2_le c (sePos k)
  by_cases h2 : k / 2 = dg c 40 2
  · rw [if_pos (show Int32.ofNat (k / 2) = Int32.ofNat (dg c 40 2) from by rw [h2])]
    apply hJ
    unfold arr
    rw [if_pos h2, mk0, or_zero]
  · rw [if_neg (fun z => h2 ((i32_eq (by omega) (by omega)).mp z))]
    rw [show (1 : Int32) = Int32.ofNat 1 from rfl, i32_add]
    by_cases h3 : cop ≤ dg c (sePos k) 2 + 1
    · rw [if_pos ((i32_le (by omega) (by omega)).mpr h3)]
      apply hJ
      unfold arr
      rw [if_neg h2, if_pos h3]
    · rw [if_neg (fun z => h3 ((i32_le (by omega) (by omega)).mp z))]
      apply hJ
      unfold arr
      rw [if_neg h2, if_neg h3, mk0, or_zero]
      have e : dg (pt c (pkPos k) 2 (dg c (pkPos k) 2 - 1)) (sePos k) 2 = dg c (sePos k) 2 := pt_ne c (by unfold pkPos; omega) (by unfold pkPos; omega) (by decide) (by omega) (by unfold sePos; omega) (by unfold sePos pkPos; omega)
      rw [add_pt _ (by unfold sePos; omega) (by rw [e]; omega), e]
theorem come_eq {lab ack : Nat} {c : Int64} {l told : Nat} (hlab : lab ≤ 4) (hack : ack ≤ 7) (hl : l < lab) (hto : told < 2) (h1 : 1 ≤ dg c (ltPos l) 2) : fX7_afterCome (Int32.ofNat lab) (Int32.ofNat ack) c (Int32.ofNat l) (Int32.ofNat told) = if dg c 47 2 = l then (if ack ≤ dg c 43 3 + 1 then snd4 (pt c (ltPos l) 2 (dg c (ltPos l) 2 - 1)) (if l + 1 < lab then l + 1 else 0) told 0 0 ||| mk64 (if dg c 42 1 = 1 then 4 else 5) else pt (pt c (ltPos l) 2 (dg c (ltPos l) 2 - 1)) 43 3 (dg c 43 3 + 1)) else pt c (ltPos l) 2 (dg c (ltPos l) 2 - 1) := by
  have hle := dg2_le c (ltPos l)
  have hl47 := dg2_le c 47
  have h43 := dg_lt c 43 3
  unfold fX7_afterCome
  rw [fX7_labelOf_dg, lettersAt_p l (by omega), sub_pt c (by unfold ltPos; omega) h1]
  by_cases h2 : dg c 47 2 = l
  · rw [if_pos h2, if_pos (by rw [h2])]
    have hg : fX7_goesOnBy (Int32.ofNat ack) c (Int32.ofNat l) = if ack ≤ dg c 43 3 + 1 then 1 else 0 := by
      unfold fX7_goesOnBy
      rw [fX7_labelOf_dg, if_pos (by rw [h2]), fX7_acksOf_dg, show (1 : Int32) = Int32.ofNat 1 from rfl, i32_add]
      by_cases h : ack ≤ dg c 43 3 + 1
      · rw [if_pos h, if_neg (fun z => by have := (i32_lt (by omega) (by omega)).mp z; omega)]
      · rw [if_neg h, if_pos ((i32_lt (by omega) (by omega)).mpr (by omega))]
    rw [hg]
    by_cases h3 : ack ≤ dg c 43 3 + 1
    · rw [if_pos h3, if_pos h3, if_neg (by decide)]
      have hws : ∀ a : Nat, a < 4 → fX7_withSender (pt c (ltPos l) 2 (dg c (ltPos l) 2 - 1)) (Int32.ofNat a) (Int32.ofNat told) 0 0 = snd4 (pt c (ltPos l) 2 (dg c (ltPos l) 2 - 1)) a told 0 0 := fun a ha => withSender_put _ (a := a) (b := told) (n := 0) (t := 0) ha hto (by decide) 0 rfl
      have hj : ∀ a : Nat, a < 4 → fX7_afterCome_J54 (Int32.ofNat lab) (Int32.ofNat ack) c (Int32.ofNat told) (pt c (ltPos l) 2 (dg c (ltPos l) 2 - 1)) (Int32.ofNat a) = snd4 (pt c (ltPos l) 2 (dg c (ltPos l) 2 - 1)) a told 0 0 ||| mk64 (if dg c 42 1 = 1 then 4 else 5) := by
        intro a ha
        unfold fX7_afterCome_J54 fX7_afterCome_J72
        rw [takenOf_dg, hws a ha]
        rcases dg1 c 42 with h | h
        · rw [if_pos h, if_pos rfl, if_neg (show ¬ dg c 42 1 = 1 by omega)]
          rfl
        · rw [if_neg (show ¬ dg c 42 1 = 0 by omega), if_neg (by decide), if_pos h]
          rfl
      rw [show (1 : Int32) = Int32.ofNat 1 from rfl, i32_add]
      by_cases h4 : l + 1 < lab
      · rw [if_pos h4, if_neg (fun z => by have := (i32_le (by omega) (by omega)).mp z; omega)]
        exact hj (l + 1) (by omega)
      · rw [if_neg h4, if_pos ((i32_le (by omega) (by omega)).mpr (by omega))]
        exact hj 0 (by decide)
    · rw [if_neg h3, if_neg h3, if_pos rfl]
      have e : dg (pt c (ltPos l) 2 (dg c (ltPos l) 2 - 1)) 43 3 = dg c 43 3 := pt_ne c (by unfold ltPos; omega) (by unfold ltPos; omega) (by decide) (by omega) (by decide) (by unfold ltPos; omega)
      have hp := pt_put (pt c (ltPos l) 2 (dg c (ltPos l) 2 - 1)) (n := 43) (w := 3) (v := dg c 43 3 + 1) (by decide) (by decide) (by decide) (by omega)
      rw [← e] at hp
      have hi := put_inc hp (by decide) (by decide) (by rw [e]; omega)
      rw [e] at hi
      rw [hi]
      rfl
  · rw [if_neg h2, if_neg (fun z => h2 ((i32_eq (by omega) (by omega)).mp z))]
theorem after_eq {cap lab ack cop : Nat} {c : Int64} {w k told : Nat} (hcap : cap ≤ 2) (hlab : lab ≤ 4) (hack : ack ≤ 7) (hcop : cop ≤ 4) (hL : Lg cap c) (ht : there lab c w k) (hto : told < 2) : fX7_after (Int32.ofNat cap) (Int32.ofNat lab) (Int32.ofNat ack) (Int32.ofNat cop) c (codeN w k told) = (stp cap lab ack cop c w k told).1 ||| (mk64 (stp cap lab ack cop c w k told).2.1 ||| lostBits w (stp cap lab ack cop c w k told).2.2) := by
  have hk8 : k < 8 := by rcases ht with ⟨_, h⟩ | ⟨_, h, _⟩ | ⟨_, _, h, _⟩ <;> omega
  have hw5 : w < 5 := by rcases ht with ⟨h, _⟩ | ⟨h | h, _⟩ | ⟨h | h, _⟩ <;> omega
  unfold fX7_after
  rw [code_which ⟨w, hw5⟩ ⟨k, hk8⟩ ⟨told, hto⟩, code_kind ⟨w, hw5⟩ ⟨k, hk8⟩ ⟨told, hto⟩, code_told ⟨w, hw5⟩ ⟨k, hk8⟩ ⟨told, hto⟩]
  dsimp only
  rw [half_kind ⟨k, hk8⟩]
  dsimp only
  unfold stp
  rcases ht with ⟨h, _⟩ | ⟨h | h, h1, h2⟩ | ⟨h | h, h0, h1, h2⟩
  · subst h
    rw [if_pos (show Int32.ofNat 0 = 0 from rfl), if_pos rfl]
    unfold fX7_afterSend
    have hs := pkSum_le c
    rw [packetsIn_sum, kAt_dg, packetsAt_p _ (kOf_lt c)]
    by_cases hc : pkSum c < cap
    · rw [if_pos ((i32_lt (by omega) (by omega)).mpr hc), if_pos hc]
      have hd := dg_le_pk c (kOf_lt c)
      rw [add_pt c (by unfold pkPos; omega) (by omega)]
      exact (or_mk0 _ _).symm
    · rw [if_neg (fun z => hc ((i32_lt (by omega) (by omega)).mp z)), if_neg hc]
      show c ||| _ = c ||| (mk64 0 ||| lostBits 0 1)
      rw [mk0]; rfl
  · subst h
    rw [if_neg (show ¬ Int32.ofNat 1 = 0 by decide), if_pos (show Int32.ofNat 1 = 1 from rfl), if_neg (by decide), if_pos rfl]
    rw [arrive_eq hcap hcop hk8 hL h2]
    by_cases hc : ltSum c < cap
    · rw [if_pos hc, if_pos hc]
      show _ = _ ||| (_ ||| lostBits 1 0)
      rw [lost0, or_zero]
    · rw [if_neg hc, if_neg hc]
      rfl
  · subst h
    rw [if_neg (show ¬ Int32.ofNat 3 = 0 by decide), if_neg (show ¬ Int32.ofNat 3 = 1 by decide), if_neg (show ¬ Int32.ofNat 3 = 2 by decide), if_pos (show Int32.ofNat 3 = 3 from rfl), if_neg (by decide), if_neg (by decide), if_neg (by decide), if_pos rfl]
    rw [packetsAt_p _ hk8, sub_pt c (by unfold pkPos; omega) h2]
    show _ = _ ||| (mk64 0 ||| lostBits 3 1)
    rw [mk0]; rfl
  · subst h
    rw [if_neg (show ¬ Int32.ofNat 2 = 0 by decide), if_neg (show ¬ Int32.ofNat 2 = 1 by decide), if_pos (show Int32.ofNat 2 = 2 from rfl), if_neg (by decide), if_neg (by decide), if_pos rfl]
    rw [come_eq hlab hack h1 hto h2]
    by_cases h3 : dg c 47 2 = k / 2
    · rw [if_pos h3, if_pos h3]
      by_cases h4 : ack ≤ dg c 43 3 + 1
      · rw [if_pos h4, if_pos h4]
        show _ = _ ||| (_ ||| lostBits 2 0)
        rw [lost0, or_zero]
      · rw [if_neg h4, if_neg h4]
        exact (or_mk0 _ _).symm
    · rw [if_neg h3, if_neg h3]
      exact (or_mk0 _ _).symm
  · subst h
    rw [if_neg (show ¬ Int32.ofNat 4 = 0 by decide), if_neg (show ¬ Int32.ofNat 4 = 1 by decide), if_neg (show ¬ Int32.ofNat 4 = 2 by decide), if_neg (show ¬ Int32.ofNat 4 = 3 by decide), if_neg (by decide), if_neg (by decide), if_neg (by decide), if_neg (by decide)]
    rw [lettersAt_p _ (by omega), sub_pt c (by unfold ltPos; omega) h2]
    show _ = _ ||| (mk64 0 ||| lostBits 4 1)
    rw [mk0]; rfl
