/-! part 67: run -/
theorem i32_of_nat {x : Int32} {n : Nat} (h : x.toBitVec.toNat = n) : x = Int32.ofNat n := by
  apply Int32.toBitVec_inj.mp
  apply BitVec.eq_of_toNat_eq
  have := x.toBitVec.isLt
  rw [i32_nat, ← h, Nat.mod_eq_of_lt this]
theorem ushr8 (x : Int32) : ∃ n, n < 2 ^ 24 ∧ ((x.toUInt32 >>> ((8 : Int32).toUInt32 &&& Int32.toUInt32 31)).toInt32) = Int32.ofNat n := by
  refine ⟨x.toUInt32.toBitVec.toNat >>> 8, ?_, i32_of_nat ?_⟩
  · have := x.toUInt32.toBitVec.isLt
    rw [Nat.shiftRight_eq_div_pow]
    omega
  · rw [show ((8 : Int32).toUInt32 &&& Int32.toUInt32 31) = (8 : UInt32) by decide +kernel]
    show ((x.toUInt32 >>> (8 : UInt32)).toBitVec).toNat = _
    rw [UInt32.toBitVec_shiftRight]
    rw [show ((8 : UInt32).toBitVec % 32) = 8#32 by decide +kernel]
    simp [BitVec.toNat_ushiftRight]
theorem cnt_bad (A : Nat → Int32) {o : Nat} (ho : o < 6) (lp ll : Nat) : cnt A o lp ll 2 + cnt A o lp ll 3 + cnt A o lp ll 4 = (A 2 + A 3 + A 4) + (if fX12_isBad (Int32.ofNat o) = 0 then 0 else 1) := by
  rcases (show o = 0 ∨ o = 1 ∨ o = 2 ∨ o = 3 ∨ o = 4 ∨ o = 5 by omega) with rfl | rfl | rfl | rfl | rfl | rfl
  · show A 2 + A 3 + A 4 = A 2 + A 3 + A 4 + 0
    rw [Int32.add_zero]
  · show A 2 + A 3 + A 4 = A 2 + A 3 + A 4 + 0
    rw [Int32.add_zero]
  · show A 2 + 1 + A 3 + A 4 = A 2 + A 3 + A 4 + 1
    ac_rfl
  · show A 2 + (A 3 + 1) + A 4 = A 2 + A 3 + A 4 + 1
    ac_rfl
  · show A 2 + A 3 + A 4 = A 2 + A 3 + A 4 + 0
    rw [Int32.add_zero]
  · show A 2 + A 3 + (A 4 + 1) = A 2 + A 3 + A 4 + 1
    ac_rfl
theorem acts_pre (lab ack : Nat) (c : Int64) (d : Bool) {i : Nat} {x : Act} (h : (acts3 lab ack c d)[i]? = some x) : (acts5 lab ack c d)[i]? = some x := by
  have hi : i < (acts3 lab ack c d).length := (List.getElem?_eq_some_iff.mp h).1
  unfold acts5
  rw [List.getElem?_append, if_pos (by rw [List.length_append]; omega), List.getElem?_append, if_pos hi]
  exact h
abbrev RS1 := Int32 × Int32 × Int64 × Int32 × Int32 × Int32 × Int64 × Int32 × Int64 × Int32 × Int32 × (Nat → Int32) × (Nat → Int32)
abbrev RS2 := Int32 × Int32 × Int32 × Int64 × Int32 × Int32 × Int32 × Int64 × Int32 × Int32 × Int32 × (Nat → Int32) × (Nat → Int32) × (Nat → Int32) × (Nat → Int32) × (Nat → Int32) × (Nat → Int32) × (Nat → Int32)
def RI (cap : Nat) (bad0 : Int32) (i : Nat) (s : RS1) (t : RS2) : Prop := s.1 = t.1 ∧ s.2.1 = Int32.ofNat i ∧ t.2.2.1 = Int32.ofNat i ∧ DX cap s.2.2.1 s.2.2.2.1 s.2.2.2.2.1 s.2.2.2.2.2.1 s.2.2.2.2.2.2.1 s.2.2.2.2.2.2.2.1 s.2.2.2.2.2.2.2.2.1 s.2.2.2.2.2.2.2.2.2.2.2.1 t.2.2.2.1 t.2.2.2.2.1 t.2.2.2.2.2.1 t.2.2.2.2.2.2.1 t.2.2.2.2.2.2.2.2.2.2.2.1 t.2.2.2.2.2.2.2.2.2.2.2.2.1 t.2.2.2.2.2.2.2.2.2.2.2.2.2.1 t.2.2.2.2.2.2.2.2.2.2.2.2.2.2.1 ∧ s.2.2.2.2.2.2.2.2.2.2.2.1 2 + s.2.2.2.2.2.2.2.2.2.2.2.1 3 + s.2.2.2.2.2.2.2.2.2.2.2.1 4 = bad0 + t.2.1
theorem run_step {cap lab ack cop : Nat} (hcap : cap ≤ 2) (h1 : 1 ≤ lab) (hlab : lab ≤ 4) (hack : ack ≤ 7) (hcop : cop ≤ 4) {n : Nat} (hn : n ≤ 200) (lose bad0 : Int32) {F : Nat} (hF : 300 ≤ F) {i : Nat} (hi : i < n) (s : RS1) (t : RS2) (h : RI cap bad0 i s t) : ∃ s' t', fX11_run_S26 F (Int32.ofNat cap) (Int32.ofNat lab) (Int32.ofNat ack) (Int32.ofNat cop) (Int32.ofNat n) lose bad0 s.1 s.2.1 s.2.2.1 s.2.2.2.1 s.2.2.2.2.1 s.2.2.2.2.2.1 s.2.2.2.2.2.2.1 s.2.2.2.2.2.2.2.1 s.2.2.2.2.2.2.2.2.1 s.2.2.2.2.2.2.2.2.2.1 s.2.2.2.2.2.2.2.2.2.2.1 s.2.2.2.2.2.2.2.2.2.2.2.1 s.2.2.2.2.2.2.2.2.2.2.2.2 = some (.inr s') ∧ fX12_run_S27 F (Int32.ofNat cap) (Int32.ofNat lab) (Int32.ofNat ack) (Int32.ofNat cop) (Int32.ofNat n) lose 0 t.1 t.2.1 t.2.2.1 t.2.2.2.1 t.2.2.2.2.1 t.2.2.2.2.2.1 t.2.2.2.2.2.2.1 t.2.2.2.2.2.2.2.1 t.2.2.2.2.2.2.2.2.1 t.2.2.2.2.2.2.2.2.2.1 t.2.2.2.2.2.2.2.2.2.2.1 t.2.2.2.2.2.2.2.2.2.2.2.1 t.2.2.2.2.2.2.2.2.2.2.2.2.1 t.2.2.2.2.2.2.2.2.2.2.2.2.2.1 t.2.2.2.2.2.2.2.2.2.2.2.2.2.2.1 t.2.2.2.2.2.2.2.2.2.2.2.2.2.2.2.1 t.2.2.2.2.2.2.2.2.2.2.2.2.2.2.2.2.1 t.2.2.2.2.2.2.2.2.2.2.2.2.2.2.2.2.2 = some (.inr t') ∧ RI cap bad0 (i + 1) s' t' := by
  obtain ⟨x, v6, c, qb, qs, s2, b2, s5, b5, x81, x82, A1, A10⟩ := s
  obtain ⟨x', bad, w6, m, mq, mf, md, y19, y20, y21, y22, A70, A71, A72, A73, A76, A77, A78⟩ := t
  obtain ⟨g1, g2, g3, hD, hbad⟩ := h
  dsimp only at g1 g2 g3 hD hbad ⊢
  subst g1 g2 g3
  unfold fX11_run_S26 fX12_run_S27
  rw [if_neg (fun z => by have := (i32_le (by omega) (by omega)).mp z; omega), if_neg (fun z => by have := (i32_le (by omega) (by omega)).mp z; omega)]
  obtain ⟨B, e1, hB⟩ := list_eq (d := false) (pd := 0) hcap hlab hack hD.2.1 (by decide) (F := F) (by omega) x81 x82 A10
  obtain ⟨A', B', C', e2, hM⟩ := lays_acts hcap hD.1 hD.2.1 h1 hlab ack A76 A77 A78 (pl := lose) (F := F) (by omega)
  have hlen := acts_len (ack := ack) (d := false) hcap hlab hD.2.1
  have h35 : (acts3 lab ack c false).length ≤ (acts5 lab ack c false).length := by unfold acts5; rw [List.length_append, List.length_append]; omega
  have h3p : 1 ≤ (acts3 lab ack c false).length := by unfold acts3; rw [List.length_append, List.length_cons]; omega
  rw [e1, e2]
  simp only [Option.bind_some]
  obtain ⟨y, hy, ey⟩ := ushr8 (x * 1103515245 + 12345)
  rw [ey]
  have key : ∀ L : List Act, L = (if lose = 0 then acts3 lab ack c false else acts5 lab ack c false) → ∃ s' t', fX11_run_J80 F (Int32.ofNat cap) (Int32.ofNat lab) (Int32.ofNat ack) (Int32.ofNat cop) (Int32.ofNat n) lose bad0 (x * 1103515245 + 12345) (Int32.ofNat i) (Int32.ofNat L.length) c qb qs s2 b2 s5 b5 (Int32.ofNat (acts5 lab ack c false).length) (Int32.ofNat (acts3 lab ack c false).length) A1 B = some (.inr s') ∧ (if ¬ Int32.ofNat (if lose = 0 then acts3 lab ack c false else acts5 lab ack c false).length = 0 then (if inb (Int32.ofNat y - Int32.ofNat y / Int32.ofNat (if lose = 0 then acts3 lab ack c false else acts5 lab ack c false).length * Int32.ofNat (if lose = 0 then acts3 lab ack c false else acts5 lab ack c false).length) 40 = true then (if inb (Int32.ofNat y - Int32.ofNat y / Int32.ofNat (if lose = 0 then acts3 lab ack c false else acts5 lab ack c false).length * Int32.ofNat (if lose = 0 then acts3 lab ack c false else acts5 lab ack c false).length) 40 = true then (if inb (Int32.ofNat y - Int32.ofNat y / Int32.ofNat (if lose = 0 then acts3 lab ack c false else acts5 lab ack c false).length * Int32.ofNat (if lose = 0 then acts3 lab ack c false else acts5 lab ack c false).length) 40 = true then ((fX12_acts F (Int32.ofNat cap) (Int32.ofNat lab) (Int32.ofNat ack) (Int32.ofNat cop) m mq mf md y19 y20 y21 y22 A70 A71 A72 A73 (A' (Int32.ofNat y - Int32.ofNat y / Int32.ofNat (if lose = 0 then acts3 lab ack c false else acts5 lab ack c false).length * Int32.ofNat (if lose = 0 then acts3 lab ack c false else acts5 lab ack c false).length).toNatClampNeg) (B' (Int32.ofNat y - Int32.ofNat y / Int32.ofNat (if lose = 0 then acts3 lab ack c false else acts5 lab ack c false).length * Int32.ofNat (if lose = 0 then acts3 lab ack c false else acts5 lab ack c false).length).toNatClampNeg) (C' (Int32.ofNat y - Int32.ofNat y / Int32.ofNat (if lose = 0 then acts3 lab ack c false else acts5 lab ack c false).length * Int32.ofNat (if lose = 0 then acts3 lab ack c false else acts5 lab ack c false).length).toNatClampNeg)).bind (fun r11 => (if (fX12_isBad r11.1) = 0 then fX12_run_J95 F (Int32.ofNat cap) (Int32.ofNat lab) (Int32.ofNat ack) (Int32.ofNat cop) (Int32.ofNat n) lose (x * 1103515245 + 12345) bad (Int32.ofNat i) r11.2.1 r11.2.2.1 r11.2.2.2.1 r11.2.2.2.2.1 0 r11.2.2.2.2.2.1 r11.2.2.2.2.2.2.1 r11.2.2.2.2.2.2.2.1 r11.2.2.2.2.2.2.2.2.1 r11.2.2.2.2.2.2.2.2.2.1 r11.2.2.2.2.2.2.2.2.2.2.1 r11.2.2.2.2.2.2.2.2.2.2.2.1 r11.2.2.2.2.2.2.2.2.2.2.2.2 A' B' C' else fX12_run_J95 F (Int32.ofNat cap) (Int32.ofNat lab) (Int32.ofNat ack) (Int32.ofNat cop) (Int32.ofNat n) lose (x * 1103515245 + 12345) (bad + 1) (Int32.ofNat i) r11.2.1 r11.2.2.1 r11.2.2.2.1 r11.2.2.2.2.1 0 r11.2.2.2.2.2.1 r11.2.2.2.2.2.2.1 r11.2.2.2.2.2.2.2.1 r11.2.2.2.2.2.2.2.2.1 r11.2.2.2.2.2.2.2.2.2.1 r11.2.2.2.2.2.2.2.2.2.2.1 r11.2.2.2.2.2.2.2.2.2.2.2.1 r11.2.2.2.2.2.2.2.2.2.2.2.2 A' B' C'))) else none) else none) else none) else none) = some (.inr t') ∧ RI cap bad0 (i + 1) s' t' := by
    intro L hLd
    rw [← hLd] at hM ⊢
    have hL1 : 1 ≤ L.length ∧ L.length ≤ 10 := by rw [hLd]; split <;> omega
    rw [i32_rem (by omega) (by omega)]
    have hr : y % L.length < L.length := Nat.mod_lt _ (by omega)
    obtain ⟨z, hz⟩ : ∃ z, L[y % L.length]? = some z := ⟨L[y % L.length], List.getElem?_eq_getElem hr⟩
    have hz5 : (acts5 lab ack c false)[y % L.length]? = some z := by
      rw [hLd] at hz ⊢
      by_cases hl0 : lose = 0
      · rw [if_pos hl0] at hz ⊢; exact acts_pre _ _ _ _ hz
      · rw [if_neg hl0] at hz ⊢; exact hz
    have zm : z ∈ acts5 lab ack c false := List.mem_of_getElem? hz5
    have zt := acts5_told z zm
    have zo := acts5_ok lab ack c false z zm
    have zB : B (y % L.length) = codeN z.1 z.2.1 0 := by have this : B (y % L.length) = codeN z.1 z.2.1 z.2.2 := hB _ _ hz5; rw [zt] at this; exact this
    have zM := hM _ _ hz
    unfold fX11_run_J80
    rw [if_neg (fun q => by have := (i32_le (b := 0) (by omega) (by decide)).mp q; omega), if_pos (fun q => by have := (i32_eq (b := 0) (by omega) (by decide)).mp q; omega), ey, i32_rem (by omega) (by omega), cAt_nat (by omega) (by decide), zB]
    rw [if_pos (fun q => by have := (i32_eq (b := 0) (by omega) (by decide)).mp q; omega), if_pos (inb_t (by omega) (by omega)), if_pos (inb_t (by omega) (by omega)), if_pos (inb_t (by omega) (by omega)), tnc (by omega), zM.1, zM.2.1, zM.2.2]
    obtain ⟨X, Y, o, lp, ll, eX, eY, hXY, ho, ho6, hDT, hcnt⟩ := both_act hcap hlab hack hcop hD zo.1 (args_m _ _) (F := F) (by omega) y19 y20 y21 y22
    rw [eX, eY]
    simp only [Option.bind_some]
    have hs := cnt_bad A1 ho6 lp ll
    rw [← hcnt, hbad] at hs
    rw [← hXY, ho]
    by_cases hb : fX12_isBad (Int32.ofNat o) = 0
    · rw [if_pos hb]
      rw [if_pos hb, Int32.add_zero] at hs
      exact ⟨_, _, rfl, rfl, rfl, i32_succ i, i32_succ i, hDT, hs⟩
    · rw [if_neg hb]
      rw [if_neg hb, Int32.add_assoc bad0 bad 1] at hs
      exact ⟨_, _, rfl, rfl, rfl, i32_succ i, i32_succ i, hDT, hs⟩
  by_cases hl0 : lose = 0
  · rw [if_pos hl0]
    exact key (acts3 lab ack c false) (by rw [if_pos hl0])
  · rw [if_neg hl0]
    exact key (acts5 lab ack c false) (by rw [if_neg hl0])
theorem within_pos {p : Int32} {a b : Nat} (ha : a < 2 ^ 31) (hb : b < 2 ^ 31) : (fX12_within p (Int32.ofNat a) (Int32.ofNat b) = 0 ∧ (p < Int32.ofNat a ∨ ¬ p ≤ Int32.ofNat b)) ∨ (¬ fX12_within p (Int32.ofNat a) (Int32.ofNat b) = 0 ∧ ¬ p < Int32.ofNat a ∧ p ≤ Int32.ofNat b ∧ ∃ n, a ≤ n ∧ n ≤ b ∧ p = Int32.ofNat n) := by
  unfold fX12_within
  by_cases h : p < Int32.ofNat a
  · rw [if_pos h]; exact Or.inl ⟨rfl, Or.inl h⟩
  · rw [if_neg h]
    by_cases h2 : Int32.ofNat b < p
    · rw [if_pos h2]
      refine Or.inl ⟨rfl, Or.inr (fun z => ?_)⟩
      rw [Int32.lt_iff_toInt_lt] at h2; rw [Int32.le_iff_toInt_le] at z; omega
    · rw [if_neg h2]
      have h3 : p ≤ Int32.ofNat b := by
        rw [Int32.lt_iff_toInt_lt] at h2; rw [Int32.le_iff_toInt_le]; omega
      have h0 : ¬ p < 0 := by
        rw [Int32.lt_iff_toInt_lt, i32_int ha] at h; rw [Int32.lt_iff_toInt_lt]
        have : (0 : Int32).toInt = 0 := rfl
        omega
      obtain ⟨n, hn, rfl⟩ := i32_nn h0
      rw [i32_lt hn ha] at h
      rw [i32_le hn hb] at h3
      exact Or.inr ⟨by decide, fun z => by rw [i32_lt hn ha] at z; omega, by rw [i32_le hn hb]; exact h3, n, by omega, h3, rfl⟩
theorem run_eq {cap lab ack cop : Nat} {c : Int64} {qb qs s2 : Int32} {b2 : Int64} {s5 : Int32} {b5 : Int64} {A1 : Nat → Int32} {m : Int64} {mq mf md : Int32} {A70 A71 A72 A73 : Nat → Int32} (hcap : cap ≤ 2) (h1 : 1 ≤ lab) (hlab : lab ≤ 4) (hack : ack ≤ 7) (hcop : cop ≤ 4) (hD : DX cap c qb qs s2 b2 s5 b5 A1 m mq mf md A70 A71 A72 A73) {F : Nat} (hF : 300 ≤ F) (x81 x82 : Int32) (A10 : Nat → Int32) (x18 : Int32) (x19 : Int64) (x20 x21 x22 : Int32) (A76 A77 A78 : Nat → Int32) (p1 p2 p3 : Int32) : ∃ out c' qb' qs' s2' b2' s5' b5' x81' x82' A1' A10' m' mq' mf' md' y19 y20 y21 y22 A70' A71' A72' A73' A76' A77' A78', fX11_run F (Int32.ofNat cap) (Int32.ofNat lab) (Int32.ofNat ack) (Int32.ofNat cop) c qb qs s2 b2 s5 b5 x81 x82 A1 A10 p1 p2 p3 = some (out, c', qb', qs', s2', b2', s5', b5', x81', x82', A1', A10') ∧ fX12_run F (Int32.ofNat cap) (Int32.ofNat lab) (Int32.ofNat ack) (Int32.ofNat cop) m mq mf md x18 x19 x20 x21 x22 A70 A71 A72 A73 A76 A77 A78 p1 p2 p3 = some (out, m', mq', mf', md', 0, y19, y20, y21, y22, A70', A71', A72', A73', A76', A77', A78') ∧ DX cap c' qb' qs' s2' b2' s5' b5' A1' m' mq' mf' md' A70' A71' A72' A73' := by
  unfold fX11_run fX12_run
  rcases within_pos (p := p1) (a := 1) (b := 200) (by decide) (by decide) with ⟨w1, w2⟩ | ⟨w1, w2, w3, n, hn1, hn, rfl⟩
  · rw [show fX12_within p1 1 200 = 0 from w1, if_pos rfl]
    by_cases a : p1 < 1
    · rw [if_pos a]; exact ⟨_, _, _, _, _, _, _, _, _, _, _, _, _, _, _, _, _, _, _, _, _, _, _, _, _, _, _, rfl, rfl, hD⟩
    · rw [if_neg a, if_neg (show ¬ p1 ≤ 200 from w2.resolve_left a)]; exact ⟨_, _, _, _, _, _, _, _, _, _, _, _, _, _, _, _, _, _, _, _, _, _, _, _, _, _, _, rfl, rfl, hD⟩
  · rw [if_neg (show ¬ fX12_within (Int32.ofNat n) 1 200 = 0 from w1), if_neg (show ¬ Int32.ofNat n < 1 from w2), if_pos (show Int32.ofNat n ≤ 200 from w3)]
    unfold fX11_badOnes
    simp only [Option.bind_some]
    rw [show (2 : Int32).toNatClampNeg = 2 from tnc (n := 2) (by decide), show (3 : Int32).toNatClampNeg = 3 from tnc (n := 3) (by decide), n4]
    have hlast : ∀ (s : RS1) (t : RS2), RI cap (A1 2 + A1 3 + A1 4) n s t → ∃ r q, fX11_run_S26 F (Int32.ofNat cap) (Int32.ofNat lab) (Int32.ofNat ack) (Int32.ofNat cop) (Int32.ofNat n) p3 (A1 2 + A1 3 + A1 4) s.1 s.2.1 s.2.2.1 s.2.2.2.1 s.2.2.2.2.1 s.2.2.2.2.2.1 s.2.2.2.2.2.2.1 s.2.2.2.2.2.2.2.1 s.2.2.2.2.2.2.2.2.1 s.2.2.2.2.2.2.2.2.2.1 s.2.2.2.2.2.2.2.2.2.2.1 s.2.2.2.2.2.2.2.2.2.2.2.1 s.2.2.2.2.2.2.2.2.2.2.2.2 = some (.inl r) ∧ fX12_run_S27 F (Int32.ofNat cap) (Int32.ofNat lab) (Int32.ofNat ack) (Int32.ofNat cop) (Int32.ofNat n) p3 0 t.1 t.2.1 t.2.2.1 t.2.2.2.1 t.2.2.2.2.1 t.2.2.2.2.2.1 t.2.2.2.2.2.2.1 t.2.2.2.2.2.2.2.1 t.2.2.2.2.2.2.2.2.1 t.2.2.2.2.2.2.2.2.2.1 t.2.2.2.2.2.2.2.2.2.2.1 t.2.2.2.2.2.2.2.2.2.2.2.1 t.2.2.2.2.2.2.2.2.2.2.2.2.1 t.2.2.2.2.2.2.2.2.2.2.2.2.2.1 t.2.2.2.2.2.2.2.2.2.2.2.2.2.2.1 t.2.2.2.2.2.2.2.2.2.2.2.2.2.2.2.1 t.2.2.2.2.2.2.2.2.2.2.2.2.2.2.2.2.1 t.2.2.2.2.2.2.2.2.2.2.2.2.2.2.2.2.2 = some (.inl q) ∧ (DX cap r.1 r.2.1 r.2.2.1 r.2.2.2.1 r.2.2.2.2.1 r.2.2.2.2.2.1 r.2.2.2.2.2.2.1 r.2.2.2.2.2.2.2.2.2.1 q.2.1 q.2.2.1 q.2.2.2.1 q.2.2.2.2.1 q.2.2.2.2.2.2.2.2.2.1 q.2.2.2.2.2.2.2.2.2.2.1 q.2.2.2.2.2.2.2.2.2.2.2.1 q.2.2.2.2.2.2.2.2.2.2.2.2.1 ∧ r.2.2.2.2.2.2.2.2.2.1 2 + r.2.2.2.2.2.2.2.2.2.1 3 + r.2.2.2.2.2.2.2.2.2.1 4 = (A1 2 + A1 3 + A1 4) + q.1) := by
      rintro ⟨x, v6, c, qb, qs, s2, b2, s5, b5, x81, x82, A1, A10⟩ ⟨x', bad, w6, m, mq, mf, md, y19, y20, y21, y22, A70, A71, A72, A73, A76, A77, A78⟩ ⟨g1, g2, g3, hD, hbad⟩
      dsimp only at g1 g2 g3 hD hbad ⊢
      subst g1 g2 g3
      unfold fX11_run_S26 fX12_run_S27
      rw [if_pos ((i32_le (by omega) (by omega)).mpr (by omega)), if_pos ((i32_le (by omega) (by omega)).mpr (by omega))]
      exact ⟨_, _, rfl, rfl, hD, hbad⟩
    have key := gl_two (st1 := fun u4 : RS1 => fX11_run_S26 F (Int32.ofNat cap) (Int32.ofNat lab) (Int32.ofNat ack) (Int32.ofNat cop) (Int32.ofNat n) p3 (A1 2 + A1 3 + A1 4) u4.1 u4.2.1 u4.2.2.1 u4.2.2.2.1 u4.2.2.2.2.1 u4.2.2.2.2.2.1 u4.2.2.2.2.2.2.1 u4.2.2.2.2.2.2.2.1 u4.2.2.2.2.2.2.2.2.1 u4.2.2.2.2.2.2.2.2.2.1 u4.2.2.2.2.2.2.2.2.2.2.1 u4.2.2.2.2.2.2.2.2.2.2.2.1 u4.2.2.2.2.2.2.2.2.2.2.2.2)
      (st2 := fun u4 : RS2 => fX12_run_S27 F (Int32.ofNat cap) (Int32.ofNat lab) (Int32.ofNat ack) (Int32.ofNat cop) (Int32.ofNat n) p3 0 u4.1 u4.2.1 u4.2.2.1 u4.2.2.2.1 u4.2.2.2.2.1 u4.2.2.2.2.2.1 u4.2.2.2.2.2.2.1 u4.2.2.2.2.2.2.2.1 u4.2.2.2.2.2.2.2.2.1 u4.2.2.2.2.2.2.2.2.2.1 u4.2.2.2.2.2.2.2.2.2.2.1 u4.2.2.2.2.2.2.2.2.2.2.2.1 u4.2.2.2.2.2.2.2.2.2.2.2.2.1 u4.2.2.2.2.2.2.2.2.2.2.2.2.2.1 u4.2.2.2.2.2.2.2.2.2.2.2.2.2.2.1 u4.2.2.2.2.2.2.2.2.2.2.2.2.2.2.2.1 u4.2.2.2.2.2.2.2.2.2.2.2.2.2.2.2.2.1 u4.2.2.2.2.2.2.2.2.2.2.2.2.2.2.2.2.2)
      (RI cap (A1 2 + A1 3 + A1 4))
      (fun r q => DX cap r.1 r.2.1 r.2.2.1 r.2.2.2.1 r.2.2.2.2.1 r.2.2.2.2.2.1 r.2.2.2.2.2.2.1 r.2.2.2.2.2.2.2.2.2.1 q.2.1 q.2.2.1 q.2.2.2.1 q.2.2.2.2.1 q.2.2.2.2.2.2.2.2.2.1 q.2.2.2.2.2.2.2.2.2.2.1 q.2.2.2.2.2.2.2.2.2.2.2.1 q.2.2.2.2.2.2.2.2.2.2.2.2.1 ∧ r.2.2.2.2.2.2.2.2.2.1 2 + r.2.2.2.2.2.2.2.2.2.1 3 + r.2.2.2.2.2.2.2.2.2.1 4 = (A1 2 + A1 3 + A1 4) + q.1)
      n (fun i s t hi h => run_step hcap h1 hlab hack hcop hn p3 _ hF hi s t h) hlast F 0 (p2, 0, c, qb, qs, s2, b2, s5, b5, x81, x82, A1, A10) (p2, 0, 0, m, mq, mf, md, x19, x20, x21, x22, A70, A71, A72, A73, A76, A77, A78) (by omega) ⟨rfl, rfl, rfl, hD, (Int32.add_zero _).symm⟩ (by omega)
    obtain ⟨r, q, e1, e2, hQ⟩ := key
    rw [e1, e2]
    simp only [Option.bind_some]
    rw [hQ.2, Int32.add_comm _ q.1, Int32.add_sub_cancel]
    exact ⟨_, _, _, _, _, _, _, _, _, _, _, _, _, _, _, _, _, _, _, _, _, _, _, _, _, _, _, rfl, rfl, hQ.1⟩
