/-! 09.atlas (by program): the pure function of each method, its rows, its contract -/
-- HealLink$Atlas.stateAt (I)J
def fX1_stateAt (A38 : Nat → Int64) (p1 : Int32) : Option (Int64) := (if p1 < 0 then some 0 else (if 6000 ≤ p1 then some 0 else (if inb p1 6000 = true then some (A38 p1.toNatClampNeg) else none)))
theorem dX1_stateAt_0 : decode cX1_stateAt 0 = .ok (.iload_n 1, 1) := by decide +kernel
theorem dX1_stateAt_1 : decode cX1_stateAt 1 = .ok (.ifCond .lt 21, 3) := by decide +kernel
theorem dX1_stateAt_4 : decode cX1_stateAt 4 = .ok (.iload_n 1, 1) := by decide +kernel
theorem dX1_stateAt_5 : decode cX1_stateAt 5 = .ok (.aload_n 0, 1) := by decide +kernel
theorem dX1_stateAt_6 : decode cX1_stateAt 6 = .ok (.getfield 34, 3) := by decide +kernel
theorem dX1_stateAt_9 : decode cX1_stateAt 9 = .ok (.arraylength, 1) := by decide +kernel
theorem dX1_stateAt_10 : decode cX1_stateAt 10 = .ok (.if_icmp .ge 12, 3) := by decide +kernel
theorem dX1_stateAt_13 : decode cX1_stateAt 13 = .ok (.aload_n 0, 1) := by decide +kernel
theorem dX1_stateAt_14 : decode cX1_stateAt 14 = .ok (.getfield 34, 3) := by decide +kernel
theorem dX1_stateAt_17 : decode cX1_stateAt 17 = .ok (.iload_n 1, 1) := by decide +kernel
theorem dX1_stateAt_18 : decode cX1_stateAt 18 = .ok (.laload, 1) := by decide +kernel
theorem dX1_stateAt_19 : decode cX1_stateAt 19 = .ok (.goto 4, 3) := by decide +kernel
theorem dX1_stateAt_22 : decode cX1_stateAt 22 = .ok (.lconst 0, 1) := by decide +kernel
theorem dX1_stateAt_23 : decode cX1_stateAt 23 = .ok (.lreturn, 1) := by decide +kernel
set_option maxHeartbeats 4000000 in
set_option maxRecDepth 100000 in
theorem kX1_stateAt {l : Launch} {D : va_G} {cy : Nat → ClassId} {N : Nat} {q : Nat → Nat} {m0 : Nat → Value} {a0 : Nat → vp_A} {sz : Nat} (hN : 105 ≤ N) (hsh : SH q m0) {A38 : Nat → Int64} (h_A38 : a0 38 = (6000, .inr (.inl A38))) (p1 : Int32) {X0 : Int64} (hs0 : fX1_stateAt A38 p1 = some X0) : gMl l yX1_stateAt cX1_stateAt 2 (some .long) ({ frames := 0, cells := 0, slots := 0, locals := 0 } : Room) D cy N q m0 a0 sz [.ref (q 28), .int p1] (fun r m' a' => r = X0 ∧ m' = m0 ∧ a' = a0) := by
  refine g_ofl (by decide) (Nat.le_of_ble_eq_true rfl) ?_
  intro p e s M args below meth c hx hb hr hG hown hin hlocks hml hW hS ls hl
  unfold fX1_stateAt at hs0
  refine lv_iload_n hx hb dX1_stateAt_0 rfl (lv_at hl 1 rfl) ?_
  refine lv_if_lt (tgt := 22) hx hb dX1_stateAt_1 (by decide) (fun c1 => ?_) (fun c1 => ?_)
  · rw [if_pos c1] at hs0
    refine lv_lconst (v := 0) hx hb dX1_stateAt_22 (by decide) ?_
    have hs0 := Option.some.inj hs0
    subst hs0
    exact W.lret hx hb hr (fun t ht hw => ⟨⟨_, (m0, a0), rfl, ⟨rfl, rfl, rfl⟩, g_end hW ht hw⟩, hS.F ht⟩) hS.2.2 dX1_stateAt_23 hlocks
  · rw [if_neg c1] at hs0
    refine lv_iload_n hx hb dX1_stateAt_4 rfl (lv_at hl 1 rfl) ?_
    refine lv_aload_n hx hb dX1_stateAt_5 rfl (lv_at hl 0 rfl) ?_
    refine gf1_6 hx hb hG hown hW (o := 28) (ltN hN 28 rfl) gk28 (v := .ref (q 38)) (sh28_6 hsh) gx115 dX1_stateAt_6 ?_
    refine g_alen hx hb hW (o := 38) (t := 2) (ltN hN 38 rfl) gk38 (by decide) h_A38 (v := 6000) rfl dX1_stateAt_9 ?_
    refine lv_icmp_ge (tgt := 22) hx hb dX1_stateAt_10 (by decide) (fun c2 => ?_) (fun c2 => ?_)
    · rw [if_pos c2] at hs0
      refine lv_lconst (v := 0) hx hb dX1_stateAt_22 (by decide) ?_
      have hs0 := Option.some.inj hs0
      subst hs0
      exact W.lret hx hb hr (fun t ht hw => ⟨⟨_, (m0, a0), rfl, ⟨rfl, rfl, rfl⟩, g_end hW ht hw⟩, hS.F ht⟩) hS.2.2 dX1_stateAt_23 hlocks
    · rw [if_neg c2] at hs0
      refine lv_aload_n hx hb dX1_stateAt_13 rfl (lv_at hl 0 rfl) ?_
      refine gf1_6 hx hb hG hown hW (o := 28) (ltN hN 28 rfl) gk28 (v := .ref (q 38)) (sh28_6 hsh) gx115 dX1_stateAt_14 ?_
      refine lv_iload_n hx hb dX1_stateAt_17 rfl (lv_at hl 1 rfl) ?_
      obtain ⟨hi3, hs0⟩ := oif hs0
      refine g_lald hx hb hW (o := 38) (ltN hN 38 rfl) gk38 h_A38 (vin hi3) dX1_stateAt_18 ?_
      refine lv_goto (tgt := 23) hx hb dX1_stateAt_19 (by decide) ?_
      have hs0 := Option.some.inj hs0
      subst hs0
      exact W.lret hx hb hr (fun t ht hw => ⟨⟨_, (m0, a0), rfl, ⟨rfl, rfl, rfl⟩, g_end hW ht hw⟩, hS.F ht⟩) hS.2.2 dX1_stateAt_23 hlocks
-- HealLink$Atlas.targetOf (I)I
def fX1_targetOf (A35 : Nat → Int32) (p1 : Int32) : Int32 := (cAt 60000 A35 p1) >>> (2 &&& 31)
theorem dX1_targetOf_0 : decode cX1_targetOf 0 = .ok (.aload_n 0, 1) := by decide +kernel
theorem dX1_targetOf_1 : decode cX1_targetOf 1 = .ok (.getfield 28, 3) := by decide +kernel
theorem dX1_targetOf_4 : decode cX1_targetOf 4 = .ok (.iload_n 1, 1) := by decide +kernel
theorem dX1_targetOf_5 : decode cX1_targetOf 5 = .ok (.invokevirtual 61, 3) := by decide +kernel
theorem dX1_targetOf_8 : decode cX1_targetOf 8 = .ok (.iconst 2, 1) := by decide +kernel
theorem dX1_targetOf_9 : decode cX1_targetOf 9 = .ok (.ishr, 1) := by decide +kernel
theorem dX1_targetOf_10 : decode cX1_targetOf 10 = .ok (.ireturn, 1) := by decide +kernel
set_option maxHeartbeats 4000000 in
set_option maxRecDepth 100000 in
theorem kX1_targetOf {l : Launch} {D : va_G} {cy : Nat → ClassId} {N : Nat} {q : Nat → Nat} {m0 : Nat → Value} {a0 : Nat → vp_A} {sz : Nat} (hN : 105 ≤ N) (hsh : SH q m0) {A35 : Nat → Int32} (h_A35 : a0 35 = (60000, .inl A35)) (p1 : Int32) : gMi l yX1_targetOf cX1_targetOf 2 (some .int) ({ frames := 1, cells := 0, slots := 0, locals := 21 } : Room) D cy N q m0 a0 sz [.ref (q 28), .int p1] (fun r m' a' => r = (fX1_targetOf A35 p1) ∧ m' = m0 ∧ a' = a0) := by
  generalize hs0 : fX1_targetOf A35 p1 = X0
  refine g_ofi (by decide) (Nat.le_of_ble_eq_true rfl) ?_
  intro p e s M args below meth c hx hb hr hG hown hin hlocks hml hW hS ls hl
  unfold fX1_targetOf at hs0
  refine lv_aload_n hx hb dX1_targetOf_0 rfl (lv_at hl 0 rfl) ?_
  refine gf1_4 hx hb hG hown hW (o := 28) (ltN hN 28 rfl) gk28 (v := .ref (q 34)) (sh28_4 hsh) gx113 dX1_targetOf_1 ?_
  refine lv_iload_n hx hb dX1_targetOf_4 rfl (lv_at hl 1 rfl) ?_
  refine g_ViR (n := 1) hx hb hml hown hG hW hS [.int p1] (kX2_at (ltN hN 34 rfl) gk34 (ltN hN 35 rfl) gk35 (sh34_0 hsh) (by decide) h_A35 p1) (ltN hN 34 rfl) gk34 (by decide) rfl rfl (gd_V gx687 gx564 gx565 gx47 gx566) rfl rfl (by decide) ⟨Nat.le_of_ble_eq_true rfl, Nat.le_of_ble_eq_true rfl⟩ rfl hl (Nat.le_of_ble_eq_true rfl) ⟨Nat.zero_le _, Nat.zero_le _⟩ dX1_targetOf_5 (fun H locs hW hS => ?_)
  refine lv_iconst (v := 2) hx hb dX1_targetOf_8 (by decide) ?_
  refine lv_ishr hx hb dX1_targetOf_9 ?_
  subst hs0
  exact W.zret hx hb hr rfl (fun t ht hw => ⟨⟨_, (m0, a0), rfl, ⟨rfl, rfl, rfl⟩, g_end hW ht hw⟩, hS.F ht⟩) hS.2.2 dX1_targetOf_10 hlocks
-- HealLink$Atlas.hasMark (II)Z
def fX1_hasMark (A35 : Nat → Int32) (p1 : Int32) (p2 : Int32) : Int32 := (if ((cAt 60000 A35 p1) &&& p2) = 0 then 0 else 1)
theorem dX1_hasMark_0 : decode cX1_hasMark 0 = .ok (.aload_n 0, 1) := by decide +kernel
theorem dX1_hasMark_1 : decode cX1_hasMark 1 = .ok (.getfield 28, 3) := by decide +kernel
theorem dX1_hasMark_4 : decode cX1_hasMark 4 = .ok (.iload_n 1, 1) := by decide +kernel
theorem dX1_hasMark_5 : decode cX1_hasMark 5 = .ok (.invokevirtual 61, 3) := by decide +kernel
theorem dX1_hasMark_8 : decode cX1_hasMark 8 = .ok (.iload_n 2, 1) := by decide +kernel
theorem dX1_hasMark_9 : decode cX1_hasMark 9 = .ok (.iand, 1) := by decide +kernel
theorem dX1_hasMark_10 : decode cX1_hasMark 10 = .ok (.ifCond .eq 7, 3) := by decide +kernel
theorem dX1_hasMark_13 : decode cX1_hasMark 13 = .ok (.iconst 1, 1) := by decide +kernel
theorem dX1_hasMark_14 : decode cX1_hasMark 14 = .ok (.goto 4, 3) := by decide +kernel
theorem dX1_hasMark_17 : decode cX1_hasMark 17 = .ok (.iconst 0, 1) := by decide +kernel
theorem dX1_hasMark_18 : decode cX1_hasMark 18 = .ok (.ireturn, 1) := by decide +kernel
set_option maxHeartbeats 4000000 in
set_option maxRecDepth 100000 in
theorem kX1_hasMark {l : Launch} {D : va_G} {cy : Nat → ClassId} {N : Nat} {q : Nat → Nat} {m0 : Nat → Value} {a0 : Nat → vp_A} {sz : Nat} (hN : 105 ≤ N) (hsh : SH q m0) {A35 : Nat → Int32} (h_A35 : a0 35 = (60000, .inl A35)) (p1 : Int32) (p2 : Int32) : gMi l yX1_hasMark cX1_hasMark 3 (some .boolean) ({ frames := 1, cells := 0, slots := 0, locals := 21 } : Room) D cy N q m0 a0 sz [.ref (q 28), .int p1, .int p2] (fun r m' a' => r = (fX1_hasMark A35 p1 p2) ∧ m' = m0 ∧ a' = a0) := by
  generalize hs0 : fX1_hasMark A35 p1 p2 = X0
  refine g_ofi (by decide) (Nat.le_of_ble_eq_true rfl) ?_
  intro p e s M args below meth c hx hb hr hG hown hin hlocks hml hW hS ls hl
  unfold fX1_hasMark at hs0
  refine lv_aload_n hx hb dX1_hasMark_0 rfl (lv_at hl 0 rfl) ?_
  refine gf1_4 hx hb hG hown hW (o := 28) (ltN hN 28 rfl) gk28 (v := .ref (q 34)) (sh28_4 hsh) gx113 dX1_hasMark_1 ?_
  refine lv_iload_n hx hb dX1_hasMark_4 rfl (lv_at hl 1 rfl) ?_
  refine g_ViR (n := 1) hx hb hml hown hG hW hS [.int p1] (kX2_at (ltN hN 34 rfl) gk34 (ltN hN 35 rfl) gk35 (sh34_0 hsh) (by decide) h_A35 p1) (ltN hN 34 rfl) gk34 (by decide) rfl rfl (gd_V gx687 gx564 gx565 gx47 gx566) rfl rfl (by decide) ⟨Nat.le_of_ble_eq_true rfl, Nat.le_of_ble_eq_true rfl⟩ rfl hl (Nat.le_of_ble_eq_true rfl) ⟨Nat.zero_le _, Nat.zero_le _⟩ dX1_hasMark_5 (fun H locs hW hS => ?_)
  refine lv_iload_n hx hb dX1_hasMark_8 rfl (lv_at hl 2 rfl) ?_
  refine lv_iand hx hb dX1_hasMark_9 ?_
  refine lv_if_eq (tgt := 17) hx hb dX1_hasMark_10 (by decide) (fun c2 => ?_) (fun c2 => ?_)
  · rw [if_pos c2] at hs0
    refine lv_iconst (v := 0) hx hb dX1_hasMark_17 (by decide) ?_
    subst hs0
    exact W.zret hx hb hr rfl (fun t ht hw => ⟨⟨_, (m0, a0), rfl, ⟨rfl, rfl, rfl⟩, g_end hW ht hw⟩, hS.F ht⟩) hS.2.2 dX1_hasMark_18 hlocks
  · rw [if_neg c2] at hs0
    refine lv_iconst (v := 1) hx hb dX1_hasMark_13 (by decide) ?_
    refine lv_goto (tgt := 18) hx hb dX1_hasMark_14 (by decide) ?_
    subst hs0
    exact W.zret hx hb hr rfl (fun t ht hw => ⟨⟨_, (m0, a0), rfl, ⟨rfl, rfl, rfl⟩, g_end hW ht hw⟩, hS.F ht⟩) hS.2.2 dX1_hasMark_18 hlocks
-- HealLink$Atlas.clear ()V
def fX1_clear (x28_2 : Int32) (A30 : Nat → Int32) (A37 : Nat → Int32) : Int32 × (Nat → Int32) × (Nat → Int32) := (0, (cPut 6001 A30 0 0), (cFill 16384 A37 0))
theorem dX1_clear_0 : decode cX1_clear 0 = .ok (.aload_n 0, 1) := by decide +kernel
theorem dX1_clear_1 : decode cX1_clear 1 = .ok (.iconst 0, 1) := by decide +kernel
theorem dX1_clear_2 : decode cX1_clear 2 = .ok (.putfield 65, 3) := by decide +kernel
theorem dX1_clear_5 : decode cX1_clear 5 = .ok (.aload_n 0, 1) := by decide +kernel
theorem dX1_clear_6 : decode cX1_clear 6 = .ok (.getfield 14, 3) := by decide +kernel
theorem dX1_clear_9 : decode cX1_clear 9 = .ok (.iconst 0, 1) := by decide +kernel
theorem dX1_clear_10 : decode cX1_clear 10 = .ok (.iconst 0, 1) := by decide +kernel
theorem dX1_clear_11 : decode cX1_clear 11 = .ok (.invokevirtual 69, 3) := by decide +kernel
theorem dX1_clear_14 : decode cX1_clear 14 = .ok (.aload_n 0, 1) := by decide +kernel
theorem dX1_clear_15 : decode cX1_clear 15 = .ok (.getfield 31, 3) := by decide +kernel
theorem dX1_clear_18 : decode cX1_clear 18 = .ok (.iconst 0, 1) := by decide +kernel
theorem dX1_clear_19 : decode cX1_clear 19 = .ok (.invokevirtual 73, 3) := by decide +kernel
theorem dX1_clear_22 : decode cX1_clear 22 = .ok (.return_, 1) := by decide +kernel
set_option maxHeartbeats 4000000 in
set_option maxRecDepth 100000 in
theorem kX1_clear {l : Launch} {D : va_G} {cy : Nat → ClassId} {N : Nat} {q : Nat → Nat} {m0 : Nat → Value} {a0 : Nat → vp_A} {sz : Nat} (hN : 105 ≤ N) (hsh : SH q m0) {x28_2 : Int32} (h_x28_2 : m0 2802 = .int x28_2) {A30 : Nat → Int32} (h_A30 : a0 30 = (6001, .inl A30)) {A37 : Nat → Int32} (h_A37 : a0 37 = (16384, .inl A37)) : gMv l yX1_clear cX1_clear 1 none ({ frames := 2, cells := 0, slots := 0, locals := 44 } : Room) D cy N q m0 a0 sz [.ref (q 28)] (fun m' a' => m' 2802 = .int ((fX1_clear x28_2 A30 A37).1) ∧ (∀ j, nel j [2802] = false → m' j = m0 j) ∧ a' 30 = (6001, .inl ((fX1_clear x28_2 A30 A37).2.1)) ∧ a' 37 = (16384, .inl ((fX1_clear x28_2 A30 A37).2.2)) ∧ (∀ j, nel j [30, 37] = false → a' j = a0 j)) := by
  generalize hs0 : fX1_clear x28_2 A30 A37 = X0
  refine g_ofv (by decide) (Nat.le_of_ble_eq_true rfl) ?_
  intro p e s M args below meth c hx hb hr hG hown hin hlocks hml hW hS ls hl
  unfold fX1_clear at hs0
  have hoff : ∀ j, nel j [2802] = false → m0 j = m0 j := off0
  have hoffa : ∀ j, nel j [30, 37] = false → a0 j = a0 j := off0
  refine lv_aload_n hx hb dX1_clear_0 rfl (lv_at hl 0 rfl) ?_
  refine lv_iconst (v := 0) hx hb dX1_clear_1 (by decide) ?_
  refine gp1_2 hx hb hG hown hW hS (o := 28) (ltN hN 28 rfl) gk28 (v := 0) gx675 dX1_clear_2 (fun m1 H locs hm1 ho1 hW hS => ?_)
  have ho1 := off1 ho1
  have w_x28_2 : m1 2802 = .int 0 := hm1
  have hoff := offm hoff ho1 (by decide +kernel)
  have hsh := SH.off hsh ho1 (by decide +kernel)
  refine lv_aload_n hx hb dX1_clear_5 rfl (lv_at hl 0 rfl) ?_
  refine gf1_0 hx hb hG hown hW (o := 28) (ltN hN 28 rfl) gk28 (v := .ref (q 29)) (sh28_0 hsh) gx109 dX1_clear_6 ?_
  refine lv_iconst (v := 0) hx hb dX1_clear_9 (by decide) ?_
  refine lv_iconst (v := 0) hx hb dX1_clear_10 (by decide) ?_
  refine g_Vv (n := 2) hx hb hml hown hG hW hS [.int 0, .int 0] (kX2_put (ltN hN 29 rfl) gk29 (ltN hN 30 rfl) gk30 (sh29_0 hsh) (by decide) h_A30 0 0) (ltN hN 29 rfl) gk29 (by decide) rfl rfl (gd_V gx676 gx551 gx552 gx47 gx553) rfl rfl (by decide) ⟨Nat.le_of_ble_eq_true rfl, Nat.le_of_ble_eq_true rfl⟩ rfl hl (Nat.le_of_ble_eq_true rfl) ⟨Nat.zero_le _, Nat.zero_le _⟩ dX1_clear_11 (fun m2 a2 H locs hp2 hW hS => ?_)
  obtain ⟨hm2, hp2_A30, hoa2⟩ := hp2
  rw [hm2] at hW
  have w_A30 : a2 30 = (6001, .inl (cPut 6001 A30 0 0)) := hp2_A30
  have w_A37 : a2 37 = (16384, .inl A37) := (hoa2 37 rfl).trans h_A37
  have hoffa := offm hoffa hoa2 (by decide +kernel)
  refine lv_aload_n hx hb dX1_clear_14 rfl (lv_at hl 0 rfl) ?_
  refine gf1_5 hx hb hG hown hW (o := 28) (ltN hN 28 rfl) gk28 (v := .ref (q 36)) (sh28_5 hsh) gx114 dX1_clear_15 ?_
  refine lv_iconst (v := 0) hx hb dX1_clear_18 (by decide) ?_
  refine g_Vv (n := 1) hx hb hml hown hG hW hS [.int 0] (kX2_fill (ltN hN 36 rfl) gk36 (ltN hN 37 rfl) gk37 (sh36_0 hsh) (by decide) w_A37 0) (ltN hN 36 rfl) gk36 (by decide) rfl rfl (gd_V gx677 gx678 gx679 gx47 gx680) rfl rfl (by decide) ⟨Nat.le_of_ble_eq_true rfl, Nat.le_of_ble_eq_true rfl⟩ rfl hl (Nat.le_of_ble_eq_true rfl) ⟨Nat.zero_le _, Nat.zero_le _⟩ dX1_clear_19 (fun m3 a3 H locs hp3 hW hS => ?_)
  obtain ⟨hm3, hp3_A37, hoa3⟩ := hp3
  rw [hm3] at hW
  have w_A30 : a3 30 = (6001, .inl (cPut 6001 A30 0 0)) := (hoa3 30 rfl).trans w_A30
  have w_A37 : a3 37 = (16384, .inl (cFill 16384 A37 0)) := hp3_A37
  have hoffa := offm hoffa hoa3 (by decide +kernel)
  subst hs0
  exact W.vret hx hb hr (fun t ht hw => ⟨⟨(m1, a3), rfl, ⟨w_x28_2, hoff, w_A30, w_A37, hoffa⟩, g_end hW ht hw⟩, hS.F ht⟩) hS.2.2 dX1_clear_22 hlocks
-- HealLink$Atlas.append (JI)I
def fX1_append (x28_2 : Int32) (A37 : Nat → Int32) (A38 : Nat → Int64) (p1 : Int64) (p3 : Int32) : Option (Int32 × Int32 × (Nat → Int32) × (Nat → Int64)) := (if x28_2 < 0 then some ((-1), x28_2, A37, A38) else (if x28_2 < 6000 then (if inb x28_2 6000 = true then some ((x28_2 + 1) - 1, x28_2 + 1, (cPut 16384 A37 p3 (x28_2 + 1)), vp_updL A38 x28_2.toNatClampNeg p1) else none) else some ((-1), x28_2, A37, A38)))
theorem dX1_append_0 : decode cX1_append 0 = .ok (.aload_n 0, 1) := by decide +kernel
theorem dX1_append_1 : decode cX1_append 1 = .ok (.getfield 65, 3) := by decide +kernel
theorem dX1_append_4 : decode cX1_append 4 = .ok (.ifCond .lt 15, 3) := by decide +kernel
theorem dX1_append_7 : decode cX1_append 7 = .ok (.aload_n 0, 1) := by decide +kernel
theorem dX1_append_8 : decode cX1_append 8 = .ok (.getfield 65, 3) := by decide +kernel
theorem dX1_append_11 : decode cX1_append 11 = .ok (.aload_n 0, 1) := by decide +kernel
theorem dX1_append_12 : decode cX1_append 12 = .ok (.getfield 34, 3) := by decide +kernel
theorem dX1_append_15 : decode cX1_append 15 = .ok (.arraylength, 1) := by decide +kernel
theorem dX1_append_16 : decode cX1_append 16 = .ok (.if_icmp .lt 5, 3) := by decide +kernel
theorem dX1_append_19 : decode cX1_append 19 = .ok (.iconst (-1), 1) := by decide +kernel
theorem dX1_append_20 : decode cX1_append 20 = .ok (.ireturn, 1) := by decide +kernel
theorem dX1_append_21 : decode cX1_append 21 = .ok (.aload_n 0, 1) := by decide +kernel
theorem dX1_append_22 : decode cX1_append 22 = .ok (.getfield 34, 3) := by decide +kernel
theorem dX1_append_25 : decode cX1_append 25 = .ok (.aload_n 0, 1) := by decide +kernel
theorem dX1_append_26 : decode cX1_append 26 = .ok (.getfield 65, 3) := by decide +kernel
theorem dX1_append_29 : decode cX1_append 29 = .ok (.lload_n 1, 1) := by decide +kernel
theorem dX1_append_30 : decode cX1_append 30 = .ok (.lastore, 1) := by decide +kernel
theorem dX1_append_31 : decode cX1_append 31 = .ok (.aload_n 0, 1) := by decide +kernel
theorem dX1_append_32 : decode cX1_append 32 = .ok (.dup, 1) := by decide +kernel
theorem dX1_append_33 : decode cX1_append 33 = .ok (.getfield 65, 3) := by decide +kernel
theorem dX1_append_36 : decode cX1_append 36 = .ok (.iconst 1, 1) := by decide +kernel
theorem dX1_append_37 : decode cX1_append 37 = .ok (.iadd, 1) := by decide +kernel
theorem dX1_append_38 : decode cX1_append 38 = .ok (.putfield 65, 3) := by decide +kernel
theorem dX1_append_41 : decode cX1_append 41 = .ok (.aload_n 0, 1) := by decide +kernel
theorem dX1_append_42 : decode cX1_append 42 = .ok (.getfield 31, 3) := by decide +kernel
theorem dX1_append_45 : decode cX1_append 45 = .ok (.iload_n 3, 1) := by decide +kernel
theorem dX1_append_46 : decode cX1_append 46 = .ok (.aload_n 0, 1) := by decide +kernel
theorem dX1_append_47 : decode cX1_append 47 = .ok (.getfield 65, 3) := by decide +kernel
theorem dX1_append_50 : decode cX1_append 50 = .ok (.invokevirtual 69, 3) := by decide +kernel
theorem dX1_append_53 : decode cX1_append 53 = .ok (.aload_n 0, 1) := by decide +kernel
theorem dX1_append_54 : decode cX1_append 54 = .ok (.getfield 65, 3) := by decide +kernel
theorem dX1_append_57 : decode cX1_append 57 = .ok (.iconst 1, 1) := by decide +kernel
theorem dX1_append_58 : decode cX1_append 58 = .ok (.isub, 1) := by decide +kernel
theorem dX1_append_59 : decode cX1_append 59 = .ok (.ireturn, 1) := by decide +kernel
set_option maxHeartbeats 4000000 in
set_option maxRecDepth 100000 in
theorem kX1_append {l : Launch} {D : va_G} {cy : Nat → ClassId} {N : Nat} {q : Nat → Nat} {m0 : Nat → Value} {a0 : Nat → vp_A} {sz : Nat} (hN : 105 ≤ N) (hsh : SH q m0) {x28_2 : Int32} (h_x28_2 : m0 2802 = .int x28_2) {A37 : Nat → Int32} (h_A37 : a0 37 = (16384, .inl A37)) {A38 : Nat → Int64} (h_A38 : a0 38 = (6000, .inr (.inl A38))) (p1 : Int64) (p3 : Int32) {X0 : Int32 × Int32 × (Nat → Int32) × (Nat → Int64)} (hs0 : fX1_append x28_2 A37 A38 p1 p3 = some X0) : gMi l yX1_append cX1_append 4 (some .int) ({ frames := 1, cells := 0, slots := 0, locals := 22 } : Room) D cy N q m0 a0 sz [.ref (q 28), .long p1, .int p3] (fun r m' a' => r = X0.1 ∧ m' 2802 = .int X0.2.1 ∧ (∀ j, nel j [2802] = false → m' j = m0 j) ∧ a' 37 = (16384, .inl X0.2.2.1) ∧ a' 38 = (6000, .inr (.inl X0.2.2.2)) ∧ (∀ j, nel j [37, 38] = false → a' j = a0 j)) := by
  refine g_ofi (by decide) (Nat.le_of_ble_eq_true rfl) ?_
  intro p e s M args below meth c hx hb hr hG hown hin hlocks hml hW hS ls hl
  unfold fX1_append at hs0
  have hoff : ∀ j, nel j [2802] = false → m0 j = m0 j := off0
  have hoffa : ∀ j, nel j [37, 38] = false → a0 j = a0 j := off0
  refine lv_aload_n hx hb dX1_append_0 rfl (lv_at hl 0 rfl) ?_
  refine gf1_2 hx hb hG hown hW (o := 28) (ltN hN 28 rfl) gk28 (v := .int x28_2) h_x28_2 gx675 dX1_append_1 ?_
  refine lv_if_lt (tgt := 19) hx hb dX1_append_4 (by decide) (fun c1 => ?_) (fun c1 => ?_)
  · rw [if_pos c1] at hs0
    refine lv_iconst (v := (-1)) hx hb dX1_append_19 (by decide) ?_
    have hs0 := Option.some.inj hs0
    subst hs0
    exact W.zret hx hb hr rfl (fun t ht hw => ⟨⟨_, (m0, a0), rfl, ⟨rfl, h_x28_2, hoff, h_A37, h_A38, hoffa⟩, g_end hW ht hw⟩, hS.F ht⟩) hS.2.2 dX1_append_20 hlocks
  · rw [if_neg c1] at hs0
    refine lv_aload_n hx hb dX1_append_7 rfl (lv_at hl 0 rfl) ?_
    refine gf1_2 hx hb hG hown hW (o := 28) (ltN hN 28 rfl) gk28 (v := .int x28_2) h_x28_2 gx675 dX1_append_8 ?_
    refine lv_aload_n hx hb dX1_append_11 rfl (lv_at hl 0 rfl) ?_
    refine gf1_6 hx hb hG hown hW (o := 28) (ltN hN 28 rfl) gk28 (v := .ref (q 38)) (sh28_6 hsh) gx115 dX1_append_12 ?_
    refine g_alen hx hb hW (o := 38) (t := 2) (ltN hN 38 rfl) gk38 (by decide) h_A38 (v := 6000) rfl dX1_append_15 ?_
    refine lv_icmp_lt (tgt := 21) hx hb dX1_append_16 (by decide) (fun c2 => ?_) (fun c2 => ?_)
    · rw [if_pos c2] at hs0
      refine lv_aload_n hx hb dX1_append_21 rfl (lv_at hl 0 rfl) ?_
      refine gf1_6 hx hb hG hown hW (o := 28) (ltN hN 28 rfl) gk28 (v := .ref (q 38)) (sh28_6 hsh) gx115 dX1_append_22 ?_
      refine lv_aload_n hx hb dX1_append_25 rfl (lv_at hl 0 rfl) ?_
      refine gf1_2 hx hb hG hown hW (o := 28) (ltN hN 28 rfl) gk28 (v := .int x28_2) h_x28_2 gx675 dX1_append_26 ?_
      refine lv_lload_n hx hb dX1_append_29 rfl (lv_at hl 1 rfl) ?_
      obtain ⟨hi3, hs0⟩ := oif hs0
      refine g_last hx hb hW hS (o := 38) (ltN hN 38 rfl) gk38 h_A38 (vin hi3) dX1_append_30 (fun a4 H locs ha4 ho4 hW hS => ?_)
      have ho4 := off1 ho4
      have w_A37 : a4 37 = (16384, .inl A37) := (ho4 37 rfl).trans h_A37
      have w_A38 : a4 38 = (6000, .inr (.inl (vp_updL A38 x28_2.toNatClampNeg p1))) := ha4
      have hoffa := offm hoffa ho4 (by decide +kernel)
      refine lv_aload_n hx hb dX1_append_31 rfl (lv_at hl 0 rfl) ?_
      refine lv_dup hx hb dX1_append_32 rfl ?_
      refine gf1_2 hx hb hG hown hW (o := 28) (ltN hN 28 rfl) gk28 (v := .int x28_2) h_x28_2 gx675 dX1_append_33 ?_
      refine lv_iconst (v := 1) hx hb dX1_append_36 (by decide) ?_
      refine lv_iadd hx hb dX1_append_37 ?_
      refine gp1_2 hx hb hG hown hW hS (o := 28) (ltN hN 28 rfl) gk28 (v := (x28_2 + 1)) gx675 dX1_append_38 (fun m5 H locs hm5 ho5 hW hS => ?_)
      have ho5 := off1 ho5
      have w_x28_2 : m5 2802 = .int (x28_2 + 1) := hm5
      have hoff := offm hoff ho5 (by decide +kernel)
      have hsh := SH.off hsh ho5 (by decide +kernel)
      refine lv_aload_n hx hb dX1_append_41 rfl (lv_at hl 0 rfl) ?_
      refine gf1_5 hx hb hG hown hW (o := 28) (ltN hN 28 rfl) gk28 (v := .ref (q 36)) (sh28_5 hsh) gx114 dX1_append_42 ?_
      refine lv_iload_n hx hb dX1_append_45 rfl (lv_at hl 2 rfl) ?_
      refine lv_aload_n hx hb dX1_append_46 rfl (lv_at hl 0 rfl) ?_
      refine gf1_2 hx hb hG hown hW (o := 28) (ltN hN 28 rfl) gk28 (v := .int (x28_2 + 1)) w_x28_2 gx675 dX1_append_47 ?_
      refine g_Vv (n := 2) hx hb hml hown hG hW hS [.int p3, .int (x28_2 + 1)] (kX2_put (ltN hN 36 rfl) gk36 (ltN hN 37 rfl) gk37 (sh36_0 hsh) (by decide) w_A37 p3 (x28_2 + 1)) (ltN hN 36 rfl) gk36 (by decide) rfl rfl (gd_V gx676 gx551 gx552 gx47 gx553) rfl rfl (by decide) ⟨Nat.le_of_ble_eq_true rfl, Nat.le_of_ble_eq_true rfl⟩ rfl hl (Nat.le_of_ble_eq_true rfl) ⟨Nat.zero_le _, Nat.zero_le _⟩ dX1_append_50 (fun m6 a6 H locs hp6 hW hS => ?_)
      obtain ⟨hm6, hp6_A37, hoa6⟩ := hp6
      rw [hm6] at hW
      have w_A37 : a6 37 = (16384, .inl (cPut 16384 A37 p3 (x28_2 + 1))) := hp6_A37
      have w_A38 : a6 38 = (6000, .inr (.inl (vp_updL A38 x28_2.toNatClampNeg p1))) := (hoa6 38 rfl).trans w_A38
      have hoffa := offm hoffa hoa6 (by decide +kernel)
      refine lv_aload_n hx hb dX1_append_53 rfl (lv_at hl 0 rfl) ?_
      refine gf1_2 hx hb hG hown hW (o := 28) (ltN hN 28 rfl) gk28 (v := .int (x28_2 + 1)) w_x28_2 gx675 dX1_append_54 ?_
      refine lv_iconst (v := 1) hx hb dX1_append_57 (by decide) ?_
      refine lv_isub hx hb dX1_append_58 ?_
      have hs0 := Option.some.inj hs0
      subst hs0
      exact W.zret hx hb hr rfl (fun t ht hw => ⟨⟨_, (m5, a6), rfl, ⟨rfl, w_x28_2, hoff, w_A37, w_A38, hoffa⟩, g_end hW ht hw⟩, hS.F ht⟩) hS.2.2 dX1_append_59 hlocks
    · rw [if_neg c2] at hs0
      refine lv_iconst (v := (-1)) hx hb dX1_append_19 (by decide) ?_
      have hs0 := Option.some.inj hs0
      subst hs0
      exact W.zret hx hb hr rfl (fun t ht hw => ⟨⟨_, (m0, a0), rfl, ⟨rfl, h_x28_2, hoff, h_A37, h_A38, hoffa⟩, g_end hW ht hw⟩, hS.F ht⟩) hS.2.2 dX1_append_20 hlocks
-- HealLink$Atlas.numberOf (J)I
def fX1_numberOf_S13 (F : Nat) (v1 : Int64) (x28_2 : Int32) (A37 : Nat → Int32) (A38 : Nat → Int64) (v3 : Int32) (v4 : Int32) : Option (((Int32) ⊕ (Int32) ⊕ (Unit)) ⊕ (Int32 × Int32)) := (if 16384 ≤ v4 then some (Sum.inl (Sum.inr (Sum.inr (())))) else (if 0 ≤ ((cAt 16384 A37 v3) - 1) then ((fX1_stateAt A38 ((cAt 16384 A37 v3) - 1)).bind (fun r5 => (if (lg_cmp r5 v1) = 0 then some (Sum.inl (Sum.inr (Sum.inl ((cAt 16384 A37 v3) - 1)))) else some (Sum.inr ((v3 + 1) &&& (16383 : Int32), v4 + 1))))) else some (Sum.inl (Sum.inl v3))))
def fX1_numberOf (F : Nat) (x28_2 : Int32) (A37 : Nat → Int32) (A38 : Nat → Int64) (p1 : Int64) : Option (Int32 × Int32 × (Nat → Int32) × (Nat → Int64)) := (gloop (fun u1 : (Int32 × Int32) => fX1_numberOf_S13 F p1 x28_2 A37 A38 u1.1 u1.2) F ((((p1 * (-7046029254386353131)).toUInt64 >>> ((50 : Int32).toInt64.toUInt64 &&& Int64.toUInt64 63)).toInt64).toInt32, 0)).bind (Sum.elim (fun t1_38 => ((fX1_append x28_2 A37 A38 p1 t1_38).bind (fun r7 => some (r7.1, r7.2.1, r7.2.2.1, r7.2.2.2)))) (Sum.elim (fun t1_56 => some (t1_56, x28_2, A37, A38)) (fun t1_73 => some ((-1), x28_2, A37, A38))))
theorem dX1_numberOf_0 : decode cX1_numberOf 0 = .ok (.lload_n 1, 1) := by decide +kernel
theorem dX1_numberOf_1 : decode cX1_numberOf 1 = .ok (.ldc2_w 100, 3) := by decide +kernel
theorem dX1_numberOf_4 : decode cX1_numberOf 4 = .ok (.lmul, 1) := by decide +kernel
theorem dX1_numberOf_5 : decode cX1_numberOf 5 = .ok (.bipush 50, 2) := by decide +kernel
theorem dX1_numberOf_7 : decode cX1_numberOf 7 = .ok (.lushr, 1) := by decide +kernel
theorem dX1_numberOf_8 : decode cX1_numberOf 8 = .ok (.l2i, 1) := by decide +kernel
theorem dX1_numberOf_9 : decode cX1_numberOf 9 = .ok (.istore_n 3, 1) := by decide +kernel
theorem dX1_numberOf_10 : decode cX1_numberOf 10 = .ok (.iconst 0, 1) := by decide +kernel
theorem dX1_numberOf_11 : decode cX1_numberOf 11 = .ok (.istore 4, 2) := by decide +kernel
theorem dX1_numberOf_13 : decode cX1_numberOf 13 = .ok (.iload 4, 2) := by decide +kernel
theorem dX1_numberOf_15 : decode cX1_numberOf 15 = .ok (.sipush 16384, 3) := by decide +kernel
theorem dX1_numberOf_18 : decode cX1_numberOf 18 = .ok (.if_icmp .ge 55, 3) := by decide +kernel
theorem dX1_numberOf_21 : decode cX1_numberOf 21 = .ok (.aload_n 0, 1) := by decide +kernel
theorem dX1_numberOf_22 : decode cX1_numberOf 22 = .ok (.getfield 31, 3) := by decide +kernel
theorem dX1_numberOf_25 : decode cX1_numberOf 25 = .ok (.iload_n 3, 1) := by decide +kernel
theorem dX1_numberOf_26 : decode cX1_numberOf 26 = .ok (.invokevirtual 61, 3) := by decide +kernel
theorem dX1_numberOf_29 : decode cX1_numberOf 29 = .ok (.iconst 1, 1) := by decide +kernel
theorem dX1_numberOf_30 : decode cX1_numberOf 30 = .ok (.isub, 1) := by decide +kernel
theorem dX1_numberOf_31 : decode cX1_numberOf 31 = .ok (.istore 5, 2) := by decide +kernel
theorem dX1_numberOf_33 : decode cX1_numberOf 33 = .ok (.iload 5, 2) := by decide +kernel
theorem dX1_numberOf_35 : decode cX1_numberOf 35 = .ok (.ifCond .ge 10, 3) := by decide +kernel
theorem dX1_numberOf_38 : decode cX1_numberOf 38 = .ok (.aload_n 0, 1) := by decide +kernel
theorem dX1_numberOf_39 : decode cX1_numberOf 39 = .ok (.lload_n 1, 1) := by decide +kernel
theorem dX1_numberOf_40 : decode cX1_numberOf 40 = .ok (.iload_n 3, 1) := by decide +kernel
theorem dX1_numberOf_41 : decode cX1_numberOf 41 = .ok (.invokevirtual 102, 3) := by decide +kernel
theorem dX1_numberOf_44 : decode cX1_numberOf 44 = .ok (.ireturn, 1) := by decide +kernel
theorem dX1_numberOf_45 : decode cX1_numberOf 45 = .ok (.aload_n 0, 1) := by decide +kernel
theorem dX1_numberOf_46 : decode cX1_numberOf 46 = .ok (.iload 5, 2) := by decide +kernel
theorem dX1_numberOf_48 : decode cX1_numberOf 48 = .ok (.invokevirtual 76, 3) := by decide +kernel
theorem dX1_numberOf_51 : decode cX1_numberOf 51 = .ok (.lload_n 1, 1) := by decide +kernel
theorem dX1_numberOf_52 : decode cX1_numberOf 52 = .ok (.lcmp, 1) := by decide +kernel
theorem dX1_numberOf_53 : decode cX1_numberOf 53 = .ok (.ifCond .ne 6, 3) := by decide +kernel
theorem dX1_numberOf_56 : decode cX1_numberOf 56 = .ok (.iload 5, 2) := by decide +kernel
theorem dX1_numberOf_58 : decode cX1_numberOf 58 = .ok (.ireturn, 1) := by decide +kernel
theorem dX1_numberOf_59 : decode cX1_numberOf 59 = .ok (.iload_n 3, 1) := by decide +kernel
theorem dX1_numberOf_60 : decode cX1_numberOf 60 = .ok (.iconst 1, 1) := by decide +kernel
theorem dX1_numberOf_61 : decode cX1_numberOf 61 = .ok (.iadd, 1) := by decide +kernel
theorem dX1_numberOf_62 : decode cX1_numberOf 62 = .ok (.sipush 16383, 3) := by decide +kernel
theorem dX1_numberOf_65 : decode cX1_numberOf 65 = .ok (.iand, 1) := by decide +kernel
theorem dX1_numberOf_66 : decode cX1_numberOf 66 = .ok (.istore_n 3, 1) := by decide +kernel
theorem dX1_numberOf_67 : decode cX1_numberOf 67 = .ok (.iinc 4 1, 3) := by decide +kernel
theorem dX1_numberOf_70 : decode cX1_numberOf 70 = .ok (.goto (-57), 3) := by decide +kernel
theorem dX1_numberOf_73 : decode cX1_numberOf 73 = .ok (.iconst (-1), 1) := by decide +kernel
theorem dX1_numberOf_74 : decode cX1_numberOf 74 = .ok (.ireturn, 1) := by decide +kernel
set_option maxHeartbeats 4000000 in
set_option maxRecDepth 100000 in
theorem kX1_numberOf {l : Launch} {D : va_G} {cy : Nat → ClassId} {N : Nat} {q : Nat → Nat} {m0 : Nat → Value} {a0 : Nat → vp_A} {sz : Nat} (hN : 105 ≤ N) (hsh : SH q m0) {x28_2 : Int32} (h_x28_2 : m0 2802 = .int x28_2) {A37 : Nat → Int32} (h_A37 : a0 37 = (16384, .inl A37)) {A38 : Nat → Int64} (h_A38 : a0 38 = (6000, .inr (.inl A38))) (F : Nat) (p1 : Int64) {X0 : Int32 × Int32 × (Nat → Int32) × (Nat → Int64)} (hs0 : fX1_numberOf F x28_2 A37 A38 p1 = some X0) : gMi l yX1_numberOf cX1_numberOf 6 (some .int) ({ frames := 2, cells := 0, slots := 0, locals := 45 } : Room) D cy N q m0 a0 sz [.ref (q 28), .long p1] (fun r m' a' => r = X0.1 ∧ m' 2802 = .int X0.2.1 ∧ (∀ j, nel j [2802] = false → m' j = m0 j) ∧ a' 37 = (16384, .inl X0.2.2.1) ∧ a' 38 = (6000, .inr (.inl X0.2.2.2)) ∧ (∀ j, nel j [37, 38] = false → a' j = a0 j)) := by
  refine g_ofi (by decide) (Nat.le_of_ble_eq_true rfl) ?_
  intro p e s M args below meth c hx hb hr hG hown hin hlocks hml hW hS ls hl
  unfold fX1_numberOf at hs0
  have hoff : ∀ j, nel j [2802] = false → m0 j = m0 j := off0
  have hoffa : ∀ j, nel j [37, 38] = false → a0 j = a0 j := off0
  refine lv_lload_n hx hb dX1_numberOf_0 rfl (lv_at hl 1 rfl) ?_
  refine lv_ldc2 (v := (-7046029254386353131)) hx hb hown (hG _ gx686) dX1_numberOf_1 ?_
  refine lv_lmul hx hb dX1_numberOf_4 ?_
  refine lv_bipush (v := 50) hx hb dX1_numberOf_5 (by decide) ?_
  refine lv_lushr hx hb dX1_numberOf_7 rfl ?_
  refine lv_l2i hx hb dX1_numberOf_8 rfl ?_
  refine lv_istore_n (lv' := [(3, .int ((((p1 * (-7046029254386353131)).toUInt64 >>> ((50 : Int32).toInt64.toUInt64 &&& Int64.toUInt64 63)).toInt64).toInt32)), (0, .ref (q 28)), (1, .long p1)]) hx hb dX1_numberOf_9 rfl hl (by decide) rfl (fun ls hl => ?_)
  refine lv_iconst (v := 0) hx hb dX1_numberOf_10 (by decide) ?_
  refine lv_istore (lv' := [(4, .int 0), (3, .int ((((p1 * (-7046029254386353131)).toUInt64 >>> ((50 : Int32).toInt64.toUInt64 &&& Int64.toUInt64 63)).toInt64).toInt32)), (0, .ref (q 28)), (1, .long p1)]) hx hb dX1_numberOf_11 hl (by decide) rfl (fun ls hl => ?_)
  obtain ⟨r1, hg1, hs0⟩ := obind hs0
  have hE1_38 : ∀ (t1_38 : Int32) (hr1 : Sum.inl t1_38 = r1) (m : Nat → Value) (a : Nat → vp_A) (H : Heap) (locs : List Loc) (w_x28_2 : m 2802 = .int x28_2) (hoff : ∀ j, nel j [2802] = false → m j = m0 j) (hsh : SH q m) (w_A37 : a 37 = (16384, .inl A37)) (w_A38 : a 38 = (6000, .inr (.inl A38))) (hoffa : ∀ j, nel j [37, 38] = false → a j = a0 j) (ls : Array Slot) (hl : lv_has ls 6 [(0, .ref (q 28)), (1, .long p1), (3, .int t1_38)]) (hW : GW D cy (gA N q s.heap.size) N q m a s H) (hS : va_S (gA N q s.heap.size) s.heap H locs), W p l e ({ frames := 2, cells := 0, slots := 0, locals := 45 } : Room) s M args below meth c H locs 0 0 (MQ below (va_Qi (fun (r : Int32) (u : (Nat → Value) × (Nat → vp_A)) => r = X0.1 ∧ u.1 2802 = .int X0.2.1 ∧ (∀ j, nel j [2802] = false → u.1 j = m0 j) ∧ u.2 37 = (16384, .inl X0.2.2.1) ∧ u.2 38 = (6000, .inr (.inl X0.2.2.2)) ∧ (∀ j, nel j [37, 38] = false → u.2 j = a0 j)) (gB D cy N q s.heap.size) (gA N q s.heap.size)) args s 0 0 (gA N q s.heap.size)) (F0 M 38 ls []) := by
    intro t1_38 hr1 m a H locs w_x28_2 hoff hsh w_A37 w_A38 hoffa ls hl hW hS
    subst hr1
    have hs0 := osum_l hs0
    refine lv_aload_n hx hb dX1_numberOf_38 rfl (lv_at hl 0 rfl) ?_
    refine lv_lload_n hx hb dX1_numberOf_39 rfl (lv_at hl 1 rfl) ?_
    refine lv_iload_n hx hb dX1_numberOf_40 rfl (lv_at hl 2 rfl) ?_
    obtain ⟨r7, hf7, hs0⟩ := obind hs0
    refine g_Vi (n := 2) hx hb hml hown hG hW hS [.long p1, .int t1_38] (kX1_append hN hsh w_x28_2 w_A37 w_A38 p1 t1_38 hf7) (ltN hN 28 rfl) gk28 (by decide) rfl rfl (gd_V gx688 gx689 gx690 gx86 gx691) rfl rfl (by decide) ⟨Nat.le_of_ble_eq_true rfl, Nat.le_of_ble_eq_true rfl⟩ rfl hl (Nat.le_of_ble_eq_true rfl) ⟨Nat.zero_le _, Nat.zero_le _⟩ dX1_numberOf_41 (fun x7 m7 a7 H locs hp7 hW hS => ?_)
    obtain ⟨hx7, hp7_x28_2, ho7, hp7_A37, hp7_A38, hoa7⟩ := hp7
    subst hx7
    have w_x28_2 : m7 2802 = .int r7.2.1 := hp7_x28_2
    have hoff := offm hoff ho7 (by decide +kernel)
    have hsh := SH.off hsh ho7 (by decide +kernel)
    have w_A37 : a7 37 = (16384, .inl r7.2.2.1) := hp7_A37
    have w_A38 : a7 38 = (6000, .inr (.inl r7.2.2.2)) := hp7_A38
    have hoffa := offm hoffa hoa7 (by decide +kernel)
    have hs0 := Option.some.inj hs0
    subst hs0
    exact W.zret hx hb hr rfl (fun t ht hw => ⟨⟨_, (m7, a7), rfl, ⟨rfl, w_x28_2, hoff, w_A37, w_A38, hoffa⟩, g_end hW ht hw⟩, hS.F ht⟩) hS.2.2 dX1_numberOf_44 hlocks
  have hE1_56 : ∀ (t1_56 : Int32) (hr1 : Sum.inr (Sum.inl t1_56) = r1) (m : Nat → Value) (a : Nat → vp_A) (H : Heap) (locs : List Loc) (w_x28_2 : m 2802 = .int x28_2) (hoff : ∀ j, nel j [2802] = false → m j = m0 j) (hsh : SH q m) (w_A37 : a 37 = (16384, .inl A37)) (w_A38 : a 38 = (6000, .inr (.inl A38))) (hoffa : ∀ j, nel j [37, 38] = false → a j = a0 j) (ls : Array Slot) (hl : lv_has ls 6 [(5, .int t1_56)]) (hW : GW D cy (gA N q s.heap.size) N q m a s H) (hS : va_S (gA N q s.heap.size) s.heap H locs), W p l e ({ frames := 2, cells := 0, slots := 0, locals := 45 } : Room) s M args below meth c H locs 0 0 (MQ below (va_Qi (fun (r : Int32) (u : (Nat → Value) × (Nat → vp_A)) => r = X0.1 ∧ u.1 2802 = .int X0.2.1 ∧ (∀ j, nel j [2802] = false → u.1 j = m0 j) ∧ u.2 37 = (16384, .inl X0.2.2.1) ∧ u.2 38 = (6000, .inr (.inl X0.2.2.2)) ∧ (∀ j, nel j [37, 38] = false → u.2 j = a0 j)) (gB D cy N q s.heap.size) (gA N q s.heap.size)) args s 0 0 (gA N q s.heap.size)) (F0 M 56 ls []) := by
    intro t1_56 hr1 m a H locs w_x28_2 hoff hsh w_A37 w_A38 hoffa ls hl hW hS
    subst hr1
    have hs0 := osum_r hs0
    have hs0 := osum_l hs0
    refine lv_iload hx hb dX1_numberOf_56 (lv_at hl 0 rfl) ?_
    have hs0 := Option.some.inj hs0
    subst hs0
    exact W.zret hx hb hr rfl (fun t ht hw => ⟨⟨_, (m, a), rfl, ⟨rfl, w_x28_2, hoff, w_A37, w_A38, hoffa⟩, g_end hW ht hw⟩, hS.F ht⟩) hS.2.2 dX1_numberOf_58 hlocks
  have hE1_73 : ∀ (t1_73 : Unit) (hr1 : Sum.inr (Sum.inr (t1_73)) = r1) (m : Nat → Value) (a : Nat → vp_A) (H : Heap) (locs : List Loc) (w_x28_2 : m 2802 = .int x28_2) (hoff : ∀ j, nel j [2802] = false → m j = m0 j) (hsh : SH q m) (w_A37 : a 37 = (16384, .inl A37)) (w_A38 : a 38 = (6000, .inr (.inl A38))) (hoffa : ∀ j, nel j [37, 38] = false → a j = a0 j) (ls : Array Slot) (hl : lv_has ls 6 []) (hW : GW D cy (gA N q s.heap.size) N q m a s H) (hS : va_S (gA N q s.heap.size) s.heap H locs), W p l e ({ frames := 2, cells := 0, slots := 0, locals := 45 } : Room) s M args below meth c H locs 0 0 (MQ below (va_Qi (fun (r : Int32) (u : (Nat → Value) × (Nat → vp_A)) => r = X0.1 ∧ u.1 2802 = .int X0.2.1 ∧ (∀ j, nel j [2802] = false → u.1 j = m0 j) ∧ u.2 37 = (16384, .inl X0.2.2.1) ∧ u.2 38 = (6000, .inr (.inl X0.2.2.2)) ∧ (∀ j, nel j [37, 38] = false → u.2 j = a0 j)) (gB D cy N q s.heap.size) (gA N q s.heap.size)) args s 0 0 (gA N q s.heap.size)) (F0 M 73 ls []) := by
    intro t1_73 hr1 m a H locs w_x28_2 hoff hsh w_A37 w_A38 hoffa ls hl hW hS
    subst hr1
    have hs0 := osum_r hs0
    have hs0 := osum_r hs0
    refine lv_iconst (v := (-1)) hx hb dX1_numberOf_73 (by decide) ?_
    have hs0 := Option.some.inj hs0
    subst hs0
    exact W.zret hx hb hr rfl (fun t ht hw => ⟨⟨_, (m, a), rfl, ⟨rfl, w_x28_2, hoff, w_A37, w_A38, hoffa⟩, g_end hW ht hw⟩, hS.F ht⟩) hS.2.2 dX1_numberOf_74 hlocks
  have hL1 : ∀ (n : Nat) (v3k1 : Int32) (v4k1 : Int32) (m : Nat → Value) (a : Nat → vp_A) (H : Heap) (locs : List Loc) (w_x28_2 : m 2802 = .int x28_2) (hoff : ∀ j, nel j [2802] = false → m j = m0 j) (hsh : SH q m) (w_A37 : a 37 = (16384, .inl A37)) (w_A38 : a 38 = (6000, .inr (.inl A38))) (hoffa : ∀ j, nel j [37, 38] = false → a j = a0 j) (ls : Array Slot) (hl : lv_has ls 6 [(0, .ref (q 28)), (1, .long p1), (3, .int v3k1), (4, .int v4k1)]) (hg1 : gloop (fun u1 : (Int32 × Int32) => fX1_numberOf_S13 F p1 x28_2 A37 A38 u1.1 u1.2) n (v3k1, v4k1) = some r1) (hW : GW D cy (gA N q s.heap.size) N q m a s H) (hS : va_S (gA N q s.heap.size) s.heap H locs), W p l e ({ frames := 2, cells := 0, slots := 0, locals := 45 } : Room) s M args below meth c H locs 0 0 (MQ below (va_Qi (fun (r : Int32) (u : (Nat → Value) × (Nat → vp_A)) => r = X0.1 ∧ u.1 2802 = .int X0.2.1 ∧ (∀ j, nel j [2802] = false → u.1 j = m0 j) ∧ u.2 37 = (16384, .inl X0.2.2.1) ∧ u.2 38 = (6000, .inr (.inl X0.2.2.2)) ∧ (∀ j, nel j [37, 38] = false → u.2 j = a0 j)) (gB D cy N q s.heap.size) (gA N q s.heap.size)) args s 0 0 (gA N q s.heap.size)) (F0 M 13 ls []) := by
    intro n
    induction n with
    | zero => intro v3k1 v4k1 m a H locs w_x28_2 hoff hsh w_A37 w_A38 hoffa ls hl hg1 hW hS; exact (gl_zero hg1).elim
    | succ n ih1 =>
      intro v3k1 v4k1 m a H locs w_x28_2 hoff hsh w_A37 w_A38 hoffa ls hl hg1 hW hS
      obtain ⟨X1, hs1, hXl1, hXr1⟩ := gl_succ hg1
      have hs1 : fX1_numberOf_S13 F p1 x28_2 A37 A38 v3k1 v4k1 = some X1 := hs1
      unfold fX1_numberOf_S13 at hs1
      refine lv_iload hx hb dX1_numberOf_13 (lv_at hl 3 rfl) ?_
      refine lv_sipush (v := 16384) hx hb dX1_numberOf_15 (by decide) ?_
      refine lv_icmp_ge (tgt := 73) hx hb dX1_numberOf_18 (by decide) (fun c8 => ?_) (fun c8 => ?_)
      · rw [if_pos c8] at hs1
        exact hE1_73 () (hXl1 _ (Option.some.inj hs1).symm) m a _ _ w_x28_2 hoff hsh w_A37 w_A38 hoffa ls (lv_sub hl [] rfl) hW hS
      · rw [if_neg c8] at hs1
        refine lv_aload_n hx hb dX1_numberOf_21 rfl (lv_at hl 0 rfl) ?_
        refine gf1_5 hx hb hG hown hW (o := 28) (ltN hN 28 rfl) gk28 (v := .ref (q 36)) (sh28_5 hsh) gx114 dX1_numberOf_22 ?_
        refine lv_iload_n hx hb dX1_numberOf_25 rfl (lv_at hl 2 rfl) ?_
        refine g_ViR (n := 1) hx hb hml hown hG hW hS [.int v3k1] (kX2_at (ltN hN 36 rfl) gk36 (ltN hN 37 rfl) gk37 (sh36_0 hsh) (by decide) w_A37 v3k1) (ltN hN 36 rfl) gk36 (by decide) rfl rfl (gd_V gx687 gx564 gx565 gx47 gx566) rfl rfl (by decide) ⟨Nat.le_of_ble_eq_true rfl, Nat.le_of_ble_eq_true rfl⟩ rfl hl (Nat.le_of_ble_eq_true rfl) ⟨Nat.zero_le _, Nat.zero_le _⟩ dX1_numberOf_26 (fun H locs hW hS => ?_)
        refine lv_iconst (v := 1) hx hb dX1_numberOf_29 (by decide) ?_
        refine lv_isub hx hb dX1_numberOf_30 ?_
        refine lv_istore (lv' := [(5, .int ((cAt 16384 A37 v3k1) - 1)), (0, .ref (q 28)), (1, .long p1), (3, .int v3k1), (4, .int v4k1)]) hx hb dX1_numberOf_31 hl (by decide) rfl (fun ls hl => ?_)
        refine lv_iload hx hb dX1_numberOf_33 (lv_at hl 0 rfl) ?_
        refine lv_if_ge (tgt := 45) hx hb dX1_numberOf_35 (by decide) (fun c10 => ?_) (fun c10 => ?_)
        · rw [if_pos c10] at hs1
          refine lv_aload_n hx hb dX1_numberOf_45 rfl (lv_at hl 1 rfl) ?_
          refine lv_iload hx hb dX1_numberOf_46 (lv_at hl 0 rfl) ?_
          obtain ⟨r11, hf11, hs1⟩ := obind hs1
          refine g_VlR (n := 1) hx hb hml hown hG hW hS [.int ((cAt 16384 A37 v3k1) - 1)] (kX1_stateAt hN hsh w_A38 ((cAt 16384 A37 v3k1) - 1) hf11) (ltN hN 28 rfl) gk28 (by decide) rfl rfl (gd_V gx692 gx693 gx694 gx86 gx695) rfl rfl (by decide) ⟨Nat.le_of_ble_eq_true rfl, Nat.le_of_ble_eq_true rfl⟩ rfl hl (Nat.le_of_ble_eq_true rfl) ⟨Nat.zero_le _, Nat.zero_le _⟩ dX1_numberOf_48 (fun H locs hW hS => ?_)
          refine lv_lload_n hx hb dX1_numberOf_51 rfl (lv_at hl 2 rfl) ?_
          refine W.lcmp hx hb dX1_numberOf_52 ?_
          refine lv_if_ne (tgt := 59) hx hb dX1_numberOf_53 (by decide) (fun c12 => ?_) (fun c12 => ?_)
          · rw [if_neg c12] at hs1
            refine lv_iload_n hx hb dX1_numberOf_59 rfl (lv_at hl 3 rfl) ?_
            refine lv_iconst (v := 1) hx hb dX1_numberOf_60 (by decide) ?_
            refine lv_iadd hx hb dX1_numberOf_61 ?_
            refine lv_sipush (v := 16383) hx hb dX1_numberOf_62 (by decide) ?_
            refine lv_iand hx hb dX1_numberOf_65 ?_
            refine lv_istore_n (lv' := [(3, .int ((v3k1 + 1) &&& (16383 : Int32))), (5, .int ((cAt 16384 A37 v3k1) - 1)), (0, .ref (q 28)), (1, .long p1), (4, .int v4k1)]) hx hb dX1_numberOf_66 rfl hl (by decide) rfl (fun ls hl => ?_)
            refine lv_iinc (v := v4k1 + 1) (lv' := [(4, .int (v4k1 + 1)), (3, .int ((v3k1 + 1) &&& (16383 : Int32))), (5, .int ((cAt 16384 A37 v3k1) - 1)), (0, .ref (q 28)), (1, .long p1)]) hx hb dX1_numberOf_67 hl (k := 4) rfl rfl (by decide) rfl (fun ls hl => ?_)
            refine lv_goto (tgt := 13) hx hb dX1_numberOf_70 (by decide) ?_
            exact ih1 ((v3k1 + 1) &&& (16383 : Int32)) (v4k1 + 1) m a _ _ w_x28_2 hoff hsh w_A37 w_A38 hoffa ls (lv_sub hl [3, 4, 1, 0] rfl) (hXr1 _ (Option.some.inj hs1).symm) hW hS
          · rw [if_pos c12] at hs1
            exact hE1_56 ((cAt 16384 A37 v3k1) - 1) (hXl1 _ (Option.some.inj hs1).symm) m a _ _ w_x28_2 hoff hsh w_A37 w_A38 hoffa ls (lv_sub hl [0] rfl) hW hS
        · rw [if_neg c10] at hs1
          exact hE1_38 v3k1 (hXl1 _ (Option.some.inj hs1).symm) m a _ _ w_x28_2 hoff hsh w_A37 w_A38 hoffa ls (lv_sub hl [1, 2, 3] rfl) hW hS
  exact hL1 F ((((p1 * (-7046029254386353131)).toUInt64 >>> ((50 : Int32).toInt64.toUInt64 &&& Int64.toUInt64 63)).toInt64).toInt32) 0 m0 a0 _ _ h_x28_2 hoff hsh h_A37 h_A38 hoffa ls (lv_sub hl [2, 3, 1, 0] rfl) hg1 hW hS
-- HealLink$Atlas.markOf (I)I
def fX1_markOf (p0 : Int32) : Int32 := (if p0 = 1 then 2 else (if p0 = 2 then 1 else (if p0 = 3 then 1 else (if p0 = 5 then 1 else 0))))
theorem dX1_markOf_0 : decode cX1_markOf 0 = .ok (.iload_n 0, 1) := by decide +kernel
theorem dX1_markOf_1 : decode cX1_markOf 1 = .ok (.iconst 1, 1) := by decide +kernel
theorem dX1_markOf_2 : decode cX1_markOf 2 = .ok (.if_icmp .ne 5, 3) := by decide +kernel
theorem dX1_markOf_5 : decode cX1_markOf 5 = .ok (.iconst 2, 1) := by decide +kernel
theorem dX1_markOf_6 : decode cX1_markOf 6 = .ok (.ireturn, 1) := by decide +kernel
theorem dX1_markOf_7 : decode cX1_markOf 7 = .ok (.iload_n 0, 1) := by decide +kernel
theorem dX1_markOf_8 : decode cX1_markOf 8 = .ok (.iconst 2, 1) := by decide +kernel
theorem dX1_markOf_9 : decode cX1_markOf 9 = .ok (.if_icmp .eq 13, 3) := by decide +kernel
theorem dX1_markOf_12 : decode cX1_markOf 12 = .ok (.iload_n 0, 1) := by decide +kernel
theorem dX1_markOf_13 : decode cX1_markOf 13 = .ok (.iconst 3, 1) := by decide +kernel
theorem dX1_markOf_14 : decode cX1_markOf 14 = .ok (.if_icmp .eq 8, 3) := by decide +kernel
theorem dX1_markOf_17 : decode cX1_markOf 17 = .ok (.iload_n 0, 1) := by decide +kernel
theorem dX1_markOf_18 : decode cX1_markOf 18 = .ok (.iconst 5, 1) := by decide +kernel
theorem dX1_markOf_19 : decode cX1_markOf 19 = .ok (.if_icmp .ne 7, 3) := by decide +kernel
theorem dX1_markOf_22 : decode cX1_markOf 22 = .ok (.iconst 1, 1) := by decide +kernel
theorem dX1_markOf_23 : decode cX1_markOf 23 = .ok (.goto 4, 3) := by decide +kernel
theorem dX1_markOf_26 : decode cX1_markOf 26 = .ok (.iconst 0, 1) := by decide +kernel
theorem dX1_markOf_27 : decode cX1_markOf 27 = .ok (.ireturn, 1) := by decide +kernel
set_option maxHeartbeats 4000000 in
set_option maxRecDepth 100000 in
theorem kX1_markOf {l : Launch} {D : va_G} {cy : Nat → ClassId} {N : Nat} {q : Nat → Nat} {m0 : Nat → Value} {a0 : Nat → vp_A} {sz : Nat} (hN : 105 ≤ N) (p0 : Int32) : gMi l yX1_markOf cX1_markOf 1 (some .int) ({ frames := 0, cells := 0, slots := 0, locals := 0 } : Room) D cy N q m0 a0 sz [.int p0] (fun r m' a' => r = (fX1_markOf p0) ∧ m' = m0 ∧ a' = a0) := by
  generalize hs0 : fX1_markOf p0 = X0
  refine g_ofi (by decide) (Nat.le_of_ble_eq_true rfl) ?_
  intro p e s M args below meth c hx hb hr hG hown hin hlocks hml hW hS ls hl
  unfold fX1_markOf at hs0
  refine lv_iload_n hx hb dX1_markOf_0 rfl (lv_at hl 0 rfl) ?_
  refine lv_iconst (v := 1) hx hb dX1_markOf_1 (by decide) ?_
  refine lv_icmp_ne (tgt := 7) hx hb dX1_markOf_2 (by decide) (fun c1 => ?_) (fun c1 => ?_)
  · rw [if_neg c1] at hs0
    refine lv_iload_n hx hb dX1_markOf_7 rfl (lv_at hl 0 rfl) ?_
    refine lv_iconst (v := 2) hx hb dX1_markOf_8 (by decide) ?_
    refine lv_icmp_eq (tgt := 22) hx hb dX1_markOf_9 (by decide) (fun c2 => ?_) (fun c2 => ?_)
    · rw [if_pos c2] at hs0
      refine lv_iconst (v := 1) hx hb dX1_markOf_22 (by decide) ?_
      refine lv_goto (tgt := 27) hx hb dX1_markOf_23 (by decide) ?_
      subst hs0
      exact W.zret hx hb hr rfl (fun t ht hw => ⟨⟨_, (m0, a0), rfl, ⟨rfl, rfl, rfl⟩, g_end hW ht hw⟩, hS.F ht⟩) hS.2.2 dX1_markOf_27 hlocks
    · rw [if_neg c2] at hs0
      refine lv_iload_n hx hb dX1_markOf_12 rfl (lv_at hl 0 rfl) ?_
      refine lv_iconst (v := 3) hx hb dX1_markOf_13 (by decide) ?_
      refine lv_icmp_eq (tgt := 22) hx hb dX1_markOf_14 (by decide) (fun c3 => ?_) (fun c3 => ?_)
      · rw [if_pos c3] at hs0
        refine lv_iconst (v := 1) hx hb dX1_markOf_22 (by decide) ?_
        refine lv_goto (tgt := 27) hx hb dX1_markOf_23 (by decide) ?_
        subst hs0
        exact W.zret hx hb hr rfl (fun t ht hw => ⟨⟨_, (m0, a0), rfl, ⟨rfl, rfl, rfl⟩, g_end hW ht hw⟩, hS.F ht⟩) hS.2.2 dX1_markOf_27 hlocks
      · rw [if_neg c3] at hs0
        refine lv_iload_n hx hb dX1_markOf_17 rfl (lv_at hl 0 rfl) ?_
        refine lv_iconst (v := 5) hx hb dX1_markOf_18 (by decide) ?_
        refine lv_icmp_ne (tgt := 26) hx hb dX1_markOf_19 (by decide) (fun c4 => ?_) (fun c4 => ?_)
        · rw [if_neg c4] at hs0
          refine lv_iconst (v := 0) hx hb dX1_markOf_26 (by decide) ?_
          subst hs0
          exact W.zret hx hb hr rfl (fun t ht hw => ⟨⟨_, (m0, a0), rfl, ⟨rfl, rfl, rfl⟩, g_end hW ht hw⟩, hS.F ht⟩) hS.2.2 dX1_markOf_27 hlocks
        · rw [if_pos c4] at hs0
          refine lv_iconst (v := 1) hx hb dX1_markOf_22 (by decide) ?_
          refine lv_goto (tgt := 27) hx hb dX1_markOf_23 (by decide) ?_
          subst hs0
          exact W.zret hx hb hr rfl (fun t ht hw => ⟨⟨_, (m0, a0), rfl, ⟨rfl, rfl, rfl⟩, g_end hW ht hw⟩, hS.F ht⟩) hS.2.2 dX1_markOf_27 hlocks
  · rw [if_pos c1] at hs0
    refine lv_iconst (v := 2) hx hb dX1_markOf_5 (by decide) ?_
    subst hs0
    exact W.zret hx hb hr rfl (fun t ht hw => ⟨⟨_, (m0, a0), rfl, ⟨rfl, rfl, rfl⟩, g_end hW ht hw⟩, hS.F ht⟩) hS.2.2 dX1_markOf_6 hlocks
-- HealLink$Atlas.expandAll (LHealLink$Rules;)Z
def fX1_expandAll_S36 (F : Nat) (xkr_0 : Int32) (xkr_1 : Int32) (xkr_2 : Int32) (xkr_3 : Int32) (v3 : Int32) (x31_1 : Int32) (x31_2 : Int32) (A30 : Nat → Int32) (A33 : Nat → Int32) (v2 : Int32) (v4 : Int32) (x28_2 : Int32) (A35 : Nat → Int32) (A37 : Nat → Int32) (A38 : Nat → Int64) : Option (((Int32 × (Nat → Int32) × (Nat → Int32) × (Nat → Int64)) ⊕ (Int32 × Int32 × (Nat → Int32) × (Nat → Int32) × (Nat → Int64))) ⊕ (Int32 × Int32 × Int32 × (Nat → Int32) × (Nat → Int32) × (Nat → Int64))) := (if x31_1 ≤ v4 then some (Sum.inl (Sum.inr ((v2, x28_2, A35, A37, A38)))) else (if 10 ≤ v4 then some (Sum.inl (Sum.inr ((v2, x28_2, A35, A37, A38)))) else ((fX1_stateAt A38 v3).bind (fun r9 => ((fX1_numberOf F x28_2 A37 A38 ((fX7_after xkr_0 xkr_1 xkr_2 xkr_3 r9 (cAt 10 A33 v4)) &&& (562949953421311 : Int64))).bind (fun r12 => (if r12.1 = (-1) then some (Sum.inl (Sum.inl (r12.2.1, A35, r12.2.2.1, r12.2.2.2))) else some (Sum.inr (v2 + 1, v4 + 1, r12.2.1, (cPut 60000 A35 v2 ((4 * r12.1) + (fX1_markOf (fX7_outcomeOf (fX7_after xkr_0 xkr_1 xkr_2 xkr_3 r9 (cAt 10 A33 v4)))))), r12.2.2.1, r12.2.2.2)))))))))
def fX1_expandAll_J128 (F : Nat) (xkr_0 : Int32) (xkr_1 : Int32) (xkr_2 : Int32) (xkr_3 : Int32) (v2j17 : Int32) (v3j17 : Int32) (x28_2j17 : Int32) (x31_1j17 : Int32) (x31_2j17 : Int32) (A30j17 : Nat → Int32) (A33j17 : Nat → Int32) (A35j17 : Nat → Int32) (A37j17 : Nat → Int32) (A38j17 : Nat → Int64) : Option (((Int32 × Int32 × Int32 × (Nat → Int32) × (Nat → Int32) × (Nat → Int32) × (Nat → Int32) × (Nat → Int64)) ⊕ (Int32 × Int32 × Int32 × (Nat → Int32) × (Nat → Int32) × (Nat → Int32) × (Nat → Int32) × (Nat → Int64))) ⊕ (Int32 × Int32 × Int32 × Int32 × Int32 × (Nat → Int32) × (Nat → Int32) × (Nat → Int32) × (Nat → Int32) × (Nat → Int64))) := some (Sum.inr (v2j17, v3j17 + 1, x28_2j17, x31_1j17, x31_2j17, (cPut 6001 A30j17 (v3j17 + 1) v2j17), A33j17, A35j17, A37j17, A38j17))
def fX1_expandAll_S4 (F : Nat) (xkr_0 : Int32) (xkr_1 : Int32) (xkr_2 : Int32) (xkr_3 : Int32) (v2 : Int32) (v3 : Int32) (x28_2 : Int32) (x31_1 : Int32) (x31_2 : Int32) (A30 : Nat → Int32) (A33 : Nat → Int32) (A35 : Nat → Int32) (A37 : Nat → Int32) (A38 : Nat → Int64) : Option (((Int32 × Int32 × Int32 × (Nat → Int32) × (Nat → Int32) × (Nat → Int32) × (Nat → Int32) × (Nat → Int64)) ⊕ (Int32 × Int32 × Int32 × (Nat → Int32) × (Nat → Int32) × (Nat → Int32) × (Nat → Int32) × (Nat → Int64))) ⊕ (Int32 × Int32 × Int32 × Int32 × Int32 × (Nat → Int32) × (Nat → Int32) × (Nat → Int32) × (Nat → Int32) × (Nat → Int64))) := (if x28_2 ≤ v3 then some (Sum.inl (Sum.inr ((x28_2, x31_1, x31_2, A30, A33, A35, A37, A38)))) else (if 6000 ≤ v3 then some (Sum.inl (Sum.inr ((x28_2, x31_1, x31_2, A30, A33, A35, A37, A38)))) else ((fX1_stateAt A38 v3).bind (fun r4 => ((fX0_list F xkr_1 xkr_2 x31_1 x31_2 A33 r4 1).bind (fun r5 => (gloop (fun u6 : (Int32 × Int32 × Int32 × (Nat → Int32) × (Nat → Int32) × (Nat → Int64)) => fX1_expandAll_S36 F xkr_0 xkr_1 xkr_2 xkr_3 v3 r5.1 r5.2.1 A30 r5.2.2 u6.1 u6.2.1 u6.2.2.1 u6.2.2.2.1 u6.2.2.2.2.1 u6.2.2.2.2.2) F (v2, 0, x28_2, A35, A37, A38)).bind (Sum.elim (fun t6_96 => some (Sum.inl (Sum.inl (t6_96.1, r5.1, r5.2.1, A30, r5.2.2, t6_96.2.1, t6_96.2.2.1, t6_96.2.2.2)))) (fun t6_128 => fX1_expandAll_J128 F xkr_0 xkr_1 xkr_2 xkr_3 t6_128.1 v3 t6_128.2.1 r5.1 r5.2.1 A30 r5.2.2 t6_128.2.2.1 t6_128.2.2.2.1 t6_128.2.2.2.2))))))))
def fX1_expandAll (F : Nat) (xkr_0 : Int32) (xkr_1 : Int32) (xkr_2 : Int32) (xkr_3 : Int32) (x28_2 : Int32) (x31_1 : Int32) (x31_2 : Int32) (A30 : Nat → Int32) (A33 : Nat → Int32) (A35 : Nat → Int32) (A37 : Nat → Int32) (A38 : Nat → Int64) : Option (Int32 × Int32 × Int32 × Int32 × (Nat → Int32) × (Nat → Int32) × (Nat → Int32) × (Nat → Int32) × (Nat → Int64)) := (gloop (fun u1 : (Int32 × Int32 × Int32 × Int32 × Int32 × (Nat → Int32) × (Nat → Int32) × (Nat → Int32) × (Nat → Int32) × (Nat → Int64)) => fX1_expandAll_S4 F xkr_0 xkr_1 xkr_2 xkr_3 u1.1 u1.2.1 u1.2.2.1 u1.2.2.2.1 u1.2.2.2.2.1 u1.2.2.2.2.2.1 u1.2.2.2.2.2.2.1 u1.2.2.2.2.2.2.2.1 u1.2.2.2.2.2.2.2.2.1 u1.2.2.2.2.2.2.2.2.2) F (0, 0, x28_2, x31_1, x31_2, A30, A33, A35, A37, A38)).bind (Sum.elim (fun t1_96 => some (0, t1_96.1, t1_96.2.1, t1_96.2.2.1, t1_96.2.2.2.1, t1_96.2.2.2.2.1, t1_96.2.2.2.2.2.1, t1_96.2.2.2.2.2.2.1, t1_96.2.2.2.2.2.2.2)) (fun t1_145 => some (1, t1_145.1, t1_145.2.1, t1_145.2.2.1, t1_145.2.2.2.1, t1_145.2.2.2.2.1, t1_145.2.2.2.2.2.1, t1_145.2.2.2.2.2.2.1, t1_145.2.2.2.2.2.2.2)))
theorem dX1_expandAll_0 : decode cX1_expandAll 0 = .ok (.iconst 0, 1) := by decide +kernel
theorem dX1_expandAll_1 : decode cX1_expandAll 1 = .ok (.istore_n 2, 1) := by decide +kernel
theorem dX1_expandAll_2 : decode cX1_expandAll 2 = .ok (.iconst 0, 1) := by decide +kernel
theorem dX1_expandAll_3 : decode cX1_expandAll 3 = .ok (.istore_n 3, 1) := by decide +kernel
theorem dX1_expandAll_4 : decode cX1_expandAll 4 = .ok (.iload_n 3, 1) := by decide +kernel
theorem dX1_expandAll_5 : decode cX1_expandAll 5 = .ok (.aload_n 0, 1) := by decide +kernel
theorem dX1_expandAll_6 : decode cX1_expandAll 6 = .ok (.getfield 65, 3) := by decide +kernel
theorem dX1_expandAll_9 : decode cX1_expandAll 9 = .ok (.if_icmp .ge 136, 3) := by decide +kernel
theorem dX1_expandAll_12 : decode cX1_expandAll 12 = .ok (.iload_n 3, 1) := by decide +kernel
theorem dX1_expandAll_13 : decode cX1_expandAll 13 = .ok (.sipush 6000, 3) := by decide +kernel
theorem dX1_expandAll_16 : decode cX1_expandAll 16 = .ok (.if_icmp .ge 129, 3) := by decide +kernel
theorem dX1_expandAll_19 : decode cX1_expandAll 19 = .ok (.aload_n 0, 1) := by decide +kernel
theorem dX1_expandAll_20 : decode cX1_expandAll 20 = .ok (.getfield 23, 3) := by decide +kernel
theorem dX1_expandAll_23 : decode cX1_expandAll 23 = .ok (.aload_n 1, 1) := by decide +kernel
theorem dX1_expandAll_24 : decode cX1_expandAll 24 = .ok (.aload_n 0, 1) := by decide +kernel
theorem dX1_expandAll_25 : decode cX1_expandAll 25 = .ok (.iload_n 3, 1) := by decide +kernel
theorem dX1_expandAll_26 : decode cX1_expandAll 26 = .ok (.invokevirtual 76, 3) := by decide +kernel
theorem dX1_expandAll_29 : decode cX1_expandAll 29 = .ok (.iconst 1, 1) := by decide +kernel
theorem dX1_expandAll_30 : decode cX1_expandAll 30 = .ok (.invokevirtual 80, 3) := by decide +kernel
theorem dX1_expandAll_33 : decode cX1_expandAll 33 = .ok (.iconst 0, 1) := by decide +kernel
theorem dX1_expandAll_34 : decode cX1_expandAll 34 = .ok (.istore 4, 2) := by decide +kernel
theorem dX1_expandAll_36 : decode cX1_expandAll 36 = .ok (.iload 4, 2) := by decide +kernel
theorem dX1_expandAll_38 : decode cX1_expandAll 38 = .ok (.aload_n 0, 1) := by decide +kernel
theorem dX1_expandAll_39 : decode cX1_expandAll 39 = .ok (.getfield 23, 3) := by decide +kernel
theorem dX1_expandAll_42 : decode cX1_expandAll 42 = .ok (.getfield 84, 3) := by decide +kernel
theorem dX1_expandAll_45 : decode cX1_expandAll 45 = .ok (.if_icmp .ge 83, 3) := by decide +kernel
theorem dX1_expandAll_48 : decode cX1_expandAll 48 = .ok (.iload 4, 2) := by decide +kernel
theorem dX1_expandAll_50 : decode cX1_expandAll 50 = .ok (.bipush 10, 2) := by decide +kernel
theorem dX1_expandAll_52 : decode cX1_expandAll 52 = .ok (.if_icmp .ge 76, 3) := by decide +kernel
theorem dX1_expandAll_55 : decode cX1_expandAll 55 = .ok (.aload_n 1, 1) := by decide +kernel
theorem dX1_expandAll_56 : decode cX1_expandAll 56 = .ok (.aload_n 0, 1) := by decide +kernel
theorem dX1_expandAll_57 : decode cX1_expandAll 57 = .ok (.iload_n 3, 1) := by decide +kernel
theorem dX1_expandAll_58 : decode cX1_expandAll 58 = .ok (.invokevirtual 76, 3) := by decide +kernel
theorem dX1_expandAll_61 : decode cX1_expandAll 61 = .ok (.aload_n 0, 1) := by decide +kernel
theorem dX1_expandAll_62 : decode cX1_expandAll 62 = .ok (.getfield 23, 3) := by decide +kernel
theorem dX1_expandAll_65 : decode cX1_expandAll 65 = .ok (.getfield 85, 3) := by decide +kernel
theorem dX1_expandAll_68 : decode cX1_expandAll 68 = .ok (.iload 4, 2) := by decide +kernel
theorem dX1_expandAll_70 : decode cX1_expandAll 70 = .ok (.invokevirtual 61, 3) := by decide +kernel
theorem dX1_expandAll_73 : decode cX1_expandAll 73 = .ok (.invokevirtual 88, 3) := by decide +kernel
theorem dX1_expandAll_76 : decode cX1_expandAll 76 = .ok (.lstore 5, 2) := by decide +kernel
theorem dX1_expandAll_78 : decode cX1_expandAll 78 = .ok (.aload_n 0, 1) := by decide +kernel
theorem dX1_expandAll_79 : decode cX1_expandAll 79 = .ok (.lload 5, 2) := by decide +kernel
theorem dX1_expandAll_81 : decode cX1_expandAll 81 = .ok (.ldc2_w 92, 3) := by decide +kernel
theorem dX1_expandAll_84 : decode cX1_expandAll 84 = .ok (.land, 1) := by decide +kernel
theorem dX1_expandAll_85 : decode cX1_expandAll 85 = .ok (.invokevirtual 41, 3) := by decide +kernel
theorem dX1_expandAll_88 : decode cX1_expandAll 88 = .ok (.istore 7, 2) := by decide +kernel
theorem dX1_expandAll_90 : decode cX1_expandAll 90 = .ok (.iload 7, 2) := by decide +kernel
theorem dX1_expandAll_92 : decode cX1_expandAll 92 = .ok (.iconst (-1), 1) := by decide +kernel
theorem dX1_expandAll_93 : decode cX1_expandAll 93 = .ok (.if_icmp .ne 5, 3) := by decide +kernel
theorem dX1_expandAll_96 : decode cX1_expandAll 96 = .ok (.iconst 0, 1) := by decide +kernel
theorem dX1_expandAll_97 : decode cX1_expandAll 97 = .ok (.ireturn, 1) := by decide +kernel
theorem dX1_expandAll_98 : decode cX1_expandAll 98 = .ok (.aload_n 0, 1) := by decide +kernel
theorem dX1_expandAll_99 : decode cX1_expandAll 99 = .ok (.getfield 28, 3) := by decide +kernel
theorem dX1_expandAll_102 : decode cX1_expandAll 102 = .ok (.iload_n 2, 1) := by decide +kernel
theorem dX1_expandAll_103 : decode cX1_expandAll 103 = .ok (.iconst 4, 1) := by decide +kernel
theorem dX1_expandAll_104 : decode cX1_expandAll 104 = .ok (.iload 7, 2) := by decide +kernel
theorem dX1_expandAll_106 : decode cX1_expandAll 106 = .ok (.imul, 1) := by decide +kernel
theorem dX1_expandAll_107 : decode cX1_expandAll 107 = .ok (.lload 5, 2) := by decide +kernel
theorem dX1_expandAll_109 : decode cX1_expandAll 109 = .ok (.invokestatic 94, 3) := by decide +kernel
theorem dX1_expandAll_112 : decode cX1_expandAll 112 = .ok (.invokestatic 97, 3) := by decide +kernel
theorem dX1_expandAll_115 : decode cX1_expandAll 115 = .ok (.iadd, 1) := by decide +kernel
theorem dX1_expandAll_116 : decode cX1_expandAll 116 = .ok (.invokevirtual 69, 3) := by decide +kernel
theorem dX1_expandAll_119 : decode cX1_expandAll 119 = .ok (.iinc 2 1, 3) := by decide +kernel
theorem dX1_expandAll_122 : decode cX1_expandAll 122 = .ok (.iinc 4 1, 3) := by decide +kernel
theorem dX1_expandAll_125 : decode cX1_expandAll 125 = .ok (.goto (-89), 3) := by decide +kernel
theorem dX1_expandAll_128 : decode cX1_expandAll 128 = .ok (.aload_n 0, 1) := by decide +kernel
theorem dX1_expandAll_129 : decode cX1_expandAll 129 = .ok (.getfield 14, 3) := by decide +kernel
theorem dX1_expandAll_132 : decode cX1_expandAll 132 = .ok (.iload_n 3, 1) := by decide +kernel
theorem dX1_expandAll_133 : decode cX1_expandAll 133 = .ok (.iconst 1, 1) := by decide +kernel
theorem dX1_expandAll_134 : decode cX1_expandAll 134 = .ok (.iadd, 1) := by decide +kernel
theorem dX1_expandAll_135 : decode cX1_expandAll 135 = .ok (.iload_n 2, 1) := by decide +kernel
theorem dX1_expandAll_136 : decode cX1_expandAll 136 = .ok (.invokevirtual 69, 3) := by decide +kernel
theorem dX1_expandAll_139 : decode cX1_expandAll 139 = .ok (.iinc 3 1, 3) := by decide +kernel
theorem dX1_expandAll_142 : decode cX1_expandAll 142 = .ok (.goto (-138), 3) := by decide +kernel
theorem dX1_expandAll_145 : decode cX1_expandAll 145 = .ok (.iconst 1, 1) := by decide +kernel
theorem dX1_expandAll_146 : decode cX1_expandAll 146 = .ok (.ireturn, 1) := by decide +kernel
set_option maxHeartbeats 4000000 in
set_option maxRecDepth 100000 in
theorem kX1_expandAll {l : Launch} {D : va_G} {cy : Nat → ClassId} {N : Nat} {q : Nat → Nat} {m0 : Nat → Value} {a0 : Nat → vp_A} {sz : Nat} (hN : 105 ≤ N) (hsh : SH q m0) {kr : Nat} (hkr : kr < N) (hgk : gk kr = 7) {xkr_0 : Int32} (h_xkr_0 : m0 (100 * kr + 0) = .int xkr_0) {xkr_1 : Int32} (h_xkr_1 : m0 (100 * kr + 1) = .int xkr_1) {xkr_2 : Int32} (h_xkr_2 : m0 (100 * kr + 2) = .int xkr_2) {xkr_3 : Int32} (h_xkr_3 : m0 (100 * kr + 3) = .int xkr_3) {x28_2 : Int32} (h_x28_2 : m0 2802 = .int x28_2) {x31_1 : Int32} (h_x31_1 : m0 3101 = .int x31_1) {x31_2 : Int32} (h_x31_2 : m0 3102 = .int x31_2) {A30 : Nat → Int32} (h_A30 : a0 30 = (6001, .inl A30)) {A33 : Nat → Int32} (h_A33 : a0 33 = (10, .inl A33)) {A35 : Nat → Int32} (h_A35 : a0 35 = (60000, .inl A35)) {A37 : Nat → Int32} (h_A37 : a0 37 = (16384, .inl A37)) {A38 : Nat → Int64} (h_A38 : a0 38 = (6000, .inr (.inl A38))) (F : Nat) {X0 : Int32 × Int32 × Int32 × Int32 × (Nat → Int32) × (Nat → Int32) × (Nat → Int32) × (Nat → Int32) × (Nat → Int64)} (hs0 : fX1_expandAll F xkr_0 xkr_1 xkr_2 xkr_3 x28_2 x31_1 x31_2 A30 A33 A35 A37 A38 = some X0) : gMi l yX1_expandAll cX1_expandAll 8 (some .boolean) ({ frames := 4, cells := 0, slots := 0, locals := 97 } : Room) D cy N q m0 a0 sz [.ref (q 28), .ref (q kr)] (fun r m' a' => r = X0.1 ∧ m' 2802 = .int X0.2.1 ∧ m' 3101 = .int X0.2.2.1 ∧ m' 3102 = .int X0.2.2.2.1 ∧ (∀ j, nel j [2802, 3101, 3102] = false → m' j = m0 j) ∧ a' 30 = (6001, .inl X0.2.2.2.2.1) ∧ a' 33 = (10, .inl X0.2.2.2.2.2.1) ∧ a' 35 = (60000, .inl X0.2.2.2.2.2.2.1) ∧ a' 37 = (16384, .inl X0.2.2.2.2.2.2.2.1) ∧ a' 38 = (6000, .inr (.inl X0.2.2.2.2.2.2.2.2)) ∧ (∀ j, nel j [30, 33, 35, 37, 38] = false → a' j = a0 j)) := by
  refine g_ofi (by decide) (Nat.le_of_ble_eq_true rfl) ?_
  intro p e s M args below meth c hx hb hr hG hown hin hlocks hml hW hS ls hl
  unfold fX1_expandAll at hs0
  have hoff : ∀ j, nel j [2802, 3101, 3102] = false → m0 j = m0 j := off0
  have hoffa : ∀ j, nel j [30, 33, 35, 37, 38] = false → a0 j = a0 j := off0
  refine lv_iconst (v := 0) hx hb dX1_expandAll_0 (by decide) ?_
  refine lv_istore_n (lv' := [(2, .int 0), (0, .ref (q 28)), (1, .ref (q kr))]) hx hb dX1_expandAll_1 rfl hl (by decide) rfl (fun ls hl => ?_)
  refine lv_iconst (v := 0) hx hb dX1_expandAll_2 (by decide) ?_
  refine lv_istore_n (lv' := [(3, .int 0), (2, .int 0), (0, .ref (q 28)), (1, .ref (q kr))]) hx hb dX1_expandAll_3 rfl hl (by decide) rfl (fun ls hl => ?_)
  obtain ⟨r1, hg1, hs0⟩ := obind hs0
  have hE1_96 : ∀ (t1_96 : Int32 × Int32 × Int32 × (Nat → Int32) × (Nat → Int32) × (Nat → Int32) × (Nat → Int32) × (Nat → Int64)) (hr1 : Sum.inl t1_96 = r1) (m : Nat → Value) (a : Nat → vp_A) (H : Heap) (locs : List Loc) (w_x28_2 : m 2802 = .int t1_96.1) (w_x31_1 : m 3101 = .int t1_96.2.1) (w_x31_2 : m 3102 = .int t1_96.2.2.1) (hoff : ∀ j, nel j [2802, 3101, 3102] = false → m j = m0 j) (hsh : SH q m) (w_A30 : a 30 = (6001, .inl t1_96.2.2.2.1)) (w_A33 : a 33 = (10, .inl t1_96.2.2.2.2.1)) (w_A35 : a 35 = (60000, .inl t1_96.2.2.2.2.2.1)) (w_A37 : a 37 = (16384, .inl t1_96.2.2.2.2.2.2.1)) (w_A38 : a 38 = (6000, .inr (.inl t1_96.2.2.2.2.2.2.2))) (hoffa : ∀ j, nel j [30, 33, 35, 37, 38] = false → a j = a0 j) (ls : Array Slot) (hl : lv_has ls 8 []) (hW : GW D cy (gA N q s.heap.size) N q m a s H) (hS : va_S (gA N q s.heap.size) s.heap H locs), W p l e ({ frames := 4, cells := 0, slots := 0, locals := 97 } : Room) s M args below meth c H locs 0 0 (MQ below (va_Qi (fun (r : Int32) (u : (Nat → Value) × (Nat → vp_A)) => r = X0.1 ∧ u.1 2802 = .int X0.2.1 ∧ u.1 3101 = .int X0.2.2.1 ∧ u.1 3102 = .int X0.2.2.2.1 ∧ (∀ j, nel j [2802, 3101, 3102] = false → u.1 j = m0 j) ∧ u.2 30 = (6001, .inl X0.2.2.2.2.1) ∧ u.2 33 = (10, .inl X0.2.2.2.2.2.1) ∧ u.2 35 = (60000, .inl X0.2.2.2.2.2.2.1) ∧ u.2 37 = (16384, .inl X0.2.2.2.2.2.2.2.1) ∧ u.2 38 = (6000, .inr (.inl X0.2.2.2.2.2.2.2.2)) ∧ (∀ j, nel j [30, 33, 35, 37, 38] = false → u.2 j = a0 j)) (gB D cy N q s.heap.size) (gA N q s.heap.size)) args s 0 0 (gA N q s.heap.size)) (F0 M 96 ls []) := by
    intro t1_96 hr1 m a H locs w_x28_2 w_x31_1 w_x31_2 hoff hsh w_A30 w_A33 w_A35 w_A37 w_A38 hoffa ls hl hW hS
    subst hr1
    have hs0 := osum_l hs0
    refine lv_iconst (v := 0) hx hb dX1_expandAll_96 (by decide) ?_
    have hs0 := Option.some.inj hs0
    subst hs0
    exact W.zret hx hb hr rfl (fun t ht hw => ⟨⟨_, (m, a), rfl, ⟨rfl, w_x28_2, w_x31_1, w_x31_2, hoff, w_A30, w_A33, w_A35, w_A37, w_A38, hoffa⟩, g_end hW ht hw⟩, hS.F ht⟩) hS.2.2 dX1_expandAll_97 hlocks
  have hE1_145 : ∀ (t1_145 : Int32 × Int32 × Int32 × (Nat → Int32) × (Nat → Int32) × (Nat → Int32) × (Nat → Int32) × (Nat → Int64)) (hr1 : Sum.inr (t1_145) = r1) (m : Nat → Value) (a : Nat → vp_A) (H : Heap) (locs : List Loc) (w_x28_2 : m 2802 = .int t1_145.1) (w_x31_1 : m 3101 = .int t1_145.2.1) (w_x31_2 : m 3102 = .int t1_145.2.2.1) (hoff : ∀ j, nel j [2802, 3101, 3102] = false → m j = m0 j) (hsh : SH q m) (w_A30 : a 30 = (6001, .inl t1_145.2.2.2.1)) (w_A33 : a 33 = (10, .inl t1_145.2.2.2.2.1)) (w_A35 : a 35 = (60000, .inl t1_145.2.2.2.2.2.1)) (w_A37 : a 37 = (16384, .inl t1_145.2.2.2.2.2.2.1)) (w_A38 : a 38 = (6000, .inr (.inl t1_145.2.2.2.2.2.2.2))) (hoffa : ∀ j, nel j [30, 33, 35, 37, 38] = false → a j = a0 j) (ls : Array Slot) (hl : lv_has ls 8 []) (hW : GW D cy (gA N q s.heap.size) N q m a s H) (hS : va_S (gA N q s.heap.size) s.heap H locs), W p l e ({ frames := 4, cells := 0, slots := 0, locals := 97 } : Room) s M args below meth c H locs 0 0 (MQ below (va_Qi (fun (r : Int32) (u : (Nat → Value) × (Nat → vp_A)) => r = X0.1 ∧ u.1 2802 = .int X0.2.1 ∧ u.1 3101 = .int X0.2.2.1 ∧ u.1 3102 = .int X0.2.2.2.1 ∧ (∀ j, nel j [2802, 3101, 3102] = false → u.1 j = m0 j) ∧ u.2 30 = (6001, .inl X0.2.2.2.2.1) ∧ u.2 33 = (10, .inl X0.2.2.2.2.2.1) ∧ u.2 35 = (60000, .inl X0.2.2.2.2.2.2.1) ∧ u.2 37 = (16384, .inl X0.2.2.2.2.2.2.2.1) ∧ u.2 38 = (6000, .inr (.inl X0.2.2.2.2.2.2.2.2)) ∧ (∀ j, nel j [30, 33, 35, 37, 38] = false → u.2 j = a0 j)) (gB D cy N q s.heap.size) (gA N q s.heap.size)) args s 0 0 (gA N q s.heap.size)) (F0 M 145 ls []) := by
    intro t1_145 hr1 m a H locs w_x28_2 w_x31_1 w_x31_2 hoff hsh w_A30 w_A33 w_A35 w_A37 w_A38 hoffa ls hl hW hS
    subst hr1
    have hs0 := osum_r hs0
    refine lv_iconst (v := 1) hx hb dX1_expandAll_145 (by decide) ?_
    have hs0 := Option.some.inj hs0
    subst hs0
    exact W.zret hx hb hr rfl (fun t ht hw => ⟨⟨_, (m, a), rfl, ⟨rfl, w_x28_2, w_x31_1, w_x31_2, hoff, w_A30, w_A33, w_A35, w_A37, w_A38, hoffa⟩, g_end hW ht hw⟩, hS.F ht⟩) hS.2.2 dX1_expandAll_146 hlocks
  have hL1 : ∀ (n : Nat) (v2k1 : Int32) (v3k1 : Int32) (x28_2k1 : Int32) (x31_1k1 : Int32) (x31_2k1 : Int32) (A30k1 : Nat → Int32) (A33k1 : Nat → Int32) (A35k1 : Nat → Int32) (A37k1 : Nat → Int32) (A38k1 : Nat → Int64) (m : Nat → Value) (a : Nat → vp_A) (H : Heap) (locs : List Loc) (w_x28_2 : m 2802 = .int x28_2k1) (w_x31_1 : m 3101 = .int x31_1k1) (w_x31_2 : m 3102 = .int x31_2k1) (hoff : ∀ j, nel j [2802, 3101, 3102] = false → m j = m0 j) (hsh : SH q m) (w_A30 : a 30 = (6001, .inl A30k1)) (w_A33 : a 33 = (10, .inl A33k1)) (w_A35 : a 35 = (60000, .inl A35k1)) (w_A37 : a 37 = (16384, .inl A37k1)) (w_A38 : a 38 = (6000, .inr (.inl A38k1))) (hoffa : ∀ j, nel j [30, 33, 35, 37, 38] = false → a j = a0 j) (ls : Array Slot) (hl : lv_has ls 8 [(0, .ref (q 28)), (1, .ref (q kr)), (2, .int v2k1), (3, .int v3k1)]) (hg1 : gloop (fun u1 : (Int32 × Int32 × Int32 × Int32 × Int32 × (Nat → Int32) × (Nat → Int32) × (Nat → Int32) × (Nat → Int32) × (Nat → Int64)) => fX1_expandAll_S4 F xkr_0 xkr_1 xkr_2 xkr_3 u1.1 u1.2.1 u1.2.2.1 u1.2.2.2.1 u1.2.2.2.2.1 u1.2.2.2.2.2.1 u1.2.2.2.2.2.2.1 u1.2.2.2.2.2.2.2.1 u1.2.2.2.2.2.2.2.2.1 u1.2.2.2.2.2.2.2.2.2) n (v2k1, v3k1, x28_2k1, x31_1k1, x31_2k1, A30k1, A33k1, A35k1, A37k1, A38k1) = some r1) (hW : GW D cy (gA N q s.heap.size) N q m a s H) (hS : va_S (gA N q s.heap.size) s.heap H locs), W p l e ({ frames := 4, cells := 0, slots := 0, locals := 97 } : Room) s M args below meth c H locs 0 0 (MQ below (va_Qi (fun (r : Int32) (u : (Nat → Value) × (Nat → vp_A)) => r = X0.1 ∧ u.1 2802 = .int X0.2.1 ∧ u.1 3101 = .int X0.2.2.1 ∧ u.1 3102 = .int X0.2.2.2.1 ∧ (∀ j, nel j [2802, 3101, 3102] = false → u.1 j = m0 j) ∧ u.2 30 = (6001, .inl X0.2.2.2.2.1) ∧ u.2 33 = (10, .inl X0.2.2.2.2.2.1) ∧ u.2 35 = (60000, .inl X0.2.2.2.2.2.2.1) ∧ u.2 37 = (16384, .inl X0.2.2.2.2.2.2.2.1) ∧ u.2 38 = (6000, .inr (.inl X0.2.2.2.2.2.2.2.2)) ∧ (∀ j, nel j [30, 33, 35, 37, 38] = false → u.2 j = a0 j)) (gB D cy N q s.heap.size) (gA N q s.heap.size)) args s 0 0 (gA N q s.heap.size)) (F0 M 4 ls []) := by
    intro n
    induction n with
    | zero => intro v2k1 v3k1 x28_2k1 x31_1k1 x31_2k1 A30k1 A33k1 A35k1 A37k1 A38k1 m a H locs w_x28_2 w_x31_1 w_x31_2 hoff hsh w_A30 w_A33 w_A35 w_A37 w_A38 hoffa ls hl hg1 hW hS; exact (gl_zero hg1).elim
    | succ n ih1 =>
      intro v2k1 v3k1 x28_2k1 x31_1k1 x31_2k1 A30k1 A33k1 A35k1 A37k1 A38k1 m a H locs w_x28_2 w_x31_1 w_x31_2 hoff hsh w_A30 w_A33 w_A35 w_A37 w_A38 hoffa ls hl hg1 hW hS
      obtain ⟨X1, hs1, hXl1, hXr1⟩ := gl_succ hg1
      have hs1 : fX1_expandAll_S4 F xkr_0 xkr_1 xkr_2 xkr_3 v2k1 v3k1 x28_2k1 x31_1k1 x31_2k1 A30k1 A33k1 A35k1 A37k1 A38k1 = some X1 := hs1
      unfold fX1_expandAll_S4 at hs1
      have hJ128_1 : ∀ (v2j44 : Int32) (v3j44 : Int32) (x28_2j44 : Int32) (x31_1j44 : Int32) (x31_2j44 : Int32) (A30j44 : Nat → Int32) (A33j44 : Nat → Int32) (A35j44 : Nat → Int32) (A37j44 : Nat → Int32) (A38j44 : Nat → Int64) (m : Nat → Value) (a : Nat → vp_A) (H : Heap) (locs : List Loc) (w_x28_2 : m 2802 = .int x28_2j44) (w_x31_1 : m 3101 = .int x31_1j44) (w_x31_2 : m 3102 = .int x31_2j44) (hoff : ∀ j, nel j [2802, 3101, 3102] = false → m j = m0 j) (hsh : SH q m) (w_A30 : a 30 = (6001, .inl A30j44)) (w_A33 : a 33 = (10, .inl A33j44)) (w_A35 : a 35 = (60000, .inl A35j44)) (w_A37 : a 37 = (16384, .inl A37j44)) (w_A38 : a 38 = (6000, .inr (.inl A38j44))) (hoffa : ∀ j, nel j [30, 33, 35, 37, 38] = false → a j = a0 j) (ls : Array Slot) (hl : lv_has ls 8 [(0, .ref (q 28)), (1, .ref (q kr)), (2, .int v2j44), (3, .int v3j44)]) (hs1 : fX1_expandAll_J128 F xkr_0 xkr_1 xkr_2 xkr_3 v2j44 v3j44 x28_2j44 x31_1j44 x31_2j44 A30j44 A33j44 A35j44 A37j44 A38j44 = some X1) (hW : GW D cy (gA N q s.heap.size) N q m a s H) (hS : va_S (gA N q s.heap.size) s.heap H locs), W p l e ({ frames := 4, cells := 0, slots := 0, locals := 97 } : Room) s M args below meth c H locs 0 0 (MQ below (va_Qi (fun (r : Int32) (u : (Nat → Value) × (Nat → vp_A)) => r = X0.1 ∧ u.1 2802 = .int X0.2.1 ∧ u.1 3101 = .int X0.2.2.1 ∧ u.1 3102 = .int X0.2.2.2.1 ∧ (∀ j, nel j [2802, 3101, 3102] = false → u.1 j = m0 j) ∧ u.2 30 = (6001, .inl X0.2.2.2.2.1) ∧ u.2 33 = (10, .inl X0.2.2.2.2.2.1) ∧ u.2 35 = (60000, .inl X0.2.2.2.2.2.2.1) ∧ u.2 37 = (16384, .inl X0.2.2.2.2.2.2.2.1) ∧ u.2 38 = (6000, .inr (.inl X0.2.2.2.2.2.2.2.2)) ∧ (∀ j, nel j [30, 33, 35, 37, 38] = false → u.2 j = a0 j)) (gB D cy N q s.heap.size) (gA N q s.heap.size)) args s 0 0 (gA N q s.heap.size)) (F0 M 128 ls []) := by
        intro v2j44 v3j44 x28_2j44 x31_1j44 x31_2j44 A30j44 A33j44 A35j44 A37j44 A38j44 m a H locs w_x28_2 w_x31_1 w_x31_2 hoff hsh w_A30 w_A33 w_A35 w_A37 w_A38 hoffa ls hl hs1 hW hS
        unfold fX1_expandAll_J128 at hs1
        refine lv_aload_n hx hb dX1_expandAll_128 rfl (lv_at hl 0 rfl) ?_
        refine gf1_0 hx hb hG hown hW (o := 28) (ltN hN 28 rfl) gk28 (v := .ref (q 29)) (sh28_0 hsh) gx109 dX1_expandAll_129 ?_
        refine lv_iload_n hx hb dX1_expandAll_132 rfl (lv_at hl 3 rfl) ?_
        refine lv_iconst (v := 1) hx hb dX1_expandAll_133 (by decide) ?_
        refine lv_iadd hx hb dX1_expandAll_134 ?_
        refine lv_iload_n hx hb dX1_expandAll_135 rfl (lv_at hl 2 rfl) ?_
        refine g_Vv (n := 2) hx hb hml hown hG hW hS [.int (v3j44 + 1), .int v2j44] (kX2_put (ltN hN 29 rfl) gk29 (ltN hN 30 rfl) gk30 (sh29_0 hsh) (by decide) w_A30 (v3j44 + 1) v2j44) (ltN hN 29 rfl) gk29 (by decide) rfl rfl (gd_V gx676 gx551 gx552 gx47 gx553) rfl rfl (by decide) ⟨Nat.le_of_ble_eq_true rfl, Nat.le_of_ble_eq_true rfl⟩ rfl hl (Nat.le_of_ble_eq_true rfl) ⟨Nat.zero_le _, Nat.zero_le _⟩ dX1_expandAll_136 (fun m55 a55 H locs hp55 hW hS => ?_)
        obtain ⟨hm55, hp55_A30, hoa55⟩ := hp55
        rw [hm55] at hW
        have w_A30 : a55 30 = (6001, .inl (cPut 6001 A30j44 (v3j44 + 1) v2j44)) := hp55_A30
        have w_A33 : a55 33 = (10, .inl A33j44) := (hoa55 33 rfl).trans w_A33
        have w_A35 : a55 35 = (60000, .inl A35j44) := (hoa55 35 rfl).trans w_A35
        have w_A37 : a55 37 = (16384, .inl A37j44) := (hoa55 37 rfl).trans w_A37
        have w_A38 : a55 38 = (6000, .inr (.inl A38j44)) := (hoa55 38 rfl).trans w_A38
        have hoffa := offm hoffa hoa55 (by decide +kernel)
        refine lv_iinc (v := v3j44 + 1) (lv' := [(3, .int (v3j44 + 1)), (0, .ref (q 28)), (1, .ref (q kr)), (2, .int v2j44)]) hx hb dX1_expandAll_139 hl (k := 3) rfl rfl (by decide) rfl (fun ls hl => ?_)
        refine lv_goto (tgt := 4) hx hb dX1_expandAll_142 (by decide) ?_
        exact ih1 v2j44 (v3j44 + 1) x28_2j44 x31_1j44 x31_2j44 (cPut 6001 A30j44 (v3j44 + 1) v2j44) A33j44 A35j44 A37j44 A38j44 m a55 _ _ w_x28_2 w_x31_1 w_x31_2 hoff hsh w_A30 w_A33 w_A35 w_A37 w_A38 hoffa ls (lv_sub hl [1, 2, 3, 0] rfl) (hXr1 _ (Option.some.inj hs1).symm) hW hS
      refine lv_iload_n hx hb dX1_expandAll_4 rfl (lv_at hl 3 rfl) ?_
      refine lv_aload_n hx hb dX1_expandAll_5 rfl (lv_at hl 0 rfl) ?_
      refine gf1_2 hx hb hG hown hW (o := 28) (ltN hN 28 rfl) gk28 (v := .int x28_2k1) w_x28_2 gx675 dX1_expandAll_6 ?_
      refine lv_icmp_ge (tgt := 145) hx hb dX1_expandAll_9 (by decide) (fun c29 => ?_) (fun c29 => ?_)
      · rw [if_pos c29] at hs1
        exact hE1_145 (x28_2k1, x31_1k1, x31_2k1, A30k1, A33k1, A35k1, A37k1, A38k1) (hXl1 _ (Option.some.inj hs1).symm) m a _ _ w_x28_2 w_x31_1 w_x31_2 hoff hsh w_A30 w_A33 w_A35 w_A37 w_A38 hoffa ls (lv_sub hl [] rfl) hW hS
      · rw [if_neg c29] at hs1
        refine lv_iload_n hx hb dX1_expandAll_12 rfl (lv_at hl 3 rfl) ?_
        refine lv_sipush (v := 6000) hx hb dX1_expandAll_13 (by decide) ?_
        refine lv_icmp_ge (tgt := 145) hx hb dX1_expandAll_16 (by decide) (fun c30 => ?_) (fun c30 => ?_)
        · rw [if_pos c30] at hs1
          exact hE1_145 (x28_2k1, x31_1k1, x31_2k1, A30k1, A33k1, A35k1, A37k1, A38k1) (hXl1 _ (Option.some.inj hs1).symm) m a _ _ w_x28_2 w_x31_1 w_x31_2 hoff hsh w_A30 w_A33 w_A35 w_A37 w_A38 hoffa ls (lv_sub hl [] rfl) hW hS
        · rw [if_neg c30] at hs1
          refine lv_aload_n hx hb dX1_expandAll_19 rfl (lv_at hl 0 rfl) ?_
          refine gf1_1 hx hb hG hown hW (o := 28) (ltN hN 28 rfl) gk28 (v := .ref (q 31)) (sh28_1 hsh) gx111 dX1_expandAll_20 ?_
          refine lv_aload_n hx hb dX1_expandAll_23 rfl (lv_at hl 1 rfl) ?_
          refine lv_aload_n hx hb dX1_expandAll_24 rfl (lv_at hl 0 rfl) ?_
          refine lv_iload_n hx hb dX1_expandAll_25 rfl (lv_at hl 3 rfl) ?_
          obtain ⟨r31, hf31, hs1⟩ := obind hs1
          refine g_VlR (n := 1) hx hb hml hown hG hW hS [.int v3k1] (kX1_stateAt hN hsh w_A38 v3k1 hf31) (ltN hN 28 rfl) gk28 (by decide) rfl rfl (gd_V gx692 gx693 gx694 gx86 gx695) rfl rfl (by decide) ⟨Nat.le_of_ble_eq_true rfl, Nat.le_of_ble_eq_true rfl⟩ rfl hl (Nat.le_of_ble_eq_true rfl) ⟨Nat.zero_le _, Nat.zero_le _⟩ dX1_expandAll_26 (fun H locs hW hS => ?_)
          refine lv_iconst (v := 1) hx hb dX1_expandAll_29 (by decide) ?_
          obtain ⟨r32, hf32, hs1⟩ := obind hs1
          refine g_Vv (n := 3) hx hb hml hown hG hW hS [.ref (q kr), .long r31, .int 1] (kX0_list_31 hN hsh hkr hgk ((off_kr hoff hgk 1 rfl (by decide)).trans h_xkr_1) ((off_kr hoff hgk 2 rfl (by decide)).trans h_xkr_2) w_x31_1 w_x31_2 w_A33 F r31 1 hf32) (ltN hN 31 rfl) gk31 (by decide) rfl rfl (gd_V gx703 gx540 gx541 gx23 gx542) rfl rfl (by decide) ⟨Nat.le_of_ble_eq_true rfl, Nat.le_of_ble_eq_true rfl⟩ rfl hl (Nat.le_of_ble_eq_true rfl) ⟨Nat.zero_le _, Nat.zero_le _⟩ dX1_expandAll_30 (fun m32 a32 H locs hp32 hW hS => ?_)
          obtain ⟨hp32_x31_1, hp32_x31_2, ho32, hp32_A33, hoa32⟩ := hp32
          have w_x28_2 : m32 2802 = .int x28_2k1 := (ho32 2802 rfl).trans w_x28_2
          have w_x31_1 : m32 3101 = .int r32.1 := hp32_x31_1
          have w_x31_2 : m32 3102 = .int r32.2.1 := hp32_x31_2
          have hoff := offm hoff ho32 (by decide +kernel)
          have hsh := SH.off hsh ho32 (by decide +kernel)
          have w_A30 : a32 30 = (6001, .inl A30k1) := (hoa32 30 rfl).trans w_A30
          have w_A33 : a32 33 = (10, .inl r32.2.2) := hp32_A33
          have w_A35 : a32 35 = (60000, .inl A35k1) := (hoa32 35 rfl).trans w_A35
          have w_A37 : a32 37 = (16384, .inl A37k1) := (hoa32 37 rfl).trans w_A37
          have w_A38 : a32 38 = (6000, .inr (.inl A38k1)) := (hoa32 38 rfl).trans w_A38
          have hoffa := offm hoffa hoa32 (by decide +kernel)
          refine lv_iconst (v := 0) hx hb dX1_expandAll_33 (by decide) ?_
          refine lv_istore (lv' := [(4, .int 0), (0, .ref (q 28)), (1, .ref (q kr)), (2, .int v2k1), (3, .int v3k1)]) hx hb dX1_expandAll_34 hl (by decide) rfl (fun ls hl => ?_)
          obtain ⟨r33, hg33, hs1⟩ := obind hs1
          have hE2_96 : ∀ (t33_96 : Int32 × (Nat → Int32) × (Nat → Int32) × (Nat → Int64)) (hr33 : Sum.inl t33_96 = r33) (m : Nat → Value) (a : Nat → vp_A) (H : Heap) (locs : List Loc) (w_x28_2 : m 2802 = .int t33_96.1) (w_x31_1 : m 3101 = .int r32.1) (w_x31_2 : m 3102 = .int r32.2.1) (hoff : ∀ j, nel j [2802, 3101, 3102] = false → m j = m0 j) (hsh : SH q m) (w_A30 : a 30 = (6001, .inl A30k1)) (w_A33 : a 33 = (10, .inl r32.2.2)) (w_A35 : a 35 = (60000, .inl t33_96.2.1)) (w_A37 : a 37 = (16384, .inl t33_96.2.2.1)) (w_A38 : a 38 = (6000, .inr (.inl t33_96.2.2.2))) (hoffa : ∀ j, nel j [30, 33, 35, 37, 38] = false → a j = a0 j) (ls : Array Slot) (hl : lv_has ls 8 []) (hW : GW D cy (gA N q s.heap.size) N q m a s H) (hS : va_S (gA N q s.heap.size) s.heap H locs), W p l e ({ frames := 4, cells := 0, slots := 0, locals := 97 } : Room) s M args below meth c H locs 0 0 (MQ below (va_Qi (fun (r : Int32) (u : (Nat → Value) × (Nat → vp_A)) => r = X0.1 ∧ u.1 2802 = .int X0.2.1 ∧ u.1 3101 = .int X0.2.2.1 ∧ u.1 3102 = .int X0.2.2.2.1 ∧ (∀ j, nel j [2802, 3101, 3102] = false → u.1 j = m0 j) ∧ u.2 30 = (6001, .inl X0.2.2.2.2.1) ∧ u.2 33 = (10, .inl X0.2.2.2.2.2.1) ∧ u.2 35 = (60000, .inl X0.2.2.2.2.2.2.1) ∧ u.2 37 = (16384, .inl X0.2.2.2.2.2.2.2.1) ∧ u.2 38 = (6000, .inr (.inl X0.2.2.2.2.2.2.2.2)) ∧ (∀ j, nel j [30, 33, 35, 37, 38] = false → u.2 j = a0 j)) (gB D cy N q s.heap.size) (gA N q s.heap.size)) args s 0 0 (gA N q s.heap.size)) (F0 M 96 ls []) := by
            intro t33_96 hr33 m a H locs w_x28_2 w_x31_1 w_x31_2 hoff hsh w_A30 w_A33 w_A35 w_A37 w_A38 hoffa ls hl hW hS
            subst hr33
            have hs1 := osum_l hs1
            exact hE1_96 (t33_96.1, r32.1, r32.2.1, A30k1, r32.2.2, t33_96.2.1, t33_96.2.2.1, t33_96.2.2.2) (hXl1 _ (Option.some.inj hs1).symm) m a _ _ w_x28_2 w_x31_1 w_x31_2 hoff hsh w_A30 w_A33 w_A35 w_A37 w_A38 hoffa ls (lv_sub hl [] rfl) hW hS
          have hE2_128 : ∀ (t33_128 : Int32 × Int32 × (Nat → Int32) × (Nat → Int32) × (Nat → Int64)) (hr33 : Sum.inr (t33_128) = r33) (m : Nat → Value) (a : Nat → vp_A) (H : Heap) (locs : List Loc) (w_x28_2 : m 2802 = .int t33_128.2.1) (w_x31_1 : m 3101 = .int r32.1) (w_x31_2 : m 3102 = .int r32.2.1) (hoff : ∀ j, nel j [2802, 3101, 3102] = false → m j = m0 j) (hsh : SH q m) (w_A30 : a 30 = (6001, .inl A30k1)) (w_A33 : a 33 = (10, .inl r32.2.2)) (w_A35 : a 35 = (60000, .inl t33_128.2.2.1)) (w_A37 : a 37 = (16384, .inl t33_128.2.2.2.1)) (w_A38 : a 38 = (6000, .inr (.inl t33_128.2.2.2.2))) (hoffa : ∀ j, nel j [30, 33, 35, 37, 38] = false → a j = a0 j) (ls : Array Slot) (hl : lv_has ls 8 [(0, .ref (q 28)), (1, .ref (q kr)), (2, .int t33_128.1), (3, .int v3k1)]) (hW : GW D cy (gA N q s.heap.size) N q m a s H) (hS : va_S (gA N q s.heap.size) s.heap H locs), W p l e ({ frames := 4, cells := 0, slots := 0, locals := 97 } : Room) s M args below meth c H locs 0 0 (MQ below (va_Qi (fun (r : Int32) (u : (Nat → Value) × (Nat → vp_A)) => r = X0.1 ∧ u.1 2802 = .int X0.2.1 ∧ u.1 3101 = .int X0.2.2.1 ∧ u.1 3102 = .int X0.2.2.2.1 ∧ (∀ j, nel j [2802, 3101, 3102] = false → u.1 j = m0 j) ∧ u.2 30 = (6001, .inl X0.2.2.2.2.1) ∧ u.2 33 = (10, .inl X0.2.2.2.2.2.1) ∧ u.2 35 = (60000, .inl X0.2.2.2.2.2.2.1) ∧ u.2 37 = (16384, .inl X0.2.2.2.2.2.2.2.1) ∧ u.2 38 = (6000, .inr (.inl X0.2.2.2.2.2.2.2.2)) ∧ (∀ j, nel j [30, 33, 35, 37, 38] = false → u.2 j = a0 j)) (gB D cy N q s.heap.size) (gA N q s.heap.size)) args s 0 0 (gA N q s.heap.size)) (F0 M 128 ls []) := by
            intro t33_128 hr33 m a H locs w_x28_2 w_x31_1 w_x31_2 hoff hsh w_A30 w_A33 w_A35 w_A37 w_A38 hoffa ls hl hW hS
            subst hr33
            have hs1 := osum_r hs1
            exact hJ128_1 t33_128.1 v3k1 t33_128.2.1 r32.1 r32.2.1 A30k1 r32.2.2 t33_128.2.2.1 t33_128.2.2.2.1 t33_128.2.2.2.2 m a _ _ w_x28_2 w_x31_1 w_x31_2 hoff hsh w_A30 w_A33 w_A35 w_A37 w_A38 hoffa ls (lv_sub hl [0, 1, 2, 3] rfl) hs1 hW hS
          have hL2 : ∀ (n : Nat) (v2k33 : Int32) (v4k33 : Int32) (x28_2k33 : Int32) (A35k33 : Nat → Int32) (A37k33 : Nat → Int32) (A38k33 : Nat → Int64) (m : Nat → Value) (a : Nat → vp_A) (H : Heap) (locs : List Loc) (w_x28_2 : m 2802 = .int x28_2k33) (w_x31_1 : m 3101 = .int r32.1) (w_x31_2 : m 3102 = .int r32.2.1) (hoff : ∀ j, nel j [2802, 3101, 3102] = false → m j = m0 j) (hsh : SH q m) (w_A30 : a 30 = (6001, .inl A30k1)) (w_A33 : a 33 = (10, .inl r32.2.2)) (w_A35 : a 35 = (60000, .inl A35k33)) (w_A37 : a 37 = (16384, .inl A37k33)) (w_A38 : a 38 = (6000, .inr (.inl A38k33))) (hoffa : ∀ j, nel j [30, 33, 35, 37, 38] = false → a j = a0 j) (ls : Array Slot) (hl : lv_has ls 8 [(0, .ref (q 28)), (1, .ref (q kr)), (2, .int v2k33), (3, .int v3k1), (4, .int v4k33)]) (hg33 : gloop (fun u33 : (Int32 × Int32 × Int32 × (Nat → Int32) × (Nat → Int32) × (Nat → Int64)) => fX1_expandAll_S36 F xkr_0 xkr_1 xkr_2 xkr_3 v3k1 r32.1 r32.2.1 A30k1 r32.2.2 u33.1 u33.2.1 u33.2.2.1 u33.2.2.2.1 u33.2.2.2.2.1 u33.2.2.2.2.2) n (v2k33, v4k33, x28_2k33, A35k33, A37k33, A38k33) = some r33) (hW : GW D cy (gA N q s.heap.size) N q m a s H) (hS : va_S (gA N q s.heap.size) s.heap H locs), W p l e ({ frames := 4, cells := 0, slots := 0, locals := 97 } : Room) s M args below meth c H locs 0 0 (MQ below (va_Qi (fun (r : Int32) (u : (Nat → Value) × (Nat → vp_A)) => r = X0.1 ∧ u.1 2802 = .int X0.2.1 ∧ u.1 3101 = .int X0.2.2.1 ∧ u.1 3102 = .int X0.2.2.2.1 ∧ (∀ j, nel j [2802, 3101, 3102] = false → u.1 j = m0 j) ∧ u.2 30 = (6001, .inl X0.2.2.2.2.1) ∧ u.2 33 = (10, .inl X0.2.2.2.2.2.1) ∧ u.2 35 = (60000, .inl X0.2.2.2.2.2.2.1) ∧ u.2 37 = (16384, .inl X0.2.2.2.2.2.2.2.1) ∧ u.2 38 = (6000, .inr (.inl X0.2.2.2.2.2.2.2.2)) ∧ (∀ j, nel j [30, 33, 35, 37, 38] = false → u.2 j = a0 j)) (gB D cy N q s.heap.size) (gA N q s.heap.size)) args s 0 0 (gA N q s.heap.size)) (F0 M 36 ls []) := by
            intro n
            induction n with
            | zero => intro v2k33 v4k33 x28_2k33 A35k33 A37k33 A38k33 m a H locs w_x28_2 w_x31_1 w_x31_2 hoff hsh w_A30 w_A33 w_A35 w_A37 w_A38 hoffa ls hl hg33 hW hS; exact (gl_zero hg33).elim
            | succ n ih2 =>
              intro v2k33 v4k33 x28_2k33 A35k33 A37k33 A38k33 m a H locs w_x28_2 w_x31_1 w_x31_2 hoff hsh w_A30 w_A33 w_A35 w_A37 w_A38 hoffa ls hl hg33 hW hS
              obtain ⟨X2, hs2, hXl2, hXr2⟩ := gl_succ hg33
              have hs2 : fX1_expandAll_S36 F xkr_0 xkr_1 xkr_2 xkr_3 v3k1 r32.1 r32.2.1 A30k1 r32.2.2 v2k33 v4k33 x28_2k33 A35k33 A37k33 A38k33 = some X2 := hs2
              unfold fX1_expandAll_S36 at hs2
              refine lv_iload hx hb dX1_expandAll_36 (lv_at hl 4 rfl) ?_
              refine lv_aload_n hx hb dX1_expandAll_38 rfl (lv_at hl 0 rfl) ?_
              refine gf1_1 hx hb hG hown hW (o := 28) (ltN hN 28 rfl) gk28 (v := .ref (q 31)) (sh28_1 hsh) gx111 dX1_expandAll_39 ?_
              refine gf0_1 hx hb hG hown hW (o := 31) (ltN hN 31 rfl) gk31 (v := .int r32.1) w_x31_1 gx700 dX1_expandAll_42 ?_
              refine lv_icmp_ge (tgt := 128) hx hb dX1_expandAll_45 (by decide) (fun c45 => ?_) (fun c45 => ?_)
              · rw [if_pos c45] at hs2
                exact hE2_128 (v2k33, x28_2k33, A35k33, A37k33, A38k33) (hXl2 _ (Option.some.inj hs2).symm) m a _ _ w_x28_2 w_x31_1 w_x31_2 hoff hsh w_A30 w_A33 w_A35 w_A37 w_A38 hoffa ls (lv_sub hl [0, 1, 2, 3] rfl) hW hS
              · rw [if_neg c45] at hs2
                refine lv_iload hx hb dX1_expandAll_48 (lv_at hl 4 rfl) ?_
                refine lv_bipush (v := 10) hx hb dX1_expandAll_50 (by decide) ?_
                refine lv_icmp_ge (tgt := 128) hx hb dX1_expandAll_52 (by decide) (fun c46 => ?_) (fun c46 => ?_)
                · rw [if_pos c46] at hs2
                  exact hE2_128 (v2k33, x28_2k33, A35k33, A37k33, A38k33) (hXl2 _ (Option.some.inj hs2).symm) m a _ _ w_x28_2 w_x31_1 w_x31_2 hoff hsh w_A30 w_A33 w_A35 w_A37 w_A38 hoffa ls (lv_sub hl [0, 1, 2, 3] rfl) hW hS
                · rw [if_neg c46] at hs2
                  refine lv_aload_n hx hb dX1_expandAll_55 rfl (lv_at hl 1 rfl) ?_
                  refine lv_aload_n hx hb dX1_expandAll_56 rfl (lv_at hl 0 rfl) ?_
                  refine lv_iload_n hx hb dX1_expandAll_57 rfl (lv_at hl 3 rfl) ?_
                  obtain ⟨r47, hf47, hs2⟩ := obind hs2
                  refine g_VlR (n := 1) hx hb hml hown hG hW hS [.int v3k1] (kX1_stateAt hN hsh w_A38 v3k1 hf47) (ltN hN 28 rfl) gk28 (by decide) rfl rfl (gd_V gx692 gx693 gx694 gx86 gx695) rfl rfl (by decide) ⟨Nat.le_of_ble_eq_true rfl, Nat.le_of_ble_eq_true rfl⟩ rfl hl (Nat.le_of_ble_eq_true rfl) ⟨Nat.zero_le _, Nat.zero_le _⟩ dX1_expandAll_58 (fun H locs hW hS => ?_)
                  refine lv_aload_n hx hb dX1_expandAll_61 rfl (lv_at hl 0 rfl) ?_
                  refine gf1_1 hx hb hG hown hW (o := 28) (ltN hN 28 rfl) gk28 (v := .ref (q 31)) (sh28_1 hsh) gx111 dX1_expandAll_62 ?_
                  refine gf0_0 hx hb hG hown hW (o := 31) (ltN hN 31 rfl) gk31 (v := .ref (q 32)) (sh31_0 hsh) gx701 dX1_expandAll_65 ?_
                  refine lv_iload hx hb dX1_expandAll_68 (lv_at hl 4 rfl) ?_
                  refine g_ViR (n := 1) hx hb hml hown hG hW hS [.int v4k33] (kX2_at (ltN hN 32 rfl) gk32 (ltN hN 33 rfl) gk33 (sh32_0 hsh) (by decide) w_A33 v4k33) (ltN hN 32 rfl) gk32 (by decide) rfl rfl (gd_V gx687 gx564 gx565 gx47 gx566) rfl rfl (by decide) ⟨Nat.le_of_ble_eq_true rfl, Nat.le_of_ble_eq_true rfl⟩ rfl hl (Nat.le_of_ble_eq_true rfl) ⟨Nat.zero_le _, Nat.zero_le _⟩ dX1_expandAll_70 (fun H locs hW hS => ?_)
                  refine g_VlR (n := 2) hx hb hml hown hG hW hS [.long r47, .int (cAt 10 r32.2.2 v4k33)] (kX7_after hN hkr hgk ((off_kr hoff hgk 0 rfl (by decide)).trans h_xkr_0) ((off_kr hoff hgk 1 rfl (by decide)).trans h_xkr_1) ((off_kr hoff hgk 2 rfl (by decide)).trans h_xkr_2) ((off_kr hoff hgk 3 rfl (by decide)).trans h_xkr_3) r47 (cAt 10 r32.2.2 v4k33)) hkr hgk (by decide) rfl rfl (gd_V gx704 gx423 gx424 gx39 gx425) rfl rfl (by decide) ⟨Nat.le_of_ble_eq_true rfl, Nat.le_of_ble_eq_true rfl⟩ rfl hl (Nat.le_of_ble_eq_true rfl) ⟨Nat.zero_le _, Nat.zero_le _⟩ dX1_expandAll_73 (fun H locs hW hS => ?_)
                  refine lv_lstore (lv' := [(5, .long (fX7_after xkr_0 xkr_1 xkr_2 xkr_3 r47 (cAt 10 r32.2.2 v4k33))), (0, .ref (q 28)), (1, .ref (q kr)), (2, .int v2k33), (3, .int v3k1), (4, .int v4k33)]) hx hb dX1_expandAll_76 hl (by decide) rfl (fun ls hl => ?_)
                  refine lv_aload_n hx hb dX1_expandAll_78 rfl (lv_at hl 1 rfl) ?_
                  refine lv_lload hx hb dX1_expandAll_79 (lv_at hl 0 rfl) ?_
                  refine lv_ldc2 (v := 562949953421311) hx hb hown (hG _ gx702) dX1_expandAll_81 ?_
                  refine lv_land hx hb dX1_expandAll_84 ?_
                  obtain ⟨r50, hf50, hs2⟩ := obind hs2
                  refine g_Vi (n := 1) hx hb hml hown hG hW hS [.long ((fX7_after xkr_0 xkr_1 xkr_2 xkr_3 r47 (cAt 10 r32.2.2 v4k33)) &&& (562949953421311 : Int64))] (kX1_numberOf hN hsh w_x28_2 w_A37 w_A38 F ((fX7_after xkr_0 xkr_1 xkr_2 xkr_3 r47 (cAt 10 r32.2.2 v4k33)) &&& (562949953421311 : Int64)) hf50) (ltN hN 28 rfl) gk28 (by decide) rfl rfl (gd_V gx682 gx683 gx684 gx86 gx685) rfl rfl (by decide) ⟨Nat.le_of_ble_eq_true rfl, Nat.le_of_ble_eq_true rfl⟩ rfl hl (Nat.le_of_ble_eq_true rfl) ⟨Nat.zero_le _, Nat.zero_le _⟩ dX1_expandAll_85 (fun x50 m50 a50 H locs hp50 hW hS => ?_)
                  obtain ⟨hx50, hp50_x28_2, ho50, hp50_A37, hp50_A38, hoa50⟩ := hp50
                  subst hx50
                  have w_x28_2 : m50 2802 = .int r50.2.1 := hp50_x28_2
                  have w_x31_1 : m50 3101 = .int r32.1 := (ho50 3101 rfl).trans w_x31_1
                  have w_x31_2 : m50 3102 = .int r32.2.1 := (ho50 3102 rfl).trans w_x31_2
                  have hoff := offm hoff ho50 (by decide +kernel)
                  have hsh := SH.off hsh ho50 (by decide +kernel)
                  have w_A30 : a50 30 = (6001, .inl A30k1) := (hoa50 30 rfl).trans w_A30
                  have w_A33 : a50 33 = (10, .inl r32.2.2) := (hoa50 33 rfl).trans w_A33
                  have w_A35 : a50 35 = (60000, .inl A35k33) := (hoa50 35 rfl).trans w_A35
                  have w_A37 : a50 37 = (16384, .inl r50.2.2.1) := hp50_A37
                  have w_A38 : a50 38 = (6000, .inr (.inl r50.2.2.2)) := hp50_A38
                  have hoffa := offm hoffa hoa50 (by decide +kernel)
                  refine lv_istore (lv' := [(7, .int r50.1), (5, .long (fX7_after xkr_0 xkr_1 xkr_2 xkr_3 r47 (cAt 10 r32.2.2 v4k33))), (0, .ref (q 28)), (1, .ref (q kr)), (2, .int v2k33), (3, .int v3k1), (4, .int v4k33)]) hx hb dX1_expandAll_88 hl (by decide) rfl (fun ls hl => ?_)
                  refine lv_iload hx hb dX1_expandAll_90 (lv_at hl 0 rfl) ?_
                  refine lv_iconst (v := (-1)) hx hb dX1_expandAll_92 (by decide) ?_
                  refine lv_icmp_ne (tgt := 98) hx hb dX1_expandAll_93 (by decide) (fun c51 => ?_) (fun c51 => ?_)
                  · rw [if_neg c51] at hs2
                    refine lv_aload_n hx hb dX1_expandAll_98 rfl (lv_at hl 2 rfl) ?_
                    refine gf1_4 hx hb hG hown hW (o := 28) (ltN hN 28 rfl) gk28 (v := .ref (q 34)) (sh28_4 hsh) gx113 dX1_expandAll_99 ?_
                    refine lv_iload_n hx hb dX1_expandAll_102 rfl (lv_at hl 4 rfl) ?_
                    refine lv_iconst (v := 4) hx hb dX1_expandAll_103 (by decide) ?_
                    refine lv_iload hx hb dX1_expandAll_104 (lv_at hl 0 rfl) ?_
                    refine lv_imul hx hb dX1_expandAll_106 ?_
                    refine lv_lload hx hb dX1_expandAll_107 (lv_at hl 1 rfl) ?_
                    refine g_SiR (n := 1) hx hb hml hown hG hW hS [.long (fX7_after xkr_0 xkr_1 xkr_2 xkr_3 r47 (cAt 10 r32.2.2 v4k33))] (kX7_outcomeOf hN (fX7_after xkr_0 xkr_1 xkr_2 xkr_3 r47 (cAt 10 r32.2.2 v4k33))) rfl (gd_S gx705 gx479 gx39 gx480) rfl rfl (by decide) ⟨Nat.le_of_ble_eq_true rfl, Nat.le_of_ble_eq_true rfl⟩ rfl hl (Nat.le_of_ble_eq_true rfl) ⟨Nat.zero_le _, Nat.zero_le _⟩ dX1_expandAll_109 (fun H locs hW hS => ?_)
                    refine g_SiR (n := 1) hx hb hml hown hG hW hS [.int (fX7_outcomeOf (fX7_after xkr_0 xkr_1 xkr_2 xkr_3 r47 (cAt 10 r32.2.2 v4k33)))] (kX1_markOf hN (fX7_outcomeOf (fX7_after xkr_0 xkr_1 xkr_2 xkr_3 r47 (cAt 10 r32.2.2 v4k33)))) rfl (gd_S gx706 gx707 gx86 gx708) rfl rfl (by decide) ⟨Nat.le_of_ble_eq_true rfl, Nat.le_of_ble_eq_true rfl⟩ rfl hl (Nat.le_of_ble_eq_true rfl) ⟨Nat.zero_le _, Nat.zero_le _⟩ dX1_expandAll_112 (fun H locs hW hS => ?_)
                    refine lv_iadd hx hb dX1_expandAll_115 ?_
                    refine g_Vv (n := 2) hx hb hml hown hG hW hS [.int v2k33, .int ((4 * r50.1) + (fX1_markOf (fX7_outcomeOf (fX7_after xkr_0 xkr_1 xkr_2 xkr_3 r47 (cAt 10 r32.2.2 v4k33)))))] (kX2_put (ltN hN 34 rfl) gk34 (ltN hN 35 rfl) gk35 (sh34_0 hsh) (by decide) w_A35 v2k33 ((4 * r50.1) + (fX1_markOf (fX7_outcomeOf (fX7_after xkr_0 xkr_1 xkr_2 xkr_3 r47 (cAt 10 r32.2.2 v4k33)))))) (ltN hN 34 rfl) gk34 (by decide) rfl rfl (gd_V gx676 gx551 gx552 gx47 gx553) rfl rfl (by decide) ⟨Nat.le_of_ble_eq_true rfl, Nat.le_of_ble_eq_true rfl⟩ rfl hl (Nat.le_of_ble_eq_true rfl) ⟨Nat.zero_le _, Nat.zero_le _⟩ dX1_expandAll_116 (fun m54 a54 H locs hp54 hW hS => ?_)
                    obtain ⟨hm54, hp54_A35, hoa54⟩ := hp54
                    rw [hm54] at hW
                    have w_A30 : a54 30 = (6001, .inl A30k1) := (hoa54 30 rfl).trans w_A30
                    have w_A33 : a54 33 = (10, .inl r32.2.2) := (hoa54 33 rfl).trans w_A33
                    have w_A35 : a54 35 = (60000, .inl (cPut 60000 A35k33 v2k33 ((4 * r50.1) + (fX1_markOf (fX7_outcomeOf (fX7_after xkr_0 xkr_1 xkr_2 xkr_3 r47 (cAt 10 r32.2.2 v4k33))))))) := hp54_A35
                    have w_A37 : a54 37 = (16384, .inl r50.2.2.1) := (hoa54 37 rfl).trans w_A37
                    have w_A38 : a54 38 = (6000, .inr (.inl r50.2.2.2)) := (hoa54 38 rfl).trans w_A38
                    have hoffa := offm hoffa hoa54 (by decide +kernel)
                    refine lv_iinc (v := v2k33 + 1) (lv' := [(2, .int (v2k33 + 1)), (7, .int r50.1), (5, .long (fX7_after xkr_0 xkr_1 xkr_2 xkr_3 r47 (cAt 10 r32.2.2 v4k33))), (0, .ref (q 28)), (1, .ref (q kr)), (3, .int v3k1), (4, .int v4k33)]) hx hb dX1_expandAll_119 hl (k := 4) rfl rfl (by decide) rfl (fun ls hl => ?_)
                    refine lv_iinc (v := v4k33 + 1) (lv' := [(4, .int (v4k33 + 1)), (2, .int (v2k33 + 1)), (7, .int r50.1), (5, .long (fX7_after xkr_0 xkr_1 xkr_2 xkr_3 r47 (cAt 10 r32.2.2 v4k33))), (0, .ref (q 28)), (1, .ref (q kr)), (3, .int v3k1)]) hx hb dX1_expandAll_122 hl (k := 6) rfl rfl (by decide) rfl (fun ls hl => ?_)
                    refine lv_goto (tgt := 36) hx hb dX1_expandAll_125 (by decide) ?_
                    exact ih2 (v2k33 + 1) (v4k33 + 1) r50.2.1 (cPut 60000 A35k33 v2k33 ((4 * r50.1) + (fX1_markOf (fX7_outcomeOf (fX7_after xkr_0 xkr_1 xkr_2 xkr_3 r47 (cAt 10 r32.2.2 v4k33)))))) r50.2.2.1 r50.2.2.2 m50 a54 _ _ w_x28_2 w_x31_1 w_x31_2 hoff hsh w_A30 w_A33 w_A35 w_A37 w_A38 hoffa ls (lv_sub hl [4, 5, 1, 6, 0] rfl) (hXr2 _ (Option.some.inj hs2).symm) hW hS
                  · rw [if_pos c51] at hs2
                    exact hE2_96 (r50.2.1, A35k33, r50.2.2.1, r50.2.2.2) (hXl2 _ (Option.some.inj hs2).symm) m50 a50 _ _ w_x28_2 w_x31_1 w_x31_2 hoff hsh w_A30 w_A33 w_A35 w_A37 w_A38 hoffa ls (lv_sub hl [] rfl) hW hS
          exact hL2 F v2k1 0 x28_2k1 A35k1 A37k1 A38k1 m32 a32 _ _ w_x28_2 w_x31_1 w_x31_2 hoff hsh w_A30 w_A33 w_A35 w_A37 w_A38 hoffa ls (lv_sub hl [1, 2, 3, 4, 0] rfl) hg33 hW hS
  exact hL1 F 0 0 x28_2 x31_1 x31_2 A30 A33 A35 A37 A38 m0 a0 _ _ h_x28_2 h_x31_1 h_x31_2 hoff hsh h_A30 h_A33 h_A35 h_A37 h_A38 hoffa ls (lv_sub hl [2, 3, 1, 0] rfl) hg1 hW hS
-- HealLink$Atlas.chart (LHealLink$Rules;J)V
def fX1_chart (F : Nat) (xkr_0 : Int32) (xkr_1 : Int32) (xkr_2 : Int32) (xkr_3 : Int32) (x28_2 : Int32) (x28_3 : Int32) (x31_1 : Int32) (x31_2 : Int32) (A30 : Nat → Int32) (A33 : Nat → Int32) (A35 : Nat → Int32) (A37 : Nat → Int32) (A38 : Nat → Int64) (p2 : Int64) : Option (Int32 × Int32 × Int32 × Int32 × (Nat → Int32) × (Nat → Int32) × (Nat → Int32) × (Nat → Int32) × (Nat → Int64)) := ((fX1_numberOf F ((fX1_clear x28_2 A30 A37).1) ((fX1_clear x28_2 A30 A37).2.2) A38 p2).bind (fun r2 => ((fX1_expandAll F xkr_0 xkr_1 xkr_2 xkr_3 r2.2.1 x31_1 x31_2 ((fX1_clear x28_2 A30 A37).2.1) A33 A35 r2.2.2.1 r2.2.2.2).bind (fun r3 => (if bzb r3.1 = true then some (r3.2.1, r3.1, r3.2.2.1, r3.2.2.2.1, r3.2.2.2.2.1, r3.2.2.2.2.2.1, r3.2.2.2.2.2.2.1, r3.2.2.2.2.2.2.2.1, r3.2.2.2.2.2.2.2.2) else none)))))
theorem dX1_chart_0 : decode cX1_chart 0 = .ok (.aload_n 0, 1) := by decide +kernel
theorem dX1_chart_1 : decode cX1_chart 1 = .ok (.invokevirtual 38, 3) := by decide +kernel
theorem dX1_chart_4 : decode cX1_chart 4 = .ok (.aload_n 0, 1) := by decide +kernel
theorem dX1_chart_5 : decode cX1_chart 5 = .ok (.lload_n 2, 1) := by decide +kernel
theorem dX1_chart_6 : decode cX1_chart 6 = .ok (.invokevirtual 41, 3) := by decide +kernel
theorem dX1_chart_9 : decode cX1_chart 9 = .ok (.pop, 1) := by decide +kernel
theorem dX1_chart_10 : decode cX1_chart 10 = .ok (.aload_n 0, 1) := by decide +kernel
theorem dX1_chart_11 : decode cX1_chart 11 = .ok (.aload_n 0, 1) := by decide +kernel
theorem dX1_chart_12 : decode cX1_chart 12 = .ok (.aload_n 1, 1) := by decide +kernel
theorem dX1_chart_13 : decode cX1_chart 13 = .ok (.invokevirtual 45, 3) := by decide +kernel
theorem dX1_chart_16 : decode cX1_chart 16 = .ok (.putfield 49, 3) := by decide +kernel
theorem dX1_chart_19 : decode cX1_chart 19 = .ok (.return_, 1) := by decide +kernel
set_option maxHeartbeats 4000000 in
set_option maxRecDepth 100000 in
theorem kX1_chart {l : Launch} {D : va_G} {cy : Nat → ClassId} {N : Nat} {q : Nat → Nat} {m0 : Nat → Value} {a0 : Nat → vp_A} {sz : Nat} (hN : 105 ≤ N) (hsh : SH q m0) {kr : Nat} (hkr : kr < N) (hgk : gk kr = 7) {xkr_0 : Int32} (h_xkr_0 : m0 (100 * kr + 0) = .int xkr_0) {xkr_1 : Int32} (h_xkr_1 : m0 (100 * kr + 1) = .int xkr_1) {xkr_2 : Int32} (h_xkr_2 : m0 (100 * kr + 2) = .int xkr_2) {xkr_3 : Int32} (h_xkr_3 : m0 (100 * kr + 3) = .int xkr_3) {x28_2 : Int32} (h_x28_2 : m0 2802 = .int x28_2) {x28_3 : Int32} (h_x28_3 : m0 2803 = .int x28_3) {x31_1 : Int32} (h_x31_1 : m0 3101 = .int x31_1) {x31_2 : Int32} (h_x31_2 : m0 3102 = .int x31_2) {A30 : Nat → Int32} (h_A30 : a0 30 = (6001, .inl A30)) {A33 : Nat → Int32} (h_A33 : a0 33 = (10, .inl A33)) {A35 : Nat → Int32} (h_A35 : a0 35 = (60000, .inl A35)) {A37 : Nat → Int32} (h_A37 : a0 37 = (16384, .inl A37)) {A38 : Nat → Int64} (h_A38 : a0 38 = (6000, .inr (.inl A38))) (F : Nat) (p2 : Int64) {X0 : Int32 × Int32 × Int32 × Int32 × (Nat → Int32) × (Nat → Int32) × (Nat → Int32) × (Nat → Int32) × (Nat → Int64)} (hs0 : fX1_chart F xkr_0 xkr_1 xkr_2 xkr_3 x28_2 x28_3 x31_1 x31_2 A30 A33 A35 A37 A38 p2 = some X0) : gMv l yX1_chart cX1_chart 4 none ({ frames := 5, cells := 0, slots := 0, locals := 124 } : Room) D cy N q m0 a0 sz [.ref (q 28), .ref (q kr), .long p2] (fun m' a' => m' 2802 = .int X0.1 ∧ m' 2803 = .int X0.2.1 ∧ m' 3101 = .int X0.2.2.1 ∧ m' 3102 = .int X0.2.2.2.1 ∧ (∀ j, nel j [2802, 2803, 3101, 3102] = false → m' j = m0 j) ∧ a' 30 = (6001, .inl X0.2.2.2.2.1) ∧ a' 33 = (10, .inl X0.2.2.2.2.2.1) ∧ a' 35 = (60000, .inl X0.2.2.2.2.2.2.1) ∧ a' 37 = (16384, .inl X0.2.2.2.2.2.2.2.1) ∧ a' 38 = (6000, .inr (.inl X0.2.2.2.2.2.2.2.2)) ∧ (∀ j, nel j [30, 33, 35, 37, 38] = false → a' j = a0 j)) := by
  refine g_ofv (by decide) (Nat.le_of_ble_eq_true rfl) ?_
  intro p e s M args below meth c hx hb hr hG hown hin hlocks hml hW hS ls hl
  unfold fX1_chart at hs0
  have hoff : ∀ j, nel j [2802, 2803, 3101, 3102] = false → m0 j = m0 j := off0
  have hoffa : ∀ j, nel j [30, 33, 35, 37, 38] = false → a0 j = a0 j := off0
  refine lv_aload_n hx hb dX1_chart_0 rfl (lv_at hl 0 rfl) ?_
  refine g_Vv (n := 0) hx hb hml hown hG hW hS [] (kX1_clear hN hsh h_x28_2 h_A30 h_A37) (ltN hN 28 rfl) gk28 (by decide) rfl rfl (gd_V gx671 gx672 gx673 gx86 gx674) rfl rfl (by decide) ⟨Nat.le_of_ble_eq_true rfl, Nat.le_of_ble_eq_true rfl⟩ rfl hl (Nat.le_of_ble_eq_true rfl) ⟨Nat.zero_le _, Nat.zero_le _⟩ dX1_chart_1 (fun m1 a1 H locs hp1 hW hS => ?_)
  obtain ⟨hp1_x28_2, ho1, hp1_A30, hp1_A37, hoa1⟩ := hp1
  have w_x28_2 : m1 2802 = .int ((fX1_clear x28_2 A30 A37).1) := hp1_x28_2
  have w_x28_3 : m1 2803 = .int x28_3 := (ho1 2803 rfl).trans h_x28_3
  have w_x31_1 : m1 3101 = .int x31_1 := (ho1 3101 rfl).trans h_x31_1
  have w_x31_2 : m1 3102 = .int x31_2 := (ho1 3102 rfl).trans h_x31_2
  have hoff := offm hoff ho1 (by decide +kernel)
  have hsh := SH.off hsh ho1 (by decide +kernel)
  have w_A30 : a1 30 = (6001, .inl ((fX1_clear x28_2 A30 A37).2.1)) := hp1_A30
  have w_A33 : a1 33 = (10, .inl A33) := (hoa1 33 rfl).trans h_A33
  have w_A35 : a1 35 = (60000, .inl A35) := (hoa1 35 rfl).trans h_A35
  have w_A37 : a1 37 = (16384, .inl ((fX1_clear x28_2 A30 A37).2.2)) := hp1_A37
  have w_A38 : a1 38 = (6000, .inr (.inl A38)) := (hoa1 38 rfl).trans h_A38
  have hoffa := offm hoffa hoa1 (by decide +kernel)
  refine lv_aload_n hx hb dX1_chart_4 rfl (lv_at hl 0 rfl) ?_
  refine lv_lload_n hx hb dX1_chart_5 rfl (lv_at hl 2 rfl) ?_
  obtain ⟨r2, hf2, hs0⟩ := obind hs0
  refine g_Vi (n := 1) hx hb hml hown hG hW hS [.long p2] (kX1_numberOf hN hsh w_x28_2 w_A37 w_A38 F p2 hf2) (ltN hN 28 rfl) gk28 (by decide) rfl rfl (gd_V gx682 gx683 gx684 gx86 gx685) rfl rfl (by decide) ⟨Nat.le_of_ble_eq_true rfl, Nat.le_of_ble_eq_true rfl⟩ rfl hl (Nat.le_of_ble_eq_true rfl) ⟨Nat.zero_le _, Nat.zero_le _⟩ dX1_chart_6 (fun x2 m2 a2 H locs hp2 hW hS => ?_)
  obtain ⟨hx2, hp2_x28_2, ho2, hp2_A37, hp2_A38, hoa2⟩ := hp2
  subst hx2
  have w_x28_2 : m2 2802 = .int r2.2.1 := hp2_x28_2
  have w_x28_3 : m2 2803 = .int x28_3 := (ho2 2803 rfl).trans w_x28_3
  have w_x31_1 : m2 3101 = .int x31_1 := (ho2 3101 rfl).trans w_x31_1
  have w_x31_2 : m2 3102 = .int x31_2 := (ho2 3102 rfl).trans w_x31_2
  have hoff := offm hoff ho2 (by decide +kernel)
  have hsh := SH.off hsh ho2 (by decide +kernel)
  have w_A30 : a2 30 = (6001, .inl ((fX1_clear x28_2 A30 A37).2.1)) := (hoa2 30 rfl).trans w_A30
  have w_A33 : a2 33 = (10, .inl A33) := (hoa2 33 rfl).trans w_A33
  have w_A35 : a2 35 = (60000, .inl A35) := (hoa2 35 rfl).trans w_A35
  have w_A37 : a2 37 = (16384, .inl r2.2.2.1) := hp2_A37
  have w_A38 : a2 38 = (6000, .inr (.inl r2.2.2.2)) := hp2_A38
  have hoffa := offm hoffa hoa2 (by decide +kernel)
  refine lv_pop hx hb dX1_chart_9 rfl ?_
  refine lv_aload_n hx hb dX1_chart_10 rfl (lv_at hl 0 rfl) ?_
  refine lv_aload_n hx hb dX1_chart_11 rfl (lv_at hl 0 rfl) ?_
  refine lv_aload_n hx hb dX1_chart_12 rfl (lv_at hl 1 rfl) ?_
  obtain ⟨r3, hf3, hs0⟩ := obind hs0
  refine g_Vi (n := 1) hx hb hml hown hG hW hS [.ref (q kr)] (kX1_expandAll hN hsh hkr hgk ((off_kr hoff hgk 0 rfl (by decide)).trans h_xkr_0) ((off_kr hoff hgk 1 rfl (by decide)).trans h_xkr_1) ((off_kr hoff hgk 2 rfl (by decide)).trans h_xkr_2) ((off_kr hoff hgk 3 rfl (by decide)).trans h_xkr_3) w_x28_2 w_x31_1 w_x31_2 w_A30 w_A33 w_A35 w_A37 w_A38 F hf3) (ltN hN 28 rfl) gk28 (by decide) rfl rfl (gd_V gx696 gx697 gx698 gx86 gx699) rfl rfl (by decide) ⟨Nat.le_of_ble_eq_true rfl, Nat.le_of_ble_eq_true rfl⟩ rfl hl (Nat.le_of_ble_eq_true rfl) ⟨Nat.zero_le _, Nat.zero_le _⟩ dX1_chart_13 (fun x3 m3 a3 H locs hp3 hW hS => ?_)
  obtain ⟨hx3, hp3_x28_2, hp3_x31_1, hp3_x31_2, ho3, hp3_A30, hp3_A33, hp3_A35, hp3_A37, hp3_A38, hoa3⟩ := hp3
  subst hx3
  have w_x28_2 : m3 2802 = .int r3.2.1 := hp3_x28_2
  have w_x28_3 : m3 2803 = .int x28_3 := (ho3 2803 rfl).trans w_x28_3
  have w_x31_1 : m3 3101 = .int r3.2.2.1 := hp3_x31_1
  have w_x31_2 : m3 3102 = .int r3.2.2.2.1 := hp3_x31_2
  have hoff := offm hoff ho3 (by decide +kernel)
  have hsh := SH.off hsh ho3 (by decide +kernel)
  have w_A30 : a3 30 = (6001, .inl r3.2.2.2.2.1) := hp3_A30
  have w_A33 : a3 33 = (10, .inl r3.2.2.2.2.2.1) := hp3_A33
  have w_A35 : a3 35 = (60000, .inl r3.2.2.2.2.2.2.1) := hp3_A35
  have w_A37 : a3 37 = (16384, .inl r3.2.2.2.2.2.2.2.1) := hp3_A37
  have w_A38 : a3 38 = (6000, .inr (.inl r3.2.2.2.2.2.2.2.2)) := hp3_A38
  have hoffa := offm hoffa hoa3 (by decide +kernel)
  obtain ⟨hz4, hs0⟩ := oif hs0
  refine gp1_3 hx hb hG hown hW hS (o := 28) (ltN hN 28 rfl) gk28 (v := r3.1) hz4 gx670 dX1_chart_16 (fun m5 H locs hm5 ho5 hW hS => ?_)
  have ho5 := off1 ho5
  have w_x28_2 : m5 2802 = .int r3.2.1 := (ho5 2802 rfl).trans w_x28_2
  have w_x28_3 : m5 2803 = .int r3.1 := hm5
  have w_x31_1 : m5 3101 = .int r3.2.2.1 := (ho5 3101 rfl).trans w_x31_1
  have w_x31_2 : m5 3102 = .int r3.2.2.2.1 := (ho5 3102 rfl).trans w_x31_2
  have hoff := offm hoff ho5 (by decide +kernel)
  have hsh := SH.off hsh ho5 (by decide +kernel)
  have hs0 := Option.some.inj hs0
  subst hs0
  exact W.vret hx hb hr (fun t ht hw => ⟨⟨(m5, a3), rfl, ⟨w_x28_2, w_x28_3, w_x31_1, w_x31_2, hoff, w_A30, w_A33, w_A35, w_A37, w_A38, hoffa⟩, g_end hW ht hw⟩, hS.F ht⟩) hS.2.2 dX1_chart_19 hlocks
-- HealLink$Atlas.chartAll (LHealLink$Rules;)V
def fX1_chartAll_S9 (F : Nat) (xkr_0 : Int32) (xkr_1 : Int32) (xkr_2 : Int32) (xkr_3 : Int32) (x28_3 : Int32) (x31_1 : Int32) (x31_2 : Int32) (A30 : Nat → Int32) (A33 : Nat → Int32) (A35 : Nat → Int32) (v2 : Int64) (v4 : Int32) (x28_2 : Int32) (A37 : Nat → Int32) (A38 : Nat → Int64) : Option ((Int32 × (Nat → Int32) × (Nat → Int64)) ⊕ (Int64 × Int32 × Int32 × (Nat → Int32) × (Nat → Int64))) := (if 6000 ≤ v4 then some (Sum.inl (x28_2, A37, A38)) else (if (lg_cmp v2 (-1)) = 0 then some (Sum.inl (x28_2, A37, A38)) else ((fX1_numberOf F x28_2 A37 A38 v2).bind (fun r5 => ((fX7_following F xkr_0 xkr_1 xkr_2 xkr_3 v2).bind (fun r6 => some (Sum.inr (r6, v4 + 1, r5.2.1, r5.2.2.1, r5.2.2.2))))))))
def fX1_chartAll_J43 (F : Nat) (xkr_0 : Int32) (xkr_1 : Int32) (xkr_2 : Int32) (xkr_3 : Int32) (x28_2j7 : Int32) (x28_3j7 : Int32) (x31_1j7 : Int32) (x31_2j7 : Int32) (A30j7 : Nat → Int32) (A33j7 : Nat → Int32) (A35j7 : Nat → Int32) (A37j7 : Nat → Int32) (A38j7 : Nat → Int64) : Option (Int32 × Int32 × Int32 × Int32 × (Nat → Int32) × (Nat → Int32) × (Nat → Int32) × (Nat → Int32) × (Nat → Int64)) := ((fX1_expandAll F xkr_0 xkr_1 xkr_2 xkr_3 x28_2j7 x31_1j7 x31_2j7 A30j7 A33j7 A35j7 A37j7 A38j7).bind (fun r12 => (if bzb r12.1 = true then some (r12.2.1, r12.1, r12.2.2.1, r12.2.2.2.1, r12.2.2.2.2.1, r12.2.2.2.2.2.1, r12.2.2.2.2.2.2.1, r12.2.2.2.2.2.2.2.1, r12.2.2.2.2.2.2.2.2) else none)))
def fX1_chartAll (F : Nat) (xkr_0 : Int32) (xkr_1 : Int32) (xkr_2 : Int32) (xkr_3 : Int32) (x28_2 : Int32) (x28_3 : Int32) (x31_1 : Int32) (x31_2 : Int32) (A30 : Nat → Int32) (A33 : Nat → Int32) (A35 : Nat → Int32) (A37 : Nat → Int32) (A38 : Nat → Int64) : Option (Int32 × Int32 × Int32 × Int32 × (Nat → Int32) × (Nat → Int32) × (Nat → Int32) × (Nat → Int32) × (Nat → Int64)) := (gloop (fun u2 : (Int64 × Int32 × Int32 × (Nat → Int32) × (Nat → Int64)) => fX1_chartAll_S9 F xkr_0 xkr_1 xkr_2 xkr_3 x28_3 x31_1 x31_2 ((fX1_clear x28_2 A30 A37).2.1) A33 A35 u2.1 u2.2.1 u2.2.2.1 u2.2.2.2.1 u2.2.2.2.2) F (0, 0, (fX1_clear x28_2 A30 A37).1, (fX1_clear x28_2 A30 A37).2.2, A38)).bind (fun t2_43 => fX1_chartAll_J43 F xkr_0 xkr_1 xkr_2 xkr_3 t2_43.1 x28_3 x31_1 x31_2 ((fX1_clear x28_2 A30 A37).2.1) A33 A35 t2_43.2.1 t2_43.2.2)
theorem dX1_chartAll_0 : decode cX1_chartAll 0 = .ok (.aload_n 0, 1) := by decide +kernel
theorem dX1_chartAll_1 : decode cX1_chartAll 1 = .ok (.invokevirtual 38, 3) := by decide +kernel
theorem dX1_chartAll_4 : decode cX1_chartAll 4 = .ok (.lconst 0, 1) := by decide +kernel
theorem dX1_chartAll_5 : decode cX1_chartAll 5 = .ok (.lstore_n 2, 1) := by decide +kernel
theorem dX1_chartAll_6 : decode cX1_chartAll 6 = .ok (.iconst 0, 1) := by decide +kernel
theorem dX1_chartAll_7 : decode cX1_chartAll 7 = .ok (.istore 4, 2) := by decide +kernel
theorem dX1_chartAll_9 : decode cX1_chartAll 9 = .ok (.iload 4, 2) := by decide +kernel
theorem dX1_chartAll_11 : decode cX1_chartAll 11 = .ok (.sipush 6000, 3) := by decide +kernel
theorem dX1_chartAll_14 : decode cX1_chartAll 14 = .ok (.if_icmp .ge 29, 3) := by decide +kernel
theorem dX1_chartAll_17 : decode cX1_chartAll 17 = .ok (.lload_n 2, 1) := by decide +kernel
theorem dX1_chartAll_18 : decode cX1_chartAll 18 = .ok (.ldc2_w 53, 3) := by decide +kernel
theorem dX1_chartAll_21 : decode cX1_chartAll 21 = .ok (.lcmp, 1) := by decide +kernel
theorem dX1_chartAll_22 : decode cX1_chartAll 22 = .ok (.ifCond .eq 21, 3) := by decide +kernel
theorem dX1_chartAll_25 : decode cX1_chartAll 25 = .ok (.aload_n 0, 1) := by decide +kernel
theorem dX1_chartAll_26 : decode cX1_chartAll 26 = .ok (.lload_n 2, 1) := by decide +kernel
theorem dX1_chartAll_27 : decode cX1_chartAll 27 = .ok (.invokevirtual 41, 3) := by decide +kernel
theorem dX1_chartAll_30 : decode cX1_chartAll 30 = .ok (.pop, 1) := by decide +kernel
theorem dX1_chartAll_31 : decode cX1_chartAll 31 = .ok (.aload_n 1, 1) := by decide +kernel
theorem dX1_chartAll_32 : decode cX1_chartAll 32 = .ok (.lload_n 2, 1) := by decide +kernel
theorem dX1_chartAll_33 : decode cX1_chartAll 33 = .ok (.invokevirtual 55, 3) := by decide +kernel
theorem dX1_chartAll_36 : decode cX1_chartAll 36 = .ok (.lstore_n 2, 1) := by decide +kernel
theorem dX1_chartAll_37 : decode cX1_chartAll 37 = .ok (.iinc 4 1, 3) := by decide +kernel
theorem dX1_chartAll_40 : decode cX1_chartAll 40 = .ok (.goto (-31), 3) := by decide +kernel
theorem dX1_chartAll_43 : decode cX1_chartAll 43 = .ok (.aload_n 0, 1) := by decide +kernel
theorem dX1_chartAll_44 : decode cX1_chartAll 44 = .ok (.aload_n 0, 1) := by decide +kernel
theorem dX1_chartAll_45 : decode cX1_chartAll 45 = .ok (.aload_n 1, 1) := by decide +kernel
theorem dX1_chartAll_46 : decode cX1_chartAll 46 = .ok (.invokevirtual 45, 3) := by decide +kernel
theorem dX1_chartAll_49 : decode cX1_chartAll 49 = .ok (.putfield 49, 3) := by decide +kernel
theorem dX1_chartAll_52 : decode cX1_chartAll 52 = .ok (.return_, 1) := by decide +kernel
set_option maxHeartbeats 4000000 in
set_option maxRecDepth 100000 in
theorem kX1_chartAll {l : Launch} {D : va_G} {cy : Nat → ClassId} {N : Nat} {q : Nat → Nat} {m0 : Nat → Value} {a0 : Nat → vp_A} {sz : Nat} (hN : 105 ≤ N) (hsh : SH q m0) {kr : Nat} (hkr : kr < N) (hgk : gk kr = 7) {xkr_0 : Int32} (h_xkr_0 : m0 (100 * kr + 0) = .int xkr_0) {xkr_1 : Int32} (h_xkr_1 : m0 (100 * kr + 1) = .int xkr_1) {xkr_2 : Int32} (h_xkr_2 : m0 (100 * kr + 2) = .int xkr_2) {xkr_3 : Int32} (h_xkr_3 : m0 (100 * kr + 3) = .int xkr_3) {x28_2 : Int32} (h_x28_2 : m0 2802 = .int x28_2) {x28_3 : Int32} (h_x28_3 : m0 2803 = .int x28_3) {x31_1 : Int32} (h_x31_1 : m0 3101 = .int x31_1) {x31_2 : Int32} (h_x31_2 : m0 3102 = .int x31_2) {A30 : Nat → Int32} (h_A30 : a0 30 = (6001, .inl A30)) {A33 : Nat → Int32} (h_A33 : a0 33 = (10, .inl A33)) {A35 : Nat → Int32} (h_A35 : a0 35 = (60000, .inl A35)) {A37 : Nat → Int32} (h_A37 : a0 37 = (16384, .inl A37)) {A38 : Nat → Int64} (h_A38 : a0 38 = (6000, .inr (.inl A38))) (F : Nat) {X0 : Int32 × Int32 × Int32 × Int32 × (Nat → Int32) × (Nat → Int32) × (Nat → Int32) × (Nat → Int32) × (Nat → Int64)} (hs0 : fX1_chartAll F xkr_0 xkr_1 xkr_2 xkr_3 x28_2 x28_3 x31_1 x31_2 A30 A33 A35 A37 A38 = some X0) : gMv l yX1_chartAll cX1_chartAll 5 none ({ frames := 5, cells := 0, slots := 0, locals := 124 } : Room) D cy N q m0 a0 sz [.ref (q 28), .ref (q kr)] (fun m' a' => m' 2802 = .int X0.1 ∧ m' 2803 = .int X0.2.1 ∧ m' 3101 = .int X0.2.2.1 ∧ m' 3102 = .int X0.2.2.2.1 ∧ (∀ j, nel j [2802, 2803, 3101, 3102] = false → m' j = m0 j) ∧ a' 30 = (6001, .inl X0.2.2.2.2.1) ∧ a' 33 = (10, .inl X0.2.2.2.2.2.1) ∧ a' 35 = (60000, .inl X0.2.2.2.2.2.2.1) ∧ a' 37 = (16384, .inl X0.2.2.2.2.2.2.2.1) ∧ a' 38 = (6000, .inr (.inl X0.2.2.2.2.2.2.2.2)) ∧ (∀ j, nel j [30, 33, 35, 37, 38] = false → a' j = a0 j)) := by
  refine g_ofv (by decide) (Nat.le_of_ble_eq_true rfl) ?_
  intro p e s M args below meth c hx hb hr hG hown hin hlocks hml hW hS ls hl
  unfold fX1_chartAll at hs0
  have hoff : ∀ j, nel j [2802, 2803, 3101, 3102] = false → m0 j = m0 j := off0
  have hoffa : ∀ j, nel j [30, 33, 35, 37, 38] = false → a0 j = a0 j := off0
  have hJ43_0 : ∀ (x28_2j7 : Int32) (x28_3j7 : Int32) (x31_1j7 : Int32) (x31_2j7 : Int32) (A30j7 : Nat → Int32) (A33j7 : Nat → Int32) (A35j7 : Nat → Int32) (A37j7 : Nat → Int32) (A38j7 : Nat → Int64) (m : Nat → Value) (a : Nat → vp_A) (H : Heap) (locs : List Loc) (w_x28_2 : m 2802 = .int x28_2j7) (w_x28_3 : m 2803 = .int x28_3j7) (w_x31_1 : m 3101 = .int x31_1j7) (w_x31_2 : m 3102 = .int x31_2j7) (hoff : ∀ j, nel j [2802, 2803, 3101, 3102] = false → m j = m0 j) (hsh : SH q m) (w_A30 : a 30 = (6001, .inl A30j7)) (w_A33 : a 33 = (10, .inl A33j7)) (w_A35 : a 35 = (60000, .inl A35j7)) (w_A37 : a 37 = (16384, .inl A37j7)) (w_A38 : a 38 = (6000, .inr (.inl A38j7))) (hoffa : ∀ j, nel j [30, 33, 35, 37, 38] = false → a j = a0 j) (ls : Array Slot) (hl : lv_has ls 5 [(0, .ref (q 28)), (1, .ref (q kr))]) (hs0 : fX1_chartAll_J43 F xkr_0 xkr_1 xkr_2 xkr_3 x28_2j7 x28_3j7 x31_1j7 x31_2j7 A30j7 A33j7 A35j7 A37j7 A38j7 = some X0) (hW : GW D cy (gA N q s.heap.size) N q m a s H) (hS : va_S (gA N q s.heap.size) s.heap H locs), W p l e ({ frames := 5, cells := 0, slots := 0, locals := 124 } : Room) s M args below meth c H locs 0 0 (MQ below (va_Qv (fun (u : (Nat → Value) × (Nat → vp_A)) => u.1 2802 = .int X0.1 ∧ u.1 2803 = .int X0.2.1 ∧ u.1 3101 = .int X0.2.2.1 ∧ u.1 3102 = .int X0.2.2.2.1 ∧ (∀ j, nel j [2802, 2803, 3101, 3102] = false → u.1 j = m0 j) ∧ u.2 30 = (6001, .inl X0.2.2.2.2.1) ∧ u.2 33 = (10, .inl X0.2.2.2.2.2.1) ∧ u.2 35 = (60000, .inl X0.2.2.2.2.2.2.1) ∧ u.2 37 = (16384, .inl X0.2.2.2.2.2.2.2.1) ∧ u.2 38 = (6000, .inr (.inl X0.2.2.2.2.2.2.2.2)) ∧ (∀ j, nel j [30, 33, 35, 37, 38] = false → u.2 j = a0 j)) (gB D cy N q s.heap.size) (gA N q s.heap.size)) args s 0 0 (gA N q s.heap.size)) (F0 M 43 ls []) := by
    intro x28_2j7 x28_3j7 x31_1j7 x31_2j7 A30j7 A33j7 A35j7 A37j7 A38j7 m a H locs w_x28_2 w_x28_3 w_x31_1 w_x31_2 hoff hsh w_A30 w_A33 w_A35 w_A37 w_A38 hoffa ls hl hs0 hW hS
    unfold fX1_chartAll_J43 at hs0
    refine lv_aload_n hx hb dX1_chartAll_43 rfl (lv_at hl 0 rfl) ?_
    refine lv_aload_n hx hb dX1_chartAll_44 rfl (lv_at hl 0 rfl) ?_
    refine lv_aload_n hx hb dX1_chartAll_45 rfl (lv_at hl 1 rfl) ?_
    obtain ⟨r12, hf12, hs0⟩ := obind hs0
    refine g_Vi (n := 1) hx hb hml hown hG hW hS [.ref (q kr)] (kX1_expandAll hN hsh hkr hgk ((off_kr hoff hgk 0 rfl (by decide)).trans h_xkr_0) ((off_kr hoff hgk 1 rfl (by decide)).trans h_xkr_1) ((off_kr hoff hgk 2 rfl (by decide)).trans h_xkr_2) ((off_kr hoff hgk 3 rfl (by decide)).trans h_xkr_3) w_x28_2 w_x31_1 w_x31_2 w_A30 w_A33 w_A35 w_A37 w_A38 F hf12) (ltN hN 28 rfl) gk28 (by decide) rfl rfl (gd_V gx696 gx697 gx698 gx86 gx699) rfl rfl (by decide) ⟨Nat.le_of_ble_eq_true rfl, Nat.le_of_ble_eq_true rfl⟩ rfl hl (Nat.le_of_ble_eq_true rfl) ⟨Nat.zero_le _, Nat.zero_le _⟩ dX1_chartAll_46 (fun x12 m12 a12 H locs hp12 hW hS => ?_)
    obtain ⟨hx12, hp12_x28_2, hp12_x31_1, hp12_x31_2, ho12, hp12_A30, hp12_A33, hp12_A35, hp12_A37, hp12_A38, hoa12⟩ := hp12
    subst hx12
    have w_x28_2 : m12 2802 = .int r12.2.1 := hp12_x28_2
    have w_x28_3 : m12 2803 = .int x28_3j7 := (ho12 2803 rfl).trans w_x28_3
    have w_x31_1 : m12 3101 = .int r12.2.2.1 := hp12_x31_1
    have w_x31_2 : m12 3102 = .int r12.2.2.2.1 := hp12_x31_2
    have hoff := offm hoff ho12 (by decide +kernel)
    have hsh := SH.off hsh ho12 (by decide +kernel)
    have w_A30 : a12 30 = (6001, .inl r12.2.2.2.2.1) := hp12_A30
    have w_A33 : a12 33 = (10, .inl r12.2.2.2.2.2.1) := hp12_A33
    have w_A35 : a12 35 = (60000, .inl r12.2.2.2.2.2.2.1) := hp12_A35
    have w_A37 : a12 37 = (16384, .inl r12.2.2.2.2.2.2.2.1) := hp12_A37
    have w_A38 : a12 38 = (6000, .inr (.inl r12.2.2.2.2.2.2.2.2)) := hp12_A38
    have hoffa := offm hoffa hoa12 (by decide +kernel)
    obtain ⟨hz13, hs0⟩ := oif hs0
    refine gp1_3 hx hb hG hown hW hS (o := 28) (ltN hN 28 rfl) gk28 (v := r12.1) hz13 gx670 dX1_chartAll_49 (fun m14 H locs hm14 ho14 hW hS => ?_)
    have ho14 := off1 ho14
    have w_x28_2 : m14 2802 = .int r12.2.1 := (ho14 2802 rfl).trans w_x28_2
    have w_x28_3 : m14 2803 = .int r12.1 := hm14
    have w_x31_1 : m14 3101 = .int r12.2.2.1 := (ho14 3101 rfl).trans w_x31_1
    have w_x31_2 : m14 3102 = .int r12.2.2.2.1 := (ho14 3102 rfl).trans w_x31_2
    have hoff := offm hoff ho14 (by decide +kernel)
    have hsh := SH.off hsh ho14 (by decide +kernel)
    have hs0 := Option.some.inj hs0
    subst hs0
    exact W.vret hx hb hr (fun t ht hw => ⟨⟨(m14, a12), rfl, ⟨w_x28_2, w_x28_3, w_x31_1, w_x31_2, hoff, w_A30, w_A33, w_A35, w_A37, w_A38, hoffa⟩, g_end hW ht hw⟩, hS.F ht⟩) hS.2.2 dX1_chartAll_52 hlocks
  refine lv_aload_n hx hb dX1_chartAll_0 rfl (lv_at hl 0 rfl) ?_
  refine g_Vv (n := 0) hx hb hml hown hG hW hS [] (kX1_clear hN hsh h_x28_2 h_A30 h_A37) (ltN hN 28 rfl) gk28 (by decide) rfl rfl (gd_V gx671 gx672 gx673 gx86 gx674) rfl rfl (by decide) ⟨Nat.le_of_ble_eq_true rfl, Nat.le_of_ble_eq_true rfl⟩ rfl hl (Nat.le_of_ble_eq_true rfl) ⟨Nat.zero_le _, Nat.zero_le _⟩ dX1_chartAll_1 (fun m1 a1 H locs hp1 hW hS => ?_)
  obtain ⟨hp1_x28_2, ho1, hp1_A30, hp1_A37, hoa1⟩ := hp1
  have w_x28_2 : m1 2802 = .int ((fX1_clear x28_2 A30 A37).1) := hp1_x28_2
  have w_x28_3 : m1 2803 = .int x28_3 := (ho1 2803 rfl).trans h_x28_3
  have w_x31_1 : m1 3101 = .int x31_1 := (ho1 3101 rfl).trans h_x31_1
  have w_x31_2 : m1 3102 = .int x31_2 := (ho1 3102 rfl).trans h_x31_2
  have hoff := offm hoff ho1 (by decide +kernel)
  have hsh := SH.off hsh ho1 (by decide +kernel)
  have w_A30 : a1 30 = (6001, .inl ((fX1_clear x28_2 A30 A37).2.1)) := hp1_A30
  have w_A33 : a1 33 = (10, .inl A33) := (hoa1 33 rfl).trans h_A33
  have w_A35 : a1 35 = (60000, .inl A35) := (hoa1 35 rfl).trans h_A35
  have w_A37 : a1 37 = (16384, .inl ((fX1_clear x28_2 A30 A37).2.2)) := hp1_A37
  have w_A38 : a1 38 = (6000, .inr (.inl A38)) := (hoa1 38 rfl).trans h_A38
  have hoffa := offm hoffa hoa1 (by decide +kernel)
  refine lv_lconst (v := 0) hx hb dX1_chartAll_4 (by decide) ?_
  refine lv_lstore_n (lv' := [(2, .long 0), (0, .ref (q 28)), (1, .ref (q kr))]) hx hb dX1_chartAll_5 rfl hl (by decide) rfl (fun ls hl => ?_)
  refine lv_iconst (v := 0) hx hb dX1_chartAll_6 (by decide) ?_
  refine lv_istore (lv' := [(4, .int 0), (2, .long 0), (0, .ref (q 28)), (1, .ref (q kr))]) hx hb dX1_chartAll_7 hl (by decide) rfl (fun ls hl => ?_)
  obtain ⟨r2, hg2, hs0⟩ := obind hs0
  have hE1_43 : ∀ (t2_43 : Int32 × (Nat → Int32) × (Nat → Int64)) (hr2 : t2_43 = r2) (m : Nat → Value) (a : Nat → vp_A) (H : Heap) (locs : List Loc) (w_x28_2 : m 2802 = .int t2_43.1) (w_x28_3 : m 2803 = .int x28_3) (w_x31_1 : m 3101 = .int x31_1) (w_x31_2 : m 3102 = .int x31_2) (hoff : ∀ j, nel j [2802, 2803, 3101, 3102] = false → m j = m0 j) (hsh : SH q m) (w_A30 : a 30 = (6001, .inl ((fX1_clear x28_2 A30 A37).2.1))) (w_A33 : a 33 = (10, .inl A33)) (w_A35 : a 35 = (60000, .inl A35)) (w_A37 : a 37 = (16384, .inl t2_43.2.1)) (w_A38 : a 38 = (6000, .inr (.inl t2_43.2.2))) (hoffa : ∀ j, nel j [30, 33, 35, 37, 38] = false → a j = a0 j) (ls : Array Slot) (hl : lv_has ls 5 [(0, .ref (q 28)), (1, .ref (q kr))]) (hW : GW D cy (gA N q s.heap.size) N q m a s H) (hS : va_S (gA N q s.heap.size) s.heap H locs), W p l e ({ frames := 5, cells := 0, slots := 0, locals := 124 } : Room) s M args below meth c H locs 0 0 (MQ below (va_Qv (fun (u : (Nat → Value) × (Nat → vp_A)) => u.1 2802 = .int X0.1 ∧ u.1 2803 = .int X0.2.1 ∧ u.1 3101 = .int X0.2.2.1 ∧ u.1 3102 = .int X0.2.2.2.1 ∧ (∀ j, nel j [2802, 2803, 3101, 3102] = false → u.1 j = m0 j) ∧ u.2 30 = (6001, .inl X0.2.2.2.2.1) ∧ u.2 33 = (10, .inl X0.2.2.2.2.2.1) ∧ u.2 35 = (60000, .inl X0.2.2.2.2.2.2.1) ∧ u.2 37 = (16384, .inl X0.2.2.2.2.2.2.2.1) ∧ u.2 38 = (6000, .inr (.inl X0.2.2.2.2.2.2.2.2)) ∧ (∀ j, nel j [30, 33, 35, 37, 38] = false → u.2 j = a0 j)) (gB D cy N q s.heap.size) (gA N q s.heap.size)) args s 0 0 (gA N q s.heap.size)) (F0 M 43 ls []) := by
    intro t2_43 hr2 m a H locs w_x28_2 w_x28_3 w_x31_1 w_x31_2 hoff hsh w_A30 w_A33 w_A35 w_A37 w_A38 hoffa ls hl hW hS
    subst hr2
    exact hJ43_0 t2_43.1 x28_3 x31_1 x31_2 ((fX1_clear x28_2 A30 A37).2.1) A33 A35 t2_43.2.1 t2_43.2.2 m a _ _ w_x28_2 w_x28_3 w_x31_1 w_x31_2 hoff hsh w_A30 w_A33 w_A35 w_A37 w_A38 hoffa ls (lv_sub hl [0, 1] rfl) hs0 hW hS
  have hL1 : ∀ (n : Nat) (v2k2 : Int64) (v4k2 : Int32) (x28_2k2 : Int32) (A37k2 : Nat → Int32) (A38k2 : Nat → Int64) (m : Nat → Value) (a : Nat → vp_A) (H : Heap) (locs : List Loc) (w_x28_2 : m 2802 = .int x28_2k2) (w_x28_3 : m 2803 = .int x28_3) (w_x31_1 : m 3101 = .int x31_1) (w_x31_2 : m 3102 = .int x31_2) (hoff : ∀ j, nel j [2802, 2803, 3101, 3102] = false → m j = m0 j) (hsh : SH q m) (w_A30 : a 30 = (6001, .inl ((fX1_clear x28_2 A30 A37).2.1))) (w_A33 : a 33 = (10, .inl A33)) (w_A35 : a 35 = (60000, .inl A35)) (w_A37 : a 37 = (16384, .inl A37k2)) (w_A38 : a 38 = (6000, .inr (.inl A38k2))) (hoffa : ∀ j, nel j [30, 33, 35, 37, 38] = false → a j = a0 j) (ls : Array Slot) (hl : lv_has ls 5 [(0, .ref (q 28)), (1, .ref (q kr)), (2, .long v2k2), (4, .int v4k2)]) (hg2 : gloop (fun u2 : (Int64 × Int32 × Int32 × (Nat → Int32) × (Nat → Int64)) => fX1_chartAll_S9 F xkr_0 xkr_1 xkr_2 xkr_3 x28_3 x31_1 x31_2 ((fX1_clear x28_2 A30 A37).2.1) A33 A35 u2.1 u2.2.1 u2.2.2.1 u2.2.2.2.1 u2.2.2.2.2) n (v2k2, v4k2, x28_2k2, A37k2, A38k2) = some r2) (hW : GW D cy (gA N q s.heap.size) N q m a s H) (hS : va_S (gA N q s.heap.size) s.heap H locs), W p l e ({ frames := 5, cells := 0, slots := 0, locals := 124 } : Room) s M args below meth c H locs 0 0 (MQ below (va_Qv (fun (u : (Nat → Value) × (Nat → vp_A)) => u.1 2802 = .int X0.1 ∧ u.1 2803 = .int X0.2.1 ∧ u.1 3101 = .int X0.2.2.1 ∧ u.1 3102 = .int X0.2.2.2.1 ∧ (∀ j, nel j [2802, 2803, 3101, 3102] = false → u.1 j = m0 j) ∧ u.2 30 = (6001, .inl X0.2.2.2.2.1) ∧ u.2 33 = (10, .inl X0.2.2.2.2.2.1) ∧ u.2 35 = (60000, .inl X0.2.2.2.2.2.2.1) ∧ u.2 37 = (16384, .inl X0.2.2.2.2.2.2.2.1) ∧ u.2 38 = (6000, .inr (.inl X0.2.2.2.2.2.2.2.2)) ∧ (∀ j, nel j [30, 33, 35, 37, 38] = false → u.2 j = a0 j)) (gB D cy N q s.heap.size) (gA N q s.heap.size)) args s 0 0 (gA N q s.heap.size)) (F0 M 9 ls []) := by
    intro n
    induction n with
    | zero => intro v2k2 v4k2 x28_2k2 A37k2 A38k2 m a H locs w_x28_2 w_x28_3 w_x31_1 w_x31_2 hoff hsh w_A30 w_A33 w_A35 w_A37 w_A38 hoffa ls hl hg2 hW hS; exact (gl_zero hg2).elim
    | succ n ih1 =>
      intro v2k2 v4k2 x28_2k2 A37k2 A38k2 m a H locs w_x28_2 w_x28_3 w_x31_1 w_x31_2 hoff hsh w_A30 w_A33 w_A35 w_A37 w_A38 hoffa ls hl hg2 hW hS
      obtain ⟨X1, hs1, hXl1, hXr1⟩ := gl_succ hg2
      have hs1 : fX1_chartAll_S9 F xkr_0 xkr_1 xkr_2 xkr_3 x28_3 x31_1 x31_2 ((fX1_clear x28_2 A30 A37).2.1) A33 A35 v2k2 v4k2 x28_2k2 A37k2 A38k2 = some X1 := hs1
      unfold fX1_chartAll_S9 at hs1
      refine lv_iload hx hb dX1_chartAll_9 (lv_at hl 3 rfl) ?_
      refine lv_sipush (v := 6000) hx hb dX1_chartAll_11 (by decide) ?_
      refine lv_icmp_ge (tgt := 43) hx hb dX1_chartAll_14 (by decide) (fun c8 => ?_) (fun c8 => ?_)
      · rw [if_pos c8] at hs1
        exact hE1_43 (x28_2k2, A37k2, A38k2) (hXl1 _ (Option.some.inj hs1).symm) m a _ _ w_x28_2 w_x28_3 w_x31_1 w_x31_2 hoff hsh w_A30 w_A33 w_A35 w_A37 w_A38 hoffa ls (lv_sub hl [0, 1] rfl) hW hS
      · rw [if_neg c8] at hs1
        refine lv_lload_n hx hb dX1_chartAll_17 rfl (lv_at hl 2 rfl) ?_
        refine lv_ldc2 (v := (-1)) hx hb hown (hG _ gx1022) dX1_chartAll_18 ?_
        refine W.lcmp hx hb dX1_chartAll_21 ?_
        refine lv_if_eq (tgt := 43) hx hb dX1_chartAll_22 (by decide) (fun c9 => ?_) (fun c9 => ?_)
        · rw [if_pos c9] at hs1
          exact hE1_43 (x28_2k2, A37k2, A38k2) (hXl1 _ (Option.some.inj hs1).symm) m a _ _ w_x28_2 w_x28_3 w_x31_1 w_x31_2 hoff hsh w_A30 w_A33 w_A35 w_A37 w_A38 hoffa ls (lv_sub hl [0, 1] rfl) hW hS
        · rw [if_neg c9] at hs1
          refine lv_aload_n hx hb dX1_chartAll_25 rfl (lv_at hl 0 rfl) ?_
          refine lv_lload_n hx hb dX1_chartAll_26 rfl (lv_at hl 2 rfl) ?_
          obtain ⟨r10, hf10, hs1⟩ := obind hs1
          refine g_Vi (n := 1) hx hb hml hown hG hW hS [.long v2k2] (kX1_numberOf hN hsh w_x28_2 w_A37 w_A38 F v2k2 hf10) (ltN hN 28 rfl) gk28 (by decide) rfl rfl (gd_V gx682 gx683 gx684 gx86 gx685) rfl rfl (by decide) ⟨Nat.le_of_ble_eq_true rfl, Nat.le_of_ble_eq_true rfl⟩ rfl hl (Nat.le_of_ble_eq_true rfl) ⟨Nat.zero_le _, Nat.zero_le _⟩ dX1_chartAll_27 (fun x10 m10 a10 H locs hp10 hW hS => ?_)
          obtain ⟨hx10, hp10_x28_2, ho10, hp10_A37, hp10_A38, hoa10⟩ := hp10
          subst hx10
          have w_x28_2 : m10 2802 = .int r10.2.1 := hp10_x28_2
          have w_x28_3 : m10 2803 = .int x28_3 := (ho10 2803 rfl).trans w_x28_3
          have w_x31_1 : m10 3101 = .int x31_1 := (ho10 3101 rfl).trans w_x31_1
          have w_x31_2 : m10 3102 = .int x31_2 := (ho10 3102 rfl).trans w_x31_2
          have hoff := offm hoff ho10 (by decide +kernel)
          have hsh := SH.off hsh ho10 (by decide +kernel)
          have w_A30 : a10 30 = (6001, .inl ((fX1_clear x28_2 A30 A37).2.1)) := (hoa10 30 rfl).trans w_A30
          have w_A33 : a10 33 = (10, .inl A33) := (hoa10 33 rfl).trans w_A33
          have w_A35 : a10 35 = (60000, .inl A35) := (hoa10 35 rfl).trans w_A35
          have w_A37 : a10 37 = (16384, .inl r10.2.2.1) := hp10_A37
          have w_A38 : a10 38 = (6000, .inr (.inl r10.2.2.2)) := hp10_A38
          have hoffa := offm hoffa hoa10 (by decide +kernel)
          refine lv_pop hx hb dX1_chartAll_30 rfl ?_
          refine lv_aload_n hx hb dX1_chartAll_31 rfl (lv_at hl 1 rfl) ?_
          refine lv_lload_n hx hb dX1_chartAll_32 rfl (lv_at hl 2 rfl) ?_
          obtain ⟨r11, hf11, hs1⟩ := obind hs1
          refine g_VlR (n := 1) hx hb hml hown hG hW hS [.long v2k2] (kX7_following hN hkr hgk ((off_kr hoff hgk 0 rfl (by decide)).trans h_xkr_0) ((off_kr hoff hgk 1 rfl (by decide)).trans h_xkr_1) ((off_kr hoff hgk 2 rfl (by decide)).trans h_xkr_2) ((off_kr hoff hgk 3 rfl (by decide)).trans h_xkr_3) F v2k2 hf11) hkr hgk (by decide) rfl rfl (gd_V gx1023 gx1024 gx1025 gx39 gx1026) rfl rfl (by decide) ⟨Nat.le_of_ble_eq_true rfl, Nat.le_of_ble_eq_true rfl⟩ rfl hl (Nat.le_of_ble_eq_true rfl) ⟨Nat.zero_le _, Nat.zero_le _⟩ dX1_chartAll_33 (fun H locs hW hS => ?_)
          refine lv_lstore_n (lv' := [(2, .long r11), (0, .ref (q 28)), (1, .ref (q kr)), (4, .int v4k2)]) hx hb dX1_chartAll_36 rfl hl (by decide) rfl (fun ls hl => ?_)
          refine lv_iinc (v := v4k2 + 1) (lv' := [(4, .int (v4k2 + 1)), (2, .long r11), (0, .ref (q 28)), (1, .ref (q kr))]) hx hb dX1_chartAll_37 hl (k := 3) rfl rfl (by decide) rfl (fun ls hl => ?_)
          refine lv_goto (tgt := 9) hx hb dX1_chartAll_40 (by decide) ?_
          exact ih1 r11 (v4k2 + 1) r10.2.1 r10.2.2.1 r10.2.2.2 m10 a10 _ _ w_x28_2 w_x28_3 w_x31_1 w_x31_2 hoff hsh w_A30 w_A33 w_A35 w_A37 w_A38 hoffa ls (lv_sub hl [2, 3, 1, 0] rfl) (hXr1 _ (Option.some.inj hs1).symm) hW hS
  exact hL1 F 0 0 ((fX1_clear x28_2 A30 A37).1) ((fX1_clear x28_2 A30 A37).2.2) A38 m1 a1 _ _ w_x28_2 w_x28_3 w_x31_1 w_x31_2 hoff hsh w_A30 w_A33 w_A35 w_A37 w_A38 hoffa ls (lv_sub hl [2, 3, 1, 0] rfl) hg2 hW hS
