/-! 20.model (by program): the pure function of each method, its rows, its contract -/
-- HealLinkModel.within (III)Z
def fX12_within (p0 : Int32) (p1 : Int32) (p2 : Int32) : Int32 := (if p0 < p1 then 0 else (if p2 < p0 then 0 else 1))
theorem dX12_within_0 : decode cX12_within 0 = .ok (.iload_n 0, 1) := by decide +kernel
theorem dX12_within_1 : decode cX12_within 1 = .ok (.iload_n 1, 1) := by decide +kernel
theorem dX12_within_2 : decode cX12_within 2 = .ok (.if_icmp .lt 12, 3) := by decide +kernel
theorem dX12_within_5 : decode cX12_within 5 = .ok (.iload_n 0, 1) := by decide +kernel
theorem dX12_within_6 : decode cX12_within 6 = .ok (.iload_n 2, 1) := by decide +kernel
theorem dX12_within_7 : decode cX12_within 7 = .ok (.if_icmp .gt 7, 3) := by decide +kernel
theorem dX12_within_10 : decode cX12_within 10 = .ok (.iconst 1, 1) := by decide +kernel
theorem dX12_within_11 : decode cX12_within 11 = .ok (.goto 4, 3) := by decide +kernel
theorem dX12_within_14 : decode cX12_within 14 = .ok (.iconst 0, 1) := by decide +kernel
theorem dX12_within_15 : decode cX12_within 15 = .ok (.ireturn, 1) := by decide +kernel
set_option maxHeartbeats 4000000 in
set_option maxRecDepth 100000 in
theorem kX12_within {l : Launch} {D : va_G} {cy : Nat → ClassId} {N : Nat} {q : Nat → Nat} {m0 : Nat → Value} {a0 : Nat → vp_A} {sz : Nat} (hN : 105 ≤ N) (p0 : Int32) (p1 : Int32) (p2 : Int32) : gMi l yX12_within cX12_within 3 (some .boolean) ({ frames := 0, cells := 0, slots := 0, locals := 0 } : Room) D cy N q m0 a0 sz [.int p0, .int p1, .int p2] (fun r m' a' => r = (fX12_within p0 p1 p2) ∧ m' = m0 ∧ a' = a0) := by
  generalize hs0 : fX12_within p0 p1 p2 = X0
  refine g_ofi (by decide) (Nat.le_of_ble_eq_true rfl) ?_
  intro p e s M args below meth c hx hb hr hG hown hin hlocks hml hW hS ls hl
  unfold fX12_within at hs0
  refine lv_iload_n hx hb dX12_within_0 rfl (lv_at hl 0 rfl) ?_
  refine lv_iload_n hx hb dX12_within_1 rfl (lv_at hl 1 rfl) ?_
  refine lv_icmp_lt (tgt := 14) hx hb dX12_within_2 (by decide) (fun c1 => ?_) (fun c1 => ?_)
  · rw [if_pos c1] at hs0
    refine lv_iconst (v := 0) hx hb dX12_within_14 (by decide) ?_
    subst hs0
    exact W.zret hx hb hr rfl (fun t ht hw => ⟨⟨_, (m0, a0), rfl, ⟨rfl, rfl, rfl⟩, g_end hW ht hw⟩, hS.F ht⟩) hS.2.2 dX12_within_15 hlocks
  · rw [if_neg c1] at hs0
    refine lv_iload_n hx hb dX12_within_5 rfl (lv_at hl 0 rfl) ?_
    refine lv_iload_n hx hb dX12_within_6 rfl (lv_at hl 2 rfl) ?_
    refine lv_icmp_gt (tgt := 14) hx hb dX12_within_7 (by decide) (fun c2 => ?_) (fun c2 => ?_)
    · rw [if_pos c2] at hs0
      refine lv_iconst (v := 0) hx hb dX12_within_14 (by decide) ?_
      subst hs0
      exact W.zret hx hb hr rfl (fun t ht hw => ⟨⟨_, (m0, a0), rfl, ⟨rfl, rfl, rfl⟩, g_end hW ht hw⟩, hS.F ht⟩) hS.2.2 dX12_within_15 hlocks
    · rw [if_neg c2] at hs0
      refine lv_iconst (v := 1) hx hb dX12_within_10 (by decide) ?_
      refine lv_goto (tgt := 15) hx hb dX12_within_11 (by decide) ?_
      subst hs0
      exact W.zret hx hb hr rfl (fun t ht hw => ⟨⟨_, (m0, a0), rfl, ⟨rfl, rfl, rfl⟩, g_end hW ht hw⟩, hS.F ht⟩) hS.2.2 dX12_within_15 hlocks
theorem bzw (a b c : Int32) : bzb (fX12_within a b c) = true := by
  unfold fX12_within
  repeat (first | rfl | split)
-- HealLinkModel.get (JII)I
def fX12_get (p0 : Int64) (p2 : Int32) (p3 : Int32) : Int32 := ((p0 >>> (p2.toInt64 &&& 63)).toInt32) &&& (((1 : Int32) <<< (p3 &&& 31)) - 1)
theorem dX12_get_0 : decode cX12_get 0 = .ok (.lload_n 0, 1) := by decide +kernel
theorem dX12_get_1 : decode cX12_get 1 = .ok (.iload_n 2, 1) := by decide +kernel
theorem dX12_get_2 : decode cX12_get 2 = .ok (.lshr, 1) := by decide +kernel
theorem dX12_get_3 : decode cX12_get 3 = .ok (.l2i, 1) := by decide +kernel
theorem dX12_get_4 : decode cX12_get 4 = .ok (.iconst 1, 1) := by decide +kernel
theorem dX12_get_5 : decode cX12_get 5 = .ok (.iload_n 3, 1) := by decide +kernel
theorem dX12_get_6 : decode cX12_get 6 = .ok (.ishl, 1) := by decide +kernel
theorem dX12_get_7 : decode cX12_get 7 = .ok (.iconst 1, 1) := by decide +kernel
theorem dX12_get_8 : decode cX12_get 8 = .ok (.isub, 1) := by decide +kernel
theorem dX12_get_9 : decode cX12_get 9 = .ok (.iand, 1) := by decide +kernel
theorem dX12_get_10 : decode cX12_get 10 = .ok (.ireturn, 1) := by decide +kernel
set_option maxHeartbeats 4000000 in
set_option maxRecDepth 100000 in
theorem kX12_get {l : Launch} {D : va_G} {cy : Nat → ClassId} {N : Nat} {q : Nat → Nat} {m0 : Nat → Value} {a0 : Nat → vp_A} {sz : Nat} (hN : 105 ≤ N) (p0 : Int64) (p2 : Int32) (p3 : Int32) : gMi l yX12_get cX12_get 4 (some .int) ({ frames := 0, cells := 0, slots := 0, locals := 0 } : Room) D cy N q m0 a0 sz [.long p0, .int p2, .int p3] (fun r m' a' => r = (fX12_get p0 p2 p3) ∧ m' = m0 ∧ a' = a0) := by
  generalize hs0 : fX12_get p0 p2 p3 = X0
  refine g_ofi (by decide) (Nat.le_of_ble_eq_true rfl) ?_
  intro p e s M args below meth c hx hb hr hG hown hin hlocks hml hW hS ls hl
  unfold fX12_get at hs0
  refine lv_lload_n hx hb dX12_get_0 rfl (lv_at hl 0 rfl) ?_
  refine lv_iload_n hx hb dX12_get_1 rfl (lv_at hl 1 rfl) ?_
  refine lv_lshr hx hb dX12_get_2 rfl ?_
  refine lv_l2i hx hb dX12_get_3 rfl ?_
  refine lv_iconst (v := 1) hx hb dX12_get_4 (by decide) ?_
  refine lv_iload_n hx hb dX12_get_5 rfl (lv_at hl 2 rfl) ?_
  refine lv_ishl hx hb dX12_get_6 ?_
  refine lv_iconst (v := 1) hx hb dX12_get_7 (by decide) ?_
  refine lv_isub hx hb dX12_get_8 ?_
  refine lv_iand hx hb dX12_get_9 ?_
  subst hs0
  exact W.zret hx hb hr rfl (fun t ht hw => ⟨⟨_, (m0, a0), rfl, ⟨rfl, rfl, rfl⟩, g_end hW ht hw⟩, hS.F ht⟩) hS.2.2 dX12_get_10 hlocks
-- HealLinkModel.put (JIII)J
def fX12_put (p0 : Int64) (p2 : Int32) (p3 : Int32) (p4 : Int32) : Int64 := (p0 &&& (((((1 : Int64) <<< (p3.toInt64 &&& 63)) - 1) <<< (p2.toInt64 &&& 63)) ^^^ ((-1) : Int64))) ||| (p4.toInt64 <<< (p2.toInt64 &&& 63))
theorem dX12_put_0 : decode cX12_put 0 = .ok (.lload_n 0, 1) := by decide +kernel
theorem dX12_put_1 : decode cX12_put 1 = .ok (.lconst 1, 1) := by decide +kernel
theorem dX12_put_2 : decode cX12_put 2 = .ok (.iload_n 3, 1) := by decide +kernel
theorem dX12_put_3 : decode cX12_put 3 = .ok (.lshl, 1) := by decide +kernel
theorem dX12_put_4 : decode cX12_put 4 = .ok (.lconst 1, 1) := by decide +kernel
theorem dX12_put_5 : decode cX12_put 5 = .ok (.lsub, 1) := by decide +kernel
theorem dX12_put_6 : decode cX12_put 6 = .ok (.iload_n 2, 1) := by decide +kernel
theorem dX12_put_7 : decode cX12_put 7 = .ok (.lshl, 1) := by decide +kernel
theorem dX12_put_8 : decode cX12_put 8 = .ok (.ldc2_w 140, 3) := by decide +kernel
theorem dX12_put_11 : decode cX12_put 11 = .ok (.lxor, 1) := by decide +kernel
theorem dX12_put_12 : decode cX12_put 12 = .ok (.land, 1) := by decide +kernel
theorem dX12_put_13 : decode cX12_put 13 = .ok (.iload 4, 2) := by decide +kernel
theorem dX12_put_15 : decode cX12_put 15 = .ok (.i2l, 1) := by decide +kernel
theorem dX12_put_16 : decode cX12_put 16 = .ok (.iload_n 2, 1) := by decide +kernel
theorem dX12_put_17 : decode cX12_put 17 = .ok (.lshl, 1) := by decide +kernel
theorem dX12_put_18 : decode cX12_put 18 = .ok (.lor, 1) := by decide +kernel
theorem dX12_put_19 : decode cX12_put 19 = .ok (.lreturn, 1) := by decide +kernel
set_option maxHeartbeats 4000000 in
set_option maxRecDepth 100000 in
theorem kX12_put {l : Launch} {D : va_G} {cy : Nat → ClassId} {N : Nat} {q : Nat → Nat} {m0 : Nat → Value} {a0 : Nat → vp_A} {sz : Nat} (hN : 105 ≤ N) (p0 : Int64) (p2 : Int32) (p3 : Int32) (p4 : Int32) : gMl l yX12_put cX12_put 5 (some .long) ({ frames := 0, cells := 0, slots := 0, locals := 0 } : Room) D cy N q m0 a0 sz [.long p0, .int p2, .int p3, .int p4] (fun r m' a' => r = (fX12_put p0 p2 p3 p4) ∧ m' = m0 ∧ a' = a0) := by
  generalize hs0 : fX12_put p0 p2 p3 p4 = X0
  refine g_ofl (by decide) (Nat.le_of_ble_eq_true rfl) ?_
  intro p e s M args below meth c hx hb hr hG hown hin hlocks hml hW hS ls hl
  unfold fX12_put at hs0
  refine lv_lload_n hx hb dX12_put_0 rfl (lv_at hl 0 rfl) ?_
  refine lv_lconst (v := 1) hx hb dX12_put_1 (by decide) ?_
  refine lv_iload_n hx hb dX12_put_2 rfl (lv_at hl 2 rfl) ?_
  refine lv_lshl hx hb dX12_put_3 rfl ?_
  refine lv_lconst (v := 1) hx hb dX12_put_4 (by decide) ?_
  refine lv_lsub hx hb dX12_put_5 ?_
  refine lv_iload_n hx hb dX12_put_6 rfl (lv_at hl 1 rfl) ?_
  refine lv_lshl hx hb dX12_put_7 rfl ?_
  refine lv_ldc2 (v := (-1)) hx hb hown (hG _ gx206) dX12_put_8 ?_
  refine lv_lxor hx hb dX12_put_11 ?_
  refine lv_land hx hb dX12_put_12 ?_
  refine lv_iload hx hb dX12_put_13 (lv_at hl 3 rfl) ?_
  refine lv_i2l hx hb dX12_put_15 rfl ?_
  refine lv_iload_n hx hb dX12_put_16 rfl (lv_at hl 1 rfl) ?_
  refine lv_lshl hx hb dX12_put_17 rfl ?_
  refine lv_lor hx hb dX12_put_18 ?_
  subst hs0
  exact W.lret hx hb hr (fun t ht hw => ⟨⟨_, (m0, a0), rfl, ⟨rfl, rfl, rfl⟩, g_end hW ht hw⟩, hS.F ht⟩) hS.2.2 dX12_put_19 hlocks
-- HealLinkModel.seenAt (II)I
def fX12_seenAt (p0 : Int32) (p1 : Int32) : Int32 := 9 + (2 * ((2 * p0) + p1))
theorem dX12_seenAt_0 : decode cX12_seenAt 0 = .ok (.bipush 9, 2) := by decide +kernel
theorem dX12_seenAt_2 : decode cX12_seenAt 2 = .ok (.iconst 2, 1) := by decide +kernel
theorem dX12_seenAt_3 : decode cX12_seenAt 3 = .ok (.iconst 2, 1) := by decide +kernel
theorem dX12_seenAt_4 : decode cX12_seenAt 4 = .ok (.iload_n 0, 1) := by decide +kernel
theorem dX12_seenAt_5 : decode cX12_seenAt 5 = .ok (.imul, 1) := by decide +kernel
theorem dX12_seenAt_6 : decode cX12_seenAt 6 = .ok (.iload_n 1, 1) := by decide +kernel
theorem dX12_seenAt_7 : decode cX12_seenAt 7 = .ok (.iadd, 1) := by decide +kernel
theorem dX12_seenAt_8 : decode cX12_seenAt 8 = .ok (.imul, 1) := by decide +kernel
theorem dX12_seenAt_9 : decode cX12_seenAt 9 = .ok (.iadd, 1) := by decide +kernel
theorem dX12_seenAt_10 : decode cX12_seenAt 10 = .ok (.ireturn, 1) := by decide +kernel
set_option maxHeartbeats 4000000 in
set_option maxRecDepth 100000 in
theorem kX12_seenAt {l : Launch} {D : va_G} {cy : Nat → ClassId} {N : Nat} {q : Nat → Nat} {m0 : Nat → Value} {a0 : Nat → vp_A} {sz : Nat} (hN : 105 ≤ N) (p0 : Int32) (p1 : Int32) : gMi l yX12_seenAt cX12_seenAt 2 (some .int) ({ frames := 0, cells := 0, slots := 0, locals := 0 } : Room) D cy N q m0 a0 sz [.int p0, .int p1] (fun r m' a' => r = (fX12_seenAt p0 p1) ∧ m' = m0 ∧ a' = a0) := by
  generalize hs0 : fX12_seenAt p0 p1 = X0
  refine g_ofi (by decide) (Nat.le_of_ble_eq_true rfl) ?_
  intro p e s M args below meth c hx hb hr hG hown hin hlocks hml hW hS ls hl
  unfold fX12_seenAt at hs0
  refine lv_bipush (v := 9) hx hb dX12_seenAt_0 (by decide) ?_
  refine lv_iconst (v := 2) hx hb dX12_seenAt_2 (by decide) ?_
  refine lv_iconst (v := 2) hx hb dX12_seenAt_3 (by decide) ?_
  refine lv_iload_n hx hb dX12_seenAt_4 rfl (lv_at hl 0 rfl) ?_
  refine lv_imul hx hb dX12_seenAt_5 ?_
  refine lv_iload_n hx hb dX12_seenAt_6 rfl (lv_at hl 1 rfl) ?_
  refine lv_iadd hx hb dX12_seenAt_7 ?_
  refine lv_imul hx hb dX12_seenAt_8 ?_
  refine lv_iadd hx hb dX12_seenAt_9 ?_
  subst hs0
  exact W.zret hx hb hr rfl (fun t ht hw => ⟨⟨_, (m0, a0), rfl, ⟨rfl, rfl, rfl⟩, g_end hW ht hw⟩, hS.F ht⟩) hS.2.2 dX12_seenAt_10 hlocks
-- HealLinkModel.packetAt (II)I
def fX12_packetAt (p0 : Int32) (p1 : Int32) : Int32 := 25 + (2 * ((2 * p0) + p1))
theorem dX12_packetAt_0 : decode cX12_packetAt 0 = .ok (.bipush 25, 2) := by decide +kernel
theorem dX12_packetAt_2 : decode cX12_packetAt 2 = .ok (.iconst 2, 1) := by decide +kernel
theorem dX12_packetAt_3 : decode cX12_packetAt 3 = .ok (.iconst 2, 1) := by decide +kernel
theorem dX12_packetAt_4 : decode cX12_packetAt 4 = .ok (.iload_n 0, 1) := by decide +kernel
theorem dX12_packetAt_5 : decode cX12_packetAt 5 = .ok (.imul, 1) := by decide +kernel
theorem dX12_packetAt_6 : decode cX12_packetAt 6 = .ok (.iload_n 1, 1) := by decide +kernel
theorem dX12_packetAt_7 : decode cX12_packetAt 7 = .ok (.iadd, 1) := by decide +kernel
theorem dX12_packetAt_8 : decode cX12_packetAt 8 = .ok (.imul, 1) := by decide +kernel
theorem dX12_packetAt_9 : decode cX12_packetAt 9 = .ok (.iadd, 1) := by decide +kernel
theorem dX12_packetAt_10 : decode cX12_packetAt 10 = .ok (.ireturn, 1) := by decide +kernel
set_option maxHeartbeats 4000000 in
set_option maxRecDepth 100000 in
theorem kX12_packetAt {l : Launch} {D : va_G} {cy : Nat → ClassId} {N : Nat} {q : Nat → Nat} {m0 : Nat → Value} {a0 : Nat → vp_A} {sz : Nat} (hN : 105 ≤ N) (p0 : Int32) (p1 : Int32) : gMi l yX12_packetAt cX12_packetAt 2 (some .int) ({ frames := 0, cells := 0, slots := 0, locals := 0 } : Room) D cy N q m0 a0 sz [.int p0, .int p1] (fun r m' a' => r = (fX12_packetAt p0 p1) ∧ m' = m0 ∧ a' = a0) := by
  generalize hs0 : fX12_packetAt p0 p1 = X0
  refine g_ofi (by decide) (Nat.le_of_ble_eq_true rfl) ?_
  intro p e s M args below meth c hx hb hr hG hown hin hlocks hml hW hS ls hl
  unfold fX12_packetAt at hs0
  refine lv_bipush (v := 25) hx hb dX12_packetAt_0 (by decide) ?_
  refine lv_iconst (v := 2) hx hb dX12_packetAt_2 (by decide) ?_
  refine lv_iconst (v := 2) hx hb dX12_packetAt_3 (by decide) ?_
  refine lv_iload_n hx hb dX12_packetAt_4 rfl (lv_at hl 0 rfl) ?_
  refine lv_imul hx hb dX12_packetAt_5 ?_
  refine lv_iload_n hx hb dX12_packetAt_6 rfl (lv_at hl 1 rfl) ?_
  refine lv_iadd hx hb dX12_packetAt_7 ?_
  refine lv_imul hx hb dX12_packetAt_8 ?_
  refine lv_iadd hx hb dX12_packetAt_9 ?_
  subst hs0
  exact W.zret hx hb hr rfl (fun t ht hw => ⟨⟨_, (m0, a0), rfl, ⟨rfl, rfl, rfl⟩, g_end hW ht hw⟩, hS.F ht⟩) hS.2.2 dX12_packetAt_10 hlocks
-- HealLinkModel.letterAt (I)I
def fX12_letterAt (p0 : Int32) : Int32 := 41 + (2 * p0)
theorem dX12_letterAt_0 : decode cX12_letterAt 0 = .ok (.bipush 41, 2) := by decide +kernel
theorem dX12_letterAt_2 : decode cX12_letterAt 2 = .ok (.iconst 2, 1) := by decide +kernel
theorem dX12_letterAt_3 : decode cX12_letterAt 3 = .ok (.iload_n 0, 1) := by decide +kernel
theorem dX12_letterAt_4 : decode cX12_letterAt 4 = .ok (.imul, 1) := by decide +kernel
theorem dX12_letterAt_5 : decode cX12_letterAt 5 = .ok (.iadd, 1) := by decide +kernel
theorem dX12_letterAt_6 : decode cX12_letterAt 6 = .ok (.ireturn, 1) := by decide +kernel
set_option maxHeartbeats 4000000 in
set_option maxRecDepth 100000 in
theorem kX12_letterAt {l : Launch} {D : va_G} {cy : Nat → ClassId} {N : Nat} {q : Nat → Nat} {m0 : Nat → Value} {a0 : Nat → vp_A} {sz : Nat} (hN : 105 ≤ N) (p0 : Int32) : gMi l yX12_letterAt cX12_letterAt 1 (some .int) ({ frames := 0, cells := 0, slots := 0, locals := 0 } : Room) D cy N q m0 a0 sz [.int p0] (fun r m' a' => r = (fX12_letterAt p0) ∧ m' = m0 ∧ a' = a0) := by
  generalize hs0 : fX12_letterAt p0 = X0
  refine g_ofi (by decide) (Nat.le_of_ble_eq_true rfl) ?_
  intro p e s M args below meth c hx hb hr hG hown hin hlocks hml hW hS ls hl
  unfold fX12_letterAt at hs0
  refine lv_bipush (v := 41) hx hb dX12_letterAt_0 (by decide) ?_
  refine lv_iconst (v := 2) hx hb dX12_letterAt_2 (by decide) ?_
  refine lv_iload_n hx hb dX12_letterAt_3 rfl (lv_at hl 0 rfl) ?_
  refine lv_imul hx hb dX12_letterAt_4 ?_
  refine lv_iadd hx hb dX12_letterAt_5 ?_
  subst hs0
  exact W.zret hx hb hr rfl (fun t ht hw => ⟨⟨_, (m0, a0), rfl, ⟨rfl, rfl, rfl⟩, g_end hW ht hw⟩, hS.F ht⟩) hS.2.2 dX12_letterAt_6 hlocks
-- HealLinkModel.packetsOf (J)I
def fX12_packetsOf_S4 (F : Nat) (v0 : Int64) (v2 : Int32) (v3 : Int32) : Option ((Int32) ⊕ (Int32 × Int32)) := (if 8 ≤ v3 then some (Sum.inl v2) else some (Sum.inr (v2 + (fX12_get v0 (25 + (2 * v3)) 2), v3 + 1)))
def fX12_packetsOf (F : Nat) (p0 : Int64) : Option (Int32) := (gloop (fun u1 : (Int32 × Int32) => fX12_packetsOf_S4 F p0 u1.1 u1.2) F (0, 0)).bind (fun t1_30 => some t1_30)
theorem dX12_packetsOf_0 : decode cX12_packetsOf 0 = .ok (.iconst 0, 1) := by decide +kernel
theorem dX12_packetsOf_1 : decode cX12_packetsOf 1 = .ok (.istore_n 2, 1) := by decide +kernel
theorem dX12_packetsOf_2 : decode cX12_packetsOf 2 = .ok (.iconst 0, 1) := by decide +kernel
theorem dX12_packetsOf_3 : decode cX12_packetsOf 3 = .ok (.istore_n 3, 1) := by decide +kernel
theorem dX12_packetsOf_4 : decode cX12_packetsOf 4 = .ok (.iload_n 3, 1) := by decide +kernel
theorem dX12_packetsOf_5 : decode cX12_packetsOf 5 = .ok (.bipush 8, 2) := by decide +kernel
theorem dX12_packetsOf_7 : decode cX12_packetsOf 7 = .ok (.if_icmp .ge 23, 3) := by decide +kernel
theorem dX12_packetsOf_10 : decode cX12_packetsOf 10 = .ok (.iload_n 2, 1) := by decide +kernel
theorem dX12_packetsOf_11 : decode cX12_packetsOf 11 = .ok (.lload_n 0, 1) := by decide +kernel
theorem dX12_packetsOf_12 : decode cX12_packetsOf 12 = .ok (.bipush 25, 2) := by decide +kernel
theorem dX12_packetsOf_14 : decode cX12_packetsOf 14 = .ok (.iconst 2, 1) := by decide +kernel
theorem dX12_packetsOf_15 : decode cX12_packetsOf 15 = .ok (.iload_n 3, 1) := by decide +kernel
theorem dX12_packetsOf_16 : decode cX12_packetsOf 16 = .ok (.imul, 1) := by decide +kernel
theorem dX12_packetsOf_17 : decode cX12_packetsOf 17 = .ok (.iadd, 1) := by decide +kernel
theorem dX12_packetsOf_18 : decode cX12_packetsOf 18 = .ok (.iconst 2, 1) := by decide +kernel
theorem dX12_packetsOf_19 : decode cX12_packetsOf 19 = .ok (.invokestatic 142, 3) := by decide +kernel
theorem dX12_packetsOf_22 : decode cX12_packetsOf 22 = .ok (.iadd, 1) := by decide +kernel
theorem dX12_packetsOf_23 : decode cX12_packetsOf 23 = .ok (.istore_n 2, 1) := by decide +kernel
theorem dX12_packetsOf_24 : decode cX12_packetsOf 24 = .ok (.iinc 3 1, 3) := by decide +kernel
theorem dX12_packetsOf_27 : decode cX12_packetsOf 27 = .ok (.goto (-23), 3) := by decide +kernel
theorem dX12_packetsOf_30 : decode cX12_packetsOf 30 = .ok (.iload_n 2, 1) := by decide +kernel
theorem dX12_packetsOf_31 : decode cX12_packetsOf 31 = .ok (.ireturn, 1) := by decide +kernel
set_option maxHeartbeats 4000000 in
set_option maxRecDepth 100000 in
theorem kX12_packetsOf {l : Launch} {D : va_G} {cy : Nat → ClassId} {N : Nat} {q : Nat → Nat} {m0 : Nat → Value} {a0 : Nat → vp_A} {sz : Nat} (hN : 105 ≤ N) (F : Nat) (p0 : Int64) {X0 : Int32} (hs0 : fX12_packetsOf F p0 = some X0) : gMi l yX12_packetsOf cX12_packetsOf 4 (some .int) ({ frames := 1, cells := 0, slots := 0, locals := 23 } : Room) D cy N q m0 a0 sz [.long p0] (fun r m' a' => r = X0 ∧ m' = m0 ∧ a' = a0) := by
  refine g_ofi (by decide) (Nat.le_of_ble_eq_true rfl) ?_
  intro p e s M args below meth c hx hb hr hG hown hin hlocks hml hW hS ls hl
  unfold fX12_packetsOf at hs0
  refine lv_iconst (v := 0) hx hb dX12_packetsOf_0 (by decide) ?_
  refine lv_istore_n (lv' := [(2, .int 0), (0, .long p0)]) hx hb dX12_packetsOf_1 rfl hl (by decide) rfl (fun ls hl => ?_)
  refine lv_iconst (v := 0) hx hb dX12_packetsOf_2 (by decide) ?_
  refine lv_istore_n (lv' := [(3, .int 0), (2, .int 0), (0, .long p0)]) hx hb dX12_packetsOf_3 rfl hl (by decide) rfl (fun ls hl => ?_)
  obtain ⟨r1, hg1, hs0⟩ := obind hs0
  have hE1_30 : ∀ (t1_30 : Int32) (hr1 : t1_30 = r1) (H : Heap) (locs : List Loc) (ls : Array Slot) (hl : lv_has ls 4 [(2, .int t1_30)]) (hW : GW D cy (gA N q s.heap.size) N q m0 a0 s H) (hS : va_S (gA N q s.heap.size) s.heap H locs), W p l e ({ frames := 1, cells := 0, slots := 0, locals := 23 } : Room) s M args below meth c H locs 0 0 (MQ below (va_Qi (fun (r : Int32) (u : (Nat → Value) × (Nat → vp_A)) => r = X0 ∧ u.1 = m0 ∧ u.2 = a0) (gB D cy N q s.heap.size) (gA N q s.heap.size)) args s 0 0 (gA N q s.heap.size)) (F0 M 30 ls []) := by
    intro t1_30 hr1 H locs ls hl hW hS
    subst hr1
    refine lv_iload_n hx hb dX12_packetsOf_30 rfl (lv_at hl 0 rfl) ?_
    have hs0 := Option.some.inj hs0
    subst hs0
    exact W.zret hx hb hr rfl (fun t ht hw => ⟨⟨_, (m0, a0), rfl, ⟨rfl, rfl, rfl⟩, g_end hW ht hw⟩, hS.F ht⟩) hS.2.2 dX12_packetsOf_31 hlocks
  have hL1 : ∀ (n : Nat) (v2k1 : Int32) (v3k1 : Int32) (H : Heap) (locs : List Loc) (ls : Array Slot) (hl : lv_has ls 4 [(0, .long p0), (2, .int v2k1), (3, .int v3k1)]) (hg1 : gloop (fun u1 : (Int32 × Int32) => fX12_packetsOf_S4 F p0 u1.1 u1.2) n (v2k1, v3k1) = some r1) (hW : GW D cy (gA N q s.heap.size) N q m0 a0 s H) (hS : va_S (gA N q s.heap.size) s.heap H locs), W p l e ({ frames := 1, cells := 0, slots := 0, locals := 23 } : Room) s M args below meth c H locs 0 0 (MQ below (va_Qi (fun (r : Int32) (u : (Nat → Value) × (Nat → vp_A)) => r = X0 ∧ u.1 = m0 ∧ u.2 = a0) (gB D cy N q s.heap.size) (gA N q s.heap.size)) args s 0 0 (gA N q s.heap.size)) (F0 M 4 ls []) := by
    intro n
    induction n with
    | zero => intro v2k1 v3k1 H locs ls hl hg1 hW hS; exact (gl_zero hg1).elim
    | succ n ih1 =>
      intro v2k1 v3k1 H locs ls hl hg1 hW hS
      obtain ⟨X1, hs1, hXl1, hXr1⟩ := gl_succ hg1
      have hs1 : fX12_packetsOf_S4 F p0 v2k1 v3k1 = some X1 := hs1
      unfold fX12_packetsOf_S4 at hs1
      refine lv_iload_n hx hb dX12_packetsOf_4 rfl (lv_at hl 2 rfl) ?_
      refine lv_bipush (v := 8) hx hb dX12_packetsOf_5 (by decide) ?_
      refine lv_icmp_ge (tgt := 30) hx hb dX12_packetsOf_7 (by decide) (fun c4 => ?_) (fun c4 => ?_)
      · rw [if_pos c4] at hs1
        exact hE1_30 v2k1 (hXl1 _ (Option.some.inj hs1).symm) _ _ ls (lv_sub hl [1] rfl) hW hS
      · rw [if_neg c4] at hs1
        refine lv_iload_n hx hb dX12_packetsOf_10 rfl (lv_at hl 1 rfl) ?_
        refine lv_lload_n hx hb dX12_packetsOf_11 rfl (lv_at hl 0 rfl) ?_
        refine lv_bipush (v := 25) hx hb dX12_packetsOf_12 (by decide) ?_
        refine lv_iconst (v := 2) hx hb dX12_packetsOf_14 (by decide) ?_
        refine lv_iload_n hx hb dX12_packetsOf_15 rfl (lv_at hl 2 rfl) ?_
        refine lv_imul hx hb dX12_packetsOf_16 ?_
        refine lv_iadd hx hb dX12_packetsOf_17 ?_
        refine lv_iconst (v := 2) hx hb dX12_packetsOf_18 (by decide) ?_
        refine g_SiR (n := 3) hx hb hml hown hG hW hS [.long p0, .int (25 + (2 * v3k1)), .int 2] (kX12_get hN p0 (25 + (2 * v3k1)) 2) rfl (gd_S gx304 gx305 gx5 gx306) rfl rfl (by decide) ⟨Nat.le_of_ble_eq_true rfl, Nat.le_of_ble_eq_true rfl⟩ rfl hl (Nat.le_of_ble_eq_true rfl) ⟨Nat.zero_le _, Nat.zero_le _⟩ dX12_packetsOf_19 (fun H locs hW hS => ?_)
        refine lv_iadd hx hb dX12_packetsOf_22 ?_
        refine lv_istore_n (lv' := [(2, .int (v2k1 + (fX12_get p0 (25 + (2 * v3k1)) 2))), (0, .long p0), (3, .int v3k1)]) hx hb dX12_packetsOf_23 rfl hl (by decide) rfl (fun ls hl => ?_)
        refine lv_iinc (v := v3k1 + 1) (lv' := [(3, .int (v3k1 + 1)), (2, .int (v2k1 + (fX12_get p0 (25 + (2 * v3k1)) 2))), (0, .long p0)]) hx hb dX12_packetsOf_24 hl (k := 2) rfl rfl (by decide) rfl (fun ls hl => ?_)
        refine lv_goto (tgt := 4) hx hb dX12_packetsOf_27 (by decide) ?_
        exact ih1 (v2k1 + (fX12_get p0 (25 + (2 * v3k1)) 2)) (v3k1 + 1) _ _ ls (lv_sub hl [2, 1, 0] rfl) (hXr1 _ (Option.some.inj hs1).symm) hW hS
  exact hL1 F 0 0 _ _ ls (lv_sub hl [2, 1, 0] rfl) hg1 hW hS
-- HealLinkModel.lettersOf (J)I
def fX12_lettersOf_S4 (F : Nat) (v0 : Int64) (v2 : Int32) (v3 : Int32) : Option ((Int32) ⊕ (Int32 × Int32)) := (if 4 ≤ v3 then some (Sum.inl v2) else some (Sum.inr (v2 + (fX12_get v0 (41 + (2 * v3)) 2), v3 + 1)))
def fX12_lettersOf (F : Nat) (p0 : Int64) : Option (Int32) := (gloop (fun u1 : (Int32 × Int32) => fX12_lettersOf_S4 F p0 u1.1 u1.2) F (0, 0)).bind (fun t1_29 => some t1_29)
theorem dX12_lettersOf_0 : decode cX12_lettersOf 0 = .ok (.iconst 0, 1) := by decide +kernel
theorem dX12_lettersOf_1 : decode cX12_lettersOf 1 = .ok (.istore_n 2, 1) := by decide +kernel
theorem dX12_lettersOf_2 : decode cX12_lettersOf 2 = .ok (.iconst 0, 1) := by decide +kernel
theorem dX12_lettersOf_3 : decode cX12_lettersOf 3 = .ok (.istore_n 3, 1) := by decide +kernel
theorem dX12_lettersOf_4 : decode cX12_lettersOf 4 = .ok (.iload_n 3, 1) := by decide +kernel
theorem dX12_lettersOf_5 : decode cX12_lettersOf 5 = .ok (.iconst 4, 1) := by decide +kernel
theorem dX12_lettersOf_6 : decode cX12_lettersOf 6 = .ok (.if_icmp .ge 23, 3) := by decide +kernel
theorem dX12_lettersOf_9 : decode cX12_lettersOf 9 = .ok (.iload_n 2, 1) := by decide +kernel
theorem dX12_lettersOf_10 : decode cX12_lettersOf 10 = .ok (.lload_n 0, 1) := by decide +kernel
theorem dX12_lettersOf_11 : decode cX12_lettersOf 11 = .ok (.bipush 41, 2) := by decide +kernel
theorem dX12_lettersOf_13 : decode cX12_lettersOf 13 = .ok (.iconst 2, 1) := by decide +kernel
theorem dX12_lettersOf_14 : decode cX12_lettersOf 14 = .ok (.iload_n 3, 1) := by decide +kernel
theorem dX12_lettersOf_15 : decode cX12_lettersOf 15 = .ok (.imul, 1) := by decide +kernel
theorem dX12_lettersOf_16 : decode cX12_lettersOf 16 = .ok (.iadd, 1) := by decide +kernel
theorem dX12_lettersOf_17 : decode cX12_lettersOf 17 = .ok (.iconst 2, 1) := by decide +kernel
theorem dX12_lettersOf_18 : decode cX12_lettersOf 18 = .ok (.invokestatic 142, 3) := by decide +kernel
theorem dX12_lettersOf_21 : decode cX12_lettersOf 21 = .ok (.iadd, 1) := by decide +kernel
theorem dX12_lettersOf_22 : decode cX12_lettersOf 22 = .ok (.istore_n 2, 1) := by decide +kernel
theorem dX12_lettersOf_23 : decode cX12_lettersOf 23 = .ok (.iinc 3 1, 3) := by decide +kernel
theorem dX12_lettersOf_26 : decode cX12_lettersOf 26 = .ok (.goto (-22), 3) := by decide +kernel
theorem dX12_lettersOf_29 : decode cX12_lettersOf 29 = .ok (.iload_n 2, 1) := by decide +kernel
theorem dX12_lettersOf_30 : decode cX12_lettersOf 30 = .ok (.ireturn, 1) := by decide +kernel
set_option maxHeartbeats 4000000 in
set_option maxRecDepth 100000 in
theorem kX12_lettersOf {l : Launch} {D : va_G} {cy : Nat → ClassId} {N : Nat} {q : Nat → Nat} {m0 : Nat → Value} {a0 : Nat → vp_A} {sz : Nat} (hN : 105 ≤ N) (F : Nat) (p0 : Int64) {X0 : Int32} (hs0 : fX12_lettersOf F p0 = some X0) : gMi l yX12_lettersOf cX12_lettersOf 4 (some .int) ({ frames := 1, cells := 0, slots := 0, locals := 23 } : Room) D cy N q m0 a0 sz [.long p0] (fun r m' a' => r = X0 ∧ m' = m0 ∧ a' = a0) := by
  refine g_ofi (by decide) (Nat.le_of_ble_eq_true rfl) ?_
  intro p e s M args below meth c hx hb hr hG hown hin hlocks hml hW hS ls hl
  unfold fX12_lettersOf at hs0
  refine lv_iconst (v := 0) hx hb dX12_lettersOf_0 (by decide) ?_
  refine lv_istore_n (lv' := [(2, .int 0), (0, .long p0)]) hx hb dX12_lettersOf_1 rfl hl (by decide) rfl (fun ls hl => ?_)
  refine lv_iconst (v := 0) hx hb dX12_lettersOf_2 (by decide) ?_
  refine lv_istore_n (lv' := [(3, .int 0), (2, .int 0), (0, .long p0)]) hx hb dX12_lettersOf_3 rfl hl (by decide) rfl (fun ls hl => ?_)
  obtain ⟨r1, hg1, hs0⟩ := obind hs0
  have hE1_29 : ∀ (t1_29 : Int32) (hr1 : t1_29 = r1) (H : Heap) (locs : List Loc) (ls : Array Slot) (hl : lv_has ls 4 [(2, .int t1_29)]) (hW : GW D cy (gA N q s.heap.size) N q m0 a0 s H) (hS : va_S (gA N q s.heap.size) s.heap H locs), W p l e ({ frames := 1, cells := 0, slots := 0, locals := 23 } : Room) s M args below meth c H locs 0 0 (MQ below (va_Qi (fun (r : Int32) (u : (Nat → Value) × (Nat → vp_A)) => r = X0 ∧ u.1 = m0 ∧ u.2 = a0) (gB D cy N q s.heap.size) (gA N q s.heap.size)) args s 0 0 (gA N q s.heap.size)) (F0 M 29 ls []) := by
    intro t1_29 hr1 H locs ls hl hW hS
    subst hr1
    refine lv_iload_n hx hb dX12_lettersOf_29 rfl (lv_at hl 0 rfl) ?_
    have hs0 := Option.some.inj hs0
    subst hs0
    exact W.zret hx hb hr rfl (fun t ht hw => ⟨⟨_, (m0, a0), rfl, ⟨rfl, rfl, rfl⟩, g_end hW ht hw⟩, hS.F ht⟩) hS.2.2 dX12_lettersOf_30 hlocks
  have hL1 : ∀ (n : Nat) (v2k1 : Int32) (v3k1 : Int32) (H : Heap) (locs : List Loc) (ls : Array Slot) (hl : lv_has ls 4 [(0, .long p0), (2, .int v2k1), (3, .int v3k1)]) (hg1 : gloop (fun u1 : (Int32 × Int32) => fX12_lettersOf_S4 F p0 u1.1 u1.2) n (v2k1, v3k1) = some r1) (hW : GW D cy (gA N q s.heap.size) N q m0 a0 s H) (hS : va_S (gA N q s.heap.size) s.heap H locs), W p l e ({ frames := 1, cells := 0, slots := 0, locals := 23 } : Room) s M args below meth c H locs 0 0 (MQ below (va_Qi (fun (r : Int32) (u : (Nat → Value) × (Nat → vp_A)) => r = X0 ∧ u.1 = m0 ∧ u.2 = a0) (gB D cy N q s.heap.size) (gA N q s.heap.size)) args s 0 0 (gA N q s.heap.size)) (F0 M 4 ls []) := by
    intro n
    induction n with
    | zero => intro v2k1 v3k1 H locs ls hl hg1 hW hS; exact (gl_zero hg1).elim
    | succ n ih1 =>
      intro v2k1 v3k1 H locs ls hl hg1 hW hS
      obtain ⟨X1, hs1, hXl1, hXr1⟩ := gl_succ hg1
      have hs1 : fX12_lettersOf_S4 F p0 v2k1 v3k1 = some X1 := hs1
      unfold fX12_lettersOf_S4 at hs1
      refine lv_iload_n hx hb dX12_lettersOf_4 rfl (lv_at hl 2 rfl) ?_
      refine lv_iconst (v := 4) hx hb dX12_lettersOf_5 (by decide) ?_
      refine lv_icmp_ge (tgt := 29) hx hb dX12_lettersOf_6 (by decide) (fun c4 => ?_) (fun c4 => ?_)
      · rw [if_pos c4] at hs1
        exact hE1_29 v2k1 (hXl1 _ (Option.some.inj hs1).symm) _ _ ls (lv_sub hl [1] rfl) hW hS
      · rw [if_neg c4] at hs1
        refine lv_iload_n hx hb dX12_lettersOf_9 rfl (lv_at hl 1 rfl) ?_
        refine lv_lload_n hx hb dX12_lettersOf_10 rfl (lv_at hl 0 rfl) ?_
        refine lv_bipush (v := 41) hx hb dX12_lettersOf_11 (by decide) ?_
        refine lv_iconst (v := 2) hx hb dX12_lettersOf_13 (by decide) ?_
        refine lv_iload_n hx hb dX12_lettersOf_14 rfl (lv_at hl 2 rfl) ?_
        refine lv_imul hx hb dX12_lettersOf_15 ?_
        refine lv_iadd hx hb dX12_lettersOf_16 ?_
        refine lv_iconst (v := 2) hx hb dX12_lettersOf_17 (by decide) ?_
        refine g_SiR (n := 3) hx hb hml hown hG hW hS [.long p0, .int (41 + (2 * v3k1)), .int 2] (kX12_get hN p0 (41 + (2 * v3k1)) 2) rfl (gd_S gx304 gx305 gx5 gx306) rfl rfl (by decide) ⟨Nat.le_of_ble_eq_true rfl, Nat.le_of_ble_eq_true rfl⟩ rfl hl (Nat.le_of_ble_eq_true rfl) ⟨Nat.zero_le _, Nat.zero_le _⟩ dX12_lettersOf_18 (fun H locs hW hS => ?_)
        refine lv_iadd hx hb dX12_lettersOf_21 ?_
        refine lv_istore_n (lv' := [(2, .int (v2k1 + (fX12_get p0 (41 + (2 * v3k1)) 2))), (0, .long p0), (3, .int v3k1)]) hx hb dX12_lettersOf_22 rfl hl (by decide) rfl (fun ls hl => ?_)
        refine lv_iinc (v := v3k1 + 1) (lv' := [(3, .int (v3k1 + 1)), (2, .int (v2k1 + (fX12_get p0 (41 + (2 * v3k1)) 2))), (0, .long p0)]) hx hb dX12_lettersOf_23 hl (k := 2) rfl rfl (by decide) rfl (fun ls hl => ?_)
        refine lv_goto (tgt := 4) hx hb dX12_lettersOf_26 (by decide) ?_
        exact ih1 (v2k1 + (fX12_get p0 (41 + (2 * v3k1)) 2)) (v3k1 + 1) _ _ ls (lv_sub hl [2, 1, 0] rfl) (hXr1 _ (Option.some.inj hs1).symm) hW hS
  exact hL1 F 0 0 _ _ ls (lv_sub hl [2, 1, 0] rfl) hg1 hW hS
-- HealLinkModel.more (JII)J
def fX12_more (p0 : Int64) (p2 : Int32) (p3 : Int32) : Int64 := (fX12_put p0 p2 2 ((fX12_get p0 p2 2) + p3))
theorem dX12_more_0 : decode cX12_more 0 = .ok (.lload_n 0, 1) := by decide +kernel
theorem dX12_more_1 : decode cX12_more 1 = .ok (.iload_n 2, 1) := by decide +kernel
theorem dX12_more_2 : decode cX12_more 2 = .ok (.iconst 2, 1) := by decide +kernel
theorem dX12_more_3 : decode cX12_more 3 = .ok (.lload_n 0, 1) := by decide +kernel
theorem dX12_more_4 : decode cX12_more 4 = .ok (.iload_n 2, 1) := by decide +kernel
theorem dX12_more_5 : decode cX12_more 5 = .ok (.iconst 2, 1) := by decide +kernel
theorem dX12_more_6 : decode cX12_more 6 = .ok (.invokestatic 142, 3) := by decide +kernel
theorem dX12_more_9 : decode cX12_more 9 = .ok (.iload_n 3, 1) := by decide +kernel
theorem dX12_more_10 : decode cX12_more 10 = .ok (.iadd, 1) := by decide +kernel
theorem dX12_more_11 : decode cX12_more 11 = .ok (.invokestatic 129, 3) := by decide +kernel
theorem dX12_more_14 : decode cX12_more 14 = .ok (.lreturn, 1) := by decide +kernel
set_option maxHeartbeats 4000000 in
set_option maxRecDepth 100000 in
theorem kX12_more {l : Launch} {D : va_G} {cy : Nat → ClassId} {N : Nat} {q : Nat → Nat} {m0 : Nat → Value} {a0 : Nat → vp_A} {sz : Nat} (hN : 105 ≤ N) (p0 : Int64) (p2 : Int32) (p3 : Int32) : gMl l yX12_more cX12_more 4 (some .long) ({ frames := 1, cells := 0, slots := 0, locals := 24 } : Room) D cy N q m0 a0 sz [.long p0, .int p2, .int p3] (fun r m' a' => r = (fX12_more p0 p2 p3) ∧ m' = m0 ∧ a' = a0) := by
  generalize hs0 : fX12_more p0 p2 p3 = X0
  refine g_ofl (by decide) (Nat.le_of_ble_eq_true rfl) ?_
  intro p e s M args below meth c hx hb hr hG hown hin hlocks hml hW hS ls hl
  unfold fX12_more at hs0
  refine lv_lload_n hx hb dX12_more_0 rfl (lv_at hl 0 rfl) ?_
  refine lv_iload_n hx hb dX12_more_1 rfl (lv_at hl 1 rfl) ?_
  refine lv_iconst (v := 2) hx hb dX12_more_2 (by decide) ?_
  refine lv_lload_n hx hb dX12_more_3 rfl (lv_at hl 0 rfl) ?_
  refine lv_iload_n hx hb dX12_more_4 rfl (lv_at hl 1 rfl) ?_
  refine lv_iconst (v := 2) hx hb dX12_more_5 (by decide) ?_
  refine g_SiR (n := 3) hx hb hml hown hG hW hS [.long p0, .int p2, .int 2] (kX12_get hN p0 p2 2) rfl (gd_S gx304 gx305 gx5 gx306) rfl rfl (by decide) ⟨Nat.le_of_ble_eq_true rfl, Nat.le_of_ble_eq_true rfl⟩ rfl hl (Nat.le_of_ble_eq_true rfl) ⟨Nat.zero_le _, Nat.zero_le _⟩ dX12_more_6 (fun H locs hW hS => ?_)
  refine lv_iload_n hx hb dX12_more_9 rfl (lv_at hl 2 rfl) ?_
  refine lv_iadd hx hb dX12_more_10 ?_
  refine g_SlR (n := 4) hx hb hml hown hG hW hS [.long p0, .int p2, .int 2, .int ((fX12_get p0 p2 2) + p3)] (kX12_put hN p0 p2 2 ((fX12_get p0 p2 2) + p3)) rfl (gd_S gx203 gx204 gx5 gx205) rfl rfl (by decide) ⟨Nat.le_of_ble_eq_true rfl, Nat.le_of_ble_eq_true rfl⟩ rfl hl (Nat.le_of_ble_eq_true rfl) ⟨Nat.zero_le _, Nat.zero_le _⟩ dX12_more_11 (fun H locs hW hS => ?_)
  subst hs0
  exact W.lret hx hb hr (fun t ht hw => ⟨⟨_, (m0, a0), rfl, ⟨rfl, rfl, rfl⟩, g_end hW ht hw⟩, hS.F ht⟩) hS.2.2 dX12_more_14 hlocks
-- HealLinkModel.isBad (I)Z
def fX12_isBad (p0 : Int32) : Int32 := (if p0 = 2 then 1 else (if p0 = 3 then 1 else (if p0 = 5 then 1 else 0)))
theorem dX12_isBad_0 : decode cX12_isBad 0 = .ok (.iload_n 0, 1) := by decide +kernel
theorem dX12_isBad_1 : decode cX12_isBad 1 = .ok (.iconst 2, 1) := by decide +kernel
theorem dX12_isBad_2 : decode cX12_isBad 2 = .ok (.if_icmp .eq 13, 3) := by decide +kernel
theorem dX12_isBad_5 : decode cX12_isBad 5 = .ok (.iload_n 0, 1) := by decide +kernel
theorem dX12_isBad_6 : decode cX12_isBad 6 = .ok (.iconst 3, 1) := by decide +kernel
theorem dX12_isBad_7 : decode cX12_isBad 7 = .ok (.if_icmp .eq 8, 3) := by decide +kernel
theorem dX12_isBad_10 : decode cX12_isBad 10 = .ok (.iload_n 0, 1) := by decide +kernel
theorem dX12_isBad_11 : decode cX12_isBad 11 = .ok (.iconst 5, 1) := by decide +kernel
theorem dX12_isBad_12 : decode cX12_isBad 12 = .ok (.if_icmp .ne 7, 3) := by decide +kernel
theorem dX12_isBad_15 : decode cX12_isBad 15 = .ok (.iconst 1, 1) := by decide +kernel
theorem dX12_isBad_16 : decode cX12_isBad 16 = .ok (.goto 4, 3) := by decide +kernel
theorem dX12_isBad_19 : decode cX12_isBad 19 = .ok (.iconst 0, 1) := by decide +kernel
theorem dX12_isBad_20 : decode cX12_isBad 20 = .ok (.ireturn, 1) := by decide +kernel
set_option maxHeartbeats 4000000 in
set_option maxRecDepth 100000 in
theorem kX12_isBad {l : Launch} {D : va_G} {cy : Nat → ClassId} {N : Nat} {q : Nat → Nat} {m0 : Nat → Value} {a0 : Nat → vp_A} {sz : Nat} (hN : 105 ≤ N) (p0 : Int32) : gMi l yX12_isBad cX12_isBad 1 (some .boolean) ({ frames := 0, cells := 0, slots := 0, locals := 0 } : Room) D cy N q m0 a0 sz [.int p0] (fun r m' a' => r = (fX12_isBad p0) ∧ m' = m0 ∧ a' = a0) := by
  generalize hs0 : fX12_isBad p0 = X0
  refine g_ofi (by decide) (Nat.le_of_ble_eq_true rfl) ?_
  intro p e s M args below meth c hx hb hr hG hown hin hlocks hml hW hS ls hl
  unfold fX12_isBad at hs0
  refine lv_iload_n hx hb dX12_isBad_0 rfl (lv_at hl 0 rfl) ?_
  refine lv_iconst (v := 2) hx hb dX12_isBad_1 (by decide) ?_
  refine lv_icmp_eq (tgt := 15) hx hb dX12_isBad_2 (by decide) (fun c1 => ?_) (fun c1 => ?_)
  · rw [if_pos c1] at hs0
    refine lv_iconst (v := 1) hx hb dX12_isBad_15 (by decide) ?_
    refine lv_goto (tgt := 20) hx hb dX12_isBad_16 (by decide) ?_
    subst hs0
    exact W.zret hx hb hr rfl (fun t ht hw => ⟨⟨_, (m0, a0), rfl, ⟨rfl, rfl, rfl⟩, g_end hW ht hw⟩, hS.F ht⟩) hS.2.2 dX12_isBad_20 hlocks
  · rw [if_neg c1] at hs0
    refine lv_iload_n hx hb dX12_isBad_5 rfl (lv_at hl 0 rfl) ?_
    refine lv_iconst (v := 3) hx hb dX12_isBad_6 (by decide) ?_
    refine lv_icmp_eq (tgt := 15) hx hb dX12_isBad_7 (by decide) (fun c2 => ?_) (fun c2 => ?_)
    · rw [if_pos c2] at hs0
      refine lv_iconst (v := 1) hx hb dX12_isBad_15 (by decide) ?_
      refine lv_goto (tgt := 20) hx hb dX12_isBad_16 (by decide) ?_
      subst hs0
      exact W.zret hx hb hr rfl (fun t ht hw => ⟨⟨_, (m0, a0), rfl, ⟨rfl, rfl, rfl⟩, g_end hW ht hw⟩, hS.F ht⟩) hS.2.2 dX12_isBad_20 hlocks
    · rw [if_neg c2] at hs0
      refine lv_iload_n hx hb dX12_isBad_10 rfl (lv_at hl 0 rfl) ?_
      refine lv_iconst (v := 5) hx hb dX12_isBad_11 (by decide) ?_
      refine lv_icmp_ne (tgt := 19) hx hb dX12_isBad_12 (by decide) (fun c3 => ?_) (fun c3 => ?_)
      · rw [if_neg c3] at hs0
        refine lv_iconst (v := 0) hx hb dX12_isBad_19 (by decide) ?_
        subst hs0
        exact W.zret hx hb hr rfl (fun t ht hw => ⟨⟨_, (m0, a0), rfl, ⟨rfl, rfl, rfl⟩, g_end hW ht hw⟩, hS.F ht⟩) hS.2.2 dX12_isBad_20 hlocks
      · rw [if_pos c3] at hs0
        refine lv_iconst (v := 1) hx hb dX12_isBad_15 (by decide) ?_
        refine lv_goto (tgt := 20) hx hb dX12_isBad_16 (by decide) ?_
        subst hs0
        exact W.zret hx hb hr rfl (fun t ht hw => ⟨⟨_, (m0, a0), rfl, ⟨rfl, rfl, rfl⟩, g_end hW ht hw⟩, hS.F ht⟩) hS.2.2 dX12_isBad_20 hlocks
-- HealLinkModel.slotOf (J)I
def fX12_slotOf (p0 : Int64) : Int32 := (((p0 * 7046029254386353131).toUInt64 >>> ((50 : Int32).toInt64.toUInt64 &&& Int64.toUInt64 63)).toInt64).toInt32
theorem dX12_slotOf_0 : decode cX12_slotOf 0 = .ok (.lload_n 0, 1) := by decide +kernel
theorem dX12_slotOf_1 : decode cX12_slotOf 1 = .ok (.ldc2_w 250, 3) := by decide +kernel
theorem dX12_slotOf_4 : decode cX12_slotOf 4 = .ok (.lmul, 1) := by decide +kernel
theorem dX12_slotOf_5 : decode cX12_slotOf 5 = .ok (.lstore_n 2, 1) := by decide +kernel
theorem dX12_slotOf_6 : decode cX12_slotOf 6 = .ok (.lload_n 2, 1) := by decide +kernel
theorem dX12_slotOf_7 : decode cX12_slotOf 7 = .ok (.bipush 50, 2) := by decide +kernel
theorem dX12_slotOf_9 : decode cX12_slotOf 9 = .ok (.lushr, 1) := by decide +kernel
theorem dX12_slotOf_10 : decode cX12_slotOf 10 = .ok (.l2i, 1) := by decide +kernel
theorem dX12_slotOf_11 : decode cX12_slotOf 11 = .ok (.ireturn, 1) := by decide +kernel
set_option maxHeartbeats 4000000 in
set_option maxRecDepth 100000 in
theorem kX12_slotOf {l : Launch} {D : va_G} {cy : Nat → ClassId} {N : Nat} {q : Nat → Nat} {m0 : Nat → Value} {a0 : Nat → vp_A} {sz : Nat} (hN : 105 ≤ N) (p0 : Int64) : gMi l yX12_slotOf cX12_slotOf 4 (some .int) ({ frames := 0, cells := 0, slots := 0, locals := 0 } : Room) D cy N q m0 a0 sz [.long p0] (fun r m' a' => r = (fX12_slotOf p0) ∧ m' = m0 ∧ a' = a0) := by
  generalize hs0 : fX12_slotOf p0 = X0
  refine g_ofi (by decide) (Nat.le_of_ble_eq_true rfl) ?_
  intro p e s M args below meth c hx hb hr hG hown hin hlocks hml hW hS ls hl
  unfold fX12_slotOf at hs0
  refine lv_lload_n hx hb dX12_slotOf_0 rfl (lv_at hl 0 rfl) ?_
  refine lv_ldc2 (v := 7046029254386353131) hx hb hown (hG _ gx730) dX12_slotOf_1 ?_
  refine lv_lmul hx hb dX12_slotOf_4 ?_
  refine lv_lstore_n (lv' := [(2, .long (p0 * 7046029254386353131)), (0, .long p0)]) hx hb dX12_slotOf_5 rfl hl (by decide) rfl (fun ls hl => ?_)
  refine lv_lload_n hx hb dX12_slotOf_6 rfl (lv_at hl 0 rfl) ?_
  refine lv_bipush (v := 50) hx hb dX12_slotOf_7 (by decide) ?_
  refine lv_lushr hx hb dX12_slotOf_9 rfl ?_
  refine lv_l2i hx hb dX12_slotOf_10 rfl ?_
  subst hs0
  exact W.zret hx hb hr rfl (fun t ht hw => ⟨⟨_, (m0, a0), rfl, ⟨rfl, rfl, rfl⟩, g_end hW ht hw⟩, hS.F ht⟩) hS.2.2 dX12_slotOf_11 hlocks
-- HealLinkModel.isSmall (I)Z
def fX12_isSmall (p0 : Int32) : Int32 := (if p0 < 97 then 0 else (if 122 < p0 then 0 else 1))
theorem dX12_isSmall_0 : decode cX12_isSmall 0 = .ok (.iload_n 0, 1) := by decide +kernel
theorem dX12_isSmall_1 : decode cX12_isSmall 1 = .ok (.bipush 97, 2) := by decide +kernel
theorem dX12_isSmall_3 : decode cX12_isSmall 3 = .ok (.if_icmp .lt 13, 3) := by decide +kernel
theorem dX12_isSmall_6 : decode cX12_isSmall 6 = .ok (.iload_n 0, 1) := by decide +kernel
theorem dX12_isSmall_7 : decode cX12_isSmall 7 = .ok (.bipush 122, 2) := by decide +kernel
theorem dX12_isSmall_9 : decode cX12_isSmall 9 = .ok (.if_icmp .gt 7, 3) := by decide +kernel
theorem dX12_isSmall_12 : decode cX12_isSmall 12 = .ok (.iconst 1, 1) := by decide +kernel
theorem dX12_isSmall_13 : decode cX12_isSmall 13 = .ok (.goto 4, 3) := by decide +kernel
theorem dX12_isSmall_16 : decode cX12_isSmall 16 = .ok (.iconst 0, 1) := by decide +kernel
theorem dX12_isSmall_17 : decode cX12_isSmall 17 = .ok (.ireturn, 1) := by decide +kernel
set_option maxHeartbeats 4000000 in
set_option maxRecDepth 100000 in
theorem kX12_isSmall {l : Launch} {D : va_G} {cy : Nat → ClassId} {N : Nat} {q : Nat → Nat} {m0 : Nat → Value} {a0 : Nat → vp_A} {sz : Nat} (hN : 105 ≤ N) (p0 : Int32) : gMi l yX12_isSmall cX12_isSmall 1 (some .boolean) ({ frames := 0, cells := 0, slots := 0, locals := 0 } : Room) D cy N q m0 a0 sz [.int p0] (fun r m' a' => r = (fX12_isSmall p0) ∧ m' = m0 ∧ a' = a0) := by
  generalize hs0 : fX12_isSmall p0 = X0
  refine g_ofi (by decide) (Nat.le_of_ble_eq_true rfl) ?_
  intro p e s M args below meth c hx hb hr hG hown hin hlocks hml hW hS ls hl
  unfold fX12_isSmall at hs0
  refine lv_iload_n hx hb dX12_isSmall_0 rfl (lv_at hl 0 rfl) ?_
  refine lv_bipush (v := 97) hx hb dX12_isSmall_1 (by decide) ?_
  refine lv_icmp_lt (tgt := 16) hx hb dX12_isSmall_3 (by decide) (fun c1 => ?_) (fun c1 => ?_)
  · rw [if_pos c1] at hs0
    refine lv_iconst (v := 0) hx hb dX12_isSmall_16 (by decide) ?_
    subst hs0
    exact W.zret hx hb hr rfl (fun t ht hw => ⟨⟨_, (m0, a0), rfl, ⟨rfl, rfl, rfl⟩, g_end hW ht hw⟩, hS.F ht⟩) hS.2.2 dX12_isSmall_17 hlocks
  · rw [if_neg c1] at hs0
    refine lv_iload_n hx hb dX12_isSmall_6 rfl (lv_at hl 0 rfl) ?_
    refine lv_bipush (v := 122) hx hb dX12_isSmall_7 (by decide) ?_
    refine lv_icmp_gt (tgt := 16) hx hb dX12_isSmall_9 (by decide) (fun c2 => ?_) (fun c2 => ?_)
    · rw [if_pos c2] at hs0
      refine lv_iconst (v := 0) hx hb dX12_isSmall_16 (by decide) ?_
      subst hs0
      exact W.zret hx hb hr rfl (fun t ht hw => ⟨⟨_, (m0, a0), rfl, ⟨rfl, rfl, rfl⟩, g_end hW ht hw⟩, hS.F ht⟩) hS.2.2 dX12_isSmall_17 hlocks
    · rw [if_neg c2] at hs0
      refine lv_iconst (v := 1) hx hb dX12_isSmall_12 (by decide) ?_
      refine lv_goto (tgt := 17) hx hb dX12_isSmall_13 (by decide) ?_
      subst hs0
      exact W.zret hx hb hr rfl (fun t ht hw => ⟨⟨_, (m0, a0), rfl, ⟨rfl, rfl, rfl⟩, g_end hW ht hw⟩, hS.F ht⟩) hS.2.2 dX12_isSmall_17 hlocks
-- HealLinkModel.isDigit (I)Z
def fX12_isDigit (p0 : Int32) : Int32 := (if p0 < 48 then 0 else (if 57 < p0 then 0 else 1))
theorem dX12_isDigit_0 : decode cX12_isDigit 0 = .ok (.iload_n 0, 1) := by decide +kernel
theorem dX12_isDigit_1 : decode cX12_isDigit 1 = .ok (.bipush 48, 2) := by decide +kernel
theorem dX12_isDigit_3 : decode cX12_isDigit 3 = .ok (.if_icmp .lt 13, 3) := by decide +kernel
theorem dX12_isDigit_6 : decode cX12_isDigit 6 = .ok (.iload_n 0, 1) := by decide +kernel
theorem dX12_isDigit_7 : decode cX12_isDigit 7 = .ok (.bipush 57, 2) := by decide +kernel
theorem dX12_isDigit_9 : decode cX12_isDigit 9 = .ok (.if_icmp .gt 7, 3) := by decide +kernel
theorem dX12_isDigit_12 : decode cX12_isDigit 12 = .ok (.iconst 1, 1) := by decide +kernel
theorem dX12_isDigit_13 : decode cX12_isDigit 13 = .ok (.goto 4, 3) := by decide +kernel
theorem dX12_isDigit_16 : decode cX12_isDigit 16 = .ok (.iconst 0, 1) := by decide +kernel
theorem dX12_isDigit_17 : decode cX12_isDigit 17 = .ok (.ireturn, 1) := by decide +kernel
set_option maxHeartbeats 4000000 in
set_option maxRecDepth 100000 in
theorem kX12_isDigit {l : Launch} {D : va_G} {cy : Nat → ClassId} {N : Nat} {q : Nat → Nat} {m0 : Nat → Value} {a0 : Nat → vp_A} {sz : Nat} (hN : 105 ≤ N) (p0 : Int32) : gMi l yX12_isDigit cX12_isDigit 1 (some .boolean) ({ frames := 0, cells := 0, slots := 0, locals := 0 } : Room) D cy N q m0 a0 sz [.int p0] (fun r m' a' => r = (fX12_isDigit p0) ∧ m' = m0 ∧ a' = a0) := by
  generalize hs0 : fX12_isDigit p0 = X0
  refine g_ofi (by decide) (Nat.le_of_ble_eq_true rfl) ?_
  intro p e s M args below meth c hx hb hr hG hown hin hlocks hml hW hS ls hl
  unfold fX12_isDigit at hs0
  refine lv_iload_n hx hb dX12_isDigit_0 rfl (lv_at hl 0 rfl) ?_
  refine lv_bipush (v := 48) hx hb dX12_isDigit_1 (by decide) ?_
  refine lv_icmp_lt (tgt := 16) hx hb dX12_isDigit_3 (by decide) (fun c1 => ?_) (fun c1 => ?_)
  · rw [if_pos c1] at hs0
    refine lv_iconst (v := 0) hx hb dX12_isDigit_16 (by decide) ?_
    subst hs0
    exact W.zret hx hb hr rfl (fun t ht hw => ⟨⟨_, (m0, a0), rfl, ⟨rfl, rfl, rfl⟩, g_end hW ht hw⟩, hS.F ht⟩) hS.2.2 dX12_isDigit_17 hlocks
  · rw [if_neg c1] at hs0
    refine lv_iload_n hx hb dX12_isDigit_6 rfl (lv_at hl 0 rfl) ?_
    refine lv_bipush (v := 57) hx hb dX12_isDigit_7 (by decide) ?_
    refine lv_icmp_gt (tgt := 16) hx hb dX12_isDigit_9 (by decide) (fun c2 => ?_) (fun c2 => ?_)
    · rw [if_pos c2] at hs0
      refine lv_iconst (v := 0) hx hb dX12_isDigit_16 (by decide) ?_
      subst hs0
      exact W.zret hx hb hr rfl (fun t ht hw => ⟨⟨_, (m0, a0), rfl, ⟨rfl, rfl, rfl⟩, g_end hW ht hw⟩, hS.F ht⟩) hS.2.2 dX12_isDigit_17 hlocks
    · rw [if_neg c2] at hs0
      refine lv_iconst (v := 1) hx hb dX12_isDigit_12 (by decide) ?_
      refine lv_goto (tgt := 17) hx hb dX12_isDigit_13 (by decide) ?_
      subst hs0
      exact W.zret hx hb hr rfl (fun t ht hw => ⟨⟨_, (m0, a0), rfl, ⟨rfl, rfl, rfl⟩, g_end hW ht hw⟩, hS.F ht⟩) hS.2.2 dX12_isDigit_17 hlocks
-- HealLinkModel.told (I)I
def fX12_told (p0 : Int32) : Int32 := (if p0 < 1000000 then p0 else (-2))
theorem dX12_told_0 : decode cX12_told 0 = .ok (.iload_n 0, 1) := by decide +kernel
theorem dX12_told_1 : decode cX12_told 1 = .ok (.ldc_w 303, 3) := by decide +kernel
theorem dX12_told_4 : decode cX12_told 4 = .ok (.if_icmp .lt 8, 3) := by decide +kernel
theorem dX12_told_7 : decode cX12_told 7 = .ok (.bipush (-2), 2) := by decide +kernel
theorem dX12_told_9 : decode cX12_told 9 = .ok (.goto 4, 3) := by decide +kernel
theorem dX12_told_12 : decode cX12_told 12 = .ok (.iload_n 0, 1) := by decide +kernel
theorem dX12_told_13 : decode cX12_told 13 = .ok (.ireturn, 1) := by decide +kernel
set_option maxHeartbeats 4000000 in
set_option maxRecDepth 100000 in
theorem kX12_told {l : Launch} {D : va_G} {cy : Nat → ClassId} {N : Nat} {q : Nat → Nat} {m0 : Nat → Value} {a0 : Nat → vp_A} {sz : Nat} (hN : 105 ≤ N) (p0 : Int32) : gMi l yX12_told cX12_told 1 (some .int) ({ frames := 0, cells := 0, slots := 0, locals := 0 } : Room) D cy N q m0 a0 sz [.int p0] (fun r m' a' => r = (fX12_told p0) ∧ m' = m0 ∧ a' = a0) := by
  generalize hs0 : fX12_told p0 = X0
  refine g_ofi (by decide) (Nat.le_of_ble_eq_true rfl) ?_
  intro p e s M args below meth c hx hb hr hG hown hin hlocks hml hW hS ls hl
  unfold fX12_told at hs0
  refine lv_iload_n hx hb dX12_told_0 rfl (lv_at hl 0 rfl) ?_
  refine lv_ldcw (v := 1000000) hx hb hown (hG _ gx823) dX12_told_1 ?_
  refine lv_icmp_lt (tgt := 12) hx hb dX12_told_4 (by decide) (fun c1 => ?_) (fun c1 => ?_)
  · rw [if_pos c1] at hs0
    refine lv_iload_n hx hb dX12_told_12 rfl (lv_at hl 0 rfl) ?_
    subst hs0
    exact W.zret hx hb hr rfl (fun t ht hw => ⟨⟨_, (m0, a0), rfl, ⟨rfl, rfl, rfl⟩, g_end hW ht hw⟩, hS.F ht⟩) hS.2.2 dX12_told_13 hlocks
  · rw [if_neg c1] at hs0
    refine lv_bipush (v := (-2)) hx hb dX12_told_7 (by decide) ?_
    refine lv_goto (tgt := 13) hx hb dX12_told_9 (by decide) ?_
    subst hs0
    exact W.zret hx hb hr rfl (fun t ht hw => ⟨⟨_, (m0, a0), rfl, ⟨rfl, rfl, rfl⟩, g_end hW ht hw⟩, hS.F ht⟩) hS.2.2 dX12_told_13 hlocks
-- HealLinkModel.isWanted (IZ)Z
def fX12_isWanted (p0 : Int32) (p1 : Int32) : Option (Int32) := (if p1 = 0 then (if p0 = 1 then some 1 else some 0) else (if bzb (fX12_isBad p0) = true then some (fX12_isBad p0) else none))
theorem dX12_isWanted_0 : decode cX12_isWanted 0 = .ok (.iload_n 1, 1) := by decide +kernel
theorem dX12_isWanted_1 : decode cX12_isWanted 1 = .ok (.ifCond .eq 10, 3) := by decide +kernel
theorem dX12_isWanted_4 : decode cX12_isWanted 4 = .ok (.iload_n 0, 1) := by decide +kernel
theorem dX12_isWanted_5 : decode cX12_isWanted 5 = .ok (.invokestatic 244, 3) := by decide +kernel
theorem dX12_isWanted_8 : decode cX12_isWanted 8 = .ok (.goto 13, 3) := by decide +kernel
theorem dX12_isWanted_11 : decode cX12_isWanted 11 = .ok (.iload_n 0, 1) := by decide +kernel
theorem dX12_isWanted_12 : decode cX12_isWanted 12 = .ok (.iconst 1, 1) := by decide +kernel
theorem dX12_isWanted_13 : decode cX12_isWanted 13 = .ok (.if_icmp .ne 7, 3) := by decide +kernel
theorem dX12_isWanted_16 : decode cX12_isWanted 16 = .ok (.iconst 1, 1) := by decide +kernel
theorem dX12_isWanted_17 : decode cX12_isWanted 17 = .ok (.goto 4, 3) := by decide +kernel
theorem dX12_isWanted_20 : decode cX12_isWanted 20 = .ok (.iconst 0, 1) := by decide +kernel
theorem dX12_isWanted_21 : decode cX12_isWanted 21 = .ok (.ireturn, 1) := by decide +kernel
set_option maxHeartbeats 4000000 in
set_option maxRecDepth 100000 in
theorem kX12_isWanted {l : Launch} {D : va_G} {cy : Nat → ClassId} {N : Nat} {q : Nat → Nat} {m0 : Nat → Value} {a0 : Nat → vp_A} {sz : Nat} (hN : 105 ≤ N) (p0 : Int32) (p1 : Int32) {X0 : Int32} (hs0 : fX12_isWanted p0 p1 = some X0) : gMi l yX12_isWanted cX12_isWanted 2 (some .boolean) ({ frames := 1, cells := 0, slots := 0, locals := 20 } : Room) D cy N q m0 a0 sz [.int p0, .int p1] (fun r m' a' => r = X0 ∧ m' = m0 ∧ a' = a0) := by
  refine g_ofi (by decide) (Nat.le_of_ble_eq_true rfl) ?_
  intro p e s M args below meth c hx hb hr hG hown hin hlocks hml hW hS ls hl
  unfold fX12_isWanted at hs0
  refine lv_iload_n hx hb dX12_isWanted_0 rfl (lv_at hl 1 rfl) ?_
  refine lv_if_eq (tgt := 11) hx hb dX12_isWanted_1 (by decide) (fun c1 => ?_) (fun c1 => ?_)
  · rw [if_pos c1] at hs0
    refine lv_iload_n hx hb dX12_isWanted_11 rfl (lv_at hl 0 rfl) ?_
    refine lv_iconst (v := 1) hx hb dX12_isWanted_12 (by decide) ?_
    refine lv_icmp_ne (tgt := 20) hx hb dX12_isWanted_13 (by decide) (fun c2 => ?_) (fun c2 => ?_)
    · rw [if_neg c2] at hs0
      refine lv_iconst (v := 0) hx hb dX12_isWanted_20 (by decide) ?_
      have hs0 := Option.some.inj hs0
      subst hs0
      exact W.zret hx hb hr rfl (fun t ht hw => ⟨⟨_, (m0, a0), rfl, ⟨rfl, rfl, rfl⟩, g_end hW ht hw⟩, hS.F ht⟩) hS.2.2 dX12_isWanted_21 hlocks
    · rw [if_pos c2] at hs0
      refine lv_iconst (v := 1) hx hb dX12_isWanted_16 (by decide) ?_
      refine lv_goto (tgt := 21) hx hb dX12_isWanted_17 (by decide) ?_
      have hs0 := Option.some.inj hs0
      subst hs0
      exact W.zret hx hb hr rfl (fun t ht hw => ⟨⟨_, (m0, a0), rfl, ⟨rfl, rfl, rfl⟩, g_end hW ht hw⟩, hS.F ht⟩) hS.2.2 dX12_isWanted_21 hlocks
  · rw [if_neg c1] at hs0
    refine lv_iload_n hx hb dX12_isWanted_4 rfl (lv_at hl 0 rfl) ?_
    refine g_SiR (n := 1) hx hb hml hown hG hW hS [.int p0] (kX12_isBad hN p0) rfl (gd_S gx584 gx585 gx5 gx586) rfl rfl (by decide) ⟨Nat.le_of_ble_eq_true rfl, Nat.le_of_ble_eq_true rfl⟩ rfl hl (Nat.le_of_ble_eq_true rfl) ⟨Nat.zero_le _, Nat.zero_le _⟩ dX12_isWanted_5 (fun H locs hW hS => ?_)
    refine lv_goto (tgt := 21) hx hb dX12_isWanted_8 (by decide) ?_
    obtain ⟨hz4, hs0⟩ := oif hs0
    have hs0 := Option.some.inj hs0
    subst hs0
    exact W.zret hx hb hr (bz hz4) (fun t ht hw => ⟨⟨_, (m0, a0), rfl, ⟨rfl, rfl, rfl⟩, g_end hW ht hw⟩, hS.F ht⟩) hS.2.2 dX12_isWanted_21 hlocks
-- HealLinkModel.thrown ()I
def fX12_thrown (x69_18 : Int32) : Int32 := x69_18
theorem dX12_thrown_0 : decode cX12_thrown 0 = .ok (.aload_n 0, 1) := by decide +kernel
theorem dX12_thrown_1 : decode cX12_thrown 1 = .ok (.getfield 137, 3) := by decide +kernel
theorem dX12_thrown_4 : decode cX12_thrown 4 = .ok (.ireturn, 1) := by decide +kernel
set_option maxHeartbeats 4000000 in
set_option maxRecDepth 100000 in
theorem kX12_thrown {l : Launch} {D : va_G} {cy : Nat → ClassId} {N : Nat} {q : Nat → Nat} {m0 : Nat → Value} {a0 : Nat → vp_A} {sz : Nat} (hN : 105 ≤ N) {x69_18 : Int32} (h_x69_18 : m0 6918 = .int x69_18) : gMi l yX12_thrown cX12_thrown 1 (some .int) ({ frames := 0, cells := 0, slots := 0, locals := 0 } : Room) D cy N q m0 a0 sz [.ref (q 69)] (fun r m' a' => r = (fX12_thrown x69_18) ∧ m' = m0 ∧ a' = a0) := by
  generalize hs0 : fX12_thrown x69_18 = X0
  refine g_ofi (by decide) (Nat.le_of_ble_eq_true rfl) ?_
  intro p e s M args below meth c hx hb hr hG hown hin hlocks hml hW hS ls hl
  unfold fX12_thrown at hs0
  refine lv_aload_n hx hb dX12_thrown_0 rfl (lv_at hl 0 rfl) ?_
  refine gf12_18 hx hb hG hown hW (o := 69) (ltN hN 69 rfl) gk69 (v := .int x69_18) h_x69_18 gx246 dX12_thrown_1 ?_
  subst hs0
  exact W.zret hx hb hr rfl (fun t ht hw => ⟨⟨_, (m0, a0), rfl, ⟨rfl, rfl, rfl⟩, g_end hW ht hw⟩, hS.F ht⟩) hS.2.2 dX12_thrown_4 hlocks
-- HealLinkModel.empties ()V
def fX12_empties_S24 (F : Nat) (x69_1 : Int32) (x69_4 : Int64) (x69_6 : Int32) (x69_9 : Int32) (x69_11 : Int32) (x69_12 : Int32) (v1 : Int32) (A71 : Nat → Int32) : Option (((Nat → Int32)) ⊕ (Int32 × (Nat → Int32))) := (if 8 ≤ v1 then some (Sum.inl A71) else (if inb v1 8 = true then some (Sum.inr (v1 + 1, upd A71 v1.toNatClampNeg 0)) else none))
def fX12_empties (F : Nat) (x69_1 : Int32) (x69_4 : Int64) (x69_6 : Int32) (x69_9 : Int32) (x69_11 : Int32) (x69_12 : Int32) (A71 : Nat → Int32) : Option (Int64 × Int32 × Int32 × Int32 × Int32 × (Nat → Int32)) := (gloop (fun u4 : (Int32 × (Nat → Int32)) => fX12_empties_S24 F x69_1 (fX12_put 0 7 2 (x69_1 - 1)) 0 x69_9 x69_11 x69_12 u4.1 u4.2) F (0, A71)).bind (fun t4_43 => some ((fX12_put 0 7 2 (x69_1 - 1)), 0, 0, 0, 0, t4_43))
theorem dX12_empties_0 : decode cX12_empties 0 = .ok (.aload_n 0, 1) := by decide +kernel
theorem dX12_empties_1 : decode cX12_empties 1 = .ok (.lconst 0, 1) := by decide +kernel
theorem dX12_empties_2 : decode cX12_empties 2 = .ok (.bipush 7, 2) := by decide +kernel
theorem dX12_empties_4 : decode cX12_empties 4 = .ok (.iconst 2, 1) := by decide +kernel
theorem dX12_empties_5 : decode cX12_empties 5 = .ok (.aload_n 0, 1) := by decide +kernel
theorem dX12_empties_6 : decode cX12_empties 6 = .ok (.getfield 13, 3) := by decide +kernel
theorem dX12_empties_9 : decode cX12_empties 9 = .ok (.iconst 1, 1) := by decide +kernel
theorem dX12_empties_10 : decode cX12_empties 10 = .ok (.isub, 1) := by decide +kernel
theorem dX12_empties_11 : decode cX12_empties 11 = .ok (.invokestatic 129, 3) := by decide +kernel
theorem dX12_empties_14 : decode cX12_empties 14 = .ok (.putfield 133, 3) := by decide +kernel
theorem dX12_empties_17 : decode cX12_empties 17 = .ok (.aload_n 0, 1) := by decide +kernel
theorem dX12_empties_18 : decode cX12_empties 18 = .ok (.iconst 0, 1) := by decide +kernel
theorem dX12_empties_19 : decode cX12_empties 19 = .ok (.putfield 146, 3) := by decide +kernel
theorem dX12_empties_22 : decode cX12_empties 22 = .ok (.iconst 0, 1) := by decide +kernel
theorem dX12_empties_23 : decode cX12_empties 23 = .ok (.istore_n 1, 1) := by decide +kernel
theorem dX12_empties_24 : decode cX12_empties 24 = .ok (.iload_n 1, 1) := by decide +kernel
theorem dX12_empties_25 : decode cX12_empties 25 = .ok (.bipush 8, 2) := by decide +kernel
theorem dX12_empties_27 : decode cX12_empties 27 = .ok (.if_icmp .ge 16, 3) := by decide +kernel
theorem dX12_empties_30 : decode cX12_empties 30 = .ok (.aload_n 0, 1) := by decide +kernel
theorem dX12_empties_31 : decode cX12_empties 31 = .ok (.getfield 26, 3) := by decide +kernel
theorem dX12_empties_34 : decode cX12_empties 34 = .ok (.iload_n 1, 1) := by decide +kernel
theorem dX12_empties_35 : decode cX12_empties 35 = .ok (.iconst 0, 1) := by decide +kernel
theorem dX12_empties_36 : decode cX12_empties 36 = .ok (.iastore, 1) := by decide +kernel
theorem dX12_empties_37 : decode cX12_empties 37 = .ok (.iinc 1 1, 3) := by decide +kernel
theorem dX12_empties_40 : decode cX12_empties 40 = .ok (.goto (-16), 3) := by decide +kernel
theorem dX12_empties_43 : decode cX12_empties 43 = .ok (.aload_n 0, 1) := by decide +kernel
theorem dX12_empties_44 : decode cX12_empties 44 = .ok (.iconst 0, 1) := by decide +kernel
theorem dX12_empties_45 : decode cX12_empties 45 = .ok (.putfield 149, 3) := by decide +kernel
theorem dX12_empties_48 : decode cX12_empties 48 = .ok (.aload_n 0, 1) := by decide +kernel
theorem dX12_empties_49 : decode cX12_empties 49 = .ok (.iconst 0, 1) := by decide +kernel
theorem dX12_empties_50 : decode cX12_empties 50 = .ok (.putfield 152, 3) := by decide +kernel
theorem dX12_empties_53 : decode cX12_empties 53 = .ok (.aload_n 0, 1) := by decide +kernel
theorem dX12_empties_54 : decode cX12_empties 54 = .ok (.iconst 0, 1) := by decide +kernel
theorem dX12_empties_55 : decode cX12_empties 55 = .ok (.putfield 155, 3) := by decide +kernel
theorem dX12_empties_58 : decode cX12_empties 58 = .ok (.return_, 1) := by decide +kernel
set_option maxHeartbeats 4000000 in
set_option maxRecDepth 100000 in
theorem kX12_empties {l : Launch} {D : va_G} {cy : Nat → ClassId} {N : Nat} {q : Nat → Nat} {m0 : Nat → Value} {a0 : Nat → vp_A} {sz : Nat} (hN : 105 ≤ N) (hsh : SH q m0) {x69_1 : Int32} (h_x69_1 : m0 6901 = .int x69_1) {x69_4 : Int64} (h_x69_4 : m0 6904 = .long x69_4) {x69_6 : Int32} (h_x69_6 : m0 6906 = .int x69_6) {x69_9 : Int32} (h_x69_9 : m0 6909 = .int x69_9) {x69_11 : Int32} (h_x69_11 : m0 6911 = .int x69_11) {x69_12 : Int32} (h_x69_12 : m0 6912 = .int x69_12) {A71 : Nat → Int32} (h_A71 : a0 71 = (8, .inl A71)) (F : Nat) {X0 : Int64 × Int32 × Int32 × Int32 × Int32 × (Nat → Int32)} (hs0 : fX12_empties F x69_1 x69_4 x69_6 x69_9 x69_11 x69_12 A71 = some X0) : gMv l yX12_empties cX12_empties 2 none ({ frames := 1, cells := 0, slots := 0, locals := 24 } : Room) D cy N q m0 a0 sz [.ref (q 69)] (fun m' a' => m' 6904 = .long X0.1 ∧ m' 6906 = .int X0.2.1 ∧ m' 6909 = .int X0.2.2.1 ∧ m' 6911 = .int X0.2.2.2.1 ∧ m' 6912 = .int X0.2.2.2.2.1 ∧ (∀ j, nel j [6904, 6906, 6909, 6911, 6912] = false → m' j = m0 j) ∧ a' 71 = (8, .inl X0.2.2.2.2.2) ∧ (∀ j, nel j [71] = false → a' j = a0 j)) := by
  refine g_ofv (by decide) (Nat.le_of_ble_eq_true rfl) ?_
  intro p e s M args below meth c hx hb hr hG hown hin hlocks hml hW hS ls hl
  unfold fX12_empties at hs0
  have hoff : ∀ j, nel j [6904, 6906, 6909, 6911, 6912] = false → m0 j = m0 j := off0
  have hoffa : ∀ j, nel j [71] = false → a0 j = a0 j := off0
  refine lv_aload_n hx hb dX12_empties_0 rfl (lv_at hl 0 rfl) ?_
  refine lv_lconst (v := 0) hx hb dX12_empties_1 (by decide) ?_
  refine lv_bipush (v := 7) hx hb dX12_empties_2 (by decide) ?_
  refine lv_iconst (v := 2) hx hb dX12_empties_4 (by decide) ?_
  refine lv_aload_n hx hb dX12_empties_5 rfl (lv_at hl 0 rfl) ?_
  refine gf12_1 hx hb hG hown hW (o := 69) (ltN hN 69 rfl) gk69 (v := .int x69_1) ((hoff 6901 rfl).trans h_x69_1) gx163 dX12_empties_6 ?_
  refine lv_iconst (v := 1) hx hb dX12_empties_9 (by decide) ?_
  refine lv_isub hx hb dX12_empties_10 ?_
  refine g_SlR (n := 4) hx hb hml hown hG hW hS [.long 0, .int 7, .int 2, .int (x69_1 - 1)] (kX12_put hN 0 7 2 (x69_1 - 1)) rfl (gd_S gx203 gx204 gx5 gx205) rfl rfl (by decide) ⟨Nat.le_of_ble_eq_true rfl, Nat.le_of_ble_eq_true rfl⟩ rfl hl (Nat.le_of_ble_eq_true rfl) ⟨Nat.zero_le _, Nat.zero_le _⟩ dX12_empties_11 (fun H locs hW hS => ?_)
  refine gp12_4 hx hb hG hown hW hS (o := 69) (ltN hN 69 rfl) gk69 (v := (fX12_put 0 7 2 (x69_1 - 1))) gx202 dX12_empties_14 (fun m2 H locs hm2 ho2 hW hS => ?_)
  have ho2 := off1 ho2
  have w_x69_4 : m2 6904 = .long (fX12_put 0 7 2 (x69_1 - 1)) := hm2
  have w_x69_6 : m2 6906 = .int x69_6 := (ho2 6906 rfl).trans h_x69_6
  have w_x69_9 : m2 6909 = .int x69_9 := (ho2 6909 rfl).trans h_x69_9
  have w_x69_11 : m2 6911 = .int x69_11 := (ho2 6911 rfl).trans h_x69_11
  have w_x69_12 : m2 6912 = .int x69_12 := (ho2 6912 rfl).trans h_x69_12
  have hoff := offm hoff ho2 (by decide +kernel)
  have hsh := SH.off hsh ho2 (by decide +kernel)
  refine lv_aload_n hx hb dX12_empties_17 rfl (lv_at hl 0 rfl) ?_
  refine lv_iconst (v := 0) hx hb dX12_empties_18 (by decide) ?_
  refine gp12_6 hx hb hG hown hW hS (o := 69) (ltN hN 69 rfl) gk69 (v := 0) gx254 dX12_empties_19 (fun m3 H locs hm3 ho3 hW hS => ?_)
  have ho3 := off1 ho3
  have w_x69_4 : m3 6904 = .long (fX12_put 0 7 2 (x69_1 - 1)) := (ho3 6904 rfl).trans w_x69_4
  have w_x69_6 : m3 6906 = .int 0 := hm3
  have w_x69_9 : m3 6909 = .int x69_9 := (ho3 6909 rfl).trans w_x69_9
  have w_x69_11 : m3 6911 = .int x69_11 := (ho3 6911 rfl).trans w_x69_11
  have w_x69_12 : m3 6912 = .int x69_12 := (ho3 6912 rfl).trans w_x69_12
  have hoff := offm hoff ho3 (by decide +kernel)
  have hsh := SH.off hsh ho3 (by decide +kernel)
  refine lv_iconst (v := 0) hx hb dX12_empties_22 (by decide) ?_
  refine lv_istore_n (lv' := [(1, .int 0), (0, .ref (q 69))]) hx hb dX12_empties_23 rfl hl (by decide) rfl (fun ls hl => ?_)
  obtain ⟨r4, hg4, hs0⟩ := obind hs0
  have hE1_43 : ∀ (t4_43 : (Nat → Int32)) (hr4 : t4_43 = r4) (m : Nat → Value) (a : Nat → vp_A) (H : Heap) (locs : List Loc) (w_x69_4 : m 6904 = .long (fX12_put 0 7 2 (x69_1 - 1))) (w_x69_6 : m 6906 = .int 0) (w_x69_9 : m 6909 = .int x69_9) (w_x69_11 : m 6911 = .int x69_11) (w_x69_12 : m 6912 = .int x69_12) (hoff : ∀ j, nel j [6904, 6906, 6909, 6911, 6912] = false → m j = m0 j) (hsh : SH q m) (w_A71 : a 71 = (8, .inl t4_43)) (hoffa : ∀ j, nel j [71] = false → a j = a0 j) (ls : Array Slot) (hl : lv_has ls 2 [(0, .ref (q 69))]) (hW : GW D cy (gA N q s.heap.size) N q m a s H) (hS : va_S (gA N q s.heap.size) s.heap H locs), W p l e ({ frames := 1, cells := 0, slots := 0, locals := 24 } : Room) s M args below meth c H locs 0 0 (MQ below (va_Qv (fun (u : (Nat → Value) × (Nat → vp_A)) => u.1 6904 = .long X0.1 ∧ u.1 6906 = .int X0.2.1 ∧ u.1 6909 = .int X0.2.2.1 ∧ u.1 6911 = .int X0.2.2.2.1 ∧ u.1 6912 = .int X0.2.2.2.2.1 ∧ (∀ j, nel j [6904, 6906, 6909, 6911, 6912] = false → u.1 j = m0 j) ∧ u.2 71 = (8, .inl X0.2.2.2.2.2) ∧ (∀ j, nel j [71] = false → u.2 j = a0 j)) (gB D cy N q s.heap.size) (gA N q s.heap.size)) args s 0 0 (gA N q s.heap.size)) (F0 M 43 ls []) := by
    intro t4_43 hr4 m a H locs w_x69_4 w_x69_6 w_x69_9 w_x69_11 w_x69_12 hoff hsh w_A71 hoffa ls hl hW hS
    subst hr4
    refine lv_aload_n hx hb dX12_empties_43 rfl (lv_at hl 0 rfl) ?_
    refine lv_iconst (v := 0) hx hb dX12_empties_44 (by decide) ?_
    refine gp12_9 hx hb hG hown hW hS (o := 69) (ltN hN 69 rfl) gk69 (v := 0) gx255 dX12_empties_45 (fun m8 H locs hm8 ho8 hW hS => ?_)
    have ho8 := off1 ho8
    have w_x69_4 : m8 6904 = .long (fX12_put 0 7 2 (x69_1 - 1)) := (ho8 6904 rfl).trans w_x69_4
    have w_x69_6 : m8 6906 = .int 0 := (ho8 6906 rfl).trans w_x69_6
    have w_x69_9 : m8 6909 = .int 0 := hm8
    have w_x69_11 : m8 6911 = .int x69_11 := (ho8 6911 rfl).trans w_x69_11
    have w_x69_12 : m8 6912 = .int x69_12 := (ho8 6912 rfl).trans w_x69_12
    have hoff := offm hoff ho8 (by decide +kernel)
    have hsh := SH.off hsh ho8 (by decide +kernel)
    refine lv_aload_n hx hb dX12_empties_48 rfl (lv_at hl 0 rfl) ?_
    refine lv_iconst (v := 0) hx hb dX12_empties_49 (by decide) ?_
    refine gp12_11 hx hb hG hown hW hS (o := 69) (ltN hN 69 rfl) gk69 (v := 0) gx256 dX12_empties_50 (fun m9 H locs hm9 ho9 hW hS => ?_)
    have ho9 := off1 ho9
    have w_x69_4 : m9 6904 = .long (fX12_put 0 7 2 (x69_1 - 1)) := (ho9 6904 rfl).trans w_x69_4
    have w_x69_6 : m9 6906 = .int 0 := (ho9 6906 rfl).trans w_x69_6
    have w_x69_9 : m9 6909 = .int 0 := (ho9 6909 rfl).trans w_x69_9
    have w_x69_11 : m9 6911 = .int 0 := hm9
    have w_x69_12 : m9 6912 = .int x69_12 := (ho9 6912 rfl).trans w_x69_12
    have hoff := offm hoff ho9 (by decide +kernel)
    have hsh := SH.off hsh ho9 (by decide +kernel)
    refine lv_aload_n hx hb dX12_empties_53 rfl (lv_at hl 0 rfl) ?_
    refine lv_iconst (v := 0) hx hb dX12_empties_54 (by decide) ?_
    refine gp12_12 hx hb hG hown hW hS (o := 69) (ltN hN 69 rfl) gk69 (v := 0) (by decide) gx257 dX12_empties_55 (fun m10 H locs hm10 ho10 hW hS => ?_)
    have ho10 := off1 ho10
    have w_x69_4 : m10 6904 = .long (fX12_put 0 7 2 (x69_1 - 1)) := (ho10 6904 rfl).trans w_x69_4
    have w_x69_6 : m10 6906 = .int 0 := (ho10 6906 rfl).trans w_x69_6
    have w_x69_9 : m10 6909 = .int 0 := (ho10 6909 rfl).trans w_x69_9
    have w_x69_11 : m10 6911 = .int 0 := (ho10 6911 rfl).trans w_x69_11
    have w_x69_12 : m10 6912 = .int 0 := hm10
    have hoff := offm hoff ho10 (by decide +kernel)
    have hsh := SH.off hsh ho10 (by decide +kernel)
    have hs0 := Option.some.inj hs0
    subst hs0
    exact W.vret hx hb hr (fun t ht hw => ⟨⟨(m10, a), rfl, ⟨w_x69_4, w_x69_6, w_x69_9, w_x69_11, w_x69_12, hoff, w_A71, hoffa⟩, g_end hW ht hw⟩, hS.F ht⟩) hS.2.2 dX12_empties_58 hlocks
  have hL1 : ∀ (n : Nat) (v1k4 : Int32) (A71k4 : Nat → Int32) (m : Nat → Value) (a : Nat → vp_A) (H : Heap) (locs : List Loc) (w_x69_4 : m 6904 = .long (fX12_put 0 7 2 (x69_1 - 1))) (w_x69_6 : m 6906 = .int 0) (w_x69_9 : m 6909 = .int x69_9) (w_x69_11 : m 6911 = .int x69_11) (w_x69_12 : m 6912 = .int x69_12) (hoff : ∀ j, nel j [6904, 6906, 6909, 6911, 6912] = false → m j = m0 j) (hsh : SH q m) (w_A71 : a 71 = (8, .inl A71k4)) (hoffa : ∀ j, nel j [71] = false → a j = a0 j) (ls : Array Slot) (hl : lv_has ls 2 [(0, .ref (q 69)), (1, .int v1k4)]) (hg4 : gloop (fun u4 : (Int32 × (Nat → Int32)) => fX12_empties_S24 F x69_1 (fX12_put 0 7 2 (x69_1 - 1)) 0 x69_9 x69_11 x69_12 u4.1 u4.2) n (v1k4, A71k4) = some r4) (hW : GW D cy (gA N q s.heap.size) N q m a s H) (hS : va_S (gA N q s.heap.size) s.heap H locs), W p l e ({ frames := 1, cells := 0, slots := 0, locals := 24 } : Room) s M args below meth c H locs 0 0 (MQ below (va_Qv (fun (u : (Nat → Value) × (Nat → vp_A)) => u.1 6904 = .long X0.1 ∧ u.1 6906 = .int X0.2.1 ∧ u.1 6909 = .int X0.2.2.1 ∧ u.1 6911 = .int X0.2.2.2.1 ∧ u.1 6912 = .int X0.2.2.2.2.1 ∧ (∀ j, nel j [6904, 6906, 6909, 6911, 6912] = false → u.1 j = m0 j) ∧ u.2 71 = (8, .inl X0.2.2.2.2.2) ∧ (∀ j, nel j [71] = false → u.2 j = a0 j)) (gB D cy N q s.heap.size) (gA N q s.heap.size)) args s 0 0 (gA N q s.heap.size)) (F0 M 24 ls []) := by
    intro n
    induction n with
    | zero => intro v1k4 A71k4 m a H locs w_x69_4 w_x69_6 w_x69_9 w_x69_11 w_x69_12 hoff hsh w_A71 hoffa ls hl hg4 hW hS; exact (gl_zero hg4).elim
    | succ n ih1 =>
      intro v1k4 A71k4 m a H locs w_x69_4 w_x69_6 w_x69_9 w_x69_11 w_x69_12 hoff hsh w_A71 hoffa ls hl hg4 hW hS
      obtain ⟨X1, hs1, hXl1, hXr1⟩ := gl_succ hg4
      have hs1 : fX12_empties_S24 F x69_1 (fX12_put 0 7 2 (x69_1 - 1)) 0 x69_9 x69_11 x69_12 v1k4 A71k4 = some X1 := hs1
      unfold fX12_empties_S24 at hs1
      refine lv_iload_n hx hb dX12_empties_24 rfl (lv_at hl 1 rfl) ?_
      refine lv_bipush (v := 8) hx hb dX12_empties_25 (by decide) ?_
      refine lv_icmp_ge (tgt := 43) hx hb dX12_empties_27 (by decide) (fun c11 => ?_) (fun c11 => ?_)
      · rw [if_pos c11] at hs1
        exact hE1_43 A71k4 (hXl1 _ (Option.some.inj hs1).symm) m a _ _ w_x69_4 w_x69_6 w_x69_9 w_x69_11 w_x69_12 hoff hsh w_A71 hoffa ls (lv_sub hl [0] rfl) hW hS
      · rw [if_neg c11] at hs1
        refine lv_aload_n hx hb dX12_empties_30 rfl (lv_at hl 0 rfl) ?_
        refine gf12_7 hx hb hG hown hW (o := 69) (ltN hN 69 rfl) gk69 (v := .ref (q 71)) (sh69_7 hsh) gx167 dX12_empties_31 ?_
        refine lv_iload_n hx hb dX12_empties_34 rfl (lv_at hl 1 rfl) ?_
        refine lv_iconst (v := 0) hx hb dX12_empties_35 (by decide) ?_
        obtain ⟨hi12, hs1⟩ := oif hs1
        refine g_iast hx hb hW hS (o := 71) (ltN hN 71 rfl) gk71 w_A71 (vin hi12) dX12_empties_36 (fun a13 H locs ha13 ho13 hW hS => ?_)
        have ho13 := off1 ho13
        have w_A71 : a13 71 = (8, .inl (upd A71k4 v1k4.toNatClampNeg 0)) := ha13
        have hoffa := offm hoffa ho13 (by decide +kernel)
        refine lv_iinc (v := v1k4 + 1) (lv' := [(1, .int (v1k4 + 1)), (0, .ref (q 69))]) hx hb dX12_empties_37 hl (k := 1) rfl rfl (by decide) rfl (fun ls hl => ?_)
        refine lv_goto (tgt := 24) hx hb dX12_empties_40 (by decide) ?_
        exact ih1 (v1k4 + 1) (upd A71k4 v1k4.toNatClampNeg 0) m a13 _ _ w_x69_4 w_x69_6 w_x69_9 w_x69_11 w_x69_12 hoff hsh w_A71 hoffa ls (lv_sub hl [1, 0] rfl) (hXr1 _ (Option.some.inj hs1).symm) hW hS
  exact hL1 F 0 A71 m3 a0 _ _ w_x69_4 w_x69_6 w_x69_9 w_x69_11 w_x69_12 hoff hsh h_A71 hoffa ls (lv_sub hl [1, 0] rfl) hg4 hW hS
-- HealLinkModel.set (II)I
def fX12_set_J125 (F : Nat) (v3j16 : Int32) (x69_0j16 : Int32) (x69_1j16 : Int32) (x69_2j16 : Int32) (x69_3j16 : Int32) (x69_4j16 : Int64) (x69_6j16 : Int32) (x69_9j16 : Int32) (x69_11j16 : Int32) (x69_12j16 : Int32) (x69_18j16 : Int32) (A71j16 : Nat → Int32) : Option (Int32 × Int32 × Int32 × Int32 × Int32 × Int64 × Int32 × Int32 × Int32 × Int32 × Int32 × (Nat → Int32)) := ((fX12_empties F x69_1j16 x69_4j16 x69_6j16 x69_9j16 x69_11j16 x69_12j16 A71j16).bind (fun r20 => some (v3j16, x69_0j16, x69_1j16, x69_2j16, x69_3j16, r20.1, r20.2.1, r20.2.2.1, r20.2.2.2.1, r20.2.2.2.2.1, x69_18j16, r20.2.2.2.2.2)))
def fX12_set_J57 (F : Nat) (v1j10 : Int32) (v2j10 : Int32) (s0j10 : Int32) (s1j10 : Int32) (x69_0j10 : Int32) (x69_1j10 : Int32) (x69_2j10 : Int32) (x69_3j10 : Int32) (x69_4j10 : Int64) (x69_6j10 : Int32) (x69_9j10 : Int32) (x69_11j10 : Int32) (x69_12j10 : Int32) (x69_18j10 : Int32) (A71j10 : Nat → Int32) : Option (Int32 × Int32 × Int32 × Int32 × Int32 × Int64 × Int32 × Int32 × Int32 × Int32 × Int32 × (Nat → Int32)) := (if s1j10 ≤ s0j10 then (if v1j10 = 0 then fX12_set_J125 F x69_0j10 v2j10 x69_1j10 x69_2j10 x69_3j10 x69_4j10 x69_6j10 x69_9j10 x69_11j10 x69_12j10 x69_18j10 A71j10 else (if v1j10 = 1 then fX12_set_J125 F x69_1j10 x69_0j10 v2j10 x69_2j10 x69_3j10 x69_4j10 x69_6j10 x69_9j10 x69_11j10 x69_12j10 x69_18j10 A71j10 else (if v1j10 = 2 then fX12_set_J125 F x69_2j10 x69_0j10 x69_1j10 v2j10 x69_3j10 x69_4j10 x69_6j10 x69_9j10 x69_11j10 x69_12j10 x69_18j10 A71j10 else fX12_set_J125 F x69_3j10 x69_0j10 x69_1j10 x69_2j10 v2j10 x69_4j10 x69_6j10 x69_9j10 x69_11j10 x69_12j10 x69_18j10 A71j10))) else some ((-1), x69_0j10, x69_1j10, x69_2j10, x69_3j10, x69_4j10, x69_6j10, x69_9j10, x69_11j10, x69_12j10, x69_18j10, A71j10))
def fX12_set_J25 (F : Nat) (v1j5 : Int32) (v2j5 : Int32) (s0j5 : Int32) (s1j5 : Int32) (x69_0j5 : Int32) (x69_1j5 : Int32) (x69_2j5 : Int32) (x69_3j5 : Int32) (x69_4j5 : Int64) (x69_6j5 : Int32) (x69_9j5 : Int32) (x69_11j5 : Int32) (x69_12j5 : Int32) (x69_18j5 : Int32) (A71j5 : Nat → Int32) : Option (Int32 × Int32 × Int32 × Int32 × Int32 × Int64 × Int32 × Int32 × Int32 × Int32 × Int32 × (Nat → Int32)) := (if s1j5 < s0j5 then some ((-1), x69_0j5, x69_1j5, x69_2j5, x69_3j5, x69_4j5, x69_6j5, x69_9j5, x69_11j5, x69_12j5, x69_18j5, A71j5) else (if v1j5 = 0 then fX12_set_J57 F v1j5 v2j5 2 v2j5 x69_0j5 x69_1j5 x69_2j5 x69_3j5 x69_4j5 x69_6j5 x69_9j5 x69_11j5 x69_12j5 x69_18j5 A71j5 else (if v1j5 = 1 then fX12_set_J57 F v1j5 v2j5 4 v2j5 x69_0j5 x69_1j5 x69_2j5 x69_3j5 x69_4j5 x69_6j5 x69_9j5 x69_11j5 x69_12j5 x69_18j5 A71j5 else (if v1j5 = 2 then fX12_set_J57 F v1j5 v2j5 7 v2j5 x69_0j5 x69_1j5 x69_2j5 x69_3j5 x69_4j5 x69_6j5 x69_9j5 x69_11j5 x69_12j5 x69_18j5 A71j5 else fX12_set_J57 F v1j5 v2j5 4 v2j5 x69_0j5 x69_1j5 x69_2j5 x69_3j5 x69_4j5 x69_6j5 x69_9j5 x69_11j5 x69_12j5 x69_18j5 A71j5))))
def fX12_set (F : Nat) (x69_0 : Int32) (x69_1 : Int32) (x69_2 : Int32) (x69_3 : Int32) (x69_4 : Int64) (x69_6 : Int32) (x69_9 : Int32) (x69_11 : Int32) (x69_12 : Int32) (x69_18 : Int32) (A71 : Nat → Int32) (p1 : Int32) (p2 : Int32) : Option (Int32 × Int32 × Int32 × Int32 × Int32 × Int64 × Int32 × Int32 × Int32 × Int32 × Int32 × (Nat → Int32)) := (if (fX12_within p1 0 3) = 0 then some ((-1), x69_0, x69_1, x69_2, x69_3, x69_4, x69_6, x69_9, x69_11, x69_12, 0, A71) else (if p1 = 1 then fX12_set_J25 F p1 p2 2 p2 x69_0 x69_1 x69_2 x69_3 x69_4 x69_6 x69_9 x69_11 x69_12 0 A71 else fX12_set_J25 F p1 p2 1 p2 x69_0 x69_1 x69_2 x69_3 x69_4 x69_6 x69_9 x69_11 x69_12 0 A71))
theorem dX12_set_0 : decode cX12_set 0 = .ok (.aload_n 0, 1) := by decide +kernel
theorem dX12_set_1 : decode cX12_set 1 = .ok (.iconst 0, 1) := by decide +kernel
theorem dX12_set_2 : decode cX12_set 2 = .ok (.putfield 137, 3) := by decide +kernel
theorem dX12_set_5 : decode cX12_set 5 = .ok (.iload_n 1, 1) := by decide +kernel
theorem dX12_set_6 : decode cX12_set 6 = .ok (.iconst 0, 1) := by decide +kernel
theorem dX12_set_7 : decode cX12_set 7 = .ok (.iconst 3, 1) := by decide +kernel
theorem dX12_set_8 : decode cX12_set 8 = .ok (.invokestatic 159, 3) := by decide +kernel
theorem dX12_set_11 : decode cX12_set 11 = .ok (.ifCond .eq 49, 3) := by decide +kernel
theorem dX12_set_14 : decode cX12_set 14 = .ok (.iload_n 2, 1) := by decide +kernel
theorem dX12_set_15 : decode cX12_set 15 = .ok (.iload_n 1, 1) := by decide +kernel
theorem dX12_set_16 : decode cX12_set 16 = .ok (.iconst 1, 1) := by decide +kernel
theorem dX12_set_17 : decode cX12_set 17 = .ok (.if_icmp .ne 7, 3) := by decide +kernel
theorem dX12_set_20 : decode cX12_set 20 = .ok (.iconst 2, 1) := by decide +kernel
theorem dX12_set_21 : decode cX12_set 21 = .ok (.goto 4, 3) := by decide +kernel
theorem dX12_set_24 : decode cX12_set 24 = .ok (.iconst 1, 1) := by decide +kernel
theorem dX12_set_25 : decode cX12_set 25 = .ok (.if_icmp .lt 35, 3) := by decide +kernel
theorem dX12_set_28 : decode cX12_set 28 = .ok (.iload_n 2, 1) := by decide +kernel
theorem dX12_set_29 : decode cX12_set 29 = .ok (.iload_n 1, 1) := by decide +kernel
theorem dX12_set_30 : decode cX12_set 30 = .ok (.ifCond .ne 7, 3) := by decide +kernel
theorem dX12_set_33 : decode cX12_set 33 = .ok (.iconst 2, 1) := by decide +kernel
theorem dX12_set_34 : decode cX12_set 34 = .ok (.goto 23, 3) := by decide +kernel
theorem dX12_set_37 : decode cX12_set 37 = .ok (.iload_n 1, 1) := by decide +kernel
theorem dX12_set_38 : decode cX12_set 38 = .ok (.iconst 1, 1) := by decide +kernel
theorem dX12_set_39 : decode cX12_set 39 = .ok (.if_icmp .ne 7, 3) := by decide +kernel
theorem dX12_set_42 : decode cX12_set 42 = .ok (.iconst 4, 1) := by decide +kernel
theorem dX12_set_43 : decode cX12_set 43 = .ok (.goto 14, 3) := by decide +kernel
theorem dX12_set_46 : decode cX12_set 46 = .ok (.iload_n 1, 1) := by decide +kernel
theorem dX12_set_47 : decode cX12_set 47 = .ok (.iconst 2, 1) := by decide +kernel
theorem dX12_set_48 : decode cX12_set 48 = .ok (.if_icmp .ne 8, 3) := by decide +kernel
theorem dX12_set_51 : decode cX12_set 51 = .ok (.bipush 7, 2) := by decide +kernel
theorem dX12_set_53 : decode cX12_set 53 = .ok (.goto 4, 3) := by decide +kernel
theorem dX12_set_56 : decode cX12_set 56 = .ok (.iconst 4, 1) := by decide +kernel
theorem dX12_set_57 : decode cX12_set 57 = .ok (.if_icmp .le 5, 3) := by decide +kernel
theorem dX12_set_60 : decode cX12_set 60 = .ok (.iconst (-1), 1) := by decide +kernel
theorem dX12_set_61 : decode cX12_set 61 = .ok (.ireturn, 1) := by decide +kernel
theorem dX12_set_62 : decode cX12_set 62 = .ok (.iload_n 1, 1) := by decide +kernel
theorem dX12_set_63 : decode cX12_set 63 = .ok (.ifCond .ne 16, 3) := by decide +kernel
theorem dX12_set_66 : decode cX12_set 66 = .ok (.aload_n 0, 1) := by decide +kernel
theorem dX12_set_67 : decode cX12_set 67 = .ok (.getfield 7, 3) := by decide +kernel
theorem dX12_set_70 : decode cX12_set 70 = .ok (.istore_n 3, 1) := by decide +kernel
theorem dX12_set_71 : decode cX12_set 71 = .ok (.aload_n 0, 1) := by decide +kernel
theorem dX12_set_72 : decode cX12_set 72 = .ok (.iload_n 2, 1) := by decide +kernel
theorem dX12_set_73 : decode cX12_set 73 = .ok (.putfield 7, 3) := by decide +kernel
theorem dX12_set_76 : decode cX12_set 76 = .ok (.goto 49, 3) := by decide +kernel
theorem dX12_set_79 : decode cX12_set 79 = .ok (.iload_n 1, 1) := by decide +kernel
theorem dX12_set_80 : decode cX12_set 80 = .ok (.iconst 1, 1) := by decide +kernel
theorem dX12_set_81 : decode cX12_set 81 = .ok (.if_icmp .ne 16, 3) := by decide +kernel
theorem dX12_set_84 : decode cX12_set 84 = .ok (.aload_n 0, 1) := by decide +kernel
theorem dX12_set_85 : decode cX12_set 85 = .ok (.getfield 13, 3) := by decide +kernel
theorem dX12_set_88 : decode cX12_set 88 = .ok (.istore_n 3, 1) := by decide +kernel
theorem dX12_set_89 : decode cX12_set 89 = .ok (.aload_n 0, 1) := by decide +kernel
theorem dX12_set_90 : decode cX12_set 90 = .ok (.iload_n 2, 1) := by decide +kernel
theorem dX12_set_91 : decode cX12_set 91 = .ok (.putfield 13, 3) := by decide +kernel
theorem dX12_set_94 : decode cX12_set 94 = .ok (.goto 31, 3) := by decide +kernel
theorem dX12_set_97 : decode cX12_set 97 = .ok (.iload_n 1, 1) := by decide +kernel
theorem dX12_set_98 : decode cX12_set 98 = .ok (.iconst 2, 1) := by decide +kernel
theorem dX12_set_99 : decode cX12_set 99 = .ok (.if_icmp .ne 16, 3) := by decide +kernel
theorem dX12_set_102 : decode cX12_set 102 = .ok (.aload_n 0, 1) := by decide +kernel
theorem dX12_set_103 : decode cX12_set 103 = .ok (.getfield 16, 3) := by decide +kernel
theorem dX12_set_106 : decode cX12_set 106 = .ok (.istore_n 3, 1) := by decide +kernel
theorem dX12_set_107 : decode cX12_set 107 = .ok (.aload_n 0, 1) := by decide +kernel
theorem dX12_set_108 : decode cX12_set 108 = .ok (.iload_n 2, 1) := by decide +kernel
theorem dX12_set_109 : decode cX12_set 109 = .ok (.putfield 16, 3) := by decide +kernel
theorem dX12_set_112 : decode cX12_set 112 = .ok (.goto 13, 3) := by decide +kernel
theorem dX12_set_115 : decode cX12_set 115 = .ok (.aload_n 0, 1) := by decide +kernel
theorem dX12_set_116 : decode cX12_set 116 = .ok (.getfield 19, 3) := by decide +kernel
theorem dX12_set_119 : decode cX12_set 119 = .ok (.istore_n 3, 1) := by decide +kernel
theorem dX12_set_120 : decode cX12_set 120 = .ok (.aload_n 0, 1) := by decide +kernel
theorem dX12_set_121 : decode cX12_set 121 = .ok (.iload_n 2, 1) := by decide +kernel
theorem dX12_set_122 : decode cX12_set 122 = .ok (.putfield 19, 3) := by decide +kernel
theorem dX12_set_125 : decode cX12_set 125 = .ok (.aload_n 0, 1) := by decide +kernel
theorem dX12_set_126 : decode cX12_set 126 = .ok (.invokevirtual 163, 3) := by decide +kernel
theorem dX12_set_129 : decode cX12_set 129 = .ok (.iload_n 3, 1) := by decide +kernel
theorem dX12_set_130 : decode cX12_set 130 = .ok (.ireturn, 1) := by decide +kernel
set_option maxHeartbeats 4000000 in
set_option maxRecDepth 100000 in
theorem kX12_set {l : Launch} {D : va_G} {cy : Nat → ClassId} {N : Nat} {q : Nat → Nat} {m0 : Nat → Value} {a0 : Nat → vp_A} {sz : Nat} (hN : 105 ≤ N) (hsh : SH q m0) {x69_0 : Int32} (h_x69_0 : m0 6900 = .int x69_0) {x69_1 : Int32} (h_x69_1 : m0 6901 = .int x69_1) {x69_2 : Int32} (h_x69_2 : m0 6902 = .int x69_2) {x69_3 : Int32} (h_x69_3 : m0 6903 = .int x69_3) {x69_4 : Int64} (h_x69_4 : m0 6904 = .long x69_4) {x69_6 : Int32} (h_x69_6 : m0 6906 = .int x69_6) {x69_9 : Int32} (h_x69_9 : m0 6909 = .int x69_9) {x69_11 : Int32} (h_x69_11 : m0 6911 = .int x69_11) {x69_12 : Int32} (h_x69_12 : m0 6912 = .int x69_12) {x69_18 : Int32} (h_x69_18 : m0 6918 = .int x69_18) {A71 : Nat → Int32} (h_A71 : a0 71 = (8, .inl A71)) (F : Nat) (p1 : Int32) (p2 : Int32) {X0 : Int32 × Int32 × Int32 × Int32 × Int32 × Int64 × Int32 × Int32 × Int32 × Int32 × Int32 × (Nat → Int32)} (hs0 : fX12_set F x69_0 x69_1 x69_2 x69_3 x69_4 x69_6 x69_9 x69_11 x69_12 x69_18 A71 p1 p2 = some X0) : gMi l yX12_set cX12_set 4 (some .int) ({ frames := 2, cells := 0, slots := 0, locals := 45 } : Room) D cy N q m0 a0 sz [.ref (q 69), .int p1, .int p2] (fun r m' a' => r = X0.1 ∧ m' 6900 = .int X0.2.1 ∧ m' 6901 = .int X0.2.2.1 ∧ m' 6902 = .int X0.2.2.2.1 ∧ m' 6903 = .int X0.2.2.2.2.1 ∧ m' 6904 = .long X0.2.2.2.2.2.1 ∧ m' 6906 = .int X0.2.2.2.2.2.2.1 ∧ m' 6909 = .int X0.2.2.2.2.2.2.2.1 ∧ m' 6911 = .int X0.2.2.2.2.2.2.2.2.1 ∧ m' 6912 = .int X0.2.2.2.2.2.2.2.2.2.1 ∧ m' 6918 = .int X0.2.2.2.2.2.2.2.2.2.2.1 ∧ (∀ j, nel j [6900, 6901, 6902, 6903, 6904, 6906, 6909, 6911, 6912, 6918] = false → m' j = m0 j) ∧ a' 71 = (8, .inl X0.2.2.2.2.2.2.2.2.2.2.2) ∧ (∀ j, nel j [71] = false → a' j = a0 j)) := by
  refine g_ofi (by decide) (Nat.le_of_ble_eq_true rfl) ?_
  intro p e s M args below meth c hx hb hr hG hown hin hlocks hml hW hS ls hl
  unfold fX12_set at hs0
  have hoff : ∀ j, nel j [6900, 6901, 6902, 6903, 6904, 6906, 6909, 6911, 6912, 6918] = false → m0 j = m0 j := off0
  have hoffa : ∀ j, nel j [71] = false → a0 j = a0 j := off0
  have hJ125_0 : ∀ (v3j16 : Int32) (x69_0j16 : Int32) (x69_1j16 : Int32) (x69_2j16 : Int32) (x69_3j16 : Int32) (x69_4j16 : Int64) (x69_6j16 : Int32) (x69_9j16 : Int32) (x69_11j16 : Int32) (x69_12j16 : Int32) (x69_18j16 : Int32) (A71j16 : Nat → Int32) (m : Nat → Value) (a : Nat → vp_A) (H : Heap) (locs : List Loc) (w_x69_0 : m 6900 = .int x69_0j16) (w_x69_1 : m 6901 = .int x69_1j16) (w_x69_2 : m 6902 = .int x69_2j16) (w_x69_3 : m 6903 = .int x69_3j16) (w_x69_4 : m 6904 = .long x69_4j16) (w_x69_6 : m 6906 = .int x69_6j16) (w_x69_9 : m 6909 = .int x69_9j16) (w_x69_11 : m 6911 = .int x69_11j16) (w_x69_12 : m 6912 = .int x69_12j16) (w_x69_18 : m 6918 = .int x69_18j16) (hoff : ∀ j, nel j [6900, 6901, 6902, 6903, 6904, 6906, 6909, 6911, 6912, 6918] = false → m j = m0 j) (hsh : SH q m) (w_A71 : a 71 = (8, .inl A71j16)) (hoffa : ∀ j, nel j [71] = false → a j = a0 j) (ls : Array Slot) (hl : lv_has ls 4 [(0, .ref (q 69)), (3, .int v3j16)]) (hs0 : fX12_set_J125 F v3j16 x69_0j16 x69_1j16 x69_2j16 x69_3j16 x69_4j16 x69_6j16 x69_9j16 x69_11j16 x69_12j16 x69_18j16 A71j16 = some X0) (hW : GW D cy (gA N q s.heap.size) N q m a s H) (hS : va_S (gA N q s.heap.size) s.heap H locs), W p l e ({ frames := 2, cells := 0, slots := 0, locals := 45 } : Room) s M args below meth c H locs 0 0 (MQ below (va_Qi (fun (r : Int32) (u : (Nat → Value) × (Nat → vp_A)) => r = X0.1 ∧ u.1 6900 = .int X0.2.1 ∧ u.1 6901 = .int X0.2.2.1 ∧ u.1 6902 = .int X0.2.2.2.1 ∧ u.1 6903 = .int X0.2.2.2.2.1 ∧ u.1 6904 = .long X0.2.2.2.2.2.1 ∧ u.1 6906 = .int X0.2.2.2.2.2.2.1 ∧ u.1 6909 = .int X0.2.2.2.2.2.2.2.1 ∧ u.1 6911 = .int X0.2.2.2.2.2.2.2.2.1 ∧ u.1 6912 = .int X0.2.2.2.2.2.2.2.2.2.1 ∧ u.1 6918 = .int X0.2.2.2.2.2.2.2.2.2.2.1 ∧ (∀ j, nel j [6900, 6901, 6902, 6903, 6904, 6906, 6909, 6911, 6912, 6918] = false → u.1 j = m0 j) ∧ u.2 71 = (8, .inl X0.2.2.2.2.2.2.2.2.2.2.2) ∧ (∀ j, nel j [71] = false → u.2 j = a0 j)) (gB D cy N q s.heap.size) (gA N q s.heap.size)) args s 0 0 (gA N q s.heap.size)) (F0 M 125 ls []) := by
    intro v3j16 x69_0j16 x69_1j16 x69_2j16 x69_3j16 x69_4j16 x69_6j16 x69_9j16 x69_11j16 x69_12j16 x69_18j16 A71j16 m a H locs w_x69_0 w_x69_1 w_x69_2 w_x69_3 w_x69_4 w_x69_6 w_x69_9 w_x69_11 w_x69_12 w_x69_18 hoff hsh w_A71 hoffa ls hl hs0 hW hS
    unfold fX12_set_J125 at hs0
    refine lv_aload_n hx hb dX12_set_125 rfl (lv_at hl 0 rfl) ?_
    obtain ⟨r20, hf20, hs0⟩ := obind hs0
    refine g_Vv (n := 0) hx hb hml hown hG hW hS [] (kX12_empties hN hsh w_x69_1 w_x69_4 w_x69_6 w_x69_9 w_x69_11 w_x69_12 w_A71 F hf20) (ltN hN 69 rfl) gk69 (by decide) rfl rfl (gd_V gx250 gx251 gx252 gx5 gx253) rfl rfl (by decide) ⟨Nat.le_of_ble_eq_true rfl, Nat.le_of_ble_eq_true rfl⟩ rfl hl (Nat.le_of_ble_eq_true rfl) ⟨Nat.zero_le _, Nat.zero_le _⟩ dX12_set_126 (fun m20 a20 H locs hp20 hW hS => ?_)
    obtain ⟨hp20_x69_4, hp20_x69_6, hp20_x69_9, hp20_x69_11, hp20_x69_12, ho20, hp20_A71, hoa20⟩ := hp20
    have w_x69_0 : m20 6900 = .int x69_0j16 := (ho20 6900 rfl).trans w_x69_0
    have w_x69_1 : m20 6901 = .int x69_1j16 := (ho20 6901 rfl).trans w_x69_1
    have w_x69_2 : m20 6902 = .int x69_2j16 := (ho20 6902 rfl).trans w_x69_2
    have w_x69_3 : m20 6903 = .int x69_3j16 := (ho20 6903 rfl).trans w_x69_3
    have w_x69_4 : m20 6904 = .long r20.1 := hp20_x69_4
    have w_x69_6 : m20 6906 = .int r20.2.1 := hp20_x69_6
    have w_x69_9 : m20 6909 = .int r20.2.2.1 := hp20_x69_9
    have w_x69_11 : m20 6911 = .int r20.2.2.2.1 := hp20_x69_11
    have w_x69_12 : m20 6912 = .int r20.2.2.2.2.1 := hp20_x69_12
    have w_x69_18 : m20 6918 = .int x69_18j16 := (ho20 6918 rfl).trans w_x69_18
    have hoff := offm hoff ho20 (by decide +kernel)
    have hsh := SH.off hsh ho20 (by decide +kernel)
    have w_A71 : a20 71 = (8, .inl r20.2.2.2.2.2) := hp20_A71
    have hoffa := offm hoffa hoa20 (by decide +kernel)
    refine lv_iload_n hx hb dX12_set_129 rfl (lv_at hl 1 rfl) ?_
    have hs0 := Option.some.inj hs0
    subst hs0
    exact W.zret hx hb hr rfl (fun t ht hw => ⟨⟨_, (m20, a20), rfl, ⟨rfl, w_x69_0, w_x69_1, w_x69_2, w_x69_3, w_x69_4, w_x69_6, w_x69_9, w_x69_11, w_x69_12, w_x69_18, hoff, w_A71, hoffa⟩, g_end hW ht hw⟩, hS.F ht⟩) hS.2.2 dX12_set_130 hlocks
  have hJ57_0 : ∀ (v1j10 : Int32) (v2j10 : Int32) (s0j10 : Int32) (s1j10 : Int32) (x69_0j10 : Int32) (x69_1j10 : Int32) (x69_2j10 : Int32) (x69_3j10 : Int32) (x69_4j10 : Int64) (x69_6j10 : Int32) (x69_9j10 : Int32) (x69_11j10 : Int32) (x69_12j10 : Int32) (x69_18j10 : Int32) (A71j10 : Nat → Int32) (m : Nat → Value) (a : Nat → vp_A) (H : Heap) (locs : List Loc) (w_x69_0 : m 6900 = .int x69_0j10) (w_x69_1 : m 6901 = .int x69_1j10) (w_x69_2 : m 6902 = .int x69_2j10) (w_x69_3 : m 6903 = .int x69_3j10) (w_x69_4 : m 6904 = .long x69_4j10) (w_x69_6 : m 6906 = .int x69_6j10) (w_x69_9 : m 6909 = .int x69_9j10) (w_x69_11 : m 6911 = .int x69_11j10) (w_x69_12 : m 6912 = .int x69_12j10) (w_x69_18 : m 6918 = .int x69_18j10) (hoff : ∀ j, nel j [6900, 6901, 6902, 6903, 6904, 6906, 6909, 6911, 6912, 6918] = false → m j = m0 j) (hsh : SH q m) (w_A71 : a 71 = (8, .inl A71j10)) (hoffa : ∀ j, nel j [71] = false → a j = a0 j) (ls : Array Slot) (hl : lv_has ls 4 [(0, .ref (q 69)), (1, .int v1j10), (2, .int v2j10)]) (hs0 : fX12_set_J57 F v1j10 v2j10 s0j10 s1j10 x69_0j10 x69_1j10 x69_2j10 x69_3j10 x69_4j10 x69_6j10 x69_9j10 x69_11j10 x69_12j10 x69_18j10 A71j10 = some X0) (hW : GW D cy (gA N q s.heap.size) N q m a s H) (hS : va_S (gA N q s.heap.size) s.heap H locs), W p l e ({ frames := 2, cells := 0, slots := 0, locals := 45 } : Room) s M args below meth c H locs 0 0 (MQ below (va_Qi (fun (r : Int32) (u : (Nat → Value) × (Nat → vp_A)) => r = X0.1 ∧ u.1 6900 = .int X0.2.1 ∧ u.1 6901 = .int X0.2.2.1 ∧ u.1 6902 = .int X0.2.2.2.1 ∧ u.1 6903 = .int X0.2.2.2.2.1 ∧ u.1 6904 = .long X0.2.2.2.2.2.1 ∧ u.1 6906 = .int X0.2.2.2.2.2.2.1 ∧ u.1 6909 = .int X0.2.2.2.2.2.2.2.1 ∧ u.1 6911 = .int X0.2.2.2.2.2.2.2.2.1 ∧ u.1 6912 = .int X0.2.2.2.2.2.2.2.2.2.1 ∧ u.1 6918 = .int X0.2.2.2.2.2.2.2.2.2.2.1 ∧ (∀ j, nel j [6900, 6901, 6902, 6903, 6904, 6906, 6909, 6911, 6912, 6918] = false → u.1 j = m0 j) ∧ u.2 71 = (8, .inl X0.2.2.2.2.2.2.2.2.2.2.2) ∧ (∀ j, nel j [71] = false → u.2 j = a0 j)) (gB D cy N q s.heap.size) (gA N q s.heap.size)) args s 0 0 (gA N q s.heap.size)) (F0 M 57 ls [.int s0j10, .int s1j10]) := by
    intro v1j10 v2j10 s0j10 s1j10 x69_0j10 x69_1j10 x69_2j10 x69_3j10 x69_4j10 x69_6j10 x69_9j10 x69_11j10 x69_12j10 x69_18j10 A71j10 m a H locs w_x69_0 w_x69_1 w_x69_2 w_x69_3 w_x69_4 w_x69_6 w_x69_9 w_x69_11 w_x69_12 w_x69_18 hoff hsh w_A71 hoffa ls hl hs0 hW hS
    unfold fX12_set_J57 at hs0
    refine lv_icmp_le (tgt := 62) hx hb dX12_set_57 (by decide) (fun c11 => ?_) (fun c11 => ?_)
    · rw [if_pos c11] at hs0
      refine lv_iload_n hx hb dX12_set_62 rfl (lv_at hl 1 rfl) ?_
      refine lv_if_ne (tgt := 79) hx hb dX12_set_63 (by decide) (fun c12 => ?_) (fun c12 => ?_)
      · rw [if_neg c12] at hs0
        refine lv_iload_n hx hb dX12_set_79 rfl (lv_at hl 1 rfl) ?_
        refine lv_iconst (v := 1) hx hb dX12_set_80 (by decide) ?_
        refine lv_icmp_ne (tgt := 97) hx hb dX12_set_81 (by decide) (fun c13 => ?_) (fun c13 => ?_)
        · rw [if_neg c13] at hs0
          refine lv_iload_n hx hb dX12_set_97 rfl (lv_at hl 1 rfl) ?_
          refine lv_iconst (v := 2) hx hb dX12_set_98 (by decide) ?_
          refine lv_icmp_ne (tgt := 115) hx hb dX12_set_99 (by decide) (fun c14 => ?_) (fun c14 => ?_)
          · rw [if_neg c14] at hs0
            refine lv_aload_n hx hb dX12_set_115 rfl (lv_at hl 0 rfl) ?_
            refine gf12_3 hx hb hG hown hW (o := 69) (ltN hN 69 rfl) gk69 (v := .int x69_3j10) w_x69_3 gx165 dX12_set_116 ?_
            refine lv_istore_n (lv' := [(3, .int x69_3j10), (0, .ref (q 69)), (1, .int v1j10), (2, .int v2j10)]) hx hb dX12_set_119 rfl hl (by decide) rfl (fun ls hl => ?_)
            refine lv_aload_n hx hb dX12_set_120 rfl (lv_at hl 1 rfl) ?_
            refine lv_iload_n hx hb dX12_set_121 rfl (lv_at hl 3 rfl) ?_
            refine gp12_3 hx hb hG hown hW hS (o := 69) (ltN hN 69 rfl) gk69 (v := v2j10) gx165 dX12_set_122 (fun m15 H locs hm15 ho15 hW hS => ?_)
            have ho15 := off1 ho15
            have w_x69_0 : m15 6900 = .int x69_0j10 := (ho15 6900 rfl).trans w_x69_0
            have w_x69_1 : m15 6901 = .int x69_1j10 := (ho15 6901 rfl).trans w_x69_1
            have w_x69_2 : m15 6902 = .int x69_2j10 := (ho15 6902 rfl).trans w_x69_2
            have w_x69_3 : m15 6903 = .int v2j10 := hm15
            have w_x69_4 : m15 6904 = .long x69_4j10 := (ho15 6904 rfl).trans w_x69_4
            have w_x69_6 : m15 6906 = .int x69_6j10 := (ho15 6906 rfl).trans w_x69_6
            have w_x69_9 : m15 6909 = .int x69_9j10 := (ho15 6909 rfl).trans w_x69_9
            have w_x69_11 : m15 6911 = .int x69_11j10 := (ho15 6911 rfl).trans w_x69_11
            have w_x69_12 : m15 6912 = .int x69_12j10 := (ho15 6912 rfl).trans w_x69_12
            have w_x69_18 : m15 6918 = .int x69_18j10 := (ho15 6918 rfl).trans w_x69_18
            have hoff := offm hoff ho15 (by decide +kernel)
            have hsh := SH.off hsh ho15 (by decide +kernel)
            exact hJ125_0 x69_3j10 x69_0j10 x69_1j10 x69_2j10 v2j10 x69_4j10 x69_6j10 x69_9j10 x69_11j10 x69_12j10 x69_18j10 A71j10 m15 a _ _ w_x69_0 w_x69_1 w_x69_2 w_x69_3 w_x69_4 w_x69_6 w_x69_9 w_x69_11 w_x69_12 w_x69_18 hoff hsh w_A71 hoffa ls (lv_sub hl [1, 0] rfl) hs0 hW hS
          · rw [if_pos c14] at hs0
            refine lv_aload_n hx hb dX12_set_102 rfl (lv_at hl 0 rfl) ?_
            refine gf12_2 hx hb hG hown hW (o := 69) (ltN hN 69 rfl) gk69 (v := .int x69_2j10) w_x69_2 gx164 dX12_set_103 ?_
            refine lv_istore_n (lv' := [(3, .int x69_2j10), (0, .ref (q 69)), (1, .int v1j10), (2, .int v2j10)]) hx hb dX12_set_106 rfl hl (by decide) rfl (fun ls hl => ?_)
            refine lv_aload_n hx hb dX12_set_107 rfl (lv_at hl 1 rfl) ?_
            refine lv_iload_n hx hb dX12_set_108 rfl (lv_at hl 3 rfl) ?_
            refine gp12_2 hx hb hG hown hW hS (o := 69) (ltN hN 69 rfl) gk69 (v := v2j10) gx164 dX12_set_109 (fun m17 H locs hm17 ho17 hW hS => ?_)
            have ho17 := off1 ho17
            have w_x69_0 : m17 6900 = .int x69_0j10 := (ho17 6900 rfl).trans w_x69_0
            have w_x69_1 : m17 6901 = .int x69_1j10 := (ho17 6901 rfl).trans w_x69_1
            have w_x69_2 : m17 6902 = .int v2j10 := hm17
            have w_x69_3 : m17 6903 = .int x69_3j10 := (ho17 6903 rfl).trans w_x69_3
            have w_x69_4 : m17 6904 = .long x69_4j10 := (ho17 6904 rfl).trans w_x69_4
            have w_x69_6 : m17 6906 = .int x69_6j10 := (ho17 6906 rfl).trans w_x69_6
            have w_x69_9 : m17 6909 = .int x69_9j10 := (ho17 6909 rfl).trans w_x69_9
            have w_x69_11 : m17 6911 = .int x69_11j10 := (ho17 6911 rfl).trans w_x69_11
            have w_x69_12 : m17 6912 = .int x69_12j10 := (ho17 6912 rfl).trans w_x69_12
            have w_x69_18 : m17 6918 = .int x69_18j10 := (ho17 6918 rfl).trans w_x69_18
            have hoff := offm hoff ho17 (by decide +kernel)
            have hsh := SH.off hsh ho17 (by decide +kernel)
            refine lv_goto (tgt := 125) hx hb dX12_set_112 (by decide) ?_
            exact hJ125_0 x69_2j10 x69_0j10 x69_1j10 v2j10 x69_3j10 x69_4j10 x69_6j10 x69_9j10 x69_11j10 x69_12j10 x69_18j10 A71j10 m17 a _ _ w_x69_0 w_x69_1 w_x69_2 w_x69_3 w_x69_4 w_x69_6 w_x69_9 w_x69_11 w_x69_12 w_x69_18 hoff hsh w_A71 hoffa ls (lv_sub hl [1, 0] rfl) hs0 hW hS
        · rw [if_pos c13] at hs0
          refine lv_aload_n hx hb dX12_set_84 rfl (lv_at hl 0 rfl) ?_
          refine gf12_1 hx hb hG hown hW (o := 69) (ltN hN 69 rfl) gk69 (v := .int x69_1j10) w_x69_1 gx163 dX12_set_85 ?_
          refine lv_istore_n (lv' := [(3, .int x69_1j10), (0, .ref (q 69)), (1, .int v1j10), (2, .int v2j10)]) hx hb dX12_set_88 rfl hl (by decide) rfl (fun ls hl => ?_)
          refine lv_aload_n hx hb dX12_set_89 rfl (lv_at hl 1 rfl) ?_
          refine lv_iload_n hx hb dX12_set_90 rfl (lv_at hl 3 rfl) ?_
          refine gp12_1 hx hb hG hown hW hS (o := 69) (ltN hN 69 rfl) gk69 (v := v2j10) gx163 dX12_set_91 (fun m18 H locs hm18 ho18 hW hS => ?_)
          have ho18 := off1 ho18
          have w_x69_0 : m18 6900 = .int x69_0j10 := (ho18 6900 rfl).trans w_x69_0
          have w_x69_1 : m18 6901 = .int v2j10 := hm18
          have w_x69_2 : m18 6902 = .int x69_2j10 := (ho18 6902 rfl).trans w_x69_2
          have w_x69_3 : m18 6903 = .int x69_3j10 := (ho18 6903 rfl).trans w_x69_3
          have w_x69_4 : m18 6904 = .long x69_4j10 := (ho18 6904 rfl).trans w_x69_4
          have w_x69_6 : m18 6906 = .int x69_6j10 := (ho18 6906 rfl).trans w_x69_6
          have w_x69_9 : m18 6909 = .int x69_9j10 := (ho18 6909 rfl).trans w_x69_9
          have w_x69_11 : m18 6911 = .int x69_11j10 := (ho18 6911 rfl).trans w_x69_11
          have w_x69_12 : m18 6912 = .int x69_12j10 := (ho18 6912 rfl).trans w_x69_12
          have w_x69_18 : m18 6918 = .int x69_18j10 := (ho18 6918 rfl).trans w_x69_18
          have hoff := offm hoff ho18 (by decide +kernel)
          have hsh := SH.off hsh ho18 (by decide +kernel)
          refine lv_goto (tgt := 125) hx hb dX12_set_94 (by decide) ?_
          exact hJ125_0 x69_1j10 x69_0j10 v2j10 x69_2j10 x69_3j10 x69_4j10 x69_6j10 x69_9j10 x69_11j10 x69_12j10 x69_18j10 A71j10 m18 a _ _ w_x69_0 w_x69_1 w_x69_2 w_x69_3 w_x69_4 w_x69_6 w_x69_9 w_x69_11 w_x69_12 w_x69_18 hoff hsh w_A71 hoffa ls (lv_sub hl [1, 0] rfl) hs0 hW hS
      · rw [if_pos c12] at hs0
        refine lv_aload_n hx hb dX12_set_66 rfl (lv_at hl 0 rfl) ?_
        refine gf12_0 hx hb hG hown hW (o := 69) (ltN hN 69 rfl) gk69 (v := .int x69_0j10) w_x69_0 gx162 dX12_set_67 ?_
        refine lv_istore_n (lv' := [(3, .int x69_0j10), (0, .ref (q 69)), (1, .int v1j10), (2, .int v2j10)]) hx hb dX12_set_70 rfl hl (by decide) rfl (fun ls hl => ?_)
        refine lv_aload_n hx hb dX12_set_71 rfl (lv_at hl 1 rfl) ?_
        refine lv_iload_n hx hb dX12_set_72 rfl (lv_at hl 3 rfl) ?_
        refine gp12_0 hx hb hG hown hW hS (o := 69) (ltN hN 69 rfl) gk69 (v := v2j10) gx162 dX12_set_73 (fun m19 H locs hm19 ho19 hW hS => ?_)
        have ho19 := off1 ho19
        have w_x69_0 : m19 6900 = .int v2j10 := hm19
        have w_x69_1 : m19 6901 = .int x69_1j10 := (ho19 6901 rfl).trans w_x69_1
        have w_x69_2 : m19 6902 = .int x69_2j10 := (ho19 6902 rfl).trans w_x69_2
        have w_x69_3 : m19 6903 = .int x69_3j10 := (ho19 6903 rfl).trans w_x69_3
        have w_x69_4 : m19 6904 = .long x69_4j10 := (ho19 6904 rfl).trans w_x69_4
        have w_x69_6 : m19 6906 = .int x69_6j10 := (ho19 6906 rfl).trans w_x69_6
        have w_x69_9 : m19 6909 = .int x69_9j10 := (ho19 6909 rfl).trans w_x69_9
        have w_x69_11 : m19 6911 = .int x69_11j10 := (ho19 6911 rfl).trans w_x69_11
        have w_x69_12 : m19 6912 = .int x69_12j10 := (ho19 6912 rfl).trans w_x69_12
        have w_x69_18 : m19 6918 = .int x69_18j10 := (ho19 6918 rfl).trans w_x69_18
        have hoff := offm hoff ho19 (by decide +kernel)
        have hsh := SH.off hsh ho19 (by decide +kernel)
        refine lv_goto (tgt := 125) hx hb dX12_set_76 (by decide) ?_
        exact hJ125_0 x69_0j10 v2j10 x69_1j10 x69_2j10 x69_3j10 x69_4j10 x69_6j10 x69_9j10 x69_11j10 x69_12j10 x69_18j10 A71j10 m19 a _ _ w_x69_0 w_x69_1 w_x69_2 w_x69_3 w_x69_4 w_x69_6 w_x69_9 w_x69_11 w_x69_12 w_x69_18 hoff hsh w_A71 hoffa ls (lv_sub hl [1, 0] rfl) hs0 hW hS
    · rw [if_neg c11] at hs0
      refine lv_iconst (v := (-1)) hx hb dX12_set_60 (by decide) ?_
      have hs0 := Option.some.inj hs0
      subst hs0
      exact W.zret hx hb hr rfl (fun t ht hw => ⟨⟨_, (m, a), rfl, ⟨rfl, w_x69_0, w_x69_1, w_x69_2, w_x69_3, w_x69_4, w_x69_6, w_x69_9, w_x69_11, w_x69_12, w_x69_18, hoff, w_A71, hoffa⟩, g_end hW ht hw⟩, hS.F ht⟩) hS.2.2 dX12_set_61 hlocks
  have hJ25_0 : ∀ (v1j5 : Int32) (v2j5 : Int32) (s0j5 : Int32) (s1j5 : Int32) (x69_0j5 : Int32) (x69_1j5 : Int32) (x69_2j5 : Int32) (x69_3j5 : Int32) (x69_4j5 : Int64) (x69_6j5 : Int32) (x69_9j5 : Int32) (x69_11j5 : Int32) (x69_12j5 : Int32) (x69_18j5 : Int32) (A71j5 : Nat → Int32) (m : Nat → Value) (a : Nat → vp_A) (H : Heap) (locs : List Loc) (w_x69_0 : m 6900 = .int x69_0j5) (w_x69_1 : m 6901 = .int x69_1j5) (w_x69_2 : m 6902 = .int x69_2j5) (w_x69_3 : m 6903 = .int x69_3j5) (w_x69_4 : m 6904 = .long x69_4j5) (w_x69_6 : m 6906 = .int x69_6j5) (w_x69_9 : m 6909 = .int x69_9j5) (w_x69_11 : m 6911 = .int x69_11j5) (w_x69_12 : m 6912 = .int x69_12j5) (w_x69_18 : m 6918 = .int x69_18j5) (hoff : ∀ j, nel j [6900, 6901, 6902, 6903, 6904, 6906, 6909, 6911, 6912, 6918] = false → m j = m0 j) (hsh : SH q m) (w_A71 : a 71 = (8, .inl A71j5)) (hoffa : ∀ j, nel j [71] = false → a j = a0 j) (ls : Array Slot) (hl : lv_has ls 4 [(0, .ref (q 69)), (1, .int v1j5), (2, .int v2j5)]) (hs0 : fX12_set_J25 F v1j5 v2j5 s0j5 s1j5 x69_0j5 x69_1j5 x69_2j5 x69_3j5 x69_4j5 x69_6j5 x69_9j5 x69_11j5 x69_12j5 x69_18j5 A71j5 = some X0) (hW : GW D cy (gA N q s.heap.size) N q m a s H) (hS : va_S (gA N q s.heap.size) s.heap H locs), W p l e ({ frames := 2, cells := 0, slots := 0, locals := 45 } : Room) s M args below meth c H locs 0 0 (MQ below (va_Qi (fun (r : Int32) (u : (Nat → Value) × (Nat → vp_A)) => r = X0.1 ∧ u.1 6900 = .int X0.2.1 ∧ u.1 6901 = .int X0.2.2.1 ∧ u.1 6902 = .int X0.2.2.2.1 ∧ u.1 6903 = .int X0.2.2.2.2.1 ∧ u.1 6904 = .long X0.2.2.2.2.2.1 ∧ u.1 6906 = .int X0.2.2.2.2.2.2.1 ∧ u.1 6909 = .int X0.2.2.2.2.2.2.2.1 ∧ u.1 6911 = .int X0.2.2.2.2.2.2.2.2.1 ∧ u.1 6912 = .int X0.2.2.2.2.2.2.2.2.2.1 ∧ u.1 6918 = .int X0.2.2.2.2.2.2.2.2.2.2.1 ∧ (∀ j, nel j [6900, 6901, 6902, 6903, 6904, 6906, 6909, 6911, 6912, 6918] = false → u.1 j = m0 j) ∧ u.2 71 = (8, .inl X0.2.2.2.2.2.2.2.2.2.2.2) ∧ (∀ j, nel j [71] = false → u.2 j = a0 j)) (gB D cy N q s.heap.size) (gA N q s.heap.size)) args s 0 0 (gA N q s.heap.size)) (F0 M 25 ls [.int s0j5, .int s1j5]) := by
    intro v1j5 v2j5 s0j5 s1j5 x69_0j5 x69_1j5 x69_2j5 x69_3j5 x69_4j5 x69_6j5 x69_9j5 x69_11j5 x69_12j5 x69_18j5 A71j5 m a H locs w_x69_0 w_x69_1 w_x69_2 w_x69_3 w_x69_4 w_x69_6 w_x69_9 w_x69_11 w_x69_12 w_x69_18 hoff hsh w_A71 hoffa ls hl hs0 hW hS
    unfold fX12_set_J25 at hs0
    refine lv_icmp_lt (tgt := 60) hx hb dX12_set_25 (by decide) (fun c6 => ?_) (fun c6 => ?_)
    · rw [if_pos c6] at hs0
      refine lv_iconst (v := (-1)) hx hb dX12_set_60 (by decide) ?_
      have hs0 := Option.some.inj hs0
      subst hs0
      exact W.zret hx hb hr rfl (fun t ht hw => ⟨⟨_, (m, a), rfl, ⟨rfl, w_x69_0, w_x69_1, w_x69_2, w_x69_3, w_x69_4, w_x69_6, w_x69_9, w_x69_11, w_x69_12, w_x69_18, hoff, w_A71, hoffa⟩, g_end hW ht hw⟩, hS.F ht⟩) hS.2.2 dX12_set_61 hlocks
    · rw [if_neg c6] at hs0
      refine lv_iload_n hx hb dX12_set_28 rfl (lv_at hl 2 rfl) ?_
      refine lv_iload_n hx hb dX12_set_29 rfl (lv_at hl 1 rfl) ?_
      refine lv_if_ne (tgt := 37) hx hb dX12_set_30 (by decide) (fun c7 => ?_) (fun c7 => ?_)
      · rw [if_neg c7] at hs0
        refine lv_iload_n hx hb dX12_set_37 rfl (lv_at hl 1 rfl) ?_
        refine lv_iconst (v := 1) hx hb dX12_set_38 (by decide) ?_
        refine lv_icmp_ne (tgt := 46) hx hb dX12_set_39 (by decide) (fun c8 => ?_) (fun c8 => ?_)
        · rw [if_neg c8] at hs0
          refine lv_iload_n hx hb dX12_set_46 rfl (lv_at hl 1 rfl) ?_
          refine lv_iconst (v := 2) hx hb dX12_set_47 (by decide) ?_
          refine lv_icmp_ne (tgt := 56) hx hb dX12_set_48 (by decide) (fun c9 => ?_) (fun c9 => ?_)
          · rw [if_neg c9] at hs0
            refine lv_iconst (v := 4) hx hb dX12_set_56 (by decide) ?_
            exact hJ57_0 v1j5 v2j5 4 v2j5 x69_0j5 x69_1j5 x69_2j5 x69_3j5 x69_4j5 x69_6j5 x69_9j5 x69_11j5 x69_12j5 x69_18j5 A71j5 m a _ _ w_x69_0 w_x69_1 w_x69_2 w_x69_3 w_x69_4 w_x69_6 w_x69_9 w_x69_11 w_x69_12 w_x69_18 hoff hsh w_A71 hoffa ls (lv_sub hl [0, 1, 2] rfl) hs0 hW hS
          · rw [if_pos c9] at hs0
            refine lv_bipush (v := 7) hx hb dX12_set_51 (by decide) ?_
            refine lv_goto (tgt := 57) hx hb dX12_set_53 (by decide) ?_
            exact hJ57_0 v1j5 v2j5 7 v2j5 x69_0j5 x69_1j5 x69_2j5 x69_3j5 x69_4j5 x69_6j5 x69_9j5 x69_11j5 x69_12j5 x69_18j5 A71j5 m a _ _ w_x69_0 w_x69_1 w_x69_2 w_x69_3 w_x69_4 w_x69_6 w_x69_9 w_x69_11 w_x69_12 w_x69_18 hoff hsh w_A71 hoffa ls (lv_sub hl [0, 1, 2] rfl) hs0 hW hS
        · rw [if_pos c8] at hs0
          refine lv_iconst (v := 4) hx hb dX12_set_42 (by decide) ?_
          refine lv_goto (tgt := 57) hx hb dX12_set_43 (by decide) ?_
          exact hJ57_0 v1j5 v2j5 4 v2j5 x69_0j5 x69_1j5 x69_2j5 x69_3j5 x69_4j5 x69_6j5 x69_9j5 x69_11j5 x69_12j5 x69_18j5 A71j5 m a _ _ w_x69_0 w_x69_1 w_x69_2 w_x69_3 w_x69_4 w_x69_6 w_x69_9 w_x69_11 w_x69_12 w_x69_18 hoff hsh w_A71 hoffa ls (lv_sub hl [0, 1, 2] rfl) hs0 hW hS
      · rw [if_pos c7] at hs0
        refine lv_iconst (v := 2) hx hb dX12_set_33 (by decide) ?_
        refine lv_goto (tgt := 57) hx hb dX12_set_34 (by decide) ?_
        exact hJ57_0 v1j5 v2j5 2 v2j5 x69_0j5 x69_1j5 x69_2j5 x69_3j5 x69_4j5 x69_6j5 x69_9j5 x69_11j5 x69_12j5 x69_18j5 A71j5 m a _ _ w_x69_0 w_x69_1 w_x69_2 w_x69_3 w_x69_4 w_x69_6 w_x69_9 w_x69_11 w_x69_12 w_x69_18 hoff hsh w_A71 hoffa ls (lv_sub hl [0, 1, 2] rfl) hs0 hW hS
  refine lv_aload_n hx hb dX12_set_0 rfl (lv_at hl 0 rfl) ?_
  refine lv_iconst (v := 0) hx hb dX12_set_1 (by decide) ?_
  refine gp12_18 hx hb hG hown hW hS (o := 69) (ltN hN 69 rfl) gk69 (v := 0) gx246 dX12_set_2 (fun m1 H locs hm1 ho1 hW hS => ?_)
  have ho1 := off1 ho1
  have w_x69_0 : m1 6900 = .int x69_0 := (ho1 6900 rfl).trans h_x69_0
  have w_x69_1 : m1 6901 = .int x69_1 := (ho1 6901 rfl).trans h_x69_1
  have w_x69_2 : m1 6902 = .int x69_2 := (ho1 6902 rfl).trans h_x69_2
  have w_x69_3 : m1 6903 = .int x69_3 := (ho1 6903 rfl).trans h_x69_3
  have w_x69_4 : m1 6904 = .long x69_4 := (ho1 6904 rfl).trans h_x69_4
  have w_x69_6 : m1 6906 = .int x69_6 := (ho1 6906 rfl).trans h_x69_6
  have w_x69_9 : m1 6909 = .int x69_9 := (ho1 6909 rfl).trans h_x69_9
  have w_x69_11 : m1 6911 = .int x69_11 := (ho1 6911 rfl).trans h_x69_11
  have w_x69_12 : m1 6912 = .int x69_12 := (ho1 6912 rfl).trans h_x69_12
  have w_x69_18 : m1 6918 = .int 0 := hm1
  have hoff := offm hoff ho1 (by decide +kernel)
  have hsh := SH.off hsh ho1 (by decide +kernel)
  refine lv_iload_n hx hb dX12_set_5 rfl (lv_at hl 1 rfl) ?_
  refine lv_iconst (v := 0) hx hb dX12_set_6 (by decide) ?_
  refine lv_iconst (v := 3) hx hb dX12_set_7 (by decide) ?_
  refine g_SiR (n := 3) hx hb hml hown hG hW hS [.int p1, .int 0, .int 3] (kX12_within hN p1 0 3) rfl (gd_S gx247 gx248 gx5 gx249) rfl rfl (by decide) ⟨Nat.le_of_ble_eq_true rfl, Nat.le_of_ble_eq_true rfl⟩ rfl hl (Nat.le_of_ble_eq_true rfl) ⟨Nat.zero_le _, Nat.zero_le _⟩ dX12_set_8 (fun H locs hW hS => ?_)
  refine lv_if_eq (tgt := 60) hx hb dX12_set_11 (by decide) (fun c3 => ?_) (fun c3 => ?_)
  · rw [if_pos c3] at hs0
    refine lv_iconst (v := (-1)) hx hb dX12_set_60 (by decide) ?_
    have hs0 := Option.some.inj hs0
    subst hs0
    exact W.zret hx hb hr rfl (fun t ht hw => ⟨⟨_, (m1, a0), rfl, ⟨rfl, w_x69_0, w_x69_1, w_x69_2, w_x69_3, w_x69_4, w_x69_6, w_x69_9, w_x69_11, w_x69_12, w_x69_18, hoff, h_A71, hoffa⟩, g_end hW ht hw⟩, hS.F ht⟩) hS.2.2 dX12_set_61 hlocks
  · rw [if_neg c3] at hs0
    refine lv_iload_n hx hb dX12_set_14 rfl (lv_at hl 2 rfl) ?_
    refine lv_iload_n hx hb dX12_set_15 rfl (lv_at hl 1 rfl) ?_
    refine lv_iconst (v := 1) hx hb dX12_set_16 (by decide) ?_
    refine lv_icmp_ne (tgt := 24) hx hb dX12_set_17 (by decide) (fun c4 => ?_) (fun c4 => ?_)
    · rw [if_neg c4] at hs0
      refine lv_iconst (v := 1) hx hb dX12_set_24 (by decide) ?_
      exact hJ25_0 p1 p2 1 p2 x69_0 x69_1 x69_2 x69_3 x69_4 x69_6 x69_9 x69_11 x69_12 0 A71 m1 a0 _ _ w_x69_0 w_x69_1 w_x69_2 w_x69_3 w_x69_4 w_x69_6 w_x69_9 w_x69_11 w_x69_12 w_x69_18 hoff hsh h_A71 hoffa ls (lv_sub hl [0, 1, 2] rfl) hs0 hW hS
    · rw [if_pos c4] at hs0
      refine lv_iconst (v := 2) hx hb dX12_set_20 (by decide) ?_
      refine lv_goto (tgt := 25) hx hb dX12_set_21 (by decide) ?_
      exact hJ25_0 p1 p2 2 p2 x69_0 x69_1 x69_2 x69_3 x69_4 x69_6 x69_9 x69_11 x69_12 0 A71 m1 a0 _ _ w_x69_0 w_x69_1 w_x69_2 w_x69_3 w_x69_4 w_x69_6 w_x69_9 w_x69_11 w_x69_12 w_x69_18 hoff hsh h_A71 hoffa ls (lv_sub hl [0, 1, 2] rfl) hs0 hW hS
-- HealLinkModel.isLabel (I)Z
def fX12_isLabel (x69_1 : Int32) (p1 : Int32) : Int32 := (fX12_within p1 0 (x69_1 - 1))
theorem dX12_isLabel_0 : decode cX12_isLabel 0 = .ok (.iload_n 1, 1) := by decide +kernel
theorem dX12_isLabel_1 : decode cX12_isLabel 1 = .ok (.iconst 0, 1) := by decide +kernel
theorem dX12_isLabel_2 : decode cX12_isLabel 2 = .ok (.aload_n 0, 1) := by decide +kernel
theorem dX12_isLabel_3 : decode cX12_isLabel 3 = .ok (.getfield 13, 3) := by decide +kernel
theorem dX12_isLabel_6 : decode cX12_isLabel 6 = .ok (.iconst 1, 1) := by decide +kernel
theorem dX12_isLabel_7 : decode cX12_isLabel 7 = .ok (.isub, 1) := by decide +kernel
theorem dX12_isLabel_8 : decode cX12_isLabel 8 = .ok (.invokestatic 159, 3) := by decide +kernel
theorem dX12_isLabel_11 : decode cX12_isLabel 11 = .ok (.ireturn, 1) := by decide +kernel
set_option maxHeartbeats 4000000 in
set_option maxRecDepth 100000 in
theorem kX12_isLabel {l : Launch} {D : va_G} {cy : Nat → ClassId} {N : Nat} {q : Nat → Nat} {m0 : Nat → Value} {a0 : Nat → vp_A} {sz : Nat} (hN : 105 ≤ N) {x69_1 : Int32} (h_x69_1 : m0 6901 = .int x69_1) (p1 : Int32) : gMi l yX12_isLabel cX12_isLabel 2 (some .boolean) ({ frames := 1, cells := 0, slots := 0, locals := 22 } : Room) D cy N q m0 a0 sz [.ref (q 69), .int p1] (fun r m' a' => r = (fX12_isLabel x69_1 p1) ∧ m' = m0 ∧ a' = a0) := by
  generalize hs0 : fX12_isLabel x69_1 p1 = X0
  refine g_ofi (by decide) (Nat.le_of_ble_eq_true rfl) ?_
  intro p e s M args below meth c hx hb hr hG hown hin hlocks hml hW hS ls hl
  unfold fX12_isLabel at hs0
  refine lv_iload_n hx hb dX12_isLabel_0 rfl (lv_at hl 1 rfl) ?_
  refine lv_iconst (v := 0) hx hb dX12_isLabel_1 (by decide) ?_
  refine lv_aload_n hx hb dX12_isLabel_2 rfl (lv_at hl 0 rfl) ?_
  refine gf12_1 hx hb hG hown hW (o := 69) (ltN hN 69 rfl) gk69 (v := .int x69_1) h_x69_1 gx163 dX12_isLabel_3 ?_
  refine lv_iconst (v := 1) hx hb dX12_isLabel_6 (by decide) ?_
  refine lv_isub hx hb dX12_isLabel_7 ?_
  refine g_SiR (n := 3) hx hb hml hown hG hW hS [.int p1, .int 0, .int (x69_1 - 1)] (kX12_within hN p1 0 (x69_1 - 1)) rfl (gd_S gx247 gx248 gx5 gx249) rfl rfl (by decide) ⟨Nat.le_of_ble_eq_true rfl, Nat.le_of_ble_eq_true rfl⟩ rfl hl (Nat.le_of_ble_eq_true rfl) ⟨Nat.zero_le _, Nat.zero_le _⟩ dX12_isLabel_8 (fun H locs hW hS => ?_)
  subst hs0
  exact W.zret hx hb hr (bz (bzw _ _ _)) (fun t ht hw => ⟨⟨_, (m0, a0), rfl, ⟨rfl, rfl, rfl⟩, g_end hW ht hw⟩, hS.F ht⟩) hS.2.2 dX12_isLabel_11 hlocks
-- HealLinkModel.isSort (II)Z
def fX12_isSort (x69_1 : Int32) (p1 : Int32) (p2 : Int32) : Int32 := (if (fX12_isLabel x69_1 p1) = 0 then 0 else (if (fX12_within p2 0 1) = 0 then 0 else 1))
theorem dX12_isSort_0 : decode cX12_isSort 0 = .ok (.aload_n 0, 1) := by decide +kernel
theorem dX12_isSort_1 : decode cX12_isSort 1 = .ok (.iload_n 1, 1) := by decide +kernel
theorem dX12_isSort_2 : decode cX12_isSort 2 = .ok (.invokevirtual 166, 3) := by decide +kernel
theorem dX12_isSort_5 : decode cX12_isSort 5 = .ok (.ifCond .eq 16, 3) := by decide +kernel
theorem dX12_isSort_8 : decode cX12_isSort 8 = .ok (.iload_n 2, 1) := by decide +kernel
theorem dX12_isSort_9 : decode cX12_isSort 9 = .ok (.iconst 0, 1) := by decide +kernel
theorem dX12_isSort_10 : decode cX12_isSort 10 = .ok (.iconst 1, 1) := by decide +kernel
theorem dX12_isSort_11 : decode cX12_isSort 11 = .ok (.invokestatic 159, 3) := by decide +kernel
theorem dX12_isSort_14 : decode cX12_isSort 14 = .ok (.ifCond .eq 7, 3) := by decide +kernel
theorem dX12_isSort_17 : decode cX12_isSort 17 = .ok (.iconst 1, 1) := by decide +kernel
theorem dX12_isSort_18 : decode cX12_isSort 18 = .ok (.goto 4, 3) := by decide +kernel
theorem dX12_isSort_21 : decode cX12_isSort 21 = .ok (.iconst 0, 1) := by decide +kernel
theorem dX12_isSort_22 : decode cX12_isSort 22 = .ok (.ireturn, 1) := by decide +kernel
set_option maxHeartbeats 4000000 in
set_option maxRecDepth 100000 in
theorem kX12_isSort {l : Launch} {D : va_G} {cy : Nat → ClassId} {N : Nat} {q : Nat → Nat} {m0 : Nat → Value} {a0 : Nat → vp_A} {sz : Nat} (hN : 105 ≤ N) {x69_1 : Int32} (h_x69_1 : m0 6901 = .int x69_1) (p1 : Int32) (p2 : Int32) : gMi l yX12_isSort cX12_isSort 3 (some .boolean) ({ frames := 2, cells := 0, slots := 0, locals := 43 } : Room) D cy N q m0 a0 sz [.ref (q 69), .int p1, .int p2] (fun r m' a' => r = (fX12_isSort x69_1 p1 p2) ∧ m' = m0 ∧ a' = a0) := by
  generalize hs0 : fX12_isSort x69_1 p1 p2 = X0
  refine g_ofi (by decide) (Nat.le_of_ble_eq_true rfl) ?_
  intro p e s M args below meth c hx hb hr hG hown hin hlocks hml hW hS ls hl
  unfold fX12_isSort at hs0
  refine lv_aload_n hx hb dX12_isSort_0 rfl (lv_at hl 0 rfl) ?_
  refine lv_iload_n hx hb dX12_isSort_1 rfl (lv_at hl 1 rfl) ?_
  refine g_ViR (n := 1) hx hb hml hown hG hW hS [.int p1] (kX12_isLabel hN h_x69_1 p1) (ltN hN 69 rfl) gk69 (by decide) rfl rfl (gd_V gx284 gx285 gx286 gx5 gx287) rfl rfl (by decide) ⟨Nat.le_of_ble_eq_true rfl, Nat.le_of_ble_eq_true rfl⟩ rfl hl (Nat.le_of_ble_eq_true rfl) ⟨Nat.zero_le _, Nat.zero_le _⟩ dX12_isSort_2 (fun H locs hW hS => ?_)
  refine lv_if_eq (tgt := 21) hx hb dX12_isSort_5 (by decide) (fun c2 => ?_) (fun c2 => ?_)
  · rw [if_pos c2] at hs0
    refine lv_iconst (v := 0) hx hb dX12_isSort_21 (by decide) ?_
    subst hs0
    exact W.zret hx hb hr rfl (fun t ht hw => ⟨⟨_, (m0, a0), rfl, ⟨rfl, rfl, rfl⟩, g_end hW ht hw⟩, hS.F ht⟩) hS.2.2 dX12_isSort_22 hlocks
  · rw [if_neg c2] at hs0
    refine lv_iload_n hx hb dX12_isSort_8 rfl (lv_at hl 2 rfl) ?_
    refine lv_iconst (v := 0) hx hb dX12_isSort_9 (by decide) ?_
    refine lv_iconst (v := 1) hx hb dX12_isSort_10 (by decide) ?_
    refine g_SiR (n := 3) hx hb hml hown hG hW hS [.int p2, .int 0, .int 1] (kX12_within hN p2 0 1) rfl (gd_S gx247 gx248 gx5 gx249) rfl rfl (by decide) ⟨Nat.le_of_ble_eq_true rfl, Nat.le_of_ble_eq_true rfl⟩ rfl hl (Nat.le_of_ble_eq_true rfl) ⟨Nat.zero_le _, Nat.zero_le _⟩ dX12_isSort_11 (fun H locs hW hS => ?_)
    refine lv_if_eq (tgt := 21) hx hb dX12_isSort_14 (by decide) (fun c4 => ?_) (fun c4 => ?_)
    · rw [if_pos c4] at hs0
      refine lv_iconst (v := 0) hx hb dX12_isSort_21 (by decide) ?_
      subst hs0
      exact W.zret hx hb hr rfl (fun t ht hw => ⟨⟨_, (m0, a0), rfl, ⟨rfl, rfl, rfl⟩, g_end hW ht hw⟩, hS.F ht⟩) hS.2.2 dX12_isSort_22 hlocks
    · rw [if_neg c4] at hs0
      refine lv_iconst (v := 1) hx hb dX12_isSort_17 (by decide) ?_
      refine lv_goto (tgt := 22) hx hb dX12_isSort_18 (by decide) ?_
      subst hs0
      exact W.zret hx hb hr rfl (fun t ht hw => ⟨⟨_, (m0, a0), rfl, ⟨rfl, rfl, rfl⟩, g_end hW ht hw⟩, hS.F ht⟩) hS.2.2 dX12_isSort_22 hlocks
-- HealLinkModel.sender (IIIZ)Z
def fX12_sender_J66 (x69_1 : Int32) (x69_2 : Int32) (s0j10 : Int32) (s1j10 : Int32) (s2j10 : Int32) (s3j10 : Int64) (x69_4j10 : Int64) (x69_18j10 : Int32) : Int32 × Int64 × Int32 := (1, (fX12_put s3j10 s2j10 s1j10 s0j10), x69_18j10)
def fX12_sender (x69_1 : Int32) (x69_2 : Int32) (x69_4 : Int64) (x69_18 : Int32) (p1 : Int32) (p2 : Int32) (p3 : Int32) (p4 : Int32) : Int32 × Int64 × Int32 := (if (fX12_isSort x69_1 p1 p2) = 0 then (0, x69_4, 0) else (if (fX12_within p3 0 (x69_2 - 1)) = 0 then (0, x69_4, 0) else (if p4 = 0 then fX12_sender_J66 x69_1 x69_2 0 1 6 (fX12_put (fX12_put (fX12_put x69_4 0 2 p1) 2 1 p2) 3 3 p3) x69_4 0 else fX12_sender_J66 x69_1 x69_2 1 1 6 (fX12_put (fX12_put (fX12_put x69_4 0 2 p1) 2 1 p2) 3 3 p3) x69_4 0)))
theorem dX12_sender_0 : decode cX12_sender 0 = .ok (.aload_n 0, 1) := by decide +kernel
theorem dX12_sender_1 : decode cX12_sender 1 = .ok (.iconst 0, 1) := by decide +kernel
theorem dX12_sender_2 : decode cX12_sender 2 = .ok (.putfield 137, 3) := by decide +kernel
theorem dX12_sender_5 : decode cX12_sender 5 = .ok (.aload_n 0, 1) := by decide +kernel
theorem dX12_sender_6 : decode cX12_sender 6 = .ok (.iload_n 1, 1) := by decide +kernel
theorem dX12_sender_7 : decode cX12_sender 7 = .ok (.iload_n 2, 1) := by decide +kernel
theorem dX12_sender_8 : decode cX12_sender 8 = .ok (.invokevirtual 170, 3) := by decide +kernel
theorem dX12_sender_11 : decode cX12_sender 11 = .ok (.ifCond .eq 17, 3) := by decide +kernel
theorem dX12_sender_14 : decode cX12_sender 14 = .ok (.iload_n 3, 1) := by decide +kernel
theorem dX12_sender_15 : decode cX12_sender 15 = .ok (.iconst 0, 1) := by decide +kernel
theorem dX12_sender_16 : decode cX12_sender 16 = .ok (.aload_n 0, 1) := by decide +kernel
theorem dX12_sender_17 : decode cX12_sender 17 = .ok (.getfield 16, 3) := by decide +kernel
theorem dX12_sender_20 : decode cX12_sender 20 = .ok (.iconst 1, 1) := by decide +kernel
theorem dX12_sender_21 : decode cX12_sender 21 = .ok (.isub, 1) := by decide +kernel
theorem dX12_sender_22 : decode cX12_sender 22 = .ok (.invokestatic 159, 3) := by decide +kernel
theorem dX12_sender_25 : decode cX12_sender 25 = .ok (.ifCond .ne 5, 3) := by decide +kernel
theorem dX12_sender_28 : decode cX12_sender 28 = .ok (.iconst 0, 1) := by decide +kernel
theorem dX12_sender_29 : decode cX12_sender 29 = .ok (.ireturn, 1) := by decide +kernel
theorem dX12_sender_30 : decode cX12_sender 30 = .ok (.aload_n 0, 1) := by decide +kernel
theorem dX12_sender_31 : decode cX12_sender 31 = .ok (.aload_n 0, 1) := by decide +kernel
theorem dX12_sender_32 : decode cX12_sender 32 = .ok (.getfield 133, 3) := by decide +kernel
theorem dX12_sender_35 : decode cX12_sender 35 = .ok (.iconst 0, 1) := by decide +kernel
theorem dX12_sender_36 : decode cX12_sender 36 = .ok (.iconst 2, 1) := by decide +kernel
theorem dX12_sender_37 : decode cX12_sender 37 = .ok (.iload_n 1, 1) := by decide +kernel
theorem dX12_sender_38 : decode cX12_sender 38 = .ok (.invokestatic 129, 3) := by decide +kernel
theorem dX12_sender_41 : decode cX12_sender 41 = .ok (.iconst 2, 1) := by decide +kernel
theorem dX12_sender_42 : decode cX12_sender 42 = .ok (.iconst 1, 1) := by decide +kernel
theorem dX12_sender_43 : decode cX12_sender 43 = .ok (.iload_n 2, 1) := by decide +kernel
theorem dX12_sender_44 : decode cX12_sender 44 = .ok (.invokestatic 129, 3) := by decide +kernel
theorem dX12_sender_47 : decode cX12_sender 47 = .ok (.iconst 3, 1) := by decide +kernel
theorem dX12_sender_48 : decode cX12_sender 48 = .ok (.iconst 3, 1) := by decide +kernel
theorem dX12_sender_49 : decode cX12_sender 49 = .ok (.iload_n 3, 1) := by decide +kernel
theorem dX12_sender_50 : decode cX12_sender 50 = .ok (.invokestatic 129, 3) := by decide +kernel
theorem dX12_sender_53 : decode cX12_sender 53 = .ok (.bipush 6, 2) := by decide +kernel
theorem dX12_sender_55 : decode cX12_sender 55 = .ok (.iconst 1, 1) := by decide +kernel
theorem dX12_sender_56 : decode cX12_sender 56 = .ok (.iload 4, 2) := by decide +kernel
theorem dX12_sender_58 : decode cX12_sender 58 = .ok (.ifCond .eq 7, 3) := by decide +kernel
theorem dX12_sender_61 : decode cX12_sender 61 = .ok (.iconst 1, 1) := by decide +kernel
theorem dX12_sender_62 : decode cX12_sender 62 = .ok (.goto 4, 3) := by decide +kernel
theorem dX12_sender_65 : decode cX12_sender 65 = .ok (.iconst 0, 1) := by decide +kernel
theorem dX12_sender_66 : decode cX12_sender 66 = .ok (.invokestatic 129, 3) := by decide +kernel
theorem dX12_sender_69 : decode cX12_sender 69 = .ok (.putfield 133, 3) := by decide +kernel
theorem dX12_sender_72 : decode cX12_sender 72 = .ok (.iconst 1, 1) := by decide +kernel
theorem dX12_sender_73 : decode cX12_sender 73 = .ok (.ireturn, 1) := by decide +kernel
set_option maxHeartbeats 4000000 in
set_option maxRecDepth 100000 in
theorem kX12_sender {l : Launch} {D : va_G} {cy : Nat → ClassId} {N : Nat} {q : Nat → Nat} {m0 : Nat → Value} {a0 : Nat → vp_A} {sz : Nat} (hN : 105 ≤ N) (hsh : SH q m0) {x69_1 : Int32} (h_x69_1 : m0 6901 = .int x69_1) {x69_2 : Int32} (h_x69_2 : m0 6902 = .int x69_2) {x69_4 : Int64} (h_x69_4 : m0 6904 = .long x69_4) {x69_18 : Int32} (h_x69_18 : m0 6918 = .int x69_18) (p1 : Int32) (p2 : Int32) (p3 : Int32) (p4 : Int32) : gMi l yX12_sender cX12_sender 5 (some .boolean) ({ frames := 3, cells := 0, slots := 0, locals := 65 } : Room) D cy N q m0 a0 sz [.ref (q 69), .int p1, .int p2, .int p3, .int p4] (fun r m' a' => r = (fX12_sender x69_1 x69_2 x69_4 x69_18 p1 p2 p3 p4).1 ∧ m' 6904 = .long ((fX12_sender x69_1 x69_2 x69_4 x69_18 p1 p2 p3 p4).2.1) ∧ m' 6918 = .int ((fX12_sender x69_1 x69_2 x69_4 x69_18 p1 p2 p3 p4).2.2) ∧ (∀ j, nel j [6904, 6918] = false → m' j = m0 j) ∧ a' = a0) := by
  generalize hs0 : fX12_sender x69_1 x69_2 x69_4 x69_18 p1 p2 p3 p4 = X0
  refine g_ofi (by decide) (Nat.le_of_ble_eq_true rfl) ?_
  intro p e s M args below meth c hx hb hr hG hown hin hlocks hml hW hS ls hl
  unfold fX12_sender at hs0
  have hoff : ∀ j, nel j [6904, 6918] = false → m0 j = m0 j := off0
  have hJ66_0 : ∀ (s0j10 : Int32) (s1j10 : Int32) (s2j10 : Int32) (s3j10 : Int64) (x69_4j10 : Int64) (x69_18j10 : Int32) (m : Nat → Value) (H : Heap) (locs : List Loc) (w_x69_4 : m 6904 = .long x69_4j10) (w_x69_18 : m 6918 = .int x69_18j10) (hoff : ∀ j, nel j [6904, 6918] = false → m j = m0 j) (hsh : SH q m) (ls : Array Slot) (hl : lv_has ls 5 []) (hs0 : fX12_sender_J66 x69_1 x69_2 s0j10 s1j10 s2j10 s3j10 x69_4j10 x69_18j10 = X0) (hW : GW D cy (gA N q s.heap.size) N q m a0 s H) (hS : va_S (gA N q s.heap.size) s.heap H locs), W p l e ({ frames := 3, cells := 0, slots := 0, locals := 65 } : Room) s M args below meth c H locs 0 0 (MQ below (va_Qi (fun (r : Int32) (u : (Nat → Value) × (Nat → vp_A)) => r = X0.1 ∧ u.1 6904 = .long (X0.2.1) ∧ u.1 6918 = .int (X0.2.2) ∧ (∀ j, nel j [6904, 6918] = false → u.1 j = m0 j) ∧ u.2 = a0) (gB D cy N q s.heap.size) (gA N q s.heap.size)) args s 0 0 (gA N q s.heap.size)) (F0 M 66 ls [.int s0j10, .int s1j10, .int s2j10, .long s3j10, .ref (q 69)]) := by
    intro s0j10 s1j10 s2j10 s3j10 x69_4j10 x69_18j10 m H locs w_x69_4 w_x69_18 hoff hsh ls hl hs0 hW hS
    unfold fX12_sender_J66 at hs0
    refine g_SlR (n := 4) hx hb hml hown hG hW hS [.long s3j10, .int s2j10, .int s1j10, .int s0j10] (kX12_put hN s3j10 s2j10 s1j10 s0j10) rfl (gd_S gx203 gx204 gx5 gx205) rfl rfl (by decide) ⟨Nat.le_of_ble_eq_true rfl, Nat.le_of_ble_eq_true rfl⟩ rfl hl (Nat.le_of_ble_eq_true rfl) ⟨Nat.zero_le _, Nat.zero_le _⟩ dX12_sender_66 (fun H locs hW hS => ?_)
    refine gp12_4 hx hb hG hown hW hS (o := 69) (ltN hN 69 rfl) gk69 (v := (fX12_put s3j10 s2j10 s1j10 s0j10)) gx202 dX12_sender_69 (fun m12 H locs hm12 ho12 hW hS => ?_)
    have ho12 := off1 ho12
    have w_x69_4 : m12 6904 = .long (fX12_put s3j10 s2j10 s1j10 s0j10) := hm12
    have w_x69_18 : m12 6918 = .int x69_18j10 := (ho12 6918 rfl).trans w_x69_18
    have hoff := offm hoff ho12 (by decide +kernel)
    have hsh := SH.off hsh ho12 (by decide +kernel)
    refine lv_iconst (v := 1) hx hb dX12_sender_72 (by decide) ?_
    subst hs0
    exact W.zret hx hb hr rfl (fun t ht hw => ⟨⟨_, (m12, a0), rfl, ⟨rfl, w_x69_4, w_x69_18, hoff, rfl⟩, g_end hW ht hw⟩, hS.F ht⟩) hS.2.2 dX12_sender_73 hlocks
  refine lv_aload_n hx hb dX12_sender_0 rfl (lv_at hl 0 rfl) ?_
  refine lv_iconst (v := 0) hx hb dX12_sender_1 (by decide) ?_
  refine gp12_18 hx hb hG hown hW hS (o := 69) (ltN hN 69 rfl) gk69 (v := 0) gx246 dX12_sender_2 (fun m1 H locs hm1 ho1 hW hS => ?_)
  have ho1 := off1 ho1
  have w_x69_4 : m1 6904 = .long x69_4 := (ho1 6904 rfl).trans h_x69_4
  have w_x69_18 : m1 6918 = .int 0 := hm1
  have hoff := offm hoff ho1 (by decide +kernel)
  have hsh := SH.off hsh ho1 (by decide +kernel)
  refine lv_aload_n hx hb dX12_sender_5 rfl (lv_at hl 0 rfl) ?_
  refine lv_iload_n hx hb dX12_sender_6 rfl (lv_at hl 1 rfl) ?_
  refine lv_iload_n hx hb dX12_sender_7 rfl (lv_at hl 2 rfl) ?_
  refine g_ViR (n := 2) hx hb hml hown hG hW hS [.int p1, .int p2] (kX12_isSort hN ((hoff 6901 rfl).trans h_x69_1) p1 p2) (ltN hN 69 rfl) gk69 (by decide) rfl rfl (gd_V gx280 gx281 gx282 gx5 gx283) rfl rfl (by decide) ⟨Nat.le_of_ble_eq_true rfl, Nat.le_of_ble_eq_true rfl⟩ rfl hl (Nat.le_of_ble_eq_true rfl) ⟨Nat.zero_le _, Nat.zero_le _⟩ dX12_sender_8 (fun H locs hW hS => ?_)
  refine lv_if_eq (tgt := 28) hx hb dX12_sender_11 (by decide) (fun c3 => ?_) (fun c3 => ?_)
  · rw [if_pos c3] at hs0
    refine lv_iconst (v := 0) hx hb dX12_sender_28 (by decide) ?_
    subst hs0
    exact W.zret hx hb hr rfl (fun t ht hw => ⟨⟨_, (m1, a0), rfl, ⟨rfl, w_x69_4, w_x69_18, hoff, rfl⟩, g_end hW ht hw⟩, hS.F ht⟩) hS.2.2 dX12_sender_29 hlocks
  · rw [if_neg c3] at hs0
    refine lv_iload_n hx hb dX12_sender_14 rfl (lv_at hl 3 rfl) ?_
    refine lv_iconst (v := 0) hx hb dX12_sender_15 (by decide) ?_
    refine lv_aload_n hx hb dX12_sender_16 rfl (lv_at hl 0 rfl) ?_
    refine gf12_2 hx hb hG hown hW (o := 69) (ltN hN 69 rfl) gk69 (v := .int x69_2) ((hoff 6902 rfl).trans h_x69_2) gx164 dX12_sender_17 ?_
    refine lv_iconst (v := 1) hx hb dX12_sender_20 (by decide) ?_
    refine lv_isub hx hb dX12_sender_21 ?_
    refine g_SiR (n := 3) hx hb hml hown hG hW hS [.int p3, .int 0, .int (x69_2 - 1)] (kX12_within hN p3 0 (x69_2 - 1)) rfl (gd_S gx247 gx248 gx5 gx249) rfl rfl (by decide) ⟨Nat.le_of_ble_eq_true rfl, Nat.le_of_ble_eq_true rfl⟩ rfl hl (Nat.le_of_ble_eq_true rfl) ⟨Nat.zero_le _, Nat.zero_le _⟩ dX12_sender_22 (fun H locs hW hS => ?_)
    refine lv_if_ne (tgt := 30) hx hb dX12_sender_25 (by decide) (fun c5 => ?_) (fun c5 => ?_)
    · rw [if_neg c5] at hs0
      refine lv_aload_n hx hb dX12_sender_30 rfl (lv_at hl 0 rfl) ?_
      refine lv_aload_n hx hb dX12_sender_31 rfl (lv_at hl 0 rfl) ?_
      refine gf12_4 hx hb hG hown hW (o := 69) (ltN hN 69 rfl) gk69 (v := .long x69_4) w_x69_4 gx202 dX12_sender_32 ?_
      refine lv_iconst (v := 0) hx hb dX12_sender_35 (by decide) ?_
      refine lv_iconst (v := 2) hx hb dX12_sender_36 (by decide) ?_
      refine lv_iload_n hx hb dX12_sender_37 rfl (lv_at hl 1 rfl) ?_
      refine g_SlR (n := 4) hx hb hml hown hG hW hS [.long x69_4, .int 0, .int 2, .int p1] (kX12_put hN x69_4 0 2 p1) rfl (gd_S gx203 gx204 gx5 gx205) rfl rfl (by decide) ⟨Nat.le_of_ble_eq_true rfl, Nat.le_of_ble_eq_true rfl⟩ rfl hl (Nat.le_of_ble_eq_true rfl) ⟨Nat.zero_le _, Nat.zero_le _⟩ dX12_sender_38 (fun H locs hW hS => ?_)
      refine lv_iconst (v := 2) hx hb dX12_sender_41 (by decide) ?_
      refine lv_iconst (v := 1) hx hb dX12_sender_42 (by decide) ?_
      refine lv_iload_n hx hb dX12_sender_43 rfl (lv_at hl 2 rfl) ?_
      refine g_SlR (n := 4) hx hb hml hown hG hW hS [.long (fX12_put x69_4 0 2 p1), .int 2, .int 1, .int p2] (kX12_put hN (fX12_put x69_4 0 2 p1) 2 1 p2) rfl (gd_S gx203 gx204 gx5 gx205) rfl rfl (by decide) ⟨Nat.le_of_ble_eq_true rfl, Nat.le_of_ble_eq_true rfl⟩ rfl hl (Nat.le_of_ble_eq_true rfl) ⟨Nat.zero_le _, Nat.zero_le _⟩ dX12_sender_44 (fun H locs hW hS => ?_)
      refine lv_iconst (v := 3) hx hb dX12_sender_47 (by decide) ?_
      refine lv_iconst (v := 3) hx hb dX12_sender_48 (by decide) ?_
      refine lv_iload_n hx hb dX12_sender_49 rfl (lv_at hl 3 rfl) ?_
      refine g_SlR (n := 4) hx hb hml hown hG hW hS [.long (fX12_put (fX12_put x69_4 0 2 p1) 2 1 p2), .int 3, .int 3, .int p3] (kX12_put hN (fX12_put (fX12_put x69_4 0 2 p1) 2 1 p2) 3 3 p3) rfl (gd_S gx203 gx204 gx5 gx205) rfl rfl (by decide) ⟨Nat.le_of_ble_eq_true rfl, Nat.le_of_ble_eq_true rfl⟩ rfl hl (Nat.le_of_ble_eq_true rfl) ⟨Nat.zero_le _, Nat.zero_le _⟩ dX12_sender_50 (fun H locs hW hS => ?_)
      refine lv_bipush (v := 6) hx hb dX12_sender_53 (by decide) ?_
      refine lv_iconst (v := 1) hx hb dX12_sender_55 (by decide) ?_
      refine lv_iload hx hb dX12_sender_56 (lv_at hl 4 rfl) ?_
      refine lv_if_eq (tgt := 65) hx hb dX12_sender_58 (by decide) (fun c9 => ?_) (fun c9 => ?_)
      · rw [if_pos c9] at hs0
        refine lv_iconst (v := 0) hx hb dX12_sender_65 (by decide) ?_
        exact hJ66_0 0 1 6 (fX12_put (fX12_put (fX12_put x69_4 0 2 p1) 2 1 p2) 3 3 p3) x69_4 0 m1 _ _ w_x69_4 w_x69_18 hoff hsh ls (lv_sub hl [] rfl) hs0 hW hS
      · rw [if_neg c9] at hs0
        refine lv_iconst (v := 1) hx hb dX12_sender_61 (by decide) ?_
        refine lv_goto (tgt := 66) hx hb dX12_sender_62 (by decide) ?_
        exact hJ66_0 1 1 6 (fX12_put (fX12_put (fX12_put x69_4 0 2 p1) 2 1 p2) 3 3 p3) x69_4 0 m1 _ _ w_x69_4 w_x69_18 hoff hsh ls (lv_sub hl [] rfl) hs0 hW hS
    · rw [if_pos c5] at hs0
      refine lv_iconst (v := 0) hx hb dX12_sender_28 (by decide) ?_
      subst hs0
      exact W.zret hx hb hr rfl (fun t ht hw => ⟨⟨_, (m1, a0), rfl, ⟨rfl, w_x69_4, w_x69_18, hoff, rfl⟩, g_end hW ht hw⟩, hS.F ht⟩) hS.2.2 dX12_sender_29 hlocks
-- HealLinkModel.last (I)I
def fX12_last (x69_1 : Int32) (x69_4 : Int64) (x69_18 : Int32) (p1 : Int32) : Int32 × Int64 × Int32 := (if (fX12_isLabel x69_1 p1) = 0 then ((-1), x69_4, 0) else ((fX12_get x69_4 7 2), (fX12_put x69_4 7 2 p1), 0))
theorem dX12_last_0 : decode cX12_last 0 = .ok (.aload_n 0, 1) := by decide +kernel
theorem dX12_last_1 : decode cX12_last 1 = .ok (.iconst 0, 1) := by decide +kernel
theorem dX12_last_2 : decode cX12_last 2 = .ok (.putfield 137, 3) := by decide +kernel
theorem dX12_last_5 : decode cX12_last 5 = .ok (.aload_n 0, 1) := by decide +kernel
theorem dX12_last_6 : decode cX12_last 6 = .ok (.iload_n 1, 1) := by decide +kernel
theorem dX12_last_7 : decode cX12_last 7 = .ok (.invokevirtual 166, 3) := by decide +kernel
theorem dX12_last_10 : decode cX12_last 10 = .ok (.ifCond .ne 5, 3) := by decide +kernel
theorem dX12_last_13 : decode cX12_last 13 = .ok (.iconst (-1), 1) := by decide +kernel
theorem dX12_last_14 : decode cX12_last 14 = .ok (.ireturn, 1) := by decide +kernel
theorem dX12_last_15 : decode cX12_last 15 = .ok (.aload_n 0, 1) := by decide +kernel
theorem dX12_last_16 : decode cX12_last 16 = .ok (.getfield 133, 3) := by decide +kernel
theorem dX12_last_19 : decode cX12_last 19 = .ok (.bipush 7, 2) := by decide +kernel
theorem dX12_last_21 : decode cX12_last 21 = .ok (.iconst 2, 1) := by decide +kernel
theorem dX12_last_22 : decode cX12_last 22 = .ok (.invokestatic 142, 3) := by decide +kernel
theorem dX12_last_25 : decode cX12_last 25 = .ok (.istore_n 2, 1) := by decide +kernel
theorem dX12_last_26 : decode cX12_last 26 = .ok (.aload_n 0, 1) := by decide +kernel
theorem dX12_last_27 : decode cX12_last 27 = .ok (.aload_n 0, 1) := by decide +kernel
theorem dX12_last_28 : decode cX12_last 28 = .ok (.getfield 133, 3) := by decide +kernel
theorem dX12_last_31 : decode cX12_last 31 = .ok (.bipush 7, 2) := by decide +kernel
theorem dX12_last_33 : decode cX12_last 33 = .ok (.iconst 2, 1) := by decide +kernel
theorem dX12_last_34 : decode cX12_last 34 = .ok (.iload_n 1, 1) := by decide +kernel
theorem dX12_last_35 : decode cX12_last 35 = .ok (.invokestatic 129, 3) := by decide +kernel
theorem dX12_last_38 : decode cX12_last 38 = .ok (.putfield 133, 3) := by decide +kernel
theorem dX12_last_41 : decode cX12_last 41 = .ok (.iload_n 2, 1) := by decide +kernel
theorem dX12_last_42 : decode cX12_last 42 = .ok (.ireturn, 1) := by decide +kernel
set_option maxHeartbeats 4000000 in
set_option maxRecDepth 100000 in
theorem kX12_last {l : Launch} {D : va_G} {cy : Nat → ClassId} {N : Nat} {q : Nat → Nat} {m0 : Nat → Value} {a0 : Nat → vp_A} {sz : Nat} (hN : 105 ≤ N) (hsh : SH q m0) {x69_1 : Int32} (h_x69_1 : m0 6901 = .int x69_1) {x69_4 : Int64} (h_x69_4 : m0 6904 = .long x69_4) {x69_18 : Int32} (h_x69_18 : m0 6918 = .int x69_18) (p1 : Int32) : gMi l yX12_last cX12_last 3 (some .int) ({ frames := 2, cells := 0, slots := 0, locals := 43 } : Room) D cy N q m0 a0 sz [.ref (q 69), .int p1] (fun r m' a' => r = (fX12_last x69_1 x69_4 x69_18 p1).1 ∧ m' 6904 = .long ((fX12_last x69_1 x69_4 x69_18 p1).2.1) ∧ m' 6918 = .int ((fX12_last x69_1 x69_4 x69_18 p1).2.2) ∧ (∀ j, nel j [6904, 6918] = false → m' j = m0 j) ∧ a' = a0) := by
  generalize hs0 : fX12_last x69_1 x69_4 x69_18 p1 = X0
  refine g_ofi (by decide) (Nat.le_of_ble_eq_true rfl) ?_
  intro p e s M args below meth c hx hb hr hG hown hin hlocks hml hW hS ls hl
  unfold fX12_last at hs0
  have hoff : ∀ j, nel j [6904, 6918] = false → m0 j = m0 j := off0
  refine lv_aload_n hx hb dX12_last_0 rfl (lv_at hl 0 rfl) ?_
  refine lv_iconst (v := 0) hx hb dX12_last_1 (by decide) ?_
  refine gp12_18 hx hb hG hown hW hS (o := 69) (ltN hN 69 rfl) gk69 (v := 0) gx246 dX12_last_2 (fun m1 H locs hm1 ho1 hW hS => ?_)
  have ho1 := off1 ho1
  have w_x69_4 : m1 6904 = .long x69_4 := (ho1 6904 rfl).trans h_x69_4
  have w_x69_18 : m1 6918 = .int 0 := hm1
  have hoff := offm hoff ho1 (by decide +kernel)
  have hsh := SH.off hsh ho1 (by decide +kernel)
  refine lv_aload_n hx hb dX12_last_5 rfl (lv_at hl 0 rfl) ?_
  refine lv_iload_n hx hb dX12_last_6 rfl (lv_at hl 1 rfl) ?_
  refine g_ViR (n := 1) hx hb hml hown hG hW hS [.int p1] (kX12_isLabel hN ((hoff 6901 rfl).trans h_x69_1) p1) (ltN hN 69 rfl) gk69 (by decide) rfl rfl (gd_V gx284 gx285 gx286 gx5 gx287) rfl rfl (by decide) ⟨Nat.le_of_ble_eq_true rfl, Nat.le_of_ble_eq_true rfl⟩ rfl hl (Nat.le_of_ble_eq_true rfl) ⟨Nat.zero_le _, Nat.zero_le _⟩ dX12_last_7 (fun H locs hW hS => ?_)
  refine lv_if_ne (tgt := 15) hx hb dX12_last_10 (by decide) (fun c3 => ?_) (fun c3 => ?_)
  · rw [if_neg c3] at hs0
    refine lv_aload_n hx hb dX12_last_15 rfl (lv_at hl 0 rfl) ?_
    refine gf12_4 hx hb hG hown hW (o := 69) (ltN hN 69 rfl) gk69 (v := .long x69_4) w_x69_4 gx202 dX12_last_16 ?_
    refine lv_bipush (v := 7) hx hb dX12_last_19 (by decide) ?_
    refine lv_iconst (v := 2) hx hb dX12_last_21 (by decide) ?_
    refine g_SiR (n := 3) hx hb hml hown hG hW hS [.long x69_4, .int 7, .int 2] (kX12_get hN x69_4 7 2) rfl (gd_S gx304 gx305 gx5 gx306) rfl rfl (by decide) ⟨Nat.le_of_ble_eq_true rfl, Nat.le_of_ble_eq_true rfl⟩ rfl hl (Nat.le_of_ble_eq_true rfl) ⟨Nat.zero_le _, Nat.zero_le _⟩ dX12_last_22 (fun H locs hW hS => ?_)
    refine lv_istore_n (lv' := [(2, .int (fX12_get x69_4 7 2)), (0, .ref (q 69)), (1, .int p1)]) hx hb dX12_last_25 rfl hl (by decide) rfl (fun ls hl => ?_)
    refine lv_aload_n hx hb dX12_last_26 rfl (lv_at hl 1 rfl) ?_
    refine lv_aload_n hx hb dX12_last_27 rfl (lv_at hl 1 rfl) ?_
    refine gf12_4 hx hb hG hown hW (o := 69) (ltN hN 69 rfl) gk69 (v := .long x69_4) w_x69_4 gx202 dX12_last_28 ?_
    refine lv_bipush (v := 7) hx hb dX12_last_31 (by decide) ?_
    refine lv_iconst (v := 2) hx hb dX12_last_33 (by decide) ?_
    refine lv_iload_n hx hb dX12_last_34 rfl (lv_at hl 2 rfl) ?_
    refine g_SlR (n := 4) hx hb hml hown hG hW hS [.long x69_4, .int 7, .int 2, .int p1] (kX12_put hN x69_4 7 2 p1) rfl (gd_S gx203 gx204 gx5 gx205) rfl rfl (by decide) ⟨Nat.le_of_ble_eq_true rfl, Nat.le_of_ble_eq_true rfl⟩ rfl hl (Nat.le_of_ble_eq_true rfl) ⟨Nat.zero_le _, Nat.zero_le _⟩ dX12_last_35 (fun H locs hW hS => ?_)
    refine gp12_4 hx hb hG hown hW hS (o := 69) (ltN hN 69 rfl) gk69 (v := (fX12_put x69_4 7 2 p1)) gx202 dX12_last_38 (fun m6 H locs hm6 ho6 hW hS => ?_)
    have ho6 := off1 ho6
    have w_x69_4 : m6 6904 = .long (fX12_put x69_4 7 2 p1) := hm6
    have w_x69_18 : m6 6918 = .int 0 := (ho6 6918 rfl).trans w_x69_18
    have hoff := offm hoff ho6 (by decide +kernel)
    have hsh := SH.off hsh ho6 (by decide +kernel)
    refine lv_iload_n hx hb dX12_last_41 rfl (lv_at hl 0 rfl) ?_
    subst hs0
    exact W.zret hx hb hr rfl (fun t ht hw => ⟨⟨_, (m6, a0), rfl, ⟨rfl, w_x69_4, w_x69_18, hoff, rfl⟩, g_end hW ht hw⟩, hS.F ht⟩) hS.2.2 dX12_last_42 hlocks
  · rw [if_pos c3] at hs0
    refine lv_iconst (v := (-1)) hx hb dX12_last_13 (by decide) ?_
    subst hs0
    exact W.zret hx hb hr rfl (fun t ht hw => ⟨⟨_, (m1, a0), rfl, ⟨rfl, w_x69_4, w_x69_18, hoff, rfl⟩, g_end hW ht hw⟩, hS.F ht⟩) hS.2.2 dX12_last_14 hlocks
-- HealLinkModel.seen (III)I
def fX12_seen (x69_1 : Int32) (x69_3 : Int32) (x69_4 : Int64) (x69_18 : Int32) (p1 : Int32) (p2 : Int32) (p3 : Int32) : Int32 × Int64 × Int32 := (if (fX12_isSort x69_1 p1 p2) = 0 then ((-1), x69_4, 0) else (if (fX12_within p3 0 (x69_3 - 1)) = 0 then ((-1), x69_4, 0) else ((fX12_get x69_4 (fX12_seenAt p1 p2) 2), (fX12_put x69_4 (fX12_seenAt p1 p2) 2 p3), 0)))
theorem dX12_seen_0 : decode cX12_seen 0 = .ok (.aload_n 0, 1) := by decide +kernel
theorem dX12_seen_1 : decode cX12_seen 1 = .ok (.iconst 0, 1) := by decide +kernel
theorem dX12_seen_2 : decode cX12_seen 2 = .ok (.putfield 137, 3) := by decide +kernel
theorem dX12_seen_5 : decode cX12_seen 5 = .ok (.aload_n 0, 1) := by decide +kernel
theorem dX12_seen_6 : decode cX12_seen 6 = .ok (.iload_n 1, 1) := by decide +kernel
theorem dX12_seen_7 : decode cX12_seen 7 = .ok (.iload_n 2, 1) := by decide +kernel
theorem dX12_seen_8 : decode cX12_seen 8 = .ok (.invokevirtual 170, 3) := by decide +kernel
theorem dX12_seen_11 : decode cX12_seen 11 = .ok (.ifCond .eq 17, 3) := by decide +kernel
theorem dX12_seen_14 : decode cX12_seen 14 = .ok (.iload_n 3, 1) := by decide +kernel
theorem dX12_seen_15 : decode cX12_seen 15 = .ok (.iconst 0, 1) := by decide +kernel
theorem dX12_seen_16 : decode cX12_seen 16 = .ok (.aload_n 0, 1) := by decide +kernel
theorem dX12_seen_17 : decode cX12_seen 17 = .ok (.getfield 19, 3) := by decide +kernel
theorem dX12_seen_20 : decode cX12_seen 20 = .ok (.iconst 1, 1) := by decide +kernel
theorem dX12_seen_21 : decode cX12_seen 21 = .ok (.isub, 1) := by decide +kernel
theorem dX12_seen_22 : decode cX12_seen 22 = .ok (.invokestatic 159, 3) := by decide +kernel
theorem dX12_seen_25 : decode cX12_seen 25 = .ok (.ifCond .ne 5, 3) := by decide +kernel
theorem dX12_seen_28 : decode cX12_seen 28 = .ok (.iconst (-1), 1) := by decide +kernel
theorem dX12_seen_29 : decode cX12_seen 29 = .ok (.ireturn, 1) := by decide +kernel
theorem dX12_seen_30 : decode cX12_seen 30 = .ok (.aload_n 0, 1) := by decide +kernel
theorem dX12_seen_31 : decode cX12_seen 31 = .ok (.getfield 133, 3) := by decide +kernel
theorem dX12_seen_34 : decode cX12_seen 34 = .ok (.iload_n 1, 1) := by decide +kernel
theorem dX12_seen_35 : decode cX12_seen 35 = .ok (.iload_n 2, 1) := by decide +kernel
theorem dX12_seen_36 : decode cX12_seen 36 = .ok (.invokestatic 174, 3) := by decide +kernel
theorem dX12_seen_39 : decode cX12_seen 39 = .ok (.iconst 2, 1) := by decide +kernel
theorem dX12_seen_40 : decode cX12_seen 40 = .ok (.invokestatic 142, 3) := by decide +kernel
theorem dX12_seen_43 : decode cX12_seen 43 = .ok (.istore 4, 2) := by decide +kernel
theorem dX12_seen_45 : decode cX12_seen 45 = .ok (.aload_n 0, 1) := by decide +kernel
theorem dX12_seen_46 : decode cX12_seen 46 = .ok (.aload_n 0, 1) := by decide +kernel
theorem dX12_seen_47 : decode cX12_seen 47 = .ok (.getfield 133, 3) := by decide +kernel
theorem dX12_seen_50 : decode cX12_seen 50 = .ok (.iload_n 1, 1) := by decide +kernel
theorem dX12_seen_51 : decode cX12_seen 51 = .ok (.iload_n 2, 1) := by decide +kernel
theorem dX12_seen_52 : decode cX12_seen 52 = .ok (.invokestatic 174, 3) := by decide +kernel
theorem dX12_seen_55 : decode cX12_seen 55 = .ok (.iconst 2, 1) := by decide +kernel
theorem dX12_seen_56 : decode cX12_seen 56 = .ok (.iload_n 3, 1) := by decide +kernel
theorem dX12_seen_57 : decode cX12_seen 57 = .ok (.invokestatic 129, 3) := by decide +kernel
theorem dX12_seen_60 : decode cX12_seen 60 = .ok (.putfield 133, 3) := by decide +kernel
theorem dX12_seen_63 : decode cX12_seen 63 = .ok (.iload 4, 2) := by decide +kernel
theorem dX12_seen_65 : decode cX12_seen 65 = .ok (.ireturn, 1) := by decide +kernel
set_option maxHeartbeats 4000000 in
set_option maxRecDepth 100000 in
theorem kX12_seen {l : Launch} {D : va_G} {cy : Nat → ClassId} {N : Nat} {q : Nat → Nat} {m0 : Nat → Value} {a0 : Nat → vp_A} {sz : Nat} (hN : 105 ≤ N) (hsh : SH q m0) {x69_1 : Int32} (h_x69_1 : m0 6901 = .int x69_1) {x69_3 : Int32} (h_x69_3 : m0 6903 = .int x69_3) {x69_4 : Int64} (h_x69_4 : m0 6904 = .long x69_4) {x69_18 : Int32} (h_x69_18 : m0 6918 = .int x69_18) (p1 : Int32) (p2 : Int32) (p3 : Int32) : gMi l yX12_seen cX12_seen 5 (some .int) ({ frames := 3, cells := 0, slots := 0, locals := 65 } : Room) D cy N q m0 a0 sz [.ref (q 69), .int p1, .int p2, .int p3] (fun r m' a' => r = (fX12_seen x69_1 x69_3 x69_4 x69_18 p1 p2 p3).1 ∧ m' 6904 = .long ((fX12_seen x69_1 x69_3 x69_4 x69_18 p1 p2 p3).2.1) ∧ m' 6918 = .int ((fX12_seen x69_1 x69_3 x69_4 x69_18 p1 p2 p3).2.2) ∧ (∀ j, nel j [6904, 6918] = false → m' j = m0 j) ∧ a' = a0) := by
  generalize hs0 : fX12_seen x69_1 x69_3 x69_4 x69_18 p1 p2 p3 = X0
  refine g_ofi (by decide) (Nat.le_of_ble_eq_true rfl) ?_
  intro p e s M args below meth c hx hb hr hG hown hin hlocks hml hW hS ls hl
  unfold fX12_seen at hs0
  have hoff : ∀ j, nel j [6904, 6918] = false → m0 j = m0 j := off0
  refine lv_aload_n hx hb dX12_seen_0 rfl (lv_at hl 0 rfl) ?_
  refine lv_iconst (v := 0) hx hb dX12_seen_1 (by decide) ?_
  refine gp12_18 hx hb hG hown hW hS (o := 69) (ltN hN 69 rfl) gk69 (v := 0) gx246 dX12_seen_2 (fun m1 H locs hm1 ho1 hW hS => ?_)
  have ho1 := off1 ho1
  have w_x69_4 : m1 6904 = .long x69_4 := (ho1 6904 rfl).trans h_x69_4
  have w_x69_18 : m1 6918 = .int 0 := hm1
  have hoff := offm hoff ho1 (by decide +kernel)
  have hsh := SH.off hsh ho1 (by decide +kernel)
  refine lv_aload_n hx hb dX12_seen_5 rfl (lv_at hl 0 rfl) ?_
  refine lv_iload_n hx hb dX12_seen_6 rfl (lv_at hl 1 rfl) ?_
  refine lv_iload_n hx hb dX12_seen_7 rfl (lv_at hl 2 rfl) ?_
  refine g_ViR (n := 2) hx hb hml hown hG hW hS [.int p1, .int p2] (kX12_isSort hN ((hoff 6901 rfl).trans h_x69_1) p1 p2) (ltN hN 69 rfl) gk69 (by decide) rfl rfl (gd_V gx280 gx281 gx282 gx5 gx283) rfl rfl (by decide) ⟨Nat.le_of_ble_eq_true rfl, Nat.le_of_ble_eq_true rfl⟩ rfl hl (Nat.le_of_ble_eq_true rfl) ⟨Nat.zero_le _, Nat.zero_le _⟩ dX12_seen_8 (fun H locs hW hS => ?_)
  refine lv_if_eq (tgt := 28) hx hb dX12_seen_11 (by decide) (fun c3 => ?_) (fun c3 => ?_)
  · rw [if_pos c3] at hs0
    refine lv_iconst (v := (-1)) hx hb dX12_seen_28 (by decide) ?_
    subst hs0
    exact W.zret hx hb hr rfl (fun t ht hw => ⟨⟨_, (m1, a0), rfl, ⟨rfl, w_x69_4, w_x69_18, hoff, rfl⟩, g_end hW ht hw⟩, hS.F ht⟩) hS.2.2 dX12_seen_29 hlocks
  · rw [if_neg c3] at hs0
    refine lv_iload_n hx hb dX12_seen_14 rfl (lv_at hl 3 rfl) ?_
    refine lv_iconst (v := 0) hx hb dX12_seen_15 (by decide) ?_
    refine lv_aload_n hx hb dX12_seen_16 rfl (lv_at hl 0 rfl) ?_
    refine gf12_3 hx hb hG hown hW (o := 69) (ltN hN 69 rfl) gk69 (v := .int x69_3) ((hoff 6903 rfl).trans h_x69_3) gx165 dX12_seen_17 ?_
    refine lv_iconst (v := 1) hx hb dX12_seen_20 (by decide) ?_
    refine lv_isub hx hb dX12_seen_21 ?_
    refine g_SiR (n := 3) hx hb hml hown hG hW hS [.int p3, .int 0, .int (x69_3 - 1)] (kX12_within hN p3 0 (x69_3 - 1)) rfl (gd_S gx247 gx248 gx5 gx249) rfl rfl (by decide) ⟨Nat.le_of_ble_eq_true rfl, Nat.le_of_ble_eq_true rfl⟩ rfl hl (Nat.le_of_ble_eq_true rfl) ⟨Nat.zero_le _, Nat.zero_le _⟩ dX12_seen_22 (fun H locs hW hS => ?_)
    refine lv_if_ne (tgt := 30) hx hb dX12_seen_25 (by decide) (fun c5 => ?_) (fun c5 => ?_)
    · rw [if_neg c5] at hs0
      refine lv_aload_n hx hb dX12_seen_30 rfl (lv_at hl 0 rfl) ?_
      refine gf12_4 hx hb hG hown hW (o := 69) (ltN hN 69 rfl) gk69 (v := .long x69_4) w_x69_4 gx202 dX12_seen_31 ?_
      refine lv_iload_n hx hb dX12_seen_34 rfl (lv_at hl 1 rfl) ?_
      refine lv_iload_n hx hb dX12_seen_35 rfl (lv_at hl 2 rfl) ?_
      refine g_SiR (n := 2) hx hb hml hown hG hW hS [.int p1, .int p2] (kX12_seenAt hN p1 p2) rfl (gd_S gx331 gx332 gx5 gx333) rfl rfl (by decide) ⟨Nat.le_of_ble_eq_true rfl, Nat.le_of_ble_eq_true rfl⟩ rfl hl (Nat.le_of_ble_eq_true rfl) ⟨Nat.zero_le _, Nat.zero_le _⟩ dX12_seen_36 (fun H locs hW hS => ?_)
      refine lv_iconst (v := 2) hx hb dX12_seen_39 (by decide) ?_
      refine g_SiR (n := 3) hx hb hml hown hG hW hS [.long x69_4, .int (fX12_seenAt p1 p2), .int 2] (kX12_get hN x69_4 (fX12_seenAt p1 p2) 2) rfl (gd_S gx304 gx305 gx5 gx306) rfl rfl (by decide) ⟨Nat.le_of_ble_eq_true rfl, Nat.le_of_ble_eq_true rfl⟩ rfl hl (Nat.le_of_ble_eq_true rfl) ⟨Nat.zero_le _, Nat.zero_le _⟩ dX12_seen_40 (fun H locs hW hS => ?_)
      refine lv_istore (lv' := [(4, .int (fX12_get x69_4 (fX12_seenAt p1 p2) 2)), (0, .ref (q 69)), (1, .int p1), (2, .int p2), (3, .int p3)]) hx hb dX12_seen_43 hl (by decide) rfl (fun ls hl => ?_)
      refine lv_aload_n hx hb dX12_seen_45 rfl (lv_at hl 1 rfl) ?_
      refine lv_aload_n hx hb dX12_seen_46 rfl (lv_at hl 1 rfl) ?_
      refine gf12_4 hx hb hG hown hW (o := 69) (ltN hN 69 rfl) gk69 (v := .long x69_4) w_x69_4 gx202 dX12_seen_47 ?_
      refine lv_iload_n hx hb dX12_seen_50 rfl (lv_at hl 2 rfl) ?_
      refine lv_iload_n hx hb dX12_seen_51 rfl (lv_at hl 3 rfl) ?_
      refine g_SiR (n := 2) hx hb hml hown hG hW hS [.int p1, .int p2] (kX12_seenAt hN p1 p2) rfl (gd_S gx331 gx332 gx5 gx333) rfl rfl (by decide) ⟨Nat.le_of_ble_eq_true rfl, Nat.le_of_ble_eq_true rfl⟩ rfl hl (Nat.le_of_ble_eq_true rfl) ⟨Nat.zero_le _, Nat.zero_le _⟩ dX12_seen_52 (fun H locs hW hS => ?_)
      refine lv_iconst (v := 2) hx hb dX12_seen_55 (by decide) ?_
      refine lv_iload_n hx hb dX12_seen_56 rfl (lv_at hl 4 rfl) ?_
      refine g_SlR (n := 4) hx hb hml hown hG hW hS [.long x69_4, .int (fX12_seenAt p1 p2), .int 2, .int p3] (kX12_put hN x69_4 (fX12_seenAt p1 p2) 2 p3) rfl (gd_S gx203 gx204 gx5 gx205) rfl rfl (by decide) ⟨Nat.le_of_ble_eq_true rfl, Nat.le_of_ble_eq_true rfl⟩ rfl hl (Nat.le_of_ble_eq_true rfl) ⟨Nat.zero_le _, Nat.zero_le _⟩ dX12_seen_57 (fun H locs hW hS => ?_)
      refine gp12_4 hx hb hG hown hW hS (o := 69) (ltN hN 69 rfl) gk69 (v := (fX12_put x69_4 (fX12_seenAt p1 p2) 2 p3)) gx202 dX12_seen_60 (fun m10 H locs hm10 ho10 hW hS => ?_)
      have ho10 := off1 ho10
      have w_x69_4 : m10 6904 = .long (fX12_put x69_4 (fX12_seenAt p1 p2) 2 p3) := hm10
      have w_x69_18 : m10 6918 = .int 0 := (ho10 6918 rfl).trans w_x69_18
      have hoff := offm hoff ho10 (by decide +kernel)
      have hsh := SH.off hsh ho10 (by decide +kernel)
      refine lv_iload hx hb dX12_seen_63 (lv_at hl 0 rfl) ?_
      subst hs0
      exact W.zret hx hb hr rfl (fun t ht hw => ⟨⟨_, (m10, a0), rfl, ⟨rfl, w_x69_4, w_x69_18, hoff, rfl⟩, g_end hW ht hw⟩, hS.F ht⟩) hS.2.2 dX12_seen_65 hlocks
    · rw [if_pos c5] at hs0
      refine lv_iconst (v := (-1)) hx hb dX12_seen_28 (by decide) ?_
      subst hs0
      exact W.zret hx hb hr rfl (fun t ht hw => ⟨⟨_, (m1, a0), rfl, ⟨rfl, w_x69_4, w_x69_18, hoff, rfl⟩, g_end hW ht hw⟩, hS.F ht⟩) hS.2.2 dX12_seen_29 hlocks
-- HealLinkModel.packets (III)I
def fX12_packets (F : Nat) (x69_0 : Int32) (x69_1 : Int32) (x69_4 : Int64) (x69_18 : Int32) (p1 : Int32) (p2 : Int32) (p3 : Int32) : Option (Int32 × Int64 × Int32) := (if (fX12_isSort x69_1 p1 p2) = 0 then some ((-1), x69_4, 0) else (if (fX12_within p3 0 x69_0) = 0 then some ((-1), x69_4, 0) else ((fX12_packetsOf F x69_4).bind (fun r8 => (if ((r8 - (fX12_get x69_4 (fX12_packetAt p1 p2) 2)) + p3) ≤ x69_0 then some ((fX12_get x69_4 (fX12_packetAt p1 p2) 2), (fX12_put x69_4 (fX12_packetAt p1 p2) 2 p3), 0) else some ((-1), x69_4, 0))))))
theorem dX12_packets_0 : decode cX12_packets 0 = .ok (.aload_n 0, 1) := by decide +kernel
theorem dX12_packets_1 : decode cX12_packets 1 = .ok (.iconst 0, 1) := by decide +kernel
theorem dX12_packets_2 : decode cX12_packets 2 = .ok (.putfield 137, 3) := by decide +kernel
theorem dX12_packets_5 : decode cX12_packets 5 = .ok (.aload_n 0, 1) := by decide +kernel
theorem dX12_packets_6 : decode cX12_packets 6 = .ok (.iload_n 1, 1) := by decide +kernel
theorem dX12_packets_7 : decode cX12_packets 7 = .ok (.iload_n 2, 1) := by decide +kernel
theorem dX12_packets_8 : decode cX12_packets 8 = .ok (.invokevirtual 170, 3) := by decide +kernel
theorem dX12_packets_11 : decode cX12_packets 11 = .ok (.ifCond .eq 15, 3) := by decide +kernel
theorem dX12_packets_14 : decode cX12_packets 14 = .ok (.iload_n 3, 1) := by decide +kernel
theorem dX12_packets_15 : decode cX12_packets 15 = .ok (.iconst 0, 1) := by decide +kernel
theorem dX12_packets_16 : decode cX12_packets 16 = .ok (.aload_n 0, 1) := by decide +kernel
theorem dX12_packets_17 : decode cX12_packets 17 = .ok (.getfield 7, 3) := by decide +kernel
theorem dX12_packets_20 : decode cX12_packets 20 = .ok (.invokestatic 159, 3) := by decide +kernel
theorem dX12_packets_23 : decode cX12_packets 23 = .ok (.ifCond .ne 5, 3) := by decide +kernel
theorem dX12_packets_26 : decode cX12_packets 26 = .ok (.iconst (-1), 1) := by decide +kernel
theorem dX12_packets_27 : decode cX12_packets 27 = .ok (.ireturn, 1) := by decide +kernel
theorem dX12_packets_28 : decode cX12_packets 28 = .ok (.aload_n 0, 1) := by decide +kernel
theorem dX12_packets_29 : decode cX12_packets 29 = .ok (.getfield 133, 3) := by decide +kernel
theorem dX12_packets_32 : decode cX12_packets 32 = .ok (.iload_n 1, 1) := by decide +kernel
theorem dX12_packets_33 : decode cX12_packets 33 = .ok (.iload_n 2, 1) := by decide +kernel
theorem dX12_packets_34 : decode cX12_packets 34 = .ok (.invokestatic 178, 3) := by decide +kernel
theorem dX12_packets_37 : decode cX12_packets 37 = .ok (.iconst 2, 1) := by decide +kernel
theorem dX12_packets_38 : decode cX12_packets 38 = .ok (.invokestatic 142, 3) := by decide +kernel
theorem dX12_packets_41 : decode cX12_packets 41 = .ok (.istore 4, 2) := by decide +kernel
theorem dX12_packets_43 : decode cX12_packets 43 = .ok (.aload_n 0, 1) := by decide +kernel
theorem dX12_packets_44 : decode cX12_packets 44 = .ok (.getfield 133, 3) := by decide +kernel
theorem dX12_packets_47 : decode cX12_packets 47 = .ok (.invokestatic 181, 3) := by decide +kernel
theorem dX12_packets_50 : decode cX12_packets 50 = .ok (.iload 4, 2) := by decide +kernel
theorem dX12_packets_52 : decode cX12_packets 52 = .ok (.isub, 1) := by decide +kernel
theorem dX12_packets_53 : decode cX12_packets 53 = .ok (.iload_n 3, 1) := by decide +kernel
theorem dX12_packets_54 : decode cX12_packets 54 = .ok (.iadd, 1) := by decide +kernel
theorem dX12_packets_55 : decode cX12_packets 55 = .ok (.aload_n 0, 1) := by decide +kernel
theorem dX12_packets_56 : decode cX12_packets 56 = .ok (.getfield 7, 3) := by decide +kernel
theorem dX12_packets_59 : decode cX12_packets 59 = .ok (.if_icmp .le 5, 3) := by decide +kernel
theorem dX12_packets_62 : decode cX12_packets 62 = .ok (.iconst (-1), 1) := by decide +kernel
theorem dX12_packets_63 : decode cX12_packets 63 = .ok (.ireturn, 1) := by decide +kernel
theorem dX12_packets_64 : decode cX12_packets 64 = .ok (.aload_n 0, 1) := by decide +kernel
theorem dX12_packets_65 : decode cX12_packets 65 = .ok (.aload_n 0, 1) := by decide +kernel
theorem dX12_packets_66 : decode cX12_packets 66 = .ok (.getfield 133, 3) := by decide +kernel
theorem dX12_packets_69 : decode cX12_packets 69 = .ok (.iload_n 1, 1) := by decide +kernel
theorem dX12_packets_70 : decode cX12_packets 70 = .ok (.iload_n 2, 1) := by decide +kernel
theorem dX12_packets_71 : decode cX12_packets 71 = .ok (.invokestatic 178, 3) := by decide +kernel
theorem dX12_packets_74 : decode cX12_packets 74 = .ok (.iconst 2, 1) := by decide +kernel
theorem dX12_packets_75 : decode cX12_packets 75 = .ok (.iload_n 3, 1) := by decide +kernel
theorem dX12_packets_76 : decode cX12_packets 76 = .ok (.invokestatic 129, 3) := by decide +kernel
theorem dX12_packets_79 : decode cX12_packets 79 = .ok (.putfield 133, 3) := by decide +kernel
theorem dX12_packets_82 : decode cX12_packets 82 = .ok (.iload 4, 2) := by decide +kernel
theorem dX12_packets_84 : decode cX12_packets 84 = .ok (.ireturn, 1) := by decide +kernel
set_option maxHeartbeats 4000000 in
set_option maxRecDepth 100000 in
theorem kX12_packets {l : Launch} {D : va_G} {cy : Nat → ClassId} {N : Nat} {q : Nat → Nat} {m0 : Nat → Value} {a0 : Nat → vp_A} {sz : Nat} (hN : 105 ≤ N) (hsh : SH q m0) {x69_0 : Int32} (h_x69_0 : m0 6900 = .int x69_0) {x69_1 : Int32} (h_x69_1 : m0 6901 = .int x69_1) {x69_4 : Int64} (h_x69_4 : m0 6904 = .long x69_4) {x69_18 : Int32} (h_x69_18 : m0 6918 = .int x69_18) (F : Nat) (p1 : Int32) (p2 : Int32) (p3 : Int32) {X0 : Int32 × Int64 × Int32} (hs0 : fX12_packets F x69_0 x69_1 x69_4 x69_18 p1 p2 p3 = some X0) : gMi l yX12_packets cX12_packets 5 (some .int) ({ frames := 3, cells := 0, slots := 0, locals := 65 } : Room) D cy N q m0 a0 sz [.ref (q 69), .int p1, .int p2, .int p3] (fun r m' a' => r = X0.1 ∧ m' 6904 = .long X0.2.1 ∧ m' 6918 = .int X0.2.2 ∧ (∀ j, nel j [6904, 6918] = false → m' j = m0 j) ∧ a' = a0) := by
  refine g_ofi (by decide) (Nat.le_of_ble_eq_true rfl) ?_
  intro p e s M args below meth c hx hb hr hG hown hin hlocks hml hW hS ls hl
  unfold fX12_packets at hs0
  have hoff : ∀ j, nel j [6904, 6918] = false → m0 j = m0 j := off0
  refine lv_aload_n hx hb dX12_packets_0 rfl (lv_at hl 0 rfl) ?_
  refine lv_iconst (v := 0) hx hb dX12_packets_1 (by decide) ?_
  refine gp12_18 hx hb hG hown hW hS (o := 69) (ltN hN 69 rfl) gk69 (v := 0) gx246 dX12_packets_2 (fun m1 H locs hm1 ho1 hW hS => ?_)
  have ho1 := off1 ho1
  have w_x69_4 : m1 6904 = .long x69_4 := (ho1 6904 rfl).trans h_x69_4
  have w_x69_18 : m1 6918 = .int 0 := hm1
  have hoff := offm hoff ho1 (by decide +kernel)
  have hsh := SH.off hsh ho1 (by decide +kernel)
  refine lv_aload_n hx hb dX12_packets_5 rfl (lv_at hl 0 rfl) ?_
  refine lv_iload_n hx hb dX12_packets_6 rfl (lv_at hl 1 rfl) ?_
  refine lv_iload_n hx hb dX12_packets_7 rfl (lv_at hl 2 rfl) ?_
  refine g_ViR (n := 2) hx hb hml hown hG hW hS [.int p1, .int p2] (kX12_isSort hN ((hoff 6901 rfl).trans h_x69_1) p1 p2) (ltN hN 69 rfl) gk69 (by decide) rfl rfl (gd_V gx280 gx281 gx282 gx5 gx283) rfl rfl (by decide) ⟨Nat.le_of_ble_eq_true rfl, Nat.le_of_ble_eq_true rfl⟩ rfl hl (Nat.le_of_ble_eq_true rfl) ⟨Nat.zero_le _, Nat.zero_le _⟩ dX12_packets_8 (fun H locs hW hS => ?_)
  refine lv_if_eq (tgt := 26) hx hb dX12_packets_11 (by decide) (fun c3 => ?_) (fun c3 => ?_)
  · rw [if_pos c3] at hs0
    refine lv_iconst (v := (-1)) hx hb dX12_packets_26 (by decide) ?_
    have hs0 := Option.some.inj hs0
    subst hs0
    exact W.zret hx hb hr rfl (fun t ht hw => ⟨⟨_, (m1, a0), rfl, ⟨rfl, w_x69_4, w_x69_18, hoff, rfl⟩, g_end hW ht hw⟩, hS.F ht⟩) hS.2.2 dX12_packets_27 hlocks
  · rw [if_neg c3] at hs0
    refine lv_iload_n hx hb dX12_packets_14 rfl (lv_at hl 3 rfl) ?_
    refine lv_iconst (v := 0) hx hb dX12_packets_15 (by decide) ?_
    refine lv_aload_n hx hb dX12_packets_16 rfl (lv_at hl 0 rfl) ?_
    refine gf12_0 hx hb hG hown hW (o := 69) (ltN hN 69 rfl) gk69 (v := .int x69_0) ((hoff 6900 rfl).trans h_x69_0) gx162 dX12_packets_17 ?_
    refine g_SiR (n := 3) hx hb hml hown hG hW hS [.int p3, .int 0, .int x69_0] (kX12_within hN p3 0 x69_0) rfl (gd_S gx247 gx248 gx5 gx249) rfl rfl (by decide) ⟨Nat.le_of_ble_eq_true rfl, Nat.le_of_ble_eq_true rfl⟩ rfl hl (Nat.le_of_ble_eq_true rfl) ⟨Nat.zero_le _, Nat.zero_le _⟩ dX12_packets_20 (fun H locs hW hS => ?_)
    refine lv_if_ne (tgt := 28) hx hb dX12_packets_23 (by decide) (fun c5 => ?_) (fun c5 => ?_)
    · rw [if_neg c5] at hs0
      refine lv_aload_n hx hb dX12_packets_28 rfl (lv_at hl 0 rfl) ?_
      refine gf12_4 hx hb hG hown hW (o := 69) (ltN hN 69 rfl) gk69 (v := .long x69_4) w_x69_4 gx202 dX12_packets_29 ?_
      refine lv_iload_n hx hb dX12_packets_32 rfl (lv_at hl 1 rfl) ?_
      refine lv_iload_n hx hb dX12_packets_33 rfl (lv_at hl 2 rfl) ?_
      refine g_SiR (n := 2) hx hb hml hown hG hW hS [.int p1, .int p2] (kX12_packetAt hN p1 p2) rfl (gd_S gx358 gx359 gx5 gx360) rfl rfl (by decide) ⟨Nat.le_of_ble_eq_true rfl, Nat.le_of_ble_eq_true rfl⟩ rfl hl (Nat.le_of_ble_eq_true rfl) ⟨Nat.zero_le _, Nat.zero_le _⟩ dX12_packets_34 (fun H locs hW hS => ?_)
      refine lv_iconst (v := 2) hx hb dX12_packets_37 (by decide) ?_
      refine g_SiR (n := 3) hx hb hml hown hG hW hS [.long x69_4, .int (fX12_packetAt p1 p2), .int 2] (kX12_get hN x69_4 (fX12_packetAt p1 p2) 2) rfl (gd_S gx304 gx305 gx5 gx306) rfl rfl (by decide) ⟨Nat.le_of_ble_eq_true rfl, Nat.le_of_ble_eq_true rfl⟩ rfl hl (Nat.le_of_ble_eq_true rfl) ⟨Nat.zero_le _, Nat.zero_le _⟩ dX12_packets_38 (fun H locs hW hS => ?_)
      refine lv_istore (lv' := [(4, .int (fX12_get x69_4 (fX12_packetAt p1 p2) 2)), (0, .ref (q 69)), (1, .int p1), (2, .int p2), (3, .int p3)]) hx hb dX12_packets_41 hl (by decide) rfl (fun ls hl => ?_)
      refine lv_aload_n hx hb dX12_packets_43 rfl (lv_at hl 1 rfl) ?_
      refine gf12_4 hx hb hG hown hW (o := 69) (ltN hN 69 rfl) gk69 (v := .long x69_4) w_x69_4 gx202 dX12_packets_44 ?_
      obtain ⟨r8, hf8, hs0⟩ := obind hs0
      refine g_SiR (n := 1) hx hb hml hown hG hW hS [.long x69_4] (kX12_packetsOf hN F x69_4 hf8) rfl (gd_S gx361 gx362 gx5 gx363) rfl rfl (by decide) ⟨Nat.le_of_ble_eq_true rfl, Nat.le_of_ble_eq_true rfl⟩ rfl hl (Nat.le_of_ble_eq_true rfl) ⟨Nat.zero_le _, Nat.zero_le _⟩ dX12_packets_47 (fun H locs hW hS => ?_)
      refine lv_iload hx hb dX12_packets_50 (lv_at hl 0 rfl) ?_
      refine lv_isub hx hb dX12_packets_52 ?_
      refine lv_iload_n hx hb dX12_packets_53 rfl (lv_at hl 4 rfl) ?_
      refine lv_iadd hx hb dX12_packets_54 ?_
      refine lv_aload_n hx hb dX12_packets_55 rfl (lv_at hl 1 rfl) ?_
      refine gf12_0 hx hb hG hown hW (o := 69) (ltN hN 69 rfl) gk69 (v := .int x69_0) ((hoff 6900 rfl).trans h_x69_0) gx162 dX12_packets_56 ?_
      refine lv_icmp_le (tgt := 64) hx hb dX12_packets_59 (by decide) (fun c9 => ?_) (fun c9 => ?_)
      · rw [if_pos c9] at hs0
        refine lv_aload_n hx hb dX12_packets_64 rfl (lv_at hl 1 rfl) ?_
        refine lv_aload_n hx hb dX12_packets_65 rfl (lv_at hl 1 rfl) ?_
        refine gf12_4 hx hb hG hown hW (o := 69) (ltN hN 69 rfl) gk69 (v := .long x69_4) w_x69_4 gx202 dX12_packets_66 ?_
        refine lv_iload_n hx hb dX12_packets_69 rfl (lv_at hl 2 rfl) ?_
        refine lv_iload_n hx hb dX12_packets_70 rfl (lv_at hl 3 rfl) ?_
        refine g_SiR (n := 2) hx hb hml hown hG hW hS [.int p1, .int p2] (kX12_packetAt hN p1 p2) rfl (gd_S gx358 gx359 gx5 gx360) rfl rfl (by decide) ⟨Nat.le_of_ble_eq_true rfl, Nat.le_of_ble_eq_true rfl⟩ rfl hl (Nat.le_of_ble_eq_true rfl) ⟨Nat.zero_le _, Nat.zero_le _⟩ dX12_packets_71 (fun H locs hW hS => ?_)
        refine lv_iconst (v := 2) hx hb dX12_packets_74 (by decide) ?_
        refine lv_iload_n hx hb dX12_packets_75 rfl (lv_at hl 4 rfl) ?_
        refine g_SlR (n := 4) hx hb hml hown hG hW hS [.long x69_4, .int (fX12_packetAt p1 p2), .int 2, .int p3] (kX12_put hN x69_4 (fX12_packetAt p1 p2) 2 p3) rfl (gd_S gx203 gx204 gx5 gx205) rfl rfl (by decide) ⟨Nat.le_of_ble_eq_true rfl, Nat.le_of_ble_eq_true rfl⟩ rfl hl (Nat.le_of_ble_eq_true rfl) ⟨Nat.zero_le _, Nat.zero_le _⟩ dX12_packets_76 (fun H locs hW hS => ?_)
        refine gp12_4 hx hb hG hown hW hS (o := 69) (ltN hN 69 rfl) gk69 (v := (fX12_put x69_4 (fX12_packetAt p1 p2) 2 p3)) gx202 dX12_packets_79 (fun m12 H locs hm12 ho12 hW hS => ?_)
        have ho12 := off1 ho12
        have w_x69_4 : m12 6904 = .long (fX12_put x69_4 (fX12_packetAt p1 p2) 2 p3) := hm12
        have w_x69_18 : m12 6918 = .int 0 := (ho12 6918 rfl).trans w_x69_18
        have hoff := offm hoff ho12 (by decide +kernel)
        have hsh := SH.off hsh ho12 (by decide +kernel)
        refine lv_iload hx hb dX12_packets_82 (lv_at hl 0 rfl) ?_
        have hs0 := Option.some.inj hs0
        subst hs0
        exact W.zret hx hb hr rfl (fun t ht hw => ⟨⟨_, (m12, a0), rfl, ⟨rfl, w_x69_4, w_x69_18, hoff, rfl⟩, g_end hW ht hw⟩, hS.F ht⟩) hS.2.2 dX12_packets_84 hlocks
      · rw [if_neg c9] at hs0
        refine lv_iconst (v := (-1)) hx hb dX12_packets_62 (by decide) ?_
        have hs0 := Option.some.inj hs0
        subst hs0
        exact W.zret hx hb hr rfl (fun t ht hw => ⟨⟨_, (m1, a0), rfl, ⟨rfl, w_x69_4, w_x69_18, hoff, rfl⟩, g_end hW ht hw⟩, hS.F ht⟩) hS.2.2 dX12_packets_63 hlocks
    · rw [if_pos c5] at hs0
      refine lv_iconst (v := (-1)) hx hb dX12_packets_26 (by decide) ?_
      have hs0 := Option.some.inj hs0
      subst hs0
      exact W.zret hx hb hr rfl (fun t ht hw => ⟨⟨_, (m1, a0), rfl, ⟨rfl, w_x69_4, w_x69_18, hoff, rfl⟩, g_end hW ht hw⟩, hS.F ht⟩) hS.2.2 dX12_packets_27 hlocks
-- HealLinkModel.letters (II)I
def fX12_letters (F : Nat) (x69_0 : Int32) (x69_1 : Int32) (x69_4 : Int64) (x69_18 : Int32) (p1 : Int32) (p2 : Int32) : Option (Int32 × Int64 × Int32) := (if (fX12_isLabel x69_1 p1) = 0 then some ((-1), x69_4, 0) else (if (fX12_within p2 0 x69_0) = 0 then some ((-1), x69_4, 0) else ((fX12_lettersOf F x69_4).bind (fun r8 => (if ((r8 - (fX12_get x69_4 (fX12_letterAt p1) 2)) + p2) ≤ x69_0 then some ((fX12_get x69_4 (fX12_letterAt p1) 2), (fX12_put x69_4 (fX12_letterAt p1) 2 p2), 0) else some ((-1), x69_4, 0))))))
theorem dX12_letters_0 : decode cX12_letters 0 = .ok (.aload_n 0, 1) := by decide +kernel
theorem dX12_letters_1 : decode cX12_letters 1 = .ok (.iconst 0, 1) := by decide +kernel
theorem dX12_letters_2 : decode cX12_letters 2 = .ok (.putfield 137, 3) := by decide +kernel
theorem dX12_letters_5 : decode cX12_letters 5 = .ok (.aload_n 0, 1) := by decide +kernel
theorem dX12_letters_6 : decode cX12_letters 6 = .ok (.iload_n 1, 1) := by decide +kernel
theorem dX12_letters_7 : decode cX12_letters 7 = .ok (.invokevirtual 166, 3) := by decide +kernel
theorem dX12_letters_10 : decode cX12_letters 10 = .ok (.ifCond .eq 15, 3) := by decide +kernel
theorem dX12_letters_13 : decode cX12_letters 13 = .ok (.iload_n 2, 1) := by decide +kernel
theorem dX12_letters_14 : decode cX12_letters 14 = .ok (.iconst 0, 1) := by decide +kernel
theorem dX12_letters_15 : decode cX12_letters 15 = .ok (.aload_n 0, 1) := by decide +kernel
theorem dX12_letters_16 : decode cX12_letters 16 = .ok (.getfield 7, 3) := by decide +kernel
theorem dX12_letters_19 : decode cX12_letters 19 = .ok (.invokestatic 159, 3) := by decide +kernel
theorem dX12_letters_22 : decode cX12_letters 22 = .ok (.ifCond .ne 5, 3) := by decide +kernel
theorem dX12_letters_25 : decode cX12_letters 25 = .ok (.iconst (-1), 1) := by decide +kernel
theorem dX12_letters_26 : decode cX12_letters 26 = .ok (.ireturn, 1) := by decide +kernel
theorem dX12_letters_27 : decode cX12_letters 27 = .ok (.aload_n 0, 1) := by decide +kernel
theorem dX12_letters_28 : decode cX12_letters 28 = .ok (.getfield 133, 3) := by decide +kernel
theorem dX12_letters_31 : decode cX12_letters 31 = .ok (.iload_n 1, 1) := by decide +kernel
theorem dX12_letters_32 : decode cX12_letters 32 = .ok (.invokestatic 185, 3) := by decide +kernel
theorem dX12_letters_35 : decode cX12_letters 35 = .ok (.iconst 2, 1) := by decide +kernel
theorem dX12_letters_36 : decode cX12_letters 36 = .ok (.invokestatic 142, 3) := by decide +kernel
theorem dX12_letters_39 : decode cX12_letters 39 = .ok (.istore_n 3, 1) := by decide +kernel
theorem dX12_letters_40 : decode cX12_letters 40 = .ok (.aload_n 0, 1) := by decide +kernel
theorem dX12_letters_41 : decode cX12_letters 41 = .ok (.getfield 133, 3) := by decide +kernel
theorem dX12_letters_44 : decode cX12_letters 44 = .ok (.invokestatic 189, 3) := by decide +kernel
theorem dX12_letters_47 : decode cX12_letters 47 = .ok (.iload_n 3, 1) := by decide +kernel
theorem dX12_letters_48 : decode cX12_letters 48 = .ok (.isub, 1) := by decide +kernel
theorem dX12_letters_49 : decode cX12_letters 49 = .ok (.iload_n 2, 1) := by decide +kernel
theorem dX12_letters_50 : decode cX12_letters 50 = .ok (.iadd, 1) := by decide +kernel
theorem dX12_letters_51 : decode cX12_letters 51 = .ok (.aload_n 0, 1) := by decide +kernel
theorem dX12_letters_52 : decode cX12_letters 52 = .ok (.getfield 7, 3) := by decide +kernel
theorem dX12_letters_55 : decode cX12_letters 55 = .ok (.if_icmp .le 5, 3) := by decide +kernel
theorem dX12_letters_58 : decode cX12_letters 58 = .ok (.iconst (-1), 1) := by decide +kernel
theorem dX12_letters_59 : decode cX12_letters 59 = .ok (.ireturn, 1) := by decide +kernel
theorem dX12_letters_60 : decode cX12_letters 60 = .ok (.aload_n 0, 1) := by decide +kernel
theorem dX12_letters_61 : decode cX12_letters 61 = .ok (.aload_n 0, 1) := by decide +kernel
theorem dX12_letters_62 : decode cX12_letters 62 = .ok (.getfield 133, 3) := by decide +kernel
theorem dX12_letters_65 : decode cX12_letters 65 = .ok (.iload_n 1, 1) := by decide +kernel
theorem dX12_letters_66 : decode cX12_letters 66 = .ok (.invokestatic 185, 3) := by decide +kernel
theorem dX12_letters_69 : decode cX12_letters 69 = .ok (.iconst 2, 1) := by decide +kernel
theorem dX12_letters_70 : decode cX12_letters 70 = .ok (.iload_n 2, 1) := by decide +kernel
theorem dX12_letters_71 : decode cX12_letters 71 = .ok (.invokestatic 129, 3) := by decide +kernel
theorem dX12_letters_74 : decode cX12_letters 74 = .ok (.putfield 133, 3) := by decide +kernel
theorem dX12_letters_77 : decode cX12_letters 77 = .ok (.iload_n 3, 1) := by decide +kernel
theorem dX12_letters_78 : decode cX12_letters 78 = .ok (.ireturn, 1) := by decide +kernel
set_option maxHeartbeats 4000000 in
set_option maxRecDepth 100000 in
theorem kX12_letters {l : Launch} {D : va_G} {cy : Nat → ClassId} {N : Nat} {q : Nat → Nat} {m0 : Nat → Value} {a0 : Nat → vp_A} {sz : Nat} (hN : 105 ≤ N) (hsh : SH q m0) {x69_0 : Int32} (h_x69_0 : m0 6900 = .int x69_0) {x69_1 : Int32} (h_x69_1 : m0 6901 = .int x69_1) {x69_4 : Int64} (h_x69_4 : m0 6904 = .long x69_4) {x69_18 : Int32} (h_x69_18 : m0 6918 = .int x69_18) (F : Nat) (p1 : Int32) (p2 : Int32) {X0 : Int32 × Int64 × Int32} (hs0 : fX12_letters F x69_0 x69_1 x69_4 x69_18 p1 p2 = some X0) : gMi l yX12_letters cX12_letters 4 (some .int) ({ frames := 2, cells := 0, slots := 0, locals := 46 } : Room) D cy N q m0 a0 sz [.ref (q 69), .int p1, .int p2] (fun r m' a' => r = X0.1 ∧ m' 6904 = .long X0.2.1 ∧ m' 6918 = .int X0.2.2 ∧ (∀ j, nel j [6904, 6918] = false → m' j = m0 j) ∧ a' = a0) := by
  refine g_ofi (by decide) (Nat.le_of_ble_eq_true rfl) ?_
  intro p e s M args below meth c hx hb hr hG hown hin hlocks hml hW hS ls hl
  unfold fX12_letters at hs0
  have hoff : ∀ j, nel j [6904, 6918] = false → m0 j = m0 j := off0
  refine lv_aload_n hx hb dX12_letters_0 rfl (lv_at hl 0 rfl) ?_
  refine lv_iconst (v := 0) hx hb dX12_letters_1 (by decide) ?_
  refine gp12_18 hx hb hG hown hW hS (o := 69) (ltN hN 69 rfl) gk69 (v := 0) gx246 dX12_letters_2 (fun m1 H locs hm1 ho1 hW hS => ?_)
  have ho1 := off1 ho1
  have w_x69_4 : m1 6904 = .long x69_4 := (ho1 6904 rfl).trans h_x69_4
  have w_x69_18 : m1 6918 = .int 0 := hm1
  have hoff := offm hoff ho1 (by decide +kernel)
  have hsh := SH.off hsh ho1 (by decide +kernel)
  refine lv_aload_n hx hb dX12_letters_5 rfl (lv_at hl 0 rfl) ?_
  refine lv_iload_n hx hb dX12_letters_6 rfl (lv_at hl 1 rfl) ?_
  refine g_ViR (n := 1) hx hb hml hown hG hW hS [.int p1] (kX12_isLabel hN ((hoff 6901 rfl).trans h_x69_1) p1) (ltN hN 69 rfl) gk69 (by decide) rfl rfl (gd_V gx284 gx285 gx286 gx5 gx287) rfl rfl (by decide) ⟨Nat.le_of_ble_eq_true rfl, Nat.le_of_ble_eq_true rfl⟩ rfl hl (Nat.le_of_ble_eq_true rfl) ⟨Nat.zero_le _, Nat.zero_le _⟩ dX12_letters_7 (fun H locs hW hS => ?_)
  refine lv_if_eq (tgt := 25) hx hb dX12_letters_10 (by decide) (fun c3 => ?_) (fun c3 => ?_)
  · rw [if_pos c3] at hs0
    refine lv_iconst (v := (-1)) hx hb dX12_letters_25 (by decide) ?_
    have hs0 := Option.some.inj hs0
    subst hs0
    exact W.zret hx hb hr rfl (fun t ht hw => ⟨⟨_, (m1, a0), rfl, ⟨rfl, w_x69_4, w_x69_18, hoff, rfl⟩, g_end hW ht hw⟩, hS.F ht⟩) hS.2.2 dX12_letters_26 hlocks
  · rw [if_neg c3] at hs0
    refine lv_iload_n hx hb dX12_letters_13 rfl (lv_at hl 2 rfl) ?_
    refine lv_iconst (v := 0) hx hb dX12_letters_14 (by decide) ?_
    refine lv_aload_n hx hb dX12_letters_15 rfl (lv_at hl 0 rfl) ?_
    refine gf12_0 hx hb hG hown hW (o := 69) (ltN hN 69 rfl) gk69 (v := .int x69_0) ((hoff 6900 rfl).trans h_x69_0) gx162 dX12_letters_16 ?_
    refine g_SiR (n := 3) hx hb hml hown hG hW hS [.int p2, .int 0, .int x69_0] (kX12_within hN p2 0 x69_0) rfl (gd_S gx247 gx248 gx5 gx249) rfl rfl (by decide) ⟨Nat.le_of_ble_eq_true rfl, Nat.le_of_ble_eq_true rfl⟩ rfl hl (Nat.le_of_ble_eq_true rfl) ⟨Nat.zero_le _, Nat.zero_le _⟩ dX12_letters_19 (fun H locs hW hS => ?_)
    refine lv_if_ne (tgt := 27) hx hb dX12_letters_22 (by decide) (fun c5 => ?_) (fun c5 => ?_)
    · rw [if_neg c5] at hs0
      refine lv_aload_n hx hb dX12_letters_27 rfl (lv_at hl 0 rfl) ?_
      refine gf12_4 hx hb hG hown hW (o := 69) (ltN hN 69 rfl) gk69 (v := .long x69_4) w_x69_4 gx202 dX12_letters_28 ?_
      refine lv_iload_n hx hb dX12_letters_31 rfl (lv_at hl 1 rfl) ?_
      refine g_SiR (n := 1) hx hb hml hown hG hW hS [.int p1] (kX12_letterAt hN p1) rfl (gd_S gx380 gx381 gx5 gx382) rfl rfl (by decide) ⟨Nat.le_of_ble_eq_true rfl, Nat.le_of_ble_eq_true rfl⟩ rfl hl (Nat.le_of_ble_eq_true rfl) ⟨Nat.zero_le _, Nat.zero_le _⟩ dX12_letters_32 (fun H locs hW hS => ?_)
      refine lv_iconst (v := 2) hx hb dX12_letters_35 (by decide) ?_
      refine g_SiR (n := 3) hx hb hml hown hG hW hS [.long x69_4, .int (fX12_letterAt p1), .int 2] (kX12_get hN x69_4 (fX12_letterAt p1) 2) rfl (gd_S gx304 gx305 gx5 gx306) rfl rfl (by decide) ⟨Nat.le_of_ble_eq_true rfl, Nat.le_of_ble_eq_true rfl⟩ rfl hl (Nat.le_of_ble_eq_true rfl) ⟨Nat.zero_le _, Nat.zero_le _⟩ dX12_letters_36 (fun H locs hW hS => ?_)
      refine lv_istore_n (lv' := [(3, .int (fX12_get x69_4 (fX12_letterAt p1) 2)), (0, .ref (q 69)), (1, .int p1), (2, .int p2)]) hx hb dX12_letters_39 rfl hl (by decide) rfl (fun ls hl => ?_)
      refine lv_aload_n hx hb dX12_letters_40 rfl (lv_at hl 1 rfl) ?_
      refine gf12_4 hx hb hG hown hW (o := 69) (ltN hN 69 rfl) gk69 (v := .long x69_4) w_x69_4 gx202 dX12_letters_41 ?_
      obtain ⟨r8, hf8, hs0⟩ := obind hs0
      refine g_SiR (n := 1) hx hb hml hown hG hW hS [.long x69_4] (kX12_lettersOf hN F x69_4 hf8) rfl (gd_S gx383 gx384 gx5 gx385) rfl rfl (by decide) ⟨Nat.le_of_ble_eq_true rfl, Nat.le_of_ble_eq_true rfl⟩ rfl hl (Nat.le_of_ble_eq_true rfl) ⟨Nat.zero_le _, Nat.zero_le _⟩ dX12_letters_44 (fun H locs hW hS => ?_)
      refine lv_iload_n hx hb dX12_letters_47 rfl (lv_at hl 0 rfl) ?_
      refine lv_isub hx hb dX12_letters_48 ?_
      refine lv_iload_n hx hb dX12_letters_49 rfl (lv_at hl 3 rfl) ?_
      refine lv_iadd hx hb dX12_letters_50 ?_
      refine lv_aload_n hx hb dX12_letters_51 rfl (lv_at hl 1 rfl) ?_
      refine gf12_0 hx hb hG hown hW (o := 69) (ltN hN 69 rfl) gk69 (v := .int x69_0) ((hoff 6900 rfl).trans h_x69_0) gx162 dX12_letters_52 ?_
      refine lv_icmp_le (tgt := 60) hx hb dX12_letters_55 (by decide) (fun c9 => ?_) (fun c9 => ?_)
      · rw [if_pos c9] at hs0
        refine lv_aload_n hx hb dX12_letters_60 rfl (lv_at hl 1 rfl) ?_
        refine lv_aload_n hx hb dX12_letters_61 rfl (lv_at hl 1 rfl) ?_
        refine gf12_4 hx hb hG hown hW (o := 69) (ltN hN 69 rfl) gk69 (v := .long x69_4) w_x69_4 gx202 dX12_letters_62 ?_
        refine lv_iload_n hx hb dX12_letters_65 rfl (lv_at hl 2 rfl) ?_
        refine g_SiR (n := 1) hx hb hml hown hG hW hS [.int p1] (kX12_letterAt hN p1) rfl (gd_S gx380 gx381 gx5 gx382) rfl rfl (by decide) ⟨Nat.le_of_ble_eq_true rfl, Nat.le_of_ble_eq_true rfl⟩ rfl hl (Nat.le_of_ble_eq_true rfl) ⟨Nat.zero_le _, Nat.zero_le _⟩ dX12_letters_66 (fun H locs hW hS => ?_)
        refine lv_iconst (v := 2) hx hb dX12_letters_69 (by decide) ?_
        refine lv_iload_n hx hb dX12_letters_70 rfl (lv_at hl 3 rfl) ?_
        refine g_SlR (n := 4) hx hb hml hown hG hW hS [.long x69_4, .int (fX12_letterAt p1), .int 2, .int p2] (kX12_put hN x69_4 (fX12_letterAt p1) 2 p2) rfl (gd_S gx203 gx204 gx5 gx205) rfl rfl (by decide) ⟨Nat.le_of_ble_eq_true rfl, Nat.le_of_ble_eq_true rfl⟩ rfl hl (Nat.le_of_ble_eq_true rfl) ⟨Nat.zero_le _, Nat.zero_le _⟩ dX12_letters_71 (fun H locs hW hS => ?_)
        refine gp12_4 hx hb hG hown hW hS (o := 69) (ltN hN 69 rfl) gk69 (v := (fX12_put x69_4 (fX12_letterAt p1) 2 p2)) gx202 dX12_letters_74 (fun m12 H locs hm12 ho12 hW hS => ?_)
        have ho12 := off1 ho12
        have w_x69_4 : m12 6904 = .long (fX12_put x69_4 (fX12_letterAt p1) 2 p2) := hm12
        have w_x69_18 : m12 6918 = .int 0 := (ho12 6918 rfl).trans w_x69_18
        have hoff := offm hoff ho12 (by decide +kernel)
        have hsh := SH.off hsh ho12 (by decide +kernel)
        refine lv_iload_n hx hb dX12_letters_77 rfl (lv_at hl 0 rfl) ?_
        have hs0 := Option.some.inj hs0
        subst hs0
        exact W.zret hx hb hr rfl (fun t ht hw => ⟨⟨_, (m12, a0), rfl, ⟨rfl, w_x69_4, w_x69_18, hoff, rfl⟩, g_end hW ht hw⟩, hS.F ht⟩) hS.2.2 dX12_letters_78 hlocks
      · rw [if_neg c9] at hs0
        refine lv_iconst (v := (-1)) hx hb dX12_letters_58 (by decide) ?_
        have hs0 := Option.some.inj hs0
        subst hs0
        exact W.zret hx hb hr rfl (fun t ht hw => ⟨⟨_, (m1, a0), rfl, ⟨rfl, w_x69_4, w_x69_18, hoff, rfl⟩, g_end hW ht hw⟩, hS.F ht⟩) hS.2.2 dX12_letters_59 hlocks
    · rw [if_pos c5] at hs0
      refine lv_iconst (v := (-1)) hx hb dX12_letters_25 (by decide) ?_
      have hs0 := Option.some.inj hs0
      subst hs0
      exact W.zret hx hb hr rfl (fun t ht hw => ⟨⟨_, (m1, a0), rfl, ⟨rfl, w_x69_4, w_x69_18, hoff, rfl⟩, g_end hW ht hw⟩, hS.F ht⟩) hS.2.2 dX12_letters_26 hlocks
-- HealLinkModel.queue (II)I
def fX12_queue_S30 (F : Nat) (v1 : Int32) (v2 : Int32) (x69_6 : Int32) (x69_18 : Int32) (v3 : Int32) (A70 : Nat → Int32) : Option (((Nat → Int32)) ⊕ (Int32 × (Nat → Int32))) := (if v2 ≤ v3 then some (Sum.inl A70) else (if inb (x69_6 + v3) 30 = true then some (Sum.inr (v3 + 1, upd A70 (x69_6 + v3).toNatClampNeg ((v1 >>> (v3 &&& 31)) &&& (1 : Int32)))) else none))
def fX12_queue (F : Nat) (x69_6 : Int32) (x69_18 : Int32) (A70 : Nat → Int32) (p1 : Int32) (p2 : Int32) : Option (Int32 × Int32 × Int32 × (Nat → Int32)) := (if (fX12_within p2 1 20) = 0 then some ((-1), x69_6, 0, A70) else (if (x69_6 + p2) ≤ 30 then (gloop (fun u5 : (Int32 × (Nat → Int32)) => fX12_queue_S30 F p1 p2 x69_6 0 u5.1 u5.2) F (0, A70)).bind (fun t5_57 => some (x69_6 + p2, x69_6 + p2, 0, t5_57)) else some ((-1), x69_6, 0, A70)))
theorem dX12_queue_0 : decode cX12_queue 0 = .ok (.aload_n 0, 1) := by decide +kernel
theorem dX12_queue_1 : decode cX12_queue 1 = .ok (.iconst 0, 1) := by decide +kernel
theorem dX12_queue_2 : decode cX12_queue 2 = .ok (.putfield 137, 3) := by decide +kernel
theorem dX12_queue_5 : decode cX12_queue 5 = .ok (.iload_n 2, 1) := by decide +kernel
theorem dX12_queue_6 : decode cX12_queue 6 = .ok (.iconst 1, 1) := by decide +kernel
theorem dX12_queue_7 : decode cX12_queue 7 = .ok (.bipush 20, 2) := by decide +kernel
theorem dX12_queue_9 : decode cX12_queue 9 = .ok (.invokestatic 159, 3) := by decide +kernel
theorem dX12_queue_12 : decode cX12_queue 12 = .ok (.ifCond .eq 14, 3) := by decide +kernel
theorem dX12_queue_15 : decode cX12_queue 15 = .ok (.aload_n 0, 1) := by decide +kernel
theorem dX12_queue_16 : decode cX12_queue 16 = .ok (.getfield 146, 3) := by decide +kernel
theorem dX12_queue_19 : decode cX12_queue 19 = .ok (.iload_n 2, 1) := by decide +kernel
theorem dX12_queue_20 : decode cX12_queue 20 = .ok (.iadd, 1) := by decide +kernel
theorem dX12_queue_21 : decode cX12_queue 21 = .ok (.bipush 30, 2) := by decide +kernel
theorem dX12_queue_23 : decode cX12_queue 23 = .ok (.if_icmp .le 5, 3) := by decide +kernel
theorem dX12_queue_26 : decode cX12_queue 26 = .ok (.iconst (-1), 1) := by decide +kernel
theorem dX12_queue_27 : decode cX12_queue 27 = .ok (.ireturn, 1) := by decide +kernel
theorem dX12_queue_28 : decode cX12_queue 28 = .ok (.iconst 0, 1) := by decide +kernel
theorem dX12_queue_29 : decode cX12_queue 29 = .ok (.istore_n 3, 1) := by decide +kernel
theorem dX12_queue_30 : decode cX12_queue 30 = .ok (.iload_n 3, 1) := by decide +kernel
theorem dX12_queue_31 : decode cX12_queue 31 = .ok (.iload_n 2, 1) := by decide +kernel
theorem dX12_queue_32 : decode cX12_queue 32 = .ok (.if_icmp .ge 25, 3) := by decide +kernel
theorem dX12_queue_35 : decode cX12_queue 35 = .ok (.aload_n 0, 1) := by decide +kernel
theorem dX12_queue_36 : decode cX12_queue 36 = .ok (.getfield 22, 3) := by decide +kernel
theorem dX12_queue_39 : decode cX12_queue 39 = .ok (.aload_n 0, 1) := by decide +kernel
theorem dX12_queue_40 : decode cX12_queue 40 = .ok (.getfield 146, 3) := by decide +kernel
theorem dX12_queue_43 : decode cX12_queue 43 = .ok (.iload_n 3, 1) := by decide +kernel
theorem dX12_queue_44 : decode cX12_queue 44 = .ok (.iadd, 1) := by decide +kernel
theorem dX12_queue_45 : decode cX12_queue 45 = .ok (.iload_n 1, 1) := by decide +kernel
theorem dX12_queue_46 : decode cX12_queue 46 = .ok (.iload_n 3, 1) := by decide +kernel
theorem dX12_queue_47 : decode cX12_queue 47 = .ok (.ishr, 1) := by decide +kernel
theorem dX12_queue_48 : decode cX12_queue 48 = .ok (.iconst 1, 1) := by decide +kernel
theorem dX12_queue_49 : decode cX12_queue 49 = .ok (.iand, 1) := by decide +kernel
theorem dX12_queue_50 : decode cX12_queue 50 = .ok (.iastore, 1) := by decide +kernel
theorem dX12_queue_51 : decode cX12_queue 51 = .ok (.iinc 3 1, 3) := by decide +kernel
theorem dX12_queue_54 : decode cX12_queue 54 = .ok (.goto (-24), 3) := by decide +kernel
theorem dX12_queue_57 : decode cX12_queue 57 = .ok (.aload_n 0, 1) := by decide +kernel
theorem dX12_queue_58 : decode cX12_queue 58 = .ok (.dup, 1) := by decide +kernel
theorem dX12_queue_59 : decode cX12_queue 59 = .ok (.getfield 146, 3) := by decide +kernel
theorem dX12_queue_62 : decode cX12_queue 62 = .ok (.iload_n 2, 1) := by decide +kernel
theorem dX12_queue_63 : decode cX12_queue 63 = .ok (.iadd, 1) := by decide +kernel
theorem dX12_queue_64 : decode cX12_queue 64 = .ok (.putfield 146, 3) := by decide +kernel
theorem dX12_queue_67 : decode cX12_queue 67 = .ok (.aload_n 0, 1) := by decide +kernel
theorem dX12_queue_68 : decode cX12_queue 68 = .ok (.getfield 146, 3) := by decide +kernel
theorem dX12_queue_71 : decode cX12_queue 71 = .ok (.ireturn, 1) := by decide +kernel
set_option maxHeartbeats 4000000 in
set_option maxRecDepth 100000 in
theorem kX12_queue {l : Launch} {D : va_G} {cy : Nat → ClassId} {N : Nat} {q : Nat → Nat} {m0 : Nat → Value} {a0 : Nat → vp_A} {sz : Nat} (hN : 105 ≤ N) (hsh : SH q m0) {x69_6 : Int32} (h_x69_6 : m0 6906 = .int x69_6) {x69_18 : Int32} (h_x69_18 : m0 6918 = .int x69_18) {A70 : Nat → Int32} (h_A70 : a0 70 = (30, .inl A70)) (F : Nat) (p1 : Int32) (p2 : Int32) {X0 : Int32 × Int32 × Int32 × (Nat → Int32)} (hs0 : fX12_queue F x69_6 x69_18 A70 p1 p2 = some X0) : gMi l yX12_queue cX12_queue 4 (some .int) ({ frames := 1, cells := 0, slots := 0, locals := 22 } : Room) D cy N q m0 a0 sz [.ref (q 69), .int p1, .int p2] (fun r m' a' => r = X0.1 ∧ m' 6906 = .int X0.2.1 ∧ m' 6918 = .int X0.2.2.1 ∧ (∀ j, nel j [6906, 6918] = false → m' j = m0 j) ∧ a' 70 = (30, .inl X0.2.2.2) ∧ (∀ j, nel j [70] = false → a' j = a0 j)) := by
  refine g_ofi (by decide) (Nat.le_of_ble_eq_true rfl) ?_
  intro p e s M args below meth c hx hb hr hG hown hin hlocks hml hW hS ls hl
  unfold fX12_queue at hs0
  have hoff : ∀ j, nel j [6906, 6918] = false → m0 j = m0 j := off0
  have hoffa : ∀ j, nel j [70] = false → a0 j = a0 j := off0
  refine lv_aload_n hx hb dX12_queue_0 rfl (lv_at hl 0 rfl) ?_
  refine lv_iconst (v := 0) hx hb dX12_queue_1 (by decide) ?_
  refine gp12_18 hx hb hG hown hW hS (o := 69) (ltN hN 69 rfl) gk69 (v := 0) gx246 dX12_queue_2 (fun m1 H locs hm1 ho1 hW hS => ?_)
  have ho1 := off1 ho1
  have w_x69_6 : m1 6906 = .int x69_6 := (ho1 6906 rfl).trans h_x69_6
  have w_x69_18 : m1 6918 = .int 0 := hm1
  have hoff := offm hoff ho1 (by decide +kernel)
  have hsh := SH.off hsh ho1 (by decide +kernel)
  refine lv_iload_n hx hb dX12_queue_5 rfl (lv_at hl 2 rfl) ?_
  refine lv_iconst (v := 1) hx hb dX12_queue_6 (by decide) ?_
  refine lv_bipush (v := 20) hx hb dX12_queue_7 (by decide) ?_
  refine g_SiR (n := 3) hx hb hml hown hG hW hS [.int p2, .int 1, .int 20] (kX12_within hN p2 1 20) rfl (gd_S gx247 gx248 gx5 gx249) rfl rfl (by decide) ⟨Nat.le_of_ble_eq_true rfl, Nat.le_of_ble_eq_true rfl⟩ rfl hl (Nat.le_of_ble_eq_true rfl) ⟨Nat.zero_le _, Nat.zero_le _⟩ dX12_queue_9 (fun H locs hW hS => ?_)
  refine lv_if_eq (tgt := 26) hx hb dX12_queue_12 (by decide) (fun c3 => ?_) (fun c3 => ?_)
  · rw [if_pos c3] at hs0
    refine lv_iconst (v := (-1)) hx hb dX12_queue_26 (by decide) ?_
    have hs0 := Option.some.inj hs0
    subst hs0
    exact W.zret hx hb hr rfl (fun t ht hw => ⟨⟨_, (m1, a0), rfl, ⟨rfl, w_x69_6, w_x69_18, hoff, h_A70, hoffa⟩, g_end hW ht hw⟩, hS.F ht⟩) hS.2.2 dX12_queue_27 hlocks
  · rw [if_neg c3] at hs0
    refine lv_aload_n hx hb dX12_queue_15 rfl (lv_at hl 0 rfl) ?_
    refine gf12_6 hx hb hG hown hW (o := 69) (ltN hN 69 rfl) gk69 (v := .int x69_6) w_x69_6 gx254 dX12_queue_16 ?_
    refine lv_iload_n hx hb dX12_queue_19 rfl (lv_at hl 2 rfl) ?_
    refine lv_iadd hx hb dX12_queue_20 ?_
    refine lv_bipush (v := 30) hx hb dX12_queue_21 (by decide) ?_
    refine lv_icmp_le (tgt := 28) hx hb dX12_queue_23 (by decide) (fun c4 => ?_) (fun c4 => ?_)
    · rw [if_pos c4] at hs0
      refine lv_iconst (v := 0) hx hb dX12_queue_28 (by decide) ?_
      refine lv_istore_n (lv' := [(3, .int 0), (0, .ref (q 69)), (1, .int p1), (2, .int p2)]) hx hb dX12_queue_29 rfl hl (by decide) rfl (fun ls hl => ?_)
      obtain ⟨r5, hg5, hs0⟩ := obind hs0
      have hE1_57 : ∀ (t5_57 : (Nat → Int32)) (hr5 : t5_57 = r5) (m : Nat → Value) (a : Nat → vp_A) (H : Heap) (locs : List Loc) (w_x69_6 : m 6906 = .int x69_6) (w_x69_18 : m 6918 = .int 0) (hoff : ∀ j, nel j [6906, 6918] = false → m j = m0 j) (hsh : SH q m) (w_A70 : a 70 = (30, .inl t5_57)) (hoffa : ∀ j, nel j [70] = false → a j = a0 j) (ls : Array Slot) (hl : lv_has ls 4 [(0, .ref (q 69)), (2, .int p2)]) (hW : GW D cy (gA N q s.heap.size) N q m a s H) (hS : va_S (gA N q s.heap.size) s.heap H locs), W p l e ({ frames := 1, cells := 0, slots := 0, locals := 22 } : Room) s M args below meth c H locs 0 0 (MQ below (va_Qi (fun (r : Int32) (u : (Nat → Value) × (Nat → vp_A)) => r = X0.1 ∧ u.1 6906 = .int X0.2.1 ∧ u.1 6918 = .int X0.2.2.1 ∧ (∀ j, nel j [6906, 6918] = false → u.1 j = m0 j) ∧ u.2 70 = (30, .inl X0.2.2.2) ∧ (∀ j, nel j [70] = false → u.2 j = a0 j)) (gB D cy N q s.heap.size) (gA N q s.heap.size)) args s 0 0 (gA N q s.heap.size)) (F0 M 57 ls []) := by
        intro t5_57 hr5 m a H locs w_x69_6 w_x69_18 hoff hsh w_A70 hoffa ls hl hW hS
        subst hr5
        refine lv_aload_n hx hb dX12_queue_57 rfl (lv_at hl 0 rfl) ?_
        refine lv_dup hx hb dX12_queue_58 rfl ?_
        refine gf12_6 hx hb hG hown hW (o := 69) (ltN hN 69 rfl) gk69 (v := .int x69_6) w_x69_6 gx254 dX12_queue_59 ?_
        refine lv_iload_n hx hb dX12_queue_62 rfl (lv_at hl 1 rfl) ?_
        refine lv_iadd hx hb dX12_queue_63 ?_
        refine gp12_6 hx hb hG hown hW hS (o := 69) (ltN hN 69 rfl) gk69 (v := (x69_6 + p2)) gx254 dX12_queue_64 (fun m9 H locs hm9 ho9 hW hS => ?_)
        have ho9 := off1 ho9
        have w_x69_6 : m9 6906 = .int (x69_6 + p2) := hm9
        have w_x69_18 : m9 6918 = .int 0 := (ho9 6918 rfl).trans w_x69_18
        have hoff := offm hoff ho9 (by decide +kernel)
        have hsh := SH.off hsh ho9 (by decide +kernel)
        refine lv_aload_n hx hb dX12_queue_67 rfl (lv_at hl 0 rfl) ?_
        refine gf12_6 hx hb hG hown hW (o := 69) (ltN hN 69 rfl) gk69 (v := .int (x69_6 + p2)) w_x69_6 gx254 dX12_queue_68 ?_
        have hs0 := Option.some.inj hs0
        subst hs0
        exact W.zret hx hb hr rfl (fun t ht hw => ⟨⟨_, (m9, a), rfl, ⟨rfl, w_x69_6, w_x69_18, hoff, w_A70, hoffa⟩, g_end hW ht hw⟩, hS.F ht⟩) hS.2.2 dX12_queue_71 hlocks
      have hL1 : ∀ (n : Nat) (v3k5 : Int32) (A70k5 : Nat → Int32) (m : Nat → Value) (a : Nat → vp_A) (H : Heap) (locs : List Loc) (w_x69_6 : m 6906 = .int x69_6) (w_x69_18 : m 6918 = .int 0) (hoff : ∀ j, nel j [6906, 6918] = false → m j = m0 j) (hsh : SH q m) (w_A70 : a 70 = (30, .inl A70k5)) (hoffa : ∀ j, nel j [70] = false → a j = a0 j) (ls : Array Slot) (hl : lv_has ls 4 [(0, .ref (q 69)), (1, .int p1), (2, .int p2), (3, .int v3k5)]) (hg5 : gloop (fun u5 : (Int32 × (Nat → Int32)) => fX12_queue_S30 F p1 p2 x69_6 0 u5.1 u5.2) n (v3k5, A70k5) = some r5) (hW : GW D cy (gA N q s.heap.size) N q m a s H) (hS : va_S (gA N q s.heap.size) s.heap H locs), W p l e ({ frames := 1, cells := 0, slots := 0, locals := 22 } : Room) s M args below meth c H locs 0 0 (MQ below (va_Qi (fun (r : Int32) (u : (Nat → Value) × (Nat → vp_A)) => r = X0.1 ∧ u.1 6906 = .int X0.2.1 ∧ u.1 6918 = .int X0.2.2.1 ∧ (∀ j, nel j [6906, 6918] = false → u.1 j = m0 j) ∧ u.2 70 = (30, .inl X0.2.2.2) ∧ (∀ j, nel j [70] = false → u.2 j = a0 j)) (gB D cy N q s.heap.size) (gA N q s.heap.size)) args s 0 0 (gA N q s.heap.size)) (F0 M 30 ls []) := by
        intro n
        induction n with
        | zero => intro v3k5 A70k5 m a H locs w_x69_6 w_x69_18 hoff hsh w_A70 hoffa ls hl hg5 hW hS; exact (gl_zero hg5).elim
        | succ n ih1 =>
          intro v3k5 A70k5 m a H locs w_x69_6 w_x69_18 hoff hsh w_A70 hoffa ls hl hg5 hW hS
          obtain ⟨X1, hs1, hXl1, hXr1⟩ := gl_succ hg5
          have hs1 : fX12_queue_S30 F p1 p2 x69_6 0 v3k5 A70k5 = some X1 := hs1
          unfold fX12_queue_S30 at hs1
          refine lv_iload_n hx hb dX12_queue_30 rfl (lv_at hl 3 rfl) ?_
          refine lv_iload_n hx hb dX12_queue_31 rfl (lv_at hl 2 rfl) ?_
          refine lv_icmp_ge (tgt := 57) hx hb dX12_queue_32 (by decide) (fun c10 => ?_) (fun c10 => ?_)
          · rw [if_pos c10] at hs1
            exact hE1_57 A70k5 (hXl1 _ (Option.some.inj hs1).symm) m a _ _ w_x69_6 w_x69_18 hoff hsh w_A70 hoffa ls (lv_sub hl [0, 2] rfl) hW hS
          · rw [if_neg c10] at hs1
            refine lv_aload_n hx hb dX12_queue_35 rfl (lv_at hl 0 rfl) ?_
            refine gf12_5 hx hb hG hown hW (o := 69) (ltN hN 69 rfl) gk69 (v := .ref (q 70)) (sh69_5 hsh) gx166 dX12_queue_36 ?_
            refine lv_aload_n hx hb dX12_queue_39 rfl (lv_at hl 0 rfl) ?_
            refine gf12_6 hx hb hG hown hW (o := 69) (ltN hN 69 rfl) gk69 (v := .int x69_6) w_x69_6 gx254 dX12_queue_40 ?_
            refine lv_iload_n hx hb dX12_queue_43 rfl (lv_at hl 3 rfl) ?_
            refine lv_iadd hx hb dX12_queue_44 ?_
            refine lv_iload_n hx hb dX12_queue_45 rfl (lv_at hl 1 rfl) ?_
            refine lv_iload_n hx hb dX12_queue_46 rfl (lv_at hl 3 rfl) ?_
            refine lv_ishr hx hb dX12_queue_47 ?_
            refine lv_iconst (v := 1) hx hb dX12_queue_48 (by decide) ?_
            refine lv_iand hx hb dX12_queue_49 ?_
            obtain ⟨hi11, hs1⟩ := oif hs1
            refine g_iast hx hb hW hS (o := 70) (ltN hN 70 rfl) gk70 w_A70 (vin hi11) dX12_queue_50 (fun a12 H locs ha12 ho12 hW hS => ?_)
            have ho12 := off1 ho12
            have w_A70 : a12 70 = (30, .inl (upd A70k5 (x69_6 + v3k5).toNatClampNeg ((p1 >>> (v3k5 &&& 31)) &&& (1 : Int32)))) := ha12
            have hoffa := offm hoffa ho12 (by decide +kernel)
            refine lv_iinc (v := v3k5 + 1) (lv' := [(3, .int (v3k5 + 1)), (0, .ref (q 69)), (1, .int p1), (2, .int p2)]) hx hb dX12_queue_51 hl (k := 3) rfl rfl (by decide) rfl (fun ls hl => ?_)
            refine lv_goto (tgt := 30) hx hb dX12_queue_54 (by decide) ?_
            exact ih1 (v3k5 + 1) (upd A70k5 (x69_6 + v3k5).toNatClampNeg ((p1 >>> (v3k5 &&& 31)) &&& (1 : Int32))) m a12 _ _ w_x69_6 w_x69_18 hoff hsh w_A70 hoffa ls (lv_sub hl [1, 2, 3, 0] rfl) (hXr1 _ (Option.some.inj hs1).symm) hW hS
      exact hL1 F 0 A70 m1 a0 _ _ w_x69_6 w_x69_18 hoff hsh h_A70 hoffa ls (lv_sub hl [1, 2, 3, 0] rfl) hg5 hW hS
    · rw [if_neg c4] at hs0
      refine lv_iconst (v := (-1)) hx hb dX12_queue_26 (by decide) ?_
      have hs0 := Option.some.inj hs0
      subst hs0
      exact W.zret hx hb hr rfl (fun t ht hw => ⟨⟨_, (m1, a0), rfl, ⟨rfl, w_x69_6, w_x69_18, hoff, h_A70, hoffa⟩, g_end hW ht hw⟩, hS.F ht⟩) hS.2.2 dX12_queue_27 hlocks
-- HealLinkModel.isThere (JIII)Z
def fX12_isThere_J58 (x69_1 : Int32) (v1j6 : Int64) (v4j6 : Int32) : Int32 := (if (fX12_isLabel x69_1 v4j6) = 0 then 0 else (if (fX12_get v1j6 (fX12_letterAt v4j6) 2) ≤ 0 then 0 else 1))
def fX12_isThere_J16 (x69_1 : Int32) (v1j3 : Int64) (v4j3 : Int32) (v5j3 : Int32) : Int32 := (if (fX12_isSort x69_1 v4j3 v5j3) = 0 then 0 else (if (fX12_get v1j3 (fX12_packetAt v4j3 v5j3) 2) ≤ 0 then 0 else 1))
def fX12_isThere (x69_1 : Int32) (p1 : Int64) (p3 : Int32) (p4 : Int32) (p5 : Int32) : Int32 := (if p3 = 0 then 1 else (if p3 = 1 then fX12_isThere_J16 x69_1 p1 p4 p5 else (if p3 = 3 then fX12_isThere_J16 x69_1 p1 p4 p5 else (if p3 = 2 then fX12_isThere_J58 x69_1 p1 p4 else (if p3 = 4 then fX12_isThere_J58 x69_1 p1 p4 else 0)))))
theorem dX12_isThere_0 : decode cX12_isThere 0 = .ok (.iload_n 3, 1) := by decide +kernel
theorem dX12_isThere_1 : decode cX12_isThere 1 = .ok (.ifCond .ne 5, 3) := by decide +kernel
theorem dX12_isThere_4 : decode cX12_isThere 4 = .ok (.iconst 1, 1) := by decide +kernel
theorem dX12_isThere_5 : decode cX12_isThere 5 = .ok (.ireturn, 1) := by decide +kernel
theorem dX12_isThere_6 : decode cX12_isThere 6 = .ok (.iload_n 3, 1) := by decide +kernel
theorem dX12_isThere_7 : decode cX12_isThere 7 = .ok (.iconst 1, 1) := by decide +kernel
theorem dX12_isThere_8 : decode cX12_isThere 8 = .ok (.if_icmp .eq 8, 3) := by decide +kernel
theorem dX12_isThere_11 : decode cX12_isThere 11 = .ok (.iload_n 3, 1) := by decide +kernel
theorem dX12_isThere_12 : decode cX12_isThere 12 = .ok (.iconst 3, 1) := by decide +kernel
theorem dX12_isThere_13 : decode cX12_isThere 13 = .ok (.if_icmp .ne 35, 3) := by decide +kernel
theorem dX12_isThere_16 : decode cX12_isThere 16 = .ok (.aload_n 0, 1) := by decide +kernel
theorem dX12_isThere_17 : decode cX12_isThere 17 = .ok (.iload 4, 2) := by decide +kernel
theorem dX12_isThere_19 : decode cX12_isThere 19 = .ok (.iload 5, 2) := by decide +kernel
theorem dX12_isThere_21 : decode cX12_isThere 21 = .ok (.invokevirtual 170, 3) := by decide +kernel
theorem dX12_isThere_24 : decode cX12_isThere 24 = .ok (.ifCond .eq 22, 3) := by decide +kernel
theorem dX12_isThere_27 : decode cX12_isThere 27 = .ok (.lload_n 1, 1) := by decide +kernel
theorem dX12_isThere_28 : decode cX12_isThere 28 = .ok (.iload 4, 2) := by decide +kernel
theorem dX12_isThere_30 : decode cX12_isThere 30 = .ok (.iload 5, 2) := by decide +kernel
theorem dX12_isThere_32 : decode cX12_isThere 32 = .ok (.invokestatic 178, 3) := by decide +kernel
theorem dX12_isThere_35 : decode cX12_isThere 35 = .ok (.iconst 2, 1) := by decide +kernel
theorem dX12_isThere_36 : decode cX12_isThere 36 = .ok (.invokestatic 142, 3) := by decide +kernel
theorem dX12_isThere_39 : decode cX12_isThere 39 = .ok (.ifCond .le 7, 3) := by decide +kernel
theorem dX12_isThere_42 : decode cX12_isThere 42 = .ok (.iconst 1, 1) := by decide +kernel
theorem dX12_isThere_43 : decode cX12_isThere 43 = .ok (.goto 4, 3) := by decide +kernel
theorem dX12_isThere_46 : decode cX12_isThere 46 = .ok (.iconst 0, 1) := by decide +kernel
theorem dX12_isThere_47 : decode cX12_isThere 47 = .ok (.ireturn, 1) := by decide +kernel
theorem dX12_isThere_48 : decode cX12_isThere 48 = .ok (.iload_n 3, 1) := by decide +kernel
theorem dX12_isThere_49 : decode cX12_isThere 49 = .ok (.iconst 2, 1) := by decide +kernel
theorem dX12_isThere_50 : decode cX12_isThere 50 = .ok (.if_icmp .eq 8, 3) := by decide +kernel
theorem dX12_isThere_53 : decode cX12_isThere 53 = .ok (.iload_n 3, 1) := by decide +kernel
theorem dX12_isThere_54 : decode cX12_isThere 54 = .ok (.iconst 4, 1) := by decide +kernel
theorem dX12_isThere_55 : decode cX12_isThere 55 = .ok (.if_icmp .ne 29, 3) := by decide +kernel
theorem dX12_isThere_58 : decode cX12_isThere 58 = .ok (.aload_n 0, 1) := by decide +kernel
theorem dX12_isThere_59 : decode cX12_isThere 59 = .ok (.iload 4, 2) := by decide +kernel
theorem dX12_isThere_61 : decode cX12_isThere 61 = .ok (.invokevirtual 166, 3) := by decide +kernel
theorem dX12_isThere_64 : decode cX12_isThere 64 = .ok (.ifCond .eq 20, 3) := by decide +kernel
theorem dX12_isThere_67 : decode cX12_isThere 67 = .ok (.lload_n 1, 1) := by decide +kernel
theorem dX12_isThere_68 : decode cX12_isThere 68 = .ok (.iload 4, 2) := by decide +kernel
theorem dX12_isThere_70 : decode cX12_isThere 70 = .ok (.invokestatic 185, 3) := by decide +kernel
theorem dX12_isThere_73 : decode cX12_isThere 73 = .ok (.iconst 2, 1) := by decide +kernel
theorem dX12_isThere_74 : decode cX12_isThere 74 = .ok (.invokestatic 142, 3) := by decide +kernel
theorem dX12_isThere_77 : decode cX12_isThere 77 = .ok (.ifCond .le 7, 3) := by decide +kernel
theorem dX12_isThere_80 : decode cX12_isThere 80 = .ok (.iconst 1, 1) := by decide +kernel
theorem dX12_isThere_81 : decode cX12_isThere 81 = .ok (.goto 4, 3) := by decide +kernel
theorem dX12_isThere_84 : decode cX12_isThere 84 = .ok (.iconst 0, 1) := by decide +kernel
theorem dX12_isThere_85 : decode cX12_isThere 85 = .ok (.ireturn, 1) := by decide +kernel
set_option maxHeartbeats 4000000 in
set_option maxRecDepth 100000 in
theorem kX12_isThere {l : Launch} {D : va_G} {cy : Nat → ClassId} {N : Nat} {q : Nat → Nat} {m0 : Nat → Value} {a0 : Nat → vp_A} {sz : Nat} (hN : 105 ≤ N) {x69_1 : Int32} (h_x69_1 : m0 6901 = .int x69_1) (p1 : Int64) (p3 : Int32) (p4 : Int32) (p5 : Int32) : gMi l yX12_isThere cX12_isThere 6 (some .boolean) ({ frames := 3, cells := 0, slots := 0, locals := 65 } : Room) D cy N q m0 a0 sz [.ref (q 69), .long p1, .int p3, .int p4, .int p5] (fun r m' a' => r = (fX12_isThere x69_1 p1 p3 p4 p5) ∧ m' = m0 ∧ a' = a0) := by
  generalize hs0 : fX12_isThere x69_1 p1 p3 p4 p5 = X0
  refine g_ofi (by decide) (Nat.le_of_ble_eq_true rfl) ?_
  intro p e s M args below meth c hx hb hr hG hown hin hlocks hml hW hS ls hl
  unfold fX12_isThere at hs0
  have hJ58_0 : ∀ (v1j6 : Int64) (v4j6 : Int32) (H : Heap) (locs : List Loc) (ls : Array Slot) (hl : lv_has ls 6 [(0, .ref (q 69)), (1, .long v1j6), (4, .int v4j6)]) (hs0 : fX12_isThere_J58 x69_1 v1j6 v4j6 = X0) (hW : GW D cy (gA N q s.heap.size) N q m0 a0 s H) (hS : va_S (gA N q s.heap.size) s.heap H locs), W p l e ({ frames := 3, cells := 0, slots := 0, locals := 65 } : Room) s M args below meth c H locs 0 0 (MQ below (va_Qi (fun (r : Int32) (u : (Nat → Value) × (Nat → vp_A)) => r = X0 ∧ u.1 = m0 ∧ u.2 = a0) (gB D cy N q s.heap.size) (gA N q s.heap.size)) args s 0 0 (gA N q s.heap.size)) (F0 M 58 ls []) := by
    intro v1j6 v4j6 H locs ls hl hs0 hW hS
    unfold fX12_isThere_J58 at hs0
    refine lv_aload_n hx hb dX12_isThere_58 rfl (lv_at hl 0 rfl) ?_
    refine lv_iload hx hb dX12_isThere_59 (lv_at hl 2 rfl) ?_
    refine g_ViR (n := 1) hx hb hml hown hG hW hS [.int v4j6] (kX12_isLabel hN h_x69_1 v4j6) (ltN hN 69 rfl) gk69 (by decide) rfl rfl (gd_V gx284 gx285 gx286 gx5 gx287) rfl rfl (by decide) ⟨Nat.le_of_ble_eq_true rfl, Nat.le_of_ble_eq_true rfl⟩ rfl hl (Nat.le_of_ble_eq_true rfl) ⟨Nat.zero_le _, Nat.zero_le _⟩ dX12_isThere_61 (fun H locs hW hS => ?_)
    refine lv_if_eq (tgt := 84) hx hb dX12_isThere_64 (by decide) (fun c14 => ?_) (fun c14 => ?_)
    · rw [if_pos c14] at hs0
      refine lv_iconst (v := 0) hx hb dX12_isThere_84 (by decide) ?_
      subst hs0
      exact W.zret hx hb hr rfl (fun t ht hw => ⟨⟨_, (m0, a0), rfl, ⟨rfl, rfl, rfl⟩, g_end hW ht hw⟩, hS.F ht⟩) hS.2.2 dX12_isThere_85 hlocks
    · rw [if_neg c14] at hs0
      refine lv_lload_n hx hb dX12_isThere_67 rfl (lv_at hl 1 rfl) ?_
      refine lv_iload hx hb dX12_isThere_68 (lv_at hl 2 rfl) ?_
      refine g_SiR (n := 1) hx hb hml hown hG hW hS [.int v4j6] (kX12_letterAt hN v4j6) rfl (gd_S gx380 gx381 gx5 gx382) rfl rfl (by decide) ⟨Nat.le_of_ble_eq_true rfl, Nat.le_of_ble_eq_true rfl⟩ rfl hl (Nat.le_of_ble_eq_true rfl) ⟨Nat.zero_le _, Nat.zero_le _⟩ dX12_isThere_70 (fun H locs hW hS => ?_)
      refine lv_iconst (v := 2) hx hb dX12_isThere_73 (by decide) ?_
      refine g_SiR (n := 3) hx hb hml hown hG hW hS [.long v1j6, .int (fX12_letterAt v4j6), .int 2] (kX12_get hN v1j6 (fX12_letterAt v4j6) 2) rfl (gd_S gx304 gx305 gx5 gx306) rfl rfl (by decide) ⟨Nat.le_of_ble_eq_true rfl, Nat.le_of_ble_eq_true rfl⟩ rfl hl (Nat.le_of_ble_eq_true rfl) ⟨Nat.zero_le _, Nat.zero_le _⟩ dX12_isThere_74 (fun H locs hW hS => ?_)
      refine lv_if_le (tgt := 84) hx hb dX12_isThere_77 (by decide) (fun c17 => ?_) (fun c17 => ?_)
      · rw [if_pos c17] at hs0
        refine lv_iconst (v := 0) hx hb dX12_isThere_84 (by decide) ?_
        subst hs0
        exact W.zret hx hb hr rfl (fun t ht hw => ⟨⟨_, (m0, a0), rfl, ⟨rfl, rfl, rfl⟩, g_end hW ht hw⟩, hS.F ht⟩) hS.2.2 dX12_isThere_85 hlocks
      · rw [if_neg c17] at hs0
        refine lv_iconst (v := 1) hx hb dX12_isThere_80 (by decide) ?_
        refine lv_goto (tgt := 85) hx hb dX12_isThere_81 (by decide) ?_
        subst hs0
        exact W.zret hx hb hr rfl (fun t ht hw => ⟨⟨_, (m0, a0), rfl, ⟨rfl, rfl, rfl⟩, g_end hW ht hw⟩, hS.F ht⟩) hS.2.2 dX12_isThere_85 hlocks
  have hJ16_0 : ∀ (v1j3 : Int64) (v4j3 : Int32) (v5j3 : Int32) (H : Heap) (locs : List Loc) (ls : Array Slot) (hl : lv_has ls 6 [(0, .ref (q 69)), (1, .long v1j3), (4, .int v4j3), (5, .int v5j3)]) (hs0 : fX12_isThere_J16 x69_1 v1j3 v4j3 v5j3 = X0) (hW : GW D cy (gA N q s.heap.size) N q m0 a0 s H) (hS : va_S (gA N q s.heap.size) s.heap H locs), W p l e ({ frames := 3, cells := 0, slots := 0, locals := 65 } : Room) s M args below meth c H locs 0 0 (MQ below (va_Qi (fun (r : Int32) (u : (Nat → Value) × (Nat → vp_A)) => r = X0 ∧ u.1 = m0 ∧ u.2 = a0) (gB D cy N q s.heap.size) (gA N q s.heap.size)) args s 0 0 (gA N q s.heap.size)) (F0 M 16 ls []) := by
    intro v1j3 v4j3 v5j3 H locs ls hl hs0 hW hS
    unfold fX12_isThere_J16 at hs0
    refine lv_aload_n hx hb dX12_isThere_16 rfl (lv_at hl 0 rfl) ?_
    refine lv_iload hx hb dX12_isThere_17 (lv_at hl 2 rfl) ?_
    refine lv_iload hx hb dX12_isThere_19 (lv_at hl 3 rfl) ?_
    refine g_ViR (n := 2) hx hb hml hown hG hW hS [.int v4j3, .int v5j3] (kX12_isSort hN h_x69_1 v4j3 v5j3) (ltN hN 69 rfl) gk69 (by decide) rfl rfl (gd_V gx280 gx281 gx282 gx5 gx283) rfl rfl (by decide) ⟨Nat.le_of_ble_eq_true rfl, Nat.le_of_ble_eq_true rfl⟩ rfl hl (Nat.le_of_ble_eq_true rfl) ⟨Nat.zero_le _, Nat.zero_le _⟩ dX12_isThere_21 (fun H locs hW hS => ?_)
    refine lv_if_eq (tgt := 46) hx hb dX12_isThere_24 (by decide) (fun c9 => ?_) (fun c9 => ?_)
    · rw [if_pos c9] at hs0
      refine lv_iconst (v := 0) hx hb dX12_isThere_46 (by decide) ?_
      subst hs0
      exact W.zret hx hb hr rfl (fun t ht hw => ⟨⟨_, (m0, a0), rfl, ⟨rfl, rfl, rfl⟩, g_end hW ht hw⟩, hS.F ht⟩) hS.2.2 dX12_isThere_47 hlocks
    · rw [if_neg c9] at hs0
      refine lv_lload_n hx hb dX12_isThere_27 rfl (lv_at hl 1 rfl) ?_
      refine lv_iload hx hb dX12_isThere_28 (lv_at hl 2 rfl) ?_
      refine lv_iload hx hb dX12_isThere_30 (lv_at hl 3 rfl) ?_
      refine g_SiR (n := 2) hx hb hml hown hG hW hS [.int v4j3, .int v5j3] (kX12_packetAt hN v4j3 v5j3) rfl (gd_S gx358 gx359 gx5 gx360) rfl rfl (by decide) ⟨Nat.le_of_ble_eq_true rfl, Nat.le_of_ble_eq_true rfl⟩ rfl hl (Nat.le_of_ble_eq_true rfl) ⟨Nat.zero_le _, Nat.zero_le _⟩ dX12_isThere_32 (fun H locs hW hS => ?_)
      refine lv_iconst (v := 2) hx hb dX12_isThere_35 (by decide) ?_
      refine g_SiR (n := 3) hx hb hml hown hG hW hS [.long v1j3, .int (fX12_packetAt v4j3 v5j3), .int 2] (kX12_get hN v1j3 (fX12_packetAt v4j3 v5j3) 2) rfl (gd_S gx304 gx305 gx5 gx306) rfl rfl (by decide) ⟨Nat.le_of_ble_eq_true rfl, Nat.le_of_ble_eq_true rfl⟩ rfl hl (Nat.le_of_ble_eq_true rfl) ⟨Nat.zero_le _, Nat.zero_le _⟩ dX12_isThere_36 (fun H locs hW hS => ?_)
      refine lv_if_le (tgt := 46) hx hb dX12_isThere_39 (by decide) (fun c12 => ?_) (fun c12 => ?_)
      · rw [if_pos c12] at hs0
        refine lv_iconst (v := 0) hx hb dX12_isThere_46 (by decide) ?_
        subst hs0
        exact W.zret hx hb hr rfl (fun t ht hw => ⟨⟨_, (m0, a0), rfl, ⟨rfl, rfl, rfl⟩, g_end hW ht hw⟩, hS.F ht⟩) hS.2.2 dX12_isThere_47 hlocks
      · rw [if_neg c12] at hs0
        refine lv_iconst (v := 1) hx hb dX12_isThere_42 (by decide) ?_
        refine lv_goto (tgt := 47) hx hb dX12_isThere_43 (by decide) ?_
        subst hs0
        exact W.zret hx hb hr rfl (fun t ht hw => ⟨⟨_, (m0, a0), rfl, ⟨rfl, rfl, rfl⟩, g_end hW ht hw⟩, hS.F ht⟩) hS.2.2 dX12_isThere_47 hlocks
  refine lv_iload_n hx hb dX12_isThere_0 rfl (lv_at hl 2 rfl) ?_
  refine lv_if_ne (tgt := 6) hx hb dX12_isThere_1 (by decide) (fun c1 => ?_) (fun c1 => ?_)
  · rw [if_neg c1] at hs0
    refine lv_iload_n hx hb dX12_isThere_6 rfl (lv_at hl 2 rfl) ?_
    refine lv_iconst (v := 1) hx hb dX12_isThere_7 (by decide) ?_
    refine lv_icmp_eq (tgt := 16) hx hb dX12_isThere_8 (by decide) (fun c2 => ?_) (fun c2 => ?_)
    · rw [if_pos c2] at hs0
      exact hJ16_0 p1 p4 p5 _ _ ls (lv_sub hl [0, 1, 3, 4] rfl) hs0 hW hS
    · rw [if_neg c2] at hs0
      refine lv_iload_n hx hb dX12_isThere_11 rfl (lv_at hl 2 rfl) ?_
      refine lv_iconst (v := 3) hx hb dX12_isThere_12 (by decide) ?_
      refine lv_icmp_ne (tgt := 48) hx hb dX12_isThere_13 (by decide) (fun c4 => ?_) (fun c4 => ?_)
      · rw [if_neg c4] at hs0
        refine lv_iload_n hx hb dX12_isThere_48 rfl (lv_at hl 2 rfl) ?_
        refine lv_iconst (v := 2) hx hb dX12_isThere_49 (by decide) ?_
        refine lv_icmp_eq (tgt := 58) hx hb dX12_isThere_50 (by decide) (fun c5 => ?_) (fun c5 => ?_)
        · rw [if_pos c5] at hs0
          exact hJ58_0 p1 p4 _ _ ls (lv_sub hl [0, 1, 3] rfl) hs0 hW hS
        · rw [if_neg c5] at hs0
          refine lv_iload_n hx hb dX12_isThere_53 rfl (lv_at hl 2 rfl) ?_
          refine lv_iconst (v := 4) hx hb dX12_isThere_54 (by decide) ?_
          refine lv_icmp_ne (tgt := 84) hx hb dX12_isThere_55 (by decide) (fun c7 => ?_) (fun c7 => ?_)
          · rw [if_neg c7] at hs0
            refine lv_iconst (v := 0) hx hb dX12_isThere_84 (by decide) ?_
            subst hs0
            exact W.zret hx hb hr rfl (fun t ht hw => ⟨⟨_, (m0, a0), rfl, ⟨rfl, rfl, rfl⟩, g_end hW ht hw⟩, hS.F ht⟩) hS.2.2 dX12_isThere_85 hlocks
          · rw [if_pos c7] at hs0
            exact hJ58_0 p1 p4 _ _ ls (lv_sub hl [0, 1, 3] rfl) hs0 hW hS
      · rw [if_pos c4] at hs0
        exact hJ16_0 p1 p4 p5 _ _ ls (lv_sub hl [0, 1, 3, 4] rfl) hs0 hW hS
  · rw [if_pos c1] at hs0
    refine lv_iconst (v := 1) hx hb dX12_isThere_4 (by decide) ?_
    subst hs0
    exact W.zret hx hb hr rfl (fun t ht hw => ⟨⟨_, (m0, a0), rfl, ⟨rfl, rfl, rfl⟩, g_end hW ht hw⟩, hS.F ht⟩) hS.2.2 dX12_isThere_5 hlocks
-- HealLinkModel.sees (II)V
def fX12_sees_S61 (F : Nat) (x69_3 : Int32) (v1 : Int32) (v2 : Int32) (x69_20 : Int32) (v4 : Int32) (x69_19 : Int64) : Option ((Int64) ⊕ (Int32 × Int64)) := (if 8 ≤ v4 then some (Sum.inl x69_19) else some (Sum.inr (v4 + 1, (fX12_put x69_19 (9 + (2 * v4)) 2 0))))
def fX12_sees_J120 (F : Nat) (x69_3 : Int32) (x69_19j12 : Int64) (x69_20j12 : Int32) : Option (Int64 × Int32) := some (x69_19j12, 2)
def fX12_sees (F : Nat) (x69_3 : Int32) (x69_19 : Int64) (x69_20 : Int32) (p1 : Int32) (p2 : Int32) : Option (Int64 × Int32) := (if x69_3 ≤ ((fX12_get x69_19 (fX12_seenAt p1 p2) 2) + 1) then (gloop (fun u6 : (Int32 × Int64) => fX12_sees_S61 F x69_3 p1 p2 x69_20 u6.1 u6.2) F (0, (fX12_put x69_19 7 2 p1))).bind (fun t6_94 => (if p1 = (fX12_get t6_94 0 2) then (if p2 = (fX12_get t6_94 2 1) then (if (fX12_get t6_94 6 1) = 1 then some (t6_94, 3) else some ((fX12_put t6_94 6 1 1), 1)) else fX12_sees_J120 F x69_3 t6_94 x69_20) else fX12_sees_J120 F x69_3 t6_94 x69_20)) else some ((fX12_put x69_19 (fX12_seenAt p1 p2) 2 ((fX12_get x69_19 (fX12_seenAt p1 p2) 2) + 1)), x69_20))
theorem dX12_sees_0 : decode cX12_sees 0 = .ok (.aload_n 0, 1) := by decide +kernel
theorem dX12_sees_1 : decode cX12_sees 1 = .ok (.getfield 192, 3) := by decide +kernel
theorem dX12_sees_4 : decode cX12_sees 4 = .ok (.iload_n 1, 1) := by decide +kernel
theorem dX12_sees_5 : decode cX12_sees 5 = .ok (.iload_n 2, 1) := by decide +kernel
theorem dX12_sees_6 : decode cX12_sees 6 = .ok (.invokestatic 174, 3) := by decide +kernel
theorem dX12_sees_9 : decode cX12_sees 9 = .ok (.iconst 2, 1) := by decide +kernel
theorem dX12_sees_10 : decode cX12_sees 10 = .ok (.invokestatic 142, 3) := by decide +kernel
theorem dX12_sees_13 : decode cX12_sees 13 = .ok (.iconst 1, 1) := by decide +kernel
theorem dX12_sees_14 : decode cX12_sees 14 = .ok (.iadd, 1) := by decide +kernel
theorem dX12_sees_15 : decode cX12_sees 15 = .ok (.istore_n 3, 1) := by decide +kernel
theorem dX12_sees_16 : decode cX12_sees 16 = .ok (.iload_n 3, 1) := by decide +kernel
theorem dX12_sees_17 : decode cX12_sees 17 = .ok (.aload_n 0, 1) := by decide +kernel
theorem dX12_sees_18 : decode cX12_sees 18 = .ok (.getfield 19, 3) := by decide +kernel
theorem dX12_sees_21 : decode cX12_sees 21 = .ok (.if_icmp .ge 22, 3) := by decide +kernel
theorem dX12_sees_24 : decode cX12_sees 24 = .ok (.aload_n 0, 1) := by decide +kernel
theorem dX12_sees_25 : decode cX12_sees 25 = .ok (.aload_n 0, 1) := by decide +kernel
theorem dX12_sees_26 : decode cX12_sees 26 = .ok (.getfield 192, 3) := by decide +kernel
theorem dX12_sees_29 : decode cX12_sees 29 = .ok (.iload_n 1, 1) := by decide +kernel
theorem dX12_sees_30 : decode cX12_sees 30 = .ok (.iload_n 2, 1) := by decide +kernel
theorem dX12_sees_31 : decode cX12_sees 31 = .ok (.invokestatic 174, 3) := by decide +kernel
theorem dX12_sees_34 : decode cX12_sees 34 = .ok (.iconst 2, 1) := by decide +kernel
theorem dX12_sees_35 : decode cX12_sees 35 = .ok (.iload_n 3, 1) := by decide +kernel
theorem dX12_sees_36 : decode cX12_sees 36 = .ok (.invokestatic 129, 3) := by decide +kernel
theorem dX12_sees_39 : decode cX12_sees 39 = .ok (.putfield 192, 3) := by decide +kernel
theorem dX12_sees_42 : decode cX12_sees 42 = .ok (.return_, 1) := by decide +kernel
theorem dX12_sees_43 : decode cX12_sees 43 = .ok (.aload_n 0, 1) := by decide +kernel
theorem dX12_sees_44 : decode cX12_sees 44 = .ok (.aload_n 0, 1) := by decide +kernel
theorem dX12_sees_45 : decode cX12_sees 45 = .ok (.getfield 192, 3) := by decide +kernel
theorem dX12_sees_48 : decode cX12_sees 48 = .ok (.bipush 7, 2) := by decide +kernel
theorem dX12_sees_50 : decode cX12_sees 50 = .ok (.iconst 2, 1) := by decide +kernel
theorem dX12_sees_51 : decode cX12_sees 51 = .ok (.iload_n 1, 1) := by decide +kernel
theorem dX12_sees_52 : decode cX12_sees 52 = .ok (.invokestatic 129, 3) := by decide +kernel
theorem dX12_sees_55 : decode cX12_sees 55 = .ok (.putfield 192, 3) := by decide +kernel
theorem dX12_sees_58 : decode cX12_sees 58 = .ok (.iconst 0, 1) := by decide +kernel
theorem dX12_sees_59 : decode cX12_sees 59 = .ok (.istore 4, 2) := by decide +kernel
theorem dX12_sees_61 : decode cX12_sees 61 = .ok (.iload 4, 2) := by decide +kernel
theorem dX12_sees_63 : decode cX12_sees 63 = .ok (.bipush 8, 2) := by decide +kernel
theorem dX12_sees_65 : decode cX12_sees 65 = .ok (.if_icmp .ge 29, 3) := by decide +kernel
theorem dX12_sees_68 : decode cX12_sees 68 = .ok (.aload_n 0, 1) := by decide +kernel
theorem dX12_sees_69 : decode cX12_sees 69 = .ok (.aload_n 0, 1) := by decide +kernel
theorem dX12_sees_70 : decode cX12_sees 70 = .ok (.getfield 192, 3) := by decide +kernel
theorem dX12_sees_73 : decode cX12_sees 73 = .ok (.bipush 9, 2) := by decide +kernel
theorem dX12_sees_75 : decode cX12_sees 75 = .ok (.iconst 2, 1) := by decide +kernel
theorem dX12_sees_76 : decode cX12_sees 76 = .ok (.iload 4, 2) := by decide +kernel
theorem dX12_sees_78 : decode cX12_sees 78 = .ok (.imul, 1) := by decide +kernel
theorem dX12_sees_79 : decode cX12_sees 79 = .ok (.iadd, 1) := by decide +kernel
theorem dX12_sees_80 : decode cX12_sees 80 = .ok (.iconst 2, 1) := by decide +kernel
theorem dX12_sees_81 : decode cX12_sees 81 = .ok (.iconst 0, 1) := by decide +kernel
theorem dX12_sees_82 : decode cX12_sees 82 = .ok (.invokestatic 129, 3) := by decide +kernel
theorem dX12_sees_85 : decode cX12_sees 85 = .ok (.putfield 192, 3) := by decide +kernel
theorem dX12_sees_88 : decode cX12_sees 88 = .ok (.iinc 4 1, 3) := by decide +kernel
theorem dX12_sees_91 : decode cX12_sees 91 = .ok (.goto (-30), 3) := by decide +kernel
theorem dX12_sees_94 : decode cX12_sees 94 = .ok (.iload_n 1, 1) := by decide +kernel
theorem dX12_sees_95 : decode cX12_sees 95 = .ok (.aload_n 0, 1) := by decide +kernel
theorem dX12_sees_96 : decode cX12_sees 96 = .ok (.getfield 192, 3) := by decide +kernel
theorem dX12_sees_99 : decode cX12_sees 99 = .ok (.iconst 0, 1) := by decide +kernel
theorem dX12_sees_100 : decode cX12_sees 100 = .ok (.iconst 2, 1) := by decide +kernel
theorem dX12_sees_101 : decode cX12_sees 101 = .ok (.invokestatic 142, 3) := by decide +kernel
theorem dX12_sees_104 : decode cX12_sees 104 = .ok (.if_icmp .ne 16, 3) := by decide +kernel
theorem dX12_sees_107 : decode cX12_sees 107 = .ok (.iload_n 2, 1) := by decide +kernel
theorem dX12_sees_108 : decode cX12_sees 108 = .ok (.aload_n 0, 1) := by decide +kernel
theorem dX12_sees_109 : decode cX12_sees 109 = .ok (.getfield 192, 3) := by decide +kernel
theorem dX12_sees_112 : decode cX12_sees 112 = .ok (.iconst 2, 1) := by decide +kernel
theorem dX12_sees_113 : decode cX12_sees 113 = .ok (.iconst 1, 1) := by decide +kernel
theorem dX12_sees_114 : decode cX12_sees 114 = .ok (.invokestatic 142, 3) := by decide +kernel
theorem dX12_sees_117 : decode cX12_sees 117 = .ok (.if_icmp .eq 11, 3) := by decide +kernel
theorem dX12_sees_120 : decode cX12_sees 120 = .ok (.aload_n 0, 1) := by decide +kernel
theorem dX12_sees_121 : decode cX12_sees 121 = .ok (.iconst 2, 1) := by decide +kernel
theorem dX12_sees_122 : decode cX12_sees 122 = .ok (.putfield 195, 3) := by decide +kernel
theorem dX12_sees_125 : decode cX12_sees 125 = .ok (.goto 45, 3) := by decide +kernel
theorem dX12_sees_128 : decode cX12_sees 128 = .ok (.aload_n 0, 1) := by decide +kernel
theorem dX12_sees_129 : decode cX12_sees 129 = .ok (.getfield 192, 3) := by decide +kernel
theorem dX12_sees_132 : decode cX12_sees 132 = .ok (.bipush 6, 2) := by decide +kernel
theorem dX12_sees_134 : decode cX12_sees 134 = .ok (.iconst 1, 1) := by decide +kernel
theorem dX12_sees_135 : decode cX12_sees 135 = .ok (.invokestatic 142, 3) := by decide +kernel
theorem dX12_sees_138 : decode cX12_sees 138 = .ok (.iconst 1, 1) := by decide +kernel
theorem dX12_sees_139 : decode cX12_sees 139 = .ok (.if_icmp .ne 11, 3) := by decide +kernel
theorem dX12_sees_142 : decode cX12_sees 142 = .ok (.aload_n 0, 1) := by decide +kernel
theorem dX12_sees_143 : decode cX12_sees 143 = .ok (.iconst 3, 1) := by decide +kernel
theorem dX12_sees_144 : decode cX12_sees 144 = .ok (.putfield 195, 3) := by decide +kernel
theorem dX12_sees_147 : decode cX12_sees 147 = .ok (.goto 23, 3) := by decide +kernel
theorem dX12_sees_150 : decode cX12_sees 150 = .ok (.aload_n 0, 1) := by decide +kernel
theorem dX12_sees_151 : decode cX12_sees 151 = .ok (.iconst 1, 1) := by decide +kernel
theorem dX12_sees_152 : decode cX12_sees 152 = .ok (.putfield 195, 3) := by decide +kernel
theorem dX12_sees_155 : decode cX12_sees 155 = .ok (.aload_n 0, 1) := by decide +kernel
theorem dX12_sees_156 : decode cX12_sees 156 = .ok (.aload_n 0, 1) := by decide +kernel
theorem dX12_sees_157 : decode cX12_sees 157 = .ok (.getfield 192, 3) := by decide +kernel
theorem dX12_sees_160 : decode cX12_sees 160 = .ok (.bipush 6, 2) := by decide +kernel
theorem dX12_sees_162 : decode cX12_sees 162 = .ok (.iconst 1, 1) := by decide +kernel
theorem dX12_sees_163 : decode cX12_sees 163 = .ok (.iconst 1, 1) := by decide +kernel
theorem dX12_sees_164 : decode cX12_sees 164 = .ok (.invokestatic 129, 3) := by decide +kernel
theorem dX12_sees_167 : decode cX12_sees 167 = .ok (.putfield 192, 3) := by decide +kernel
theorem dX12_sees_170 : decode cX12_sees 170 = .ok (.return_, 1) := by decide +kernel
set_option maxHeartbeats 4000000 in
set_option maxRecDepth 100000 in
theorem kX12_sees {l : Launch} {D : va_G} {cy : Nat → ClassId} {N : Nat} {q : Nat → Nat} {m0 : Nat → Value} {a0 : Nat → vp_A} {sz : Nat} (hN : 105 ≤ N) (hsh : SH q m0) {x69_3 : Int32} (h_x69_3 : m0 6903 = .int x69_3) {x69_19 : Int64} (h_x69_19 : m0 6919 = .long x69_19) {x69_20 : Int32} (h_x69_20 : m0 6920 = .int x69_20) (F : Nat) (p1 : Int32) (p2 : Int32) {X0 : Int64 × Int32} (hs0 : fX12_sees F x69_3 x69_19 x69_20 p1 p2 = some X0) : gMv l yX12_sees cX12_sees 5 none ({ frames := 1, cells := 0, slots := 0, locals := 24 } : Room) D cy N q m0 a0 sz [.ref (q 69), .int p1, .int p2] (fun m' a' => m' 6919 = .long X0.1 ∧ m' 6920 = .int X0.2 ∧ (∀ j, nel j [6919, 6920] = false → m' j = m0 j) ∧ a' = a0) := by
  refine g_ofv (by decide) (Nat.le_of_ble_eq_true rfl) ?_
  intro p e s M args below meth c hx hb hr hG hown hin hlocks hml hW hS ls hl
  unfold fX12_sees at hs0
  have hoff : ∀ j, nel j [6919, 6920] = false → m0 j = m0 j := off0
  have hJ120_0 : ∀ (x69_19j12 : Int64) (x69_20j12 : Int32) (m : Nat → Value) (H : Heap) (locs : List Loc) (w_x69_19 : m 6919 = .long x69_19j12) (w_x69_20 : m 6920 = .int x69_20j12) (hoff : ∀ j, nel j [6919, 6920] = false → m j = m0 j) (hsh : SH q m) (ls : Array Slot) (hl : lv_has ls 5 [(0, .ref (q 69))]) (hs0 : fX12_sees_J120 F x69_3 x69_19j12 x69_20j12 = some X0) (hW : GW D cy (gA N q s.heap.size) N q m a0 s H) (hS : va_S (gA N q s.heap.size) s.heap H locs), W p l e ({ frames := 1, cells := 0, slots := 0, locals := 24 } : Room) s M args below meth c H locs 0 0 (MQ below (va_Qv (fun (u : (Nat → Value) × (Nat → vp_A)) => u.1 6919 = .long X0.1 ∧ u.1 6920 = .int X0.2 ∧ (∀ j, nel j [6919, 6920] = false → u.1 j = m0 j) ∧ u.2 = a0) (gB D cy N q s.heap.size) (gA N q s.heap.size)) args s 0 0 (gA N q s.heap.size)) (F0 M 120 ls []) := by
    intro x69_19j12 x69_20j12 m H locs w_x69_19 w_x69_20 hoff hsh ls hl hs0 hW hS
    unfold fX12_sees_J120 at hs0
    refine lv_aload_n hx hb dX12_sees_120 rfl (lv_at hl 0 rfl) ?_
    refine lv_iconst (v := 2) hx hb dX12_sees_121 (by decide) ?_
    refine gp12_20 hx hb hG hown hW hS (o := 69) (ltN hN 69 rfl) gk69 (v := 2) gx508 dX12_sees_122 (fun m27 H locs hm27 ho27 hW hS => ?_)
    have ho27 := off1 ho27
    have w_x69_19 : m27 6919 = .long x69_19j12 := (ho27 6919 rfl).trans w_x69_19
    have w_x69_20 : m27 6920 = .int 2 := hm27
    have hoff := offm hoff ho27 (by decide +kernel)
    have hsh := SH.off hsh ho27 (by decide +kernel)
    refine lv_goto (tgt := 170) hx hb dX12_sees_125 (by decide) ?_
    have hs0 := Option.some.inj hs0
    subst hs0
    exact W.vret hx hb hr (fun t ht hw => ⟨⟨(m27, a0), rfl, ⟨w_x69_19, w_x69_20, hoff, rfl⟩, g_end hW ht hw⟩, hS.F ht⟩) hS.2.2 dX12_sees_170 hlocks
  refine lv_aload_n hx hb dX12_sees_0 rfl (lv_at hl 0 rfl) ?_
  refine gf12_19 hx hb hG hown hW (o := 69) (ltN hN 69 rfl) gk69 (v := .long x69_19) h_x69_19 gx506 dX12_sees_1 ?_
  refine lv_iload_n hx hb dX12_sees_4 rfl (lv_at hl 1 rfl) ?_
  refine lv_iload_n hx hb dX12_sees_5 rfl (lv_at hl 2 rfl) ?_
  refine g_SiR (n := 2) hx hb hml hown hG hW hS [.int p1, .int p2] (kX12_seenAt hN p1 p2) rfl (gd_S gx331 gx332 gx5 gx333) rfl rfl (by decide) ⟨Nat.le_of_ble_eq_true rfl, Nat.le_of_ble_eq_true rfl⟩ rfl hl (Nat.le_of_ble_eq_true rfl) ⟨Nat.zero_le _, Nat.zero_le _⟩ dX12_sees_6 (fun H locs hW hS => ?_)
  refine lv_iconst (v := 2) hx hb dX12_sees_9 (by decide) ?_
  refine g_SiR (n := 3) hx hb hml hown hG hW hS [.long x69_19, .int (fX12_seenAt p1 p2), .int 2] (kX12_get hN x69_19 (fX12_seenAt p1 p2) 2) rfl (gd_S gx304 gx305 gx5 gx306) rfl rfl (by decide) ⟨Nat.le_of_ble_eq_true rfl, Nat.le_of_ble_eq_true rfl⟩ rfl hl (Nat.le_of_ble_eq_true rfl) ⟨Nat.zero_le _, Nat.zero_le _⟩ dX12_sees_10 (fun H locs hW hS => ?_)
  refine lv_iconst (v := 1) hx hb dX12_sees_13 (by decide) ?_
  refine lv_iadd hx hb dX12_sees_14 ?_
  refine lv_istore_n (lv' := [(3, .int ((fX12_get x69_19 (fX12_seenAt p1 p2) 2) + 1)), (0, .ref (q 69)), (1, .int p1), (2, .int p2)]) hx hb dX12_sees_15 rfl hl (by decide) rfl (fun ls hl => ?_)
  refine lv_iload_n hx hb dX12_sees_16 rfl (lv_at hl 0 rfl) ?_
  refine lv_aload_n hx hb dX12_sees_17 rfl (lv_at hl 1 rfl) ?_
  refine gf12_3 hx hb hG hown hW (o := 69) (ltN hN 69 rfl) gk69 (v := .int x69_3) ((hoff 6903 rfl).trans h_x69_3) gx165 dX12_sees_18 ?_
  refine lv_icmp_ge (tgt := 43) hx hb dX12_sees_21 (by decide) (fun c3 => ?_) (fun c3 => ?_)
  · rw [if_pos c3] at hs0
    refine lv_aload_n hx hb dX12_sees_43 rfl (lv_at hl 1 rfl) ?_
    refine lv_aload_n hx hb dX12_sees_44 rfl (lv_at hl 1 rfl) ?_
    refine gf12_19 hx hb hG hown hW (o := 69) (ltN hN 69 rfl) gk69 (v := .long x69_19) h_x69_19 gx506 dX12_sees_45 ?_
    refine lv_bipush (v := 7) hx hb dX12_sees_48 (by decide) ?_
    refine lv_iconst (v := 2) hx hb dX12_sees_50 (by decide) ?_
    refine lv_iload_n hx hb dX12_sees_51 rfl (lv_at hl 2 rfl) ?_
    refine g_SlR (n := 4) hx hb hml hown hG hW hS [.long x69_19, .int 7, .int 2, .int p1] (kX12_put hN x69_19 7 2 p1) rfl (gd_S gx203 gx204 gx5 gx205) rfl rfl (by decide) ⟨Nat.le_of_ble_eq_true rfl, Nat.le_of_ble_eq_true rfl⟩ rfl hl (Nat.le_of_ble_eq_true rfl) ⟨Nat.zero_le _, Nat.zero_le _⟩ dX12_sees_52 (fun H locs hW hS => ?_)
    refine gp12_19 hx hb hG hown hW hS (o := 69) (ltN hN 69 rfl) gk69 (v := (fX12_put x69_19 7 2 p1)) gx506 dX12_sees_55 (fun m5 H locs hm5 ho5 hW hS => ?_)
    have ho5 := off1 ho5
    have w_x69_19 : m5 6919 = .long (fX12_put x69_19 7 2 p1) := hm5
    have w_x69_20 : m5 6920 = .int x69_20 := (ho5 6920 rfl).trans h_x69_20
    have hoff := offm hoff ho5 (by decide +kernel)
    have hsh := SH.off hsh ho5 (by decide +kernel)
    refine lv_iconst (v := 0) hx hb dX12_sees_58 (by decide) ?_
    refine lv_istore (lv' := [(4, .int 0), (3, .int ((fX12_get x69_19 (fX12_seenAt p1 p2) 2) + 1)), (0, .ref (q 69)), (1, .int p1), (2, .int p2)]) hx hb dX12_sees_59 hl (by decide) rfl (fun ls hl => ?_)
    obtain ⟨r6, hg6, hs0⟩ := obind hs0
    have hE1_94 : ∀ (t6_94 : Int64) (hr6 : t6_94 = r6) (m : Nat → Value) (H : Heap) (locs : List Loc) (w_x69_19 : m 6919 = .long t6_94) (w_x69_20 : m 6920 = .int x69_20) (hoff : ∀ j, nel j [6919, 6920] = false → m j = m0 j) (hsh : SH q m) (ls : Array Slot) (hl : lv_has ls 5 [(0, .ref (q 69)), (1, .int p1), (2, .int p2)]) (hW : GW D cy (gA N q s.heap.size) N q m a0 s H) (hS : va_S (gA N q s.heap.size) s.heap H locs), W p l e ({ frames := 1, cells := 0, slots := 0, locals := 24 } : Room) s M args below meth c H locs 0 0 (MQ below (va_Qv (fun (u : (Nat → Value) × (Nat → vp_A)) => u.1 6919 = .long X0.1 ∧ u.1 6920 = .int X0.2 ∧ (∀ j, nel j [6919, 6920] = false → u.1 j = m0 j) ∧ u.2 = a0) (gB D cy N q s.heap.size) (gA N q s.heap.size)) args s 0 0 (gA N q s.heap.size)) (F0 M 94 ls []) := by
      intro t6_94 hr6 m H locs w_x69_19 w_x69_20 hoff hsh ls hl hW hS
      subst hr6
      refine lv_iload_n hx hb dX12_sees_94 rfl (lv_at hl 1 rfl) ?_
      refine lv_aload_n hx hb dX12_sees_95 rfl (lv_at hl 0 rfl) ?_
      refine gf12_19 hx hb hG hown hW (o := 69) (ltN hN 69 rfl) gk69 (v := .long t6_94) w_x69_19 gx506 dX12_sees_96 ?_
      refine lv_iconst (v := 0) hx hb dX12_sees_99 (by decide) ?_
      refine lv_iconst (v := 2) hx hb dX12_sees_100 (by decide) ?_
      refine g_SiR (n := 3) hx hb hml hown hG hW hS [.long t6_94, .int 0, .int 2] (kX12_get hN t6_94 0 2) rfl (gd_S gx304 gx305 gx5 gx306) rfl rfl (by decide) ⟨Nat.le_of_ble_eq_true rfl, Nat.le_of_ble_eq_true rfl⟩ rfl hl (Nat.le_of_ble_eq_true rfl) ⟨Nat.zero_le _, Nat.zero_le _⟩ dX12_sees_101 (fun H locs hW hS => ?_)
      refine lv_icmp_ne (tgt := 120) hx hb dX12_sees_104 (by decide) (fun c11 => ?_) (fun c11 => ?_)
      · rw [if_neg c11] at hs0
        exact hJ120_0 t6_94 x69_20 m _ _ w_x69_19 w_x69_20 hoff hsh ls (lv_sub hl [0] rfl) hs0 hW hS
      · rw [if_pos c11] at hs0
        refine lv_iload_n hx hb dX12_sees_107 rfl (lv_at hl 2 rfl) ?_
        refine lv_aload_n hx hb dX12_sees_108 rfl (lv_at hl 0 rfl) ?_
        refine gf12_19 hx hb hG hown hW (o := 69) (ltN hN 69 rfl) gk69 (v := .long t6_94) w_x69_19 gx506 dX12_sees_109 ?_
        refine lv_iconst (v := 2) hx hb dX12_sees_112 (by decide) ?_
        refine lv_iconst (v := 1) hx hb dX12_sees_113 (by decide) ?_
        refine g_SiR (n := 3) hx hb hml hown hG hW hS [.long t6_94, .int 2, .int 1] (kX12_get hN t6_94 2 1) rfl (gd_S gx304 gx305 gx5 gx306) rfl rfl (by decide) ⟨Nat.le_of_ble_eq_true rfl, Nat.le_of_ble_eq_true rfl⟩ rfl hl (Nat.le_of_ble_eq_true rfl) ⟨Nat.zero_le _, Nat.zero_le _⟩ dX12_sees_114 (fun H locs hW hS => ?_)
        refine lv_icmp_eq (tgt := 128) hx hb dX12_sees_117 (by decide) (fun c14 => ?_) (fun c14 => ?_)
        · rw [if_pos c14] at hs0
          refine lv_aload_n hx hb dX12_sees_128 rfl (lv_at hl 0 rfl) ?_
          refine gf12_19 hx hb hG hown hW (o := 69) (ltN hN 69 rfl) gk69 (v := .long t6_94) w_x69_19 gx506 dX12_sees_129 ?_
          refine lv_bipush (v := 6) hx hb dX12_sees_132 (by decide) ?_
          refine lv_iconst (v := 1) hx hb dX12_sees_134 (by decide) ?_
          refine g_SiR (n := 3) hx hb hml hown hG hW hS [.long t6_94, .int 6, .int 1] (kX12_get hN t6_94 6 1) rfl (gd_S gx304 gx305 gx5 gx306) rfl rfl (by decide) ⟨Nat.le_of_ble_eq_true rfl, Nat.le_of_ble_eq_true rfl⟩ rfl hl (Nat.le_of_ble_eq_true rfl) ⟨Nat.zero_le _, Nat.zero_le _⟩ dX12_sees_135 (fun H locs hW hS => ?_)
          refine lv_iconst (v := 1) hx hb dX12_sees_138 (by decide) ?_
          refine lv_icmp_ne (tgt := 150) hx hb dX12_sees_139 (by decide) (fun c16 => ?_) (fun c16 => ?_)
          · rw [if_neg c16] at hs0
            refine lv_aload_n hx hb dX12_sees_150 rfl (lv_at hl 0 rfl) ?_
            refine lv_iconst (v := 1) hx hb dX12_sees_151 (by decide) ?_
            refine gp12_20 hx hb hG hown hW hS (o := 69) (ltN hN 69 rfl) gk69 (v := 1) gx508 dX12_sees_152 (fun m17 H locs hm17 ho17 hW hS => ?_)
            have ho17 := off1 ho17
            have w_x69_19 : m17 6919 = .long t6_94 := (ho17 6919 rfl).trans w_x69_19
            have w_x69_20 : m17 6920 = .int 1 := hm17
            have hoff := offm hoff ho17 (by decide +kernel)
            have hsh := SH.off hsh ho17 (by decide +kernel)
            refine lv_aload_n hx hb dX12_sees_155 rfl (lv_at hl 0 rfl) ?_
            refine lv_aload_n hx hb dX12_sees_156 rfl (lv_at hl 0 rfl) ?_
            refine gf12_19 hx hb hG hown hW (o := 69) (ltN hN 69 rfl) gk69 (v := .long t6_94) w_x69_19 gx506 dX12_sees_157 ?_
            refine lv_bipush (v := 6) hx hb dX12_sees_160 (by decide) ?_
            refine lv_iconst (v := 1) hx hb dX12_sees_162 (by decide) ?_
            refine lv_iconst (v := 1) hx hb dX12_sees_163 (by decide) ?_
            refine g_SlR (n := 4) hx hb hml hown hG hW hS [.long t6_94, .int 6, .int 1, .int 1] (kX12_put hN t6_94 6 1 1) rfl (gd_S gx203 gx204 gx5 gx205) rfl rfl (by decide) ⟨Nat.le_of_ble_eq_true rfl, Nat.le_of_ble_eq_true rfl⟩ rfl hl (Nat.le_of_ble_eq_true rfl) ⟨Nat.zero_le _, Nat.zero_le _⟩ dX12_sees_164 (fun H locs hW hS => ?_)
            refine gp12_19 hx hb hG hown hW hS (o := 69) (ltN hN 69 rfl) gk69 (v := (fX12_put t6_94 6 1 1)) gx506 dX12_sees_167 (fun m19 H locs hm19 ho19 hW hS => ?_)
            have ho19 := off1 ho19
            have w_x69_19 : m19 6919 = .long (fX12_put t6_94 6 1 1) := hm19
            have w_x69_20 : m19 6920 = .int 1 := (ho19 6920 rfl).trans w_x69_20
            have hoff := offm hoff ho19 (by decide +kernel)
            have hsh := SH.off hsh ho19 (by decide +kernel)
            have hs0 := Option.some.inj hs0
            subst hs0
            exact W.vret hx hb hr (fun t ht hw => ⟨⟨(m19, a0), rfl, ⟨w_x69_19, w_x69_20, hoff, rfl⟩, g_end hW ht hw⟩, hS.F ht⟩) hS.2.2 dX12_sees_170 hlocks
          · rw [if_pos c16] at hs0
            refine lv_aload_n hx hb dX12_sees_142 rfl (lv_at hl 0 rfl) ?_
            refine lv_iconst (v := 3) hx hb dX12_sees_143 (by decide) ?_
            refine gp12_20 hx hb hG hown hW hS (o := 69) (ltN hN 69 rfl) gk69 (v := 3) gx508 dX12_sees_144 (fun m20 H locs hm20 ho20 hW hS => ?_)
            have ho20 := off1 ho20
            have w_x69_19 : m20 6919 = .long t6_94 := (ho20 6919 rfl).trans w_x69_19
            have w_x69_20 : m20 6920 = .int 3 := hm20
            have hoff := offm hoff ho20 (by decide +kernel)
            have hsh := SH.off hsh ho20 (by decide +kernel)
            refine lv_goto (tgt := 170) hx hb dX12_sees_147 (by decide) ?_
            have hs0 := Option.some.inj hs0
            subst hs0
            exact W.vret hx hb hr (fun t ht hw => ⟨⟨(m20, a0), rfl, ⟨w_x69_19, w_x69_20, hoff, rfl⟩, g_end hW ht hw⟩, hS.F ht⟩) hS.2.2 dX12_sees_170 hlocks
        · rw [if_neg c14] at hs0
          exact hJ120_0 t6_94 x69_20 m _ _ w_x69_19 w_x69_20 hoff hsh ls (lv_sub hl [0] rfl) hs0 hW hS
    have hL1 : ∀ (n : Nat) (v4k6 : Int32) (x69_19k6 : Int64) (m : Nat → Value) (H : Heap) (locs : List Loc) (w_x69_19 : m 6919 = .long x69_19k6) (w_x69_20 : m 6920 = .int x69_20) (hoff : ∀ j, nel j [6919, 6920] = false → m j = m0 j) (hsh : SH q m) (ls : Array Slot) (hl : lv_has ls 5 [(0, .ref (q 69)), (1, .int p1), (2, .int p2), (4, .int v4k6)]) (hg6 : gloop (fun u6 : (Int32 × Int64) => fX12_sees_S61 F x69_3 p1 p2 x69_20 u6.1 u6.2) n (v4k6, x69_19k6) = some r6) (hW : GW D cy (gA N q s.heap.size) N q m a0 s H) (hS : va_S (gA N q s.heap.size) s.heap H locs), W p l e ({ frames := 1, cells := 0, slots := 0, locals := 24 } : Room) s M args below meth c H locs 0 0 (MQ below (va_Qv (fun (u : (Nat → Value) × (Nat → vp_A)) => u.1 6919 = .long X0.1 ∧ u.1 6920 = .int X0.2 ∧ (∀ j, nel j [6919, 6920] = false → u.1 j = m0 j) ∧ u.2 = a0) (gB D cy N q s.heap.size) (gA N q s.heap.size)) args s 0 0 (gA N q s.heap.size)) (F0 M 61 ls []) := by
      intro n
      induction n with
      | zero => intro v4k6 x69_19k6 m H locs w_x69_19 w_x69_20 hoff hsh ls hl hg6 hW hS; exact (gl_zero hg6).elim
      | succ n ih1 =>
        intro v4k6 x69_19k6 m H locs w_x69_19 w_x69_20 hoff hsh ls hl hg6 hW hS
        obtain ⟨X1, hs1, hXl1, hXr1⟩ := gl_succ hg6
        have hs1 : fX12_sees_S61 F x69_3 p1 p2 x69_20 v4k6 x69_19k6 = some X1 := hs1
        unfold fX12_sees_S61 at hs1
        refine lv_iload hx hb dX12_sees_61 (lv_at hl 3 rfl) ?_
        refine lv_bipush (v := 8) hx hb dX12_sees_63 (by decide) ?_
        refine lv_icmp_ge (tgt := 94) hx hb dX12_sees_65 (by decide) (fun c21 => ?_) (fun c21 => ?_)
        · rw [if_pos c21] at hs1
          exact hE1_94 x69_19k6 (hXl1 _ (Option.some.inj hs1).symm) m _ _ w_x69_19 w_x69_20 hoff hsh ls (lv_sub hl [0, 1, 2] rfl) hW hS
        · rw [if_neg c21] at hs1
          refine lv_aload_n hx hb dX12_sees_68 rfl (lv_at hl 0 rfl) ?_
          refine lv_aload_n hx hb dX12_sees_69 rfl (lv_at hl 0 rfl) ?_
          refine gf12_19 hx hb hG hown hW (o := 69) (ltN hN 69 rfl) gk69 (v := .long x69_19k6) w_x69_19 gx506 dX12_sees_70 ?_
          refine lv_bipush (v := 9) hx hb dX12_sees_73 (by decide) ?_
          refine lv_iconst (v := 2) hx hb dX12_sees_75 (by decide) ?_
          refine lv_iload hx hb dX12_sees_76 (lv_at hl 3 rfl) ?_
          refine lv_imul hx hb dX12_sees_78 ?_
          refine lv_iadd hx hb dX12_sees_79 ?_
          refine lv_iconst (v := 2) hx hb dX12_sees_80 (by decide) ?_
          refine lv_iconst (v := 0) hx hb dX12_sees_81 (by decide) ?_
          refine g_SlR (n := 4) hx hb hml hown hG hW hS [.long x69_19k6, .int (9 + (2 * v4k6)), .int 2, .int 0] (kX12_put hN x69_19k6 (9 + (2 * v4k6)) 2 0) rfl (gd_S gx203 gx204 gx5 gx205) rfl rfl (by decide) ⟨Nat.le_of_ble_eq_true rfl, Nat.le_of_ble_eq_true rfl⟩ rfl hl (Nat.le_of_ble_eq_true rfl) ⟨Nat.zero_le _, Nat.zero_le _⟩ dX12_sees_82 (fun H locs hW hS => ?_)
          refine gp12_19 hx hb hG hown hW hS (o := 69) (ltN hN 69 rfl) gk69 (v := (fX12_put x69_19k6 (9 + (2 * v4k6)) 2 0)) gx506 dX12_sees_85 (fun m23 H locs hm23 ho23 hW hS => ?_)
          have ho23 := off1 ho23
          have w_x69_19 : m23 6919 = .long (fX12_put x69_19k6 (9 + (2 * v4k6)) 2 0) := hm23
          have w_x69_20 : m23 6920 = .int x69_20 := (ho23 6920 rfl).trans w_x69_20
          have hoff := offm hoff ho23 (by decide +kernel)
          have hsh := SH.off hsh ho23 (by decide +kernel)
          refine lv_iinc (v := v4k6 + 1) (lv' := [(4, .int (v4k6 + 1)), (0, .ref (q 69)), (1, .int p1), (2, .int p2)]) hx hb dX12_sees_88 hl (k := 3) rfl rfl (by decide) rfl (fun ls hl => ?_)
          refine lv_goto (tgt := 61) hx hb dX12_sees_91 (by decide) ?_
          exact ih1 (v4k6 + 1) (fX12_put x69_19k6 (9 + (2 * v4k6)) 2 0) m23 _ _ w_x69_19 w_x69_20 hoff hsh ls (lv_sub hl [1, 2, 3, 0] rfl) (hXr1 _ (Option.some.inj hs1).symm) hW hS
    exact hL1 F 0 (fX12_put x69_19 7 2 p1) m5 _ _ w_x69_19 w_x69_20 hoff hsh ls (lv_sub hl [2, 3, 4, 0] rfl) hg6 hW hS
  · rw [if_neg c3] at hs0
    refine lv_aload_n hx hb dX12_sees_24 rfl (lv_at hl 1 rfl) ?_
    refine lv_aload_n hx hb dX12_sees_25 rfl (lv_at hl 1 rfl) ?_
    refine gf12_19 hx hb hG hown hW (o := 69) (ltN hN 69 rfl) gk69 (v := .long x69_19) h_x69_19 gx506 dX12_sees_26 ?_
    refine lv_iload_n hx hb dX12_sees_29 rfl (lv_at hl 2 rfl) ?_
    refine lv_iload_n hx hb dX12_sees_30 rfl (lv_at hl 3 rfl) ?_
    refine g_SiR (n := 2) hx hb hml hown hG hW hS [.int p1, .int p2] (kX12_seenAt hN p1 p2) rfl (gd_S gx331 gx332 gx5 gx333) rfl rfl (by decide) ⟨Nat.le_of_ble_eq_true rfl, Nat.le_of_ble_eq_true rfl⟩ rfl hl (Nat.le_of_ble_eq_true rfl) ⟨Nat.zero_le _, Nat.zero_le _⟩ dX12_sees_31 (fun H locs hW hS => ?_)
    refine lv_iconst (v := 2) hx hb dX12_sees_34 (by decide) ?_
    refine lv_iload_n hx hb dX12_sees_35 rfl (lv_at hl 0 rfl) ?_
    refine g_SlR (n := 4) hx hb hml hown hG hW hS [.long x69_19, .int (fX12_seenAt p1 p2), .int 2, .int ((fX12_get x69_19 (fX12_seenAt p1 p2) 2) + 1)] (kX12_put hN x69_19 (fX12_seenAt p1 p2) 2 ((fX12_get x69_19 (fX12_seenAt p1 p2) 2) + 1)) rfl (gd_S gx203 gx204 gx5 gx205) rfl rfl (by decide) ⟨Nat.le_of_ble_eq_true rfl, Nat.le_of_ble_eq_true rfl⟩ rfl hl (Nat.le_of_ble_eq_true rfl) ⟨Nat.zero_le _, Nat.zero_le _⟩ dX12_sees_36 (fun H locs hW hS => ?_)
    refine gp12_19 hx hb hG hown hW hS (o := 69) (ltN hN 69 rfl) gk69 (v := (fX12_put x69_19 (fX12_seenAt p1 p2) 2 ((fX12_get x69_19 (fX12_seenAt p1 p2) 2) + 1))) gx506 dX12_sees_39 (fun m26 H locs hm26 ho26 hW hS => ?_)
    have ho26 := off1 ho26
    have w_x69_19 : m26 6919 = .long (fX12_put x69_19 (fX12_seenAt p1 p2) 2 ((fX12_get x69_19 (fX12_seenAt p1 p2) 2) + 1)) := hm26
    have w_x69_20 : m26 6920 = .int x69_20 := (ho26 6920 rfl).trans h_x69_20
    have hoff := offm hoff ho26 (by decide +kernel)
    have hsh := SH.off hsh ho26 (by decide +kernel)
    have hs0 := Option.some.inj hs0
    subst hs0
    exact W.vret hx hb hr (fun t ht hw => ⟨⟨(m26, a0), rfl, ⟨w_x69_19, w_x69_20, hoff, rfl⟩, g_end hW ht hw⟩, hS.F ht⟩) hS.2.2 dX12_sees_42 hlocks
-- HealLinkModel.counts1 (I)V
def fX12_counts1_J55 (x69_1 : Int32) (x69_22 : Int32) (v1j5 : Int32) (s0j5 : Int32) (x69_19j5 : Int64) (x69_20j5 : Int32) : Option (Int64 × Int32) := (if ¬ x69_1 = 0 then some ((fX12_put (fX12_put (fX12_put (fX12_put x69_19j5 0 2 (((fX12_get x69_19j5 0 2) + 1) - ((fX12_get x69_19j5 0 2) + 1) / x69_1 * x69_1)) 2 1 v1j5) 3 3 0) 6 1 0), s0j5) else none)
def fX12_counts1 (x69_1 : Int32) (x69_22 : Int32) (x69_19 : Int64) (x69_20 : Int32) (p1 : Int32) : Option (Int64 × Int32) := (if x69_22 ≤ ((fX12_get x69_19 3 3) + 1) then (if (fX12_get x69_19 6 1) = 1 then fX12_counts1_J55 x69_1 x69_22 p1 4 x69_19 x69_20 else fX12_counts1_J55 x69_1 x69_22 p1 5 x69_19 x69_20) else some ((fX12_put x69_19 3 3 ((fX12_get x69_19 3 3) + 1)), x69_20))
theorem dX12_counts1_0 : decode cX12_counts1 0 = .ok (.aload_n 0, 1) := by decide +kernel
theorem dX12_counts1_1 : decode cX12_counts1 1 = .ok (.getfield 192, 3) := by decide +kernel
theorem dX12_counts1_4 : decode cX12_counts1 4 = .ok (.iconst 3, 1) := by decide +kernel
theorem dX12_counts1_5 : decode cX12_counts1 5 = .ok (.iconst 3, 1) := by decide +kernel
theorem dX12_counts1_6 : decode cX12_counts1 6 = .ok (.invokestatic 142, 3) := by decide +kernel
theorem dX12_counts1_9 : decode cX12_counts1 9 = .ok (.iconst 1, 1) := by decide +kernel
theorem dX12_counts1_10 : decode cX12_counts1 10 = .ok (.iadd, 1) := by decide +kernel
theorem dX12_counts1_11 : decode cX12_counts1 11 = .ok (.istore_n 2, 1) := by decide +kernel
theorem dX12_counts1_12 : decode cX12_counts1 12 = .ok (.iload_n 2, 1) := by decide +kernel
theorem dX12_counts1_13 : decode cX12_counts1 13 = .ok (.aload_n 0, 1) := by decide +kernel
theorem dX12_counts1_14 : decode cX12_counts1 14 = .ok (.getfield 213, 3) := by decide +kernel
theorem dX12_counts1_17 : decode cX12_counts1 17 = .ok (.if_icmp .ge 18, 3) := by decide +kernel
theorem dX12_counts1_20 : decode cX12_counts1 20 = .ok (.aload_n 0, 1) := by decide +kernel
theorem dX12_counts1_21 : decode cX12_counts1 21 = .ok (.aload_n 0, 1) := by decide +kernel
theorem dX12_counts1_22 : decode cX12_counts1 22 = .ok (.getfield 192, 3) := by decide +kernel
theorem dX12_counts1_25 : decode cX12_counts1 25 = .ok (.iconst 3, 1) := by decide +kernel
theorem dX12_counts1_26 : decode cX12_counts1 26 = .ok (.iconst 3, 1) := by decide +kernel
theorem dX12_counts1_27 : decode cX12_counts1 27 = .ok (.iload_n 2, 1) := by decide +kernel
theorem dX12_counts1_28 : decode cX12_counts1 28 = .ok (.invokestatic 129, 3) := by decide +kernel
theorem dX12_counts1_31 : decode cX12_counts1 31 = .ok (.putfield 192, 3) := by decide +kernel
theorem dX12_counts1_34 : decode cX12_counts1 34 = .ok (.return_, 1) := by decide +kernel
theorem dX12_counts1_35 : decode cX12_counts1 35 = .ok (.aload_n 0, 1) := by decide +kernel
theorem dX12_counts1_36 : decode cX12_counts1 36 = .ok (.aload_n 0, 1) := by decide +kernel
theorem dX12_counts1_37 : decode cX12_counts1 37 = .ok (.getfield 192, 3) := by decide +kernel
theorem dX12_counts1_40 : decode cX12_counts1 40 = .ok (.bipush 6, 2) := by decide +kernel
theorem dX12_counts1_42 : decode cX12_counts1 42 = .ok (.iconst 1, 1) := by decide +kernel
theorem dX12_counts1_43 : decode cX12_counts1 43 = .ok (.invokestatic 142, 3) := by decide +kernel
theorem dX12_counts1_46 : decode cX12_counts1 46 = .ok (.iconst 1, 1) := by decide +kernel
theorem dX12_counts1_47 : decode cX12_counts1 47 = .ok (.if_icmp .ne 7, 3) := by decide +kernel
theorem dX12_counts1_50 : decode cX12_counts1 50 = .ok (.iconst 4, 1) := by decide +kernel
theorem dX12_counts1_51 : decode cX12_counts1 51 = .ok (.goto 4, 3) := by decide +kernel
theorem dX12_counts1_54 : decode cX12_counts1 54 = .ok (.iconst 5, 1) := by decide +kernel
theorem dX12_counts1_55 : decode cX12_counts1 55 = .ok (.putfield 195, 3) := by decide +kernel
theorem dX12_counts1_58 : decode cX12_counts1 58 = .ok (.aload_n 0, 1) := by decide +kernel
theorem dX12_counts1_59 : decode cX12_counts1 59 = .ok (.aload_n 0, 1) := by decide +kernel
theorem dX12_counts1_60 : decode cX12_counts1 60 = .ok (.getfield 192, 3) := by decide +kernel
theorem dX12_counts1_63 : decode cX12_counts1 63 = .ok (.iconst 0, 1) := by decide +kernel
theorem dX12_counts1_64 : decode cX12_counts1 64 = .ok (.iconst 2, 1) := by decide +kernel
theorem dX12_counts1_65 : decode cX12_counts1 65 = .ok (.aload_n 0, 1) := by decide +kernel
theorem dX12_counts1_66 : decode cX12_counts1 66 = .ok (.getfield 192, 3) := by decide +kernel
theorem dX12_counts1_69 : decode cX12_counts1 69 = .ok (.iconst 0, 1) := by decide +kernel
theorem dX12_counts1_70 : decode cX12_counts1 70 = .ok (.iconst 2, 1) := by decide +kernel
theorem dX12_counts1_71 : decode cX12_counts1 71 = .ok (.invokestatic 142, 3) := by decide +kernel
theorem dX12_counts1_74 : decode cX12_counts1 74 = .ok (.iconst 1, 1) := by decide +kernel
theorem dX12_counts1_75 : decode cX12_counts1 75 = .ok (.iadd, 1) := by decide +kernel
theorem dX12_counts1_76 : decode cX12_counts1 76 = .ok (.aload_n 0, 1) := by decide +kernel
theorem dX12_counts1_77 : decode cX12_counts1 77 = .ok (.getfield 13, 3) := by decide +kernel
theorem dX12_counts1_80 : decode cX12_counts1 80 = .ok (.irem, 1) := by decide +kernel
theorem dX12_counts1_81 : decode cX12_counts1 81 = .ok (.invokestatic 129, 3) := by decide +kernel
theorem dX12_counts1_84 : decode cX12_counts1 84 = .ok (.iconst 2, 1) := by decide +kernel
theorem dX12_counts1_85 : decode cX12_counts1 85 = .ok (.iconst 1, 1) := by decide +kernel
theorem dX12_counts1_86 : decode cX12_counts1 86 = .ok (.iload_n 1, 1) := by decide +kernel
theorem dX12_counts1_87 : decode cX12_counts1 87 = .ok (.invokestatic 129, 3) := by decide +kernel
theorem dX12_counts1_90 : decode cX12_counts1 90 = .ok (.iconst 3, 1) := by decide +kernel
theorem dX12_counts1_91 : decode cX12_counts1 91 = .ok (.iconst 3, 1) := by decide +kernel
theorem dX12_counts1_92 : decode cX12_counts1 92 = .ok (.iconst 0, 1) := by decide +kernel
theorem dX12_counts1_93 : decode cX12_counts1 93 = .ok (.invokestatic 129, 3) := by decide +kernel
theorem dX12_counts1_96 : decode cX12_counts1 96 = .ok (.bipush 6, 2) := by decide +kernel
theorem dX12_counts1_98 : decode cX12_counts1 98 = .ok (.iconst 1, 1) := by decide +kernel
theorem dX12_counts1_99 : decode cX12_counts1 99 = .ok (.iconst 0, 1) := by decide +kernel
theorem dX12_counts1_100 : decode cX12_counts1 100 = .ok (.invokestatic 129, 3) := by decide +kernel
theorem dX12_counts1_103 : decode cX12_counts1 103 = .ok (.putfield 192, 3) := by decide +kernel
theorem dX12_counts1_106 : decode cX12_counts1 106 = .ok (.return_, 1) := by decide +kernel
set_option maxHeartbeats 4000000 in
set_option maxRecDepth 100000 in
theorem kX12_counts1 {l : Launch} {D : va_G} {cy : Nat → ClassId} {N : Nat} {q : Nat → Nat} {m0 : Nat → Value} {a0 : Nat → vp_A} {sz : Nat} (hN : 105 ≤ N) (hsh : SH q m0) {x69_1 : Int32} (h_x69_1 : m0 6901 = .int x69_1) {x69_22 : Int32} (h_x69_22 : m0 6922 = .int x69_22) {x69_19 : Int64} (h_x69_19 : m0 6919 = .long x69_19) {x69_20 : Int32} (h_x69_20 : m0 6920 = .int x69_20) (p1 : Int32) {X0 : Int64 × Int32} (hs0 : fX12_counts1 x69_1 x69_22 x69_19 x69_20 p1 = some X0) : gMv l yX12_counts1 cX12_counts1 3 none ({ frames := 1, cells := 0, slots := 0, locals := 24 } : Room) D cy N q m0 a0 sz [.ref (q 69), .int p1] (fun m' a' => m' 6919 = .long X0.1 ∧ m' 6920 = .int X0.2 ∧ (∀ j, nel j [6919, 6920] = false → m' j = m0 j) ∧ a' = a0) := by
  refine g_ofv (by decide) (Nat.le_of_ble_eq_true rfl) ?_
  intro p e s M args below meth c hx hb hr hG hown hin hlocks hml hW hS ls hl
  unfold fX12_counts1 at hs0
  have hoff : ∀ j, nel j [6919, 6920] = false → m0 j = m0 j := off0
  have hJ55_0 : ∀ (v1j5 : Int32) (s0j5 : Int32) (x69_19j5 : Int64) (x69_20j5 : Int32) (m : Nat → Value) (H : Heap) (locs : List Loc) (w_x69_19 : m 6919 = .long x69_19j5) (w_x69_20 : m 6920 = .int x69_20j5) (hoff : ∀ j, nel j [6919, 6920] = false → m j = m0 j) (hsh : SH q m) (ls : Array Slot) (hl : lv_has ls 3 [(0, .ref (q 69)), (1, .int v1j5)]) (hs0 : fX12_counts1_J55 x69_1 x69_22 v1j5 s0j5 x69_19j5 x69_20j5 = some X0) (hW : GW D cy (gA N q s.heap.size) N q m a0 s H) (hS : va_S (gA N q s.heap.size) s.heap H locs), W p l e ({ frames := 1, cells := 0, slots := 0, locals := 24 } : Room) s M args below meth c H locs 0 0 (MQ below (va_Qv (fun (u : (Nat → Value) × (Nat → vp_A)) => u.1 6919 = .long X0.1 ∧ u.1 6920 = .int X0.2 ∧ (∀ j, nel j [6919, 6920] = false → u.1 j = m0 j) ∧ u.2 = a0) (gB D cy N q s.heap.size) (gA N q s.heap.size)) args s 0 0 (gA N q s.heap.size)) (F0 M 55 ls [.int s0j5, .ref (q 69)]) := by
    intro v1j5 s0j5 x69_19j5 x69_20j5 m H locs w_x69_19 w_x69_20 hoff hsh ls hl hs0 hW hS
    unfold fX12_counts1_J55 at hs0
    refine gp12_20 hx hb hG hown hW hS (o := 69) (ltN hN 69 rfl) gk69 (v := s0j5) gx508 dX12_counts1_55 (fun m8 H locs hm8 ho8 hW hS => ?_)
    have ho8 := off1 ho8
    have w_x69_19 : m8 6919 = .long x69_19j5 := (ho8 6919 rfl).trans w_x69_19
    have w_x69_20 : m8 6920 = .int s0j5 := hm8
    have hoff := offm hoff ho8 (by decide +kernel)
    have hsh := SH.off hsh ho8 (by decide +kernel)
    refine lv_aload_n hx hb dX12_counts1_58 rfl (lv_at hl 0 rfl) ?_
    refine lv_aload_n hx hb dX12_counts1_59 rfl (lv_at hl 0 rfl) ?_
    refine gf12_19 hx hb hG hown hW (o := 69) (ltN hN 69 rfl) gk69 (v := .long x69_19j5) w_x69_19 gx506 dX12_counts1_60 ?_
    refine lv_iconst (v := 0) hx hb dX12_counts1_63 (by decide) ?_
    refine lv_iconst (v := 2) hx hb dX12_counts1_64 (by decide) ?_
    refine lv_aload_n hx hb dX12_counts1_65 rfl (lv_at hl 0 rfl) ?_
    refine gf12_19 hx hb hG hown hW (o := 69) (ltN hN 69 rfl) gk69 (v := .long x69_19j5) w_x69_19 gx506 dX12_counts1_66 ?_
    refine lv_iconst (v := 0) hx hb dX12_counts1_69 (by decide) ?_
    refine lv_iconst (v := 2) hx hb dX12_counts1_70 (by decide) ?_
    refine g_SiR (n := 3) hx hb hml hown hG hW hS [.long x69_19j5, .int 0, .int 2] (kX12_get hN x69_19j5 0 2) rfl (gd_S gx304 gx305 gx5 gx306) rfl rfl (by decide) ⟨Nat.le_of_ble_eq_true rfl, Nat.le_of_ble_eq_true rfl⟩ rfl hl (Nat.le_of_ble_eq_true rfl) ⟨Nat.zero_le _, Nat.zero_le _⟩ dX12_counts1_71 (fun H locs hW hS => ?_)
    refine lv_iconst (v := 1) hx hb dX12_counts1_74 (by decide) ?_
    refine lv_iadd hx hb dX12_counts1_75 ?_
    refine lv_aload_n hx hb dX12_counts1_76 rfl (lv_at hl 0 rfl) ?_
    refine gf12_1 hx hb hG hown hW (o := 69) (ltN hN 69 rfl) gk69 (v := .int x69_1) ((hoff 6901 rfl).trans h_x69_1) gx163 dX12_counts1_77 ?_
    obtain ⟨hz10, hs0⟩ := oif hs0
    refine lv_irem hx hb dX12_counts1_80 hz10 ?_
    refine g_SlR (n := 4) hx hb hml hown hG hW hS [.long x69_19j5, .int 0, .int 2, .int (((fX12_get x69_19j5 0 2) + 1) - ((fX12_get x69_19j5 0 2) + 1) / x69_1 * x69_1)] (kX12_put hN x69_19j5 0 2 (((fX12_get x69_19j5 0 2) + 1) - ((fX12_get x69_19j5 0 2) + 1) / x69_1 * x69_1)) rfl (gd_S gx203 gx204 gx5 gx205) rfl rfl (by decide) ⟨Nat.le_of_ble_eq_true rfl, Nat.le_of_ble_eq_true rfl⟩ rfl hl (Nat.le_of_ble_eq_true rfl) ⟨Nat.zero_le _, Nat.zero_le _⟩ dX12_counts1_81 (fun H locs hW hS => ?_)
    refine lv_iconst (v := 2) hx hb dX12_counts1_84 (by decide) ?_
    refine lv_iconst (v := 1) hx hb dX12_counts1_85 (by decide) ?_
    refine lv_iload_n hx hb dX12_counts1_86 rfl (lv_at hl 1 rfl) ?_
    refine g_SlR (n := 4) hx hb hml hown hG hW hS [.long (fX12_put x69_19j5 0 2 (((fX12_get x69_19j5 0 2) + 1) - ((fX12_get x69_19j5 0 2) + 1) / x69_1 * x69_1)), .int 2, .int 1, .int v1j5] (kX12_put hN (fX12_put x69_19j5 0 2 (((fX12_get x69_19j5 0 2) + 1) - ((fX12_get x69_19j5 0 2) + 1) / x69_1 * x69_1)) 2 1 v1j5) rfl (gd_S gx203 gx204 gx5 gx205) rfl rfl (by decide) ⟨Nat.le_of_ble_eq_true rfl, Nat.le_of_ble_eq_true rfl⟩ rfl hl (Nat.le_of_ble_eq_true rfl) ⟨Nat.zero_le _, Nat.zero_le _⟩ dX12_counts1_87 (fun H locs hW hS => ?_)
    refine lv_iconst (v := 3) hx hb dX12_counts1_90 (by decide) ?_
    refine lv_iconst (v := 3) hx hb dX12_counts1_91 (by decide) ?_
    refine lv_iconst (v := 0) hx hb dX12_counts1_92 (by decide) ?_
    refine g_SlR (n := 4) hx hb hml hown hG hW hS [.long (fX12_put (fX12_put x69_19j5 0 2 (((fX12_get x69_19j5 0 2) + 1) - ((fX12_get x69_19j5 0 2) + 1) / x69_1 * x69_1)) 2 1 v1j5), .int 3, .int 3, .int 0] (kX12_put hN (fX12_put (fX12_put x69_19j5 0 2 (((fX12_get x69_19j5 0 2) + 1) - ((fX12_get x69_19j5 0 2) + 1) / x69_1 * x69_1)) 2 1 v1j5) 3 3 0) rfl (gd_S gx203 gx204 gx5 gx205) rfl rfl (by decide) ⟨Nat.le_of_ble_eq_true rfl, Nat.le_of_ble_eq_true rfl⟩ rfl hl (Nat.le_of_ble_eq_true rfl) ⟨Nat.zero_le _, Nat.zero_le _⟩ dX12_counts1_93 (fun H locs hW hS => ?_)
    refine lv_bipush (v := 6) hx hb dX12_counts1_96 (by decide) ?_
    refine lv_iconst (v := 1) hx hb dX12_counts1_98 (by decide) ?_
    refine lv_iconst (v := 0) hx hb dX12_counts1_99 (by decide) ?_
    refine g_SlR (n := 4) hx hb hml hown hG hW hS [.long (fX12_put (fX12_put (fX12_put x69_19j5 0 2 (((fX12_get x69_19j5 0 2) + 1) - ((fX12_get x69_19j5 0 2) + 1) / x69_1 * x69_1)) 2 1 v1j5) 3 3 0), .int 6, .int 1, .int 0] (kX12_put hN (fX12_put (fX12_put (fX12_put x69_19j5 0 2 (((fX12_get x69_19j5 0 2) + 1) - ((fX12_get x69_19j5 0 2) + 1) / x69_1 * x69_1)) 2 1 v1j5) 3 3 0) 6 1 0) rfl (gd_S gx203 gx204 gx5 gx205) rfl rfl (by decide) ⟨Nat.le_of_ble_eq_true rfl, Nat.le_of_ble_eq_true rfl⟩ rfl hl (Nat.le_of_ble_eq_true rfl) ⟨Nat.zero_le _, Nat.zero_le _⟩ dX12_counts1_100 (fun H locs hW hS => ?_)
    refine gp12_19 hx hb hG hown hW hS (o := 69) (ltN hN 69 rfl) gk69 (v := (fX12_put (fX12_put (fX12_put (fX12_put x69_19j5 0 2 (((fX12_get x69_19j5 0 2) + 1) - ((fX12_get x69_19j5 0 2) + 1) / x69_1 * x69_1)) 2 1 v1j5) 3 3 0) 6 1 0)) gx506 dX12_counts1_103 (fun m15 H locs hm15 ho15 hW hS => ?_)
    have ho15 := off1 ho15
    have w_x69_19 : m15 6919 = .long (fX12_put (fX12_put (fX12_put (fX12_put x69_19j5 0 2 (((fX12_get x69_19j5 0 2) + 1) - ((fX12_get x69_19j5 0 2) + 1) / x69_1 * x69_1)) 2 1 v1j5) 3 3 0) 6 1 0) := hm15
    have w_x69_20 : m15 6920 = .int s0j5 := (ho15 6920 rfl).trans w_x69_20
    have hoff := offm hoff ho15 (by decide +kernel)
    have hsh := SH.off hsh ho15 (by decide +kernel)
    have hs0 := Option.some.inj hs0
    subst hs0
    exact W.vret hx hb hr (fun t ht hw => ⟨⟨(m15, a0), rfl, ⟨w_x69_19, w_x69_20, hoff, rfl⟩, g_end hW ht hw⟩, hS.F ht⟩) hS.2.2 dX12_counts1_106 hlocks
  refine lv_aload_n hx hb dX12_counts1_0 rfl (lv_at hl 0 rfl) ?_
  refine gf12_19 hx hb hG hown hW (o := 69) (ltN hN 69 rfl) gk69 (v := .long x69_19) h_x69_19 gx506 dX12_counts1_1 ?_
  refine lv_iconst (v := 3) hx hb dX12_counts1_4 (by decide) ?_
  refine lv_iconst (v := 3) hx hb dX12_counts1_5 (by decide) ?_
  refine g_SiR (n := 3) hx hb hml hown hG hW hS [.long x69_19, .int 3, .int 3] (kX12_get hN x69_19 3 3) rfl (gd_S gx304 gx305 gx5 gx306) rfl rfl (by decide) ⟨Nat.le_of_ble_eq_true rfl, Nat.le_of_ble_eq_true rfl⟩ rfl hl (Nat.le_of_ble_eq_true rfl) ⟨Nat.zero_le _, Nat.zero_le _⟩ dX12_counts1_6 (fun H locs hW hS => ?_)
  refine lv_iconst (v := 1) hx hb dX12_counts1_9 (by decide) ?_
  refine lv_iadd hx hb dX12_counts1_10 ?_
  refine lv_istore_n (lv' := [(2, .int ((fX12_get x69_19 3 3) + 1)), (0, .ref (q 69)), (1, .int p1)]) hx hb dX12_counts1_11 rfl hl (by decide) rfl (fun ls hl => ?_)
  refine lv_iload_n hx hb dX12_counts1_12 rfl (lv_at hl 0 rfl) ?_
  refine lv_aload_n hx hb dX12_counts1_13 rfl (lv_at hl 1 rfl) ?_
  refine gf12_22 hx hb hG hown hW (o := 69) (ltN hN 69 rfl) gk69 (v := .int x69_22) ((hoff 6922 rfl).trans h_x69_22) gx505 dX12_counts1_14 ?_
  refine lv_icmp_ge (tgt := 35) hx hb dX12_counts1_17 (by decide) (fun c2 => ?_) (fun c2 => ?_)
  · rw [if_pos c2] at hs0
    refine lv_aload_n hx hb dX12_counts1_35 rfl (lv_at hl 1 rfl) ?_
    refine lv_aload_n hx hb dX12_counts1_36 rfl (lv_at hl 1 rfl) ?_
    refine gf12_19 hx hb hG hown hW (o := 69) (ltN hN 69 rfl) gk69 (v := .long x69_19) h_x69_19 gx506 dX12_counts1_37 ?_
    refine lv_bipush (v := 6) hx hb dX12_counts1_40 (by decide) ?_
    refine lv_iconst (v := 1) hx hb dX12_counts1_42 (by decide) ?_
    refine g_SiR (n := 3) hx hb hml hown hG hW hS [.long x69_19, .int 6, .int 1] (kX12_get hN x69_19 6 1) rfl (gd_S gx304 gx305 gx5 gx306) rfl rfl (by decide) ⟨Nat.le_of_ble_eq_true rfl, Nat.le_of_ble_eq_true rfl⟩ rfl hl (Nat.le_of_ble_eq_true rfl) ⟨Nat.zero_le _, Nat.zero_le _⟩ dX12_counts1_43 (fun H locs hW hS => ?_)
    refine lv_iconst (v := 1) hx hb dX12_counts1_46 (by decide) ?_
    refine lv_icmp_ne (tgt := 54) hx hb dX12_counts1_47 (by decide) (fun c4 => ?_) (fun c4 => ?_)
    · rw [if_neg c4] at hs0
      refine lv_iconst (v := 5) hx hb dX12_counts1_54 (by decide) ?_
      exact hJ55_0 p1 5 x69_19 x69_20 m0 _ _ h_x69_19 h_x69_20 hoff hsh ls (lv_sub hl [1, 2] rfl) hs0 hW hS
    · rw [if_pos c4] at hs0
      refine lv_iconst (v := 4) hx hb dX12_counts1_50 (by decide) ?_
      refine lv_goto (tgt := 55) hx hb dX12_counts1_51 (by decide) ?_
      exact hJ55_0 p1 4 x69_19 x69_20 m0 _ _ h_x69_19 h_x69_20 hoff hsh ls (lv_sub hl [1, 2] rfl) hs0 hW hS
  · rw [if_neg c2] at hs0
    refine lv_aload_n hx hb dX12_counts1_20 rfl (lv_at hl 1 rfl) ?_
    refine lv_aload_n hx hb dX12_counts1_21 rfl (lv_at hl 1 rfl) ?_
    refine gf12_19 hx hb hG hown hW (o := 69) (ltN hN 69 rfl) gk69 (v := .long x69_19) h_x69_19 gx506 dX12_counts1_22 ?_
    refine lv_iconst (v := 3) hx hb dX12_counts1_25 (by decide) ?_
    refine lv_iconst (v := 3) hx hb dX12_counts1_26 (by decide) ?_
    refine lv_iload_n hx hb dX12_counts1_27 rfl (lv_at hl 0 rfl) ?_
    refine g_SlR (n := 4) hx hb hml hown hG hW hS [.long x69_19, .int 3, .int 3, .int ((fX12_get x69_19 3 3) + 1)] (kX12_put hN x69_19 3 3 ((fX12_get x69_19 3 3) + 1)) rfl (gd_S gx203 gx204 gx5 gx205) rfl rfl (by decide) ⟨Nat.le_of_ble_eq_true rfl, Nat.le_of_ble_eq_true rfl⟩ rfl hl (Nat.le_of_ble_eq_true rfl) ⟨Nat.zero_le _, Nat.zero_le _⟩ dX12_counts1_28 (fun H locs hW hS => ?_)
    refine gp12_19 hx hb hG hown hW hS (o := 69) (ltN hN 69 rfl) gk69 (v := (fX12_put x69_19 3 3 ((fX12_get x69_19 3 3) + 1))) gx506 dX12_counts1_31 (fun m7 H locs hm7 ho7 hW hS => ?_)
    have ho7 := off1 ho7
    have w_x69_19 : m7 6919 = .long (fX12_put x69_19 3 3 ((fX12_get x69_19 3 3) + 1)) := hm7
    have w_x69_20 : m7 6920 = .int x69_20 := (ho7 6920 rfl).trans h_x69_20
    have hoff := offm hoff ho7 (by decide +kernel)
    have hsh := SH.off hsh ho7 (by decide +kernel)
    have hs0 := Option.some.inj hs0
    subst hs0
    exact W.vret hx hb hr (fun t ht hw => ⟨⟨(m7, a0), rfl, ⟨w_x69_19, w_x69_20, hoff, rfl⟩, g_end hW ht hw⟩, hS.F ht⟩) hS.2.2 dX12_counts1_34 hlocks
-- HealLinkModel.does (JIIII)V
def fX12_does_J156 (F : Nat) (x69_0 : Int32) (x69_1 : Int32) (x69_3 : Int32) (x69_22 : Int32) (v4j42 : Int32) (s0j42 : Int32) (x69_19j42 : Int64) (x69_20j42 : Int32) (x69_21j42 : Int32) : Option (Int64 × Int32 × Int32) := (if bzb s0j42 = true then (if s0j42 = 0 then some ((fX12_more x69_19j42 (fX12_letterAt v4j42) 1), x69_20j42, s0j42) else some (x69_19j42, x69_20j42, s0j42)) else none)
def fX12_does_J136 (F : Nat) (x69_0 : Int32) (x69_1 : Int32) (x69_3 : Int32) (x69_22 : Int32) (v4j14 : Int32) (x69_19j14 : Int64) (x69_20j14 : Int32) (x69_21j14 : Int32) : Option (Int64 × Int32 × Int32) := ((fX12_lettersOf F x69_19j14).bind (fun r40 => (if r40 = x69_0 then fX12_does_J156 F x69_0 x69_1 x69_3 x69_22 v4j14 1 x69_19j14 x69_20j14 x69_21j14 else fX12_does_J156 F x69_0 x69_1 x69_3 x69_22 v4j14 0 x69_19j14 x69_20j14 x69_21j14)))
def fX12_does_J65 (F : Nat) (x69_0 : Int32) (x69_1 : Int32) (x69_3 : Int32) (x69_22 : Int32) (v1j7 : Int64) (s0j7 : Int32) (x69_19j7 : Int64) (x69_20j7 : Int32) (x69_21j7 : Int32) : Option (Int64 × Int32 × Int32) := (if bzb s0j7 = true then (if s0j7 = 0 then some ((fX12_more v1j7 (fX12_packetAt (fX12_get v1j7 0 2) (fX12_get v1j7 2 1)) 1), x69_20j7, s0j7) else some (x69_19j7, x69_20j7, s0j7)) else none)
def fX12_does (F : Nat) (x69_0 : Int32) (x69_1 : Int32) (x69_3 : Int32) (x69_22 : Int32) (x69_19 : Int64) (x69_20 : Int32) (x69_21 : Int32) (p1 : Int64) (p3 : Int32) (p4 : Int32) (p5 : Int32) (p6 : Int32) : Option (Int64 × Int32 × Int32) := (if p3 = 0 then ((fX12_packetsOf F p1).bind (fun r5 => (if r5 = x69_0 then fX12_does_J65 F x69_0 x69_1 x69_3 x69_22 p1 1 p1 0 0 else fX12_does_J65 F x69_0 x69_1 x69_3 x69_22 p1 0 p1 0 0))) else (if p3 = 1 then (if p4 = (fX12_get p1 7 2) then fX12_does_J136 F x69_0 x69_1 x69_3 x69_22 p4 (fX12_more p1 (fX12_packetAt p4 p5) (-1)) 0 0 else ((fX12_sees F x69_3 (fX12_more p1 (fX12_packetAt p4 p5) (-1)) 0 p4 p5).bind (fun r15 => fX12_does_J136 F x69_0 x69_1 x69_3 x69_22 p4 r15.1 r15.2 0))) else (if p3 = 2 then (if p4 = (fX12_get p1 0 2) then ((fX12_counts1 x69_1 x69_22 (fX12_more p1 (fX12_letterAt p4) (-1)) 0 p6).bind (fun r22 => some (r22.1, r22.2, 0))) else some ((fX12_more p1 (fX12_letterAt p4) (-1)), 0, 0)) else (if p3 = 3 then some ((fX12_more p1 (fX12_packetAt p4 p5) (-1)), 0, 1) else some ((fX12_more p1 (fX12_letterAt p4) (-1)), 0, 1)))))
theorem dX12_does_0 : decode cX12_does 0 = .ok (.aload_n 0, 1) := by decide +kernel
theorem dX12_does_1 : decode cX12_does 1 = .ok (.lload_n 1, 1) := by decide +kernel
theorem dX12_does_2 : decode cX12_does 2 = .ok (.putfield 192, 3) := by decide +kernel
theorem dX12_does_5 : decode cX12_does 5 = .ok (.aload_n 0, 1) := by decide +kernel
theorem dX12_does_6 : decode cX12_does 6 = .ok (.iconst 0, 1) := by decide +kernel
theorem dX12_does_7 : decode cX12_does 7 = .ok (.putfield 195, 3) := by decide +kernel
theorem dX12_does_10 : decode cX12_does 10 = .ok (.aload_n 0, 1) := by decide +kernel
theorem dX12_does_11 : decode cX12_does 11 = .ok (.iconst 0, 1) := by decide +kernel
theorem dX12_does_12 : decode cX12_does 12 = .ok (.putfield 198, 3) := by decide +kernel
theorem dX12_does_15 : decode cX12_does 15 = .ok (.iload_n 3, 1) := by decide +kernel
theorem dX12_does_16 : decode cX12_does 16 = .ok (.tableswitch 222 0 3 #[32, 84, 168, 200], 32) := by decide +kernel
theorem dX12_does_48 : decode cX12_does 48 = .ok (.aload_n 0, 1) := by decide +kernel
theorem dX12_does_49 : decode cX12_does 49 = .ok (.lload_n 1, 1) := by decide +kernel
theorem dX12_does_50 : decode cX12_does 50 = .ok (.invokestatic 181, 3) := by decide +kernel
theorem dX12_does_53 : decode cX12_does 53 = .ok (.aload_n 0, 1) := by decide +kernel
theorem dX12_does_54 : decode cX12_does 54 = .ok (.getfield 7, 3) := by decide +kernel
theorem dX12_does_57 : decode cX12_does 57 = .ok (.if_icmp .ne 7, 3) := by decide +kernel
theorem dX12_does_60 : decode cX12_does 60 = .ok (.iconst 1, 1) := by decide +kernel
theorem dX12_does_61 : decode cX12_does 61 = .ok (.goto 4, 3) := by decide +kernel
theorem dX12_does_64 : decode cX12_does 64 = .ok (.iconst 0, 1) := by decide +kernel
theorem dX12_does_65 : decode cX12_does 65 = .ok (.putfield 198, 3) := by decide +kernel
theorem dX12_does_68 : decode cX12_does 68 = .ok (.aload_n 0, 1) := by decide +kernel
theorem dX12_does_69 : decode cX12_does 69 = .ok (.getfield 198, 3) := by decide +kernel
theorem dX12_does_72 : decode cX12_does 72 = .ok (.ifCond .ne 27, 3) := by decide +kernel
theorem dX12_does_75 : decode cX12_does 75 = .ok (.aload_n 0, 1) := by decide +kernel
theorem dX12_does_76 : decode cX12_does 76 = .ok (.lload_n 1, 1) := by decide +kernel
theorem dX12_does_77 : decode cX12_does 77 = .ok (.lload_n 1, 1) := by decide +kernel
theorem dX12_does_78 : decode cX12_does 78 = .ok (.iconst 0, 1) := by decide +kernel
theorem dX12_does_79 : decode cX12_does 79 = .ok (.iconst 2, 1) := by decide +kernel
theorem dX12_does_80 : decode cX12_does 80 = .ok (.invokestatic 142, 3) := by decide +kernel
theorem dX12_does_83 : decode cX12_does 83 = .ok (.lload_n 1, 1) := by decide +kernel
theorem dX12_does_84 : decode cX12_does 84 = .ok (.iconst 2, 1) := by decide +kernel
theorem dX12_does_85 : decode cX12_does 85 = .ok (.iconst 1, 1) := by decide +kernel
theorem dX12_does_86 : decode cX12_does 86 = .ok (.invokestatic 142, 3) := by decide +kernel
theorem dX12_does_89 : decode cX12_does 89 = .ok (.invokestatic 178, 3) := by decide +kernel
theorem dX12_does_92 : decode cX12_does 92 = .ok (.iconst 1, 1) := by decide +kernel
theorem dX12_does_93 : decode cX12_does 93 = .ok (.invokestatic 201, 3) := by decide +kernel
theorem dX12_does_96 : decode cX12_does 96 = .ok (.putfield 192, 3) := by decide +kernel
theorem dX12_does_99 : decode cX12_does 99 = .ok (.return_, 1) := by decide +kernel
theorem dX12_does_100 : decode cX12_does 100 = .ok (.aload_n 0, 1) := by decide +kernel
theorem dX12_does_101 : decode cX12_does 101 = .ok (.lload_n 1, 1) := by decide +kernel
theorem dX12_does_102 : decode cX12_does 102 = .ok (.iload 4, 2) := by decide +kernel
theorem dX12_does_104 : decode cX12_does 104 = .ok (.iload 5, 2) := by decide +kernel
theorem dX12_does_106 : decode cX12_does 106 = .ok (.invokestatic 178, 3) := by decide +kernel
theorem dX12_does_109 : decode cX12_does 109 = .ok (.iconst (-1), 1) := by decide +kernel
theorem dX12_does_110 : decode cX12_does 110 = .ok (.invokestatic 201, 3) := by decide +kernel
theorem dX12_does_113 : decode cX12_does 113 = .ok (.putfield 192, 3) := by decide +kernel
theorem dX12_does_116 : decode cX12_does 116 = .ok (.iload 4, 2) := by decide +kernel
theorem dX12_does_118 : decode cX12_does 118 = .ok (.lload_n 1, 1) := by decide +kernel
theorem dX12_does_119 : decode cX12_does 119 = .ok (.bipush 7, 2) := by decide +kernel
theorem dX12_does_121 : decode cX12_does 121 = .ok (.iconst 2, 1) := by decide +kernel
theorem dX12_does_122 : decode cX12_does 122 = .ok (.invokestatic 142, 3) := by decide +kernel
theorem dX12_does_125 : decode cX12_does 125 = .ok (.if_icmp .eq 11, 3) := by decide +kernel
theorem dX12_does_128 : decode cX12_does 128 = .ok (.aload_n 0, 1) := by decide +kernel
theorem dX12_does_129 : decode cX12_does 129 = .ok (.iload 4, 2) := by decide +kernel
theorem dX12_does_131 : decode cX12_does 131 = .ok (.iload 5, 2) := by decide +kernel
theorem dX12_does_133 : decode cX12_does 133 = .ok (.invokevirtual 205, 3) := by decide +kernel
theorem dX12_does_136 : decode cX12_does 136 = .ok (.aload_n 0, 1) := by decide +kernel
theorem dX12_does_137 : decode cX12_does 137 = .ok (.aload_n 0, 1) := by decide +kernel
theorem dX12_does_138 : decode cX12_does 138 = .ok (.getfield 192, 3) := by decide +kernel
theorem dX12_does_141 : decode cX12_does 141 = .ok (.invokestatic 189, 3) := by decide +kernel
theorem dX12_does_144 : decode cX12_does 144 = .ok (.aload_n 0, 1) := by decide +kernel
theorem dX12_does_145 : decode cX12_does 145 = .ok (.getfield 7, 3) := by decide +kernel
theorem dX12_does_148 : decode cX12_does 148 = .ok (.if_icmp .ne 7, 3) := by decide +kernel
theorem dX12_does_151 : decode cX12_does 151 = .ok (.iconst 1, 1) := by decide +kernel
theorem dX12_does_152 : decode cX12_does 152 = .ok (.goto 4, 3) := by decide +kernel
theorem dX12_does_155 : decode cX12_does 155 = .ok (.iconst 0, 1) := by decide +kernel
theorem dX12_does_156 : decode cX12_does 156 = .ok (.putfield 198, 3) := by decide +kernel
theorem dX12_does_159 : decode cX12_does 159 = .ok (.aload_n 0, 1) := by decide +kernel
theorem dX12_does_160 : decode cX12_does 160 = .ok (.getfield 198, 3) := by decide +kernel
theorem dX12_does_163 : decode cX12_does 163 = .ok (.ifCond .ne 20, 3) := by decide +kernel
theorem dX12_does_166 : decode cX12_does 166 = .ok (.aload_n 0, 1) := by decide +kernel
theorem dX12_does_167 : decode cX12_does 167 = .ok (.aload_n 0, 1) := by decide +kernel
theorem dX12_does_168 : decode cX12_does 168 = .ok (.getfield 192, 3) := by decide +kernel
theorem dX12_does_171 : decode cX12_does 171 = .ok (.iload 4, 2) := by decide +kernel
theorem dX12_does_173 : decode cX12_does 173 = .ok (.invokestatic 185, 3) := by decide +kernel
theorem dX12_does_176 : decode cX12_does 176 = .ok (.iconst 1, 1) := by decide +kernel
theorem dX12_does_177 : decode cX12_does 177 = .ok (.invokestatic 201, 3) := by decide +kernel
theorem dX12_does_180 : decode cX12_does 180 = .ok (.putfield 192, 3) := by decide +kernel
theorem dX12_does_183 : decode cX12_does 183 = .ok (.return_, 1) := by decide +kernel
theorem dX12_does_184 : decode cX12_does 184 = .ok (.aload_n 0, 1) := by decide +kernel
theorem dX12_does_185 : decode cX12_does 185 = .ok (.lload_n 1, 1) := by decide +kernel
theorem dX12_does_186 : decode cX12_does 186 = .ok (.iload 4, 2) := by decide +kernel
theorem dX12_does_188 : decode cX12_does 188 = .ok (.invokestatic 185, 3) := by decide +kernel
theorem dX12_does_191 : decode cX12_does 191 = .ok (.iconst (-1), 1) := by decide +kernel
theorem dX12_does_192 : decode cX12_does 192 = .ok (.invokestatic 201, 3) := by decide +kernel
theorem dX12_does_195 : decode cX12_does 195 = .ok (.putfield 192, 3) := by decide +kernel
theorem dX12_does_198 : decode cX12_does 198 = .ok (.iload 4, 2) := by decide +kernel
theorem dX12_does_200 : decode cX12_does 200 = .ok (.lload_n 1, 1) := by decide +kernel
theorem dX12_does_201 : decode cX12_does 201 = .ok (.iconst 0, 1) := by decide +kernel
theorem dX12_does_202 : decode cX12_does 202 = .ok (.iconst 2, 1) := by decide +kernel
theorem dX12_does_203 : decode cX12_does 203 = .ok (.invokestatic 142, 3) := by decide +kernel
theorem dX12_does_206 : decode cX12_does 206 = .ok (.if_icmp .ne 9, 3) := by decide +kernel
theorem dX12_does_209 : decode cX12_does 209 = .ok (.aload_n 0, 1) := by decide +kernel
theorem dX12_does_210 : decode cX12_does 210 = .ok (.iload 6, 2) := by decide +kernel
theorem dX12_does_212 : decode cX12_does 212 = .ok (.invokevirtual 209, 3) := by decide +kernel
theorem dX12_does_215 : decode cX12_does 215 = .ok (.return_, 1) := by decide +kernel
theorem dX12_does_216 : decode cX12_does 216 = .ok (.aload_n 0, 1) := by decide +kernel
theorem dX12_does_217 : decode cX12_does 217 = .ok (.lload_n 1, 1) := by decide +kernel
theorem dX12_does_218 : decode cX12_does 218 = .ok (.iload 4, 2) := by decide +kernel
theorem dX12_does_220 : decode cX12_does 220 = .ok (.iload 5, 2) := by decide +kernel
theorem dX12_does_222 : decode cX12_does 222 = .ok (.invokestatic 178, 3) := by decide +kernel
theorem dX12_does_225 : decode cX12_does 225 = .ok (.iconst (-1), 1) := by decide +kernel
theorem dX12_does_226 : decode cX12_does 226 = .ok (.invokestatic 201, 3) := by decide +kernel
theorem dX12_does_229 : decode cX12_does 229 = .ok (.putfield 192, 3) := by decide +kernel
theorem dX12_does_232 : decode cX12_does 232 = .ok (.aload_n 0, 1) := by decide +kernel
theorem dX12_does_233 : decode cX12_does 233 = .ok (.iconst 1, 1) := by decide +kernel
theorem dX12_does_234 : decode cX12_does 234 = .ok (.putfield 198, 3) := by decide +kernel
theorem dX12_does_237 : decode cX12_does 237 = .ok (.return_, 1) := by decide +kernel
theorem dX12_does_238 : decode cX12_does 238 = .ok (.aload_n 0, 1) := by decide +kernel
theorem dX12_does_239 : decode cX12_does 239 = .ok (.lload_n 1, 1) := by decide +kernel
theorem dX12_does_240 : decode cX12_does 240 = .ok (.iload 4, 2) := by decide +kernel
theorem dX12_does_242 : decode cX12_does 242 = .ok (.invokestatic 185, 3) := by decide +kernel
theorem dX12_does_245 : decode cX12_does 245 = .ok (.iconst (-1), 1) := by decide +kernel
theorem dX12_does_246 : decode cX12_does 246 = .ok (.invokestatic 201, 3) := by decide +kernel
theorem dX12_does_249 : decode cX12_does 249 = .ok (.putfield 192, 3) := by decide +kernel
theorem dX12_does_252 : decode cX12_does 252 = .ok (.aload_n 0, 1) := by decide +kernel
theorem dX12_does_253 : decode cX12_does 253 = .ok (.iconst 1, 1) := by decide +kernel
theorem dX12_does_254 : decode cX12_does 254 = .ok (.putfield 198, 3) := by decide +kernel
theorem dX12_does_257 : decode cX12_does 257 = .ok (.return_, 1) := by decide +kernel
set_option maxHeartbeats 4000000 in
set_option maxRecDepth 100000 in
theorem kX12_does {l : Launch} {D : va_G} {cy : Nat → ClassId} {N : Nat} {q : Nat → Nat} {m0 : Nat → Value} {a0 : Nat → vp_A} {sz : Nat} (hN : 105 ≤ N) (hsh : SH q m0) {x69_0 : Int32} (h_x69_0 : m0 6900 = .int x69_0) {x69_1 : Int32} (h_x69_1 : m0 6901 = .int x69_1) {x69_3 : Int32} (h_x69_3 : m0 6903 = .int x69_3) {x69_22 : Int32} (h_x69_22 : m0 6922 = .int x69_22) {x69_19 : Int64} (h_x69_19 : m0 6919 = .long x69_19) {x69_20 : Int32} (h_x69_20 : m0 6920 = .int x69_20) {x69_21 : Int32} (h_x69_21 : m0 6921 = .int x69_21) (F : Nat) (p1 : Int64) (p3 : Int32) (p4 : Int32) (p5 : Int32) (p6 : Int32) {X0 : Int64 × Int32 × Int32} (hs0 : fX12_does F x69_0 x69_1 x69_3 x69_22 x69_19 x69_20 x69_21 p1 p3 p4 p5 p6 = some X0) : gMv l yX12_does cX12_does 7 none ({ frames := 2, cells := 0, slots := 0, locals := 48 } : Room) D cy N q m0 a0 sz [.ref (q 69), .long p1, .int p3, .int p4, .int p5, .int p6] (fun m' a' => m' 6919 = .long X0.1 ∧ m' 6920 = .int X0.2.1 ∧ m' 6921 = .int X0.2.2 ∧ (∀ j, nel j [6919, 6920, 6921] = false → m' j = m0 j) ∧ a' = a0) := by
  refine g_ofv (by decide) (Nat.le_of_ble_eq_true rfl) ?_
  intro p e s M args below meth c hx hb hr hG hown hin hlocks hml hW hS ls hl
  unfold fX12_does at hs0
  have hoff : ∀ j, nel j [6919, 6920, 6921] = false → m0 j = m0 j := off0
  have hJ156_0 : ∀ (v4j42 : Int32) (s0j42 : Int32) (x69_19j42 : Int64) (x69_20j42 : Int32) (x69_21j42 : Int32) (m : Nat → Value) (H : Heap) (locs : List Loc) (w_x69_19 : m 6919 = .long x69_19j42) (w_x69_20 : m 6920 = .int x69_20j42) (w_x69_21 : m 6921 = .int x69_21j42) (hoff : ∀ j, nel j [6919, 6920, 6921] = false → m j = m0 j) (hsh : SH q m) (ls : Array Slot) (hl : lv_has ls 7 [(0, .ref (q 69)), (4, .int v4j42)]) (hs0 : fX12_does_J156 F x69_0 x69_1 x69_3 x69_22 v4j42 s0j42 x69_19j42 x69_20j42 x69_21j42 = some X0) (hW : GW D cy (gA N q s.heap.size) N q m a0 s H) (hS : va_S (gA N q s.heap.size) s.heap H locs), W p l e ({ frames := 2, cells := 0, slots := 0, locals := 48 } : Room) s M args below meth c H locs 0 0 (MQ below (va_Qv (fun (u : (Nat → Value) × (Nat → vp_A)) => u.1 6919 = .long X0.1 ∧ u.1 6920 = .int X0.2.1 ∧ u.1 6921 = .int X0.2.2 ∧ (∀ j, nel j [6919, 6920, 6921] = false → u.1 j = m0 j) ∧ u.2 = a0) (gB D cy N q s.heap.size) (gA N q s.heap.size)) args s 0 0 (gA N q s.heap.size)) (F0 M 156 ls [.int s0j42, .ref (q 69)]) := by
    intro v4j42 s0j42 x69_19j42 x69_20j42 x69_21j42 m H locs w_x69_19 w_x69_20 w_x69_21 hoff hsh ls hl hs0 hW hS
    unfold fX12_does_J156 at hs0
    obtain ⟨hz43, hs0⟩ := oif hs0
    refine gp12_21 hx hb hG hown hW hS (o := 69) (ltN hN 69 rfl) gk69 (v := s0j42) hz43 gx507 dX12_does_156 (fun m44 H locs hm44 ho44 hW hS => ?_)
    have ho44 := off1 ho44
    have w_x69_19 : m44 6919 = .long x69_19j42 := (ho44 6919 rfl).trans w_x69_19
    have w_x69_20 : m44 6920 = .int x69_20j42 := (ho44 6920 rfl).trans w_x69_20
    have w_x69_21 : m44 6921 = .int s0j42 := hm44
    have hoff := offm hoff ho44 (by decide +kernel)
    have hsh := SH.off hsh ho44 (by decide +kernel)
    refine lv_aload_n hx hb dX12_does_159 rfl (lv_at hl 0 rfl) ?_
    refine gf12_21 hx hb hG hown hW (o := 69) (ltN hN 69 rfl) gk69 (v := .int s0j42) w_x69_21 gx507 dX12_does_160 ?_
    refine lv_if_ne (tgt := 183) hx hb dX12_does_163 (by decide) (fun c45 => ?_) (fun c45 => ?_)
    · rw [if_neg c45] at hs0
      have hs0 := Option.some.inj hs0
      subst hs0
      exact W.vret hx hb hr (fun t ht hw => ⟨⟨(m44, a0), rfl, ⟨w_x69_19, w_x69_20, w_x69_21, hoff, rfl⟩, g_end hW ht hw⟩, hS.F ht⟩) hS.2.2 dX12_does_183 hlocks
    · rw [if_pos c45] at hs0
      refine lv_aload_n hx hb dX12_does_166 rfl (lv_at hl 0 rfl) ?_
      refine lv_aload_n hx hb dX12_does_167 rfl (lv_at hl 0 rfl) ?_
      refine gf12_19 hx hb hG hown hW (o := 69) (ltN hN 69 rfl) gk69 (v := .long x69_19j42) w_x69_19 gx506 dX12_does_168 ?_
      refine lv_iload hx hb dX12_does_171 (lv_at hl 1 rfl) ?_
      refine g_SiR (n := 1) hx hb hml hown hG hW hS [.int v4j42] (kX12_letterAt hN v4j42) rfl (gd_S gx380 gx381 gx5 gx382) rfl rfl (by decide) ⟨Nat.le_of_ble_eq_true rfl, Nat.le_of_ble_eq_true rfl⟩ rfl hl (Nat.le_of_ble_eq_true rfl) ⟨Nat.zero_le _, Nat.zero_le _⟩ dX12_does_173 (fun H locs hW hS => ?_)
      refine lv_iconst (v := 1) hx hb dX12_does_176 (by decide) ?_
      refine g_SlR (n := 3) hx hb hml hown hG hW hS [.long x69_19j42, .int (fX12_letterAt v4j42), .int 1] (kX12_more hN x69_19j42 (fX12_letterAt v4j42) 1) rfl (gd_S gx513 gx514 gx5 gx515) rfl rfl (by decide) ⟨Nat.le_of_ble_eq_true rfl, Nat.le_of_ble_eq_true rfl⟩ rfl hl (Nat.le_of_ble_eq_true rfl) ⟨Nat.zero_le _, Nat.zero_le _⟩ dX12_does_177 (fun H locs hW hS => ?_)
      refine gp12_19 hx hb hG hown hW hS (o := 69) (ltN hN 69 rfl) gk69 (v := (fX12_more x69_19j42 (fX12_letterAt v4j42) 1)) gx506 dX12_does_180 (fun m48 H locs hm48 ho48 hW hS => ?_)
      have ho48 := off1 ho48
      have w_x69_19 : m48 6919 = .long (fX12_more x69_19j42 (fX12_letterAt v4j42) 1) := hm48
      have w_x69_20 : m48 6920 = .int x69_20j42 := (ho48 6920 rfl).trans w_x69_20
      have w_x69_21 : m48 6921 = .int s0j42 := (ho48 6921 rfl).trans w_x69_21
      have hoff := offm hoff ho48 (by decide +kernel)
      have hsh := SH.off hsh ho48 (by decide +kernel)
      have hs0 := Option.some.inj hs0
      subst hs0
      exact W.vret hx hb hr (fun t ht hw => ⟨⟨(m48, a0), rfl, ⟨w_x69_19, w_x69_20, w_x69_21, hoff, rfl⟩, g_end hW ht hw⟩, hS.F ht⟩) hS.2.2 dX12_does_183 hlocks
  have hJ136_0 : ∀ (v4j14 : Int32) (x69_19j14 : Int64) (x69_20j14 : Int32) (x69_21j14 : Int32) (m : Nat → Value) (H : Heap) (locs : List Loc) (w_x69_19 : m 6919 = .long x69_19j14) (w_x69_20 : m 6920 = .int x69_20j14) (w_x69_21 : m 6921 = .int x69_21j14) (hoff : ∀ j, nel j [6919, 6920, 6921] = false → m j = m0 j) (hsh : SH q m) (ls : Array Slot) (hl : lv_has ls 7 [(0, .ref (q 69)), (4, .int v4j14)]) (hs0 : fX12_does_J136 F x69_0 x69_1 x69_3 x69_22 v4j14 x69_19j14 x69_20j14 x69_21j14 = some X0) (hW : GW D cy (gA N q s.heap.size) N q m a0 s H) (hS : va_S (gA N q s.heap.size) s.heap H locs), W p l e ({ frames := 2, cells := 0, slots := 0, locals := 48 } : Room) s M args below meth c H locs 0 0 (MQ below (va_Qv (fun (u : (Nat → Value) × (Nat → vp_A)) => u.1 6919 = .long X0.1 ∧ u.1 6920 = .int X0.2.1 ∧ u.1 6921 = .int X0.2.2 ∧ (∀ j, nel j [6919, 6920, 6921] = false → u.1 j = m0 j) ∧ u.2 = a0) (gB D cy N q s.heap.size) (gA N q s.heap.size)) args s 0 0 (gA N q s.heap.size)) (F0 M 136 ls []) := by
    intro v4j14 x69_19j14 x69_20j14 x69_21j14 m H locs w_x69_19 w_x69_20 w_x69_21 hoff hsh ls hl hs0 hW hS
    unfold fX12_does_J136 at hs0
    refine lv_aload_n hx hb dX12_does_136 rfl (lv_at hl 0 rfl) ?_
    refine lv_aload_n hx hb dX12_does_137 rfl (lv_at hl 0 rfl) ?_
    refine gf12_19 hx hb hG hown hW (o := 69) (ltN hN 69 rfl) gk69 (v := .long x69_19j14) w_x69_19 gx506 dX12_does_138 ?_
    obtain ⟨r40, hf40, hs0⟩ := obind hs0
    refine g_SiR (n := 1) hx hb hml hown hG hW hS [.long x69_19j14] (kX12_lettersOf hN F x69_19j14 hf40) rfl (gd_S gx383 gx384 gx5 gx385) rfl rfl (by decide) ⟨Nat.le_of_ble_eq_true rfl, Nat.le_of_ble_eq_true rfl⟩ rfl hl (Nat.le_of_ble_eq_true rfl) ⟨Nat.zero_le _, Nat.zero_le _⟩ dX12_does_141 (fun H locs hW hS => ?_)
    refine lv_aload_n hx hb dX12_does_144 rfl (lv_at hl 0 rfl) ?_
    refine gf12_0 hx hb hG hown hW (o := 69) (ltN hN 69 rfl) gk69 (v := .int x69_0) ((hoff 6900 rfl).trans h_x69_0) gx162 dX12_does_145 ?_
    refine lv_icmp_ne (tgt := 155) hx hb dX12_does_148 (by decide) (fun c41 => ?_) (fun c41 => ?_)
    · rw [if_neg c41] at hs0
      refine lv_iconst (v := 0) hx hb dX12_does_155 (by decide) ?_
      exact hJ156_0 v4j14 0 x69_19j14 x69_20j14 x69_21j14 m _ _ w_x69_19 w_x69_20 w_x69_21 hoff hsh ls (lv_sub hl [0, 1] rfl) hs0 hW hS
    · rw [if_pos c41] at hs0
      refine lv_iconst (v := 1) hx hb dX12_does_151 (by decide) ?_
      refine lv_goto (tgt := 156) hx hb dX12_does_152 (by decide) ?_
      exact hJ156_0 v4j14 1 x69_19j14 x69_20j14 x69_21j14 m _ _ w_x69_19 w_x69_20 w_x69_21 hoff hsh ls (lv_sub hl [0, 1] rfl) hs0 hW hS
  have hJ65_0 : ∀ (v1j7 : Int64) (s0j7 : Int32) (x69_19j7 : Int64) (x69_20j7 : Int32) (x69_21j7 : Int32) (m : Nat → Value) (H : Heap) (locs : List Loc) (w_x69_19 : m 6919 = .long x69_19j7) (w_x69_20 : m 6920 = .int x69_20j7) (w_x69_21 : m 6921 = .int x69_21j7) (hoff : ∀ j, nel j [6919, 6920, 6921] = false → m j = m0 j) (hsh : SH q m) (ls : Array Slot) (hl : lv_has ls 7 [(0, .ref (q 69)), (1, .long v1j7)]) (hs0 : fX12_does_J65 F x69_0 x69_1 x69_3 x69_22 v1j7 s0j7 x69_19j7 x69_20j7 x69_21j7 = some X0) (hW : GW D cy (gA N q s.heap.size) N q m a0 s H) (hS : va_S (gA N q s.heap.size) s.heap H locs), W p l e ({ frames := 2, cells := 0, slots := 0, locals := 48 } : Room) s M args below meth c H locs 0 0 (MQ below (va_Qv (fun (u : (Nat → Value) × (Nat → vp_A)) => u.1 6919 = .long X0.1 ∧ u.1 6920 = .int X0.2.1 ∧ u.1 6921 = .int X0.2.2 ∧ (∀ j, nel j [6919, 6920, 6921] = false → u.1 j = m0 j) ∧ u.2 = a0) (gB D cy N q s.heap.size) (gA N q s.heap.size)) args s 0 0 (gA N q s.heap.size)) (F0 M 65 ls [.int s0j7, .ref (q 69)]) := by
    intro v1j7 s0j7 x69_19j7 x69_20j7 x69_21j7 m H locs w_x69_19 w_x69_20 w_x69_21 hoff hsh ls hl hs0 hW hS
    unfold fX12_does_J65 at hs0
    obtain ⟨hz32, hs0⟩ := oif hs0
    refine gp12_21 hx hb hG hown hW hS (o := 69) (ltN hN 69 rfl) gk69 (v := s0j7) hz32 gx507 dX12_does_65 (fun m33 H locs hm33 ho33 hW hS => ?_)
    have ho33 := off1 ho33
    have w_x69_19 : m33 6919 = .long x69_19j7 := (ho33 6919 rfl).trans w_x69_19
    have w_x69_20 : m33 6920 = .int x69_20j7 := (ho33 6920 rfl).trans w_x69_20
    have w_x69_21 : m33 6921 = .int s0j7 := hm33
    have hoff := offm hoff ho33 (by decide +kernel)
    have hsh := SH.off hsh ho33 (by decide +kernel)
    refine lv_aload_n hx hb dX12_does_68 rfl (lv_at hl 0 rfl) ?_
    refine gf12_21 hx hb hG hown hW (o := 69) (ltN hN 69 rfl) gk69 (v := .int s0j7) w_x69_21 gx507 dX12_does_69 ?_
    refine lv_if_ne (tgt := 99) hx hb dX12_does_72 (by decide) (fun c34 => ?_) (fun c34 => ?_)
    · rw [if_neg c34] at hs0
      have hs0 := Option.some.inj hs0
      subst hs0
      exact W.vret hx hb hr (fun t ht hw => ⟨⟨(m33, a0), rfl, ⟨w_x69_19, w_x69_20, w_x69_21, hoff, rfl⟩, g_end hW ht hw⟩, hS.F ht⟩) hS.2.2 dX12_does_99 hlocks
    · rw [if_pos c34] at hs0
      refine lv_aload_n hx hb dX12_does_75 rfl (lv_at hl 0 rfl) ?_
      refine lv_lload_n hx hb dX12_does_76 rfl (lv_at hl 1 rfl) ?_
      refine lv_lload_n hx hb dX12_does_77 rfl (lv_at hl 1 rfl) ?_
      refine lv_iconst (v := 0) hx hb dX12_does_78 (by decide) ?_
      refine lv_iconst (v := 2) hx hb dX12_does_79 (by decide) ?_
      refine g_SiR (n := 3) hx hb hml hown hG hW hS [.long v1j7, .int 0, .int 2] (kX12_get hN v1j7 0 2) rfl (gd_S gx304 gx305 gx5 gx306) rfl rfl (by decide) ⟨Nat.le_of_ble_eq_true rfl, Nat.le_of_ble_eq_true rfl⟩ rfl hl (Nat.le_of_ble_eq_true rfl) ⟨Nat.zero_le _, Nat.zero_le _⟩ dX12_does_80 (fun H locs hW hS => ?_)
      refine lv_lload_n hx hb dX12_does_83 rfl (lv_at hl 1 rfl) ?_
      refine lv_iconst (v := 2) hx hb dX12_does_84 (by decide) ?_
      refine lv_iconst (v := 1) hx hb dX12_does_85 (by decide) ?_
      refine g_SiR (n := 3) hx hb hml hown hG hW hS [.long v1j7, .int 2, .int 1] (kX12_get hN v1j7 2 1) rfl (gd_S gx304 gx305 gx5 gx306) rfl rfl (by decide) ⟨Nat.le_of_ble_eq_true rfl, Nat.le_of_ble_eq_true rfl⟩ rfl hl (Nat.le_of_ble_eq_true rfl) ⟨Nat.zero_le _, Nat.zero_le _⟩ dX12_does_86 (fun H locs hW hS => ?_)
      refine g_SiR (n := 2) hx hb hml hown hG hW hS [.int (fX12_get v1j7 0 2), .int (fX12_get v1j7 2 1)] (kX12_packetAt hN (fX12_get v1j7 0 2) (fX12_get v1j7 2 1)) rfl (gd_S gx358 gx359 gx5 gx360) rfl rfl (by decide) ⟨Nat.le_of_ble_eq_true rfl, Nat.le_of_ble_eq_true rfl⟩ rfl hl (Nat.le_of_ble_eq_true rfl) ⟨Nat.zero_le _, Nat.zero_le _⟩ dX12_does_89 (fun H locs hW hS => ?_)
      refine lv_iconst (v := 1) hx hb dX12_does_92 (by decide) ?_
      refine g_SlR (n := 3) hx hb hml hown hG hW hS [.long v1j7, .int (fX12_packetAt (fX12_get v1j7 0 2) (fX12_get v1j7 2 1)), .int 1] (kX12_more hN v1j7 (fX12_packetAt (fX12_get v1j7 0 2) (fX12_get v1j7 2 1)) 1) rfl (gd_S gx513 gx514 gx5 gx515) rfl rfl (by decide) ⟨Nat.le_of_ble_eq_true rfl, Nat.le_of_ble_eq_true rfl⟩ rfl hl (Nat.le_of_ble_eq_true rfl) ⟨Nat.zero_le _, Nat.zero_le _⟩ dX12_does_93 (fun H locs hW hS => ?_)
      refine gp12_19 hx hb hG hown hW hS (o := 69) (ltN hN 69 rfl) gk69 (v := (fX12_more v1j7 (fX12_packetAt (fX12_get v1j7 0 2) (fX12_get v1j7 2 1)) 1)) gx506 dX12_does_96 (fun m39 H locs hm39 ho39 hW hS => ?_)
      have ho39 := off1 ho39
      have w_x69_19 : m39 6919 = .long (fX12_more v1j7 (fX12_packetAt (fX12_get v1j7 0 2) (fX12_get v1j7 2 1)) 1) := hm39
      have w_x69_20 : m39 6920 = .int x69_20j7 := (ho39 6920 rfl).trans w_x69_20
      have w_x69_21 : m39 6921 = .int s0j7 := (ho39 6921 rfl).trans w_x69_21
      have hoff := offm hoff ho39 (by decide +kernel)
      have hsh := SH.off hsh ho39 (by decide +kernel)
      have hs0 := Option.some.inj hs0
      subst hs0
      exact W.vret hx hb hr (fun t ht hw => ⟨⟨(m39, a0), rfl, ⟨w_x69_19, w_x69_20, w_x69_21, hoff, rfl⟩, g_end hW ht hw⟩, hS.F ht⟩) hS.2.2 dX12_does_99 hlocks
  refine lv_aload_n hx hb dX12_does_0 rfl (lv_at hl 0 rfl) ?_
  refine lv_lload_n hx hb dX12_does_1 rfl (lv_at hl 1 rfl) ?_
  refine gp12_19 hx hb hG hown hW hS (o := 69) (ltN hN 69 rfl) gk69 (v := p1) gx506 dX12_does_2 (fun m1 H locs hm1 ho1 hW hS => ?_)
  have ho1 := off1 ho1
  have w_x69_19 : m1 6919 = .long p1 := hm1
  have w_x69_20 : m1 6920 = .int x69_20 := (ho1 6920 rfl).trans h_x69_20
  have w_x69_21 : m1 6921 = .int x69_21 := (ho1 6921 rfl).trans h_x69_21
  have hoff := offm hoff ho1 (by decide +kernel)
  have hsh := SH.off hsh ho1 (by decide +kernel)
  refine lv_aload_n hx hb dX12_does_5 rfl (lv_at hl 0 rfl) ?_
  refine lv_iconst (v := 0) hx hb dX12_does_6 (by decide) ?_
  refine gp12_20 hx hb hG hown hW hS (o := 69) (ltN hN 69 rfl) gk69 (v := 0) gx508 dX12_does_7 (fun m2 H locs hm2 ho2 hW hS => ?_)
  have ho2 := off1 ho2
  have w_x69_19 : m2 6919 = .long p1 := (ho2 6919 rfl).trans w_x69_19
  have w_x69_20 : m2 6920 = .int 0 := hm2
  have w_x69_21 : m2 6921 = .int x69_21 := (ho2 6921 rfl).trans w_x69_21
  have hoff := offm hoff ho2 (by decide +kernel)
  have hsh := SH.off hsh ho2 (by decide +kernel)
  refine lv_aload_n hx hb dX12_does_10 rfl (lv_at hl 0 rfl) ?_
  refine lv_iconst (v := 0) hx hb dX12_does_11 (by decide) ?_
  refine gp12_21 hx hb hG hown hW hS (o := 69) (ltN hN 69 rfl) gk69 (v := 0) (by decide) gx507 dX12_does_12 (fun m3 H locs hm3 ho3 hW hS => ?_)
  have ho3 := off1 ho3
  have w_x69_19 : m3 6919 = .long p1 := (ho3 6919 rfl).trans w_x69_19
  have w_x69_20 : m3 6920 = .int 0 := (ho3 6920 rfl).trans w_x69_20
  have w_x69_21 : m3 6921 = .int 0 := hm3
  have hoff := offm hoff ho3 (by decide +kernel)
  have hsh := SH.off hsh ho3 (by decide +kernel)
  refine lv_iload_n hx hb dX12_does_15 rfl (lv_at hl 2 rfl) ?_
  by_cases c4 : p3 = 0
  · rw [if_pos c4] at hs0
    refine lv_tableIn (tgt := 48) hx hb dX12_does_16 (by rw [c4]; decide) (by rw [c4]; decide) (by rw [c4]; rfl) (by decide) ?_
    refine lv_aload_n hx hb dX12_does_48 rfl (lv_at hl 0 rfl) ?_
    refine lv_lload_n hx hb dX12_does_49 rfl (lv_at hl 1 rfl) ?_
    obtain ⟨r5, hf5, hs0⟩ := obind hs0
    refine g_SiR (n := 1) hx hb hml hown hG hW hS [.long p1] (kX12_packetsOf hN F p1 hf5) rfl (gd_S gx361 gx362 gx5 gx363) rfl rfl (by decide) ⟨Nat.le_of_ble_eq_true rfl, Nat.le_of_ble_eq_true rfl⟩ rfl hl (Nat.le_of_ble_eq_true rfl) ⟨Nat.zero_le _, Nat.zero_le _⟩ dX12_does_50 (fun H locs hW hS => ?_)
    refine lv_aload_n hx hb dX12_does_53 rfl (lv_at hl 0 rfl) ?_
    refine gf12_0 hx hb hG hown hW (o := 69) (ltN hN 69 rfl) gk69 (v := .int x69_0) ((hoff 6900 rfl).trans h_x69_0) gx162 dX12_does_54 ?_
    refine lv_icmp_ne (tgt := 64) hx hb dX12_does_57 (by decide) (fun c6 => ?_) (fun c6 => ?_)
    · rw [if_neg c6] at hs0
      refine lv_iconst (v := 0) hx hb dX12_does_64 (by decide) ?_
      exact hJ65_0 p1 0 p1 0 0 m3 _ _ w_x69_19 w_x69_20 w_x69_21 hoff hsh ls (lv_sub hl [0, 1] rfl) hs0 hW hS
    · rw [if_pos c6] at hs0
      refine lv_iconst (v := 1) hx hb dX12_does_60 (by decide) ?_
      refine lv_goto (tgt := 65) hx hb dX12_does_61 (by decide) ?_
      exact hJ65_0 p1 1 p1 0 0 m3 _ _ w_x69_19 w_x69_20 w_x69_21 hoff hsh ls (lv_sub hl [0, 1] rfl) hs0 hW hS
  · rw [if_neg c4] at hs0
    by_cases c8 : p3 = 1
    · rw [if_pos c8] at hs0
      refine lv_tableIn (tgt := 100) hx hb dX12_does_16 (by rw [c8]; decide) (by rw [c8]; decide) (by rw [c8]; rfl) (by decide) ?_
      refine lv_aload_n hx hb dX12_does_100 rfl (lv_at hl 0 rfl) ?_
      refine lv_lload_n hx hb dX12_does_101 rfl (lv_at hl 1 rfl) ?_
      refine lv_iload hx hb dX12_does_102 (lv_at hl 3 rfl) ?_
      refine lv_iload hx hb dX12_does_104 (lv_at hl 4 rfl) ?_
      refine g_SiR (n := 2) hx hb hml hown hG hW hS [.int p4, .int p5] (kX12_packetAt hN p4 p5) rfl (gd_S gx358 gx359 gx5 gx360) rfl rfl (by decide) ⟨Nat.le_of_ble_eq_true rfl, Nat.le_of_ble_eq_true rfl⟩ rfl hl (Nat.le_of_ble_eq_true rfl) ⟨Nat.zero_le _, Nat.zero_le _⟩ dX12_does_106 (fun H locs hW hS => ?_)
      refine lv_iconst (v := (-1)) hx hb dX12_does_109 (by decide) ?_
      refine g_SlR (n := 3) hx hb hml hown hG hW hS [.long p1, .int (fX12_packetAt p4 p5), .int (-1)] (kX12_more hN p1 (fX12_packetAt p4 p5) (-1)) rfl (gd_S gx513 gx514 gx5 gx515) rfl rfl (by decide) ⟨Nat.le_of_ble_eq_true rfl, Nat.le_of_ble_eq_true rfl⟩ rfl hl (Nat.le_of_ble_eq_true rfl) ⟨Nat.zero_le _, Nat.zero_le _⟩ dX12_does_110 (fun H locs hW hS => ?_)
      refine gp12_19 hx hb hG hown hW hS (o := 69) (ltN hN 69 rfl) gk69 (v := (fX12_more p1 (fX12_packetAt p4 p5) (-1))) gx506 dX12_does_113 (fun m11 H locs hm11 ho11 hW hS => ?_)
      have ho11 := off1 ho11
      have w_x69_19 : m11 6919 = .long (fX12_more p1 (fX12_packetAt p4 p5) (-1)) := hm11
      have w_x69_20 : m11 6920 = .int 0 := (ho11 6920 rfl).trans w_x69_20
      have w_x69_21 : m11 6921 = .int 0 := (ho11 6921 rfl).trans w_x69_21
      have hoff := offm hoff ho11 (by decide +kernel)
      have hsh := SH.off hsh ho11 (by decide +kernel)
      refine lv_iload hx hb dX12_does_116 (lv_at hl 3 rfl) ?_
      refine lv_lload_n hx hb dX12_does_118 rfl (lv_at hl 1 rfl) ?_
      refine lv_bipush (v := 7) hx hb dX12_does_119 (by decide) ?_
      refine lv_iconst (v := 2) hx hb dX12_does_121 (by decide) ?_
      refine g_SiR (n := 3) hx hb hml hown hG hW hS [.long p1, .int 7, .int 2] (kX12_get hN p1 7 2) rfl (gd_S gx304 gx305 gx5 gx306) rfl rfl (by decide) ⟨Nat.le_of_ble_eq_true rfl, Nat.le_of_ble_eq_true rfl⟩ rfl hl (Nat.le_of_ble_eq_true rfl) ⟨Nat.zero_le _, Nat.zero_le _⟩ dX12_does_122 (fun H locs hW hS => ?_)
      refine lv_icmp_eq (tgt := 136) hx hb dX12_does_125 (by decide) (fun c13 => ?_) (fun c13 => ?_)
      · rw [if_pos c13] at hs0
        exact hJ136_0 p4 (fX12_more p1 (fX12_packetAt p4 p5) (-1)) 0 0 m11 _ _ w_x69_19 w_x69_20 w_x69_21 hoff hsh ls (lv_sub hl [0, 3] rfl) hs0 hW hS
      · rw [if_neg c13] at hs0
        refine lv_aload_n hx hb dX12_does_128 rfl (lv_at hl 0 rfl) ?_
        refine lv_iload hx hb dX12_does_129 (lv_at hl 3 rfl) ?_
        refine lv_iload hx hb dX12_does_131 (lv_at hl 4 rfl) ?_
        obtain ⟨r15, hf15, hs0⟩ := obind hs0
        refine g_Vv (n := 2) hx hb hml hown hG hW hS [.int p4, .int p5] (kX12_sees hN hsh ((hoff 6903 rfl).trans h_x69_3) w_x69_19 w_x69_20 F p4 p5 hf15) (ltN hN 69 rfl) gk69 (by decide) rfl rfl (gd_V gx516 gx517 gx518 gx5 gx519) rfl rfl (by decide) ⟨Nat.le_of_ble_eq_true rfl, Nat.le_of_ble_eq_true rfl⟩ rfl hl (Nat.le_of_ble_eq_true rfl) ⟨Nat.zero_le _, Nat.zero_le _⟩ dX12_does_133 (fun m15 a15 H locs hp15 hW hS => ?_)
        obtain ⟨hp15_x69_19, hp15_x69_20, ho15, ha15⟩ := hp15
        rw [ha15] at hW
        have w_x69_19 : m15 6919 = .long r15.1 := hp15_x69_19
        have w_x69_20 : m15 6920 = .int r15.2 := hp15_x69_20
        have w_x69_21 : m15 6921 = .int 0 := (ho15 6921 rfl).trans w_x69_21
        have hoff := offm hoff ho15 (by decide +kernel)
        have hsh := SH.off hsh ho15 (by decide +kernel)
        exact hJ136_0 p4 r15.1 r15.2 0 m15 _ _ w_x69_19 w_x69_20 w_x69_21 hoff hsh ls (lv_sub hl [0, 3] rfl) hs0 hW hS
    · rw [if_neg c8] at hs0
      by_cases c16 : p3 = 2
      · rw [if_pos c16] at hs0
        refine lv_tableIn (tgt := 184) hx hb dX12_does_16 (by rw [c16]; decide) (by rw [c16]; decide) (by rw [c16]; rfl) (by decide) ?_
        refine lv_aload_n hx hb dX12_does_184 rfl (lv_at hl 0 rfl) ?_
        refine lv_lload_n hx hb dX12_does_185 rfl (lv_at hl 1 rfl) ?_
        refine lv_iload hx hb dX12_does_186 (lv_at hl 3 rfl) ?_
        refine g_SiR (n := 1) hx hb hml hown hG hW hS [.int p4] (kX12_letterAt hN p4) rfl (gd_S gx380 gx381 gx5 gx382) rfl rfl (by decide) ⟨Nat.le_of_ble_eq_true rfl, Nat.le_of_ble_eq_true rfl⟩ rfl hl (Nat.le_of_ble_eq_true rfl) ⟨Nat.zero_le _, Nat.zero_le _⟩ dX12_does_188 (fun H locs hW hS => ?_)
        refine lv_iconst (v := (-1)) hx hb dX12_does_191 (by decide) ?_
        refine g_SlR (n := 3) hx hb hml hown hG hW hS [.long p1, .int (fX12_letterAt p4), .int (-1)] (kX12_more hN p1 (fX12_letterAt p4) (-1)) rfl (gd_S gx513 gx514 gx5 gx515) rfl rfl (by decide) ⟨Nat.le_of_ble_eq_true rfl, Nat.le_of_ble_eq_true rfl⟩ rfl hl (Nat.le_of_ble_eq_true rfl) ⟨Nat.zero_le _, Nat.zero_le _⟩ dX12_does_192 (fun H locs hW hS => ?_)
        refine gp12_19 hx hb hG hown hW hS (o := 69) (ltN hN 69 rfl) gk69 (v := (fX12_more p1 (fX12_letterAt p4) (-1))) gx506 dX12_does_195 (fun m19 H locs hm19 ho19 hW hS => ?_)
        have ho19 := off1 ho19
        have w_x69_19 : m19 6919 = .long (fX12_more p1 (fX12_letterAt p4) (-1)) := hm19
        have w_x69_20 : m19 6920 = .int 0 := (ho19 6920 rfl).trans w_x69_20
        have w_x69_21 : m19 6921 = .int 0 := (ho19 6921 rfl).trans w_x69_21
        have hoff := offm hoff ho19 (by decide +kernel)
        have hsh := SH.off hsh ho19 (by decide +kernel)
        refine lv_iload hx hb dX12_does_198 (lv_at hl 3 rfl) ?_
        refine lv_lload_n hx hb dX12_does_200 rfl (lv_at hl 1 rfl) ?_
        refine lv_iconst (v := 0) hx hb dX12_does_201 (by decide) ?_
        refine lv_iconst (v := 2) hx hb dX12_does_202 (by decide) ?_
        refine g_SiR (n := 3) hx hb hml hown hG hW hS [.long p1, .int 0, .int 2] (kX12_get hN p1 0 2) rfl (gd_S gx304 gx305 gx5 gx306) rfl rfl (by decide) ⟨Nat.le_of_ble_eq_true rfl, Nat.le_of_ble_eq_true rfl⟩ rfl hl (Nat.le_of_ble_eq_true rfl) ⟨Nat.zero_le _, Nat.zero_le _⟩ dX12_does_203 (fun H locs hW hS => ?_)
        refine lv_icmp_ne (tgt := 215) hx hb dX12_does_206 (by decide) (fun c21 => ?_) (fun c21 => ?_)
        · rw [if_neg c21] at hs0
          have hs0 := Option.some.inj hs0
          subst hs0
          exact W.vret hx hb hr (fun t ht hw => ⟨⟨(m19, a0), rfl, ⟨w_x69_19, w_x69_20, w_x69_21, hoff, rfl⟩, g_end hW ht hw⟩, hS.F ht⟩) hS.2.2 dX12_does_215 hlocks
        · rw [if_pos c21] at hs0
          refine lv_aload_n hx hb dX12_does_209 rfl (lv_at hl 0 rfl) ?_
          refine lv_iload hx hb dX12_does_210 (lv_at hl 5 rfl) ?_
          obtain ⟨r22, hf22, hs0⟩ := obind hs0
          refine g_Vv (n := 1) hx hb hml hown hG hW hS [.int p6] (kX12_counts1 hN hsh ((hoff 6901 rfl).trans h_x69_1) ((hoff 6922 rfl).trans h_x69_22) w_x69_19 w_x69_20 p6 hf22) (ltN hN 69 rfl) gk69 (by decide) rfl rfl (gd_V gx520 gx521 gx522 gx5 gx523) rfl rfl (by decide) ⟨Nat.le_of_ble_eq_true rfl, Nat.le_of_ble_eq_true rfl⟩ rfl hl (Nat.le_of_ble_eq_true rfl) ⟨Nat.zero_le _, Nat.zero_le _⟩ dX12_does_212 (fun m22 a22 H locs hp22 hW hS => ?_)
          obtain ⟨hp22_x69_19, hp22_x69_20, ho22, ha22⟩ := hp22
          rw [ha22] at hW
          have w_x69_19 : m22 6919 = .long r22.1 := hp22_x69_19
          have w_x69_20 : m22 6920 = .int r22.2 := hp22_x69_20
          have w_x69_21 : m22 6921 = .int 0 := (ho22 6921 rfl).trans w_x69_21
          have hoff := offm hoff ho22 (by decide +kernel)
          have hsh := SH.off hsh ho22 (by decide +kernel)
          have hs0 := Option.some.inj hs0
          subst hs0
          exact W.vret hx hb hr (fun t ht hw => ⟨⟨(m22, a0), rfl, ⟨w_x69_19, w_x69_20, w_x69_21, hoff, rfl⟩, g_end hW ht hw⟩, hS.F ht⟩) hS.2.2 dX12_does_215 hlocks
      · rw [if_neg c16] at hs0
        by_cases c23 : p3 = 3
        · rw [if_pos c23] at hs0
          refine lv_tableIn (tgt := 216) hx hb dX12_does_16 (by rw [c23]; decide) (by rw [c23]; decide) (by rw [c23]; rfl) (by decide) ?_
          refine lv_aload_n hx hb dX12_does_216 rfl (lv_at hl 0 rfl) ?_
          refine lv_lload_n hx hb dX12_does_217 rfl (lv_at hl 1 rfl) ?_
          refine lv_iload hx hb dX12_does_218 (lv_at hl 3 rfl) ?_
          refine lv_iload hx hb dX12_does_220 (lv_at hl 4 rfl) ?_
          refine g_SiR (n := 2) hx hb hml hown hG hW hS [.int p4, .int p5] (kX12_packetAt hN p4 p5) rfl (gd_S gx358 gx359 gx5 gx360) rfl rfl (by decide) ⟨Nat.le_of_ble_eq_true rfl, Nat.le_of_ble_eq_true rfl⟩ rfl hl (Nat.le_of_ble_eq_true rfl) ⟨Nat.zero_le _, Nat.zero_le _⟩ dX12_does_222 (fun H locs hW hS => ?_)
          refine lv_iconst (v := (-1)) hx hb dX12_does_225 (by decide) ?_
          refine g_SlR (n := 3) hx hb hml hown hG hW hS [.long p1, .int (fX12_packetAt p4 p5), .int (-1)] (kX12_more hN p1 (fX12_packetAt p4 p5) (-1)) rfl (gd_S gx513 gx514 gx5 gx515) rfl rfl (by decide) ⟨Nat.le_of_ble_eq_true rfl, Nat.le_of_ble_eq_true rfl⟩ rfl hl (Nat.le_of_ble_eq_true rfl) ⟨Nat.zero_le _, Nat.zero_le _⟩ dX12_does_226 (fun H locs hW hS => ?_)
          refine gp12_19 hx hb hG hown hW hS (o := 69) (ltN hN 69 rfl) gk69 (v := (fX12_more p1 (fX12_packetAt p4 p5) (-1))) gx506 dX12_does_229 (fun m26 H locs hm26 ho26 hW hS => ?_)
          have ho26 := off1 ho26
          have w_x69_19 : m26 6919 = .long (fX12_more p1 (fX12_packetAt p4 p5) (-1)) := hm26
          have w_x69_20 : m26 6920 = .int 0 := (ho26 6920 rfl).trans w_x69_20
          have w_x69_21 : m26 6921 = .int 0 := (ho26 6921 rfl).trans w_x69_21
          have hoff := offm hoff ho26 (by decide +kernel)
          have hsh := SH.off hsh ho26 (by decide +kernel)
          refine lv_aload_n hx hb dX12_does_232 rfl (lv_at hl 0 rfl) ?_
          refine lv_iconst (v := 1) hx hb dX12_does_233 (by decide) ?_
          refine gp12_21 hx hb hG hown hW hS (o := 69) (ltN hN 69 rfl) gk69 (v := 1) (by decide) gx507 dX12_does_234 (fun m27 H locs hm27 ho27 hW hS => ?_)
          have ho27 := off1 ho27
          have w_x69_19 : m27 6919 = .long (fX12_more p1 (fX12_packetAt p4 p5) (-1)) := (ho27 6919 rfl).trans w_x69_19
          have w_x69_20 : m27 6920 = .int 0 := (ho27 6920 rfl).trans w_x69_20
          have w_x69_21 : m27 6921 = .int 1 := hm27
          have hoff := offm hoff ho27 (by decide +kernel)
          have hsh := SH.off hsh ho27 (by decide +kernel)
          have hs0 := Option.some.inj hs0
          subst hs0
          exact W.vret hx hb hr (fun t ht hw => ⟨⟨(m27, a0), rfl, ⟨w_x69_19, w_x69_20, w_x69_21, hoff, rfl⟩, g_end hW ht hw⟩, hS.F ht⟩) hS.2.2 dX12_does_237 hlocks
        · rw [if_neg c23] at hs0
          have n4 := ti_ne (n := 0) c4 (by decide)
          have n8 := ti_ne (n := 1) c8 (by decide)
          have n16 := ti_ne (n := 2) c16 (by decide)
          have n23 := ti_ne (n := 3) c23 (by decide)
          refine lv_tableOut (tgt := 238) hx hb dX12_does_16 (by omega) (by decide) ?_
          refine lv_aload_n hx hb dX12_does_238 rfl (lv_at hl 0 rfl) ?_
          refine lv_lload_n hx hb dX12_does_239 rfl (lv_at hl 1 rfl) ?_
          refine lv_iload hx hb dX12_does_240 (lv_at hl 3 rfl) ?_
          refine g_SiR (n := 1) hx hb hml hown hG hW hS [.int p4] (kX12_letterAt hN p4) rfl (gd_S gx380 gx381 gx5 gx382) rfl rfl (by decide) ⟨Nat.le_of_ble_eq_true rfl, Nat.le_of_ble_eq_true rfl⟩ rfl hl (Nat.le_of_ble_eq_true rfl) ⟨Nat.zero_le _, Nat.zero_le _⟩ dX12_does_242 (fun H locs hW hS => ?_)
          refine lv_iconst (v := (-1)) hx hb dX12_does_245 (by decide) ?_
          refine g_SlR (n := 3) hx hb hml hown hG hW hS [.long p1, .int (fX12_letterAt p4), .int (-1)] (kX12_more hN p1 (fX12_letterAt p4) (-1)) rfl (gd_S gx513 gx514 gx5 gx515) rfl rfl (by decide) ⟨Nat.le_of_ble_eq_true rfl, Nat.le_of_ble_eq_true rfl⟩ rfl hl (Nat.le_of_ble_eq_true rfl) ⟨Nat.zero_le _, Nat.zero_le _⟩ dX12_does_246 (fun H locs hW hS => ?_)
          refine gp12_19 hx hb hG hown hW hS (o := 69) (ltN hN 69 rfl) gk69 (v := (fX12_more p1 (fX12_letterAt p4) (-1))) gx506 dX12_does_249 (fun m30 H locs hm30 ho30 hW hS => ?_)
          have ho30 := off1 ho30
          have w_x69_19 : m30 6919 = .long (fX12_more p1 (fX12_letterAt p4) (-1)) := hm30
          have w_x69_20 : m30 6920 = .int 0 := (ho30 6920 rfl).trans w_x69_20
          have w_x69_21 : m30 6921 = .int 0 := (ho30 6921 rfl).trans w_x69_21
          have hoff := offm hoff ho30 (by decide +kernel)
          have hsh := SH.off hsh ho30 (by decide +kernel)
          refine lv_aload_n hx hb dX12_does_252 rfl (lv_at hl 0 rfl) ?_
          refine lv_iconst (v := 1) hx hb dX12_does_253 (by decide) ?_
          refine gp12_21 hx hb hG hown hW hS (o := 69) (ltN hN 69 rfl) gk69 (v := 1) (by decide) gx507 dX12_does_254 (fun m31 H locs hm31 ho31 hW hS => ?_)
          have ho31 := off1 ho31
          have w_x69_19 : m31 6919 = .long (fX12_more p1 (fX12_letterAt p4) (-1)) := (ho31 6919 rfl).trans w_x69_19
          have w_x69_20 : m31 6920 = .int 0 := (ho31 6920 rfl).trans w_x69_20
          have w_x69_21 : m31 6921 = .int 1 := hm31
          have hoff := offm hoff ho31 (by decide +kernel)
          have hsh := SH.off hsh ho31 (by decide +kernel)
          have hs0 := Option.some.inj hs0
          subst hs0
          exact W.vret hx hb hr (fun t ht hw => ⟨⟨(m31, a0), rfl, ⟨w_x69_19, w_x69_20, w_x69_21, hoff, rfl⟩, g_end hW ht hw⟩, hS.F ht⟩) hS.2.2 dX12_does_257 hlocks
