/-! 05.rules (by program): the pure function of each method, its rows, its contract -/
-- java.lang.Long.bitCount (J)I
def fJ13_bitCount_95d88 (p0 : Int64) : Int32 := (((((((((p0 - (((p0.toUInt64 >>> ((1 : Int32).toInt64.toUInt64 &&& Int64.toUInt64 63)).toInt64) &&& (6148914691236517205 : Int64))) &&& (3689348814741910323 : Int64)) + ((((p0 - (((p0.toUInt64 >>> ((1 : Int32).toInt64.toUInt64 &&& Int64.toUInt64 63)).toInt64) &&& (6148914691236517205 : Int64))).toUInt64 >>> ((2 : Int32).toInt64.toUInt64 &&& Int64.toUInt64 63)).toInt64) &&& (3689348814741910323 : Int64))) + (((((p0 - (((p0.toUInt64 >>> ((1 : Int32).toInt64.toUInt64 &&& Int64.toUInt64 63)).toInt64) &&& (6148914691236517205 : Int64))) &&& (3689348814741910323 : Int64)) + ((((p0 - (((p0.toUInt64 >>> ((1 : Int32).toInt64.toUInt64 &&& Int64.toUInt64 63)).toInt64) &&& (6148914691236517205 : Int64))).toUInt64 >>> ((2 : Int32).toInt64.toUInt64 &&& Int64.toUInt64 63)).toInt64) &&& (3689348814741910323 : Int64))).toUInt64 >>> ((4 : Int32).toInt64.toUInt64 &&& Int64.toUInt64 63)).toInt64)) &&& (1085102592571150095 : Int64)) + (((((((p0 - (((p0.toUInt64 >>> ((1 : Int32).toInt64.toUInt64 &&& Int64.toUInt64 63)).toInt64) &&& (6148914691236517205 : Int64))) &&& (3689348814741910323 : Int64)) + ((((p0 - (((p0.toUInt64 >>> ((1 : Int32).toInt64.toUInt64 &&& Int64.toUInt64 63)).toInt64) &&& (6148914691236517205 : Int64))).toUInt64 >>> ((2 : Int32).toInt64.toUInt64 &&& Int64.toUInt64 63)).toInt64) &&& (3689348814741910323 : Int64))) + (((((p0 - (((p0.toUInt64 >>> ((1 : Int32).toInt64.toUInt64 &&& Int64.toUInt64 63)).toInt64) &&& (6148914691236517205 : Int64))) &&& (3689348814741910323 : Int64)) + ((((p0 - (((p0.toUInt64 >>> ((1 : Int32).toInt64.toUInt64 &&& Int64.toUInt64 63)).toInt64) &&& (6148914691236517205 : Int64))).toUInt64 >>> ((2 : Int32).toInt64.toUInt64 &&& Int64.toUInt64 63)).toInt64) &&& (3689348814741910323 : Int64))).toUInt64 >>> ((4 : Int32).toInt64.toUInt64 &&& Int64.toUInt64 63)).toInt64)) &&& (1085102592571150095 : Int64)).toUInt64 >>> ((8 : Int32).toInt64.toUInt64 &&& Int64.toUInt64 63)).toInt64)) + ((((((((p0 - (((p0.toUInt64 >>> ((1 : Int32).toInt64.toUInt64 &&& Int64.toUInt64 63)).toInt64) &&& (6148914691236517205 : Int64))) &&& (3689348814741910323 : Int64)) + ((((p0 - (((p0.toUInt64 >>> ((1 : Int32).toInt64.toUInt64 &&& Int64.toUInt64 63)).toInt64) &&& (6148914691236517205 : Int64))).toUInt64 >>> ((2 : Int32).toInt64.toUInt64 &&& Int64.toUInt64 63)).toInt64) &&& (3689348814741910323 : Int64))) + (((((p0 - (((p0.toUInt64 >>> ((1 : Int32).toInt64.toUInt64 &&& Int64.toUInt64 63)).toInt64) &&& (6148914691236517205 : Int64))) &&& (3689348814741910323 : Int64)) + ((((p0 - (((p0.toUInt64 >>> ((1 : Int32).toInt64.toUInt64 &&& Int64.toUInt64 63)).toInt64) &&& (6148914691236517205 : Int64))).toUInt64 >>> ((2 : Int32).toInt64.toUInt64 &&& Int64.toUInt64 63)).toInt64) &&& (3689348814741910323 : Int64))).toUInt64 >>> ((4 : Int32).toInt64.toUInt64 &&& Int64.toUInt64 63)).toInt64)) &&& (1085102592571150095 : Int64)) + (((((((p0 - (((p0.toUInt64 >>> ((1 : Int32).toInt64.toUInt64 &&& Int64.toUInt64 63)).toInt64) &&& (6148914691236517205 : Int64))) &&& (3689348814741910323 : Int64)) + ((((p0 - (((p0.toUInt64 >>> ((1 : Int32).toInt64.toUInt64 &&& Int64.toUInt64 63)).toInt64) &&& (6148914691236517205 : Int64))).toUInt64 >>> ((2 : Int32).toInt64.toUInt64 &&& Int64.toUInt64 63)).toInt64) &&& (3689348814741910323 : Int64))) + (((((p0 - (((p0.toUInt64 >>> ((1 : Int32).toInt64.toUInt64 &&& Int64.toUInt64 63)).toInt64) &&& (6148914691236517205 : Int64))) &&& (3689348814741910323 : Int64)) + ((((p0 - (((p0.toUInt64 >>> ((1 : Int32).toInt64.toUInt64 &&& Int64.toUInt64 63)).toInt64) &&& (6148914691236517205 : Int64))).toUInt64 >>> ((2 : Int32).toInt64.toUInt64 &&& Int64.toUInt64 63)).toInt64) &&& (3689348814741910323 : Int64))).toUInt64 >>> ((4 : Int32).toInt64.toUInt64 &&& Int64.toUInt64 63)).toInt64)) &&& (1085102592571150095 : Int64)).toUInt64 >>> ((8 : Int32).toInt64.toUInt64 &&& Int64.toUInt64 63)).toInt64)).toUInt64 >>> ((16 : Int32).toInt64.toUInt64 &&& Int64.toUInt64 63)).toInt64)) + (((((((((p0 - (((p0.toUInt64 >>> ((1 : Int32).toInt64.toUInt64 &&& Int64.toUInt64 63)).toInt64) &&& (6148914691236517205 : Int64))) &&& (3689348814741910323 : Int64)) + ((((p0 - (((p0.toUInt64 >>> ((1 : Int32).toInt64.toUInt64 &&& Int64.toUInt64 63)).toInt64) &&& (6148914691236517205 : Int64))).toUInt64 >>> ((2 : Int32).toInt64.toUInt64 &&& Int64.toUInt64 63)).toInt64) &&& (3689348814741910323 : Int64))) + (((((p0 - (((p0.toUInt64 >>> ((1 : Int32).toInt64.toUInt64 &&& Int64.toUInt64 63)).toInt64) &&& (6148914691236517205 : Int64))) &&& (3689348814741910323 : Int64)) + ((((p0 - (((p0.toUInt64 >>> ((1 : Int32).toInt64.toUInt64 &&& Int64.toUInt64 63)).toInt64) &&& (6148914691236517205 : Int64))).toUInt64 >>> ((2 : Int32).toInt64.toUInt64 &&& Int64.toUInt64 63)).toInt64) &&& (3689348814741910323 : Int64))).toUInt64 >>> ((4 : Int32).toInt64.toUInt64 &&& Int64.toUInt64 63)).toInt64)) &&& (1085102592571150095 : Int64)) + (((((((p0 - (((p0.toUInt64 >>> ((1 : Int32).toInt64.toUInt64 &&& Int64.toUInt64 63)).toInt64) &&& (6148914691236517205 : Int64))) &&& (3689348814741910323 : Int64)) + ((((p0 - (((p0.toUInt64 >>> ((1 : Int32).toInt64.toUInt64 &&& Int64.toUInt64 63)).toInt64) &&& (6148914691236517205 : Int64))).toUInt64 >>> ((2 : Int32).toInt64.toUInt64 &&& Int64.toUInt64 63)).toInt64) &&& (3689348814741910323 : Int64))) + (((((p0 - (((p0.toUInt64 >>> ((1 : Int32).toInt64.toUInt64 &&& Int64.toUInt64 63)).toInt64) &&& (6148914691236517205 : Int64))) &&& (3689348814741910323 : Int64)) + ((((p0 - (((p0.toUInt64 >>> ((1 : Int32).toInt64.toUInt64 &&& Int64.toUInt64 63)).toInt64) &&& (6148914691236517205 : Int64))).toUInt64 >>> ((2 : Int32).toInt64.toUInt64 &&& Int64.toUInt64 63)).toInt64) &&& (3689348814741910323 : Int64))).toUInt64 >>> ((4 : Int32).toInt64.toUInt64 &&& Int64.toUInt64 63)).toInt64)) &&& (1085102592571150095 : Int64)).toUInt64 >>> ((8 : Int32).toInt64.toUInt64 &&& Int64.toUInt64 63)).toInt64)) + ((((((((p0 - (((p0.toUInt64 >>> ((1 : Int32).toInt64.toUInt64 &&& Int64.toUInt64 63)).toInt64) &&& (6148914691236517205 : Int64))) &&& (3689348814741910323 : Int64)) + ((((p0 - (((p0.toUInt64 >>> ((1 : Int32).toInt64.toUInt64 &&& Int64.toUInt64 63)).toInt64) &&& (6148914691236517205 : Int64))).toUInt64 >>> ((2 : Int32).toInt64.toUInt64 &&& Int64.toUInt64 63)).toInt64) &&& (3689348814741910323 : Int64))) + (((((p0 - (((p0.toUInt64 >>> ((1 : Int32).toInt64.toUInt64 &&& Int64.toUInt64 63)).toInt64) &&& (6148914691236517205 : Int64))) &&& (3689348814741910323 : Int64)) + ((((p0 - (((p0.toUInt64 >>> ((1 : Int32).toInt64.toUInt64 &&& Int64.toUInt64 63)).toInt64) &&& (6148914691236517205 : Int64))).toUInt64 >>> ((2 : Int32).toInt64.toUInt64 &&& Int64.toUInt64 63)).toInt64) &&& (3689348814741910323 : Int64))).toUInt64 >>> ((4 : Int32).toInt64.toUInt64 &&& Int64.toUInt64 63)).toInt64)) &&& (1085102592571150095 : Int64)) + (((((((p0 - (((p0.toUInt64 >>> ((1 : Int32).toInt64.toUInt64 &&& Int64.toUInt64 63)).toInt64) &&& (6148914691236517205 : Int64))) &&& (3689348814741910323 : Int64)) + ((((p0 - (((p0.toUInt64 >>> ((1 : Int32).toInt64.toUInt64 &&& Int64.toUInt64 63)).toInt64) &&& (6148914691236517205 : Int64))).toUInt64 >>> ((2 : Int32).toInt64.toUInt64 &&& Int64.toUInt64 63)).toInt64) &&& (3689348814741910323 : Int64))) + (((((p0 - (((p0.toUInt64 >>> ((1 : Int32).toInt64.toUInt64 &&& Int64.toUInt64 63)).toInt64) &&& (6148914691236517205 : Int64))) &&& (3689348814741910323 : Int64)) + ((((p0 - (((p0.toUInt64 >>> ((1 : Int32).toInt64.toUInt64 &&& Int64.toUInt64 63)).toInt64) &&& (6148914691236517205 : Int64))).toUInt64 >>> ((2 : Int32).toInt64.toUInt64 &&& Int64.toUInt64 63)).toInt64) &&& (3689348814741910323 : Int64))).toUInt64 >>> ((4 : Int32).toInt64.toUInt64 &&& Int64.toUInt64 63)).toInt64)) &&& (1085102592571150095 : Int64)).toUInt64 >>> ((8 : Int32).toInt64.toUInt64 &&& Int64.toUInt64 63)).toInt64)).toUInt64 >>> ((16 : Int32).toInt64.toUInt64 &&& Int64.toUInt64 63)).toInt64)).toUInt64 >>> ((32 : Int32).toInt64.toUInt64 &&& Int64.toUInt64 63)).toInt64)).toInt32) &&& (127 : Int32)
theorem dJ13_bitCount_95d88_0 : decode cJ13_bitCount_95d88 0 = .ok (.lload_n 0, 1) := by decide +kernel
theorem dJ13_bitCount_95d88_1 : decode cJ13_bitCount_95d88 1 = .ok (.lload_n 0, 1) := by decide +kernel
theorem dJ13_bitCount_95d88_2 : decode cJ13_bitCount_95d88 2 = .ok (.iconst 1, 1) := by decide +kernel
theorem dJ13_bitCount_95d88_3 : decode cJ13_bitCount_95d88 3 = .ok (.lushr, 1) := by decide +kernel
theorem dJ13_bitCount_95d88_4 : decode cJ13_bitCount_95d88 4 = .ok (.ldc2_w 314, 3) := by decide +kernel
theorem dJ13_bitCount_95d88_7 : decode cJ13_bitCount_95d88 7 = .ok (.land, 1) := by decide +kernel
theorem dJ13_bitCount_95d88_8 : decode cJ13_bitCount_95d88 8 = .ok (.lsub, 1) := by decide +kernel
theorem dJ13_bitCount_95d88_9 : decode cJ13_bitCount_95d88 9 = .ok (.lstore_n 0, 1) := by decide +kernel
theorem dJ13_bitCount_95d88_10 : decode cJ13_bitCount_95d88 10 = .ok (.lload_n 0, 1) := by decide +kernel
theorem dJ13_bitCount_95d88_11 : decode cJ13_bitCount_95d88 11 = .ok (.ldc2_w 316, 3) := by decide +kernel
theorem dJ13_bitCount_95d88_14 : decode cJ13_bitCount_95d88 14 = .ok (.land, 1) := by decide +kernel
theorem dJ13_bitCount_95d88_15 : decode cJ13_bitCount_95d88 15 = .ok (.lload_n 0, 1) := by decide +kernel
theorem dJ13_bitCount_95d88_16 : decode cJ13_bitCount_95d88 16 = .ok (.iconst 2, 1) := by decide +kernel
theorem dJ13_bitCount_95d88_17 : decode cJ13_bitCount_95d88 17 = .ok (.lushr, 1) := by decide +kernel
theorem dJ13_bitCount_95d88_18 : decode cJ13_bitCount_95d88 18 = .ok (.ldc2_w 316, 3) := by decide +kernel
theorem dJ13_bitCount_95d88_21 : decode cJ13_bitCount_95d88 21 = .ok (.land, 1) := by decide +kernel
theorem dJ13_bitCount_95d88_22 : decode cJ13_bitCount_95d88 22 = .ok (.ladd, 1) := by decide +kernel
theorem dJ13_bitCount_95d88_23 : decode cJ13_bitCount_95d88 23 = .ok (.lstore_n 0, 1) := by decide +kernel
theorem dJ13_bitCount_95d88_24 : decode cJ13_bitCount_95d88 24 = .ok (.lload_n 0, 1) := by decide +kernel
theorem dJ13_bitCount_95d88_25 : decode cJ13_bitCount_95d88 25 = .ok (.lload_n 0, 1) := by decide +kernel
theorem dJ13_bitCount_95d88_26 : decode cJ13_bitCount_95d88 26 = .ok (.iconst 4, 1) := by decide +kernel
theorem dJ13_bitCount_95d88_27 : decode cJ13_bitCount_95d88 27 = .ok (.lushr, 1) := by decide +kernel
theorem dJ13_bitCount_95d88_28 : decode cJ13_bitCount_95d88 28 = .ok (.ladd, 1) := by decide +kernel
theorem dJ13_bitCount_95d88_29 : decode cJ13_bitCount_95d88 29 = .ok (.ldc2_w 318, 3) := by decide +kernel
theorem dJ13_bitCount_95d88_32 : decode cJ13_bitCount_95d88 32 = .ok (.land, 1) := by decide +kernel
theorem dJ13_bitCount_95d88_33 : decode cJ13_bitCount_95d88 33 = .ok (.lstore_n 0, 1) := by decide +kernel
theorem dJ13_bitCount_95d88_34 : decode cJ13_bitCount_95d88 34 = .ok (.lload_n 0, 1) := by decide +kernel
theorem dJ13_bitCount_95d88_35 : decode cJ13_bitCount_95d88 35 = .ok (.lload_n 0, 1) := by decide +kernel
theorem dJ13_bitCount_95d88_36 : decode cJ13_bitCount_95d88 36 = .ok (.bipush 8, 2) := by decide +kernel
theorem dJ13_bitCount_95d88_38 : decode cJ13_bitCount_95d88 38 = .ok (.lushr, 1) := by decide +kernel
theorem dJ13_bitCount_95d88_39 : decode cJ13_bitCount_95d88 39 = .ok (.ladd, 1) := by decide +kernel
theorem dJ13_bitCount_95d88_40 : decode cJ13_bitCount_95d88 40 = .ok (.lstore_n 0, 1) := by decide +kernel
theorem dJ13_bitCount_95d88_41 : decode cJ13_bitCount_95d88 41 = .ok (.lload_n 0, 1) := by decide +kernel
theorem dJ13_bitCount_95d88_42 : decode cJ13_bitCount_95d88 42 = .ok (.lload_n 0, 1) := by decide +kernel
theorem dJ13_bitCount_95d88_43 : decode cJ13_bitCount_95d88 43 = .ok (.bipush 16, 2) := by decide +kernel
theorem dJ13_bitCount_95d88_45 : decode cJ13_bitCount_95d88 45 = .ok (.lushr, 1) := by decide +kernel
theorem dJ13_bitCount_95d88_46 : decode cJ13_bitCount_95d88 46 = .ok (.ladd, 1) := by decide +kernel
theorem dJ13_bitCount_95d88_47 : decode cJ13_bitCount_95d88 47 = .ok (.lstore_n 0, 1) := by decide +kernel
theorem dJ13_bitCount_95d88_48 : decode cJ13_bitCount_95d88 48 = .ok (.lload_n 0, 1) := by decide +kernel
theorem dJ13_bitCount_95d88_49 : decode cJ13_bitCount_95d88 49 = .ok (.lload_n 0, 1) := by decide +kernel
theorem dJ13_bitCount_95d88_50 : decode cJ13_bitCount_95d88 50 = .ok (.bipush 32, 2) := by decide +kernel
theorem dJ13_bitCount_95d88_52 : decode cJ13_bitCount_95d88 52 = .ok (.lushr, 1) := by decide +kernel
theorem dJ13_bitCount_95d88_53 : decode cJ13_bitCount_95d88 53 = .ok (.ladd, 1) := by decide +kernel
theorem dJ13_bitCount_95d88_54 : decode cJ13_bitCount_95d88 54 = .ok (.lstore_n 0, 1) := by decide +kernel
theorem dJ13_bitCount_95d88_55 : decode cJ13_bitCount_95d88 55 = .ok (.lload_n 0, 1) := by decide +kernel
theorem dJ13_bitCount_95d88_56 : decode cJ13_bitCount_95d88 56 = .ok (.l2i, 1) := by decide +kernel
theorem dJ13_bitCount_95d88_57 : decode cJ13_bitCount_95d88 57 = .ok (.bipush 127, 2) := by decide +kernel
theorem dJ13_bitCount_95d88_59 : decode cJ13_bitCount_95d88 59 = .ok (.iand, 1) := by decide +kernel
theorem dJ13_bitCount_95d88_60 : decode cJ13_bitCount_95d88 60 = .ok (.ireturn, 1) := by decide +kernel
set_option maxHeartbeats 4000000 in
set_option maxRecDepth 100000 in
theorem kJ13_bitCount_95d88 {l : Launch} {D : va_G} {cy : Nat → ClassId} {N : Nat} {q : Nat → Nat} {m0 : Nat → Value} {a0 : Nat → vp_A} {sz : Nat} (hN : 105 ≤ N) (p0 : Int64) : gMi l yJ13_bitCount_95d88 cJ13_bitCount_95d88 2 (some .int) ({ frames := 0, cells := 0, slots := 0, locals := 0 } : Room) D cy N q m0 a0 sz [.long p0] (fun r m' a' => r = (fJ13_bitCount_95d88 p0) ∧ m' = m0 ∧ a' = a0) := by
  generalize hs0 : fJ13_bitCount_95d88 p0 = X0
  refine g_ofi (by decide) (Nat.le_of_ble_eq_true rfl) ?_
  intro p e s M args below meth c hx hb hr hG hown hin hlocks hml hW hS ls hl
  unfold fJ13_bitCount_95d88 at hs0
  refine lv_lload_n hx hb dJ13_bitCount_95d88_0 rfl (lv_at hl 0 rfl) ?_
  refine lv_lload_n hx hb dJ13_bitCount_95d88_1 rfl (lv_at hl 0 rfl) ?_
  refine lv_iconst (v := 1) hx hb dJ13_bitCount_95d88_2 (by decide) ?_
  refine lv_lushr hx hb dJ13_bitCount_95d88_3 rfl ?_
  refine lv_ldc2 (v := 6148914691236517205) hx hb hown (hG _ gx351) dJ13_bitCount_95d88_4 ?_
  refine lv_land hx hb dJ13_bitCount_95d88_7 ?_
  refine lv_lsub hx hb dJ13_bitCount_95d88_8 ?_
  refine lv_lstore_n (lv' := [(0, .long (p0 - (((p0.toUInt64 >>> ((1 : Int32).toInt64.toUInt64 &&& Int64.toUInt64 63)).toInt64) &&& (6148914691236517205 : Int64))))]) hx hb dJ13_bitCount_95d88_9 rfl hl (by decide) rfl (fun ls hl => ?_)
  refine lv_lload_n hx hb dJ13_bitCount_95d88_10 rfl (lv_at hl 0 rfl) ?_
  refine lv_ldc2 (v := 3689348814741910323) hx hb hown (hG _ gx352) dJ13_bitCount_95d88_11 ?_
  refine lv_land hx hb dJ13_bitCount_95d88_14 ?_
  refine lv_lload_n hx hb dJ13_bitCount_95d88_15 rfl (lv_at hl 0 rfl) ?_
  refine lv_iconst (v := 2) hx hb dJ13_bitCount_95d88_16 (by decide) ?_
  refine lv_lushr hx hb dJ13_bitCount_95d88_17 rfl ?_
  refine lv_ldc2 (v := 3689348814741910323) hx hb hown (hG _ gx352) dJ13_bitCount_95d88_18 ?_
  refine lv_land hx hb dJ13_bitCount_95d88_21 ?_
  refine lv_ladd hx hb dJ13_bitCount_95d88_22 ?_
  refine lv_lstore_n (lv' := [(0, .long (((p0 - (((p0.toUInt64 >>> ((1 : Int32).toInt64.toUInt64 &&& Int64.toUInt64 63)).toInt64) &&& (6148914691236517205 : Int64))) &&& (3689348814741910323 : Int64)) + ((((p0 - (((p0.toUInt64 >>> ((1 : Int32).toInt64.toUInt64 &&& Int64.toUInt64 63)).toInt64) &&& (6148914691236517205 : Int64))).toUInt64 >>> ((2 : Int32).toInt64.toUInt64 &&& Int64.toUInt64 63)).toInt64) &&& (3689348814741910323 : Int64))))]) hx hb dJ13_bitCount_95d88_23 rfl hl (by decide) rfl (fun ls hl => ?_)
  refine lv_lload_n hx hb dJ13_bitCount_95d88_24 rfl (lv_at hl 0 rfl) ?_
  refine lv_lload_n hx hb dJ13_bitCount_95d88_25 rfl (lv_at hl 0 rfl) ?_
  refine lv_iconst (v := 4) hx hb dJ13_bitCount_95d88_26 (by decide) ?_
  refine lv_lushr hx hb dJ13_bitCount_95d88_27 rfl ?_
  refine lv_ladd hx hb dJ13_bitCount_95d88_28 ?_
  refine lv_ldc2 (v := 1085102592571150095) hx hb hown (hG _ gx353) dJ13_bitCount_95d88_29 ?_
  refine lv_land hx hb dJ13_bitCount_95d88_32 ?_
  refine lv_lstore_n (lv' := [(0, .long (((((p0 - (((p0.toUInt64 >>> ((1 : Int32).toInt64.toUInt64 &&& Int64.toUInt64 63)).toInt64) &&& (6148914691236517205 : Int64))) &&& (3689348814741910323 : Int64)) + ((((p0 - (((p0.toUInt64 >>> ((1 : Int32).toInt64.toUInt64 &&& Int64.toUInt64 63)).toInt64) &&& (6148914691236517205 : Int64))).toUInt64 >>> ((2 : Int32).toInt64.toUInt64 &&& Int64.toUInt64 63)).toInt64) &&& (3689348814741910323 : Int64))) + (((((p0 - (((p0.toUInt64 >>> ((1 : Int32).toInt64.toUInt64 &&& Int64.toUInt64 63)).toInt64) &&& (6148914691236517205 : Int64))) &&& (3689348814741910323 : Int64)) + ((((p0 - (((p0.toUInt64 >>> ((1 : Int32).toInt64.toUInt64 &&& Int64.toUInt64 63)).toInt64) &&& (6148914691236517205 : Int64))).toUInt64 >>> ((2 : Int32).toInt64.toUInt64 &&& Int64.toUInt64 63)).toInt64) &&& (3689348814741910323 : Int64))).toUInt64 >>> ((4 : Int32).toInt64.toUInt64 &&& Int64.toUInt64 63)).toInt64)) &&& (1085102592571150095 : Int64)))]) hx hb dJ13_bitCount_95d88_33 rfl hl (by decide) rfl (fun ls hl => ?_)
  refine lv_lload_n hx hb dJ13_bitCount_95d88_34 rfl (lv_at hl 0 rfl) ?_
  refine lv_lload_n hx hb dJ13_bitCount_95d88_35 rfl (lv_at hl 0 rfl) ?_
  refine lv_bipush (v := 8) hx hb dJ13_bitCount_95d88_36 (by decide) ?_
  refine lv_lushr hx hb dJ13_bitCount_95d88_38 rfl ?_
  refine lv_ladd hx hb dJ13_bitCount_95d88_39 ?_
  refine lv_lstore_n (lv' := [(0, .long ((((((p0 - (((p0.toUInt64 >>> ((1 : Int32).toInt64.toUInt64 &&& Int64.toUInt64 63)).toInt64) &&& (6148914691236517205 : Int64))) &&& (3689348814741910323 : Int64)) + ((((p0 - (((p0.toUInt64 >>> ((1 : Int32).toInt64.toUInt64 &&& Int64.toUInt64 63)).toInt64) &&& (6148914691236517205 : Int64))).toUInt64 >>> ((2 : Int32).toInt64.toUInt64 &&& Int64.toUInt64 63)).toInt64) &&& (3689348814741910323 : Int64))) + (((((p0 - (((p0.toUInt64 >>> ((1 : Int32).toInt64.toUInt64 &&& Int64.toUInt64 63)).toInt64) &&& (6148914691236517205 : Int64))) &&& (3689348814741910323 : Int64)) + ((((p0 - (((p0.toUInt64 >>> ((1 : Int32).toInt64.toUInt64 &&& Int64.toUInt64 63)).toInt64) &&& (6148914691236517205 : Int64))).toUInt64 >>> ((2 : Int32).toInt64.toUInt64 &&& Int64.toUInt64 63)).toInt64) &&& (3689348814741910323 : Int64))).toUInt64 >>> ((4 : Int32).toInt64.toUInt64 &&& Int64.toUInt64 63)).toInt64)) &&& (1085102592571150095 : Int64)) + (((((((p0 - (((p0.toUInt64 >>> ((1 : Int32).toInt64.toUInt64 &&& Int64.toUInt64 63)).toInt64) &&& (6148914691236517205 : Int64))) &&& (3689348814741910323 : Int64)) + ((((p0 - (((p0.toUInt64 >>> ((1 : Int32).toInt64.toUInt64 &&& Int64.toUInt64 63)).toInt64) &&& (6148914691236517205 : Int64))).toUInt64 >>> ((2 : Int32).toInt64.toUInt64 &&& Int64.toUInt64 63)).toInt64) &&& (3689348814741910323 : Int64))) + (((((p0 - (((p0.toUInt64 >>> ((1 : Int32).toInt64.toUInt64 &&& Int64.toUInt64 63)).toInt64) &&& (6148914691236517205 : Int64))) &&& (3689348814741910323 : Int64)) + ((((p0 - (((p0.toUInt64 >>> ((1 : Int32).toInt64.toUInt64 &&& Int64.toUInt64 63)).toInt64) &&& (6148914691236517205 : Int64))).toUInt64 >>> ((2 : Int32).toInt64.toUInt64 &&& Int64.toUInt64 63)).toInt64) &&& (3689348814741910323 : Int64))).toUInt64 >>> ((4 : Int32).toInt64.toUInt64 &&& Int64.toUInt64 63)).toInt64)) &&& (1085102592571150095 : Int64)).toUInt64 >>> ((8 : Int32).toInt64.toUInt64 &&& Int64.toUInt64 63)).toInt64)))]) hx hb dJ13_bitCount_95d88_40 rfl hl (by decide) rfl (fun ls hl => ?_)
  refine lv_lload_n hx hb dJ13_bitCount_95d88_41 rfl (lv_at hl 0 rfl) ?_
  refine lv_lload_n hx hb dJ13_bitCount_95d88_42 rfl (lv_at hl 0 rfl) ?_
  refine lv_bipush (v := 16) hx hb dJ13_bitCount_95d88_43 (by decide) ?_
  refine lv_lushr hx hb dJ13_bitCount_95d88_45 rfl ?_
  refine lv_ladd hx hb dJ13_bitCount_95d88_46 ?_
  refine lv_lstore_n (lv' := [(0, .long (((((((p0 - (((p0.toUInt64 >>> ((1 : Int32).toInt64.toUInt64 &&& Int64.toUInt64 63)).toInt64) &&& (6148914691236517205 : Int64))) &&& (3689348814741910323 : Int64)) + ((((p0 - (((p0.toUInt64 >>> ((1 : Int32).toInt64.toUInt64 &&& Int64.toUInt64 63)).toInt64) &&& (6148914691236517205 : Int64))).toUInt64 >>> ((2 : Int32).toInt64.toUInt64 &&& Int64.toUInt64 63)).toInt64) &&& (3689348814741910323 : Int64))) + (((((p0 - (((p0.toUInt64 >>> ((1 : Int32).toInt64.toUInt64 &&& Int64.toUInt64 63)).toInt64) &&& (6148914691236517205 : Int64))) &&& (3689348814741910323 : Int64)) + ((((p0 - (((p0.toUInt64 >>> ((1 : Int32).toInt64.toUInt64 &&& Int64.toUInt64 63)).toInt64) &&& (6148914691236517205 : Int64))).toUInt64 >>> ((2 : Int32).toInt64.toUInt64 &&& Int64.toUInt64 63)).toInt64) &&& (3689348814741910323 : Int64))).toUInt64 >>> ((4 : Int32).toInt64.toUInt64 &&& Int64.toUInt64 63)).toInt64)) &&& (1085102592571150095 : Int64)) + (((((((p0 - (((p0.toUInt64 >>> ((1 : Int32).toInt64.toUInt64 &&& Int64.toUInt64 63)).toInt64) &&& (6148914691236517205 : Int64))) &&& (3689348814741910323 : Int64)) + ((((p0 - (((p0.toUInt64 >>> ((1 : Int32).toInt64.toUInt64 &&& Int64.toUInt64 63)).toInt64) &&& (6148914691236517205 : Int64))).toUInt64 >>> ((2 : Int32).toInt64.toUInt64 &&& Int64.toUInt64 63)).toInt64) &&& (3689348814741910323 : Int64))) + (((((p0 - (((p0.toUInt64 >>> ((1 : Int32).toInt64.toUInt64 &&& Int64.toUInt64 63)).toInt64) &&& (6148914691236517205 : Int64))) &&& (3689348814741910323 : Int64)) + ((((p0 - (((p0.toUInt64 >>> ((1 : Int32).toInt64.toUInt64 &&& Int64.toUInt64 63)).toInt64) &&& (6148914691236517205 : Int64))).toUInt64 >>> ((2 : Int32).toInt64.toUInt64 &&& Int64.toUInt64 63)).toInt64) &&& (3689348814741910323 : Int64))).toUInt64 >>> ((4 : Int32).toInt64.toUInt64 &&& Int64.toUInt64 63)).toInt64)) &&& (1085102592571150095 : Int64)).toUInt64 >>> ((8 : Int32).toInt64.toUInt64 &&& Int64.toUInt64 63)).toInt64)) + ((((((((p0 - (((p0.toUInt64 >>> ((1 : Int32).toInt64.toUInt64 &&& Int64.toUInt64 63)).toInt64) &&& (6148914691236517205 : Int64))) &&& (3689348814741910323 : Int64)) + ((((p0 - (((p0.toUInt64 >>> ((1 : Int32).toInt64.toUInt64 &&& Int64.toUInt64 63)).toInt64) &&& (6148914691236517205 : Int64))).toUInt64 >>> ((2 : Int32).toInt64.toUInt64 &&& Int64.toUInt64 63)).toInt64) &&& (3689348814741910323 : Int64))) + (((((p0 - (((p0.toUInt64 >>> ((1 : Int32).toInt64.toUInt64 &&& Int64.toUInt64 63)).toInt64) &&& (6148914691236517205 : Int64))) &&& (3689348814741910323 : Int64)) + ((((p0 - (((p0.toUInt64 >>> ((1 : Int32).toInt64.toUInt64 &&& Int64.toUInt64 63)).toInt64) &&& (6148914691236517205 : Int64))).toUInt64 >>> ((2 : Int32).toInt64.toUInt64 &&& Int64.toUInt64 63)).toInt64) &&& (3689348814741910323 : Int64))).toUInt64 >>> ((4 : Int32).toInt64.toUInt64 &&& Int64.toUInt64 63)).toInt64)) &&& (1085102592571150095 : Int64)) + (((((((p0 - (((p0.toUInt64 >>> ((1 : Int32).toInt64.toUInt64 &&& Int64.toUInt64 63)).toInt64) &&& (6148914691236517205 : Int64))) &&& (3689348814741910323 : Int64)) + ((((p0 - (((p0.toUInt64 >>> ((1 : Int32).toInt64.toUInt64 &&& Int64.toUInt64 63)).toInt64) &&& (6148914691236517205 : Int64))).toUInt64 >>> ((2 : Int32).toInt64.toUInt64 &&& Int64.toUInt64 63)).toInt64) &&& (3689348814741910323 : Int64))) + (((((p0 - (((p0.toUInt64 >>> ((1 : Int32).toInt64.toUInt64 &&& Int64.toUInt64 63)).toInt64) &&& (6148914691236517205 : Int64))) &&& (3689348814741910323 : Int64)) + ((((p0 - (((p0.toUInt64 >>> ((1 : Int32).toInt64.toUInt64 &&& Int64.toUInt64 63)).toInt64) &&& (6148914691236517205 : Int64))).toUInt64 >>> ((2 : Int32).toInt64.toUInt64 &&& Int64.toUInt64 63)).toInt64) &&& (3689348814741910323 : Int64))).toUInt64 >>> ((4 : Int32).toInt64.toUInt64 &&& Int64.toUInt64 63)).toInt64)) &&& (1085102592571150095 : Int64)).toUInt64 >>> ((8 : Int32).toInt64.toUInt64 &&& Int64.toUInt64 63)).toInt64)).toUInt64 >>> ((16 : Int32).toInt64.toUInt64 &&& Int64.toUInt64 63)).toInt64)))]) hx hb dJ13_bitCount_95d88_47 rfl hl (by decide) rfl (fun ls hl => ?_)
  refine lv_lload_n hx hb dJ13_bitCount_95d88_48 rfl (lv_at hl 0 rfl) ?_
  refine lv_lload_n hx hb dJ13_bitCount_95d88_49 rfl (lv_at hl 0 rfl) ?_
  refine lv_bipush (v := 32) hx hb dJ13_bitCount_95d88_50 (by decide) ?_
  refine lv_lushr hx hb dJ13_bitCount_95d88_52 rfl ?_
  refine lv_ladd hx hb dJ13_bitCount_95d88_53 ?_
  refine lv_lstore_n (lv' := [(0, .long ((((((((p0 - (((p0.toUInt64 >>> ((1 : Int32).toInt64.toUInt64 &&& Int64.toUInt64 63)).toInt64) &&& (6148914691236517205 : Int64))) &&& (3689348814741910323 : Int64)) + ((((p0 - (((p0.toUInt64 >>> ((1 : Int32).toInt64.toUInt64 &&& Int64.toUInt64 63)).toInt64) &&& (6148914691236517205 : Int64))).toUInt64 >>> ((2 : Int32).toInt64.toUInt64 &&& Int64.toUInt64 63)).toInt64) &&& (3689348814741910323 : Int64))) + (((((p0 - (((p0.toUInt64 >>> ((1 : Int32).toInt64.toUInt64 &&& Int64.toUInt64 63)).toInt64) &&& (6148914691236517205 : Int64))) &&& (3689348814741910323 : Int64)) + ((((p0 - (((p0.toUInt64 >>> ((1 : Int32).toInt64.toUInt64 &&& Int64.toUInt64 63)).toInt64) &&& (6148914691236517205 : Int64))).toUInt64 >>> ((2 : Int32).toInt64.toUInt64 &&& Int64.toUInt64 63)).toInt64) &&& (3689348814741910323 : Int64))).toUInt64 >>> ((4 : Int32).toInt64.toUInt64 &&& Int64.toUInt64 63)).toInt64)) &&& (1085102592571150095 : Int64)) + (((((((p0 - (((p0.toUInt64 >>> ((1 : Int32).toInt64.toUInt64 &&& Int64.toUInt64 63)).toInt64) &&& (6148914691236517205 : Int64))) &&& (3689348814741910323 : Int64)) + ((((p0 - (((p0.toUInt64 >>> ((1 : Int32).toInt64.toUInt64 &&& Int64.toUInt64 63)).toInt64) &&& (6148914691236517205 : Int64))).toUInt64 >>> ((2 : Int32).toInt64.toUInt64 &&& Int64.toUInt64 63)).toInt64) &&& (3689348814741910323 : Int64))) + (((((p0 - (((p0.toUInt64 >>> ((1 : Int32).toInt64.toUInt64 &&& Int64.toUInt64 63)).toInt64) &&& (6148914691236517205 : Int64))) &&& (3689348814741910323 : Int64)) + ((((p0 - (((p0.toUInt64 >>> ((1 : Int32).toInt64.toUInt64 &&& Int64.toUInt64 63)).toInt64) &&& (6148914691236517205 : Int64))).toUInt64 >>> ((2 : Int32).toInt64.toUInt64 &&& Int64.toUInt64 63)).toInt64) &&& (3689348814741910323 : Int64))).toUInt64 >>> ((4 : Int32).toInt64.toUInt64 &&& Int64.toUInt64 63)).toInt64)) &&& (1085102592571150095 : Int64)).toUInt64 >>> ((8 : Int32).toInt64.toUInt64 &&& Int64.toUInt64 63)).toInt64)) + ((((((((p0 - (((p0.toUInt64 >>> ((1 : Int32).toInt64.toUInt64 &&& Int64.toUInt64 63)).toInt64) &&& (6148914691236517205 : Int64))) &&& (3689348814741910323 : Int64)) + ((((p0 - (((p0.toUInt64 >>> ((1 : Int32).toInt64.toUInt64 &&& Int64.toUInt64 63)).toInt64) &&& (6148914691236517205 : Int64))).toUInt64 >>> ((2 : Int32).toInt64.toUInt64 &&& Int64.toUInt64 63)).toInt64) &&& (3689348814741910323 : Int64))) + (((((p0 - (((p0.toUInt64 >>> ((1 : Int32).toInt64.toUInt64 &&& Int64.toUInt64 63)).toInt64) &&& (6148914691236517205 : Int64))) &&& (3689348814741910323 : Int64)) + ((((p0 - (((p0.toUInt64 >>> ((1 : Int32).toInt64.toUInt64 &&& Int64.toUInt64 63)).toInt64) &&& (6148914691236517205 : Int64))).toUInt64 >>> ((2 : Int32).toInt64.toUInt64 &&& Int64.toUInt64 63)).toInt64) &&& (3689348814741910323 : Int64))).toUInt64 >>> ((4 : Int32).toInt64.toUInt64 &&& Int64.toUInt64 63)).toInt64)) &&& (1085102592571150095 : Int64)) + (((((((p0 - (((p0.toUInt64 >>> ((1 : Int32).toInt64.toUInt64 &&& Int64.toUInt64 63)).toInt64) &&& (6148914691236517205 : Int64))) &&& (3689348814741910323 : Int64)) + ((((p0 - (((p0.toUInt64 >>> ((1 : Int32).toInt64.toUInt64 &&& Int64.toUInt64 63)).toInt64) &&& (6148914691236517205 : Int64))).toUInt64 >>> ((2 : Int32).toInt64.toUInt64 &&& Int64.toUInt64 63)).toInt64) &&& (3689348814741910323 : Int64))) + (((((p0 - (((p0.toUInt64 >>> ((1 : Int32).toInt64.toUInt64 &&& Int64.toUInt64 63)).toInt64) &&& (6148914691236517205 : Int64))) &&& (3689348814741910323 : Int64)) + ((((p0 - (((p0.toUInt64 >>> ((1 : Int32).toInt64.toUInt64 &&& Int64.toUInt64 63)).toInt64) &&& (6148914691236517205 : Int64))).toUInt64 >>> ((2 : Int32).toInt64.toUInt64 &&& Int64.toUInt64 63)).toInt64) &&& (3689348814741910323 : Int64))).toUInt64 >>> ((4 : Int32).toInt64.toUInt64 &&& Int64.toUInt64 63)).toInt64)) &&& (1085102592571150095 : Int64)).toUInt64 >>> ((8 : Int32).toInt64.toUInt64 &&& Int64.toUInt64 63)).toInt64)).toUInt64 >>> ((16 : Int32).toInt64.toUInt64 &&& Int64.toUInt64 63)).toInt64)) + (((((((((p0 - (((p0.toUInt64 >>> ((1 : Int32).toInt64.toUInt64 &&& Int64.toUInt64 63)).toInt64) &&& (6148914691236517205 : Int64))) &&& (3689348814741910323 : Int64)) + ((((p0 - (((p0.toUInt64 >>> ((1 : Int32).toInt64.toUInt64 &&& Int64.toUInt64 63)).toInt64) &&& (6148914691236517205 : Int64))).toUInt64 >>> ((2 : Int32).toInt64.toUInt64 &&& Int64.toUInt64 63)).toInt64) &&& (3689348814741910323 : Int64))) + (((((p0 - (((p0.toUInt64 >>> ((1 : Int32).toInt64.toUInt64 &&& Int64.toUInt64 63)).toInt64) &&& (6148914691236517205 : Int64))) &&& (3689348814741910323 : Int64)) + ((((p0 - (((p0.toUInt64 >>> ((1 : Int32).toInt64.toUInt64 &&& Int64.toUInt64 63)).toInt64) &&& (6148914691236517205 : Int64))).toUInt64 >>> ((2 : Int32).toInt64.toUInt64 &&& Int64.toUInt64 63)).toInt64) &&& (3689348814741910323 : Int64))).toUInt64 >>> ((4 : Int32).toInt64.toUInt64 &&& Int64.toUInt64 63)).toInt64)) &&& (1085102592571150095 : Int64)) + (((((((p0 - (((p0.toUInt64 >>> ((1 : Int32).toInt64.toUInt64 &&& Int64.toUInt64 63)).toInt64) &&& (6148914691236517205 : Int64))) &&& (3689348814741910323 : Int64)) + ((((p0 - (((p0.toUInt64 >>> ((1 : Int32).toInt64.toUInt64 &&& Int64.toUInt64 63)).toInt64) &&& (6148914691236517205 : Int64))).toUInt64 >>> ((2 : Int32).toInt64.toUInt64 &&& Int64.toUInt64 63)).toInt64) &&& (3689348814741910323 : Int64))) + (((((p0 - (((p0.toUInt64 >>> ((1 : Int32).toInt64.toUInt64 &&& Int64.toUInt64 63)).toInt64) &&& (6148914691236517205 : Int64))) &&& (3689348814741910323 : Int64)) + ((((p0 - (((p0.toUInt64 >>> ((1 : Int32).toInt64.toUInt64 &&& Int64.toUInt64 63)).toInt64) &&& (6148914691236517205 : Int64))).toUInt64 >>> ((2 : Int32).toInt64.toUInt64 &&& Int64.toUInt64 63)).toInt64) &&& (3689348814741910323 : Int64))).toUInt64 >>> ((4 : Int32).toInt64.toUInt64 &&& Int64.toUInt64 63)).toInt64)) &&& (1085102592571150095 : Int64)).toUInt64 >>> ((8 : Int32).toInt64.toUInt64 &&& Int64.toUInt64 63)).toInt64)) + ((((((((p0 - (((p0.toUInt64 >>> ((1 : Int32).toInt64.toUInt64 &&& Int64.toUInt64 63)).toInt64) &&& (6148914691236517205 : Int64))) &&& (3689348814741910323 : Int64)) + ((((p0 - (((p0.toUInt64 >>> ((1 : Int32).toInt64.toUInt64 &&& Int64.toUInt64 63)).toInt64) &&& (6148914691236517205 : Int64))).toUInt64 >>> ((2 : Int32).toInt64.toUInt64 &&& Int64.toUInt64 63)).toInt64) &&& (3689348814741910323 : Int64))) + (((((p0 - (((p0.toUInt64 >>> ((1 : Int32).toInt64.toUInt64 &&& Int64.toUInt64 63)).toInt64) &&& (6148914691236517205 : Int64))) &&& (3689348814741910323 : Int64)) + ((((p0 - (((p0.toUInt64 >>> ((1 : Int32).toInt64.toUInt64 &&& Int64.toUInt64 63)).toInt64) &&& (6148914691236517205 : Int64))).toUInt64 >>> ((2 : Int32).toInt64.toUInt64 &&& Int64.toUInt64 63)).toInt64) &&& (3689348814741910323 : Int64))).toUInt64 >>> ((4 : Int32).toInt64.toUInt64 &&& Int64.toUInt64 63)).toInt64)) &&& (1085102592571150095 : Int64)) + (((((((p0 - (((p0.toUInt64 >>> ((1 : Int32).toInt64.toUInt64 &&& Int64.toUInt64 63)).toInt64) &&& (6148914691236517205 : Int64))) &&& (3689348814741910323 : Int64)) + ((((p0 - (((p0.toUInt64 >>> ((1 : Int32).toInt64.toUInt64 &&& Int64.toUInt64 63)).toInt64) &&& (6148914691236517205 : Int64))).toUInt64 >>> ((2 : Int32).toInt64.toUInt64 &&& Int64.toUInt64 63)).toInt64) &&& (3689348814741910323 : Int64))) + (((((p0 - (((p0.toUInt64 >>> ((1 : Int32).toInt64.toUInt64 &&& Int64.toUInt64 63)).toInt64) &&& (6148914691236517205 : Int64))) &&& (3689348814741910323 : Int64)) + ((((p0 - (((p0.toUInt64 >>> ((1 : Int32).toInt64.toUInt64 &&& Int64.toUInt64 63)).toInt64) &&& (6148914691236517205 : Int64))).toUInt64 >>> ((2 : Int32).toInt64.toUInt64 &&& Int64.toUInt64 63)).toInt64) &&& (3689348814741910323 : Int64))).toUInt64 >>> ((4 : Int32).toInt64.toUInt64 &&& Int64.toUInt64 63)).toInt64)) &&& (1085102592571150095 : Int64)).toUInt64 >>> ((8 : Int32).toInt64.toUInt64 &&& Int64.toUInt64 63)).toInt64)).toUInt64 >>> ((16 : Int32).toInt64.toUInt64 &&& Int64.toUInt64 63)).toInt64)).toUInt64 >>> ((32 : Int32).toInt64.toUInt64 &&& Int64.toUInt64 63)).toInt64)))]) hx hb dJ13_bitCount_95d88_54 rfl hl (by decide) rfl (fun ls hl => ?_)
  refine lv_lload_n hx hb dJ13_bitCount_95d88_55 rfl (lv_at hl 0 rfl) ?_
  refine lv_l2i hx hb dJ13_bitCount_95d88_56 rfl ?_
  refine lv_bipush (v := 127) hx hb dJ13_bitCount_95d88_57 (by decide) ?_
  refine lv_iand hx hb dJ13_bitCount_95d88_59 ?_
  subst hs0
  exact W.zret hx hb hr rfl (fun t ht hw => ⟨⟨_, (m0, a0), rfl, ⟨rfl, rfl, rfl⟩, g_end hW ht hw⟩, hS.F ht⟩) hS.2.2 dJ13_bitCount_95d88_60 hlocks
-- HealLink$Rules.allows (II)Z
def fX7_allows (p0 : Int32) (p1 : Int32) : Int32 := (if p0 = 0 then (if p1 < 1 then 0 else (if 2 < p1 then 0 else 1)) else (if p0 = 1 then (if p1 < 2 then 0 else (if 4 < p1 then 0 else 1)) else (if p0 = 2 then (if p1 < 1 then 0 else (if 7 < p1 then 0 else 1)) else (if p0 = 3 then (if p1 < 1 then 0 else (if 4 < p1 then 0 else 1)) else 0))))
theorem dX7_allows_0 : decode cX7_allows 0 = .ok (.iload_n 0, 1) := by decide +kernel
theorem dX7_allows_1 : decode cX7_allows 1 = .ok (.tableswitch 96 0 3 #[31, 47, 63, 80], 31) := by decide +kernel
theorem dX7_allows_32 : decode cX7_allows 32 = .ok (.iload_n 1, 1) := by decide +kernel
theorem dX7_allows_33 : decode cX7_allows 33 = .ok (.iconst 1, 1) := by decide +kernel
theorem dX7_allows_34 : decode cX7_allows 34 = .ok (.if_icmp .lt 12, 3) := by decide +kernel
theorem dX7_allows_37 : decode cX7_allows 37 = .ok (.iload_n 1, 1) := by decide +kernel
theorem dX7_allows_38 : decode cX7_allows 38 = .ok (.iconst 2, 1) := by decide +kernel
theorem dX7_allows_39 : decode cX7_allows 39 = .ok (.if_icmp .gt 7, 3) := by decide +kernel
theorem dX7_allows_42 : decode cX7_allows 42 = .ok (.iconst 1, 1) := by decide +kernel
theorem dX7_allows_43 : decode cX7_allows 43 = .ok (.goto 4, 3) := by decide +kernel
theorem dX7_allows_46 : decode cX7_allows 46 = .ok (.iconst 0, 1) := by decide +kernel
theorem dX7_allows_47 : decode cX7_allows 47 = .ok (.ireturn, 1) := by decide +kernel
theorem dX7_allows_48 : decode cX7_allows 48 = .ok (.iload_n 1, 1) := by decide +kernel
theorem dX7_allows_49 : decode cX7_allows 49 = .ok (.iconst 2, 1) := by decide +kernel
theorem dX7_allows_50 : decode cX7_allows 50 = .ok (.if_icmp .lt 12, 3) := by decide +kernel
theorem dX7_allows_53 : decode cX7_allows 53 = .ok (.iload_n 1, 1) := by decide +kernel
theorem dX7_allows_54 : decode cX7_allows 54 = .ok (.iconst 4, 1) := by decide +kernel
theorem dX7_allows_55 : decode cX7_allows 55 = .ok (.if_icmp .gt 7, 3) := by decide +kernel
theorem dX7_allows_58 : decode cX7_allows 58 = .ok (.iconst 1, 1) := by decide +kernel
theorem dX7_allows_59 : decode cX7_allows 59 = .ok (.goto 4, 3) := by decide +kernel
theorem dX7_allows_62 : decode cX7_allows 62 = .ok (.iconst 0, 1) := by decide +kernel
theorem dX7_allows_63 : decode cX7_allows 63 = .ok (.ireturn, 1) := by decide +kernel
theorem dX7_allows_64 : decode cX7_allows 64 = .ok (.iload_n 1, 1) := by decide +kernel
theorem dX7_allows_65 : decode cX7_allows 65 = .ok (.iconst 1, 1) := by decide +kernel
theorem dX7_allows_66 : decode cX7_allows 66 = .ok (.if_icmp .lt 13, 3) := by decide +kernel
theorem dX7_allows_69 : decode cX7_allows 69 = .ok (.iload_n 1, 1) := by decide +kernel
theorem dX7_allows_70 : decode cX7_allows 70 = .ok (.bipush 7, 2) := by decide +kernel
theorem dX7_allows_72 : decode cX7_allows 72 = .ok (.if_icmp .gt 7, 3) := by decide +kernel
theorem dX7_allows_75 : decode cX7_allows 75 = .ok (.iconst 1, 1) := by decide +kernel
theorem dX7_allows_76 : decode cX7_allows 76 = .ok (.goto 4, 3) := by decide +kernel
theorem dX7_allows_79 : decode cX7_allows 79 = .ok (.iconst 0, 1) := by decide +kernel
theorem dX7_allows_80 : decode cX7_allows 80 = .ok (.ireturn, 1) := by decide +kernel
theorem dX7_allows_81 : decode cX7_allows 81 = .ok (.iload_n 1, 1) := by decide +kernel
theorem dX7_allows_82 : decode cX7_allows 82 = .ok (.iconst 1, 1) := by decide +kernel
theorem dX7_allows_83 : decode cX7_allows 83 = .ok (.if_icmp .lt 12, 3) := by decide +kernel
theorem dX7_allows_86 : decode cX7_allows 86 = .ok (.iload_n 1, 1) := by decide +kernel
theorem dX7_allows_87 : decode cX7_allows 87 = .ok (.iconst 4, 1) := by decide +kernel
theorem dX7_allows_88 : decode cX7_allows 88 = .ok (.if_icmp .gt 7, 3) := by decide +kernel
theorem dX7_allows_91 : decode cX7_allows 91 = .ok (.iconst 1, 1) := by decide +kernel
theorem dX7_allows_92 : decode cX7_allows 92 = .ok (.goto 4, 3) := by decide +kernel
theorem dX7_allows_95 : decode cX7_allows 95 = .ok (.iconst 0, 1) := by decide +kernel
theorem dX7_allows_96 : decode cX7_allows 96 = .ok (.ireturn, 1) := by decide +kernel
theorem dX7_allows_97 : decode cX7_allows 97 = .ok (.iconst 0, 1) := by decide +kernel
theorem dX7_allows_98 : decode cX7_allows 98 = .ok (.ireturn, 1) := by decide +kernel
set_option maxHeartbeats 4000000 in
set_option maxRecDepth 100000 in
theorem kX7_allows {l : Launch} {D : va_G} {cy : Nat → ClassId} {N : Nat} {q : Nat → Nat} {m0 : Nat → Value} {a0 : Nat → vp_A} {sz : Nat} (hN : 105 ≤ N) (p0 : Int32) (p1 : Int32) : gMi l yX7_allows cX7_allows 2 (some .boolean) ({ frames := 0, cells := 0, slots := 0, locals := 0 } : Room) D cy N q m0 a0 sz [.int p0, .int p1] (fun r m' a' => r = (fX7_allows p0 p1) ∧ m' = m0 ∧ a' = a0) := by
  generalize hs0 : fX7_allows p0 p1 = X0
  refine g_ofi (by decide) (Nat.le_of_ble_eq_true rfl) ?_
  intro p e s M args below meth c hx hb hr hG hown hin hlocks hml hW hS ls hl
  unfold fX7_allows at hs0
  refine lv_iload_n hx hb dX7_allows_0 rfl (lv_at hl 0 rfl) ?_
  by_cases c1 : p0 = 0
  · rw [if_pos c1] at hs0
    refine lv_tableIn (tgt := 32) hx hb dX7_allows_1 (by rw [c1]; decide) (by rw [c1]; decide) (by rw [c1]; rfl) (by decide) ?_
    refine lv_iload_n hx hb dX7_allows_32 rfl (lv_at hl 1 rfl) ?_
    refine lv_iconst (v := 1) hx hb dX7_allows_33 (by decide) ?_
    refine lv_icmp_lt (tgt := 46) hx hb dX7_allows_34 (by decide) (fun c2 => ?_) (fun c2 => ?_)
    · rw [if_pos c2] at hs0
      refine lv_iconst (v := 0) hx hb dX7_allows_46 (by decide) ?_
      subst hs0
      exact W.zret hx hb hr rfl (fun t ht hw => ⟨⟨_, (m0, a0), rfl, ⟨rfl, rfl, rfl⟩, g_end hW ht hw⟩, hS.F ht⟩) hS.2.2 dX7_allows_47 hlocks
    · rw [if_neg c2] at hs0
      refine lv_iload_n hx hb dX7_allows_37 rfl (lv_at hl 1 rfl) ?_
      refine lv_iconst (v := 2) hx hb dX7_allows_38 (by decide) ?_
      refine lv_icmp_gt (tgt := 46) hx hb dX7_allows_39 (by decide) (fun c3 => ?_) (fun c3 => ?_)
      · rw [if_pos c3] at hs0
        refine lv_iconst (v := 0) hx hb dX7_allows_46 (by decide) ?_
        subst hs0
        exact W.zret hx hb hr rfl (fun t ht hw => ⟨⟨_, (m0, a0), rfl, ⟨rfl, rfl, rfl⟩, g_end hW ht hw⟩, hS.F ht⟩) hS.2.2 dX7_allows_47 hlocks
      · rw [if_neg c3] at hs0
        refine lv_iconst (v := 1) hx hb dX7_allows_42 (by decide) ?_
        refine lv_goto (tgt := 47) hx hb dX7_allows_43 (by decide) ?_
        subst hs0
        exact W.zret hx hb hr rfl (fun t ht hw => ⟨⟨_, (m0, a0), rfl, ⟨rfl, rfl, rfl⟩, g_end hW ht hw⟩, hS.F ht⟩) hS.2.2 dX7_allows_47 hlocks
  · rw [if_neg c1] at hs0
    by_cases c4 : p0 = 1
    · rw [if_pos c4] at hs0
      refine lv_tableIn (tgt := 48) hx hb dX7_allows_1 (by rw [c4]; decide) (by rw [c4]; decide) (by rw [c4]; rfl) (by decide) ?_
      refine lv_iload_n hx hb dX7_allows_48 rfl (lv_at hl 1 rfl) ?_
      refine lv_iconst (v := 2) hx hb dX7_allows_49 (by decide) ?_
      refine lv_icmp_lt (tgt := 62) hx hb dX7_allows_50 (by decide) (fun c5 => ?_) (fun c5 => ?_)
      · rw [if_pos c5] at hs0
        refine lv_iconst (v := 0) hx hb dX7_allows_62 (by decide) ?_
        subst hs0
        exact W.zret hx hb hr rfl (fun t ht hw => ⟨⟨_, (m0, a0), rfl, ⟨rfl, rfl, rfl⟩, g_end hW ht hw⟩, hS.F ht⟩) hS.2.2 dX7_allows_63 hlocks
      · rw [if_neg c5] at hs0
        refine lv_iload_n hx hb dX7_allows_53 rfl (lv_at hl 1 rfl) ?_
        refine lv_iconst (v := 4) hx hb dX7_allows_54 (by decide) ?_
        refine lv_icmp_gt (tgt := 62) hx hb dX7_allows_55 (by decide) (fun c6 => ?_) (fun c6 => ?_)
        · rw [if_pos c6] at hs0
          refine lv_iconst (v := 0) hx hb dX7_allows_62 (by decide) ?_
          subst hs0
          exact W.zret hx hb hr rfl (fun t ht hw => ⟨⟨_, (m0, a0), rfl, ⟨rfl, rfl, rfl⟩, g_end hW ht hw⟩, hS.F ht⟩) hS.2.2 dX7_allows_63 hlocks
        · rw [if_neg c6] at hs0
          refine lv_iconst (v := 1) hx hb dX7_allows_58 (by decide) ?_
          refine lv_goto (tgt := 63) hx hb dX7_allows_59 (by decide) ?_
          subst hs0
          exact W.zret hx hb hr rfl (fun t ht hw => ⟨⟨_, (m0, a0), rfl, ⟨rfl, rfl, rfl⟩, g_end hW ht hw⟩, hS.F ht⟩) hS.2.2 dX7_allows_63 hlocks
    · rw [if_neg c4] at hs0
      by_cases c7 : p0 = 2
      · rw [if_pos c7] at hs0
        refine lv_tableIn (tgt := 64) hx hb dX7_allows_1 (by rw [c7]; decide) (by rw [c7]; decide) (by rw [c7]; rfl) (by decide) ?_
        refine lv_iload_n hx hb dX7_allows_64 rfl (lv_at hl 1 rfl) ?_
        refine lv_iconst (v := 1) hx hb dX7_allows_65 (by decide) ?_
        refine lv_icmp_lt (tgt := 79) hx hb dX7_allows_66 (by decide) (fun c8 => ?_) (fun c8 => ?_)
        · rw [if_pos c8] at hs0
          refine lv_iconst (v := 0) hx hb dX7_allows_79 (by decide) ?_
          subst hs0
          exact W.zret hx hb hr rfl (fun t ht hw => ⟨⟨_, (m0, a0), rfl, ⟨rfl, rfl, rfl⟩, g_end hW ht hw⟩, hS.F ht⟩) hS.2.2 dX7_allows_80 hlocks
        · rw [if_neg c8] at hs0
          refine lv_iload_n hx hb dX7_allows_69 rfl (lv_at hl 1 rfl) ?_
          refine lv_bipush (v := 7) hx hb dX7_allows_70 (by decide) ?_
          refine lv_icmp_gt (tgt := 79) hx hb dX7_allows_72 (by decide) (fun c9 => ?_) (fun c9 => ?_)
          · rw [if_pos c9] at hs0
            refine lv_iconst (v := 0) hx hb dX7_allows_79 (by decide) ?_
            subst hs0
            exact W.zret hx hb hr rfl (fun t ht hw => ⟨⟨_, (m0, a0), rfl, ⟨rfl, rfl, rfl⟩, g_end hW ht hw⟩, hS.F ht⟩) hS.2.2 dX7_allows_80 hlocks
          · rw [if_neg c9] at hs0
            refine lv_iconst (v := 1) hx hb dX7_allows_75 (by decide) ?_
            refine lv_goto (tgt := 80) hx hb dX7_allows_76 (by decide) ?_
            subst hs0
            exact W.zret hx hb hr rfl (fun t ht hw => ⟨⟨_, (m0, a0), rfl, ⟨rfl, rfl, rfl⟩, g_end hW ht hw⟩, hS.F ht⟩) hS.2.2 dX7_allows_80 hlocks
      · rw [if_neg c7] at hs0
        by_cases c10 : p0 = 3
        · rw [if_pos c10] at hs0
          refine lv_tableIn (tgt := 81) hx hb dX7_allows_1 (by rw [c10]; decide) (by rw [c10]; decide) (by rw [c10]; rfl) (by decide) ?_
          refine lv_iload_n hx hb dX7_allows_81 rfl (lv_at hl 1 rfl) ?_
          refine lv_iconst (v := 1) hx hb dX7_allows_82 (by decide) ?_
          refine lv_icmp_lt (tgt := 95) hx hb dX7_allows_83 (by decide) (fun c11 => ?_) (fun c11 => ?_)
          · rw [if_pos c11] at hs0
            refine lv_iconst (v := 0) hx hb dX7_allows_95 (by decide) ?_
            subst hs0
            exact W.zret hx hb hr rfl (fun t ht hw => ⟨⟨_, (m0, a0), rfl, ⟨rfl, rfl, rfl⟩, g_end hW ht hw⟩, hS.F ht⟩) hS.2.2 dX7_allows_96 hlocks
          · rw [if_neg c11] at hs0
            refine lv_iload_n hx hb dX7_allows_86 rfl (lv_at hl 1 rfl) ?_
            refine lv_iconst (v := 4) hx hb dX7_allows_87 (by decide) ?_
            refine lv_icmp_gt (tgt := 95) hx hb dX7_allows_88 (by decide) (fun c12 => ?_) (fun c12 => ?_)
            · rw [if_pos c12] at hs0
              refine lv_iconst (v := 0) hx hb dX7_allows_95 (by decide) ?_
              subst hs0
              exact W.zret hx hb hr rfl (fun t ht hw => ⟨⟨_, (m0, a0), rfl, ⟨rfl, rfl, rfl⟩, g_end hW ht hw⟩, hS.F ht⟩) hS.2.2 dX7_allows_96 hlocks
            · rw [if_neg c12] at hs0
              refine lv_iconst (v := 1) hx hb dX7_allows_91 (by decide) ?_
              refine lv_goto (tgt := 96) hx hb dX7_allows_92 (by decide) ?_
              subst hs0
              exact W.zret hx hb hr rfl (fun t ht hw => ⟨⟨_, (m0, a0), rfl, ⟨rfl, rfl, rfl⟩, g_end hW ht hw⟩, hS.F ht⟩) hS.2.2 dX7_allows_96 hlocks
        · rw [if_neg c10] at hs0
          have n1 := ti_ne (n := 0) c1 (by decide)
          have n4 := ti_ne (n := 1) c4 (by decide)
          have n7 := ti_ne (n := 2) c7 (by decide)
          have n10 := ti_ne (n := 3) c10 (by decide)
          refine lv_tableOut (tgt := 97) hx hb dX7_allows_1 (by omega) (by decide) ?_
          refine lv_iconst (v := 0) hx hb dX7_allows_97 (by decide) ?_
          subst hs0
          exact W.zret hx hb hr rfl (fun t ht hw => ⟨⟨_, (m0, a0), rfl, ⟨rfl, rfl, rfl⟩, g_end hW ht hw⟩, hS.F ht⟩) hS.2.2 dX7_allows_98 hlocks
-- HealLink$Rules.seenAt (I)I
def fX7_seenAt (p0 : Int32) : Int32 := 24 + (2 * (7 - p0))
theorem dX7_seenAt_0 : decode cX7_seenAt 0 = .ok (.bipush 24, 2) := by decide +kernel
theorem dX7_seenAt_2 : decode cX7_seenAt 2 = .ok (.iconst 2, 1) := by decide +kernel
theorem dX7_seenAt_3 : decode cX7_seenAt 3 = .ok (.bipush 7, 2) := by decide +kernel
theorem dX7_seenAt_5 : decode cX7_seenAt 5 = .ok (.iload_n 0, 1) := by decide +kernel
theorem dX7_seenAt_6 : decode cX7_seenAt 6 = .ok (.isub, 1) := by decide +kernel
theorem dX7_seenAt_7 : decode cX7_seenAt 7 = .ok (.imul, 1) := by decide +kernel
theorem dX7_seenAt_8 : decode cX7_seenAt 8 = .ok (.iadd, 1) := by decide +kernel
theorem dX7_seenAt_9 : decode cX7_seenAt 9 = .ok (.ireturn, 1) := by decide +kernel
set_option maxHeartbeats 4000000 in
set_option maxRecDepth 100000 in
theorem kX7_seenAt {l : Launch} {D : va_G} {cy : Nat → ClassId} {N : Nat} {q : Nat → Nat} {m0 : Nat → Value} {a0 : Nat → vp_A} {sz : Nat} (hN : 105 ≤ N) (p0 : Int32) : gMi l yX7_seenAt cX7_seenAt 1 (some .int) ({ frames := 0, cells := 0, slots := 0, locals := 0 } : Room) D cy N q m0 a0 sz [.int p0] (fun r m' a' => r = (fX7_seenAt p0) ∧ m' = m0 ∧ a' = a0) := by
  generalize hs0 : fX7_seenAt p0 = X0
  refine g_ofi (by decide) (Nat.le_of_ble_eq_true rfl) ?_
  intro p e s M args below meth c hx hb hr hG hown hin hlocks hml hW hS ls hl
  unfold fX7_seenAt at hs0
  refine lv_bipush (v := 24) hx hb dX7_seenAt_0 (by decide) ?_
  refine lv_iconst (v := 2) hx hb dX7_seenAt_2 (by decide) ?_
  refine lv_bipush (v := 7) hx hb dX7_seenAt_3 (by decide) ?_
  refine lv_iload_n hx hb dX7_seenAt_5 rfl (lv_at hl 0 rfl) ?_
  refine lv_isub hx hb dX7_seenAt_6 ?_
  refine lv_imul hx hb dX7_seenAt_7 ?_
  refine lv_iadd hx hb dX7_seenAt_8 ?_
  subst hs0
  exact W.zret hx hb hr rfl (fun t ht hw => ⟨⟨_, (m0, a0), rfl, ⟨rfl, rfl, rfl⟩, g_end hW ht hw⟩, hS.F ht⟩) hS.2.2 dX7_seenAt_9 hlocks
-- HealLink$Rules.packetsAt (I)I
def fX7_packetsAt (p0 : Int32) : Int32 := 8 + (2 * (7 - p0))
theorem dX7_packetsAt_0 : decode cX7_packetsAt 0 = .ok (.bipush 8, 2) := by decide +kernel
theorem dX7_packetsAt_2 : decode cX7_packetsAt 2 = .ok (.iconst 2, 1) := by decide +kernel
theorem dX7_packetsAt_3 : decode cX7_packetsAt 3 = .ok (.bipush 7, 2) := by decide +kernel
theorem dX7_packetsAt_5 : decode cX7_packetsAt 5 = .ok (.iload_n 0, 1) := by decide +kernel
theorem dX7_packetsAt_6 : decode cX7_packetsAt 6 = .ok (.isub, 1) := by decide +kernel
theorem dX7_packetsAt_7 : decode cX7_packetsAt 7 = .ok (.imul, 1) := by decide +kernel
theorem dX7_packetsAt_8 : decode cX7_packetsAt 8 = .ok (.iadd, 1) := by decide +kernel
theorem dX7_packetsAt_9 : decode cX7_packetsAt 9 = .ok (.ireturn, 1) := by decide +kernel
set_option maxHeartbeats 4000000 in
set_option maxRecDepth 100000 in
theorem kX7_packetsAt {l : Launch} {D : va_G} {cy : Nat → ClassId} {N : Nat} {q : Nat → Nat} {m0 : Nat → Value} {a0 : Nat → vp_A} {sz : Nat} (hN : 105 ≤ N) (p0 : Int32) : gMi l yX7_packetsAt cX7_packetsAt 1 (some .int) ({ frames := 0, cells := 0, slots := 0, locals := 0 } : Room) D cy N q m0 a0 sz [.int p0] (fun r m' a' => r = (fX7_packetsAt p0) ∧ m' = m0 ∧ a' = a0) := by
  generalize hs0 : fX7_packetsAt p0 = X0
  refine g_ofi (by decide) (Nat.le_of_ble_eq_true rfl) ?_
  intro p e s M args below meth c hx hb hr hG hown hin hlocks hml hW hS ls hl
  unfold fX7_packetsAt at hs0
  refine lv_bipush (v := 8) hx hb dX7_packetsAt_0 (by decide) ?_
  refine lv_iconst (v := 2) hx hb dX7_packetsAt_2 (by decide) ?_
  refine lv_bipush (v := 7) hx hb dX7_packetsAt_3 (by decide) ?_
  refine lv_iload_n hx hb dX7_packetsAt_5 rfl (lv_at hl 0 rfl) ?_
  refine lv_isub hx hb dX7_packetsAt_6 ?_
  refine lv_imul hx hb dX7_packetsAt_7 ?_
  refine lv_iadd hx hb dX7_packetsAt_8 ?_
  subst hs0
  exact W.zret hx hb hr rfl (fun t ht hw => ⟨⟨_, (m0, a0), rfl, ⟨rfl, rfl, rfl⟩, g_end hW ht hw⟩, hS.F ht⟩) hS.2.2 dX7_packetsAt_9 hlocks
-- HealLink$Rules.lettersAt (I)I
def fX7_lettersAt (p0 : Int32) : Int32 := 2 * (3 - p0)
theorem dX7_lettersAt_0 : decode cX7_lettersAt 0 = .ok (.iconst 2, 1) := by decide +kernel
theorem dX7_lettersAt_1 : decode cX7_lettersAt 1 = .ok (.iconst 3, 1) := by decide +kernel
theorem dX7_lettersAt_2 : decode cX7_lettersAt 2 = .ok (.iload_n 0, 1) := by decide +kernel
theorem dX7_lettersAt_3 : decode cX7_lettersAt 3 = .ok (.isub, 1) := by decide +kernel
theorem dX7_lettersAt_4 : decode cX7_lettersAt 4 = .ok (.imul, 1) := by decide +kernel
theorem dX7_lettersAt_5 : decode cX7_lettersAt 5 = .ok (.ireturn, 1) := by decide +kernel
set_option maxHeartbeats 4000000 in
set_option maxRecDepth 100000 in
theorem kX7_lettersAt {l : Launch} {D : va_G} {cy : Nat → ClassId} {N : Nat} {q : Nat → Nat} {m0 : Nat → Value} {a0 : Nat → vp_A} {sz : Nat} (hN : 105 ≤ N) (p0 : Int32) : gMi l yX7_lettersAt cX7_lettersAt 1 (some .int) ({ frames := 0, cells := 0, slots := 0, locals := 0 } : Room) D cy N q m0 a0 sz [.int p0] (fun r m' a' => r = (fX7_lettersAt p0) ∧ m' = m0 ∧ a' = a0) := by
  generalize hs0 : fX7_lettersAt p0 = X0
  refine g_ofi (by decide) (Nat.le_of_ble_eq_true rfl) ?_
  intro p e s M args below meth c hx hb hr hG hown hin hlocks hml hW hS ls hl
  unfold fX7_lettersAt at hs0
  refine lv_iconst (v := 2) hx hb dX7_lettersAt_0 (by decide) ?_
  refine lv_iconst (v := 3) hx hb dX7_lettersAt_1 (by decide) ?_
  refine lv_iload_n hx hb dX7_lettersAt_2 rfl (lv_at hl 0 rfl) ?_
  refine lv_isub hx hb dX7_lettersAt_3 ?_
  refine lv_imul hx hb dX7_lettersAt_4 ?_
  subst hs0
  exact W.zret hx hb hr rfl (fun t ht hw => ⟨⟨_, (m0, a0), rfl, ⟨rfl, rfl, rfl⟩, g_end hW ht hw⟩, hS.F ht⟩) hS.2.2 dX7_lettersAt_5 hlocks
-- HealLink$Rules.digit (JI)I
def fX7_digit (p0 : Int64) (p2 : Int32) : Int32 := (((p0.toUInt64 >>> (p2.toInt64.toUInt64 &&& Int64.toUInt64 63)).toInt64).toInt32) &&& (3 : Int32)
theorem dX7_digit_0 : decode cX7_digit 0 = .ok (.lload_n 0, 1) := by decide +kernel
theorem dX7_digit_1 : decode cX7_digit 1 = .ok (.iload_n 2, 1) := by decide +kernel
theorem dX7_digit_2 : decode cX7_digit 2 = .ok (.lushr, 1) := by decide +kernel
theorem dX7_digit_3 : decode cX7_digit 3 = .ok (.l2i, 1) := by decide +kernel
theorem dX7_digit_4 : decode cX7_digit 4 = .ok (.iconst 3, 1) := by decide +kernel
theorem dX7_digit_5 : decode cX7_digit 5 = .ok (.iand, 1) := by decide +kernel
theorem dX7_digit_6 : decode cX7_digit 6 = .ok (.ireturn, 1) := by decide +kernel
set_option maxHeartbeats 4000000 in
set_option maxRecDepth 100000 in
theorem kX7_digit {l : Launch} {D : va_G} {cy : Nat → ClassId} {N : Nat} {q : Nat → Nat} {m0 : Nat → Value} {a0 : Nat → vp_A} {sz : Nat} (hN : 105 ≤ N) (p0 : Int64) (p2 : Int32) : gMi l yX7_digit cX7_digit 3 (some .int) ({ frames := 0, cells := 0, slots := 0, locals := 0 } : Room) D cy N q m0 a0 sz [.long p0, .int p2] (fun r m' a' => r = (fX7_digit p0 p2) ∧ m' = m0 ∧ a' = a0) := by
  generalize hs0 : fX7_digit p0 p2 = X0
  refine g_ofi (by decide) (Nat.le_of_ble_eq_true rfl) ?_
  intro p e s M args below meth c hx hb hr hG hown hin hlocks hml hW hS ls hl
  unfold fX7_digit at hs0
  refine lv_lload_n hx hb dX7_digit_0 rfl (lv_at hl 0 rfl) ?_
  refine lv_iload_n hx hb dX7_digit_1 rfl (lv_at hl 1 rfl) ?_
  refine lv_lushr hx hb dX7_digit_2 rfl ?_
  refine lv_l2i hx hb dX7_digit_3 rfl ?_
  refine lv_iconst (v := 3) hx hb dX7_digit_4 (by decide) ?_
  refine lv_iand hx hb dX7_digit_5 ?_
  subst hs0
  exact W.zret hx hb hr rfl (fun t ht hw => ⟨⟨_, (m0, a0), rfl, ⟨rfl, rfl, rfl⟩, g_end hW ht hw⟩, hS.F ht⟩) hS.2.2 dX7_digit_6 hlocks
-- HealLink$Rules.withDigit (JII)J
def fX7_withDigit (p0 : Int64) (p2 : Int32) (p3 : Int32) : Int64 := (p0 &&& (((3 : Int64) <<< (p2.toInt64 &&& 63)) ^^^ ((-1) : Int64))) ||| (p3.toInt64 <<< (p2.toInt64 &&& 63))
theorem dX7_withDigit_0 : decode cX7_withDigit 0 = .ok (.lload_n 0, 1) := by decide +kernel
theorem dX7_withDigit_1 : decode cX7_withDigit 1 = .ok (.ldc2_w 31, 3) := by decide +kernel
theorem dX7_withDigit_4 : decode cX7_withDigit 4 = .ok (.iload_n 2, 1) := by decide +kernel
theorem dX7_withDigit_5 : decode cX7_withDigit 5 = .ok (.lshl, 1) := by decide +kernel
theorem dX7_withDigit_6 : decode cX7_withDigit 6 = .ok (.ldc2_w 33, 3) := by decide +kernel
theorem dX7_withDigit_9 : decode cX7_withDigit 9 = .ok (.lxor, 1) := by decide +kernel
theorem dX7_withDigit_10 : decode cX7_withDigit 10 = .ok (.land, 1) := by decide +kernel
theorem dX7_withDigit_11 : decode cX7_withDigit 11 = .ok (.iload_n 3, 1) := by decide +kernel
theorem dX7_withDigit_12 : decode cX7_withDigit 12 = .ok (.i2l, 1) := by decide +kernel
theorem dX7_withDigit_13 : decode cX7_withDigit 13 = .ok (.iload_n 2, 1) := by decide +kernel
theorem dX7_withDigit_14 : decode cX7_withDigit 14 = .ok (.lshl, 1) := by decide +kernel
theorem dX7_withDigit_15 : decode cX7_withDigit 15 = .ok (.lor, 1) := by decide +kernel
theorem dX7_withDigit_16 : decode cX7_withDigit 16 = .ok (.lreturn, 1) := by decide +kernel
set_option maxHeartbeats 4000000 in
set_option maxRecDepth 100000 in
theorem kX7_withDigit {l : Launch} {D : va_G} {cy : Nat → ClassId} {N : Nat} {q : Nat → Nat} {m0 : Nat → Value} {a0 : Nat → vp_A} {sz : Nat} (hN : 105 ≤ N) (p0 : Int64) (p2 : Int32) (p3 : Int32) : gMl l yX7_withDigit cX7_withDigit 4 (some .long) ({ frames := 0, cells := 0, slots := 0, locals := 0 } : Room) D cy N q m0 a0 sz [.long p0, .int p2, .int p3] (fun r m' a' => r = (fX7_withDigit p0 p2 p3) ∧ m' = m0 ∧ a' = a0) := by
  generalize hs0 : fX7_withDigit p0 p2 p3 = X0
  refine g_ofl (by decide) (Nat.le_of_ble_eq_true rfl) ?_
  intro p e s M args below meth c hx hb hr hG hown hin hlocks hml hW hS ls hl
  unfold fX7_withDigit at hs0
  refine lv_lload_n hx hb dX7_withDigit_0 rfl (lv_at hl 0 rfl) ?_
  refine lv_ldc2 (v := 3) hx hb hown (hG _ gx325) dX7_withDigit_1 ?_
  refine lv_iload_n hx hb dX7_withDigit_4 rfl (lv_at hl 1 rfl) ?_
  refine lv_lshl hx hb dX7_withDigit_5 rfl ?_
  refine lv_ldc2 (v := (-1)) hx hb hown (hG _ gx326) dX7_withDigit_6 ?_
  refine lv_lxor hx hb dX7_withDigit_9 ?_
  refine lv_land hx hb dX7_withDigit_10 ?_
  refine lv_iload_n hx hb dX7_withDigit_11 rfl (lv_at hl 2 rfl) ?_
  refine lv_i2l hx hb dX7_withDigit_12 rfl ?_
  refine lv_iload_n hx hb dX7_withDigit_13 rfl (lv_at hl 1 rfl) ?_
  refine lv_lshl hx hb dX7_withDigit_14 rfl ?_
  refine lv_lor hx hb dX7_withDigit_15 ?_
  subst hs0
  exact W.lret hx hb hr (fun t ht hw => ⟨⟨_, (m0, a0), rfl, ⟨rfl, rfl, rfl⟩, g_end hW ht hw⟩, hS.F ht⟩) hS.2.2 dX7_withDigit_16 hlocks
-- HealLink$Rules.labelOf (J)I
def fX7_labelOf (p0 : Int64) : Int32 := (((p0.toUInt64 >>> ((47 : Int32).toInt64.toUInt64 &&& Int64.toUInt64 63)).toInt64).toInt32) &&& (3 : Int32)
theorem dX7_labelOf_0 : decode cX7_labelOf 0 = .ok (.lload_n 0, 1) := by decide +kernel
theorem dX7_labelOf_1 : decode cX7_labelOf 1 = .ok (.bipush 47, 2) := by decide +kernel
theorem dX7_labelOf_3 : decode cX7_labelOf 3 = .ok (.lushr, 1) := by decide +kernel
theorem dX7_labelOf_4 : decode cX7_labelOf 4 = .ok (.l2i, 1) := by decide +kernel
theorem dX7_labelOf_5 : decode cX7_labelOf 5 = .ok (.iconst 3, 1) := by decide +kernel
theorem dX7_labelOf_6 : decode cX7_labelOf 6 = .ok (.iand, 1) := by decide +kernel
theorem dX7_labelOf_7 : decode cX7_labelOf 7 = .ok (.ireturn, 1) := by decide +kernel
set_option maxHeartbeats 4000000 in
set_option maxRecDepth 100000 in
theorem kX7_labelOf {l : Launch} {D : va_G} {cy : Nat → ClassId} {N : Nat} {q : Nat → Nat} {m0 : Nat → Value} {a0 : Nat → vp_A} {sz : Nat} (hN : 105 ≤ N) (p0 : Int64) : gMi l yX7_labelOf cX7_labelOf 2 (some .int) ({ frames := 0, cells := 0, slots := 0, locals := 0 } : Room) D cy N q m0 a0 sz [.long p0] (fun r m' a' => r = (fX7_labelOf p0) ∧ m' = m0 ∧ a' = a0) := by
  generalize hs0 : fX7_labelOf p0 = X0
  refine g_ofi (by decide) (Nat.le_of_ble_eq_true rfl) ?_
  intro p e s M args below meth c hx hb hr hG hown hin hlocks hml hW hS ls hl
  unfold fX7_labelOf at hs0
  refine lv_lload_n hx hb dX7_labelOf_0 rfl (lv_at hl 0 rfl) ?_
  refine lv_bipush (v := 47) hx hb dX7_labelOf_1 (by decide) ?_
  refine lv_lushr hx hb dX7_labelOf_3 rfl ?_
  refine lv_l2i hx hb dX7_labelOf_4 rfl ?_
  refine lv_iconst (v := 3) hx hb dX7_labelOf_5 (by decide) ?_
  refine lv_iand hx hb dX7_labelOf_6 ?_
  subst hs0
  exact W.zret hx hb hr rfl (fun t ht hw => ⟨⟨_, (m0, a0), rfl, ⟨rfl, rfl, rfl⟩, g_end hW ht hw⟩, hS.F ht⟩) hS.2.2 dX7_labelOf_7 hlocks
-- HealLink$Rules.valueOf (J)I
def fX7_valueOf (p0 : Int64) : Int32 := (((p0.toUInt64 >>> ((46 : Int32).toInt64.toUInt64 &&& Int64.toUInt64 63)).toInt64).toInt32) &&& (1 : Int32)
theorem dX7_valueOf_0 : decode cX7_valueOf 0 = .ok (.lload_n 0, 1) := by decide +kernel
theorem dX7_valueOf_1 : decode cX7_valueOf 1 = .ok (.bipush 46, 2) := by decide +kernel
theorem dX7_valueOf_3 : decode cX7_valueOf 3 = .ok (.lushr, 1) := by decide +kernel
theorem dX7_valueOf_4 : decode cX7_valueOf 4 = .ok (.l2i, 1) := by decide +kernel
theorem dX7_valueOf_5 : decode cX7_valueOf 5 = .ok (.iconst 1, 1) := by decide +kernel
theorem dX7_valueOf_6 : decode cX7_valueOf 6 = .ok (.iand, 1) := by decide +kernel
theorem dX7_valueOf_7 : decode cX7_valueOf 7 = .ok (.ireturn, 1) := by decide +kernel
set_option maxHeartbeats 4000000 in
set_option maxRecDepth 100000 in
theorem kX7_valueOf {l : Launch} {D : va_G} {cy : Nat → ClassId} {N : Nat} {q : Nat → Nat} {m0 : Nat → Value} {a0 : Nat → vp_A} {sz : Nat} (hN : 105 ≤ N) (p0 : Int64) : gMi l yX7_valueOf cX7_valueOf 2 (some .int) ({ frames := 0, cells := 0, slots := 0, locals := 0 } : Room) D cy N q m0 a0 sz [.long p0] (fun r m' a' => r = (fX7_valueOf p0) ∧ m' = m0 ∧ a' = a0) := by
  generalize hs0 : fX7_valueOf p0 = X0
  refine g_ofi (by decide) (Nat.le_of_ble_eq_true rfl) ?_
  intro p e s M args below meth c hx hb hr hG hown hin hlocks hml hW hS ls hl
  unfold fX7_valueOf at hs0
  refine lv_lload_n hx hb dX7_valueOf_0 rfl (lv_at hl 0 rfl) ?_
  refine lv_bipush (v := 46) hx hb dX7_valueOf_1 (by decide) ?_
  refine lv_lushr hx hb dX7_valueOf_3 rfl ?_
  refine lv_l2i hx hb dX7_valueOf_4 rfl ?_
  refine lv_iconst (v := 1) hx hb dX7_valueOf_5 (by decide) ?_
  refine lv_iand hx hb dX7_valueOf_6 ?_
  subst hs0
  exact W.zret hx hb hr rfl (fun t ht hw => ⟨⟨_, (m0, a0), rfl, ⟨rfl, rfl, rfl⟩, g_end hW ht hw⟩, hS.F ht⟩) hS.2.2 dX7_valueOf_7 hlocks
-- HealLink$Rules.acksOf (J)I
def fX7_acksOf (p0 : Int64) : Int32 := (((p0.toUInt64 >>> ((43 : Int32).toInt64.toUInt64 &&& Int64.toUInt64 63)).toInt64).toInt32) &&& (7 : Int32)
theorem dX7_acksOf_0 : decode cX7_acksOf 0 = .ok (.lload_n 0, 1) := by decide +kernel
theorem dX7_acksOf_1 : decode cX7_acksOf 1 = .ok (.bipush 43, 2) := by decide +kernel
theorem dX7_acksOf_3 : decode cX7_acksOf 3 = .ok (.lushr, 1) := by decide +kernel
theorem dX7_acksOf_4 : decode cX7_acksOf 4 = .ok (.l2i, 1) := by decide +kernel
theorem dX7_acksOf_5 : decode cX7_acksOf 5 = .ok (.bipush 7, 2) := by decide +kernel
theorem dX7_acksOf_7 : decode cX7_acksOf 7 = .ok (.iand, 1) := by decide +kernel
theorem dX7_acksOf_8 : decode cX7_acksOf 8 = .ok (.ireturn, 1) := by decide +kernel
set_option maxHeartbeats 4000000 in
set_option maxRecDepth 100000 in
theorem kX7_acksOf {l : Launch} {D : va_G} {cy : Nat → ClassId} {N : Nat} {q : Nat → Nat} {m0 : Nat → Value} {a0 : Nat → vp_A} {sz : Nat} (hN : 105 ≤ N) (p0 : Int64) : gMi l yX7_acksOf cX7_acksOf 2 (some .int) ({ frames := 0, cells := 0, slots := 0, locals := 0 } : Room) D cy N q m0 a0 sz [.long p0] (fun r m' a' => r = (fX7_acksOf p0) ∧ m' = m0 ∧ a' = a0) := by
  generalize hs0 : fX7_acksOf p0 = X0
  refine g_ofi (by decide) (Nat.le_of_ble_eq_true rfl) ?_
  intro p e s M args below meth c hx hb hr hG hown hin hlocks hml hW hS ls hl
  unfold fX7_acksOf at hs0
  refine lv_lload_n hx hb dX7_acksOf_0 rfl (lv_at hl 0 rfl) ?_
  refine lv_bipush (v := 43) hx hb dX7_acksOf_1 (by decide) ?_
  refine lv_lushr hx hb dX7_acksOf_3 rfl ?_
  refine lv_l2i hx hb dX7_acksOf_4 rfl ?_
  refine lv_bipush (v := 7) hx hb dX7_acksOf_5 (by decide) ?_
  refine lv_iand hx hb dX7_acksOf_7 ?_
  subst hs0
  exact W.zret hx hb hr rfl (fun t ht hw => ⟨⟨_, (m0, a0), rfl, ⟨rfl, rfl, rfl⟩, g_end hW ht hw⟩, hS.F ht⟩) hS.2.2 dX7_acksOf_8 hlocks
-- HealLink$Rules.lastOf (J)I
def fX7_lastOf (p0 : Int64) : Int32 := (((p0.toUInt64 >>> ((40 : Int32).toInt64.toUInt64 &&& Int64.toUInt64 63)).toInt64).toInt32) &&& (3 : Int32)
theorem dX7_lastOf_0 : decode cX7_lastOf 0 = .ok (.lload_n 0, 1) := by decide +kernel
theorem dX7_lastOf_1 : decode cX7_lastOf 1 = .ok (.bipush 40, 2) := by decide +kernel
theorem dX7_lastOf_3 : decode cX7_lastOf 3 = .ok (.lushr, 1) := by decide +kernel
theorem dX7_lastOf_4 : decode cX7_lastOf 4 = .ok (.l2i, 1) := by decide +kernel
theorem dX7_lastOf_5 : decode cX7_lastOf 5 = .ok (.iconst 3, 1) := by decide +kernel
theorem dX7_lastOf_6 : decode cX7_lastOf 6 = .ok (.iand, 1) := by decide +kernel
theorem dX7_lastOf_7 : decode cX7_lastOf 7 = .ok (.ireturn, 1) := by decide +kernel
set_option maxHeartbeats 4000000 in
set_option maxRecDepth 100000 in
theorem kX7_lastOf {l : Launch} {D : va_G} {cy : Nat → ClassId} {N : Nat} {q : Nat → Nat} {m0 : Nat → Value} {a0 : Nat → vp_A} {sz : Nat} (hN : 105 ≤ N) (p0 : Int64) : gMi l yX7_lastOf cX7_lastOf 2 (some .int) ({ frames := 0, cells := 0, slots := 0, locals := 0 } : Room) D cy N q m0 a0 sz [.long p0] (fun r m' a' => r = (fX7_lastOf p0) ∧ m' = m0 ∧ a' = a0) := by
  generalize hs0 : fX7_lastOf p0 = X0
  refine g_ofi (by decide) (Nat.le_of_ble_eq_true rfl) ?_
  intro p e s M args below meth c hx hb hr hG hown hin hlocks hml hW hS ls hl
  unfold fX7_lastOf at hs0
  refine lv_lload_n hx hb dX7_lastOf_0 rfl (lv_at hl 0 rfl) ?_
  refine lv_bipush (v := 40) hx hb dX7_lastOf_1 (by decide) ?_
  refine lv_lushr hx hb dX7_lastOf_3 rfl ?_
  refine lv_l2i hx hb dX7_lastOf_4 rfl ?_
  refine lv_iconst (v := 3) hx hb dX7_lastOf_5 (by decide) ?_
  refine lv_iand hx hb dX7_lastOf_6 ?_
  subst hs0
  exact W.zret hx hb hr rfl (fun t ht hw => ⟨⟨_, (m0, a0), rfl, ⟨rfl, rfl, rfl⟩, g_end hW ht hw⟩, hS.F ht⟩) hS.2.2 dX7_lastOf_7 hlocks
-- HealLink$Rules.seenIn (J)I
def fX7_seenIn (p0 : Int64) : Int32 := (fJ13_bitCount_95d88 (((p0.toUInt64 >>> ((24 : Int32).toInt64.toUInt64 &&& Int64.toUInt64 63)).toInt64) &&& (21845 : Int64))) + (2 * (fJ13_bitCount_95d88 (((p0.toUInt64 >>> ((24 : Int32).toInt64.toUInt64 &&& Int64.toUInt64 63)).toInt64) &&& (43690 : Int64))))
theorem dX7_seenIn_0 : decode cX7_seenIn 0 = .ok (.lload_n 0, 1) := by decide +kernel
theorem dX7_seenIn_1 : decode cX7_seenIn 1 = .ok (.bipush 24, 2) := by decide +kernel
theorem dX7_seenIn_3 : decode cX7_seenIn 3 = .ok (.lushr, 1) := by decide +kernel
theorem dX7_seenIn_4 : decode cX7_seenIn 4 = .ok (.lstore_n 2, 1) := by decide +kernel
theorem dX7_seenIn_5 : decode cX7_seenIn 5 = .ok (.lload_n 2, 1) := by decide +kernel
theorem dX7_seenIn_6 : decode cX7_seenIn 6 = .ok (.ldc2_w 35, 3) := by decide +kernel
theorem dX7_seenIn_9 : decode cX7_seenIn 9 = .ok (.land, 1) := by decide +kernel
theorem dX7_seenIn_10 : decode cX7_seenIn 10 = .ok (.invokestatic 37, 3) := by decide +kernel
theorem dX7_seenIn_13 : decode cX7_seenIn 13 = .ok (.iconst 2, 1) := by decide +kernel
theorem dX7_seenIn_14 : decode cX7_seenIn 14 = .ok (.lload_n 2, 1) := by decide +kernel
theorem dX7_seenIn_15 : decode cX7_seenIn 15 = .ok (.ldc2_w 43, 3) := by decide +kernel
theorem dX7_seenIn_18 : decode cX7_seenIn 18 = .ok (.land, 1) := by decide +kernel
theorem dX7_seenIn_19 : decode cX7_seenIn 19 = .ok (.invokestatic 37, 3) := by decide +kernel
theorem dX7_seenIn_22 : decode cX7_seenIn 22 = .ok (.imul, 1) := by decide +kernel
theorem dX7_seenIn_23 : decode cX7_seenIn 23 = .ok (.iadd, 1) := by decide +kernel
theorem dX7_seenIn_24 : decode cX7_seenIn 24 = .ok (.ireturn, 1) := by decide +kernel
set_option maxHeartbeats 4000000 in
set_option maxRecDepth 100000 in
theorem kX7_seenIn {l : Launch} {D : va_G} {cy : Nat → ClassId} {N : Nat} {q : Nat → Nat} {m0 : Nat → Value} {a0 : Nat → vp_A} {sz : Nat} (hN : 105 ≤ N) (p0 : Int64) : gMi l yX7_seenIn cX7_seenIn 4 (some .int) ({ frames := 1, cells := 0, slots := 0, locals := 21 } : Room) D cy N q m0 a0 sz [.long p0] (fun r m' a' => r = (fX7_seenIn p0) ∧ m' = m0 ∧ a' = a0) := by
  generalize hs0 : fX7_seenIn p0 = X0
  refine g_ofi (by decide) (Nat.le_of_ble_eq_true rfl) ?_
  intro p e s M args below meth c hx hb hr hG hown hin hlocks hml hW hS ls hl
  unfold fX7_seenIn at hs0
  refine lv_lload_n hx hb dX7_seenIn_0 rfl (lv_at hl 0 rfl) ?_
  refine lv_bipush (v := 24) hx hb dX7_seenIn_1 (by decide) ?_
  refine lv_lushr hx hb dX7_seenIn_3 rfl ?_
  refine lv_lstore_n (lv' := [(2, .long ((p0.toUInt64 >>> ((24 : Int32).toInt64.toUInt64 &&& Int64.toUInt64 63)).toInt64)), (0, .long p0)]) hx hb dX7_seenIn_4 rfl hl (by decide) rfl (fun ls hl => ?_)
  refine lv_lload_n hx hb dX7_seenIn_5 rfl (lv_at hl 0 rfl) ?_
  refine lv_ldc2 (v := 21845) hx hb hown (hG _ gx345) dX7_seenIn_6 ?_
  refine lv_land hx hb dX7_seenIn_9 ?_
  refine g_SiR (n := 1) hx hb hml hown hG hW hS [.long (((p0.toUInt64 >>> ((24 : Int32).toInt64.toUInt64 &&& Int64.toUInt64 63)).toInt64) &&& (21845 : Int64))] (kJ13_bitCount_95d88 hN (((p0.toUInt64 >>> ((24 : Int32).toInt64.toUInt64 &&& Int64.toUInt64 63)).toInt64) &&& (21845 : Int64))) rfl (gd_S gx347 gx348 gx349 gx350) rfl rfl (by decide) ⟨Nat.le_of_ble_eq_true rfl, Nat.le_of_ble_eq_true rfl⟩ rfl hl (Nat.le_of_ble_eq_true rfl) ⟨Nat.zero_le _, Nat.zero_le _⟩ dX7_seenIn_10 (fun H locs hW hS => ?_)
  refine lv_iconst (v := 2) hx hb dX7_seenIn_13 (by decide) ?_
  refine lv_lload_n hx hb dX7_seenIn_14 rfl (lv_at hl 0 rfl) ?_
  refine lv_ldc2 (v := 43690) hx hb hown (hG _ gx346) dX7_seenIn_15 ?_
  refine lv_land hx hb dX7_seenIn_18 ?_
  refine g_SiR (n := 1) hx hb hml hown hG hW hS [.long (((p0.toUInt64 >>> ((24 : Int32).toInt64.toUInt64 &&& Int64.toUInt64 63)).toInt64) &&& (43690 : Int64))] (kJ13_bitCount_95d88 hN (((p0.toUInt64 >>> ((24 : Int32).toInt64.toUInt64 &&& Int64.toUInt64 63)).toInt64) &&& (43690 : Int64))) rfl (gd_S gx347 gx348 gx349 gx350) rfl rfl (by decide) ⟨Nat.le_of_ble_eq_true rfl, Nat.le_of_ble_eq_true rfl⟩ rfl hl (Nat.le_of_ble_eq_true rfl) ⟨Nat.zero_le _, Nat.zero_le _⟩ dX7_seenIn_19 (fun H locs hW hS => ?_)
  refine lv_imul hx hb dX7_seenIn_22 ?_
  refine lv_iadd hx hb dX7_seenIn_23 ?_
  subst hs0
  exact W.zret hx hb hr rfl (fun t ht hw => ⟨⟨_, (m0, a0), rfl, ⟨rfl, rfl, rfl⟩, g_end hW ht hw⟩, hS.F ht⟩) hS.2.2 dX7_seenIn_24 hlocks
-- HealLink$Rules.packetsIn (J)I
def fX7_packetsIn (p0 : Int64) : Int32 := (fJ13_bitCount_95d88 (((p0.toUInt64 >>> ((8 : Int32).toInt64.toUInt64 &&& Int64.toUInt64 63)).toInt64) &&& (21845 : Int64))) + (2 * (fJ13_bitCount_95d88 (((p0.toUInt64 >>> ((8 : Int32).toInt64.toUInt64 &&& Int64.toUInt64 63)).toInt64) &&& (43690 : Int64))))
theorem dX7_packetsIn_0 : decode cX7_packetsIn 0 = .ok (.lload_n 0, 1) := by decide +kernel
theorem dX7_packetsIn_1 : decode cX7_packetsIn 1 = .ok (.bipush 8, 2) := by decide +kernel
theorem dX7_packetsIn_3 : decode cX7_packetsIn 3 = .ok (.lushr, 1) := by decide +kernel
theorem dX7_packetsIn_4 : decode cX7_packetsIn 4 = .ok (.lstore_n 2, 1) := by decide +kernel
theorem dX7_packetsIn_5 : decode cX7_packetsIn 5 = .ok (.lload_n 2, 1) := by decide +kernel
theorem dX7_packetsIn_6 : decode cX7_packetsIn 6 = .ok (.ldc2_w 35, 3) := by decide +kernel
theorem dX7_packetsIn_9 : decode cX7_packetsIn 9 = .ok (.land, 1) := by decide +kernel
theorem dX7_packetsIn_10 : decode cX7_packetsIn 10 = .ok (.invokestatic 37, 3) := by decide +kernel
theorem dX7_packetsIn_13 : decode cX7_packetsIn 13 = .ok (.iconst 2, 1) := by decide +kernel
theorem dX7_packetsIn_14 : decode cX7_packetsIn 14 = .ok (.lload_n 2, 1) := by decide +kernel
theorem dX7_packetsIn_15 : decode cX7_packetsIn 15 = .ok (.ldc2_w 43, 3) := by decide +kernel
theorem dX7_packetsIn_18 : decode cX7_packetsIn 18 = .ok (.land, 1) := by decide +kernel
theorem dX7_packetsIn_19 : decode cX7_packetsIn 19 = .ok (.invokestatic 37, 3) := by decide +kernel
theorem dX7_packetsIn_22 : decode cX7_packetsIn 22 = .ok (.imul, 1) := by decide +kernel
theorem dX7_packetsIn_23 : decode cX7_packetsIn 23 = .ok (.iadd, 1) := by decide +kernel
theorem dX7_packetsIn_24 : decode cX7_packetsIn 24 = .ok (.ireturn, 1) := by decide +kernel
set_option maxHeartbeats 4000000 in
set_option maxRecDepth 100000 in
theorem kX7_packetsIn {l : Launch} {D : va_G} {cy : Nat → ClassId} {N : Nat} {q : Nat → Nat} {m0 : Nat → Value} {a0 : Nat → vp_A} {sz : Nat} (hN : 105 ≤ N) (p0 : Int64) : gMi l yX7_packetsIn cX7_packetsIn 4 (some .int) ({ frames := 1, cells := 0, slots := 0, locals := 21 } : Room) D cy N q m0 a0 sz [.long p0] (fun r m' a' => r = (fX7_packetsIn p0) ∧ m' = m0 ∧ a' = a0) := by
  generalize hs0 : fX7_packetsIn p0 = X0
  refine g_ofi (by decide) (Nat.le_of_ble_eq_true rfl) ?_
  intro p e s M args below meth c hx hb hr hG hown hin hlocks hml hW hS ls hl
  unfold fX7_packetsIn at hs0
  refine lv_lload_n hx hb dX7_packetsIn_0 rfl (lv_at hl 0 rfl) ?_
  refine lv_bipush (v := 8) hx hb dX7_packetsIn_1 (by decide) ?_
  refine lv_lushr hx hb dX7_packetsIn_3 rfl ?_
  refine lv_lstore_n (lv' := [(2, .long ((p0.toUInt64 >>> ((8 : Int32).toInt64.toUInt64 &&& Int64.toUInt64 63)).toInt64)), (0, .long p0)]) hx hb dX7_packetsIn_4 rfl hl (by decide) rfl (fun ls hl => ?_)
  refine lv_lload_n hx hb dX7_packetsIn_5 rfl (lv_at hl 0 rfl) ?_
  refine lv_ldc2 (v := 21845) hx hb hown (hG _ gx345) dX7_packetsIn_6 ?_
  refine lv_land hx hb dX7_packetsIn_9 ?_
  refine g_SiR (n := 1) hx hb hml hown hG hW hS [.long (((p0.toUInt64 >>> ((8 : Int32).toInt64.toUInt64 &&& Int64.toUInt64 63)).toInt64) &&& (21845 : Int64))] (kJ13_bitCount_95d88 hN (((p0.toUInt64 >>> ((8 : Int32).toInt64.toUInt64 &&& Int64.toUInt64 63)).toInt64) &&& (21845 : Int64))) rfl (gd_S gx347 gx348 gx349 gx350) rfl rfl (by decide) ⟨Nat.le_of_ble_eq_true rfl, Nat.le_of_ble_eq_true rfl⟩ rfl hl (Nat.le_of_ble_eq_true rfl) ⟨Nat.zero_le _, Nat.zero_le _⟩ dX7_packetsIn_10 (fun H locs hW hS => ?_)
  refine lv_iconst (v := 2) hx hb dX7_packetsIn_13 (by decide) ?_
  refine lv_lload_n hx hb dX7_packetsIn_14 rfl (lv_at hl 0 rfl) ?_
  refine lv_ldc2 (v := 43690) hx hb hown (hG _ gx346) dX7_packetsIn_15 ?_
  refine lv_land hx hb dX7_packetsIn_18 ?_
  refine g_SiR (n := 1) hx hb hml hown hG hW hS [.long (((p0.toUInt64 >>> ((8 : Int32).toInt64.toUInt64 &&& Int64.toUInt64 63)).toInt64) &&& (43690 : Int64))] (kJ13_bitCount_95d88 hN (((p0.toUInt64 >>> ((8 : Int32).toInt64.toUInt64 &&& Int64.toUInt64 63)).toInt64) &&& (43690 : Int64))) rfl (gd_S gx347 gx348 gx349 gx350) rfl rfl (by decide) ⟨Nat.le_of_ble_eq_true rfl, Nat.le_of_ble_eq_true rfl⟩ rfl hl (Nat.le_of_ble_eq_true rfl) ⟨Nat.zero_le _, Nat.zero_le _⟩ dX7_packetsIn_19 (fun H locs hW hS => ?_)
  refine lv_imul hx hb dX7_packetsIn_22 ?_
  refine lv_iadd hx hb dX7_packetsIn_23 ?_
  subst hs0
  exact W.zret hx hb hr rfl (fun t ht hw => ⟨⟨_, (m0, a0), rfl, ⟨rfl, rfl, rfl⟩, g_end hW ht hw⟩, hS.F ht⟩) hS.2.2 dX7_packetsIn_24 hlocks
-- HealLink$Rules.lettersIn (J)I
def fX7_lettersIn (p0 : Int64) : Int32 := (fJ13_bitCount_95d88 (p0 &&& (85 : Int64))) + (2 * (fJ13_bitCount_95d88 (p0 &&& (170 : Int64))))
theorem dX7_lettersIn_0 : decode cX7_lettersIn 0 = .ok (.lload_n 0, 1) := by decide +kernel
theorem dX7_lettersIn_1 : decode cX7_lettersIn 1 = .ok (.ldc2_w 45, 3) := by decide +kernel
theorem dX7_lettersIn_4 : decode cX7_lettersIn 4 = .ok (.land, 1) := by decide +kernel
theorem dX7_lettersIn_5 : decode cX7_lettersIn 5 = .ok (.invokestatic 37, 3) := by decide +kernel
theorem dX7_lettersIn_8 : decode cX7_lettersIn 8 = .ok (.iconst 2, 1) := by decide +kernel
theorem dX7_lettersIn_9 : decode cX7_lettersIn 9 = .ok (.lload_n 0, 1) := by decide +kernel
theorem dX7_lettersIn_10 : decode cX7_lettersIn 10 = .ok (.ldc2_w 47, 3) := by decide +kernel
theorem dX7_lettersIn_13 : decode cX7_lettersIn 13 = .ok (.land, 1) := by decide +kernel
theorem dX7_lettersIn_14 : decode cX7_lettersIn 14 = .ok (.invokestatic 37, 3) := by decide +kernel
theorem dX7_lettersIn_17 : decode cX7_lettersIn 17 = .ok (.imul, 1) := by decide +kernel
theorem dX7_lettersIn_18 : decode cX7_lettersIn 18 = .ok (.iadd, 1) := by decide +kernel
theorem dX7_lettersIn_19 : decode cX7_lettersIn 19 = .ok (.ireturn, 1) := by decide +kernel
set_option maxHeartbeats 4000000 in
set_option maxRecDepth 100000 in
theorem kX7_lettersIn {l : Launch} {D : va_G} {cy : Nat → ClassId} {N : Nat} {q : Nat → Nat} {m0 : Nat → Value} {a0 : Nat → vp_A} {sz : Nat} (hN : 105 ≤ N) (p0 : Int64) : gMi l yX7_lettersIn cX7_lettersIn 2 (some .int) ({ frames := 1, cells := 0, slots := 0, locals := 21 } : Room) D cy N q m0 a0 sz [.long p0] (fun r m' a' => r = (fX7_lettersIn p0) ∧ m' = m0 ∧ a' = a0) := by
  generalize hs0 : fX7_lettersIn p0 = X0
  refine g_ofi (by decide) (Nat.le_of_ble_eq_true rfl) ?_
  intro p e s M args below meth c hx hb hr hG hown hin hlocks hml hW hS ls hl
  unfold fX7_lettersIn at hs0
  refine lv_lload_n hx hb dX7_lettersIn_0 rfl (lv_at hl 0 rfl) ?_
  refine lv_ldc2 (v := 85) hx hb hown (hG _ gx374) dX7_lettersIn_1 ?_
  refine lv_land hx hb dX7_lettersIn_4 ?_
  refine g_SiR (n := 1) hx hb hml hown hG hW hS [.long (p0 &&& (85 : Int64))] (kJ13_bitCount_95d88 hN (p0 &&& (85 : Int64))) rfl (gd_S gx347 gx348 gx349 gx350) rfl rfl (by decide) ⟨Nat.le_of_ble_eq_true rfl, Nat.le_of_ble_eq_true rfl⟩ rfl hl (Nat.le_of_ble_eq_true rfl) ⟨Nat.zero_le _, Nat.zero_le _⟩ dX7_lettersIn_5 (fun H locs hW hS => ?_)
  refine lv_iconst (v := 2) hx hb dX7_lettersIn_8 (by decide) ?_
  refine lv_lload_n hx hb dX7_lettersIn_9 rfl (lv_at hl 0 rfl) ?_
  refine lv_ldc2 (v := 170) hx hb hown (hG _ gx375) dX7_lettersIn_10 ?_
  refine lv_land hx hb dX7_lettersIn_13 ?_
  refine g_SiR (n := 1) hx hb hml hown hG hW hS [.long (p0 &&& (170 : Int64))] (kJ13_bitCount_95d88 hN (p0 &&& (170 : Int64))) rfl (gd_S gx347 gx348 gx349 gx350) rfl rfl (by decide) ⟨Nat.le_of_ble_eq_true rfl, Nat.le_of_ble_eq_true rfl⟩ rfl hl (Nat.le_of_ble_eq_true rfl) ⟨Nat.zero_le _, Nat.zero_le _⟩ dX7_lettersIn_14 (fun H locs hW hS => ?_)
  refine lv_imul hx hb dX7_lettersIn_17 ?_
  refine lv_iadd hx hb dX7_lettersIn_18 ?_
  subst hs0
  exact W.zret hx hb hr rfl (fun t ht hw => ⟨⟨_, (m0, a0), rfl, ⟨rfl, rfl, rfl⟩, g_end hW ht hw⟩, hS.F ht⟩) hS.2.2 dX7_lettersIn_19 hlocks
-- HealLink$Rules.withoutAcks (J)J
def fX7_withoutAcks (p0 : Int64) : Int64 := p0 &&& ((-61572651155457) : Int64)
theorem dX7_withoutAcks_0 : decode cX7_withoutAcks 0 = .ok (.lload_n 0, 1) := by decide +kernel
theorem dX7_withoutAcks_1 : decode cX7_withoutAcks 1 = .ok (.ldc2_w 53, 3) := by decide +kernel
theorem dX7_withoutAcks_4 : decode cX7_withoutAcks 4 = .ok (.land, 1) := by decide +kernel
theorem dX7_withoutAcks_5 : decode cX7_withoutAcks 5 = .ok (.lreturn, 1) := by decide +kernel
set_option maxHeartbeats 4000000 in
set_option maxRecDepth 100000 in
theorem kX7_withoutAcks {l : Launch} {D : va_G} {cy : Nat → ClassId} {N : Nat} {q : Nat → Nat} {m0 : Nat → Value} {a0 : Nat → vp_A} {sz : Nat} (hN : 105 ≤ N) (p0 : Int64) : gMl l yX7_withoutAcks cX7_withoutAcks 2 (some .long) ({ frames := 0, cells := 0, slots := 0, locals := 0 } : Room) D cy N q m0 a0 sz [.long p0] (fun r m' a' => r = (fX7_withoutAcks p0) ∧ m' = m0 ∧ a' = a0) := by
  generalize hs0 : fX7_withoutAcks p0 = X0
  refine g_ofl (by decide) (Nat.le_of_ble_eq_true rfl) ?_
  intro p e s M args below meth c hx hb hr hG hown hin hlocks hml hW hS ls hl
  unfold fX7_withoutAcks at hs0
  refine lv_lload_n hx hb dX7_withoutAcks_0 rfl (lv_at hl 0 rfl) ?_
  refine lv_ldc2 (v := (-61572651155457)) hx hb hown (hG _ gx995) dX7_withoutAcks_1 ?_
  refine lv_land hx hb dX7_withoutAcks_4 ?_
  subst hs0
  exact W.lret hx hb hr (fun t ht hw => ⟨⟨_, (m0, a0), rfl, ⟨rfl, rfl, rfl⟩, g_end hW ht hw⟩, hS.F ht⟩) hS.2.2 dX7_withoutAcks_5 hlocks
-- HealLink$Rules.withLast (JI)J
def fX7_withLast (p0 : Int64) (p2 : Int32) : Int64 := (p0 &&& ((-3298534883329) : Int64)) ||| (p2.toInt64 <<< ((40 : Int32).toInt64 &&& 63))
theorem dX7_withLast_0 : decode cX7_withLast 0 = .ok (.lload_n 0, 1) := by decide +kernel
theorem dX7_withLast_1 : decode cX7_withLast 1 = .ok (.ldc2_w 55, 3) := by decide +kernel
theorem dX7_withLast_4 : decode cX7_withLast 4 = .ok (.land, 1) := by decide +kernel
theorem dX7_withLast_5 : decode cX7_withLast 5 = .ok (.iload_n 2, 1) := by decide +kernel
theorem dX7_withLast_6 : decode cX7_withLast 6 = .ok (.i2l, 1) := by decide +kernel
theorem dX7_withLast_7 : decode cX7_withLast 7 = .ok (.bipush 40, 2) := by decide +kernel
theorem dX7_withLast_9 : decode cX7_withLast 9 = .ok (.lshl, 1) := by decide +kernel
theorem dX7_withLast_10 : decode cX7_withLast 10 = .ok (.lor, 1) := by decide +kernel
theorem dX7_withLast_11 : decode cX7_withLast 11 = .ok (.lreturn, 1) := by decide +kernel
set_option maxHeartbeats 4000000 in
set_option maxRecDepth 100000 in
theorem kX7_withLast {l : Launch} {D : va_G} {cy : Nat → ClassId} {N : Nat} {q : Nat → Nat} {m0 : Nat → Value} {a0 : Nat → vp_A} {sz : Nat} (hN : 105 ≤ N) (p0 : Int64) (p2 : Int32) : gMl l yX7_withLast cX7_withLast 3 (some .long) ({ frames := 0, cells := 0, slots := 0, locals := 0 } : Room) D cy N q m0 a0 sz [.long p0, .int p2] (fun r m' a' => r = (fX7_withLast p0 p2) ∧ m' = m0 ∧ a' = a0) := by
  generalize hs0 : fX7_withLast p0 p2 = X0
  refine g_ofl (by decide) (Nat.le_of_ble_eq_true rfl) ?_
  intro p e s M args below meth c hx hb hr hG hown hin hlocks hml hW hS ls hl
  unfold fX7_withLast at hs0
  refine lv_lload_n hx hb dX7_withLast_0 rfl (lv_at hl 0 rfl) ?_
  refine lv_ldc2 (v := (-3298534883329)) hx hb hown (hG _ gx299) dX7_withLast_1 ?_
  refine lv_land hx hb dX7_withLast_4 ?_
  refine lv_iload_n hx hb dX7_withLast_5 rfl (lv_at hl 1 rfl) ?_
  refine lv_i2l hx hb dX7_withLast_6 rfl ?_
  refine lv_bipush (v := 40) hx hb dX7_withLast_7 (by decide) ?_
  refine lv_lshl hx hb dX7_withLast_9 rfl ?_
  refine lv_lor hx hb dX7_withLast_10 ?_
  subst hs0
  exact W.lret hx hb hr (fun t ht hw => ⟨⟨_, (m0, a0), rfl, ⟨rfl, rfl, rfl⟩, g_end hW ht hw⟩, hS.F ht⟩) hS.2.2 dX7_withLast_11 hlocks
-- HealLink$Rules.outcomeOf (J)I
def fX7_outcomeOf (p0 : Int64) : Int32 := (((p0.toUInt64 >>> ((52 : Int32).toInt64.toUInt64 &&& Int64.toUInt64 63)).toInt64).toInt32) &&& (7 : Int32)
theorem dX7_outcomeOf_0 : decode cX7_outcomeOf 0 = .ok (.lload_n 0, 1) := by decide +kernel
theorem dX7_outcomeOf_1 : decode cX7_outcomeOf 1 = .ok (.bipush 52, 2) := by decide +kernel
theorem dX7_outcomeOf_3 : decode cX7_outcomeOf 3 = .ok (.lushr, 1) := by decide +kernel
theorem dX7_outcomeOf_4 : decode cX7_outcomeOf 4 = .ok (.l2i, 1) := by decide +kernel
theorem dX7_outcomeOf_5 : decode cX7_outcomeOf 5 = .ok (.bipush 7, 2) := by decide +kernel
theorem dX7_outcomeOf_7 : decode cX7_outcomeOf 7 = .ok (.iand, 1) := by decide +kernel
theorem dX7_outcomeOf_8 : decode cX7_outcomeOf 8 = .ok (.ireturn, 1) := by decide +kernel
set_option maxHeartbeats 4000000 in
set_option maxRecDepth 100000 in
theorem kX7_outcomeOf {l : Launch} {D : va_G} {cy : Nat → ClassId} {N : Nat} {q : Nat → Nat} {m0 : Nat → Value} {a0 : Nat → vp_A} {sz : Nat} (hN : 105 ≤ N) (p0 : Int64) : gMi l yX7_outcomeOf cX7_outcomeOf 2 (some .int) ({ frames := 0, cells := 0, slots := 0, locals := 0 } : Room) D cy N q m0 a0 sz [.long p0] (fun r m' a' => r = (fX7_outcomeOf p0) ∧ m' = m0 ∧ a' = a0) := by
  generalize hs0 : fX7_outcomeOf p0 = X0
  refine g_ofi (by decide) (Nat.le_of_ble_eq_true rfl) ?_
  intro p e s M args below meth c hx hb hr hG hown hin hlocks hml hW hS ls hl
  unfold fX7_outcomeOf at hs0
  refine lv_lload_n hx hb dX7_outcomeOf_0 rfl (lv_at hl 0 rfl) ?_
  refine lv_bipush (v := 52) hx hb dX7_outcomeOf_1 (by decide) ?_
  refine lv_lushr hx hb dX7_outcomeOf_3 rfl ?_
  refine lv_l2i hx hb dX7_outcomeOf_4 rfl ?_
  refine lv_bipush (v := 7) hx hb dX7_outcomeOf_5 (by decide) ?_
  refine lv_iand hx hb dX7_outcomeOf_7 ?_
  subst hs0
  exact W.zret hx hb hr rfl (fun t ht hw => ⟨⟨_, (m0, a0), rfl, ⟨rfl, rfl, rfl⟩, g_end hW ht hw⟩, hS.F ht⟩) hS.2.2 dX7_outcomeOf_8 hlocks
-- HealLink$Rules.takenOf (J)Z
def fX7_takenOf (p0 : Int64) : Int32 := (if (lg_cmp (((p0.toUInt64 >>> ((42 : Int32).toInt64.toUInt64 &&& Int64.toUInt64 63)).toInt64) &&& (1 : Int64)) 0) = 0 then 0 else 1)
theorem dX7_takenOf_0 : decode cX7_takenOf 0 = .ok (.lload_n 0, 1) := by decide +kernel
theorem dX7_takenOf_1 : decode cX7_takenOf 1 = .ok (.bipush 42, 2) := by decide +kernel
theorem dX7_takenOf_3 : decode cX7_takenOf 3 = .ok (.lushr, 1) := by decide +kernel
theorem dX7_takenOf_4 : decode cX7_takenOf 4 = .ok (.lconst 1, 1) := by decide +kernel
theorem dX7_takenOf_5 : decode cX7_takenOf 5 = .ok (.land, 1) := by decide +kernel
theorem dX7_takenOf_6 : decode cX7_takenOf 6 = .ok (.lconst 0, 1) := by decide +kernel
theorem dX7_takenOf_7 : decode cX7_takenOf 7 = .ok (.lcmp, 1) := by decide +kernel
theorem dX7_takenOf_8 : decode cX7_takenOf 8 = .ok (.ifCond .eq 7, 3) := by decide +kernel
theorem dX7_takenOf_11 : decode cX7_takenOf 11 = .ok (.iconst 1, 1) := by decide +kernel
theorem dX7_takenOf_12 : decode cX7_takenOf 12 = .ok (.goto 4, 3) := by decide +kernel
theorem dX7_takenOf_15 : decode cX7_takenOf 15 = .ok (.iconst 0, 1) := by decide +kernel
theorem dX7_takenOf_16 : decode cX7_takenOf 16 = .ok (.ireturn, 1) := by decide +kernel
set_option maxHeartbeats 4000000 in
set_option maxRecDepth 100000 in
theorem kX7_takenOf {l : Launch} {D : va_G} {cy : Nat → ClassId} {N : Nat} {q : Nat → Nat} {m0 : Nat → Value} {a0 : Nat → vp_A} {sz : Nat} (hN : 105 ≤ N) (p0 : Int64) : gMi l yX7_takenOf cX7_takenOf 2 (some .boolean) ({ frames := 0, cells := 0, slots := 0, locals := 0 } : Room) D cy N q m0 a0 sz [.long p0] (fun r m' a' => r = (fX7_takenOf p0) ∧ m' = m0 ∧ a' = a0) := by
  generalize hs0 : fX7_takenOf p0 = X0
  refine g_ofi (by decide) (Nat.le_of_ble_eq_true rfl) ?_
  intro p e s M args below meth c hx hb hr hG hown hin hlocks hml hW hS ls hl
  unfold fX7_takenOf at hs0
  refine lv_lload_n hx hb dX7_takenOf_0 rfl (lv_at hl 0 rfl) ?_
  refine lv_bipush (v := 42) hx hb dX7_takenOf_1 (by decide) ?_
  refine lv_lushr hx hb dX7_takenOf_3 rfl ?_
  refine lv_lconst (v := 1) hx hb dX7_takenOf_4 (by decide) ?_
  refine lv_land hx hb dX7_takenOf_5 ?_
  refine lv_lconst (v := 0) hx hb dX7_takenOf_6 (by decide) ?_
  refine W.lcmp hx hb dX7_takenOf_7 ?_
  refine lv_if_eq (tgt := 15) hx hb dX7_takenOf_8 (by decide) (fun c1 => ?_) (fun c1 => ?_)
  · rw [if_pos c1] at hs0
    refine lv_iconst (v := 0) hx hb dX7_takenOf_15 (by decide) ?_
    subst hs0
    exact W.zret hx hb hr rfl (fun t ht hw => ⟨⟨_, (m0, a0), rfl, ⟨rfl, rfl, rfl⟩, g_end hW ht hw⟩, hS.F ht⟩) hS.2.2 dX7_takenOf_16 hlocks
  · rw [if_neg c1] at hs0
    refine lv_iconst (v := 1) hx hb dX7_takenOf_11 (by decide) ?_
    refine lv_goto (tgt := 16) hx hb dX7_takenOf_12 (by decide) ?_
    subst hs0
    exact W.zret hx hb hr rfl (fun t ht hw => ⟨⟨_, (m0, a0), rfl, ⟨rfl, rfl, rfl⟩, g_end hW ht hw⟩, hS.F ht⟩) hS.2.2 dX7_takenOf_16 hlocks
-- HealLink$Rules.withSender (JIIIZ)J
def fX7_withSender (p0 : Int64) (p2 : Int32) (p3 : Int32) (p4 : Int32) (p5 : Int32) : Int64 := (if p5 = 0 then ((((p0 &&& ((-558551906910209) : Int64)) ||| (p2.toInt64 <<< ((47 : Int32).toInt64 &&& 63))) ||| (p3.toInt64 <<< ((46 : Int32).toInt64 &&& 63))) ||| (p4.toInt64 <<< ((43 : Int32).toInt64 &&& 63))) ||| (0 : Int64) else ((((p0 &&& ((-558551906910209) : Int64)) ||| (p2.toInt64 <<< ((47 : Int32).toInt64 &&& 63))) ||| (p3.toInt64 <<< ((46 : Int32).toInt64 &&& 63))) ||| (p4.toInt64 <<< ((43 : Int32).toInt64 &&& 63))) ||| (4398046511104 : Int64))
theorem dX7_withSender_0 : decode cX7_withSender 0 = .ok (.lload_n 0, 1) := by decide +kernel
theorem dX7_withSender_1 : decode cX7_withSender 1 = .ok (.ldc2_w 49, 3) := by decide +kernel
theorem dX7_withSender_4 : decode cX7_withSender 4 = .ok (.land, 1) := by decide +kernel
theorem dX7_withSender_5 : decode cX7_withSender 5 = .ok (.iload_n 2, 1) := by decide +kernel
theorem dX7_withSender_6 : decode cX7_withSender 6 = .ok (.i2l, 1) := by decide +kernel
theorem dX7_withSender_7 : decode cX7_withSender 7 = .ok (.bipush 47, 2) := by decide +kernel
theorem dX7_withSender_9 : decode cX7_withSender 9 = .ok (.lshl, 1) := by decide +kernel
theorem dX7_withSender_10 : decode cX7_withSender 10 = .ok (.lor, 1) := by decide +kernel
theorem dX7_withSender_11 : decode cX7_withSender 11 = .ok (.iload_n 3, 1) := by decide +kernel
theorem dX7_withSender_12 : decode cX7_withSender 12 = .ok (.i2l, 1) := by decide +kernel
theorem dX7_withSender_13 : decode cX7_withSender 13 = .ok (.bipush 46, 2) := by decide +kernel
theorem dX7_withSender_15 : decode cX7_withSender 15 = .ok (.lshl, 1) := by decide +kernel
theorem dX7_withSender_16 : decode cX7_withSender 16 = .ok (.lor, 1) := by decide +kernel
theorem dX7_withSender_17 : decode cX7_withSender 17 = .ok (.iload 4, 2) := by decide +kernel
theorem dX7_withSender_19 : decode cX7_withSender 19 = .ok (.i2l, 1) := by decide +kernel
theorem dX7_withSender_20 : decode cX7_withSender 20 = .ok (.bipush 43, 2) := by decide +kernel
theorem dX7_withSender_22 : decode cX7_withSender 22 = .ok (.lshl, 1) := by decide +kernel
theorem dX7_withSender_23 : decode cX7_withSender 23 = .ok (.lor, 1) := by decide +kernel
theorem dX7_withSender_24 : decode cX7_withSender 24 = .ok (.iload 5, 2) := by decide +kernel
theorem dX7_withSender_26 : decode cX7_withSender 26 = .ok (.ifCond .eq 9, 3) := by decide +kernel
theorem dX7_withSender_29 : decode cX7_withSender 29 = .ok (.ldc2_w 51, 3) := by decide +kernel
theorem dX7_withSender_32 : decode cX7_withSender 32 = .ok (.goto 4, 3) := by decide +kernel
theorem dX7_withSender_35 : decode cX7_withSender 35 = .ok (.lconst 0, 1) := by decide +kernel
theorem dX7_withSender_36 : decode cX7_withSender 36 = .ok (.lor, 1) := by decide +kernel
theorem dX7_withSender_37 : decode cX7_withSender 37 = .ok (.lreturn, 1) := by decide +kernel
set_option maxHeartbeats 4000000 in
set_option maxRecDepth 100000 in
theorem kX7_withSender {l : Launch} {D : va_G} {cy : Nat → ClassId} {N : Nat} {q : Nat → Nat} {m0 : Nat → Value} {a0 : Nat → vp_A} {sz : Nat} (hN : 105 ≤ N) (p0 : Int64) (p2 : Int32) (p3 : Int32) (p4 : Int32) (p5 : Int32) : gMl l yX7_withSender cX7_withSender 6 (some .long) ({ frames := 0, cells := 0, slots := 0, locals := 0 } : Room) D cy N q m0 a0 sz [.long p0, .int p2, .int p3, .int p4, .int p5] (fun r m' a' => r = (fX7_withSender p0 p2 p3 p4 p5) ∧ m' = m0 ∧ a' = a0) := by
  generalize hs0 : fX7_withSender p0 p2 p3 p4 p5 = X0
  refine g_ofl (by decide) (Nat.le_of_ble_eq_true rfl) ?_
  intro p e s M args below meth c hx hb hr hG hown hin hlocks hml hW hS ls hl
  unfold fX7_withSender at hs0
  refine lv_lload_n hx hb dX7_withSender_0 rfl (lv_at hl 0 rfl) ?_
  refine lv_ldc2 (v := (-558551906910209)) hx hb hown (hG _ gx274) dX7_withSender_1 ?_
  refine lv_land hx hb dX7_withSender_4 ?_
  refine lv_iload_n hx hb dX7_withSender_5 rfl (lv_at hl 1 rfl) ?_
  refine lv_i2l hx hb dX7_withSender_6 rfl ?_
  refine lv_bipush (v := 47) hx hb dX7_withSender_7 (by decide) ?_
  refine lv_lshl hx hb dX7_withSender_9 rfl ?_
  refine lv_lor hx hb dX7_withSender_10 ?_
  refine lv_iload_n hx hb dX7_withSender_11 rfl (lv_at hl 2 rfl) ?_
  refine lv_i2l hx hb dX7_withSender_12 rfl ?_
  refine lv_bipush (v := 46) hx hb dX7_withSender_13 (by decide) ?_
  refine lv_lshl hx hb dX7_withSender_15 rfl ?_
  refine lv_lor hx hb dX7_withSender_16 ?_
  refine lv_iload hx hb dX7_withSender_17 (lv_at hl 3 rfl) ?_
  refine lv_i2l hx hb dX7_withSender_19 rfl ?_
  refine lv_bipush (v := 43) hx hb dX7_withSender_20 (by decide) ?_
  refine lv_lshl hx hb dX7_withSender_22 rfl ?_
  refine lv_lor hx hb dX7_withSender_23 ?_
  refine lv_iload hx hb dX7_withSender_24 (lv_at hl 4 rfl) ?_
  refine lv_if_eq (tgt := 35) hx hb dX7_withSender_26 (by decide) (fun c1 => ?_) (fun c1 => ?_)
  · rw [if_pos c1] at hs0
    refine lv_lconst (v := 0) hx hb dX7_withSender_35 (by decide) ?_
    refine lv_lor hx hb dX7_withSender_36 ?_
    subst hs0
    exact W.lret hx hb hr (fun t ht hw => ⟨⟨_, (m0, a0), rfl, ⟨rfl, rfl, rfl⟩, g_end hW ht hw⟩, hS.F ht⟩) hS.2.2 dX7_withSender_37 hlocks
  · rw [if_neg c1] at hs0
    refine lv_ldc2 (v := 4398046511104) hx hb hown (hG _ gx275) dX7_withSender_29 ?_
    refine lv_goto (tgt := 36) hx hb dX7_withSender_32 (by decide) ?_
    refine lv_lor hx hb dX7_withSender_36 ?_
    subst hs0
    exact W.lret hx hb hr (fun t ht hw => ⟨⟨_, (m0, a0), rfl, ⟨rfl, rfl, rfl⟩, g_end hW ht hw⟩, hS.F ht⟩) hS.2.2 dX7_withSender_37 hlocks
-- HealLink$Rules.afterDelivery (JI)J
def fX7_afterDelivery (p0 : Int64) (p2 : Int32) : Int64 := (if p2 = ((((p0.toUInt64 >>> ((46 : Int32).toInt64.toUInt64 &&& Int64.toUInt64 63)).toInt64).toInt32) &&& (7 : Int32)) then (if (fX7_takenOf p0) = 0 then ((fX7_withLast (p0 &&& ((-1099494850561) : Int64)) (p2 >>> (1 &&& 31))) ||| (4398046511104 : Int64)) ||| (4503599627370496 : Int64) else (fX7_withLast (p0 &&& ((-1099494850561) : Int64)) (p2 >>> (1 &&& 31))) ||| (13510798882111488 : Int64)) else (fX7_withLast (p0 &&& ((-1099494850561) : Int64)) (p2 >>> (1 &&& 31))) ||| (9007199254740992 : Int64))
theorem dX7_afterDelivery_0 : decode cX7_afterDelivery 0 = .ok (.lload_n 0, 1) := by decide +kernel
theorem dX7_afterDelivery_1 : decode cX7_afterDelivery 1 = .ok (.ldc2_w 120, 3) := by decide +kernel
theorem dX7_afterDelivery_4 : decode cX7_afterDelivery 4 = .ok (.land, 1) := by decide +kernel
theorem dX7_afterDelivery_5 : decode cX7_afterDelivery 5 = .ok (.iload_n 2, 1) := by decide +kernel
theorem dX7_afterDelivery_6 : decode cX7_afterDelivery 6 = .ok (.iconst 1, 1) := by decide +kernel
theorem dX7_afterDelivery_7 : decode cX7_afterDelivery 7 = .ok (.ishr, 1) := by decide +kernel
theorem dX7_afterDelivery_8 : decode cX7_afterDelivery 8 = .ok (.invokestatic 122, 3) := by decide +kernel
theorem dX7_afterDelivery_11 : decode cX7_afterDelivery 11 = .ok (.lstore_n 3, 1) := by decide +kernel
theorem dX7_afterDelivery_12 : decode cX7_afterDelivery 12 = .ok (.iload_n 2, 1) := by decide +kernel
theorem dX7_afterDelivery_13 : decode cX7_afterDelivery 13 = .ok (.lload_n 0, 1) := by decide +kernel
theorem dX7_afterDelivery_14 : decode cX7_afterDelivery 14 = .ok (.bipush 46, 2) := by decide +kernel
theorem dX7_afterDelivery_16 : decode cX7_afterDelivery 16 = .ok (.lushr, 1) := by decide +kernel
theorem dX7_afterDelivery_17 : decode cX7_afterDelivery 17 = .ok (.l2i, 1) := by decide +kernel
theorem dX7_afterDelivery_18 : decode cX7_afterDelivery 18 = .ok (.bipush 7, 2) := by decide +kernel
theorem dX7_afterDelivery_20 : decode cX7_afterDelivery 20 = .ok (.iand, 1) := by decide +kernel
theorem dX7_afterDelivery_21 : decode cX7_afterDelivery 21 = .ok (.if_icmp .eq 9, 3) := by decide +kernel
theorem dX7_afterDelivery_24 : decode cX7_afterDelivery 24 = .ok (.lload_n 3, 1) := by decide +kernel
theorem dX7_afterDelivery_25 : decode cX7_afterDelivery 25 = .ok (.ldc2_w 125, 3) := by decide +kernel
theorem dX7_afterDelivery_28 : decode cX7_afterDelivery 28 = .ok (.lor, 1) := by decide +kernel
theorem dX7_afterDelivery_29 : decode cX7_afterDelivery 29 = .ok (.lreturn, 1) := by decide +kernel
theorem dX7_afterDelivery_30 : decode cX7_afterDelivery 30 = .ok (.lload_n 0, 1) := by decide +kernel
theorem dX7_afterDelivery_31 : decode cX7_afterDelivery 31 = .ok (.invokestatic 127, 3) := by decide +kernel
theorem dX7_afterDelivery_34 : decode cX7_afterDelivery 34 = .ok (.ifCond .eq 9, 3) := by decide +kernel
theorem dX7_afterDelivery_37 : decode cX7_afterDelivery 37 = .ok (.lload_n 3, 1) := by decide +kernel
theorem dX7_afterDelivery_38 : decode cX7_afterDelivery 38 = .ok (.ldc2_w 131, 3) := by decide +kernel
theorem dX7_afterDelivery_41 : decode cX7_afterDelivery 41 = .ok (.lor, 1) := by decide +kernel
theorem dX7_afterDelivery_42 : decode cX7_afterDelivery 42 = .ok (.lreturn, 1) := by decide +kernel
theorem dX7_afterDelivery_43 : decode cX7_afterDelivery 43 = .ok (.lload_n 3, 1) := by decide +kernel
theorem dX7_afterDelivery_44 : decode cX7_afterDelivery 44 = .ok (.ldc2_w 51, 3) := by decide +kernel
theorem dX7_afterDelivery_47 : decode cX7_afterDelivery 47 = .ok (.lor, 1) := by decide +kernel
theorem dX7_afterDelivery_48 : decode cX7_afterDelivery 48 = .ok (.ldc2_w 133, 3) := by decide +kernel
theorem dX7_afterDelivery_51 : decode cX7_afterDelivery 51 = .ok (.lor, 1) := by decide +kernel
theorem dX7_afterDelivery_52 : decode cX7_afterDelivery 52 = .ok (.lreturn, 1) := by decide +kernel
set_option maxHeartbeats 4000000 in
set_option maxRecDepth 100000 in
theorem kX7_afterDelivery {l : Launch} {D : va_G} {cy : Nat → ClassId} {N : Nat} {q : Nat → Nat} {m0 : Nat → Value} {a0 : Nat → vp_A} {sz : Nat} (hN : 105 ≤ N) (p0 : Int64) (p2 : Int32) : gMl l yX7_afterDelivery cX7_afterDelivery 5 (some .long) ({ frames := 1, cells := 0, slots := 0, locals := 22 } : Room) D cy N q m0 a0 sz [.long p0, .int p2] (fun r m' a' => r = (fX7_afterDelivery p0 p2) ∧ m' = m0 ∧ a' = a0) := by
  generalize hs0 : fX7_afterDelivery p0 p2 = X0
  refine g_ofl (by decide) (Nat.le_of_ble_eq_true rfl) ?_
  intro p e s M args below meth c hx hb hr hG hown hin hlocks hml hW hS ls hl
  unfold fX7_afterDelivery at hs0
  refine lv_lload_n hx hb dX7_afterDelivery_0 rfl (lv_at hl 0 rfl) ?_
  refine lv_ldc2 (v := (-1099494850561)) hx hb hown (hG _ gx448) dX7_afterDelivery_1 ?_
  refine lv_land hx hb dX7_afterDelivery_4 ?_
  refine lv_iload_n hx hb dX7_afterDelivery_5 rfl (lv_at hl 1 rfl) ?_
  refine lv_iconst (v := 1) hx hb dX7_afterDelivery_6 (by decide) ?_
  refine lv_ishr hx hb dX7_afterDelivery_7 ?_
  refine g_SlR (n := 2) hx hb hml hown hG hW hS [.long (p0 &&& ((-1099494850561) : Int64)), .int (p2 >>> (1 &&& 31))] (kX7_withLast hN (p0 &&& ((-1099494850561) : Int64)) (p2 >>> (1 &&& 31))) rfl (gd_S gx452 gx297 gx39 gx298) rfl rfl (by decide) ⟨Nat.le_of_ble_eq_true rfl, Nat.le_of_ble_eq_true rfl⟩ rfl hl (Nat.le_of_ble_eq_true rfl) ⟨Nat.zero_le _, Nat.zero_le _⟩ dX7_afterDelivery_8 (fun H locs hW hS => ?_)
  refine lv_lstore_n (lv' := [(3, .long (fX7_withLast (p0 &&& ((-1099494850561) : Int64)) (p2 >>> (1 &&& 31)))), (0, .long p0), (2, .int p2)]) hx hb dX7_afterDelivery_11 rfl hl (by decide) rfl (fun ls hl => ?_)
  refine lv_iload_n hx hb dX7_afterDelivery_12 rfl (lv_at hl 2 rfl) ?_
  refine lv_lload_n hx hb dX7_afterDelivery_13 rfl (lv_at hl 1 rfl) ?_
  refine lv_bipush (v := 46) hx hb dX7_afterDelivery_14 (by decide) ?_
  refine lv_lushr hx hb dX7_afterDelivery_16 rfl ?_
  refine lv_l2i hx hb dX7_afterDelivery_17 rfl ?_
  refine lv_bipush (v := 7) hx hb dX7_afterDelivery_18 (by decide) ?_
  refine lv_iand hx hb dX7_afterDelivery_20 ?_
  refine lv_icmp_eq (tgt := 30) hx hb dX7_afterDelivery_21 (by decide) (fun c2 => ?_) (fun c2 => ?_)
  · rw [if_pos c2] at hs0
    refine lv_lload_n hx hb dX7_afterDelivery_30 rfl (lv_at hl 1 rfl) ?_
    refine g_SiR (n := 1) hx hb hml hown hG hW hS [.long p0] (kX7_takenOf hN p0) rfl (gd_S gx453 gx454 gx39 gx455) rfl rfl (by decide) ⟨Nat.le_of_ble_eq_true rfl, Nat.le_of_ble_eq_true rfl⟩ rfl hl (Nat.le_of_ble_eq_true rfl) ⟨Nat.zero_le _, Nat.zero_le _⟩ dX7_afterDelivery_31 (fun H locs hW hS => ?_)
    refine lv_if_eq (tgt := 43) hx hb dX7_afterDelivery_34 (by decide) (fun c4 => ?_) (fun c4 => ?_)
    · rw [if_pos c4] at hs0
      refine lv_lload_n hx hb dX7_afterDelivery_43 rfl (lv_at hl 0 rfl) ?_
      refine lv_ldc2 (v := 4398046511104) hx hb hown (hG _ gx275) dX7_afterDelivery_44 ?_
      refine lv_lor hx hb dX7_afterDelivery_47 ?_
      refine lv_ldc2 (v := 4503599627370496) hx hb hown (hG _ gx451) dX7_afterDelivery_48 ?_
      refine lv_lor hx hb dX7_afterDelivery_51 ?_
      subst hs0
      exact W.lret hx hb hr (fun t ht hw => ⟨⟨_, (m0, a0), rfl, ⟨rfl, rfl, rfl⟩, g_end hW ht hw⟩, hS.F ht⟩) hS.2.2 dX7_afterDelivery_52 hlocks
    · rw [if_neg c4] at hs0
      refine lv_lload_n hx hb dX7_afterDelivery_37 rfl (lv_at hl 0 rfl) ?_
      refine lv_ldc2 (v := 13510798882111488) hx hb hown (hG _ gx450) dX7_afterDelivery_38 ?_
      refine lv_lor hx hb dX7_afterDelivery_41 ?_
      subst hs0
      exact W.lret hx hb hr (fun t ht hw => ⟨⟨_, (m0, a0), rfl, ⟨rfl, rfl, rfl⟩, g_end hW ht hw⟩, hS.F ht⟩) hS.2.2 dX7_afterDelivery_42 hlocks
  · rw [if_neg c2] at hs0
    refine lv_lload_n hx hb dX7_afterDelivery_24 rfl (lv_at hl 0 rfl) ?_
    refine lv_ldc2 (v := 9007199254740992) hx hb hown (hG _ gx449) dX7_afterDelivery_25 ?_
    refine lv_lor hx hb dX7_afterDelivery_28 ?_
    subst hs0
    exact W.lret hx hb hr (fun t ht hw => ⟨⟨_, (m0, a0), rfl, ⟨rfl, rfl, rfl⟩, g_end hW ht hw⟩, hS.F ht⟩) hS.2.2 dX7_afterDelivery_29 hlocks
-- HealLink$Acts.codeOf (III)I
def fX0_codeOf (p0 : Int32) (p1 : Int32) (p2 : Int32) : Int32 := (if p0 = 0 then 0 else (if p0 = 1 then (p0 ||| (p1 <<< (4 &&& 31))) ||| (p2 <<< (3 &&& 31)) else (if p0 = 3 then (p0 ||| (p1 <<< (4 &&& 31))) ||| (p2 <<< (3 &&& 31)) else (p0 ||| (p1 <<< (4 &&& 31))) ||| (0 : Int32))))
theorem dX0_codeOf_0 : decode cX0_codeOf 0 = .ok (.iload_n 0, 1) := by decide +kernel
theorem dX0_codeOf_1 : decode cX0_codeOf 1 = .ok (.ifCond .ne 5, 3) := by decide +kernel
theorem dX0_codeOf_4 : decode cX0_codeOf 4 = .ok (.iconst 0, 1) := by decide +kernel
theorem dX0_codeOf_5 : decode cX0_codeOf 5 = .ok (.ireturn, 1) := by decide +kernel
theorem dX0_codeOf_6 : decode cX0_codeOf 6 = .ok (.iload_n 0, 1) := by decide +kernel
theorem dX0_codeOf_7 : decode cX0_codeOf 7 = .ok (.iload_n 1, 1) := by decide +kernel
theorem dX0_codeOf_8 : decode cX0_codeOf 8 = .ok (.iconst 4, 1) := by decide +kernel
theorem dX0_codeOf_9 : decode cX0_codeOf 9 = .ok (.ishl, 1) := by decide +kernel
theorem dX0_codeOf_10 : decode cX0_codeOf 10 = .ok (.ior, 1) := by decide +kernel
theorem dX0_codeOf_11 : decode cX0_codeOf 11 = .ok (.iload_n 0, 1) := by decide +kernel
theorem dX0_codeOf_12 : decode cX0_codeOf 12 = .ok (.iconst 1, 1) := by decide +kernel
theorem dX0_codeOf_13 : decode cX0_codeOf 13 = .ok (.if_icmp .eq 8, 3) := by decide +kernel
theorem dX0_codeOf_16 : decode cX0_codeOf 16 = .ok (.iload_n 0, 1) := by decide +kernel
theorem dX0_codeOf_17 : decode cX0_codeOf 17 = .ok (.iconst 3, 1) := by decide +kernel
theorem dX0_codeOf_18 : decode cX0_codeOf 18 = .ok (.if_icmp .ne 9, 3) := by decide +kernel
theorem dX0_codeOf_21 : decode cX0_codeOf 21 = .ok (.iload_n 2, 1) := by decide +kernel
theorem dX0_codeOf_22 : decode cX0_codeOf 22 = .ok (.iconst 3, 1) := by decide +kernel
theorem dX0_codeOf_23 : decode cX0_codeOf 23 = .ok (.ishl, 1) := by decide +kernel
theorem dX0_codeOf_24 : decode cX0_codeOf 24 = .ok (.goto 4, 3) := by decide +kernel
theorem dX0_codeOf_27 : decode cX0_codeOf 27 = .ok (.iconst 0, 1) := by decide +kernel
theorem dX0_codeOf_28 : decode cX0_codeOf 28 = .ok (.ior, 1) := by decide +kernel
theorem dX0_codeOf_29 : decode cX0_codeOf 29 = .ok (.ireturn, 1) := by decide +kernel
set_option maxHeartbeats 4000000 in
set_option maxRecDepth 100000 in
theorem kX0_codeOf {l : Launch} {D : va_G} {cy : Nat → ClassId} {N : Nat} {q : Nat → Nat} {m0 : Nat → Value} {a0 : Nat → vp_A} {sz : Nat} (hN : 105 ≤ N) (p0 : Int32) (p1 : Int32) (p2 : Int32) : gMi l yX0_codeOf cX0_codeOf 3 (some .int) ({ frames := 0, cells := 0, slots := 0, locals := 0 } : Room) D cy N q m0 a0 sz [.int p0, .int p1, .int p2] (fun r m' a' => r = (fX0_codeOf p0 p1 p2) ∧ m' = m0 ∧ a' = a0) := by
  generalize hs0 : fX0_codeOf p0 p1 p2 = X0
  refine g_ofi (by decide) (Nat.le_of_ble_eq_true rfl) ?_
  intro p e s M args below meth c hx hb hr hG hown hin hlocks hml hW hS ls hl
  unfold fX0_codeOf at hs0
  refine lv_iload_n hx hb dX0_codeOf_0 rfl (lv_at hl 0 rfl) ?_
  refine lv_if_ne (tgt := 6) hx hb dX0_codeOf_1 (by decide) (fun c1 => ?_) (fun c1 => ?_)
  · rw [if_neg c1] at hs0
    refine lv_iload_n hx hb dX0_codeOf_6 rfl (lv_at hl 0 rfl) ?_
    refine lv_iload_n hx hb dX0_codeOf_7 rfl (lv_at hl 1 rfl) ?_
    refine lv_iconst (v := 4) hx hb dX0_codeOf_8 (by decide) ?_
    refine lv_ishl hx hb dX0_codeOf_9 ?_
    refine lv_ior hx hb dX0_codeOf_10 ?_
    refine lv_iload_n hx hb dX0_codeOf_11 rfl (lv_at hl 0 rfl) ?_
    refine lv_iconst (v := 1) hx hb dX0_codeOf_12 (by decide) ?_
    refine lv_icmp_eq (tgt := 21) hx hb dX0_codeOf_13 (by decide) (fun c2 => ?_) (fun c2 => ?_)
    · rw [if_pos c2] at hs0
      refine lv_iload_n hx hb dX0_codeOf_21 rfl (lv_at hl 2 rfl) ?_
      refine lv_iconst (v := 3) hx hb dX0_codeOf_22 (by decide) ?_
      refine lv_ishl hx hb dX0_codeOf_23 ?_
      refine lv_goto (tgt := 28) hx hb dX0_codeOf_24 (by decide) ?_
      refine lv_ior hx hb dX0_codeOf_28 ?_
      subst hs0
      exact W.zret hx hb hr rfl (fun t ht hw => ⟨⟨_, (m0, a0), rfl, ⟨rfl, rfl, rfl⟩, g_end hW ht hw⟩, hS.F ht⟩) hS.2.2 dX0_codeOf_29 hlocks
    · rw [if_neg c2] at hs0
      refine lv_iload_n hx hb dX0_codeOf_16 rfl (lv_at hl 0 rfl) ?_
      refine lv_iconst (v := 3) hx hb dX0_codeOf_17 (by decide) ?_
      refine lv_icmp_ne (tgt := 27) hx hb dX0_codeOf_18 (by decide) (fun c3 => ?_) (fun c3 => ?_)
      · rw [if_neg c3] at hs0
        refine lv_iconst (v := 0) hx hb dX0_codeOf_27 (by decide) ?_
        refine lv_ior hx hb dX0_codeOf_28 ?_
        subst hs0
        exact W.zret hx hb hr rfl (fun t ht hw => ⟨⟨_, (m0, a0), rfl, ⟨rfl, rfl, rfl⟩, g_end hW ht hw⟩, hS.F ht⟩) hS.2.2 dX0_codeOf_29 hlocks
      · rw [if_pos c3] at hs0
        refine lv_iload_n hx hb dX0_codeOf_21 rfl (lv_at hl 2 rfl) ?_
        refine lv_iconst (v := 3) hx hb dX0_codeOf_22 (by decide) ?_
        refine lv_ishl hx hb dX0_codeOf_23 ?_
        refine lv_goto (tgt := 28) hx hb dX0_codeOf_24 (by decide) ?_
        refine lv_ior hx hb dX0_codeOf_28 ?_
        subst hs0
        exact W.zret hx hb hr rfl (fun t ht hw => ⟨⟨_, (m0, a0), rfl, ⟨rfl, rfl, rfl⟩, g_end hW ht hw⟩, hS.F ht⟩) hS.2.2 dX0_codeOf_29 hlocks
  · rw [if_pos c1] at hs0
    refine lv_iconst (v := 0) hx hb dX0_codeOf_4 (by decide) ?_
    subst hs0
    exact W.zret hx hb hr rfl (fun t ht hw => ⟨⟨_, (m0, a0), rfl, ⟨rfl, rfl, rfl⟩, g_end hW ht hw⟩, hS.F ht⟩) hS.2.2 dX0_codeOf_5 hlocks
-- HealLink$Acts.withTold (II)I
def fX0_withTold (p0 : Int32) (p1 : Int32) : Int32 := p0 ||| (p1 <<< (6 &&& 31))
theorem dX0_withTold_0 : decode cX0_withTold 0 = .ok (.iload_n 0, 1) := by decide +kernel
theorem dX0_withTold_1 : decode cX0_withTold 1 = .ok (.iload_n 1, 1) := by decide +kernel
theorem dX0_withTold_2 : decode cX0_withTold 2 = .ok (.bipush 6, 2) := by decide +kernel
theorem dX0_withTold_4 : decode cX0_withTold 4 = .ok (.ishl, 1) := by decide +kernel
theorem dX0_withTold_5 : decode cX0_withTold 5 = .ok (.ior, 1) := by decide +kernel
theorem dX0_withTold_6 : decode cX0_withTold 6 = .ok (.ireturn, 1) := by decide +kernel
set_option maxHeartbeats 4000000 in
set_option maxRecDepth 100000 in
theorem kX0_withTold {l : Launch} {D : va_G} {cy : Nat → ClassId} {N : Nat} {q : Nat → Nat} {m0 : Nat → Value} {a0 : Nat → vp_A} {sz : Nat} (hN : 105 ≤ N) (p0 : Int32) (p1 : Int32) : gMi l yX0_withTold cX0_withTold 2 (some .int) ({ frames := 0, cells := 0, slots := 0, locals := 0 } : Room) D cy N q m0 a0 sz [.int p0, .int p1] (fun r m' a' => r = (fX0_withTold p0 p1) ∧ m' = m0 ∧ a' = a0) := by
  generalize hs0 : fX0_withTold p0 p1 = X0
  refine g_ofi (by decide) (Nat.le_of_ble_eq_true rfl) ?_
  intro p e s M args below meth c hx hb hr hG hown hin hlocks hml hW hS ls hl
  unfold fX0_withTold at hs0
  refine lv_iload_n hx hb dX0_withTold_0 rfl (lv_at hl 0 rfl) ?_
  refine lv_iload_n hx hb dX0_withTold_1 rfl (lv_at hl 1 rfl) ?_
  refine lv_bipush (v := 6) hx hb dX0_withTold_2 (by decide) ?_
  refine lv_ishl hx hb dX0_withTold_4 ?_
  refine lv_ior hx hb dX0_withTold_5 ?_
  subst hs0
  exact W.zret hx hb hr rfl (fun t ht hw => ⟨⟨_, (m0, a0), rfl, ⟨rfl, rfl, rfl⟩, g_end hW ht hw⟩, hS.F ht⟩) hS.2.2 dX0_withTold_6 hlocks
-- HealLink$Acts.whichOf (I)I
def fX0_whichOf (p0 : Int32) : Int32 := p0 &&& (7 : Int32)
theorem dX0_whichOf_0 : decode cX0_whichOf 0 = .ok (.iload_n 0, 1) := by decide +kernel
theorem dX0_whichOf_1 : decode cX0_whichOf 1 = .ok (.bipush 7, 2) := by decide +kernel
theorem dX0_whichOf_3 : decode cX0_whichOf 3 = .ok (.iand, 1) := by decide +kernel
theorem dX0_whichOf_4 : decode cX0_whichOf 4 = .ok (.ireturn, 1) := by decide +kernel
set_option maxHeartbeats 4000000 in
set_option maxRecDepth 100000 in
theorem kX0_whichOf {l : Launch} {D : va_G} {cy : Nat → ClassId} {N : Nat} {q : Nat → Nat} {m0 : Nat → Value} {a0 : Nat → vp_A} {sz : Nat} (hN : 105 ≤ N) (p0 : Int32) : gMi l yX0_whichOf cX0_whichOf 1 (some .int) ({ frames := 0, cells := 0, slots := 0, locals := 0 } : Room) D cy N q m0 a0 sz [.int p0] (fun r m' a' => r = (fX0_whichOf p0) ∧ m' = m0 ∧ a' = a0) := by
  generalize hs0 : fX0_whichOf p0 = X0
  refine g_ofi (by decide) (Nat.le_of_ble_eq_true rfl) ?_
  intro p e s M args below meth c hx hb hr hG hown hin hlocks hml hW hS ls hl
  unfold fX0_whichOf at hs0
  refine lv_iload_n hx hb dX0_whichOf_0 rfl (lv_at hl 0 rfl) ?_
  refine lv_bipush (v := 7) hx hb dX0_whichOf_1 (by decide) ?_
  refine lv_iand hx hb dX0_whichOf_3 ?_
  subst hs0
  exact W.zret hx hb hr rfl (fun t ht hw => ⟨⟨_, (m0, a0), rfl, ⟨rfl, rfl, rfl⟩, g_end hW ht hw⟩, hS.F ht⟩) hS.2.2 dX0_whichOf_4 hlocks
-- HealLink$Acts.kindOf (I)I
def fX0_kindOf (p0 : Int32) : Int32 := ((p0.toUInt32 >>> ((3 : Int32).toUInt32 &&& Int32.toUInt32 31)).toInt32) &&& (7 : Int32)
theorem dX0_kindOf_0 : decode cX0_kindOf 0 = .ok (.iload_n 0, 1) := by decide +kernel
theorem dX0_kindOf_1 : decode cX0_kindOf 1 = .ok (.iconst 3, 1) := by decide +kernel
theorem dX0_kindOf_2 : decode cX0_kindOf 2 = .ok (.iushr, 1) := by decide +kernel
theorem dX0_kindOf_3 : decode cX0_kindOf 3 = .ok (.bipush 7, 2) := by decide +kernel
theorem dX0_kindOf_5 : decode cX0_kindOf 5 = .ok (.iand, 1) := by decide +kernel
theorem dX0_kindOf_6 : decode cX0_kindOf 6 = .ok (.ireturn, 1) := by decide +kernel
set_option maxHeartbeats 4000000 in
set_option maxRecDepth 100000 in
theorem kX0_kindOf {l : Launch} {D : va_G} {cy : Nat → ClassId} {N : Nat} {q : Nat → Nat} {m0 : Nat → Value} {a0 : Nat → vp_A} {sz : Nat} (hN : 105 ≤ N) (p0 : Int32) : gMi l yX0_kindOf cX0_kindOf 1 (some .int) ({ frames := 0, cells := 0, slots := 0, locals := 0 } : Room) D cy N q m0 a0 sz [.int p0] (fun r m' a' => r = (fX0_kindOf p0) ∧ m' = m0 ∧ a' = a0) := by
  generalize hs0 : fX0_kindOf p0 = X0
  refine g_ofi (by decide) (Nat.le_of_ble_eq_true rfl) ?_
  intro p e s M args below meth c hx hb hr hG hown hin hlocks hml hW hS ls hl
  unfold fX0_kindOf at hs0
  refine lv_iload_n hx hb dX0_kindOf_0 rfl (lv_at hl 0 rfl) ?_
  refine lv_iconst (v := 3) hx hb dX0_kindOf_1 (by decide) ?_
  refine lv_iushr hx hb dX0_kindOf_2 rfl ?_
  refine lv_bipush (v := 7) hx hb dX0_kindOf_3 (by decide) ?_
  refine lv_iand hx hb dX0_kindOf_5 ?_
  subst hs0
  exact W.zret hx hb hr rfl (fun t ht hw => ⟨⟨_, (m0, a0), rfl, ⟨rfl, rfl, rfl⟩, g_end hW ht hw⟩, hS.F ht⟩) hS.2.2 dX0_kindOf_6 hlocks
-- HealLink$Acts.toldOf (I)I
def fX0_toldOf (p0 : Int32) : Int32 := ((p0.toUInt32 >>> ((6 : Int32).toUInt32 &&& Int32.toUInt32 31)).toInt32) &&& (1 : Int32)
theorem dX0_toldOf_0 : decode cX0_toldOf 0 = .ok (.iload_n 0, 1) := by decide +kernel
theorem dX0_toldOf_1 : decode cX0_toldOf 1 = .ok (.bipush 6, 2) := by decide +kernel
theorem dX0_toldOf_3 : decode cX0_toldOf 3 = .ok (.iushr, 1) := by decide +kernel
theorem dX0_toldOf_4 : decode cX0_toldOf 4 = .ok (.iconst 1, 1) := by decide +kernel
theorem dX0_toldOf_5 : decode cX0_toldOf 5 = .ok (.iand, 1) := by decide +kernel
theorem dX0_toldOf_6 : decode cX0_toldOf 6 = .ok (.ireturn, 1) := by decide +kernel
set_option maxHeartbeats 4000000 in
set_option maxRecDepth 100000 in
theorem kX0_toldOf {l : Launch} {D : va_G} {cy : Nat → ClassId} {N : Nat} {q : Nat → Nat} {m0 : Nat → Value} {a0 : Nat → vp_A} {sz : Nat} (hN : 105 ≤ N) (p0 : Int32) : gMi l yX0_toldOf cX0_toldOf 1 (some .int) ({ frames := 0, cells := 0, slots := 0, locals := 0 } : Room) D cy N q m0 a0 sz [.int p0] (fun r m' a' => r = (fX0_toldOf p0) ∧ m' = m0 ∧ a' = a0) := by
  generalize hs0 : fX0_toldOf p0 = X0
  refine g_ofi (by decide) (Nat.le_of_ble_eq_true rfl) ?_
  intro p e s M args below meth c hx hb hr hG hown hin hlocks hml hW hS ls hl
  unfold fX0_toldOf at hs0
  refine lv_iload_n hx hb dX0_toldOf_0 rfl (lv_at hl 0 rfl) ?_
  refine lv_bipush (v := 6) hx hb dX0_toldOf_1 (by decide) ?_
  refine lv_iushr hx hb dX0_toldOf_3 rfl ?_
  refine lv_iconst (v := 1) hx hb dX0_toldOf_4 (by decide) ?_
  refine lv_iand hx hb dX0_toldOf_5 ?_
  subst hs0
  exact W.zret hx hb hr rfl (fun t ht hw => ⟨⟨_, (m0, a0), rfl, ⟨rfl, rfl, rfl⟩, g_end hW ht hw⟩, hS.F ht⟩) hS.2.2 dX0_toldOf_6 hlocks
-- HealLink$Acts.part (II)I
def fX0_part_J49 (v0j5 : Int32) : Int32 := (fX0_kindOf v0j5) &&& (1 : Int32)
def fX0_part (p0 : Int32) (p1 : Int32) : Int32 := (if p1 = 0 then (fX0_whichOf p0) + (100 * (fX0_toldOf p0)) else (if p1 = 1 then (if (fX0_whichOf p0) = 0 then (-1) else (fX0_kindOf p0) >>> (1 &&& 31)) else (if (fX0_whichOf p0) = 1 then fX0_part_J49 p0 else (if (fX0_whichOf p0) = 3 then fX0_part_J49 p0 else (-1)))))
theorem dX0_part_0 : decode cX0_part 0 = .ok (.iload_n 0, 1) := by decide +kernel
theorem dX0_part_1 : decode cX0_part 1 = .ok (.invokestatic 20, 3) := by decide +kernel
theorem dX0_part_4 : decode cX0_part 4 = .ok (.istore_n 2, 1) := by decide +kernel
theorem dX0_part_5 : decode cX0_part 5 = .ok (.iload_n 1, 1) := by decide +kernel
theorem dX0_part_6 : decode cX0_part 6 = .ok (.ifCond .ne 13, 3) := by decide +kernel
theorem dX0_part_9 : decode cX0_part 9 = .ok (.iload_n 2, 1) := by decide +kernel
theorem dX0_part_10 : decode cX0_part 10 = .ok (.bipush 100, 2) := by decide +kernel
theorem dX0_part_12 : decode cX0_part 12 = .ok (.iload_n 0, 1) := by decide +kernel
theorem dX0_part_13 : decode cX0_part 13 = .ok (.invokestatic 24, 3) := by decide +kernel
theorem dX0_part_16 : decode cX0_part 16 = .ok (.imul, 1) := by decide +kernel
theorem dX0_part_17 : decode cX0_part 17 = .ok (.iadd, 1) := by decide +kernel
theorem dX0_part_18 : decode cX0_part 18 = .ok (.ireturn, 1) := by decide +kernel
theorem dX0_part_19 : decode cX0_part 19 = .ok (.iload_n 1, 1) := by decide +kernel
theorem dX0_part_20 : decode cX0_part 20 = .ok (.iconst 1, 1) := by decide +kernel
theorem dX0_part_21 : decode cX0_part 21 = .ok (.if_icmp .ne 18, 3) := by decide +kernel
theorem dX0_part_24 : decode cX0_part 24 = .ok (.iload_n 2, 1) := by decide +kernel
theorem dX0_part_25 : decode cX0_part 25 = .ok (.ifCond .ne 7, 3) := by decide +kernel
theorem dX0_part_28 : decode cX0_part 28 = .ok (.iconst (-1), 1) := by decide +kernel
theorem dX0_part_29 : decode cX0_part 29 = .ok (.goto 9, 3) := by decide +kernel
theorem dX0_part_32 : decode cX0_part 32 = .ok (.iload_n 0, 1) := by decide +kernel
theorem dX0_part_33 : decode cX0_part 33 = .ok (.invokestatic 27, 3) := by decide +kernel
theorem dX0_part_36 : decode cX0_part 36 = .ok (.iconst 1, 1) := by decide +kernel
theorem dX0_part_37 : decode cX0_part 37 = .ok (.ishr, 1) := by decide +kernel
theorem dX0_part_38 : decode cX0_part 38 = .ok (.ireturn, 1) := by decide +kernel
theorem dX0_part_39 : decode cX0_part 39 = .ok (.iload_n 2, 1) := by decide +kernel
theorem dX0_part_40 : decode cX0_part 40 = .ok (.iconst 1, 1) := by decide +kernel
theorem dX0_part_41 : decode cX0_part 41 = .ok (.if_icmp .eq 8, 3) := by decide +kernel
theorem dX0_part_44 : decode cX0_part 44 = .ok (.iload_n 2, 1) := by decide +kernel
theorem dX0_part_45 : decode cX0_part 45 = .ok (.iconst 3, 1) := by decide +kernel
theorem dX0_part_46 : decode cX0_part 46 = .ok (.if_icmp .ne 12, 3) := by decide +kernel
theorem dX0_part_49 : decode cX0_part 49 = .ok (.iload_n 0, 1) := by decide +kernel
theorem dX0_part_50 : decode cX0_part 50 = .ok (.invokestatic 27, 3) := by decide +kernel
theorem dX0_part_53 : decode cX0_part 53 = .ok (.iconst 1, 1) := by decide +kernel
theorem dX0_part_54 : decode cX0_part 54 = .ok (.iand, 1) := by decide +kernel
theorem dX0_part_55 : decode cX0_part 55 = .ok (.goto 4, 3) := by decide +kernel
theorem dX0_part_58 : decode cX0_part 58 = .ok (.iconst (-1), 1) := by decide +kernel
theorem dX0_part_59 : decode cX0_part 59 = .ok (.ireturn, 1) := by decide +kernel
set_option maxHeartbeats 4000000 in
set_option maxRecDepth 100000 in
theorem kX0_part {l : Launch} {D : va_G} {cy : Nat → ClassId} {N : Nat} {q : Nat → Nat} {m0 : Nat → Value} {a0 : Nat → vp_A} {sz : Nat} (hN : 105 ≤ N) (p0 : Int32) (p1 : Int32) : gMi l yX0_part cX0_part 3 (some .int) ({ frames := 1, cells := 0, slots := 0, locals := 20 } : Room) D cy N q m0 a0 sz [.int p0, .int p1] (fun r m' a' => r = (fX0_part p0 p1) ∧ m' = m0 ∧ a' = a0) := by
  generalize hs0 : fX0_part p0 p1 = X0
  refine g_ofi (by decide) (Nat.le_of_ble_eq_true rfl) ?_
  intro p e s M args below meth c hx hb hr hG hown hin hlocks hml hW hS ls hl
  unfold fX0_part at hs0
  have hJ49_0 : ∀ (v0j5 : Int32) (H : Heap) (locs : List Loc) (ls : Array Slot) (hl : lv_has ls 3 [(0, .int v0j5)]) (hs0 : fX0_part_J49 v0j5 = X0) (hW : GW D cy (gA N q s.heap.size) N q m0 a0 s H) (hS : va_S (gA N q s.heap.size) s.heap H locs), W p l e ({ frames := 1, cells := 0, slots := 0, locals := 20 } : Room) s M args below meth c H locs 0 0 (MQ below (va_Qi (fun (r : Int32) (u : (Nat → Value) × (Nat → vp_A)) => r = X0 ∧ u.1 = m0 ∧ u.2 = a0) (gB D cy N q s.heap.size) (gA N q s.heap.size)) args s 0 0 (gA N q s.heap.size)) (F0 M 49 ls []) := by
    intro v0j5 H locs ls hl hs0 hW hS
    unfold fX0_part_J49 at hs0
    refine lv_iload_n hx hb dX0_part_49 rfl (lv_at hl 0 rfl) ?_
    refine g_SiR (n := 1) hx hb hml hown hG hW hS [.int v0j5] (kX0_kindOf hN v0j5) rfl (gd_S gx648 gx429 gx23 gx430) rfl rfl (by decide) ⟨Nat.le_of_ble_eq_true rfl, Nat.le_of_ble_eq_true rfl⟩ rfl hl (Nat.le_of_ble_eq_true rfl) ⟨Nat.zero_le _, Nat.zero_le _⟩ dX0_part_50 (fun H locs hW hS => ?_)
    refine lv_iconst (v := 1) hx hb dX0_part_53 (by decide) ?_
    refine lv_iand hx hb dX0_part_54 ?_
    refine lv_goto (tgt := 59) hx hb dX0_part_55 (by decide) ?_
    subst hs0
    exact W.zret hx hb hr rfl (fun t ht hw => ⟨⟨_, (m0, a0), rfl, ⟨rfl, rfl, rfl⟩, g_end hW ht hw⟩, hS.F ht⟩) hS.2.2 dX0_part_59 hlocks
  refine lv_iload_n hx hb dX0_part_0 rfl (lv_at hl 0 rfl) ?_
  refine g_SiR (n := 1) hx hb hml hown hG hW hS [.int p0] (kX0_whichOf hN p0) rfl (gd_S gx646 gx432 gx23 gx433) rfl rfl (by decide) ⟨Nat.le_of_ble_eq_true rfl, Nat.le_of_ble_eq_true rfl⟩ rfl hl (Nat.le_of_ble_eq_true rfl) ⟨Nat.zero_le _, Nat.zero_le _⟩ dX0_part_1 (fun H locs hW hS => ?_)
  refine lv_istore_n (lv' := [(2, .int (fX0_whichOf p0)), (0, .int p0), (1, .int p1)]) hx hb dX0_part_4 rfl hl (by decide) rfl (fun ls hl => ?_)
  refine lv_iload_n hx hb dX0_part_5 rfl (lv_at hl 2 rfl) ?_
  refine lv_if_ne (tgt := 19) hx hb dX0_part_6 (by decide) (fun c2 => ?_) (fun c2 => ?_)
  · rw [if_neg c2] at hs0
    refine lv_iload_n hx hb dX0_part_19 rfl (lv_at hl 2 rfl) ?_
    refine lv_iconst (v := 1) hx hb dX0_part_20 (by decide) ?_
    refine lv_icmp_ne (tgt := 39) hx hb dX0_part_21 (by decide) (fun c3 => ?_) (fun c3 => ?_)
    · rw [if_neg c3] at hs0
      refine lv_iload_n hx hb dX0_part_39 rfl (lv_at hl 0 rfl) ?_
      refine lv_iconst (v := 1) hx hb dX0_part_40 (by decide) ?_
      refine lv_icmp_eq (tgt := 49) hx hb dX0_part_41 (by decide) (fun c4 => ?_) (fun c4 => ?_)
      · rw [if_pos c4] at hs0
        exact hJ49_0 p0 _ _ ls (lv_sub hl [1] rfl) hs0 hW hS
      · rw [if_neg c4] at hs0
        refine lv_iload_n hx hb dX0_part_44 rfl (lv_at hl 0 rfl) ?_
        refine lv_iconst (v := 3) hx hb dX0_part_45 (by decide) ?_
        refine lv_icmp_ne (tgt := 58) hx hb dX0_part_46 (by decide) (fun c6 => ?_) (fun c6 => ?_)
        · rw [if_neg c6] at hs0
          refine lv_iconst (v := (-1)) hx hb dX0_part_58 (by decide) ?_
          subst hs0
          exact W.zret hx hb hr rfl (fun t ht hw => ⟨⟨_, (m0, a0), rfl, ⟨rfl, rfl, rfl⟩, g_end hW ht hw⟩, hS.F ht⟩) hS.2.2 dX0_part_59 hlocks
        · rw [if_pos c6] at hs0
          exact hJ49_0 p0 _ _ ls (lv_sub hl [1] rfl) hs0 hW hS
    · rw [if_pos c3] at hs0
      refine lv_iload_n hx hb dX0_part_24 rfl (lv_at hl 0 rfl) ?_
      refine lv_if_ne (tgt := 32) hx hb dX0_part_25 (by decide) (fun c7 => ?_) (fun c7 => ?_)
      · rw [if_neg c7] at hs0
        refine lv_iload_n hx hb dX0_part_32 rfl (lv_at hl 1 rfl) ?_
        refine g_SiR (n := 1) hx hb hml hown hG hW hS [.int p0] (kX0_kindOf hN p0) rfl (gd_S gx648 gx429 gx23 gx430) rfl rfl (by decide) ⟨Nat.le_of_ble_eq_true rfl, Nat.le_of_ble_eq_true rfl⟩ rfl hl (Nat.le_of_ble_eq_true rfl) ⟨Nat.zero_le _, Nat.zero_le _⟩ dX0_part_33 (fun H locs hW hS => ?_)
        refine lv_iconst (v := 1) hx hb dX0_part_36 (by decide) ?_
        refine lv_ishr hx hb dX0_part_37 ?_
        subst hs0
        exact W.zret hx hb hr rfl (fun t ht hw => ⟨⟨_, (m0, a0), rfl, ⟨rfl, rfl, rfl⟩, g_end hW ht hw⟩, hS.F ht⟩) hS.2.2 dX0_part_38 hlocks
      · rw [if_pos c7] at hs0
        refine lv_iconst (v := (-1)) hx hb dX0_part_28 (by decide) ?_
        refine lv_goto (tgt := 38) hx hb dX0_part_29 (by decide) ?_
        subst hs0
        exact W.zret hx hb hr rfl (fun t ht hw => ⟨⟨_, (m0, a0), rfl, ⟨rfl, rfl, rfl⟩, g_end hW ht hw⟩, hS.F ht⟩) hS.2.2 dX0_part_38 hlocks
  · rw [if_pos c2] at hs0
    refine lv_iload_n hx hb dX0_part_9 rfl (lv_at hl 0 rfl) ?_
    refine lv_bipush (v := 100) hx hb dX0_part_10 (by decide) ?_
    refine lv_iload_n hx hb dX0_part_12 rfl (lv_at hl 1 rfl) ?_
    refine g_SiR (n := 1) hx hb hml hown hG hW hS [.int p0] (kX0_toldOf hN p0) rfl (gd_S gx647 gx458 gx23 gx459) rfl rfl (by decide) ⟨Nat.le_of_ble_eq_true rfl, Nat.le_of_ble_eq_true rfl⟩ rfl hl (Nat.le_of_ble_eq_true rfl) ⟨Nat.zero_le _, Nat.zero_le _⟩ dX0_part_13 (fun H locs hW hS => ?_)
    refine lv_imul hx hb dX0_part_16 ?_
    refine lv_iadd hx hb dX0_part_17 ?_
    subst hs0
    exact W.zret hx hb hr rfl (fun t ht hw => ⟨⟨_, (m0, a0), rfl, ⟨rfl, rfl, rfl⟩, g_end hW ht hw⟩, hS.F ht⟩) hS.2.2 dX0_part_18 hlocks
-- HealLink$Rules.limit (I)I
def fX7_limit (xkr_0 : Int32) (xkr_1 : Int32) (xkr_2 : Int32) (xkr_3 : Int32) (p1 : Int32) : Int32 := (if p1 = 0 then xkr_0 else (if p1 = 1 then xkr_1 else (if p1 = 2 then xkr_2 else xkr_3)))
theorem dX7_limit_0 : decode cX7_limit 0 = .ok (.iload_n 1, 1) := by decide +kernel
theorem dX7_limit_1 : decode cX7_limit 1 = .ok (.tableswitch 42 0 2 #[27, 32, 37], 27) := by decide +kernel
theorem dX7_limit_28 : decode cX7_limit 28 = .ok (.aload_n 0, 1) := by decide +kernel
theorem dX7_limit_29 : decode cX7_limit 29 = .ok (.getfield 11, 3) := by decide +kernel
theorem dX7_limit_32 : decode cX7_limit 32 = .ok (.ireturn, 1) := by decide +kernel
theorem dX7_limit_33 : decode cX7_limit 33 = .ok (.aload_n 0, 1) := by decide +kernel
theorem dX7_limit_34 : decode cX7_limit 34 = .ok (.getfield 15, 3) := by decide +kernel
theorem dX7_limit_37 : decode cX7_limit 37 = .ok (.ireturn, 1) := by decide +kernel
theorem dX7_limit_38 : decode cX7_limit 38 = .ok (.aload_n 0, 1) := by decide +kernel
theorem dX7_limit_39 : decode cX7_limit 39 = .ok (.getfield 18, 3) := by decide +kernel
theorem dX7_limit_42 : decode cX7_limit 42 = .ok (.ireturn, 1) := by decide +kernel
theorem dX7_limit_43 : decode cX7_limit 43 = .ok (.aload_n 0, 1) := by decide +kernel
theorem dX7_limit_44 : decode cX7_limit 44 = .ok (.getfield 21, 3) := by decide +kernel
theorem dX7_limit_47 : decode cX7_limit 47 = .ok (.ireturn, 1) := by decide +kernel
set_option maxHeartbeats 4000000 in
set_option maxRecDepth 100000 in
theorem kX7_limit {l : Launch} {D : va_G} {cy : Nat → ClassId} {N : Nat} {q : Nat → Nat} {m0 : Nat → Value} {a0 : Nat → vp_A} {sz : Nat} (hN : 105 ≤ N) {kr : Nat} (hkr : kr < N) (hgk : gk kr = 7) {xkr_0 : Int32} (h_xkr_0 : m0 (100 * kr + 0) = .int xkr_0) {xkr_1 : Int32} (h_xkr_1 : m0 (100 * kr + 1) = .int xkr_1) {xkr_2 : Int32} (h_xkr_2 : m0 (100 * kr + 2) = .int xkr_2) {xkr_3 : Int32} (h_xkr_3 : m0 (100 * kr + 3) = .int xkr_3) (p1 : Int32) : gMi l yX7_limit cX7_limit 2 (some .int) ({ frames := 0, cells := 0, slots := 0, locals := 0 } : Room) D cy N q m0 a0 sz [.ref (q kr), .int p1] (fun r m' a' => r = (fX7_limit xkr_0 xkr_1 xkr_2 xkr_3 p1) ∧ m' = m0 ∧ a' = a0) := by
  generalize hs0 : fX7_limit xkr_0 xkr_1 xkr_2 xkr_3 p1 = X0
  refine g_ofi (by decide) (Nat.le_of_ble_eq_true rfl) ?_
  intro p e s M args below meth c hx hb hr hG hown hin hlocks hml hW hS ls hl
  unfold fX7_limit at hs0
  refine lv_iload_n hx hb dX7_limit_0 rfl (lv_at hl 1 rfl) ?_
  by_cases c1 : p1 = 0
  · rw [if_pos c1] at hs0
    refine lv_tableIn (tgt := 28) hx hb dX7_limit_1 (by rw [c1]; decide) (by rw [c1]; decide) (by rw [c1]; rfl) (by decide) ?_
    refine lv_aload_n hx hb dX7_limit_28 rfl (lv_at hl 0 rfl) ?_
    refine gf7_0 hx hb hG hown hW (o := kr) hkr hgk (v := .int xkr_0) h_xkr_0 gx150 dX7_limit_29 ?_
    subst hs0
    exact W.zret hx hb hr rfl (fun t ht hw => ⟨⟨_, (m0, a0), rfl, ⟨rfl, rfl, rfl⟩, g_end hW ht hw⟩, hS.F ht⟩) hS.2.2 dX7_limit_32 hlocks
  · rw [if_neg c1] at hs0
    by_cases c2 : p1 = 1
    · rw [if_pos c2] at hs0
      refine lv_tableIn (tgt := 33) hx hb dX7_limit_1 (by rw [c2]; decide) (by rw [c2]; decide) (by rw [c2]; rfl) (by decide) ?_
      refine lv_aload_n hx hb dX7_limit_33 rfl (lv_at hl 0 rfl) ?_
      refine gf7_1 hx hb hG hown hW (o := kr) hkr hgk (v := .int xkr_1) h_xkr_1 gx151 dX7_limit_34 ?_
      subst hs0
      exact W.zret hx hb hr rfl (fun t ht hw => ⟨⟨_, (m0, a0), rfl, ⟨rfl, rfl, rfl⟩, g_end hW ht hw⟩, hS.F ht⟩) hS.2.2 dX7_limit_37 hlocks
    · rw [if_neg c2] at hs0
      by_cases c3 : p1 = 2
      · rw [if_pos c3] at hs0
        refine lv_tableIn (tgt := 38) hx hb dX7_limit_1 (by rw [c3]; decide) (by rw [c3]; decide) (by rw [c3]; rfl) (by decide) ?_
        refine lv_aload_n hx hb dX7_limit_38 rfl (lv_at hl 0 rfl) ?_
        refine gf7_2 hx hb hG hown hW (o := kr) hkr hgk (v := .int xkr_2) h_xkr_2 gx152 dX7_limit_39 ?_
        subst hs0
        exact W.zret hx hb hr rfl (fun t ht hw => ⟨⟨_, (m0, a0), rfl, ⟨rfl, rfl, rfl⟩, g_end hW ht hw⟩, hS.F ht⟩) hS.2.2 dX7_limit_42 hlocks
      · rw [if_neg c3] at hs0
        have n1 := ti_ne (n := 0) c1 (by decide)
        have n2 := ti_ne (n := 1) c2 (by decide)
        have n3 := ti_ne (n := 2) c3 (by decide)
        refine lv_tableOut (tgt := 43) hx hb dX7_limit_1 (by omega) (by decide) ?_
        refine lv_aload_n hx hb dX7_limit_43 rfl (lv_at hl 0 rfl) ?_
        refine gf7_3 hx hb hG hown hW (o := kr) hkr hgk (v := .int xkr_3) h_xkr_3 gx153 dX7_limit_44 ?_
        subst hs0
        exact W.zret hx hb hr rfl (fun t ht hw => ⟨⟨_, (m0, a0), rfl, ⟨rfl, rfl, rfl⟩, g_end hW ht hw⟩, hS.F ht⟩) hS.2.2 dX7_limit_47 hlocks
-- HealLink$Rules.atFirst ()J
def fX7_atFirst (xkr_1 : Int32) : Int64 := ((xkr_1 - 1).toInt64) <<< ((40 : Int32).toInt64 &&& 63)
theorem dX7_atFirst_0 : decode cX7_atFirst 0 = .ok (.aload_n 0, 1) := by decide +kernel
theorem dX7_atFirst_1 : decode cX7_atFirst 1 = .ok (.getfield 15, 3) := by decide +kernel
theorem dX7_atFirst_4 : decode cX7_atFirst 4 = .ok (.iconst 1, 1) := by decide +kernel
theorem dX7_atFirst_5 : decode cX7_atFirst 5 = .ok (.isub, 1) := by decide +kernel
theorem dX7_atFirst_6 : decode cX7_atFirst 6 = .ok (.i2l, 1) := by decide +kernel
theorem dX7_atFirst_7 : decode cX7_atFirst 7 = .ok (.bipush 40, 2) := by decide +kernel
theorem dX7_atFirst_9 : decode cX7_atFirst 9 = .ok (.lshl, 1) := by decide +kernel
theorem dX7_atFirst_10 : decode cX7_atFirst 10 = .ok (.lreturn, 1) := by decide +kernel
set_option maxHeartbeats 4000000 in
set_option maxRecDepth 100000 in
theorem kX7_atFirst {l : Launch} {D : va_G} {cy : Nat → ClassId} {N : Nat} {q : Nat → Nat} {m0 : Nat → Value} {a0 : Nat → vp_A} {sz : Nat} (hN : 105 ≤ N) {kr : Nat} (hkr : kr < N) (hgk : gk kr = 7) {xkr_1 : Int32} (h_xkr_1 : m0 (100 * kr + 1) = .int xkr_1) : gMl l yX7_atFirst cX7_atFirst 1 (some .long) ({ frames := 0, cells := 0, slots := 0, locals := 0 } : Room) D cy N q m0 a0 sz [.ref (q kr)] (fun r m' a' => r = (fX7_atFirst xkr_1) ∧ m' = m0 ∧ a' = a0) := by
  generalize hs0 : fX7_atFirst xkr_1 = X0
  refine g_ofl (by decide) (Nat.le_of_ble_eq_true rfl) ?_
  intro p e s M args below meth c hx hb hr hG hown hin hlocks hml hW hS ls hl
  unfold fX7_atFirst at hs0
  refine lv_aload_n hx hb dX7_atFirst_0 rfl (lv_at hl 0 rfl) ?_
  refine gf7_1 hx hb hG hown hW (o := kr) hkr hgk (v := .int xkr_1) h_xkr_1 gx151 dX7_atFirst_1 ?_
  refine lv_iconst (v := 1) hx hb dX7_atFirst_4 (by decide) ?_
  refine lv_isub hx hb dX7_atFirst_5 ?_
  refine lv_i2l hx hb dX7_atFirst_6 rfl ?_
  refine lv_bipush (v := 40) hx hb dX7_atFirst_7 (by decide) ?_
  refine lv_lshl hx hb dX7_atFirst_9 rfl ?_
  subst hs0
  exact W.lret hx hb hr (fun t ht hw => ⟨⟨_, (m0, a0), rfl, ⟨rfl, rfl, rfl⟩, g_end hW ht hw⟩, hS.F ht⟩) hS.2.2 dX7_atFirst_10 hlocks
-- HealLink$Rules.hasLabel (I)Z
def fX7_hasLabel (xkr_1 : Int32) (p1 : Int32) : Int32 := (if p1 < 0 then 0 else (if xkr_1 ≤ p1 then 0 else 1))
theorem dX7_hasLabel_0 : decode cX7_hasLabel 0 = .ok (.iload_n 1, 1) := by decide +kernel
theorem dX7_hasLabel_1 : decode cX7_hasLabel 1 = .ok (.ifCond .lt 15, 3) := by decide +kernel
theorem dX7_hasLabel_4 : decode cX7_hasLabel 4 = .ok (.iload_n 1, 1) := by decide +kernel
theorem dX7_hasLabel_5 : decode cX7_hasLabel 5 = .ok (.aload_n 0, 1) := by decide +kernel
theorem dX7_hasLabel_6 : decode cX7_hasLabel 6 = .ok (.getfield 15, 3) := by decide +kernel
theorem dX7_hasLabel_9 : decode cX7_hasLabel 9 = .ok (.if_icmp .ge 7, 3) := by decide +kernel
theorem dX7_hasLabel_12 : decode cX7_hasLabel 12 = .ok (.iconst 1, 1) := by decide +kernel
theorem dX7_hasLabel_13 : decode cX7_hasLabel 13 = .ok (.goto 4, 3) := by decide +kernel
theorem dX7_hasLabel_16 : decode cX7_hasLabel 16 = .ok (.iconst 0, 1) := by decide +kernel
theorem dX7_hasLabel_17 : decode cX7_hasLabel 17 = .ok (.ireturn, 1) := by decide +kernel
set_option maxHeartbeats 4000000 in
set_option maxRecDepth 100000 in
theorem kX7_hasLabel {l : Launch} {D : va_G} {cy : Nat → ClassId} {N : Nat} {q : Nat → Nat} {m0 : Nat → Value} {a0 : Nat → vp_A} {sz : Nat} (hN : 105 ≤ N) {kr : Nat} (hkr : kr < N) (hgk : gk kr = 7) {xkr_1 : Int32} (h_xkr_1 : m0 (100 * kr + 1) = .int xkr_1) (p1 : Int32) : gMi l yX7_hasLabel cX7_hasLabel 2 (some .boolean) ({ frames := 0, cells := 0, slots := 0, locals := 0 } : Room) D cy N q m0 a0 sz [.ref (q kr), .int p1] (fun r m' a' => r = (fX7_hasLabel xkr_1 p1) ∧ m' = m0 ∧ a' = a0) := by
  generalize hs0 : fX7_hasLabel xkr_1 p1 = X0
  refine g_ofi (by decide) (Nat.le_of_ble_eq_true rfl) ?_
  intro p e s M args below meth c hx hb hr hG hown hin hlocks hml hW hS ls hl
  unfold fX7_hasLabel at hs0
  refine lv_iload_n hx hb dX7_hasLabel_0 rfl (lv_at hl 1 rfl) ?_
  refine lv_if_lt (tgt := 16) hx hb dX7_hasLabel_1 (by decide) (fun c1 => ?_) (fun c1 => ?_)
  · rw [if_pos c1] at hs0
    refine lv_iconst (v := 0) hx hb dX7_hasLabel_16 (by decide) ?_
    subst hs0
    exact W.zret hx hb hr rfl (fun t ht hw => ⟨⟨_, (m0, a0), rfl, ⟨rfl, rfl, rfl⟩, g_end hW ht hw⟩, hS.F ht⟩) hS.2.2 dX7_hasLabel_17 hlocks
  · rw [if_neg c1] at hs0
    refine lv_iload_n hx hb dX7_hasLabel_4 rfl (lv_at hl 1 rfl) ?_
    refine lv_aload_n hx hb dX7_hasLabel_5 rfl (lv_at hl 0 rfl) ?_
    refine gf7_1 hx hb hG hown hW (o := kr) hkr hgk (v := .int xkr_1) h_xkr_1 gx151 dX7_hasLabel_6 ?_
    refine lv_icmp_ge (tgt := 16) hx hb dX7_hasLabel_9 (by decide) (fun c2 => ?_) (fun c2 => ?_)
    · rw [if_pos c2] at hs0
      refine lv_iconst (v := 0) hx hb dX7_hasLabel_16 (by decide) ?_
      subst hs0
      exact W.zret hx hb hr rfl (fun t ht hw => ⟨⟨_, (m0, a0), rfl, ⟨rfl, rfl, rfl⟩, g_end hW ht hw⟩, hS.F ht⟩) hS.2.2 dX7_hasLabel_17 hlocks
    · rw [if_neg c2] at hs0
      refine lv_iconst (v := 1) hx hb dX7_hasLabel_12 (by decide) ?_
      refine lv_goto (tgt := 17) hx hb dX7_hasLabel_13 (by decide) ?_
      subst hs0
      exact W.zret hx hb hr rfl (fun t ht hw => ⟨⟨_, (m0, a0), rfl, ⟨rfl, rfl, rfl⟩, g_end hW ht hw⟩, hS.F ht⟩) hS.2.2 dX7_hasLabel_17 hlocks
-- HealLink$Rules.hasKind (II)Z
def fX7_hasKind (xkr_1 : Int32) (p1 : Int32) (p2 : Int32) : Int32 := (if (fX7_hasLabel xkr_1 p1) = 0 then 0 else (if p2 = 0 then 1 else (if p2 = 1 then 1 else 0)))
theorem dX7_hasKind_0 : decode cX7_hasKind 0 = .ok (.aload_n 0, 1) := by decide +kernel
theorem dX7_hasKind_1 : decode cX7_hasKind 1 = .ok (.iload_n 1, 1) := by decide +kernel
theorem dX7_hasKind_2 : decode cX7_hasKind 2 = .ok (.invokevirtual 27, 3) := by decide +kernel
theorem dX7_hasKind_5 : decode cX7_hasKind 5 = .ok (.ifCond .eq 16, 3) := by decide +kernel
theorem dX7_hasKind_8 : decode cX7_hasKind 8 = .ok (.iload_n 2, 1) := by decide +kernel
theorem dX7_hasKind_9 : decode cX7_hasKind 9 = .ok (.ifCond .eq 8, 3) := by decide +kernel
theorem dX7_hasKind_12 : decode cX7_hasKind 12 = .ok (.iload_n 2, 1) := by decide +kernel
theorem dX7_hasKind_13 : decode cX7_hasKind 13 = .ok (.iconst 1, 1) := by decide +kernel
theorem dX7_hasKind_14 : decode cX7_hasKind 14 = .ok (.if_icmp .ne 7, 3) := by decide +kernel
theorem dX7_hasKind_17 : decode cX7_hasKind 17 = .ok (.iconst 1, 1) := by decide +kernel
theorem dX7_hasKind_18 : decode cX7_hasKind 18 = .ok (.goto 4, 3) := by decide +kernel
theorem dX7_hasKind_21 : decode cX7_hasKind 21 = .ok (.iconst 0, 1) := by decide +kernel
theorem dX7_hasKind_22 : decode cX7_hasKind 22 = .ok (.ireturn, 1) := by decide +kernel
set_option maxHeartbeats 4000000 in
set_option maxRecDepth 100000 in
theorem kX7_hasKind {l : Launch} {D : va_G} {cy : Nat → ClassId} {N : Nat} {q : Nat → Nat} {m0 : Nat → Value} {a0 : Nat → vp_A} {sz : Nat} (hN : 105 ≤ N) {kr : Nat} (hkr : kr < N) (hgk : gk kr = 7) {xkr_1 : Int32} (h_xkr_1 : m0 (100 * kr + 1) = .int xkr_1) (p1 : Int32) (p2 : Int32) : gMi l yX7_hasKind cX7_hasKind 3 (some .boolean) ({ frames := 1, cells := 0, slots := 0, locals := 21 } : Room) D cy N q m0 a0 sz [.ref (q kr), .int p1, .int p2] (fun r m' a' => r = (fX7_hasKind xkr_1 p1 p2) ∧ m' = m0 ∧ a' = a0) := by
  generalize hs0 : fX7_hasKind xkr_1 p1 p2 = X0
  refine g_ofi (by decide) (Nat.le_of_ble_eq_true rfl) ?_
  intro p e s M args below meth c hx hb hr hG hown hin hlocks hml hW hS ls hl
  unfold fX7_hasKind at hs0
  refine lv_aload_n hx hb dX7_hasKind_0 rfl (lv_at hl 0 rfl) ?_
  refine lv_iload_n hx hb dX7_hasKind_1 rfl (lv_at hl 1 rfl) ?_
  refine g_ViR (n := 1) hx hb hml hown hG hW hS [.int p1] (kX7_hasLabel hN hkr hgk h_xkr_1 p1) hkr hgk (by decide) rfl rfl (gd_V gx267 gx268 gx269 gx39 gx270) rfl rfl (by decide) ⟨Nat.le_of_ble_eq_true rfl, Nat.le_of_ble_eq_true rfl⟩ rfl hl (Nat.le_of_ble_eq_true rfl) ⟨Nat.zero_le _, Nat.zero_le _⟩ dX7_hasKind_2 (fun H locs hW hS => ?_)
  refine lv_if_eq (tgt := 21) hx hb dX7_hasKind_5 (by decide) (fun c2 => ?_) (fun c2 => ?_)
  · rw [if_pos c2] at hs0
    refine lv_iconst (v := 0) hx hb dX7_hasKind_21 (by decide) ?_
    subst hs0
    exact W.zret hx hb hr rfl (fun t ht hw => ⟨⟨_, (m0, a0), rfl, ⟨rfl, rfl, rfl⟩, g_end hW ht hw⟩, hS.F ht⟩) hS.2.2 dX7_hasKind_22 hlocks
  · rw [if_neg c2] at hs0
    refine lv_iload_n hx hb dX7_hasKind_8 rfl (lv_at hl 2 rfl) ?_
    refine lv_if_eq (tgt := 17) hx hb dX7_hasKind_9 (by decide) (fun c3 => ?_) (fun c3 => ?_)
    · rw [if_pos c3] at hs0
      refine lv_iconst (v := 1) hx hb dX7_hasKind_17 (by decide) ?_
      refine lv_goto (tgt := 22) hx hb dX7_hasKind_18 (by decide) ?_
      subst hs0
      exact W.zret hx hb hr rfl (fun t ht hw => ⟨⟨_, (m0, a0), rfl, ⟨rfl, rfl, rfl⟩, g_end hW ht hw⟩, hS.F ht⟩) hS.2.2 dX7_hasKind_22 hlocks
    · rw [if_neg c3] at hs0
      refine lv_iload_n hx hb dX7_hasKind_12 rfl (lv_at hl 2 rfl) ?_
      refine lv_iconst (v := 1) hx hb dX7_hasKind_13 (by decide) ?_
      refine lv_icmp_ne (tgt := 21) hx hb dX7_hasKind_14 (by decide) (fun c4 => ?_) (fun c4 => ?_)
      · rw [if_neg c4] at hs0
        refine lv_iconst (v := 0) hx hb dX7_hasKind_21 (by decide) ?_
        subst hs0
        exact W.zret hx hb hr rfl (fun t ht hw => ⟨⟨_, (m0, a0), rfl, ⟨rfl, rfl, rfl⟩, g_end hW ht hw⟩, hS.F ht⟩) hS.2.2 dX7_hasKind_22 hlocks
      · rw [if_pos c4] at hs0
        refine lv_iconst (v := 1) hx hb dX7_hasKind_17 (by decide) ?_
        refine lv_goto (tgt := 22) hx hb dX7_hasKind_18 (by decide) ?_
        subst hs0
        exact W.zret hx hb hr rfl (fun t ht hw => ⟨⟨_, (m0, a0), rfl, ⟨rfl, rfl, rfl⟩, g_end hW ht hw⟩, hS.F ht⟩) hS.2.2 dX7_hasKind_22 hlocks
-- HealLink$Rules.goesOnBy (JI)Z
def fX7_goesOnBy (xkr_2 : Int32) (p1 : Int64) (p3 : Int32) : Int32 := (if (fX7_labelOf p1) = p3 then (if ((fX7_acksOf p1) + 1) < xkr_2 then 0 else 1) else 0)
theorem dX7_goesOnBy_0 : decode cX7_goesOnBy 0 = .ok (.lload_n 1, 1) := by decide +kernel
theorem dX7_goesOnBy_1 : decode cX7_goesOnBy 1 = .ok (.invokestatic 57, 3) := by decide +kernel
theorem dX7_goesOnBy_4 : decode cX7_goesOnBy 4 = .ok (.iload_n 3, 1) := by decide +kernel
theorem dX7_goesOnBy_5 : decode cX7_goesOnBy 5 = .ok (.if_icmp .ne 20, 3) := by decide +kernel
theorem dX7_goesOnBy_8 : decode cX7_goesOnBy 8 = .ok (.lload_n 1, 1) := by decide +kernel
theorem dX7_goesOnBy_9 : decode cX7_goesOnBy 9 = .ok (.invokestatic 60, 3) := by decide +kernel
theorem dX7_goesOnBy_12 : decode cX7_goesOnBy 12 = .ok (.iconst 1, 1) := by decide +kernel
theorem dX7_goesOnBy_13 : decode cX7_goesOnBy 13 = .ok (.iadd, 1) := by decide +kernel
theorem dX7_goesOnBy_14 : decode cX7_goesOnBy 14 = .ok (.aload_n 0, 1) := by decide +kernel
theorem dX7_goesOnBy_15 : decode cX7_goesOnBy 15 = .ok (.getfield 18, 3) := by decide +kernel
theorem dX7_goesOnBy_18 : decode cX7_goesOnBy 18 = .ok (.if_icmp .lt 7, 3) := by decide +kernel
theorem dX7_goesOnBy_21 : decode cX7_goesOnBy 21 = .ok (.iconst 1, 1) := by decide +kernel
theorem dX7_goesOnBy_22 : decode cX7_goesOnBy 22 = .ok (.goto 4, 3) := by decide +kernel
theorem dX7_goesOnBy_25 : decode cX7_goesOnBy 25 = .ok (.iconst 0, 1) := by decide +kernel
theorem dX7_goesOnBy_26 : decode cX7_goesOnBy 26 = .ok (.ireturn, 1) := by decide +kernel
set_option maxHeartbeats 4000000 in
set_option maxRecDepth 100000 in
theorem kX7_goesOnBy {l : Launch} {D : va_G} {cy : Nat → ClassId} {N : Nat} {q : Nat → Nat} {m0 : Nat → Value} {a0 : Nat → vp_A} {sz : Nat} (hN : 105 ≤ N) {kr : Nat} (hkr : kr < N) (hgk : gk kr = 7) {xkr_2 : Int32} (h_xkr_2 : m0 (100 * kr + 2) = .int xkr_2) (p1 : Int64) (p3 : Int32) : gMi l yX7_goesOnBy cX7_goesOnBy 4 (some .boolean) ({ frames := 1, cells := 0, slots := 0, locals := 21 } : Room) D cy N q m0 a0 sz [.ref (q kr), .long p1, .int p3] (fun r m' a' => r = (fX7_goesOnBy xkr_2 p1 p3) ∧ m' = m0 ∧ a' = a0) := by
  generalize hs0 : fX7_goesOnBy xkr_2 p1 p3 = X0
  refine g_ofi (by decide) (Nat.le_of_ble_eq_true rfl) ?_
  intro p e s M args below meth c hx hb hr hG hown hin hlocks hml hW hS ls hl
  unfold fX7_goesOnBy at hs0
  refine lv_lload_n hx hb dX7_goesOnBy_0 rfl (lv_at hl 1 rfl) ?_
  refine g_SiR (n := 1) hx hb hml hown hG hW hS [.long p1] (kX7_labelOf hN p1) rfl (gd_S gx467 gx468 gx39 gx469) rfl rfl (by decide) ⟨Nat.le_of_ble_eq_true rfl, Nat.le_of_ble_eq_true rfl⟩ rfl hl (Nat.le_of_ble_eq_true rfl) ⟨Nat.zero_le _, Nat.zero_le _⟩ dX7_goesOnBy_1 (fun H locs hW hS => ?_)
  refine lv_iload_n hx hb dX7_goesOnBy_4 rfl (lv_at hl 2 rfl) ?_
  refine lv_icmp_ne (tgt := 25) hx hb dX7_goesOnBy_5 (by decide) (fun c2 => ?_) (fun c2 => ?_)
  · rw [if_neg c2] at hs0
    refine lv_iconst (v := 0) hx hb dX7_goesOnBy_25 (by decide) ?_
    subst hs0
    exact W.zret hx hb hr rfl (fun t ht hw => ⟨⟨_, (m0, a0), rfl, ⟨rfl, rfl, rfl⟩, g_end hW ht hw⟩, hS.F ht⟩) hS.2.2 dX7_goesOnBy_26 hlocks
  · rw [if_pos c2] at hs0
    refine lv_lload_n hx hb dX7_goesOnBy_8 rfl (lv_at hl 1 rfl) ?_
    refine g_SiR (n := 1) hx hb hml hown hG hW hS [.long p1] (kX7_acksOf hN p1) rfl (gd_S gx474 gx475 gx39 gx476) rfl rfl (by decide) ⟨Nat.le_of_ble_eq_true rfl, Nat.le_of_ble_eq_true rfl⟩ rfl hl (Nat.le_of_ble_eq_true rfl) ⟨Nat.zero_le _, Nat.zero_le _⟩ dX7_goesOnBy_9 (fun H locs hW hS => ?_)
    refine lv_iconst (v := 1) hx hb dX7_goesOnBy_12 (by decide) ?_
    refine lv_iadd hx hb dX7_goesOnBy_13 ?_
    refine lv_aload_n hx hb dX7_goesOnBy_14 rfl (lv_at hl 0 rfl) ?_
    refine gf7_2 hx hb hG hown hW (o := kr) hkr hgk (v := .int xkr_2) h_xkr_2 gx152 dX7_goesOnBy_15 ?_
    refine lv_icmp_lt (tgt := 25) hx hb dX7_goesOnBy_18 (by decide) (fun c4 => ?_) (fun c4 => ?_)
    · rw [if_pos c4] at hs0
      refine lv_iconst (v := 0) hx hb dX7_goesOnBy_25 (by decide) ?_
      subst hs0
      exact W.zret hx hb hr rfl (fun t ht hw => ⟨⟨_, (m0, a0), rfl, ⟨rfl, rfl, rfl⟩, g_end hW ht hw⟩, hS.F ht⟩) hS.2.2 dX7_goesOnBy_26 hlocks
    · rw [if_neg c4] at hs0
      refine lv_iconst (v := 1) hx hb dX7_goesOnBy_21 (by decide) ?_
      refine lv_goto (tgt := 26) hx hb dX7_goesOnBy_22 (by decide) ?_
      subst hs0
      exact W.zret hx hb hr rfl (fun t ht hw => ⟨⟨_, (m0, a0), rfl, ⟨rfl, rfl, rfl⟩, g_end hW ht hw⟩, hS.F ht⟩) hS.2.2 dX7_goesOnBy_26 hlocks
-- HealLink$Rules.offers (JIII)Z
def fX7_offers (xkr_1 : Int32) (p1 : Int64) (p3 : Int32) (p4 : Int32) (p5 : Int32) : Int32 := (if p3 = 0 then 1 else (if p3 = 1 then (if (fX7_hasKind xkr_1 p4 p5) = 0 then 0 else (if (fX7_digit p1 (fX7_packetsAt ((2 * p4) + p5))) ≤ 0 then 0 else 1)) else (if p3 = 2 then (if (fX7_hasLabel xkr_1 p4) = 0 then 0 else (if (fX7_digit p1 (fX7_lettersAt p4)) ≤ 0 then 0 else 1)) else (if p3 = 3 then (if (fX7_hasKind xkr_1 p4 p5) = 0 then 0 else (if (fX7_digit p1 (fX7_packetsAt ((2 * p4) + p5))) ≤ 0 then 0 else 1)) else (if p3 = 4 then (if (fX7_hasLabel xkr_1 p4) = 0 then 0 else (if (fX7_digit p1 (fX7_lettersAt p4)) ≤ 0 then 0 else 1)) else 0)))))
theorem dX7_offers_0 : decode cX7_offers 0 = .ok (.iload_n 3, 1) := by decide +kernel
theorem dX7_offers_1 : decode cX7_offers 1 = .ok (.tableswitch 98 0 4 #[35, 37, 71, 37, 71], 35) := by decide +kernel
theorem dX7_offers_36 : decode cX7_offers 36 = .ok (.iconst 1, 1) := by decide +kernel
theorem dX7_offers_37 : decode cX7_offers 37 = .ok (.ireturn, 1) := by decide +kernel
theorem dX7_offers_38 : decode cX7_offers 38 = .ok (.aload_n 0, 1) := by decide +kernel
theorem dX7_offers_39 : decode cX7_offers 39 = .ok (.iload 4, 2) := by decide +kernel
theorem dX7_offers_41 : decode cX7_offers 41 = .ok (.iload 5, 2) := by decide +kernel
theorem dX7_offers_43 : decode cX7_offers 43 = .ok (.invokevirtual 63, 3) := by decide +kernel
theorem dX7_offers_46 : decode cX7_offers 46 = .ok (.ifCond .eq 24, 3) := by decide +kernel
theorem dX7_offers_49 : decode cX7_offers 49 = .ok (.lload_n 1, 1) := by decide +kernel
theorem dX7_offers_50 : decode cX7_offers 50 = .ok (.iconst 2, 1) := by decide +kernel
theorem dX7_offers_51 : decode cX7_offers 51 = .ok (.iload 4, 2) := by decide +kernel
theorem dX7_offers_53 : decode cX7_offers 53 = .ok (.imul, 1) := by decide +kernel
theorem dX7_offers_54 : decode cX7_offers 54 = .ok (.iload 5, 2) := by decide +kernel
theorem dX7_offers_56 : decode cX7_offers 56 = .ok (.iadd, 1) := by decide +kernel
theorem dX7_offers_57 : decode cX7_offers 57 = .ok (.invokestatic 67, 3) := by decide +kernel
theorem dX7_offers_60 : decode cX7_offers 60 = .ok (.invokestatic 71, 3) := by decide +kernel
theorem dX7_offers_63 : decode cX7_offers 63 = .ok (.ifCond .le 7, 3) := by decide +kernel
theorem dX7_offers_66 : decode cX7_offers 66 = .ok (.iconst 1, 1) := by decide +kernel
theorem dX7_offers_67 : decode cX7_offers 67 = .ok (.goto 4, 3) := by decide +kernel
theorem dX7_offers_70 : decode cX7_offers 70 = .ok (.iconst 0, 1) := by decide +kernel
theorem dX7_offers_71 : decode cX7_offers 71 = .ok (.ireturn, 1) := by decide +kernel
theorem dX7_offers_72 : decode cX7_offers 72 = .ok (.aload_n 0, 1) := by decide +kernel
theorem dX7_offers_73 : decode cX7_offers 73 = .ok (.iload 4, 2) := by decide +kernel
theorem dX7_offers_75 : decode cX7_offers 75 = .ok (.invokevirtual 27, 3) := by decide +kernel
theorem dX7_offers_78 : decode cX7_offers 78 = .ok (.ifCond .eq 19, 3) := by decide +kernel
theorem dX7_offers_81 : decode cX7_offers 81 = .ok (.lload_n 1, 1) := by decide +kernel
theorem dX7_offers_82 : decode cX7_offers 82 = .ok (.iload 4, 2) := by decide +kernel
theorem dX7_offers_84 : decode cX7_offers 84 = .ok (.invokestatic 75, 3) := by decide +kernel
theorem dX7_offers_87 : decode cX7_offers 87 = .ok (.invokestatic 71, 3) := by decide +kernel
theorem dX7_offers_90 : decode cX7_offers 90 = .ok (.ifCond .le 7, 3) := by decide +kernel
theorem dX7_offers_93 : decode cX7_offers 93 = .ok (.iconst 1, 1) := by decide +kernel
theorem dX7_offers_94 : decode cX7_offers 94 = .ok (.goto 4, 3) := by decide +kernel
theorem dX7_offers_97 : decode cX7_offers 97 = .ok (.iconst 0, 1) := by decide +kernel
theorem dX7_offers_98 : decode cX7_offers 98 = .ok (.ireturn, 1) := by decide +kernel
theorem dX7_offers_99 : decode cX7_offers 99 = .ok (.iconst 0, 1) := by decide +kernel
theorem dX7_offers_100 : decode cX7_offers 100 = .ok (.ireturn, 1) := by decide +kernel
set_option maxHeartbeats 4000000 in
set_option maxRecDepth 100000 in
theorem kX7_offers {l : Launch} {D : va_G} {cy : Nat → ClassId} {N : Nat} {q : Nat → Nat} {m0 : Nat → Value} {a0 : Nat → vp_A} {sz : Nat} (hN : 105 ≤ N) {kr : Nat} (hkr : kr < N) (hgk : gk kr = 7) {xkr_1 : Int32} (h_xkr_1 : m0 (100 * kr + 1) = .int xkr_1) (p1 : Int64) (p3 : Int32) (p4 : Int32) (p5 : Int32) : gMi l yX7_offers cX7_offers 6 (some .boolean) ({ frames := 2, cells := 0, slots := 0, locals := 43 } : Room) D cy N q m0 a0 sz [.ref (q kr), .long p1, .int p3, .int p4, .int p5] (fun r m' a' => r = (fX7_offers xkr_1 p1 p3 p4 p5) ∧ m' = m0 ∧ a' = a0) := by
  generalize hs0 : fX7_offers xkr_1 p1 p3 p4 p5 = X0
  refine g_ofi (by decide) (Nat.le_of_ble_eq_true rfl) ?_
  intro p e s M args below meth c hx hb hr hG hown hin hlocks hml hW hS ls hl
  unfold fX7_offers at hs0
  refine lv_iload_n hx hb dX7_offers_0 rfl (lv_at hl 2 rfl) ?_
  by_cases c1 : p3 = 0
  · rw [if_pos c1] at hs0
    refine lv_tableIn (tgt := 36) hx hb dX7_offers_1 (by rw [c1]; decide) (by rw [c1]; decide) (by rw [c1]; rfl) (by decide) ?_
    refine lv_iconst (v := 1) hx hb dX7_offers_36 (by decide) ?_
    subst hs0
    exact W.zret hx hb hr rfl (fun t ht hw => ⟨⟨_, (m0, a0), rfl, ⟨rfl, rfl, rfl⟩, g_end hW ht hw⟩, hS.F ht⟩) hS.2.2 dX7_offers_37 hlocks
  · rw [if_neg c1] at hs0
    by_cases c2 : p3 = 1
    · rw [if_pos c2] at hs0
      refine lv_tableIn (tgt := 38) hx hb dX7_offers_1 (by rw [c2]; decide) (by rw [c2]; decide) (by rw [c2]; rfl) (by decide) ?_
      refine lv_aload_n hx hb dX7_offers_38 rfl (lv_at hl 0 rfl) ?_
      refine lv_iload hx hb dX7_offers_39 (lv_at hl 3 rfl) ?_
      refine lv_iload hx hb dX7_offers_41 (lv_at hl 4 rfl) ?_
      refine g_ViR (n := 2) hx hb hml hown hG hW hS [.int p4, .int p5] (kX7_hasKind hN hkr hgk h_xkr_1 p4 p5) hkr hgk (by decide) rfl rfl (gd_V gx402 gx264 gx265 gx39 gx266) rfl rfl (by decide) ⟨Nat.le_of_ble_eq_true rfl, Nat.le_of_ble_eq_true rfl⟩ rfl hl (Nat.le_of_ble_eq_true rfl) ⟨Nat.zero_le _, Nat.zero_le _⟩ dX7_offers_43 (fun H locs hW hS => ?_)
      refine lv_if_eq (tgt := 70) hx hb dX7_offers_46 (by decide) (fun c4 => ?_) (fun c4 => ?_)
      · rw [if_pos c4] at hs0
        refine lv_iconst (v := 0) hx hb dX7_offers_70 (by decide) ?_
        subst hs0
        exact W.zret hx hb hr rfl (fun t ht hw => ⟨⟨_, (m0, a0), rfl, ⟨rfl, rfl, rfl⟩, g_end hW ht hw⟩, hS.F ht⟩) hS.2.2 dX7_offers_71 hlocks
      · rw [if_neg c4] at hs0
        refine lv_lload_n hx hb dX7_offers_49 rfl (lv_at hl 1 rfl) ?_
        refine lv_iconst (v := 2) hx hb dX7_offers_50 (by decide) ?_
        refine lv_iload hx hb dX7_offers_51 (lv_at hl 3 rfl) ?_
        refine lv_imul hx hb dX7_offers_53 ?_
        refine lv_iload hx hb dX7_offers_54 (lv_at hl 4 rfl) ?_
        refine lv_iadd hx hb dX7_offers_56 ?_
        refine g_SiR (n := 1) hx hb hml hown hG hW hS [.int ((2 * p4) + p5)] (kX7_packetsAt hN ((2 * p4) + p5)) rfl (gd_S gx403 gx340 gx39 gx341) rfl rfl (by decide) ⟨Nat.le_of_ble_eq_true rfl, Nat.le_of_ble_eq_true rfl⟩ rfl hl (Nat.le_of_ble_eq_true rfl) ⟨Nat.zero_le _, Nat.zero_le _⟩ dX7_offers_57 (fun H locs hW hS => ?_)
        refine g_SiR (n := 2) hx hb hml hown hG hW hS [.long p1, .int (fX7_packetsAt ((2 * p4) + p5))] (kX7_digit hN p1 (fX7_packetsAt ((2 * p4) + p5))) rfl (gd_S gx404 gx320 gx39 gx321) rfl rfl (by decide) ⟨Nat.le_of_ble_eq_true rfl, Nat.le_of_ble_eq_true rfl⟩ rfl hl (Nat.le_of_ble_eq_true rfl) ⟨Nat.zero_le _, Nat.zero_le _⟩ dX7_offers_60 (fun H locs hW hS => ?_)
        refine lv_if_le (tgt := 70) hx hb dX7_offers_63 (by decide) (fun c7 => ?_) (fun c7 => ?_)
        · rw [if_pos c7] at hs0
          refine lv_iconst (v := 0) hx hb dX7_offers_70 (by decide) ?_
          subst hs0
          exact W.zret hx hb hr rfl (fun t ht hw => ⟨⟨_, (m0, a0), rfl, ⟨rfl, rfl, rfl⟩, g_end hW ht hw⟩, hS.F ht⟩) hS.2.2 dX7_offers_71 hlocks
        · rw [if_neg c7] at hs0
          refine lv_iconst (v := 1) hx hb dX7_offers_66 (by decide) ?_
          refine lv_goto (tgt := 71) hx hb dX7_offers_67 (by decide) ?_
          subst hs0
          exact W.zret hx hb hr rfl (fun t ht hw => ⟨⟨_, (m0, a0), rfl, ⟨rfl, rfl, rfl⟩, g_end hW ht hw⟩, hS.F ht⟩) hS.2.2 dX7_offers_71 hlocks
    · rw [if_neg c2] at hs0
      by_cases c8 : p3 = 2
      · rw [if_pos c8] at hs0
        refine lv_tableIn (tgt := 72) hx hb dX7_offers_1 (by rw [c8]; decide) (by rw [c8]; decide) (by rw [c8]; rfl) (by decide) ?_
        refine lv_aload_n hx hb dX7_offers_72 rfl (lv_at hl 0 rfl) ?_
        refine lv_iload hx hb dX7_offers_73 (lv_at hl 3 rfl) ?_
        refine g_ViR (n := 1) hx hb hml hown hG hW hS [.int p4] (kX7_hasLabel hN hkr hgk h_xkr_1 p4) hkr hgk (by decide) rfl rfl (gd_V gx267 gx268 gx269 gx39 gx270) rfl rfl (by decide) ⟨Nat.le_of_ble_eq_true rfl, Nat.le_of_ble_eq_true rfl⟩ rfl hl (Nat.le_of_ble_eq_true rfl) ⟨Nat.zero_le _, Nat.zero_le _⟩ dX7_offers_75 (fun H locs hW hS => ?_)
        refine lv_if_eq (tgt := 97) hx hb dX7_offers_78 (by decide) (fun c10 => ?_) (fun c10 => ?_)
        · rw [if_pos c10] at hs0
          refine lv_iconst (v := 0) hx hb dX7_offers_97 (by decide) ?_
          subst hs0
          exact W.zret hx hb hr rfl (fun t ht hw => ⟨⟨_, (m0, a0), rfl, ⟨rfl, rfl, rfl⟩, g_end hW ht hw⟩, hS.F ht⟩) hS.2.2 dX7_offers_98 hlocks
        · rw [if_neg c10] at hs0
          refine lv_lload_n hx hb dX7_offers_81 rfl (lv_at hl 1 rfl) ?_
          refine lv_iload hx hb dX7_offers_82 (lv_at hl 3 rfl) ?_
          refine g_SiR (n := 1) hx hb hml hown hG hW hS [.int p4] (kX7_lettersAt hN p4) rfl (gd_S gx405 gx369 gx39 gx370) rfl rfl (by decide) ⟨Nat.le_of_ble_eq_true rfl, Nat.le_of_ble_eq_true rfl⟩ rfl hl (Nat.le_of_ble_eq_true rfl) ⟨Nat.zero_le _, Nat.zero_le _⟩ dX7_offers_84 (fun H locs hW hS => ?_)
          refine g_SiR (n := 2) hx hb hml hown hG hW hS [.long p1, .int (fX7_lettersAt p4)] (kX7_digit hN p1 (fX7_lettersAt p4)) rfl (gd_S gx404 gx320 gx39 gx321) rfl rfl (by decide) ⟨Nat.le_of_ble_eq_true rfl, Nat.le_of_ble_eq_true rfl⟩ rfl hl (Nat.le_of_ble_eq_true rfl) ⟨Nat.zero_le _, Nat.zero_le _⟩ dX7_offers_87 (fun H locs hW hS => ?_)
          refine lv_if_le (tgt := 97) hx hb dX7_offers_90 (by decide) (fun c13 => ?_) (fun c13 => ?_)
          · rw [if_pos c13] at hs0
            refine lv_iconst (v := 0) hx hb dX7_offers_97 (by decide) ?_
            subst hs0
            exact W.zret hx hb hr rfl (fun t ht hw => ⟨⟨_, (m0, a0), rfl, ⟨rfl, rfl, rfl⟩, g_end hW ht hw⟩, hS.F ht⟩) hS.2.2 dX7_offers_98 hlocks
          · rw [if_neg c13] at hs0
            refine lv_iconst (v := 1) hx hb dX7_offers_93 (by decide) ?_
            refine lv_goto (tgt := 98) hx hb dX7_offers_94 (by decide) ?_
            subst hs0
            exact W.zret hx hb hr rfl (fun t ht hw => ⟨⟨_, (m0, a0), rfl, ⟨rfl, rfl, rfl⟩, g_end hW ht hw⟩, hS.F ht⟩) hS.2.2 dX7_offers_98 hlocks
      · rw [if_neg c8] at hs0
        by_cases c14 : p3 = 3
        · rw [if_pos c14] at hs0
          refine lv_tableIn (tgt := 38) hx hb dX7_offers_1 (by rw [c14]; decide) (by rw [c14]; decide) (by rw [c14]; rfl) (by decide) ?_
          refine lv_aload_n hx hb dX7_offers_38 rfl (lv_at hl 0 rfl) ?_
          refine lv_iload hx hb dX7_offers_39 (lv_at hl 3 rfl) ?_
          refine lv_iload hx hb dX7_offers_41 (lv_at hl 4 rfl) ?_
          refine g_ViR (n := 2) hx hb hml hown hG hW hS [.int p4, .int p5] (kX7_hasKind hN hkr hgk h_xkr_1 p4 p5) hkr hgk (by decide) rfl rfl (gd_V gx402 gx264 gx265 gx39 gx266) rfl rfl (by decide) ⟨Nat.le_of_ble_eq_true rfl, Nat.le_of_ble_eq_true rfl⟩ rfl hl (Nat.le_of_ble_eq_true rfl) ⟨Nat.zero_le _, Nat.zero_le _⟩ dX7_offers_43 (fun H locs hW hS => ?_)
          refine lv_if_eq (tgt := 70) hx hb dX7_offers_46 (by decide) (fun c16 => ?_) (fun c16 => ?_)
          · rw [if_pos c16] at hs0
            refine lv_iconst (v := 0) hx hb dX7_offers_70 (by decide) ?_
            subst hs0
            exact W.zret hx hb hr rfl (fun t ht hw => ⟨⟨_, (m0, a0), rfl, ⟨rfl, rfl, rfl⟩, g_end hW ht hw⟩, hS.F ht⟩) hS.2.2 dX7_offers_71 hlocks
          · rw [if_neg c16] at hs0
            refine lv_lload_n hx hb dX7_offers_49 rfl (lv_at hl 1 rfl) ?_
            refine lv_iconst (v := 2) hx hb dX7_offers_50 (by decide) ?_
            refine lv_iload hx hb dX7_offers_51 (lv_at hl 3 rfl) ?_
            refine lv_imul hx hb dX7_offers_53 ?_
            refine lv_iload hx hb dX7_offers_54 (lv_at hl 4 rfl) ?_
            refine lv_iadd hx hb dX7_offers_56 ?_
            refine g_SiR (n := 1) hx hb hml hown hG hW hS [.int ((2 * p4) + p5)] (kX7_packetsAt hN ((2 * p4) + p5)) rfl (gd_S gx403 gx340 gx39 gx341) rfl rfl (by decide) ⟨Nat.le_of_ble_eq_true rfl, Nat.le_of_ble_eq_true rfl⟩ rfl hl (Nat.le_of_ble_eq_true rfl) ⟨Nat.zero_le _, Nat.zero_le _⟩ dX7_offers_57 (fun H locs hW hS => ?_)
            refine g_SiR (n := 2) hx hb hml hown hG hW hS [.long p1, .int (fX7_packetsAt ((2 * p4) + p5))] (kX7_digit hN p1 (fX7_packetsAt ((2 * p4) + p5))) rfl (gd_S gx404 gx320 gx39 gx321) rfl rfl (by decide) ⟨Nat.le_of_ble_eq_true rfl, Nat.le_of_ble_eq_true rfl⟩ rfl hl (Nat.le_of_ble_eq_true rfl) ⟨Nat.zero_le _, Nat.zero_le _⟩ dX7_offers_60 (fun H locs hW hS => ?_)
            refine lv_if_le (tgt := 70) hx hb dX7_offers_63 (by decide) (fun c19 => ?_) (fun c19 => ?_)
            · rw [if_pos c19] at hs0
              refine lv_iconst (v := 0) hx hb dX7_offers_70 (by decide) ?_
              subst hs0
              exact W.zret hx hb hr rfl (fun t ht hw => ⟨⟨_, (m0, a0), rfl, ⟨rfl, rfl, rfl⟩, g_end hW ht hw⟩, hS.F ht⟩) hS.2.2 dX7_offers_71 hlocks
            · rw [if_neg c19] at hs0
              refine lv_iconst (v := 1) hx hb dX7_offers_66 (by decide) ?_
              refine lv_goto (tgt := 71) hx hb dX7_offers_67 (by decide) ?_
              subst hs0
              exact W.zret hx hb hr rfl (fun t ht hw => ⟨⟨_, (m0, a0), rfl, ⟨rfl, rfl, rfl⟩, g_end hW ht hw⟩, hS.F ht⟩) hS.2.2 dX7_offers_71 hlocks
        · rw [if_neg c14] at hs0
          by_cases c20 : p3 = 4
          · rw [if_pos c20] at hs0
            refine lv_tableIn (tgt := 72) hx hb dX7_offers_1 (by rw [c20]; decide) (by rw [c20]; decide) (by rw [c20]; rfl) (by decide) ?_
            refine lv_aload_n hx hb dX7_offers_72 rfl (lv_at hl 0 rfl) ?_
            refine lv_iload hx hb dX7_offers_73 (lv_at hl 3 rfl) ?_
            refine g_ViR (n := 1) hx hb hml hown hG hW hS [.int p4] (kX7_hasLabel hN hkr hgk h_xkr_1 p4) hkr hgk (by decide) rfl rfl (gd_V gx267 gx268 gx269 gx39 gx270) rfl rfl (by decide) ⟨Nat.le_of_ble_eq_true rfl, Nat.le_of_ble_eq_true rfl⟩ rfl hl (Nat.le_of_ble_eq_true rfl) ⟨Nat.zero_le _, Nat.zero_le _⟩ dX7_offers_75 (fun H locs hW hS => ?_)
            refine lv_if_eq (tgt := 97) hx hb dX7_offers_78 (by decide) (fun c22 => ?_) (fun c22 => ?_)
            · rw [if_pos c22] at hs0
              refine lv_iconst (v := 0) hx hb dX7_offers_97 (by decide) ?_
              subst hs0
              exact W.zret hx hb hr rfl (fun t ht hw => ⟨⟨_, (m0, a0), rfl, ⟨rfl, rfl, rfl⟩, g_end hW ht hw⟩, hS.F ht⟩) hS.2.2 dX7_offers_98 hlocks
            · rw [if_neg c22] at hs0
              refine lv_lload_n hx hb dX7_offers_81 rfl (lv_at hl 1 rfl) ?_
              refine lv_iload hx hb dX7_offers_82 (lv_at hl 3 rfl) ?_
              refine g_SiR (n := 1) hx hb hml hown hG hW hS [.int p4] (kX7_lettersAt hN p4) rfl (gd_S gx405 gx369 gx39 gx370) rfl rfl (by decide) ⟨Nat.le_of_ble_eq_true rfl, Nat.le_of_ble_eq_true rfl⟩ rfl hl (Nat.le_of_ble_eq_true rfl) ⟨Nat.zero_le _, Nat.zero_le _⟩ dX7_offers_84 (fun H locs hW hS => ?_)
              refine g_SiR (n := 2) hx hb hml hown hG hW hS [.long p1, .int (fX7_lettersAt p4)] (kX7_digit hN p1 (fX7_lettersAt p4)) rfl (gd_S gx404 gx320 gx39 gx321) rfl rfl (by decide) ⟨Nat.le_of_ble_eq_true rfl, Nat.le_of_ble_eq_true rfl⟩ rfl hl (Nat.le_of_ble_eq_true rfl) ⟨Nat.zero_le _, Nat.zero_le _⟩ dX7_offers_87 (fun H locs hW hS => ?_)
              refine lv_if_le (tgt := 97) hx hb dX7_offers_90 (by decide) (fun c25 => ?_) (fun c25 => ?_)
              · rw [if_pos c25] at hs0
                refine lv_iconst (v := 0) hx hb dX7_offers_97 (by decide) ?_
                subst hs0
                exact W.zret hx hb hr rfl (fun t ht hw => ⟨⟨_, (m0, a0), rfl, ⟨rfl, rfl, rfl⟩, g_end hW ht hw⟩, hS.F ht⟩) hS.2.2 dX7_offers_98 hlocks
              · rw [if_neg c25] at hs0
                refine lv_iconst (v := 1) hx hb dX7_offers_93 (by decide) ?_
                refine lv_goto (tgt := 98) hx hb dX7_offers_94 (by decide) ?_
                subst hs0
                exact W.zret hx hb hr rfl (fun t ht hw => ⟨⟨_, (m0, a0), rfl, ⟨rfl, rfl, rfl⟩, g_end hW ht hw⟩, hS.F ht⟩) hS.2.2 dX7_offers_98 hlocks
          · rw [if_neg c20] at hs0
            have n1 := ti_ne (n := 0) c1 (by decide)
            have n2 := ti_ne (n := 1) c2 (by decide)
            have n8 := ti_ne (n := 2) c8 (by decide)
            have n14 := ti_ne (n := 3) c14 (by decide)
            have n20 := ti_ne (n := 4) c20 (by decide)
            refine lv_tableOut (tgt := 99) hx hb dX7_offers_1 (by omega) (by decide) ?_
            refine lv_iconst (v := 0) hx hb dX7_offers_99 (by decide) ?_
            subst hs0
            exact W.zret hx hb hr rfl (fun t ht hw => ⟨⟨_, (m0, a0), rfl, ⟨rfl, rfl, rfl⟩, g_end hW ht hw⟩, hS.F ht⟩) hS.2.2 dX7_offers_100 hlocks
-- HealLink$Rules.firstPacket (J)I
def fX7_firstPacket_S2 (F : Nat) (xkr_1 : Int32) (v1 : Int64) (v3 : Int32) : Option (((Int32) ⊕ (Unit)) ⊕ (Int32)) := (if (2 * xkr_1) ≤ v3 then some (Sum.inl (Sum.inr (()))) else (if (fX7_digit v1 (fX7_packetsAt v3)) ≤ 0 then some (Sum.inr (v3 + 1)) else some (Sum.inl (Sum.inl v3))))
def fX7_firstPacket (F : Nat) (xkr_1 : Int32) (p1 : Int64) : Option (Int32) := (gloop (fun u1 : Int32 => fX7_firstPacket_S2 F xkr_1 p1 u1) F 0).bind (Sum.elim (fun t1_23 => some t1_23) (fun t1_31 => some (-1)))
theorem dX7_firstPacket_0 : decode cX7_firstPacket 0 = .ok (.iconst 0, 1) := by decide +kernel
theorem dX7_firstPacket_1 : decode cX7_firstPacket 1 = .ok (.istore_n 3, 1) := by decide +kernel
theorem dX7_firstPacket_2 : decode cX7_firstPacket 2 = .ok (.iload_n 3, 1) := by decide +kernel
theorem dX7_firstPacket_3 : decode cX7_firstPacket 3 = .ok (.iconst 2, 1) := by decide +kernel
theorem dX7_firstPacket_4 : decode cX7_firstPacket 4 = .ok (.aload_n 0, 1) := by decide +kernel
theorem dX7_firstPacket_5 : decode cX7_firstPacket 5 = .ok (.getfield 15, 3) := by decide +kernel
theorem dX7_firstPacket_8 : decode cX7_firstPacket 8 = .ok (.imul, 1) := by decide +kernel
theorem dX7_firstPacket_9 : decode cX7_firstPacket 9 = .ok (.if_icmp .ge 22, 3) := by decide +kernel
theorem dX7_firstPacket_12 : decode cX7_firstPacket 12 = .ok (.lload_n 1, 1) := by decide +kernel
theorem dX7_firstPacket_13 : decode cX7_firstPacket 13 = .ok (.iload_n 3, 1) := by decide +kernel
theorem dX7_firstPacket_14 : decode cX7_firstPacket 14 = .ok (.invokestatic 67, 3) := by decide +kernel
theorem dX7_firstPacket_17 : decode cX7_firstPacket 17 = .ok (.invokestatic 71, 3) := by decide +kernel
theorem dX7_firstPacket_20 : decode cX7_firstPacket 20 = .ok (.ifCond .le 5, 3) := by decide +kernel
theorem dX7_firstPacket_23 : decode cX7_firstPacket 23 = .ok (.iload_n 3, 1) := by decide +kernel
theorem dX7_firstPacket_24 : decode cX7_firstPacket 24 = .ok (.ireturn, 1) := by decide +kernel
theorem dX7_firstPacket_25 : decode cX7_firstPacket 25 = .ok (.iinc 3 1, 3) := by decide +kernel
theorem dX7_firstPacket_28 : decode cX7_firstPacket 28 = .ok (.goto (-26), 3) := by decide +kernel
theorem dX7_firstPacket_31 : decode cX7_firstPacket 31 = .ok (.iconst (-1), 1) := by decide +kernel
theorem dX7_firstPacket_32 : decode cX7_firstPacket 32 = .ok (.ireturn, 1) := by decide +kernel
set_option maxHeartbeats 4000000 in
set_option maxRecDepth 100000 in
theorem kX7_firstPacket {l : Launch} {D : va_G} {cy : Nat → ClassId} {N : Nat} {q : Nat → Nat} {m0 : Nat → Value} {a0 : Nat → vp_A} {sz : Nat} (hN : 105 ≤ N) {kr : Nat} (hkr : kr < N) (hgk : gk kr = 7) {xkr_1 : Int32} (h_xkr_1 : m0 (100 * kr + 1) = .int xkr_1) (F : Nat) (p1 : Int64) {X0 : Int32} (hs0 : fX7_firstPacket F xkr_1 p1 = some X0) : gMi l yX7_firstPacket cX7_firstPacket 4 (some .int) ({ frames := 1, cells := 0, slots := 0, locals := 22 } : Room) D cy N q m0 a0 sz [.ref (q kr), .long p1] (fun r m' a' => r = X0 ∧ m' = m0 ∧ a' = a0) := by
  refine g_ofi (by decide) (Nat.le_of_ble_eq_true rfl) ?_
  intro p e s M args below meth c hx hb hr hG hown hin hlocks hml hW hS ls hl
  unfold fX7_firstPacket at hs0
  refine lv_iconst (v := 0) hx hb dX7_firstPacket_0 (by decide) ?_
  refine lv_istore_n (lv' := [(3, .int 0), (0, .ref (q kr)), (1, .long p1)]) hx hb dX7_firstPacket_1 rfl hl (by decide) rfl (fun ls hl => ?_)
  obtain ⟨r1, hg1, hs0⟩ := obind hs0
  have hE1_23 : ∀ (t1_23 : Int32) (hr1 : Sum.inl t1_23 = r1) (H : Heap) (locs : List Loc) (ls : Array Slot) (hl : lv_has ls 4 [(3, .int t1_23)]) (hW : GW D cy (gA N q s.heap.size) N q m0 a0 s H) (hS : va_S (gA N q s.heap.size) s.heap H locs), W p l e ({ frames := 1, cells := 0, slots := 0, locals := 22 } : Room) s M args below meth c H locs 0 0 (MQ below (va_Qi (fun (r : Int32) (u : (Nat → Value) × (Nat → vp_A)) => r = X0 ∧ u.1 = m0 ∧ u.2 = a0) (gB D cy N q s.heap.size) (gA N q s.heap.size)) args s 0 0 (gA N q s.heap.size)) (F0 M 23 ls []) := by
    intro t1_23 hr1 H locs ls hl hW hS
    subst hr1
    have hs0 := osum_l hs0
    refine lv_iload_n hx hb dX7_firstPacket_23 rfl (lv_at hl 0 rfl) ?_
    have hs0 := Option.some.inj hs0
    subst hs0
    exact W.zret hx hb hr rfl (fun t ht hw => ⟨⟨_, (m0, a0), rfl, ⟨rfl, rfl, rfl⟩, g_end hW ht hw⟩, hS.F ht⟩) hS.2.2 dX7_firstPacket_24 hlocks
  have hE1_31 : ∀ (t1_31 : Unit) (hr1 : Sum.inr (t1_31) = r1) (H : Heap) (locs : List Loc) (ls : Array Slot) (hl : lv_has ls 4 []) (hW : GW D cy (gA N q s.heap.size) N q m0 a0 s H) (hS : va_S (gA N q s.heap.size) s.heap H locs), W p l e ({ frames := 1, cells := 0, slots := 0, locals := 22 } : Room) s M args below meth c H locs 0 0 (MQ below (va_Qi (fun (r : Int32) (u : (Nat → Value) × (Nat → vp_A)) => r = X0 ∧ u.1 = m0 ∧ u.2 = a0) (gB D cy N q s.heap.size) (gA N q s.heap.size)) args s 0 0 (gA N q s.heap.size)) (F0 M 31 ls []) := by
    intro t1_31 hr1 H locs ls hl hW hS
    subst hr1
    have hs0 := osum_r hs0
    refine lv_iconst (v := (-1)) hx hb dX7_firstPacket_31 (by decide) ?_
    have hs0 := Option.some.inj hs0
    subst hs0
    exact W.zret hx hb hr rfl (fun t ht hw => ⟨⟨_, (m0, a0), rfl, ⟨rfl, rfl, rfl⟩, g_end hW ht hw⟩, hS.F ht⟩) hS.2.2 dX7_firstPacket_32 hlocks
  have hL1 : ∀ (n : Nat) (v3k1 : Int32) (H : Heap) (locs : List Loc) (ls : Array Slot) (hl : lv_has ls 4 [(0, .ref (q kr)), (1, .long p1), (3, .int v3k1)]) (hg1 : gloop (fun u1 : Int32 => fX7_firstPacket_S2 F xkr_1 p1 u1) n v3k1 = some r1) (hW : GW D cy (gA N q s.heap.size) N q m0 a0 s H) (hS : va_S (gA N q s.heap.size) s.heap H locs), W p l e ({ frames := 1, cells := 0, slots := 0, locals := 22 } : Room) s M args below meth c H locs 0 0 (MQ below (va_Qi (fun (r : Int32) (u : (Nat → Value) × (Nat → vp_A)) => r = X0 ∧ u.1 = m0 ∧ u.2 = a0) (gB D cy N q s.heap.size) (gA N q s.heap.size)) args s 0 0 (gA N q s.heap.size)) (F0 M 2 ls []) := by
    intro n
    induction n with
    | zero => intro v3k1 H locs ls hl hg1 hW hS; exact (gl_zero hg1).elim
    | succ n ih1 =>
      intro v3k1 H locs ls hl hg1 hW hS
      obtain ⟨X1, hs1, hXl1, hXr1⟩ := gl_succ hg1
      have hs1 : fX7_firstPacket_S2 F xkr_1 p1 v3k1 = some X1 := hs1
      unfold fX7_firstPacket_S2 at hs1
      refine lv_iload_n hx hb dX7_firstPacket_2 rfl (lv_at hl 2 rfl) ?_
      refine lv_iconst (v := 2) hx hb dX7_firstPacket_3 (by decide) ?_
      refine lv_aload_n hx hb dX7_firstPacket_4 rfl (lv_at hl 0 rfl) ?_
      refine gf7_1 hx hb hG hown hW (o := kr) hkr hgk (v := .int xkr_1) h_xkr_1 gx151 dX7_firstPacket_5 ?_
      refine lv_imul hx hb dX7_firstPacket_8 ?_
      refine lv_icmp_ge (tgt := 31) hx hb dX7_firstPacket_9 (by decide) (fun c6 => ?_) (fun c6 => ?_)
      · rw [if_pos c6] at hs1
        exact hE1_31 () (hXl1 _ (Option.some.inj hs1).symm) _ _ ls (lv_sub hl [] rfl) hW hS
      · rw [if_neg c6] at hs1
        refine lv_lload_n hx hb dX7_firstPacket_12 rfl (lv_at hl 1 rfl) ?_
        refine lv_iload_n hx hb dX7_firstPacket_13 rfl (lv_at hl 2 rfl) ?_
        refine g_SiR (n := 1) hx hb hml hown hG hW hS [.int v3k1] (kX7_packetsAt hN v3k1) rfl (gd_S gx403 gx340 gx39 gx341) rfl rfl (by decide) ⟨Nat.le_of_ble_eq_true rfl, Nat.le_of_ble_eq_true rfl⟩ rfl hl (Nat.le_of_ble_eq_true rfl) ⟨Nat.zero_le _, Nat.zero_le _⟩ dX7_firstPacket_14 (fun H locs hW hS => ?_)
        refine g_SiR (n := 2) hx hb hml hown hG hW hS [.long p1, .int (fX7_packetsAt v3k1)] (kX7_digit hN p1 (fX7_packetsAt v3k1)) rfl (gd_S gx404 gx320 gx39 gx321) rfl rfl (by decide) ⟨Nat.le_of_ble_eq_true rfl, Nat.le_of_ble_eq_true rfl⟩ rfl hl (Nat.le_of_ble_eq_true rfl) ⟨Nat.zero_le _, Nat.zero_le _⟩ dX7_firstPacket_17 (fun H locs hW hS => ?_)
        refine lv_if_le (tgt := 25) hx hb dX7_firstPacket_20 (by decide) (fun c9 => ?_) (fun c9 => ?_)
        · rw [if_pos c9] at hs1
          refine lv_iinc (v := v3k1 + 1) (lv' := [(3, .int (v3k1 + 1)), (0, .ref (q kr)), (1, .long p1)]) hx hb dX7_firstPacket_25 hl (k := 2) rfl rfl (by decide) rfl (fun ls hl => ?_)
          refine lv_goto (tgt := 2) hx hb dX7_firstPacket_28 (by decide) ?_
          exact ih1 (v3k1 + 1) _ _ ls (lv_sub hl [1, 2, 0] rfl) (hXr1 _ (Option.some.inj hs1).symm) hW hS
        · rw [if_neg c9] at hs1
          exact hE1_23 v3k1 (hXl1 _ (Option.some.inj hs1).symm) _ _ ls (lv_sub hl [2] rfl) hW hS
  exact hL1 F 0 _ _ ls (lv_sub hl [1, 2, 0] rfl) hg1 hW hS
-- HealLink$Rules.afterSend (J)J
def fX7_afterSend (xkr_0 : Int32) (p1 : Int64) : Int64 := (if (fX7_packetsIn p1) < xkr_0 then p1 + ((1 : Int64) <<< ((fX7_packetsAt ((((p1.toUInt64 >>> ((46 : Int32).toInt64.toUInt64 &&& Int64.toUInt64 63)).toInt64).toInt32) &&& (7 : Int32))).toInt64 &&& 63)) else p1 ||| (72057594037927936 : Int64))
theorem dX7_afterSend_0 : decode cX7_afterSend 0 = .ok (.lload_n 1, 1) := by decide +kernel
theorem dX7_afterSend_1 : decode cX7_afterSend 1 = .ok (.invokestatic 105, 3) := by decide +kernel
theorem dX7_afterSend_4 : decode cX7_afterSend 4 = .ok (.aload_n 0, 1) := by decide +kernel
theorem dX7_afterSend_5 : decode cX7_afterSend 5 = .ok (.getfield 11, 3) := by decide +kernel
theorem dX7_afterSend_8 : decode cX7_afterSend 8 = .ok (.if_icmp .lt 9, 3) := by decide +kernel
theorem dX7_afterSend_11 : decode cX7_afterSend 11 = .ok (.lload_n 1, 1) := by decide +kernel
theorem dX7_afterSend_12 : decode cX7_afterSend 12 = .ok (.ldc2_w 101, 3) := by decide +kernel
theorem dX7_afterSend_15 : decode cX7_afterSend 15 = .ok (.lor, 1) := by decide +kernel
theorem dX7_afterSend_16 : decode cX7_afterSend 16 = .ok (.lreturn, 1) := by decide +kernel
theorem dX7_afterSend_17 : decode cX7_afterSend 17 = .ok (.lload_n 1, 1) := by decide +kernel
theorem dX7_afterSend_18 : decode cX7_afterSend 18 = .ok (.lconst 1, 1) := by decide +kernel
theorem dX7_afterSend_19 : decode cX7_afterSend 19 = .ok (.lload_n 1, 1) := by decide +kernel
theorem dX7_afterSend_20 : decode cX7_afterSend 20 = .ok (.bipush 46, 2) := by decide +kernel
theorem dX7_afterSend_22 : decode cX7_afterSend 22 = .ok (.lushr, 1) := by decide +kernel
theorem dX7_afterSend_23 : decode cX7_afterSend 23 = .ok (.l2i, 1) := by decide +kernel
theorem dX7_afterSend_24 : decode cX7_afterSend 24 = .ok (.bipush 7, 2) := by decide +kernel
theorem dX7_afterSend_26 : decode cX7_afterSend 26 = .ok (.iand, 1) := by decide +kernel
theorem dX7_afterSend_27 : decode cX7_afterSend 27 = .ok (.invokestatic 67, 3) := by decide +kernel
theorem dX7_afterSend_30 : decode cX7_afterSend 30 = .ok (.lshl, 1) := by decide +kernel
theorem dX7_afterSend_31 : decode cX7_afterSend 31 = .ok (.ladd, 1) := by decide +kernel
theorem dX7_afterSend_32 : decode cX7_afterSend 32 = .ok (.lreturn, 1) := by decide +kernel
set_option maxHeartbeats 4000000 in
set_option maxRecDepth 100000 in
theorem kX7_afterSend {l : Launch} {D : va_G} {cy : Nat → ClassId} {N : Nat} {q : Nat → Nat} {m0 : Nat → Value} {a0 : Nat → vp_A} {sz : Nat} (hN : 105 ≤ N) {kr : Nat} (hkr : kr < N) (hgk : gk kr = 7) {xkr_0 : Int32} (h_xkr_0 : m0 (100 * kr + 0) = .int xkr_0) (p1 : Int64) : gMl l yX7_afterSend cX7_afterSend 3 (some .long) ({ frames := 2, cells := 0, slots := 0, locals := 44 } : Room) D cy N q m0 a0 sz [.ref (q kr), .long p1] (fun r m' a' => r = (fX7_afterSend xkr_0 p1) ∧ m' = m0 ∧ a' = a0) := by
  generalize hs0 : fX7_afterSend xkr_0 p1 = X0
  refine g_ofl (by decide) (Nat.le_of_ble_eq_true rfl) ?_
  intro p e s M args below meth c hx hb hr hG hown hin hlocks hml hW hS ls hl
  unfold fX7_afterSend at hs0
  refine lv_lload_n hx hb dX7_afterSend_0 rfl (lv_at hl 1 rfl) ?_
  refine g_SiR (n := 1) hx hb hml hown hG hW hS [.long p1] (kX7_packetsIn hN p1) rfl (gd_S gx438 gx343 gx39 gx344) rfl rfl (by decide) ⟨Nat.le_of_ble_eq_true rfl, Nat.le_of_ble_eq_true rfl⟩ rfl hl (Nat.le_of_ble_eq_true rfl) ⟨Nat.zero_le _, Nat.zero_le _⟩ dX7_afterSend_1 (fun H locs hW hS => ?_)
  refine lv_aload_n hx hb dX7_afterSend_4 rfl (lv_at hl 0 rfl) ?_
  refine gf7_0 hx hb hG hown hW (o := kr) hkr hgk (v := .int xkr_0) h_xkr_0 gx150 dX7_afterSend_5 ?_
  refine lv_icmp_lt (tgt := 17) hx hb dX7_afterSend_8 (by decide) (fun c2 => ?_) (fun c2 => ?_)
  · rw [if_pos c2] at hs0
    refine lv_lload_n hx hb dX7_afterSend_17 rfl (lv_at hl 1 rfl) ?_
    refine lv_lconst (v := 1) hx hb dX7_afterSend_18 (by decide) ?_
    refine lv_lload_n hx hb dX7_afterSend_19 rfl (lv_at hl 1 rfl) ?_
    refine lv_bipush (v := 46) hx hb dX7_afterSend_20 (by decide) ?_
    refine lv_lushr hx hb dX7_afterSend_22 rfl ?_
    refine lv_l2i hx hb dX7_afterSend_23 rfl ?_
    refine lv_bipush (v := 7) hx hb dX7_afterSend_24 (by decide) ?_
    refine lv_iand hx hb dX7_afterSend_26 ?_
    refine g_SiR (n := 1) hx hb hml hown hG hW hS [.int ((((p1.toUInt64 >>> ((46 : Int32).toInt64.toUInt64 &&& Int64.toUInt64 63)).toInt64).toInt32) &&& (7 : Int32))] (kX7_packetsAt hN ((((p1.toUInt64 >>> ((46 : Int32).toInt64.toUInt64 &&& Int64.toUInt64 63)).toInt64).toInt32) &&& (7 : Int32))) rfl (gd_S gx403 gx340 gx39 gx341) rfl rfl (by decide) ⟨Nat.le_of_ble_eq_true rfl, Nat.le_of_ble_eq_true rfl⟩ rfl hl (Nat.le_of_ble_eq_true rfl) ⟨Nat.zero_le _, Nat.zero_le _⟩ dX7_afterSend_27 (fun H locs hW hS => ?_)
    refine lv_lshl hx hb dX7_afterSend_30 rfl ?_
    refine lv_ladd hx hb dX7_afterSend_31 ?_
    subst hs0
    exact W.lret hx hb hr (fun t ht hw => ⟨⟨_, (m0, a0), rfl, ⟨rfl, rfl, rfl⟩, g_end hW ht hw⟩, hS.F ht⟩) hS.2.2 dX7_afterSend_32 hlocks
  · rw [if_neg c2] at hs0
    refine lv_lload_n hx hb dX7_afterSend_11 rfl (lv_at hl 1 rfl) ?_
    refine lv_ldc2 (v := 72057594037927936) hx hb hown (hG _ gx426) dX7_afterSend_12 ?_
    refine lv_lor hx hb dX7_afterSend_15 ?_
    subst hs0
    exact W.lret hx hb hr (fun t ht hw => ⟨⟨_, (m0, a0), rfl, ⟨rfl, rfl, rfl⟩, g_end hW ht hw⟩, hS.F ht⟩) hS.2.2 dX7_afterSend_16 hlocks
-- HealLink$Rules.afterArrive (JI)J
def fX7_afterArrive_J63 (xkr_0 : Int32) (xkr_3 : Int32) (v1j4 : Int64) (v4j4 : Int64) (v6j4 : Int32) : Int64 := (if (fX7_lettersIn v1j4) < xkr_0 then v4j4 + ((1 : Int64) <<< ((fX7_lettersAt v6j4).toInt64 &&& 63)) else v4j4 ||| (144115188075855872 : Int64))
def fX7_afterArrive (xkr_0 : Int32) (xkr_3 : Int32) (p1 : Int64) (p3 : Int32) : Int64 := (if (p3 >>> (1 &&& 31)) = (fX7_lastOf p1) then fX7_afterArrive_J63 xkr_0 xkr_3 p1 (p1 - ((1 : Int64) <<< ((fX7_packetsAt p3).toInt64 &&& 63))) (p3 >>> (1 &&& 31)) else (if xkr_3 ≤ ((fX7_digit p1 (fX7_seenAt p3)) + 1) then fX7_afterArrive_J63 xkr_0 xkr_3 p1 (fX7_afterDelivery (p1 - ((1 : Int64) <<< ((fX7_packetsAt p3).toInt64 &&& 63))) p3) (p3 >>> (1 &&& 31)) else fX7_afterArrive_J63 xkr_0 xkr_3 p1 ((p1 - ((1 : Int64) <<< ((fX7_packetsAt p3).toInt64 &&& 63))) + ((1 : Int64) <<< ((fX7_seenAt p3).toInt64 &&& 63))) (p3 >>> (1 &&& 31))))
theorem dX7_afterArrive_0 : decode cX7_afterArrive 0 = .ok (.lload_n 1, 1) := by decide +kernel
theorem dX7_afterArrive_1 : decode cX7_afterArrive 1 = .ok (.lconst 1, 1) := by decide +kernel
theorem dX7_afterArrive_2 : decode cX7_afterArrive 2 = .ok (.iload_n 3, 1) := by decide +kernel
theorem dX7_afterArrive_3 : decode cX7_afterArrive 3 = .ok (.invokestatic 67, 3) := by decide +kernel
theorem dX7_afterArrive_6 : decode cX7_afterArrive 6 = .ok (.lshl, 1) := by decide +kernel
theorem dX7_afterArrive_7 : decode cX7_afterArrive 7 = .ok (.lsub, 1) := by decide +kernel
theorem dX7_afterArrive_8 : decode cX7_afterArrive 8 = .ok (.lstore 4, 2) := by decide +kernel
theorem dX7_afterArrive_10 : decode cX7_afterArrive 10 = .ok (.iload_n 3, 1) := by decide +kernel
theorem dX7_afterArrive_11 : decode cX7_afterArrive 11 = .ok (.iconst 1, 1) := by decide +kernel
theorem dX7_afterArrive_12 : decode cX7_afterArrive 12 = .ok (.ishr, 1) := by decide +kernel
theorem dX7_afterArrive_13 : decode cX7_afterArrive 13 = .ok (.istore 6, 2) := by decide +kernel
theorem dX7_afterArrive_15 : decode cX7_afterArrive 15 = .ok (.iload 6, 2) := by decide +kernel
theorem dX7_afterArrive_17 : decode cX7_afterArrive 17 = .ok (.lload_n 1, 1) := by decide +kernel
theorem dX7_afterArrive_18 : decode cX7_afterArrive 18 = .ok (.invokestatic 108, 3) := by decide +kernel
theorem dX7_afterArrive_21 : decode cX7_afterArrive 21 = .ok (.if_icmp .eq 42, 3) := by decide +kernel
theorem dX7_afterArrive_24 : decode cX7_afterArrive 24 = .ok (.lload_n 1, 1) := by decide +kernel
theorem dX7_afterArrive_25 : decode cX7_afterArrive 25 = .ok (.iload_n 3, 1) := by decide +kernel
theorem dX7_afterArrive_26 : decode cX7_afterArrive 26 = .ok (.invokestatic 111, 3) := by decide +kernel
theorem dX7_afterArrive_29 : decode cX7_afterArrive 29 = .ok (.invokestatic 71, 3) := by decide +kernel
theorem dX7_afterArrive_32 : decode cX7_afterArrive 32 = .ok (.iconst 1, 1) := by decide +kernel
theorem dX7_afterArrive_33 : decode cX7_afterArrive 33 = .ok (.iadd, 1) := by decide +kernel
theorem dX7_afterArrive_34 : decode cX7_afterArrive 34 = .ok (.aload_n 0, 1) := by decide +kernel
theorem dX7_afterArrive_35 : decode cX7_afterArrive 35 = .ok (.getfield 21, 3) := by decide +kernel
theorem dX7_afterArrive_38 : decode cX7_afterArrive 38 = .ok (.if_icmp .ge 17, 3) := by decide +kernel
theorem dX7_afterArrive_41 : decode cX7_afterArrive 41 = .ok (.lload 4, 2) := by decide +kernel
theorem dX7_afterArrive_43 : decode cX7_afterArrive 43 = .ok (.lconst 1, 1) := by decide +kernel
theorem dX7_afterArrive_44 : decode cX7_afterArrive 44 = .ok (.iload_n 3, 1) := by decide +kernel
theorem dX7_afterArrive_45 : decode cX7_afterArrive 45 = .ok (.invokestatic 111, 3) := by decide +kernel
theorem dX7_afterArrive_48 : decode cX7_afterArrive 48 = .ok (.lshl, 1) := by decide +kernel
theorem dX7_afterArrive_49 : decode cX7_afterArrive 49 = .ok (.ladd, 1) := by decide +kernel
theorem dX7_afterArrive_50 : decode cX7_afterArrive 50 = .ok (.lstore 4, 2) := by decide +kernel
theorem dX7_afterArrive_52 : decode cX7_afterArrive 52 = .ok (.goto 11, 3) := by decide +kernel
theorem dX7_afterArrive_55 : decode cX7_afterArrive 55 = .ok (.lload 4, 2) := by decide +kernel
theorem dX7_afterArrive_57 : decode cX7_afterArrive 57 = .ok (.iload_n 3, 1) := by decide +kernel
theorem dX7_afterArrive_58 : decode cX7_afterArrive 58 = .ok (.invokestatic 114, 3) := by decide +kernel
theorem dX7_afterArrive_61 : decode cX7_afterArrive 61 = .ok (.lstore 4, 2) := by decide +kernel
theorem dX7_afterArrive_63 : decode cX7_afterArrive 63 = .ok (.lload_n 1, 1) := by decide +kernel
theorem dX7_afterArrive_64 : decode cX7_afterArrive 64 = .ok (.invokestatic 117, 3) := by decide +kernel
theorem dX7_afterArrive_67 : decode cX7_afterArrive 67 = .ok (.aload_n 0, 1) := by decide +kernel
theorem dX7_afterArrive_68 : decode cX7_afterArrive 68 = .ok (.getfield 11, 3) := by decide +kernel
theorem dX7_afterArrive_71 : decode cX7_afterArrive 71 = .ok (.if_icmp .lt 10, 3) := by decide +kernel
theorem dX7_afterArrive_74 : decode cX7_afterArrive 74 = .ok (.lload 4, 2) := by decide +kernel
theorem dX7_afterArrive_76 : decode cX7_afterArrive 76 = .ok (.ldc2_w 103, 3) := by decide +kernel
theorem dX7_afterArrive_79 : decode cX7_afterArrive 79 = .ok (.lor, 1) := by decide +kernel
theorem dX7_afterArrive_80 : decode cX7_afterArrive 80 = .ok (.lreturn, 1) := by decide +kernel
theorem dX7_afterArrive_81 : decode cX7_afterArrive 81 = .ok (.lload 4, 2) := by decide +kernel
theorem dX7_afterArrive_83 : decode cX7_afterArrive 83 = .ok (.lconst 1, 1) := by decide +kernel
theorem dX7_afterArrive_84 : decode cX7_afterArrive 84 = .ok (.iload 6, 2) := by decide +kernel
theorem dX7_afterArrive_86 : decode cX7_afterArrive 86 = .ok (.invokestatic 75, 3) := by decide +kernel
theorem dX7_afterArrive_89 : decode cX7_afterArrive 89 = .ok (.lshl, 1) := by decide +kernel
theorem dX7_afterArrive_90 : decode cX7_afterArrive 90 = .ok (.ladd, 1) := by decide +kernel
theorem dX7_afterArrive_91 : decode cX7_afterArrive 91 = .ok (.lreturn, 1) := by decide +kernel
set_option maxHeartbeats 4000000 in
set_option maxRecDepth 100000 in
theorem kX7_afterArrive {l : Launch} {D : va_G} {cy : Nat → ClassId} {N : Nat} {q : Nat → Nat} {m0 : Nat → Value} {a0 : Nat → vp_A} {sz : Nat} (hN : 105 ≤ N) {kr : Nat} (hkr : kr < N) (hgk : gk kr = 7) {xkr_0 : Int32} (h_xkr_0 : m0 (100 * kr + 0) = .int xkr_0) {xkr_3 : Int32} (h_xkr_3 : m0 (100 * kr + 3) = .int xkr_3) (p1 : Int64) (p3 : Int32) : gMl l yX7_afterArrive cX7_afterArrive 7 (some .long) ({ frames := 2, cells := 0, slots := 0, locals := 46 } : Room) D cy N q m0 a0 sz [.ref (q kr), .long p1, .int p3] (fun r m' a' => r = (fX7_afterArrive xkr_0 xkr_3 p1 p3) ∧ m' = m0 ∧ a' = a0) := by
  generalize hs0 : fX7_afterArrive xkr_0 xkr_3 p1 p3 = X0
  refine g_ofl (by decide) (Nat.le_of_ble_eq_true rfl) ?_
  intro p e s M args below meth c hx hb hr hG hown hin hlocks hml hW hS ls hl
  unfold fX7_afterArrive at hs0
  have hJ63_0 : ∀ (v1j4 : Int64) (v4j4 : Int64) (v6j4 : Int32) (H : Heap) (locs : List Loc) (ls : Array Slot) (hl : lv_has ls 7 [(0, .ref (q kr)), (1, .long v1j4), (4, .long v4j4), (6, .int v6j4)]) (hs0 : fX7_afterArrive_J63 xkr_0 xkr_3 v1j4 v4j4 v6j4 = X0) (hW : GW D cy (gA N q s.heap.size) N q m0 a0 s H) (hS : va_S (gA N q s.heap.size) s.heap H locs), W p l e ({ frames := 2, cells := 0, slots := 0, locals := 46 } : Room) s M args below meth c H locs 0 0 (MQ below (va_Ql (fun (r : Int64) (u : (Nat → Value) × (Nat → vp_A)) => r = X0 ∧ u.1 = m0 ∧ u.2 = a0) (gB D cy N q s.heap.size) (gA N q s.heap.size)) args s 0 0 (gA N q s.heap.size)) (F0 M 63 ls []) := by
    intro v1j4 v4j4 v6j4 H locs ls hl hs0 hW hS
    unfold fX7_afterArrive_J63 at hs0
    refine lv_lload_n hx hb dX7_afterArrive_63 rfl (lv_at hl 1 rfl) ?_
    refine g_SiR (n := 1) hx hb hml hown hG hW hS [.long v1j4] (kX7_lettersIn hN v1j4) rfl (gd_S gx456 gx372 gx39 gx373) rfl rfl (by decide) ⟨Nat.le_of_ble_eq_true rfl, Nat.le_of_ble_eq_true rfl⟩ rfl hl (Nat.le_of_ble_eq_true rfl) ⟨Nat.zero_le _, Nat.zero_le _⟩ dX7_afterArrive_64 (fun H locs hW hS => ?_)
    refine lv_aload_n hx hb dX7_afterArrive_67 rfl (lv_at hl 0 rfl) ?_
    refine gf7_0 hx hb hG hown hW (o := kr) hkr hgk (v := .int xkr_0) h_xkr_0 gx150 dX7_afterArrive_68 ?_
    refine lv_icmp_lt (tgt := 81) hx hb dX7_afterArrive_71 (by decide) (fun c11 => ?_) (fun c11 => ?_)
    · rw [if_pos c11] at hs0
      refine lv_lload hx hb dX7_afterArrive_81 (lv_at hl 2 rfl) ?_
      refine lv_lconst (v := 1) hx hb dX7_afterArrive_83 (by decide) ?_
      refine lv_iload hx hb dX7_afterArrive_84 (lv_at hl 3 rfl) ?_
      refine g_SiR (n := 1) hx hb hml hown hG hW hS [.int v6j4] (kX7_lettersAt hN v6j4) rfl (gd_S gx405 gx369 gx39 gx370) rfl rfl (by decide) ⟨Nat.le_of_ble_eq_true rfl, Nat.le_of_ble_eq_true rfl⟩ rfl hl (Nat.le_of_ble_eq_true rfl) ⟨Nat.zero_le _, Nat.zero_le _⟩ dX7_afterArrive_86 (fun H locs hW hS => ?_)
      refine lv_lshl hx hb dX7_afterArrive_89 rfl ?_
      refine lv_ladd hx hb dX7_afterArrive_90 ?_
      subst hs0
      exact W.lret hx hb hr (fun t ht hw => ⟨⟨_, (m0, a0), rfl, ⟨rfl, rfl, rfl⟩, g_end hW ht hw⟩, hS.F ht⟩) hS.2.2 dX7_afterArrive_91 hlocks
    · rw [if_neg c11] at hs0
      refine lv_lload hx hb dX7_afterArrive_74 (lv_at hl 2 rfl) ?_
      refine lv_ldc2 (v := 144115188075855872) hx hb hown (hG _ gx427) dX7_afterArrive_76 ?_
      refine lv_lor hx hb dX7_afterArrive_79 ?_
      subst hs0
      exact W.lret hx hb hr (fun t ht hw => ⟨⟨_, (m0, a0), rfl, ⟨rfl, rfl, rfl⟩, g_end hW ht hw⟩, hS.F ht⟩) hS.2.2 dX7_afterArrive_80 hlocks
  refine lv_lload_n hx hb dX7_afterArrive_0 rfl (lv_at hl 1 rfl) ?_
  refine lv_lconst (v := 1) hx hb dX7_afterArrive_1 (by decide) ?_
  refine lv_iload_n hx hb dX7_afterArrive_2 rfl (lv_at hl 2 rfl) ?_
  refine g_SiR (n := 1) hx hb hml hown hG hW hS [.int p3] (kX7_packetsAt hN p3) rfl (gd_S gx403 gx340 gx39 gx341) rfl rfl (by decide) ⟨Nat.le_of_ble_eq_true rfl, Nat.le_of_ble_eq_true rfl⟩ rfl hl (Nat.le_of_ble_eq_true rfl) ⟨Nat.zero_le _, Nat.zero_le _⟩ dX7_afterArrive_3 (fun H locs hW hS => ?_)
  refine lv_lshl hx hb dX7_afterArrive_6 rfl ?_
  refine lv_lsub hx hb dX7_afterArrive_7 ?_
  refine lv_lstore (lv' := [(4, .long (p1 - ((1 : Int64) <<< ((fX7_packetsAt p3).toInt64 &&& 63)))), (0, .ref (q kr)), (1, .long p1), (3, .int p3)]) hx hb dX7_afterArrive_8 hl (by decide) rfl (fun ls hl => ?_)
  refine lv_iload_n hx hb dX7_afterArrive_10 rfl (lv_at hl 3 rfl) ?_
  refine lv_iconst (v := 1) hx hb dX7_afterArrive_11 (by decide) ?_
  refine lv_ishr hx hb dX7_afterArrive_12 ?_
  refine lv_istore (lv' := [(6, .int (p3 >>> (1 &&& 31))), (4, .long (p1 - ((1 : Int64) <<< ((fX7_packetsAt p3).toInt64 &&& 63)))), (0, .ref (q kr)), (1, .long p1), (3, .int p3)]) hx hb dX7_afterArrive_13 hl (by decide) rfl (fun ls hl => ?_)
  refine lv_iload hx hb dX7_afterArrive_15 (lv_at hl 0 rfl) ?_
  refine lv_lload_n hx hb dX7_afterArrive_17 rfl (lv_at hl 3 rfl) ?_
  refine g_SiR (n := 1) hx hb hml hown hG hW hS [.long p1] (kX7_lastOf hN p1) rfl (gd_S gx443 gx294 gx39 gx295) rfl rfl (by decide) ⟨Nat.le_of_ble_eq_true rfl, Nat.le_of_ble_eq_true rfl⟩ rfl hl (Nat.le_of_ble_eq_true rfl) ⟨Nat.zero_le _, Nat.zero_le _⟩ dX7_afterArrive_18 (fun H locs hW hS => ?_)
  refine lv_icmp_eq (tgt := 63) hx hb dX7_afterArrive_21 (by decide) (fun c3 => ?_) (fun c3 => ?_)
  · rw [if_pos c3] at hs0
    exact hJ63_0 p1 (p1 - ((1 : Int64) <<< ((fX7_packetsAt p3).toInt64 &&& 63))) (p3 >>> (1 &&& 31)) _ _ ls (lv_sub hl [2, 3, 1, 0] rfl) hs0 hW hS
  · rw [if_neg c3] at hs0
    refine lv_lload_n hx hb dX7_afterArrive_24 rfl (lv_at hl 3 rfl) ?_
    refine lv_iload_n hx hb dX7_afterArrive_25 rfl (lv_at hl 4 rfl) ?_
    refine g_SiR (n := 1) hx hb hml hown hG hW hS [.int p3] (kX7_seenAt hN p3) rfl (gd_S gx444 gx313 gx39 gx314) rfl rfl (by decide) ⟨Nat.le_of_ble_eq_true rfl, Nat.le_of_ble_eq_true rfl⟩ rfl hl (Nat.le_of_ble_eq_true rfl) ⟨Nat.zero_le _, Nat.zero_le _⟩ dX7_afterArrive_26 (fun H locs hW hS => ?_)
    refine g_SiR (n := 2) hx hb hml hown hG hW hS [.long p1, .int (fX7_seenAt p3)] (kX7_digit hN p1 (fX7_seenAt p3)) rfl (gd_S gx404 gx320 gx39 gx321) rfl rfl (by decide) ⟨Nat.le_of_ble_eq_true rfl, Nat.le_of_ble_eq_true rfl⟩ rfl hl (Nat.le_of_ble_eq_true rfl) ⟨Nat.zero_le _, Nat.zero_le _⟩ dX7_afterArrive_29 (fun H locs hW hS => ?_)
    refine lv_iconst (v := 1) hx hb dX7_afterArrive_32 (by decide) ?_
    refine lv_iadd hx hb dX7_afterArrive_33 ?_
    refine lv_aload_n hx hb dX7_afterArrive_34 rfl (lv_at hl 2 rfl) ?_
    refine gf7_3 hx hb hG hown hW (o := kr) hkr hgk (v := .int xkr_3) h_xkr_3 gx153 dX7_afterArrive_35 ?_
    refine lv_icmp_ge (tgt := 55) hx hb dX7_afterArrive_38 (by decide) (fun c7 => ?_) (fun c7 => ?_)
    · rw [if_pos c7] at hs0
      refine lv_lload hx hb dX7_afterArrive_55 (lv_at hl 1 rfl) ?_
      refine lv_iload_n hx hb dX7_afterArrive_57 rfl (lv_at hl 4 rfl) ?_
      refine g_SlR (n := 2) hx hb hml hown hG hW hS [.long (p1 - ((1 : Int64) <<< ((fX7_packetsAt p3).toInt64 &&& 63))), .int p3] (kX7_afterDelivery hN (p1 - ((1 : Int64) <<< ((fX7_packetsAt p3).toInt64 &&& 63))) p3) rfl (gd_S gx445 gx446 gx39 gx447) rfl rfl (by decide) ⟨Nat.le_of_ble_eq_true rfl, Nat.le_of_ble_eq_true rfl⟩ rfl hl (Nat.le_of_ble_eq_true rfl) ⟨Nat.zero_le _, Nat.zero_le _⟩ dX7_afterArrive_58 (fun H locs hW hS => ?_)
      refine lv_lstore (lv' := [(4, .long (fX7_afterDelivery (p1 - ((1 : Int64) <<< ((fX7_packetsAt p3).toInt64 &&& 63))) p3)), (6, .int (p3 >>> (1 &&& 31))), (0, .ref (q kr)), (1, .long p1), (3, .int p3)]) hx hb dX7_afterArrive_61 hl (by decide) rfl (fun ls hl => ?_)
      exact hJ63_0 p1 (fX7_afterDelivery (p1 - ((1 : Int64) <<< ((fX7_packetsAt p3).toInt64 &&& 63))) p3) (p3 >>> (1 &&& 31)) _ _ ls (lv_sub hl [2, 3, 0, 1] rfl) hs0 hW hS
    · rw [if_neg c7] at hs0
      refine lv_lload hx hb dX7_afterArrive_41 (lv_at hl 1 rfl) ?_
      refine lv_lconst (v := 1) hx hb dX7_afterArrive_43 (by decide) ?_
      refine lv_iload_n hx hb dX7_afterArrive_44 rfl (lv_at hl 4 rfl) ?_
      refine g_SiR (n := 1) hx hb hml hown hG hW hS [.int p3] (kX7_seenAt hN p3) rfl (gd_S gx444 gx313 gx39 gx314) rfl rfl (by decide) ⟨Nat.le_of_ble_eq_true rfl, Nat.le_of_ble_eq_true rfl⟩ rfl hl (Nat.le_of_ble_eq_true rfl) ⟨Nat.zero_le _, Nat.zero_le _⟩ dX7_afterArrive_45 (fun H locs hW hS => ?_)
      refine lv_lshl hx hb dX7_afterArrive_48 rfl ?_
      refine lv_ladd hx hb dX7_afterArrive_49 ?_
      refine lv_lstore (lv' := [(4, .long ((p1 - ((1 : Int64) <<< ((fX7_packetsAt p3).toInt64 &&& 63))) + ((1 : Int64) <<< ((fX7_seenAt p3).toInt64 &&& 63)))), (6, .int (p3 >>> (1 &&& 31))), (0, .ref (q kr)), (1, .long p1), (3, .int p3)]) hx hb dX7_afterArrive_50 hl (by decide) rfl (fun ls hl => ?_)
      refine lv_goto (tgt := 63) hx hb dX7_afterArrive_52 (by decide) ?_
      exact hJ63_0 p1 ((p1 - ((1 : Int64) <<< ((fX7_packetsAt p3).toInt64 &&& 63))) + ((1 : Int64) <<< ((fX7_seenAt p3).toInt64 &&& 63))) (p3 >>> (1 &&& 31)) _ _ ls (lv_sub hl [2, 3, 0, 1] rfl) hs0 hW hS
-- HealLink$Rules.afterCome (JII)J
def fX7_afterCome_J72 (xkr_1 : Int32) (xkr_2 : Int32) (v4j10 : Int32) (v5j10 : Int64) (v7j10 : Int32) (s0j10 : Int64) : Int64 := (fX7_withSender v5j10 v7j10 v4j10 0 0) ||| (s0j10 <<< ((52 : Int32).toInt64 &&& 63))
def fX7_afterCome_J54 (xkr_1 : Int32) (xkr_2 : Int32) (v1j7 : Int64) (v4j7 : Int32) (v5j7 : Int64) (s0j7 : Int32) : Int64 := (if (fX7_takenOf v1j7) = 0 then fX7_afterCome_J72 xkr_1 xkr_2 v4j7 v5j7 s0j7 5 else fX7_afterCome_J72 xkr_1 xkr_2 v4j7 v5j7 s0j7 4)
def fX7_afterCome (xkr_1 : Int32) (xkr_2 : Int32) (p1 : Int64) (p3 : Int32) (p4 : Int32) : Int64 := (if (fX7_labelOf p1) = p3 then (if (fX7_goesOnBy xkr_2 p1 p3) = 0 then (p1 - ((1 : Int64) <<< ((fX7_lettersAt p3).toInt64 &&& 63))) + 8796093022208 else (if xkr_1 ≤ (p3 + 1) then fX7_afterCome_J54 xkr_1 xkr_2 p1 p4 (p1 - ((1 : Int64) <<< ((fX7_lettersAt p3).toInt64 &&& 63))) 0 else fX7_afterCome_J54 xkr_1 xkr_2 p1 p4 (p1 - ((1 : Int64) <<< ((fX7_lettersAt p3).toInt64 &&& 63))) (p3 + 1))) else p1 - ((1 : Int64) <<< ((fX7_lettersAt p3).toInt64 &&& 63)))
theorem dX7_afterCome_0 : decode cX7_afterCome 0 = .ok (.lload_n 1, 1) := by decide +kernel
theorem dX7_afterCome_1 : decode cX7_afterCome 1 = .ok (.lconst 1, 1) := by decide +kernel
theorem dX7_afterCome_2 : decode cX7_afterCome 2 = .ok (.iload_n 3, 1) := by decide +kernel
theorem dX7_afterCome_3 : decode cX7_afterCome 3 = .ok (.invokestatic 75, 3) := by decide +kernel
theorem dX7_afterCome_6 : decode cX7_afterCome 6 = .ok (.lshl, 1) := by decide +kernel
theorem dX7_afterCome_7 : decode cX7_afterCome 7 = .ok (.lsub, 1) := by decide +kernel
theorem dX7_afterCome_8 : decode cX7_afterCome 8 = .ok (.lstore 5, 2) := by decide +kernel
theorem dX7_afterCome_10 : decode cX7_afterCome 10 = .ok (.lload_n 1, 1) := by decide +kernel
theorem dX7_afterCome_11 : decode cX7_afterCome 11 = .ok (.invokestatic 57, 3) := by decide +kernel
theorem dX7_afterCome_14 : decode cX7_afterCome 14 = .ok (.iload_n 3, 1) := by decide +kernel
theorem dX7_afterCome_15 : decode cX7_afterCome 15 = .ok (.if_icmp .eq 6, 3) := by decide +kernel
theorem dX7_afterCome_18 : decode cX7_afterCome 18 = .ok (.lload 5, 2) := by decide +kernel
theorem dX7_afterCome_20 : decode cX7_afterCome 20 = .ok (.lreturn, 1) := by decide +kernel
theorem dX7_afterCome_21 : decode cX7_afterCome 21 = .ok (.aload_n 0, 1) := by decide +kernel
theorem dX7_afterCome_22 : decode cX7_afterCome 22 = .ok (.lload_n 1, 1) := by decide +kernel
theorem dX7_afterCome_23 : decode cX7_afterCome 23 = .ok (.iload_n 3, 1) := by decide +kernel
theorem dX7_afterCome_24 : decode cX7_afterCome 24 = .ok (.invokevirtual 135, 3) := by decide +kernel
theorem dX7_afterCome_27 : decode cX7_afterCome 27 = .ok (.ifCond .ne 10, 3) := by decide +kernel
theorem dX7_afterCome_30 : decode cX7_afterCome 30 = .ok (.lload 5, 2) := by decide +kernel
theorem dX7_afterCome_32 : decode cX7_afterCome 32 = .ok (.ldc2_w 139, 3) := by decide +kernel
theorem dX7_afterCome_35 : decode cX7_afterCome 35 = .ok (.ladd, 1) := by decide +kernel
theorem dX7_afterCome_36 : decode cX7_afterCome 36 = .ok (.lreturn, 1) := by decide +kernel
theorem dX7_afterCome_37 : decode cX7_afterCome 37 = .ok (.iload_n 3, 1) := by decide +kernel
theorem dX7_afterCome_38 : decode cX7_afterCome 38 = .ok (.iconst 1, 1) := by decide +kernel
theorem dX7_afterCome_39 : decode cX7_afterCome 39 = .ok (.iadd, 1) := by decide +kernel
theorem dX7_afterCome_40 : decode cX7_afterCome 40 = .ok (.aload_n 0, 1) := by decide +kernel
theorem dX7_afterCome_41 : decode cX7_afterCome 41 = .ok (.getfield 15, 3) := by decide +kernel
theorem dX7_afterCome_44 : decode cX7_afterCome 44 = .ok (.if_icmp .ge 9, 3) := by decide +kernel
theorem dX7_afterCome_47 : decode cX7_afterCome 47 = .ok (.iload_n 3, 1) := by decide +kernel
theorem dX7_afterCome_48 : decode cX7_afterCome 48 = .ok (.iconst 1, 1) := by decide +kernel
theorem dX7_afterCome_49 : decode cX7_afterCome 49 = .ok (.iadd, 1) := by decide +kernel
theorem dX7_afterCome_50 : decode cX7_afterCome 50 = .ok (.goto 4, 3) := by decide +kernel
theorem dX7_afterCome_53 : decode cX7_afterCome 53 = .ok (.iconst 0, 1) := by decide +kernel
theorem dX7_afterCome_54 : decode cX7_afterCome 54 = .ok (.istore 7, 2) := by decide +kernel
theorem dX7_afterCome_56 : decode cX7_afterCome 56 = .ok (.lload_n 1, 1) := by decide +kernel
theorem dX7_afterCome_57 : decode cX7_afterCome 57 = .ok (.invokestatic 127, 3) := by decide +kernel
theorem dX7_afterCome_60 : decode cX7_afterCome 60 = .ok (.ifCond .eq 9, 3) := by decide +kernel
theorem dX7_afterCome_63 : decode cX7_afterCome 63 = .ok (.ldc2_w 141, 3) := by decide +kernel
theorem dX7_afterCome_66 : decode cX7_afterCome 66 = .ok (.goto 6, 3) := by decide +kernel
theorem dX7_afterCome_69 : decode cX7_afterCome 69 = .ok (.ldc2_w 143, 3) := by decide +kernel
theorem dX7_afterCome_72 : decode cX7_afterCome 72 = .ok (.lstore 8, 2) := by decide +kernel
theorem dX7_afterCome_74 : decode cX7_afterCome 74 = .ok (.lload 5, 2) := by decide +kernel
theorem dX7_afterCome_76 : decode cX7_afterCome 76 = .ok (.iload 7, 2) := by decide +kernel
theorem dX7_afterCome_78 : decode cX7_afterCome 78 = .ok (.iload 4, 2) := by decide +kernel
theorem dX7_afterCome_80 : decode cX7_afterCome 80 = .ok (.iconst 0, 1) := by decide +kernel
theorem dX7_afterCome_81 : decode cX7_afterCome 81 = .ok (.iconst 0, 1) := by decide +kernel
theorem dX7_afterCome_82 : decode cX7_afterCome 82 = .ok (.invokestatic 145, 3) := by decide +kernel
theorem dX7_afterCome_85 : decode cX7_afterCome 85 = .ok (.lload 8, 2) := by decide +kernel
theorem dX7_afterCome_87 : decode cX7_afterCome 87 = .ok (.bipush 52, 2) := by decide +kernel
theorem dX7_afterCome_89 : decode cX7_afterCome 89 = .ok (.lshl, 1) := by decide +kernel
theorem dX7_afterCome_90 : decode cX7_afterCome 90 = .ok (.lor, 1) := by decide +kernel
theorem dX7_afterCome_91 : decode cX7_afterCome 91 = .ok (.lreturn, 1) := by decide +kernel
set_option maxHeartbeats 4000000 in
set_option maxRecDepth 100000 in
theorem kX7_afterCome {l : Launch} {D : va_G} {cy : Nat → ClassId} {N : Nat} {q : Nat → Nat} {m0 : Nat → Value} {a0 : Nat → vp_A} {sz : Nat} (hN : 105 ≤ N) {kr : Nat} (hkr : kr < N) (hgk : gk kr = 7) {xkr_1 : Int32} (h_xkr_1 : m0 (100 * kr + 1) = .int xkr_1) {xkr_2 : Int32} (h_xkr_2 : m0 (100 * kr + 2) = .int xkr_2) (p1 : Int64) (p3 : Int32) (p4 : Int32) : gMl l yX7_afterCome cX7_afterCome 10 (some .long) ({ frames := 2, cells := 0, slots := 0, locals := 44 } : Room) D cy N q m0 a0 sz [.ref (q kr), .long p1, .int p3, .int p4] (fun r m' a' => r = (fX7_afterCome xkr_1 xkr_2 p1 p3 p4) ∧ m' = m0 ∧ a' = a0) := by
  generalize hs0 : fX7_afterCome xkr_1 xkr_2 p1 p3 p4 = X0
  refine g_ofl (by decide) (Nat.le_of_ble_eq_true rfl) ?_
  intro p e s M args below meth c hx hb hr hG hown hin hlocks hml hW hS ls hl
  unfold fX7_afterCome at hs0
  have hJ72_0 : ∀ (v4j10 : Int32) (v5j10 : Int64) (v7j10 : Int32) (s0j10 : Int64) (H : Heap) (locs : List Loc) (ls : Array Slot) (hl : lv_has ls 10 [(4, .int v4j10), (5, .long v5j10), (7, .int v7j10)]) (hs0 : fX7_afterCome_J72 xkr_1 xkr_2 v4j10 v5j10 v7j10 s0j10 = X0) (hW : GW D cy (gA N q s.heap.size) N q m0 a0 s H) (hS : va_S (gA N q s.heap.size) s.heap H locs), W p l e ({ frames := 2, cells := 0, slots := 0, locals := 44 } : Room) s M args below meth c H locs 0 0 (MQ below (va_Ql (fun (r : Int64) (u : (Nat → Value) × (Nat → vp_A)) => r = X0 ∧ u.1 = m0 ∧ u.2 = a0) (gB D cy N q s.heap.size) (gA N q s.heap.size)) args s 0 0 (gA N q s.heap.size)) (F0 M 72 ls [.long s0j10]) := by
    intro v4j10 v5j10 v7j10 s0j10 H locs ls hl hs0 hW hS
    unfold fX7_afterCome_J72 at hs0
    refine lv_lstore (lv' := [(8, .long s0j10), (4, .int v4j10), (5, .long v5j10), (7, .int v7j10)]) hx hb dX7_afterCome_72 hl (by decide) rfl (fun ls hl => ?_)
    refine lv_lload hx hb dX7_afterCome_74 (lv_at hl 2 rfl) ?_
    refine lv_iload hx hb dX7_afterCome_76 (lv_at hl 3 rfl) ?_
    refine lv_iload hx hb dX7_afterCome_78 (lv_at hl 1 rfl) ?_
    refine lv_iconst (v := 0) hx hb dX7_afterCome_80 (by decide) ?_
    refine lv_iconst (v := 0) hx hb dX7_afterCome_81 (by decide) ?_
    refine g_SlR (n := 5) hx hb hml hown hG hW hS [.long v5j10, .int v7j10, .int v4j10, .int 0, .int 0] (kX7_withSender hN v5j10 v7j10 v4j10 0 0) rfl (gd_S gx477 gx272 gx39 gx273) rfl rfl (by decide) ⟨Nat.le_of_ble_eq_true rfl, Nat.le_of_ble_eq_true rfl⟩ rfl hl (Nat.le_of_ble_eq_true rfl) ⟨Nat.zero_le _, Nat.zero_le _⟩ dX7_afterCome_82 (fun H locs hW hS => ?_)
    refine lv_lload hx hb dX7_afterCome_85 (lv_at hl 0 rfl) ?_
    refine lv_bipush (v := 52) hx hb dX7_afterCome_87 (by decide) ?_
    refine lv_lshl hx hb dX7_afterCome_89 rfl ?_
    refine lv_lor hx hb dX7_afterCome_90 ?_
    subst hs0
    exact W.lret hx hb hr (fun t ht hw => ⟨⟨_, (m0, a0), rfl, ⟨rfl, rfl, rfl⟩, g_end hW ht hw⟩, hS.F ht⟩) hS.2.2 dX7_afterCome_91 hlocks
  have hJ54_0 : ∀ (v1j7 : Int64) (v4j7 : Int32) (v5j7 : Int64) (s0j7 : Int32) (H : Heap) (locs : List Loc) (ls : Array Slot) (hl : lv_has ls 10 [(1, .long v1j7), (4, .int v4j7), (5, .long v5j7)]) (hs0 : fX7_afterCome_J54 xkr_1 xkr_2 v1j7 v4j7 v5j7 s0j7 = X0) (hW : GW D cy (gA N q s.heap.size) N q m0 a0 s H) (hS : va_S (gA N q s.heap.size) s.heap H locs), W p l e ({ frames := 2, cells := 0, slots := 0, locals := 44 } : Room) s M args below meth c H locs 0 0 (MQ below (va_Ql (fun (r : Int64) (u : (Nat → Value) × (Nat → vp_A)) => r = X0 ∧ u.1 = m0 ∧ u.2 = a0) (gB D cy N q s.heap.size) (gA N q s.heap.size)) args s 0 0 (gA N q s.heap.size)) (F0 M 54 ls [.int s0j7]) := by
    intro v1j7 v4j7 v5j7 s0j7 H locs ls hl hs0 hW hS
    unfold fX7_afterCome_J54 at hs0
    refine lv_istore (lv' := [(7, .int s0j7), (1, .long v1j7), (4, .int v4j7), (5, .long v5j7)]) hx hb dX7_afterCome_54 hl (by decide) rfl (fun ls hl => ?_)
    refine lv_lload_n hx hb dX7_afterCome_56 rfl (lv_at hl 1 rfl) ?_
    refine g_SiR (n := 1) hx hb hml hown hG hW hS [.long v1j7] (kX7_takenOf hN v1j7) rfl (gd_S gx453 gx454 gx39 gx455) rfl rfl (by decide) ⟨Nat.le_of_ble_eq_true rfl, Nat.le_of_ble_eq_true rfl⟩ rfl hl (Nat.le_of_ble_eq_true rfl) ⟨Nat.zero_le _, Nat.zero_le _⟩ dX7_afterCome_57 (fun H locs hW hS => ?_)
    refine lv_if_eq (tgt := 69) hx hb dX7_afterCome_60 (by decide) (fun c9 => ?_) (fun c9 => ?_)
    · rw [if_pos c9] at hs0
      refine lv_ldc2 (v := 5) hx hb hown (hG _ gx466) dX7_afterCome_69 ?_
      exact hJ72_0 v4j7 v5j7 s0j7 5 _ _ ls (lv_sub hl [2, 3, 0] rfl) hs0 hW hS
    · rw [if_neg c9] at hs0
      refine lv_ldc2 (v := 4) hx hb hown (hG _ gx465) dX7_afterCome_63 ?_
      refine lv_goto (tgt := 72) hx hb dX7_afterCome_66 (by decide) ?_
      exact hJ72_0 v4j7 v5j7 s0j7 4 _ _ ls (lv_sub hl [2, 3, 0] rfl) hs0 hW hS
  refine lv_lload_n hx hb dX7_afterCome_0 rfl (lv_at hl 1 rfl) ?_
  refine lv_lconst (v := 1) hx hb dX7_afterCome_1 (by decide) ?_
  refine lv_iload_n hx hb dX7_afterCome_2 rfl (lv_at hl 2 rfl) ?_
  refine g_SiR (n := 1) hx hb hml hown hG hW hS [.int p3] (kX7_lettersAt hN p3) rfl (gd_S gx405 gx369 gx39 gx370) rfl rfl (by decide) ⟨Nat.le_of_ble_eq_true rfl, Nat.le_of_ble_eq_true rfl⟩ rfl hl (Nat.le_of_ble_eq_true rfl) ⟨Nat.zero_le _, Nat.zero_le _⟩ dX7_afterCome_3 (fun H locs hW hS => ?_)
  refine lv_lshl hx hb dX7_afterCome_6 rfl ?_
  refine lv_lsub hx hb dX7_afterCome_7 ?_
  refine lv_lstore (lv' := [(5, .long (p1 - ((1 : Int64) <<< ((fX7_lettersAt p3).toInt64 &&& 63)))), (0, .ref (q kr)), (1, .long p1), (3, .int p3), (4, .int p4)]) hx hb dX7_afterCome_8 hl (by decide) rfl (fun ls hl => ?_)
  refine lv_lload_n hx hb dX7_afterCome_10 rfl (lv_at hl 2 rfl) ?_
  refine g_SiR (n := 1) hx hb hml hown hG hW hS [.long p1] (kX7_labelOf hN p1) rfl (gd_S gx467 gx468 gx39 gx469) rfl rfl (by decide) ⟨Nat.le_of_ble_eq_true rfl, Nat.le_of_ble_eq_true rfl⟩ rfl hl (Nat.le_of_ble_eq_true rfl) ⟨Nat.zero_le _, Nat.zero_le _⟩ dX7_afterCome_11 (fun H locs hW hS => ?_)
  refine lv_iload_n hx hb dX7_afterCome_14 rfl (lv_at hl 3 rfl) ?_
  refine lv_icmp_eq (tgt := 21) hx hb dX7_afterCome_15 (by decide) (fun c3 => ?_) (fun c3 => ?_)
  · rw [if_pos c3] at hs0
    refine lv_aload_n hx hb dX7_afterCome_21 rfl (lv_at hl 1 rfl) ?_
    refine lv_lload_n hx hb dX7_afterCome_22 rfl (lv_at hl 2 rfl) ?_
    refine lv_iload_n hx hb dX7_afterCome_23 rfl (lv_at hl 3 rfl) ?_
    refine g_ViR (n := 2) hx hb hml hown hG hW hS [.long p1, .int p3] (kX7_goesOnBy hN hkr hgk h_xkr_2 p1 p3) hkr hgk (by decide) rfl rfl (gd_V gx470 gx471 gx472 gx39 gx473) rfl rfl (by decide) ⟨Nat.le_of_ble_eq_true rfl, Nat.le_of_ble_eq_true rfl⟩ rfl hl (Nat.le_of_ble_eq_true rfl) ⟨Nat.zero_le _, Nat.zero_le _⟩ dX7_afterCome_24 (fun H locs hW hS => ?_)
    refine lv_if_ne (tgt := 37) hx hb dX7_afterCome_27 (by decide) (fun c5 => ?_) (fun c5 => ?_)
    · rw [if_neg c5] at hs0
      refine lv_iload_n hx hb dX7_afterCome_37 rfl (lv_at hl 3 rfl) ?_
      refine lv_iconst (v := 1) hx hb dX7_afterCome_38 (by decide) ?_
      refine lv_iadd hx hb dX7_afterCome_39 ?_
      refine lv_aload_n hx hb dX7_afterCome_40 rfl (lv_at hl 1 rfl) ?_
      refine gf7_1 hx hb hG hown hW (o := kr) hkr hgk (v := .int xkr_1) h_xkr_1 gx151 dX7_afterCome_41 ?_
      refine lv_icmp_ge (tgt := 53) hx hb dX7_afterCome_44 (by decide) (fun c6 => ?_) (fun c6 => ?_)
      · rw [if_pos c6] at hs0
        refine lv_iconst (v := 0) hx hb dX7_afterCome_53 (by decide) ?_
        exact hJ54_0 p1 p4 (p1 - ((1 : Int64) <<< ((fX7_lettersAt p3).toInt64 &&& 63))) 0 _ _ ls (lv_sub hl [2, 4, 0] rfl) hs0 hW hS
      · rw [if_neg c6] at hs0
        refine lv_iload_n hx hb dX7_afterCome_47 rfl (lv_at hl 3 rfl) ?_
        refine lv_iconst (v := 1) hx hb dX7_afterCome_48 (by decide) ?_
        refine lv_iadd hx hb dX7_afterCome_49 ?_
        refine lv_goto (tgt := 54) hx hb dX7_afterCome_50 (by decide) ?_
        exact hJ54_0 p1 p4 (p1 - ((1 : Int64) <<< ((fX7_lettersAt p3).toInt64 &&& 63))) (p3 + 1) _ _ ls (lv_sub hl [2, 4, 0] rfl) hs0 hW hS
    · rw [if_pos c5] at hs0
      refine lv_lload hx hb dX7_afterCome_30 (lv_at hl 0 rfl) ?_
      refine lv_ldc2 (v := 8796093022208) hx hb hown (hG _ gx464) dX7_afterCome_32 ?_
      refine lv_ladd hx hb dX7_afterCome_35 ?_
      subst hs0
      exact W.lret hx hb hr (fun t ht hw => ⟨⟨_, (m0, a0), rfl, ⟨rfl, rfl, rfl⟩, g_end hW ht hw⟩, hS.F ht⟩) hS.2.2 dX7_afterCome_36 hlocks
  · rw [if_neg c3] at hs0
    refine lv_lload hx hb dX7_afterCome_18 (lv_at hl 0 rfl) ?_
    subst hs0
    exact W.lret hx hb hr (fun t ht hw => ⟨⟨_, (m0, a0), rfl, ⟨rfl, rfl, rfl⟩, g_end hW ht hw⟩, hS.F ht⟩) hS.2.2 dX7_afterCome_20 hlocks
-- HealLink$Rules.after (JI)J
def fX7_after (xkr_0 : Int32) (xkr_1 : Int32) (xkr_2 : Int32) (xkr_3 : Int32) (p1 : Int64) (p3 : Int32) : Int64 := (if (fX0_whichOf p3) = 0 then (fX7_afterSend xkr_0 p1) else (if (fX0_whichOf p3) = 1 then (fX7_afterArrive xkr_0 xkr_3 p1 (fX0_kindOf p3)) else (if (fX0_whichOf p3) = 2 then (fX7_afterCome xkr_1 xkr_2 p1 ((fX0_kindOf p3) >>> (1 &&& 31)) (fX0_toldOf p3)) else (if (fX0_whichOf p3) = 3 then (p1 - ((1 : Int64) <<< ((fX7_packetsAt (fX0_kindOf p3)).toInt64 &&& 63))) ||| (72057594037927936 : Int64) else (p1 - ((1 : Int64) <<< ((fX7_lettersAt ((fX0_kindOf p3) >>> (1 &&& 31))).toInt64 &&& 63))) ||| (144115188075855872 : Int64)))))
theorem dX7_after_0 : decode cX7_after 0 = .ok (.iload_n 3, 1) := by decide +kernel
theorem dX7_after_1 : decode cX7_after 1 = .ok (.invokestatic 78, 3) := by decide +kernel
theorem dX7_after_4 : decode cX7_after 4 = .ok (.istore 4, 2) := by decide +kernel
theorem dX7_after_6 : decode cX7_after 6 = .ok (.iload_n 3, 1) := by decide +kernel
theorem dX7_after_7 : decode cX7_after 7 = .ok (.invokestatic 83, 3) := by decide +kernel
theorem dX7_after_10 : decode cX7_after 10 = .ok (.tableswitch 72 0 3 #[30, 36, 44, 58], 30) := by decide +kernel
theorem dX7_after_40 : decode cX7_after 40 = .ok (.aload_n 0, 1) := by decide +kernel
theorem dX7_after_41 : decode cX7_after 41 = .ok (.lload_n 1, 1) := by decide +kernel
theorem dX7_after_42 : decode cX7_after 42 = .ok (.invokevirtual 86, 3) := by decide +kernel
theorem dX7_after_45 : decode cX7_after 45 = .ok (.lreturn, 1) := by decide +kernel
theorem dX7_after_46 : decode cX7_after 46 = .ok (.aload_n 0, 1) := by decide +kernel
theorem dX7_after_47 : decode cX7_after 47 = .ok (.lload_n 1, 1) := by decide +kernel
theorem dX7_after_48 : decode cX7_after 48 = .ok (.iload 4, 2) := by decide +kernel
theorem dX7_after_50 : decode cX7_after 50 = .ok (.invokevirtual 90, 3) := by decide +kernel
theorem dX7_after_53 : decode cX7_after 53 = .ok (.lreturn, 1) := by decide +kernel
theorem dX7_after_54 : decode cX7_after 54 = .ok (.aload_n 0, 1) := by decide +kernel
theorem dX7_after_55 : decode cX7_after 55 = .ok (.lload_n 1, 1) := by decide +kernel
theorem dX7_after_56 : decode cX7_after 56 = .ok (.iload 4, 2) := by decide +kernel
theorem dX7_after_58 : decode cX7_after 58 = .ok (.iconst 1, 1) := by decide +kernel
theorem dX7_after_59 : decode cX7_after 59 = .ok (.ishr, 1) := by decide +kernel
theorem dX7_after_60 : decode cX7_after 60 = .ok (.iload_n 3, 1) := by decide +kernel
theorem dX7_after_61 : decode cX7_after 61 = .ok (.invokestatic 94, 3) := by decide +kernel
theorem dX7_after_64 : decode cX7_after 64 = .ok (.invokevirtual 97, 3) := by decide +kernel
theorem dX7_after_67 : decode cX7_after 67 = .ok (.lreturn, 1) := by decide +kernel
theorem dX7_after_68 : decode cX7_after 68 = .ok (.lload_n 1, 1) := by decide +kernel
theorem dX7_after_69 : decode cX7_after 69 = .ok (.lconst 1, 1) := by decide +kernel
theorem dX7_after_70 : decode cX7_after 70 = .ok (.iload 4, 2) := by decide +kernel
theorem dX7_after_72 : decode cX7_after 72 = .ok (.invokestatic 67, 3) := by decide +kernel
theorem dX7_after_75 : decode cX7_after 75 = .ok (.lshl, 1) := by decide +kernel
theorem dX7_after_76 : decode cX7_after 76 = .ok (.lsub, 1) := by decide +kernel
theorem dX7_after_77 : decode cX7_after 77 = .ok (.ldc2_w 101, 3) := by decide +kernel
theorem dX7_after_80 : decode cX7_after 80 = .ok (.lor, 1) := by decide +kernel
theorem dX7_after_81 : decode cX7_after 81 = .ok (.lreturn, 1) := by decide +kernel
theorem dX7_after_82 : decode cX7_after 82 = .ok (.lload_n 1, 1) := by decide +kernel
theorem dX7_after_83 : decode cX7_after 83 = .ok (.lconst 1, 1) := by decide +kernel
theorem dX7_after_84 : decode cX7_after 84 = .ok (.iload 4, 2) := by decide +kernel
theorem dX7_after_86 : decode cX7_after 86 = .ok (.iconst 1, 1) := by decide +kernel
theorem dX7_after_87 : decode cX7_after 87 = .ok (.ishr, 1) := by decide +kernel
theorem dX7_after_88 : decode cX7_after 88 = .ok (.invokestatic 75, 3) := by decide +kernel
theorem dX7_after_91 : decode cX7_after 91 = .ok (.lshl, 1) := by decide +kernel
theorem dX7_after_92 : decode cX7_after 92 = .ok (.lsub, 1) := by decide +kernel
theorem dX7_after_93 : decode cX7_after 93 = .ok (.ldc2_w 103, 3) := by decide +kernel
theorem dX7_after_96 : decode cX7_after 96 = .ok (.lor, 1) := by decide +kernel
theorem dX7_after_97 : decode cX7_after 97 = .ok (.lreturn, 1) := by decide +kernel
set_option maxHeartbeats 4000000 in
set_option maxRecDepth 100000 in
theorem kX7_after {l : Launch} {D : va_G} {cy : Nat → ClassId} {N : Nat} {q : Nat → Nat} {m0 : Nat → Value} {a0 : Nat → vp_A} {sz : Nat} (hN : 105 ≤ N) {kr : Nat} (hkr : kr < N) (hgk : gk kr = 7) {xkr_0 : Int32} (h_xkr_0 : m0 (100 * kr + 0) = .int xkr_0) {xkr_1 : Int32} (h_xkr_1 : m0 (100 * kr + 1) = .int xkr_1) {xkr_2 : Int32} (h_xkr_2 : m0 (100 * kr + 2) = .int xkr_2) {xkr_3 : Int32} (h_xkr_3 : m0 (100 * kr + 3) = .int xkr_3) (p1 : Int64) (p3 : Int32) : gMl l yX7_after cX7_after 5 (some .long) ({ frames := 3, cells := 0, slots := 0, locals := 73 } : Room) D cy N q m0 a0 sz [.ref (q kr), .long p1, .int p3] (fun r m' a' => r = (fX7_after xkr_0 xkr_1 xkr_2 xkr_3 p1 p3) ∧ m' = m0 ∧ a' = a0) := by
  generalize hs0 : fX7_after xkr_0 xkr_1 xkr_2 xkr_3 p1 p3 = X0
  refine g_ofl (by decide) (Nat.le_of_ble_eq_true rfl) ?_
  intro p e s M args below meth c hx hb hr hG hown hin hlocks hml hW hS ls hl
  unfold fX7_after at hs0
  refine lv_iload_n hx hb dX7_after_0 rfl (lv_at hl 2 rfl) ?_
  refine g_SiR (n := 1) hx hb hml hown hG hW hS [.int p3] (kX0_kindOf hN p3) rfl (gd_S gx428 gx429 gx23 gx430) rfl rfl (by decide) ⟨Nat.le_of_ble_eq_true rfl, Nat.le_of_ble_eq_true rfl⟩ rfl hl (Nat.le_of_ble_eq_true rfl) ⟨Nat.zero_le _, Nat.zero_le _⟩ dX7_after_1 (fun H locs hW hS => ?_)
  refine lv_istore (lv' := [(4, .int (fX0_kindOf p3)), (0, .ref (q kr)), (1, .long p1), (3, .int p3)]) hx hb dX7_after_4 hl (by decide) rfl (fun ls hl => ?_)
  refine lv_iload_n hx hb dX7_after_6 rfl (lv_at hl 3 rfl) ?_
  refine g_SiR (n := 1) hx hb hml hown hG hW hS [.int p3] (kX0_whichOf hN p3) rfl (gd_S gx431 gx432 gx23 gx433) rfl rfl (by decide) ⟨Nat.le_of_ble_eq_true rfl, Nat.le_of_ble_eq_true rfl⟩ rfl hl (Nat.le_of_ble_eq_true rfl) ⟨Nat.zero_le _, Nat.zero_le _⟩ dX7_after_7 (fun H locs hW hS => ?_)
  by_cases c3 : (fX0_whichOf p3) = 0
  · rw [if_pos c3] at hs0
    refine lv_tableIn (tgt := 40) hx hb dX7_after_10 (by rw [c3]; decide) (by rw [c3]; decide) (by rw [c3]; rfl) (by decide) ?_
    refine lv_aload_n hx hb dX7_after_40 rfl (lv_at hl 1 rfl) ?_
    refine lv_lload_n hx hb dX7_after_41 rfl (lv_at hl 2 rfl) ?_
    refine g_VlR (n := 1) hx hb hml hown hG hW hS [.long p1] (kX7_afterSend hN hkr hgk h_xkr_0 p1) hkr hgk (by decide) rfl rfl (gd_V gx434 gx435 gx436 gx39 gx437) rfl rfl (by decide) ⟨Nat.le_of_ble_eq_true rfl, Nat.le_of_ble_eq_true rfl⟩ rfl hl (Nat.le_of_ble_eq_true rfl) ⟨Nat.zero_le _, Nat.zero_le _⟩ dX7_after_42 (fun H locs hW hS => ?_)
    subst hs0
    exact W.lret hx hb hr (fun t ht hw => ⟨⟨_, (m0, a0), rfl, ⟨rfl, rfl, rfl⟩, g_end hW ht hw⟩, hS.F ht⟩) hS.2.2 dX7_after_45 hlocks
  · rw [if_neg c3] at hs0
    by_cases c5 : (fX0_whichOf p3) = 1
    · rw [if_pos c5] at hs0
      refine lv_tableIn (tgt := 46) hx hb dX7_after_10 (by rw [c5]; decide) (by rw [c5]; decide) (by rw [c5]; rfl) (by decide) ?_
      refine lv_aload_n hx hb dX7_after_46 rfl (lv_at hl 1 rfl) ?_
      refine lv_lload_n hx hb dX7_after_47 rfl (lv_at hl 2 rfl) ?_
      refine lv_iload hx hb dX7_after_48 (lv_at hl 0 rfl) ?_
      refine g_VlR (n := 2) hx hb hml hown hG hW hS [.long p1, .int (fX0_kindOf p3)] (kX7_afterArrive hN hkr hgk h_xkr_0 h_xkr_3 p1 (fX0_kindOf p3)) hkr hgk (by decide) rfl rfl (gd_V gx439 gx440 gx441 gx39 gx442) rfl rfl (by decide) ⟨Nat.le_of_ble_eq_true rfl, Nat.le_of_ble_eq_true rfl⟩ rfl hl (Nat.le_of_ble_eq_true rfl) ⟨Nat.zero_le _, Nat.zero_le _⟩ dX7_after_50 (fun H locs hW hS => ?_)
      subst hs0
      exact W.lret hx hb hr (fun t ht hw => ⟨⟨_, (m0, a0), rfl, ⟨rfl, rfl, rfl⟩, g_end hW ht hw⟩, hS.F ht⟩) hS.2.2 dX7_after_53 hlocks
    · rw [if_neg c5] at hs0
      by_cases c7 : (fX0_whichOf p3) = 2
      · rw [if_pos c7] at hs0
        refine lv_tableIn (tgt := 54) hx hb dX7_after_10 (by rw [c7]; decide) (by rw [c7]; decide) (by rw [c7]; rfl) (by decide) ?_
        refine lv_aload_n hx hb dX7_after_54 rfl (lv_at hl 1 rfl) ?_
        refine lv_lload_n hx hb dX7_after_55 rfl (lv_at hl 2 rfl) ?_
        refine lv_iload hx hb dX7_after_56 (lv_at hl 0 rfl) ?_
        refine lv_iconst (v := 1) hx hb dX7_after_58 (by decide) ?_
        refine lv_ishr hx hb dX7_after_59 ?_
        refine lv_iload_n hx hb dX7_after_60 rfl (lv_at hl 3 rfl) ?_
        refine g_SiR (n := 1) hx hb hml hown hG hW hS [.int p3] (kX0_toldOf hN p3) rfl (gd_S gx457 gx458 gx23 gx459) rfl rfl (by decide) ⟨Nat.le_of_ble_eq_true rfl, Nat.le_of_ble_eq_true rfl⟩ rfl hl (Nat.le_of_ble_eq_true rfl) ⟨Nat.zero_le _, Nat.zero_le _⟩ dX7_after_61 (fun H locs hW hS => ?_)
        refine g_VlR (n := 3) hx hb hml hown hG hW hS [.long p1, .int ((fX0_kindOf p3) >>> (1 &&& 31)), .int (fX0_toldOf p3)] (kX7_afterCome hN hkr hgk h_xkr_1 h_xkr_2 p1 ((fX0_kindOf p3) >>> (1 &&& 31)) (fX0_toldOf p3)) hkr hgk (by decide) rfl rfl (gd_V gx460 gx461 gx462 gx39 gx463) rfl rfl (by decide) ⟨Nat.le_of_ble_eq_true rfl, Nat.le_of_ble_eq_true rfl⟩ rfl hl (Nat.le_of_ble_eq_true rfl) ⟨Nat.zero_le _, Nat.zero_le _⟩ dX7_after_64 (fun H locs hW hS => ?_)
        subst hs0
        exact W.lret hx hb hr (fun t ht hw => ⟨⟨_, (m0, a0), rfl, ⟨rfl, rfl, rfl⟩, g_end hW ht hw⟩, hS.F ht⟩) hS.2.2 dX7_after_67 hlocks
      · rw [if_neg c7] at hs0
        by_cases c10 : (fX0_whichOf p3) = 3
        · rw [if_pos c10] at hs0
          refine lv_tableIn (tgt := 68) hx hb dX7_after_10 (by rw [c10]; decide) (by rw [c10]; decide) (by rw [c10]; rfl) (by decide) ?_
          refine lv_lload_n hx hb dX7_after_68 rfl (lv_at hl 2 rfl) ?_
          refine lv_lconst (v := 1) hx hb dX7_after_69 (by decide) ?_
          refine lv_iload hx hb dX7_after_70 (lv_at hl 0 rfl) ?_
          refine g_SiR (n := 1) hx hb hml hown hG hW hS [.int (fX0_kindOf p3)] (kX7_packetsAt hN (fX0_kindOf p3)) rfl (gd_S gx403 gx340 gx39 gx341) rfl rfl (by decide) ⟨Nat.le_of_ble_eq_true rfl, Nat.le_of_ble_eq_true rfl⟩ rfl hl (Nat.le_of_ble_eq_true rfl) ⟨Nat.zero_le _, Nat.zero_le _⟩ dX7_after_72 (fun H locs hW hS => ?_)
          refine lv_lshl hx hb dX7_after_75 rfl ?_
          refine lv_lsub hx hb dX7_after_76 ?_
          refine lv_ldc2 (v := 72057594037927936) hx hb hown (hG _ gx426) dX7_after_77 ?_
          refine lv_lor hx hb dX7_after_80 ?_
          subst hs0
          exact W.lret hx hb hr (fun t ht hw => ⟨⟨_, (m0, a0), rfl, ⟨rfl, rfl, rfl⟩, g_end hW ht hw⟩, hS.F ht⟩) hS.2.2 dX7_after_81 hlocks
        · rw [if_neg c10] at hs0
          have n3 := ti_ne (n := 0) c3 (by decide)
          have n5 := ti_ne (n := 1) c5 (by decide)
          have n7 := ti_ne (n := 2) c7 (by decide)
          have n10 := ti_ne (n := 3) c10 (by decide)
          refine lv_tableOut (tgt := 82) hx hb dX7_after_10 (by omega) (by decide) ?_
          refine lv_lload_n hx hb dX7_after_82 rfl (lv_at hl 2 rfl) ?_
          refine lv_lconst (v := 1) hx hb dX7_after_83 (by decide) ?_
          refine lv_iload hx hb dX7_after_84 (lv_at hl 0 rfl) ?_
          refine lv_iconst (v := 1) hx hb dX7_after_86 (by decide) ?_
          refine lv_ishr hx hb dX7_after_87 ?_
          refine g_SiR (n := 1) hx hb hml hown hG hW hS [.int ((fX0_kindOf p3) >>> (1 &&& 31))] (kX7_lettersAt hN ((fX0_kindOf p3) >>> (1 &&& 31))) rfl (gd_S gx405 gx369 gx39 gx370) rfl rfl (by decide) ⟨Nat.le_of_ble_eq_true rfl, Nat.le_of_ble_eq_true rfl⟩ rfl hl (Nat.le_of_ble_eq_true rfl) ⟨Nat.zero_le _, Nat.zero_le _⟩ dX7_after_88 (fun H locs hW hS => ?_)
          refine lv_lshl hx hb dX7_after_91 rfl ?_
          refine lv_lsub hx hb dX7_after_92 ?_
          refine lv_ldc2 (v := 144115188075855872) hx hb hown (hG _ gx427) dX7_after_93 ?_
          refine lv_lor hx hb dX7_after_96 ?_
          subst hs0
          exact W.lret hx hb hr (fun t ht hw => ⟨⟨_, (m0, a0), rfl, ⟨rfl, rfl, rfl⟩, g_end hW ht hw⟩, hS.F ht⟩) hS.2.2 dX7_after_97 hlocks
-- HealLink$Rules.fillings (I)J
def fX7_fillings (xkr_0 : Int32) (p1 : Int32) : Option (Int64) := (if xkr_0 ≤ 1 then some (((1 + p1) + 0).toInt64) else some (((1 + p1) + ((p1 * (p1 + 1)) / 2)).toInt64))
theorem dX7_fillings_0 : decode cX7_fillings 0 = .ok (.iconst 1, 1) := by decide +kernel
theorem dX7_fillings_1 : decode cX7_fillings 1 = .ok (.iload_n 1, 1) := by decide +kernel
theorem dX7_fillings_2 : decode cX7_fillings 2 = .ok (.iadd, 1) := by decide +kernel
theorem dX7_fillings_3 : decode cX7_fillings 3 = .ok (.aload_n 0, 1) := by decide +kernel
theorem dX7_fillings_4 : decode cX7_fillings 4 = .ok (.getfield 11, 3) := by decide +kernel
theorem dX7_fillings_7 : decode cX7_fillings 7 = .ok (.iconst 1, 1) := by decide +kernel
theorem dX7_fillings_8 : decode cX7_fillings 8 = .ok (.if_icmp .le 13, 3) := by decide +kernel
theorem dX7_fillings_11 : decode cX7_fillings 11 = .ok (.iload_n 1, 1) := by decide +kernel
theorem dX7_fillings_12 : decode cX7_fillings 12 = .ok (.iload_n 1, 1) := by decide +kernel
theorem dX7_fillings_13 : decode cX7_fillings 13 = .ok (.iconst 1, 1) := by decide +kernel
theorem dX7_fillings_14 : decode cX7_fillings 14 = .ok (.iadd, 1) := by decide +kernel
theorem dX7_fillings_15 : decode cX7_fillings 15 = .ok (.imul, 1) := by decide +kernel
theorem dX7_fillings_16 : decode cX7_fillings 16 = .ok (.iconst 2, 1) := by decide +kernel
theorem dX7_fillings_17 : decode cX7_fillings 17 = .ok (.idiv, 1) := by decide +kernel
theorem dX7_fillings_18 : decode cX7_fillings 18 = .ok (.goto 4, 3) := by decide +kernel
theorem dX7_fillings_21 : decode cX7_fillings 21 = .ok (.iconst 0, 1) := by decide +kernel
theorem dX7_fillings_22 : decode cX7_fillings 22 = .ok (.iadd, 1) := by decide +kernel
theorem dX7_fillings_23 : decode cX7_fillings 23 = .ok (.i2l, 1) := by decide +kernel
theorem dX7_fillings_24 : decode cX7_fillings 24 = .ok (.lreturn, 1) := by decide +kernel
set_option maxHeartbeats 4000000 in
set_option maxRecDepth 100000 in
theorem kX7_fillings {l : Launch} {D : va_G} {cy : Nat → ClassId} {N : Nat} {q : Nat → Nat} {m0 : Nat → Value} {a0 : Nat → vp_A} {sz : Nat} (hN : 105 ≤ N) {kr : Nat} (hkr : kr < N) (hgk : gk kr = 7) {xkr_0 : Int32} (h_xkr_0 : m0 (100 * kr + 0) = .int xkr_0) (p1 : Int32) {X0 : Int64} (hs0 : fX7_fillings xkr_0 p1 = some X0) : gMl l yX7_fillings cX7_fillings 2 (some .long) ({ frames := 0, cells := 0, slots := 0, locals := 0 } : Room) D cy N q m0 a0 sz [.ref (q kr), .int p1] (fun r m' a' => r = X0 ∧ m' = m0 ∧ a' = a0) := by
  refine g_ofl (by decide) (Nat.le_of_ble_eq_true rfl) ?_
  intro p e s M args below meth c hx hb hr hG hown hin hlocks hml hW hS ls hl
  unfold fX7_fillings at hs0
  refine lv_iconst (v := 1) hx hb dX7_fillings_0 (by decide) ?_
  refine lv_iload_n hx hb dX7_fillings_1 rfl (lv_at hl 1 rfl) ?_
  refine lv_iadd hx hb dX7_fillings_2 ?_
  refine lv_aload_n hx hb dX7_fillings_3 rfl (lv_at hl 0 rfl) ?_
  refine gf7_0 hx hb hG hown hW (o := kr) hkr hgk (v := .int xkr_0) h_xkr_0 gx150 dX7_fillings_4 ?_
  refine lv_iconst (v := 1) hx hb dX7_fillings_7 (by decide) ?_
  refine lv_icmp_le (tgt := 21) hx hb dX7_fillings_8 (by decide) (fun c1 => ?_) (fun c1 => ?_)
  · rw [if_pos c1] at hs0
    refine lv_iconst (v := 0) hx hb dX7_fillings_21 (by decide) ?_
    refine lv_iadd hx hb dX7_fillings_22 ?_
    refine lv_i2l hx hb dX7_fillings_23 rfl ?_
    have hs0 := Option.some.inj hs0
    subst hs0
    exact W.lret hx hb hr (fun t ht hw => ⟨⟨_, (m0, a0), rfl, ⟨rfl, rfl, rfl⟩, g_end hW ht hw⟩, hS.F ht⟩) hS.2.2 dX7_fillings_24 hlocks
  · rw [if_neg c1] at hs0
    refine lv_iload_n hx hb dX7_fillings_11 rfl (lv_at hl 1 rfl) ?_
    refine lv_iload_n hx hb dX7_fillings_12 rfl (lv_at hl 1 rfl) ?_
    refine lv_iconst (v := 1) hx hb dX7_fillings_13 (by decide) ?_
    refine lv_iadd hx hb dX7_fillings_14 ?_
    refine lv_imul hx hb dX7_fillings_15 ?_
    refine lv_iconst (v := 2) hx hb dX7_fillings_16 (by decide) ?_
    refine lv_idiv hx hb dX7_fillings_17 (by decide) ?_
    refine lv_goto (tgt := 22) hx hb dX7_fillings_18 (by decide) ?_
    refine lv_iadd hx hb dX7_fillings_22 ?_
    refine lv_i2l hx hb dX7_fillings_23 rfl ?_
    have hs0 := Option.some.inj hs0
    subst hs0
    exact W.lret hx hb hr (fun t ht hw => ⟨⟨_, (m0, a0), rfl, ⟨rfl, rfl, rfl⟩, g_end hW ht hw⟩, hS.F ht⟩) hS.2.2 dX7_fillings_24 hlocks
-- HealLink$Rules.allStates ()J
def fX7_allStates_S24 (F : Nat) (xkr_0 : Int32) (xkr_1 : Int32) (xkr_2 : Int32) (xkr_3 : Int32) (v1 : Int64) (v3 : Int32) : Option ((Int64) ⊕ (Int64 × Int32)) := (if (2 * xkr_1) ≤ v3 then some (Sum.inl v1) else some (Sum.inr (v1 * xkr_3.toInt64, v3 + 1)))
def fX7_allStates (F : Nat) (xkr_0 : Int32) (xkr_1 : Int32) (xkr_2 : Int32) (xkr_3 : Int32) : Option (Int64) := (gloop (fun u1 : (Int64 × Int32) => fX7_allStates_S24 F xkr_0 xkr_1 xkr_2 xkr_3 u1.1 u1.2) F (((4 * xkr_1.toInt64) * xkr_1.toInt64) * xkr_2.toInt64, 0)).bind (fun t1_48 => ((fX7_fillings xkr_0 (2 * xkr_1)).bind (fun r3 => ((fX7_fillings xkr_0 xkr_1).bind (fun r4 => some ((t1_48 * r3) * r4))))))
theorem dX7_allStates_0 : decode cX7_allStates 0 = .ok (.ldc2_w 141, 3) := by decide +kernel
theorem dX7_allStates_3 : decode cX7_allStates 3 = .ok (.aload_n 0, 1) := by decide +kernel
theorem dX7_allStates_4 : decode cX7_allStates 4 = .ok (.getfield 15, 3) := by decide +kernel
theorem dX7_allStates_7 : decode cX7_allStates 7 = .ok (.i2l, 1) := by decide +kernel
theorem dX7_allStates_8 : decode cX7_allStates 8 = .ok (.lmul, 1) := by decide +kernel
theorem dX7_allStates_9 : decode cX7_allStates 9 = .ok (.aload_n 0, 1) := by decide +kernel
theorem dX7_allStates_10 : decode cX7_allStates 10 = .ok (.getfield 15, 3) := by decide +kernel
theorem dX7_allStates_13 : decode cX7_allStates 13 = .ok (.i2l, 1) := by decide +kernel
theorem dX7_allStates_14 : decode cX7_allStates 14 = .ok (.lmul, 1) := by decide +kernel
theorem dX7_allStates_15 : decode cX7_allStates 15 = .ok (.aload_n 0, 1) := by decide +kernel
theorem dX7_allStates_16 : decode cX7_allStates 16 = .ok (.getfield 18, 3) := by decide +kernel
theorem dX7_allStates_19 : decode cX7_allStates 19 = .ok (.i2l, 1) := by decide +kernel
theorem dX7_allStates_20 : decode cX7_allStates 20 = .ok (.lmul, 1) := by decide +kernel
theorem dX7_allStates_21 : decode cX7_allStates 21 = .ok (.lstore_n 1, 1) := by decide +kernel
theorem dX7_allStates_22 : decode cX7_allStates 22 = .ok (.iconst 0, 1) := by decide +kernel
theorem dX7_allStates_23 : decode cX7_allStates 23 = .ok (.istore_n 3, 1) := by decide +kernel
theorem dX7_allStates_24 : decode cX7_allStates 24 = .ok (.iload_n 3, 1) := by decide +kernel
theorem dX7_allStates_25 : decode cX7_allStates 25 = .ok (.iconst 2, 1) := by decide +kernel
theorem dX7_allStates_26 : decode cX7_allStates 26 = .ok (.aload_n 0, 1) := by decide +kernel
theorem dX7_allStates_27 : decode cX7_allStates 27 = .ok (.getfield 15, 3) := by decide +kernel
theorem dX7_allStates_30 : decode cX7_allStates 30 = .ok (.imul, 1) := by decide +kernel
theorem dX7_allStates_31 : decode cX7_allStates 31 = .ok (.if_icmp .ge 17, 3) := by decide +kernel
theorem dX7_allStates_34 : decode cX7_allStates 34 = .ok (.lload_n 1, 1) := by decide +kernel
theorem dX7_allStates_35 : decode cX7_allStates 35 = .ok (.aload_n 0, 1) := by decide +kernel
theorem dX7_allStates_36 : decode cX7_allStates 36 = .ok (.getfield 21, 3) := by decide +kernel
theorem dX7_allStates_39 : decode cX7_allStates 39 = .ok (.i2l, 1) := by decide +kernel
theorem dX7_allStates_40 : decode cX7_allStates 40 = .ok (.lmul, 1) := by decide +kernel
theorem dX7_allStates_41 : decode cX7_allStates 41 = .ok (.lstore_n 1, 1) := by decide +kernel
theorem dX7_allStates_42 : decode cX7_allStates 42 = .ok (.iinc 3 1, 3) := by decide +kernel
theorem dX7_allStates_45 : decode cX7_allStates 45 = .ok (.goto (-21), 3) := by decide +kernel
theorem dX7_allStates_48 : decode cX7_allStates 48 = .ok (.lload_n 1, 1) := by decide +kernel
theorem dX7_allStates_49 : decode cX7_allStates 49 = .ok (.aload_n 0, 1) := by decide +kernel
theorem dX7_allStates_50 : decode cX7_allStates 50 = .ok (.iconst 2, 1) := by decide +kernel
theorem dX7_allStates_51 : decode cX7_allStates 51 = .ok (.aload_n 0, 1) := by decide +kernel
theorem dX7_allStates_52 : decode cX7_allStates 52 = .ok (.getfield 15, 3) := by decide +kernel
theorem dX7_allStates_55 : decode cX7_allStates 55 = .ok (.imul, 1) := by decide +kernel
theorem dX7_allStates_56 : decode cX7_allStates 56 = .ok (.invokevirtual 149, 3) := by decide +kernel
theorem dX7_allStates_59 : decode cX7_allStates 59 = .ok (.lmul, 1) := by decide +kernel
theorem dX7_allStates_60 : decode cX7_allStates 60 = .ok (.aload_n 0, 1) := by decide +kernel
theorem dX7_allStates_61 : decode cX7_allStates 61 = .ok (.aload_n 0, 1) := by decide +kernel
theorem dX7_allStates_62 : decode cX7_allStates 62 = .ok (.getfield 15, 3) := by decide +kernel
theorem dX7_allStates_65 : decode cX7_allStates 65 = .ok (.invokevirtual 149, 3) := by decide +kernel
theorem dX7_allStates_68 : decode cX7_allStates 68 = .ok (.lmul, 1) := by decide +kernel
theorem dX7_allStates_69 : decode cX7_allStates 69 = .ok (.lreturn, 1) := by decide +kernel
set_option maxHeartbeats 4000000 in
set_option maxRecDepth 100000 in
theorem kX7_allStates {l : Launch} {D : va_G} {cy : Nat → ClassId} {N : Nat} {q : Nat → Nat} {m0 : Nat → Value} {a0 : Nat → vp_A} {sz : Nat} (hN : 105 ≤ N) {kr : Nat} (hkr : kr < N) (hgk : gk kr = 7) {xkr_0 : Int32} (h_xkr_0 : m0 (100 * kr + 0) = .int xkr_0) {xkr_1 : Int32} (h_xkr_1 : m0 (100 * kr + 1) = .int xkr_1) {xkr_2 : Int32} (h_xkr_2 : m0 (100 * kr + 2) = .int xkr_2) {xkr_3 : Int32} (h_xkr_3 : m0 (100 * kr + 3) = .int xkr_3) (F : Nat) {X0 : Int64} (hs0 : fX7_allStates F xkr_0 xkr_1 xkr_2 xkr_3 = some X0) : gMl l yX7_allStates cX7_allStates 4 (some .long) ({ frames := 1, cells := 0, slots := 0, locals := 21 } : Room) D cy N q m0 a0 sz [.ref (q kr)] (fun r m' a' => r = X0 ∧ m' = m0 ∧ a' = a0) := by
  refine g_ofl (by decide) (Nat.le_of_ble_eq_true rfl) ?_
  intro p e s M args below meth c hx hb hr hG hown hin hlocks hml hW hS ls hl
  unfold fX7_allStates at hs0
  refine lv_ldc2 (v := 4) hx hb hown (hG _ gx465) dX7_allStates_0 ?_
  refine lv_aload_n hx hb dX7_allStates_3 rfl (lv_at hl 0 rfl) ?_
  refine gf7_1 hx hb hG hown hW (o := kr) hkr hgk (v := .int xkr_1) h_xkr_1 gx151 dX7_allStates_4 ?_
  refine lv_i2l hx hb dX7_allStates_7 rfl ?_
  refine lv_lmul hx hb dX7_allStates_8 ?_
  refine lv_aload_n hx hb dX7_allStates_9 rfl (lv_at hl 0 rfl) ?_
  refine gf7_1 hx hb hG hown hW (o := kr) hkr hgk (v := .int xkr_1) h_xkr_1 gx151 dX7_allStates_10 ?_
  refine lv_i2l hx hb dX7_allStates_13 rfl ?_
  refine lv_lmul hx hb dX7_allStates_14 ?_
  refine lv_aload_n hx hb dX7_allStates_15 rfl (lv_at hl 0 rfl) ?_
  refine gf7_2 hx hb hG hown hW (o := kr) hkr hgk (v := .int xkr_2) h_xkr_2 gx152 dX7_allStates_16 ?_
  refine lv_i2l hx hb dX7_allStates_19 rfl ?_
  refine lv_lmul hx hb dX7_allStates_20 ?_
  refine lv_lstore_n (lv' := [(1, .long (((4 * xkr_1.toInt64) * xkr_1.toInt64) * xkr_2.toInt64)), (0, .ref (q kr))]) hx hb dX7_allStates_21 rfl hl (by decide) rfl (fun ls hl => ?_)
  refine lv_iconst (v := 0) hx hb dX7_allStates_22 (by decide) ?_
  refine lv_istore_n (lv' := [(3, .int 0), (1, .long (((4 * xkr_1.toInt64) * xkr_1.toInt64) * xkr_2.toInt64)), (0, .ref (q kr))]) hx hb dX7_allStates_23 rfl hl (by decide) rfl (fun ls hl => ?_)
  obtain ⟨r1, hg1, hs0⟩ := obind hs0
  have hE1_48 : ∀ (t1_48 : Int64) (hr1 : t1_48 = r1) (H : Heap) (locs : List Loc) (ls : Array Slot) (hl : lv_has ls 4 [(0, .ref (q kr)), (1, .long t1_48)]) (hW : GW D cy (gA N q s.heap.size) N q m0 a0 s H) (hS : va_S (gA N q s.heap.size) s.heap H locs), W p l e ({ frames := 1, cells := 0, slots := 0, locals := 21 } : Room) s M args below meth c H locs 0 0 (MQ below (va_Ql (fun (r : Int64) (u : (Nat → Value) × (Nat → vp_A)) => r = X0 ∧ u.1 = m0 ∧ u.2 = a0) (gB D cy N q s.heap.size) (gA N q s.heap.size)) args s 0 0 (gA N q s.heap.size)) (F0 M 48 ls []) := by
    intro t1_48 hr1 H locs ls hl hW hS
    subst hr1
    refine lv_lload_n hx hb dX7_allStates_48 rfl (lv_at hl 1 rfl) ?_
    refine lv_aload_n hx hb dX7_allStates_49 rfl (lv_at hl 0 rfl) ?_
    refine lv_iconst (v := 2) hx hb dX7_allStates_50 (by decide) ?_
    refine lv_aload_n hx hb dX7_allStates_51 rfl (lv_at hl 0 rfl) ?_
    refine gf7_1 hx hb hG hown hW (o := kr) hkr hgk (v := .int xkr_1) h_xkr_1 gx151 dX7_allStates_52 ?_
    refine lv_imul hx hb dX7_allStates_55 ?_
    obtain ⟨r3, hf3, hs0⟩ := obind hs0
    refine g_VlR (n := 1) hx hb hml hown hG hW hS [.int (2 * xkr_1)] (kX7_fillings hN hkr hgk h_xkr_0 (2 * xkr_1) hf3) hkr hgk (by decide) rfl rfl (gd_V gx1010 gx1011 gx1012 gx39 gx1013) rfl rfl (by decide) ⟨Nat.le_of_ble_eq_true rfl, Nat.le_of_ble_eq_true rfl⟩ rfl hl (Nat.le_of_ble_eq_true rfl) ⟨Nat.zero_le _, Nat.zero_le _⟩ dX7_allStates_56 (fun H locs hW hS => ?_)
    refine lv_lmul hx hb dX7_allStates_59 ?_
    refine lv_aload_n hx hb dX7_allStates_60 rfl (lv_at hl 0 rfl) ?_
    refine lv_aload_n hx hb dX7_allStates_61 rfl (lv_at hl 0 rfl) ?_
    refine gf7_1 hx hb hG hown hW (o := kr) hkr hgk (v := .int xkr_1) h_xkr_1 gx151 dX7_allStates_62 ?_
    obtain ⟨r4, hf4, hs0⟩ := obind hs0
    refine g_VlR (n := 1) hx hb hml hown hG hW hS [.int xkr_1] (kX7_fillings hN hkr hgk h_xkr_0 xkr_1 hf4) hkr hgk (by decide) rfl rfl (gd_V gx1010 gx1011 gx1012 gx39 gx1013) rfl rfl (by decide) ⟨Nat.le_of_ble_eq_true rfl, Nat.le_of_ble_eq_true rfl⟩ rfl hl (Nat.le_of_ble_eq_true rfl) ⟨Nat.zero_le _, Nat.zero_le _⟩ dX7_allStates_65 (fun H locs hW hS => ?_)
    refine lv_lmul hx hb dX7_allStates_68 ?_
    have hs0 := Option.some.inj hs0
    subst hs0
    exact W.lret hx hb hr (fun t ht hw => ⟨⟨_, (m0, a0), rfl, ⟨rfl, rfl, rfl⟩, g_end hW ht hw⟩, hS.F ht⟩) hS.2.2 dX7_allStates_69 hlocks
  have hL1 : ∀ (n : Nat) (v1k1 : Int64) (v3k1 : Int32) (H : Heap) (locs : List Loc) (ls : Array Slot) (hl : lv_has ls 4 [(0, .ref (q kr)), (1, .long v1k1), (3, .int v3k1)]) (hg1 : gloop (fun u1 : (Int64 × Int32) => fX7_allStates_S24 F xkr_0 xkr_1 xkr_2 xkr_3 u1.1 u1.2) n (v1k1, v3k1) = some r1) (hW : GW D cy (gA N q s.heap.size) N q m0 a0 s H) (hS : va_S (gA N q s.heap.size) s.heap H locs), W p l e ({ frames := 1, cells := 0, slots := 0, locals := 21 } : Room) s M args below meth c H locs 0 0 (MQ below (va_Ql (fun (r : Int64) (u : (Nat → Value) × (Nat → vp_A)) => r = X0 ∧ u.1 = m0 ∧ u.2 = a0) (gB D cy N q s.heap.size) (gA N q s.heap.size)) args s 0 0 (gA N q s.heap.size)) (F0 M 24 ls []) := by
    intro n
    induction n with
    | zero => intro v1k1 v3k1 H locs ls hl hg1 hW hS; exact (gl_zero hg1).elim
    | succ n ih1 =>
      intro v1k1 v3k1 H locs ls hl hg1 hW hS
      obtain ⟨X1, hs1, hXl1, hXr1⟩ := gl_succ hg1
      have hs1 : fX7_allStates_S24 F xkr_0 xkr_1 xkr_2 xkr_3 v1k1 v3k1 = some X1 := hs1
      unfold fX7_allStates_S24 at hs1
      refine lv_iload_n hx hb dX7_allStates_24 rfl (lv_at hl 2 rfl) ?_
      refine lv_iconst (v := 2) hx hb dX7_allStates_25 (by decide) ?_
      refine lv_aload_n hx hb dX7_allStates_26 rfl (lv_at hl 0 rfl) ?_
      refine gf7_1 hx hb hG hown hW (o := kr) hkr hgk (v := .int xkr_1) h_xkr_1 gx151 dX7_allStates_27 ?_
      refine lv_imul hx hb dX7_allStates_30 ?_
      refine lv_icmp_ge (tgt := 48) hx hb dX7_allStates_31 (by decide) (fun c5 => ?_) (fun c5 => ?_)
      · rw [if_pos c5] at hs1
        exact hE1_48 v1k1 (hXl1 _ (Option.some.inj hs1).symm) _ _ ls (lv_sub hl [0, 1] rfl) hW hS
      · rw [if_neg c5] at hs1
        refine lv_lload_n hx hb dX7_allStates_34 rfl (lv_at hl 1 rfl) ?_
        refine lv_aload_n hx hb dX7_allStates_35 rfl (lv_at hl 0 rfl) ?_
        refine gf7_3 hx hb hG hown hW (o := kr) hkr hgk (v := .int xkr_3) h_xkr_3 gx153 dX7_allStates_36 ?_
        refine lv_i2l hx hb dX7_allStates_39 rfl ?_
        refine lv_lmul hx hb dX7_allStates_40 ?_
        refine lv_lstore_n (lv' := [(1, .long (v1k1 * xkr_3.toInt64)), (0, .ref (q kr)), (3, .int v3k1)]) hx hb dX7_allStates_41 rfl hl (by decide) rfl (fun ls hl => ?_)
        refine lv_iinc (v := v3k1 + 1) (lv' := [(3, .int (v3k1 + 1)), (1, .long (v1k1 * xkr_3.toInt64)), (0, .ref (q kr))]) hx hb dX7_allStates_42 hl (k := 2) rfl rfl (by decide) rfl (fun ls hl => ?_)
        refine lv_goto (tgt := 24) hx hb dX7_allStates_45 (by decide) ?_
        exact ih1 (v1k1 * xkr_3.toInt64) (v3k1 + 1) _ _ ls (lv_sub hl [2, 1, 0] rfl) (hXr1 _ (Option.some.inj hs1).symm) hW hS
  exact hL1 F (((4 * xkr_1.toInt64) * xkr_1.toInt64) * xkr_2.toInt64) 0 _ _ ls (lv_sub hl [2, 1, 0] rfl) hg1 hW hS
-- HealLink$Rules.followingSender (J)J
def fX7_followingSender (xkr_1 : Int32) (xkr_2 : Int32) (p1 : Int64) : Int64 := (if (fX7_takenOf p1) = 0 then p1 + 4398046511104 else (if xkr_2 ≤ ((fX7_acksOf (p1 &&& ((-4398046511105) : Int64))) + 1) then (if (fX7_valueOf (fX7_withoutAcks (p1 &&& ((-4398046511105) : Int64)))) = 0 then (fX7_withoutAcks (p1 &&& ((-4398046511105) : Int64))) + 70368744177664 else (if xkr_1 ≤ ((fX7_labelOf (fX7_withoutAcks (p1 &&& ((-4398046511105) : Int64)))) + 1) then (-1) else (fX7_withoutAcks (p1 &&& ((-4398046511105) : Int64))) + 70368744177664)) else (p1 &&& ((-4398046511105) : Int64)) + 8796093022208))
theorem dX7_followingSender_0 : decode cX7_followingSender 0 = .ok (.lload_n 1, 1) := by decide +kernel
theorem dX7_followingSender_1 : decode cX7_followingSender 1 = .ok (.invokestatic 127, 3) := by decide +kernel
theorem dX7_followingSender_4 : decode cX7_followingSender 4 = .ok (.ifCond .ne 9, 3) := by decide +kernel
theorem dX7_followingSender_7 : decode cX7_followingSender 7 = .ok (.lload_n 1, 1) := by decide +kernel
theorem dX7_followingSender_8 : decode cX7_followingSender 8 = .ok (.ldc2_w 51, 3) := by decide +kernel
theorem dX7_followingSender_11 : decode cX7_followingSender 11 = .ok (.ladd, 1) := by decide +kernel
theorem dX7_followingSender_12 : decode cX7_followingSender 12 = .ok (.lreturn, 1) := by decide +kernel
theorem dX7_followingSender_13 : decode cX7_followingSender 13 = .ok (.lload_n 1, 1) := by decide +kernel
theorem dX7_followingSender_14 : decode cX7_followingSender 14 = .ok (.ldc2_w 161, 3) := by decide +kernel
theorem dX7_followingSender_17 : decode cX7_followingSender 17 = .ok (.land, 1) := by decide +kernel
theorem dX7_followingSender_18 : decode cX7_followingSender 18 = .ok (.lstore_n 3, 1) := by decide +kernel
theorem dX7_followingSender_19 : decode cX7_followingSender 19 = .ok (.lload_n 3, 1) := by decide +kernel
theorem dX7_followingSender_20 : decode cX7_followingSender 20 = .ok (.invokestatic 60, 3) := by decide +kernel
theorem dX7_followingSender_23 : decode cX7_followingSender 23 = .ok (.iconst 1, 1) := by decide +kernel
theorem dX7_followingSender_24 : decode cX7_followingSender 24 = .ok (.iadd, 1) := by decide +kernel
theorem dX7_followingSender_25 : decode cX7_followingSender 25 = .ok (.aload_n 0, 1) := by decide +kernel
theorem dX7_followingSender_26 : decode cX7_followingSender 26 = .ok (.getfield 18, 3) := by decide +kernel
theorem dX7_followingSender_29 : decode cX7_followingSender 29 = .ok (.if_icmp .ge 9, 3) := by decide +kernel
theorem dX7_followingSender_32 : decode cX7_followingSender 32 = .ok (.lload_n 3, 1) := by decide +kernel
theorem dX7_followingSender_33 : decode cX7_followingSender 33 = .ok (.ldc2_w 139, 3) := by decide +kernel
theorem dX7_followingSender_36 : decode cX7_followingSender 36 = .ok (.ladd, 1) := by decide +kernel
theorem dX7_followingSender_37 : decode cX7_followingSender 37 = .ok (.lreturn, 1) := by decide +kernel
theorem dX7_followingSender_38 : decode cX7_followingSender 38 = .ok (.lload_n 3, 1) := by decide +kernel
theorem dX7_followingSender_39 : decode cX7_followingSender 39 = .ok (.invokestatic 163, 3) := by decide +kernel
theorem dX7_followingSender_42 : decode cX7_followingSender 42 = .ok (.lstore_n 3, 1) := by decide +kernel
theorem dX7_followingSender_43 : decode cX7_followingSender 43 = .ok (.lload_n 3, 1) := by decide +kernel
theorem dX7_followingSender_44 : decode cX7_followingSender 44 = .ok (.invokestatic 166, 3) := by decide +kernel
theorem dX7_followingSender_47 : decode cX7_followingSender 47 = .ok (.ifCond .eq 16, 3) := by decide +kernel
theorem dX7_followingSender_50 : decode cX7_followingSender 50 = .ok (.lload_n 3, 1) := by decide +kernel
theorem dX7_followingSender_51 : decode cX7_followingSender 51 = .ok (.invokestatic 57, 3) := by decide +kernel
theorem dX7_followingSender_54 : decode cX7_followingSender 54 = .ok (.iconst 1, 1) := by decide +kernel
theorem dX7_followingSender_55 : decode cX7_followingSender 55 = .ok (.iadd, 1) := by decide +kernel
theorem dX7_followingSender_56 : decode cX7_followingSender 56 = .ok (.aload_n 0, 1) := by decide +kernel
theorem dX7_followingSender_57 : decode cX7_followingSender 57 = .ok (.getfield 15, 3) := by decide +kernel
theorem dX7_followingSender_60 : decode cX7_followingSender 60 = .ok (.if_icmp .ge 11, 3) := by decide +kernel
theorem dX7_followingSender_63 : decode cX7_followingSender 63 = .ok (.lload_n 3, 1) := by decide +kernel
theorem dX7_followingSender_64 : decode cX7_followingSender 64 = .ok (.ldc2_w 169, 3) := by decide +kernel
theorem dX7_followingSender_67 : decode cX7_followingSender 67 = .ok (.ladd, 1) := by decide +kernel
theorem dX7_followingSender_68 : decode cX7_followingSender 68 = .ok (.goto 6, 3) := by decide +kernel
theorem dX7_followingSender_71 : decode cX7_followingSender 71 = .ok (.ldc2_w 33, 3) := by decide +kernel
theorem dX7_followingSender_74 : decode cX7_followingSender 74 = .ok (.lreturn, 1) := by decide +kernel
set_option maxHeartbeats 4000000 in
set_option maxRecDepth 100000 in
theorem kX7_followingSender {l : Launch} {D : va_G} {cy : Nat → ClassId} {N : Nat} {q : Nat → Nat} {m0 : Nat → Value} {a0 : Nat → vp_A} {sz : Nat} (hN : 105 ≤ N) {kr : Nat} (hkr : kr < N) (hgk : gk kr = 7) {xkr_1 : Int32} (h_xkr_1 : m0 (100 * kr + 1) = .int xkr_1) {xkr_2 : Int32} (h_xkr_2 : m0 (100 * kr + 2) = .int xkr_2) (p1 : Int64) : gMl l yX7_followingSender cX7_followingSender 5 (some .long) ({ frames := 1, cells := 0, slots := 0, locals := 21 } : Room) D cy N q m0 a0 sz [.ref (q kr), .long p1] (fun r m' a' => r = (fX7_followingSender xkr_1 xkr_2 p1) ∧ m' = m0 ∧ a' = a0) := by
  generalize hs0 : fX7_followingSender xkr_1 xkr_2 p1 = X0
  refine g_ofl (by decide) (Nat.le_of_ble_eq_true rfl) ?_
  intro p e s M args below meth c hx hb hr hG hown hin hlocks hml hW hS ls hl
  unfold fX7_followingSender at hs0
  refine lv_lload_n hx hb dX7_followingSender_0 rfl (lv_at hl 1 rfl) ?_
  refine g_SiR (n := 1) hx hb hml hown hG hW hS [.long p1] (kX7_takenOf hN p1) rfl (gd_S gx453 gx454 gx39 gx455) rfl rfl (by decide) ⟨Nat.le_of_ble_eq_true rfl, Nat.le_of_ble_eq_true rfl⟩ rfl hl (Nat.le_of_ble_eq_true rfl) ⟨Nat.zero_le _, Nat.zero_le _⟩ dX7_followingSender_1 (fun H locs hW hS => ?_)
  refine lv_if_ne (tgt := 13) hx hb dX7_followingSender_4 (by decide) (fun c2 => ?_) (fun c2 => ?_)
  · rw [if_neg c2] at hs0
    refine lv_lload_n hx hb dX7_followingSender_13 rfl (lv_at hl 1 rfl) ?_
    refine lv_ldc2 (v := (-4398046511105)) hx hb hown (hG _ gx1033) dX7_followingSender_14 ?_
    refine lv_land hx hb dX7_followingSender_17 ?_
    refine lv_lstore_n (lv' := [(3, .long (p1 &&& ((-4398046511105) : Int64))), (0, .ref (q kr)), (1, .long p1)]) hx hb dX7_followingSender_18 rfl hl (by decide) rfl (fun ls hl => ?_)
    refine lv_lload_n hx hb dX7_followingSender_19 rfl (lv_at hl 0 rfl) ?_
    refine g_SiR (n := 1) hx hb hml hown hG hW hS [.long (p1 &&& ((-4398046511105) : Int64))] (kX7_acksOf hN (p1 &&& ((-4398046511105) : Int64))) rfl (gd_S gx474 gx475 gx39 gx476) rfl rfl (by decide) ⟨Nat.le_of_ble_eq_true rfl, Nat.le_of_ble_eq_true rfl⟩ rfl hl (Nat.le_of_ble_eq_true rfl) ⟨Nat.zero_le _, Nat.zero_le _⟩ dX7_followingSender_20 (fun H locs hW hS => ?_)
    refine lv_iconst (v := 1) hx hb dX7_followingSender_23 (by decide) ?_
    refine lv_iadd hx hb dX7_followingSender_24 ?_
    refine lv_aload_n hx hb dX7_followingSender_25 rfl (lv_at hl 1 rfl) ?_
    refine gf7_2 hx hb hG hown hW (o := kr) hkr hgk (v := .int xkr_2) h_xkr_2 gx152 dX7_followingSender_26 ?_
    refine lv_icmp_ge (tgt := 38) hx hb dX7_followingSender_29 (by decide) (fun c4 => ?_) (fun c4 => ?_)
    · rw [if_pos c4] at hs0
      refine lv_lload_n hx hb dX7_followingSender_38 rfl (lv_at hl 0 rfl) ?_
      refine g_SlR (n := 1) hx hb hml hown hG hW hS [.long (p1 &&& ((-4398046511105) : Int64))] (kX7_withoutAcks hN (p1 &&& ((-4398046511105) : Int64))) rfl (gd_S gx1035 gx993 gx39 gx994) rfl rfl (by decide) ⟨Nat.le_of_ble_eq_true rfl, Nat.le_of_ble_eq_true rfl⟩ rfl hl (Nat.le_of_ble_eq_true rfl) ⟨Nat.zero_le _, Nat.zero_le _⟩ dX7_followingSender_39 (fun H locs hW hS => ?_)
      refine lv_lstore_n (lv' := [(3, .long (fX7_withoutAcks (p1 &&& ((-4398046511105) : Int64)))), (0, .ref (q kr)), (1, .long p1)]) hx hb dX7_followingSender_42 rfl hl (by decide) rfl (fun ls hl => ?_)
      refine lv_lload_n hx hb dX7_followingSender_43 rfl (lv_at hl 0 rfl) ?_
      refine g_SiR (n := 1) hx hb hml hown hG hW hS [.long (fX7_withoutAcks (p1 &&& ((-4398046511105) : Int64)))] (kX7_valueOf hN (fX7_withoutAcks (p1 &&& ((-4398046511105) : Int64)))) rfl (gd_S gx1036 gx417 gx39 gx418) rfl rfl (by decide) ⟨Nat.le_of_ble_eq_true rfl, Nat.le_of_ble_eq_true rfl⟩ rfl hl (Nat.le_of_ble_eq_true rfl) ⟨Nat.zero_le _, Nat.zero_le _⟩ dX7_followingSender_44 (fun H locs hW hS => ?_)
      refine lv_if_eq (tgt := 63) hx hb dX7_followingSender_47 (by decide) (fun c7 => ?_) (fun c7 => ?_)
      · rw [if_pos c7] at hs0
        refine lv_lload_n hx hb dX7_followingSender_63 rfl (lv_at hl 0 rfl) ?_
        refine lv_ldc2 (v := 70368744177664) hx hb hown (hG _ gx1034) dX7_followingSender_64 ?_
        refine lv_ladd hx hb dX7_followingSender_67 ?_
        refine lv_goto (tgt := 74) hx hb dX7_followingSender_68 (by decide) ?_
        subst hs0
        exact W.lret hx hb hr (fun t ht hw => ⟨⟨_, (m0, a0), rfl, ⟨rfl, rfl, rfl⟩, g_end hW ht hw⟩, hS.F ht⟩) hS.2.2 dX7_followingSender_74 hlocks
      · rw [if_neg c7] at hs0
        refine lv_lload_n hx hb dX7_followingSender_50 rfl (lv_at hl 0 rfl) ?_
        refine g_SiR (n := 1) hx hb hml hown hG hW hS [.long (fX7_withoutAcks (p1 &&& ((-4398046511105) : Int64)))] (kX7_labelOf hN (fX7_withoutAcks (p1 &&& ((-4398046511105) : Int64)))) rfl (gd_S gx467 gx468 gx39 gx469) rfl rfl (by decide) ⟨Nat.le_of_ble_eq_true rfl, Nat.le_of_ble_eq_true rfl⟩ rfl hl (Nat.le_of_ble_eq_true rfl) ⟨Nat.zero_le _, Nat.zero_le _⟩ dX7_followingSender_51 (fun H locs hW hS => ?_)
        refine lv_iconst (v := 1) hx hb dX7_followingSender_54 (by decide) ?_
        refine lv_iadd hx hb dX7_followingSender_55 ?_
        refine lv_aload_n hx hb dX7_followingSender_56 rfl (lv_at hl 1 rfl) ?_
        refine gf7_1 hx hb hG hown hW (o := kr) hkr hgk (v := .int xkr_1) h_xkr_1 gx151 dX7_followingSender_57 ?_
        refine lv_icmp_ge (tgt := 71) hx hb dX7_followingSender_60 (by decide) (fun c9 => ?_) (fun c9 => ?_)
        · rw [if_pos c9] at hs0
          refine lv_ldc2 (v := (-1)) hx hb hown (hG _ gx326) dX7_followingSender_71 ?_
          subst hs0
          exact W.lret hx hb hr (fun t ht hw => ⟨⟨_, (m0, a0), rfl, ⟨rfl, rfl, rfl⟩, g_end hW ht hw⟩, hS.F ht⟩) hS.2.2 dX7_followingSender_74 hlocks
        · rw [if_neg c9] at hs0
          refine lv_lload_n hx hb dX7_followingSender_63 rfl (lv_at hl 0 rfl) ?_
          refine lv_ldc2 (v := 70368744177664) hx hb hown (hG _ gx1034) dX7_followingSender_64 ?_
          refine lv_ladd hx hb dX7_followingSender_67 ?_
          refine lv_goto (tgt := 74) hx hb dX7_followingSender_68 (by decide) ?_
          subst hs0
          exact W.lret hx hb hr (fun t ht hw => ⟨⟨_, (m0, a0), rfl, ⟨rfl, rfl, rfl⟩, g_end hW ht hw⟩, hS.F ht⟩) hS.2.2 dX7_followingSender_74 hlocks
    · rw [if_neg c4] at hs0
      refine lv_lload_n hx hb dX7_followingSender_32 rfl (lv_at hl 0 rfl) ?_
      refine lv_ldc2 (v := 8796093022208) hx hb hown (hG _ gx464) dX7_followingSender_33 ?_
      refine lv_ladd hx hb dX7_followingSender_36 ?_
      subst hs0
      exact W.lret hx hb hr (fun t ht hw => ⟨⟨_, (m0, a0), rfl, ⟨rfl, rfl, rfl⟩, g_end hW ht hw⟩, hS.F ht⟩) hS.2.2 dX7_followingSender_37 hlocks
  · rw [if_pos c2] at hs0
    refine lv_lload_n hx hb dX7_followingSender_7 rfl (lv_at hl 1 rfl) ?_
    refine lv_ldc2 (v := 4398046511104) hx hb hown (hG _ gx275) dX7_followingSender_8 ?_
    refine lv_ladd hx hb dX7_followingSender_11 ?_
    subst hs0
    exact W.lret hx hb hr (fun t ht hw => ⟨⟨_, (m0, a0), rfl, ⟨rfl, rfl, rfl⟩, g_end hW ht hw⟩, hS.F ht⟩) hS.2.2 dX7_followingSender_12 hlocks
-- HealLink$Rules.following (J)J
def fX7_following_S10 (F : Nat) (xkr_0 : Int32) (xkr_1 : Int32) (xkr_2 : Int32) (xkr_3 : Int32) (v3 : Int64) (v5 : Int32) : Option (((Int64 × Int32) ⊕ (Int64)) ⊕ (Int64 × Int32)) := (if v5 < 0 then some (Sum.inl (Sum.inr (v3))) else (if xkr_0 ≤ (fX7_lettersIn v3) then some (Sum.inr ((fX7_withDigit v3 (fX7_lettersAt v5) 0), v5 + (-1))) else some (Sum.inl (Sum.inl (v3, v5)))))
def fX7_following_S63 (F : Nat) (xkr_0 : Int32) (xkr_1 : Int32) (xkr_2 : Int32) (xkr_3 : Int32) (v3 : Int64) (v5 : Int32) : Option (((Int64 × Int32) ⊕ (Int64)) ⊕ (Int64 × Int32)) := (if v5 < 0 then some (Sum.inl (Sum.inr (v3))) else (if xkr_0 ≤ (fX7_packetsIn v3) then some (Sum.inr ((fX7_withDigit v3 (fX7_packetsAt v5) 0), v5 + (-1))) else some (Sum.inl (Sum.inl (v3, v5)))))
def fX7_following_S116 (F : Nat) (xkr_0 : Int32) (xkr_1 : Int32) (xkr_2 : Int32) (xkr_3 : Int32) (v3 : Int64) (v5 : Int32) : Option (((Int64 × Int32) ⊕ (Int64)) ⊕ (Int64 × Int32)) := (if v5 < 0 then some (Sum.inl (Sum.inr (v3))) else (if xkr_3 ≤ ((fX7_digit v3 (fX7_seenAt v5)) + 1) then some (Sum.inr ((fX7_withDigit v3 (fX7_seenAt v5) 0), v5 + (-1))) else some (Sum.inl (Sum.inl (v3, v5)))))
def fX7_following (F : Nat) (xkr_0 : Int32) (xkr_1 : Int32) (xkr_2 : Int32) (xkr_3 : Int32) (p1 : Int64) : Option (Int64) := (gloop (fun u1 : (Int64 × Int32) => fX7_following_S10 F xkr_0 xkr_1 xkr_2 xkr_3 u1.1 u1.2) F (p1, xkr_1 - 1)).bind (Sum.elim (fun t1_26 => some (t1_26.1 + ((1 : Int64) <<< ((fX7_lettersAt t1_26.2).toInt64 &&& 63)))) (fun t1_53 => (gloop (fun u8 : (Int64 × Int32) => fX7_following_S63 F xkr_0 xkr_1 xkr_2 xkr_3 u8.1 u8.2) F (t1_53, (2 * xkr_1) - 1)).bind (Sum.elim (fun t8_79 => some (t8_79.1 + ((1 : Int64) <<< ((fX7_packetsAt t8_79.2).toInt64 &&& 63)))) (fun t8_106 => (gloop (fun u15 : (Int64 × Int32) => fX7_following_S116 F xkr_0 xkr_1 xkr_2 xkr_3 u15.1 u15.2) F (t8_106, (2 * xkr_1) - 1)).bind (Sum.elim (fun t15_139 => some (t15_139.1 + ((1 : Int64) <<< ((fX7_seenAt t15_139.2).toInt64 &&& 63)))) (fun t15_166 => (if xkr_1 ≤ ((fX7_lastOf t15_166) + 1) then some (fX7_followingSender xkr_1 xkr_2 (t15_166 &&& ((-3298534883329) : Int64))) else some (t15_166 + 1099511627776))))))))
theorem dX7_following_0 : decode cX7_following 0 = .ok (.lload_n 1, 1) := by decide +kernel
theorem dX7_following_1 : decode cX7_following 1 = .ok (.lstore_n 3, 1) := by decide +kernel
theorem dX7_following_2 : decode cX7_following 2 = .ok (.aload_n 0, 1) := by decide +kernel
theorem dX7_following_3 : decode cX7_following 3 = .ok (.getfield 15, 3) := by decide +kernel
theorem dX7_following_6 : decode cX7_following 6 = .ok (.iconst 1, 1) := by decide +kernel
theorem dX7_following_7 : decode cX7_following 7 = .ok (.isub, 1) := by decide +kernel
theorem dX7_following_8 : decode cX7_following 8 = .ok (.istore 5, 2) := by decide +kernel
theorem dX7_following_10 : decode cX7_following 10 = .ok (.iload 5, 2) := by decide +kernel
theorem dX7_following_12 : decode cX7_following 12 = .ok (.ifCond .lt 41, 3) := by decide +kernel
theorem dX7_following_15 : decode cX7_following 15 = .ok (.lload_n 3, 1) := by decide +kernel
theorem dX7_following_16 : decode cX7_following 16 = .ok (.invokestatic 117, 3) := by decide +kernel
theorem dX7_following_19 : decode cX7_following 19 = .ok (.aload_n 0, 1) := by decide +kernel
theorem dX7_following_20 : decode cX7_following 20 = .ok (.getfield 11, 3) := by decide +kernel
theorem dX7_following_23 : decode cX7_following 23 = .ok (.if_icmp .ge 13, 3) := by decide +kernel
theorem dX7_following_26 : decode cX7_following 26 = .ok (.lload_n 3, 1) := by decide +kernel
theorem dX7_following_27 : decode cX7_following 27 = .ok (.lconst 1, 1) := by decide +kernel
theorem dX7_following_28 : decode cX7_following 28 = .ok (.iload 5, 2) := by decide +kernel
theorem dX7_following_30 : decode cX7_following 30 = .ok (.invokestatic 75, 3) := by decide +kernel
theorem dX7_following_33 : decode cX7_following 33 = .ok (.lshl, 1) := by decide +kernel
theorem dX7_following_34 : decode cX7_following 34 = .ok (.ladd, 1) := by decide +kernel
theorem dX7_following_35 : decode cX7_following 35 = .ok (.lreturn, 1) := by decide +kernel
theorem dX7_following_36 : decode cX7_following 36 = .ok (.lload_n 3, 1) := by decide +kernel
theorem dX7_following_37 : decode cX7_following 37 = .ok (.iload 5, 2) := by decide +kernel
theorem dX7_following_39 : decode cX7_following 39 = .ok (.invokestatic 75, 3) := by decide +kernel
theorem dX7_following_42 : decode cX7_following 42 = .ok (.iconst 0, 1) := by decide +kernel
theorem dX7_following_43 : decode cX7_following 43 = .ok (.invokestatic 153, 3) := by decide +kernel
theorem dX7_following_46 : decode cX7_following 46 = .ok (.lstore_n 3, 1) := by decide +kernel
theorem dX7_following_47 : decode cX7_following 47 = .ok (.iinc 5 (-1), 3) := by decide +kernel
theorem dX7_following_50 : decode cX7_following 50 = .ok (.goto (-40), 3) := by decide +kernel
theorem dX7_following_53 : decode cX7_following 53 = .ok (.iconst 2, 1) := by decide +kernel
theorem dX7_following_54 : decode cX7_following 54 = .ok (.aload_n 0, 1) := by decide +kernel
theorem dX7_following_55 : decode cX7_following 55 = .ok (.getfield 15, 3) := by decide +kernel
theorem dX7_following_58 : decode cX7_following 58 = .ok (.imul, 1) := by decide +kernel
theorem dX7_following_59 : decode cX7_following 59 = .ok (.iconst 1, 1) := by decide +kernel
theorem dX7_following_60 : decode cX7_following 60 = .ok (.isub, 1) := by decide +kernel
theorem dX7_following_61 : decode cX7_following 61 = .ok (.istore 5, 2) := by decide +kernel
theorem dX7_following_63 : decode cX7_following 63 = .ok (.iload 5, 2) := by decide +kernel
theorem dX7_following_65 : decode cX7_following 65 = .ok (.ifCond .lt 41, 3) := by decide +kernel
theorem dX7_following_68 : decode cX7_following 68 = .ok (.lload_n 3, 1) := by decide +kernel
theorem dX7_following_69 : decode cX7_following 69 = .ok (.invokestatic 105, 3) := by decide +kernel
theorem dX7_following_72 : decode cX7_following 72 = .ok (.aload_n 0, 1) := by decide +kernel
theorem dX7_following_73 : decode cX7_following 73 = .ok (.getfield 11, 3) := by decide +kernel
theorem dX7_following_76 : decode cX7_following 76 = .ok (.if_icmp .ge 13, 3) := by decide +kernel
theorem dX7_following_79 : decode cX7_following 79 = .ok (.lload_n 3, 1) := by decide +kernel
theorem dX7_following_80 : decode cX7_following 80 = .ok (.lconst 1, 1) := by decide +kernel
theorem dX7_following_81 : decode cX7_following 81 = .ok (.iload 5, 2) := by decide +kernel
theorem dX7_following_83 : decode cX7_following 83 = .ok (.invokestatic 67, 3) := by decide +kernel
theorem dX7_following_86 : decode cX7_following 86 = .ok (.lshl, 1) := by decide +kernel
theorem dX7_following_87 : decode cX7_following 87 = .ok (.ladd, 1) := by decide +kernel
theorem dX7_following_88 : decode cX7_following 88 = .ok (.lreturn, 1) := by decide +kernel
theorem dX7_following_89 : decode cX7_following 89 = .ok (.lload_n 3, 1) := by decide +kernel
theorem dX7_following_90 : decode cX7_following 90 = .ok (.iload 5, 2) := by decide +kernel
theorem dX7_following_92 : decode cX7_following 92 = .ok (.invokestatic 67, 3) := by decide +kernel
theorem dX7_following_95 : decode cX7_following 95 = .ok (.iconst 0, 1) := by decide +kernel
theorem dX7_following_96 : decode cX7_following 96 = .ok (.invokestatic 153, 3) := by decide +kernel
theorem dX7_following_99 : decode cX7_following 99 = .ok (.lstore_n 3, 1) := by decide +kernel
theorem dX7_following_100 : decode cX7_following 100 = .ok (.iinc 5 (-1), 3) := by decide +kernel
theorem dX7_following_103 : decode cX7_following 103 = .ok (.goto (-40), 3) := by decide +kernel
theorem dX7_following_106 : decode cX7_following 106 = .ok (.iconst 2, 1) := by decide +kernel
theorem dX7_following_107 : decode cX7_following 107 = .ok (.aload_n 0, 1) := by decide +kernel
theorem dX7_following_108 : decode cX7_following 108 = .ok (.getfield 15, 3) := by decide +kernel
theorem dX7_following_111 : decode cX7_following 111 = .ok (.imul, 1) := by decide +kernel
theorem dX7_following_112 : decode cX7_following 112 = .ok (.iconst 1, 1) := by decide +kernel
theorem dX7_following_113 : decode cX7_following 113 = .ok (.isub, 1) := by decide +kernel
theorem dX7_following_114 : decode cX7_following 114 = .ok (.istore 5, 2) := by decide +kernel
theorem dX7_following_116 : decode cX7_following 116 = .ok (.iload 5, 2) := by decide +kernel
theorem dX7_following_118 : decode cX7_following 118 = .ok (.ifCond .lt 48, 3) := by decide +kernel
theorem dX7_following_121 : decode cX7_following 121 = .ok (.lload_n 3, 1) := by decide +kernel
theorem dX7_following_122 : decode cX7_following 122 = .ok (.iload 5, 2) := by decide +kernel
theorem dX7_following_124 : decode cX7_following 124 = .ok (.invokestatic 111, 3) := by decide +kernel
theorem dX7_following_127 : decode cX7_following 127 = .ok (.invokestatic 71, 3) := by decide +kernel
theorem dX7_following_130 : decode cX7_following 130 = .ok (.iconst 1, 1) := by decide +kernel
theorem dX7_following_131 : decode cX7_following 131 = .ok (.iadd, 1) := by decide +kernel
theorem dX7_following_132 : decode cX7_following 132 = .ok (.aload_n 0, 1) := by decide +kernel
theorem dX7_following_133 : decode cX7_following 133 = .ok (.getfield 21, 3) := by decide +kernel
theorem dX7_following_136 : decode cX7_following 136 = .ok (.if_icmp .ge 13, 3) := by decide +kernel
theorem dX7_following_139 : decode cX7_following 139 = .ok (.lload_n 3, 1) := by decide +kernel
theorem dX7_following_140 : decode cX7_following 140 = .ok (.lconst 1, 1) := by decide +kernel
theorem dX7_following_141 : decode cX7_following 141 = .ok (.iload 5, 2) := by decide +kernel
theorem dX7_following_143 : decode cX7_following 143 = .ok (.invokestatic 111, 3) := by decide +kernel
theorem dX7_following_146 : decode cX7_following 146 = .ok (.lshl, 1) := by decide +kernel
theorem dX7_following_147 : decode cX7_following 147 = .ok (.ladd, 1) := by decide +kernel
theorem dX7_following_148 : decode cX7_following 148 = .ok (.lreturn, 1) := by decide +kernel
theorem dX7_following_149 : decode cX7_following 149 = .ok (.lload_n 3, 1) := by decide +kernel
theorem dX7_following_150 : decode cX7_following 150 = .ok (.iload 5, 2) := by decide +kernel
theorem dX7_following_152 : decode cX7_following 152 = .ok (.invokestatic 111, 3) := by decide +kernel
theorem dX7_following_155 : decode cX7_following 155 = .ok (.iconst 0, 1) := by decide +kernel
theorem dX7_following_156 : decode cX7_following 156 = .ok (.invokestatic 153, 3) := by decide +kernel
theorem dX7_following_159 : decode cX7_following 159 = .ok (.lstore_n 3, 1) := by decide +kernel
theorem dX7_following_160 : decode cX7_following 160 = .ok (.iinc 5 (-1), 3) := by decide +kernel
theorem dX7_following_163 : decode cX7_following 163 = .ok (.goto (-47), 3) := by decide +kernel
theorem dX7_following_166 : decode cX7_following 166 = .ok (.lload_n 3, 1) := by decide +kernel
theorem dX7_following_167 : decode cX7_following 167 = .ok (.invokestatic 108, 3) := by decide +kernel
theorem dX7_following_170 : decode cX7_following 170 = .ok (.iconst 1, 1) := by decide +kernel
theorem dX7_following_171 : decode cX7_following 171 = .ok (.iadd, 1) := by decide +kernel
theorem dX7_following_172 : decode cX7_following 172 = .ok (.aload_n 0, 1) := by decide +kernel
theorem dX7_following_173 : decode cX7_following 173 = .ok (.getfield 15, 3) := by decide +kernel
theorem dX7_following_176 : decode cX7_following 176 = .ok (.if_icmp .ge 11, 3) := by decide +kernel
theorem dX7_following_179 : decode cX7_following 179 = .ok (.lload_n 3, 1) := by decide +kernel
theorem dX7_following_180 : decode cX7_following 180 = .ok (.ldc2_w 156, 3) := by decide +kernel
theorem dX7_following_183 : decode cX7_following 183 = .ok (.ladd, 1) := by decide +kernel
theorem dX7_following_184 : decode cX7_following 184 = .ok (.goto 12, 3) := by decide +kernel
theorem dX7_following_187 : decode cX7_following 187 = .ok (.aload_n 0, 1) := by decide +kernel
theorem dX7_following_188 : decode cX7_following 188 = .ok (.lload_n 3, 1) := by decide +kernel
theorem dX7_following_189 : decode cX7_following 189 = .ok (.ldc2_w 55, 3) := by decide +kernel
theorem dX7_following_192 : decode cX7_following 192 = .ok (.land, 1) := by decide +kernel
theorem dX7_following_193 : decode cX7_following 193 = .ok (.invokevirtual 158, 3) := by decide +kernel
theorem dX7_following_196 : decode cX7_following 196 = .ok (.lreturn, 1) := by decide +kernel
set_option maxHeartbeats 4000000 in
set_option maxRecDepth 100000 in
theorem kX7_following {l : Launch} {D : va_G} {cy : Nat → ClassId} {N : Nat} {q : Nat → Nat} {m0 : Nat → Value} {a0 : Nat → vp_A} {sz : Nat} (hN : 105 ≤ N) {kr : Nat} (hkr : kr < N) (hgk : gk kr = 7) {xkr_0 : Int32} (h_xkr_0 : m0 (100 * kr + 0) = .int xkr_0) {xkr_1 : Int32} (h_xkr_1 : m0 (100 * kr + 1) = .int xkr_1) {xkr_2 : Int32} (h_xkr_2 : m0 (100 * kr + 2) = .int xkr_2) {xkr_3 : Int32} (h_xkr_3 : m0 (100 * kr + 3) = .int xkr_3) (F : Nat) (p1 : Int64) {X0 : Int64} (hs0 : fX7_following F xkr_0 xkr_1 xkr_2 xkr_3 p1 = some X0) : gMl l yX7_following cX7_following 6 (some .long) ({ frames := 2, cells := 0, slots := 0, locals := 45 } : Room) D cy N q m0 a0 sz [.ref (q kr), .long p1] (fun r m' a' => r = X0 ∧ m' = m0 ∧ a' = a0) := by
  refine g_ofl (by decide) (Nat.le_of_ble_eq_true rfl) ?_
  intro p e s M args below meth c hx hb hr hG hown hin hlocks hml hW hS ls hl
  unfold fX7_following at hs0
  refine lv_lload_n hx hb dX7_following_0 rfl (lv_at hl 1 rfl) ?_
  refine lv_lstore_n (lv' := [(3, .long p1), (0, .ref (q kr)), (1, .long p1)]) hx hb dX7_following_1 rfl hl (by decide) rfl (fun ls hl => ?_)
  refine lv_aload_n hx hb dX7_following_2 rfl (lv_at hl 1 rfl) ?_
  refine gf7_1 hx hb hG hown hW (o := kr) hkr hgk (v := .int xkr_1) h_xkr_1 gx151 dX7_following_3 ?_
  refine lv_iconst (v := 1) hx hb dX7_following_6 (by decide) ?_
  refine lv_isub hx hb dX7_following_7 ?_
  refine lv_istore (lv' := [(5, .int (xkr_1 - 1)), (3, .long p1), (0, .ref (q kr)), (1, .long p1)]) hx hb dX7_following_8 hl (by decide) rfl (fun ls hl => ?_)
  obtain ⟨r1, hg1, hs0⟩ := obind hs0
  have hE1_26 : ∀ (t1_26 : Int64 × Int32) (hr1 : Sum.inl t1_26 = r1) (H : Heap) (locs : List Loc) (ls : Array Slot) (hl : lv_has ls 6 [(3, .long t1_26.1), (5, .int t1_26.2)]) (hW : GW D cy (gA N q s.heap.size) N q m0 a0 s H) (hS : va_S (gA N q s.heap.size) s.heap H locs), W p l e ({ frames := 2, cells := 0, slots := 0, locals := 45 } : Room) s M args below meth c H locs 0 0 (MQ below (va_Ql (fun (r : Int64) (u : (Nat → Value) × (Nat → vp_A)) => r = X0 ∧ u.1 = m0 ∧ u.2 = a0) (gB D cy N q s.heap.size) (gA N q s.heap.size)) args s 0 0 (gA N q s.heap.size)) (F0 M 26 ls []) := by
    intro t1_26 hr1 H locs ls hl hW hS
    subst hr1
    have hs0 := osum_l hs0
    refine lv_lload_n hx hb dX7_following_26 rfl (lv_at hl 0 rfl) ?_
    refine lv_lconst (v := 1) hx hb dX7_following_27 (by decide) ?_
    refine lv_iload hx hb dX7_following_28 (lv_at hl 1 rfl) ?_
    refine g_SiR (n := 1) hx hb hml hown hG hW hS [.int t1_26.2] (kX7_lettersAt hN t1_26.2) rfl (gd_S gx405 gx369 gx39 gx370) rfl rfl (by decide) ⟨Nat.le_of_ble_eq_true rfl, Nat.le_of_ble_eq_true rfl⟩ rfl hl (Nat.le_of_ble_eq_true rfl) ⟨Nat.zero_le _, Nat.zero_le _⟩ dX7_following_30 (fun H locs hW hS => ?_)
    refine lv_lshl hx hb dX7_following_33 rfl ?_
    refine lv_ladd hx hb dX7_following_34 ?_
    have hs0 := Option.some.inj hs0
    subst hs0
    exact W.lret hx hb hr (fun t ht hw => ⟨⟨_, (m0, a0), rfl, ⟨rfl, rfl, rfl⟩, g_end hW ht hw⟩, hS.F ht⟩) hS.2.2 dX7_following_35 hlocks
  have hE1_53 : ∀ (t1_53 : Int64) (hr1 : Sum.inr (t1_53) = r1) (H : Heap) (locs : List Loc) (ls : Array Slot) (hl : lv_has ls 6 [(0, .ref (q kr)), (3, .long t1_53)]) (hW : GW D cy (gA N q s.heap.size) N q m0 a0 s H) (hS : va_S (gA N q s.heap.size) s.heap H locs), W p l e ({ frames := 2, cells := 0, slots := 0, locals := 45 } : Room) s M args below meth c H locs 0 0 (MQ below (va_Ql (fun (r : Int64) (u : (Nat → Value) × (Nat → vp_A)) => r = X0 ∧ u.1 = m0 ∧ u.2 = a0) (gB D cy N q s.heap.size) (gA N q s.heap.size)) args s 0 0 (gA N q s.heap.size)) (F0 M 53 ls []) := by
    intro t1_53 hr1 H locs ls hl hW hS
    subst hr1
    have hs0 := osum_r hs0
    refine lv_iconst (v := 2) hx hb dX7_following_53 (by decide) ?_
    refine lv_aload_n hx hb dX7_following_54 rfl (lv_at hl 0 rfl) ?_
    refine gf7_1 hx hb hG hown hW (o := kr) hkr hgk (v := .int xkr_1) h_xkr_1 gx151 dX7_following_55 ?_
    refine lv_imul hx hb dX7_following_58 ?_
    refine lv_iconst (v := 1) hx hb dX7_following_59 (by decide) ?_
    refine lv_isub hx hb dX7_following_60 ?_
    refine lv_istore (lv' := [(5, .int ((2 * xkr_1) - 1)), (0, .ref (q kr)), (3, .long t1_53)]) hx hb dX7_following_61 hl (by decide) rfl (fun ls hl => ?_)
    obtain ⟨r8, hg8, hs0⟩ := obind hs0
    have hE1_79 : ∀ (t8_79 : Int64 × Int32) (hr8 : Sum.inl t8_79 = r8) (H : Heap) (locs : List Loc) (ls : Array Slot) (hl : lv_has ls 6 [(3, .long t8_79.1), (5, .int t8_79.2)]) (hW : GW D cy (gA N q s.heap.size) N q m0 a0 s H) (hS : va_S (gA N q s.heap.size) s.heap H locs), W p l e ({ frames := 2, cells := 0, slots := 0, locals := 45 } : Room) s M args below meth c H locs 0 0 (MQ below (va_Ql (fun (r : Int64) (u : (Nat → Value) × (Nat → vp_A)) => r = X0 ∧ u.1 = m0 ∧ u.2 = a0) (gB D cy N q s.heap.size) (gA N q s.heap.size)) args s 0 0 (gA N q s.heap.size)) (F0 M 79 ls []) := by
      intro t8_79 hr8 H locs ls hl hW hS
      subst hr8
      have hs0 := osum_l hs0
      refine lv_lload_n hx hb dX7_following_79 rfl (lv_at hl 0 rfl) ?_
      refine lv_lconst (v := 1) hx hb dX7_following_80 (by decide) ?_
      refine lv_iload hx hb dX7_following_81 (lv_at hl 1 rfl) ?_
      refine g_SiR (n := 1) hx hb hml hown hG hW hS [.int t8_79.2] (kX7_packetsAt hN t8_79.2) rfl (gd_S gx403 gx340 gx39 gx341) rfl rfl (by decide) ⟨Nat.le_of_ble_eq_true rfl, Nat.le_of_ble_eq_true rfl⟩ rfl hl (Nat.le_of_ble_eq_true rfl) ⟨Nat.zero_le _, Nat.zero_le _⟩ dX7_following_83 (fun H locs hW hS => ?_)
      refine lv_lshl hx hb dX7_following_86 rfl ?_
      refine lv_ladd hx hb dX7_following_87 ?_
      have hs0 := Option.some.inj hs0
      subst hs0
      exact W.lret hx hb hr (fun t ht hw => ⟨⟨_, (m0, a0), rfl, ⟨rfl, rfl, rfl⟩, g_end hW ht hw⟩, hS.F ht⟩) hS.2.2 dX7_following_88 hlocks
    have hE1_106 : ∀ (t8_106 : Int64) (hr8 : Sum.inr (t8_106) = r8) (H : Heap) (locs : List Loc) (ls : Array Slot) (hl : lv_has ls 6 [(0, .ref (q kr)), (3, .long t8_106)]) (hW : GW D cy (gA N q s.heap.size) N q m0 a0 s H) (hS : va_S (gA N q s.heap.size) s.heap H locs), W p l e ({ frames := 2, cells := 0, slots := 0, locals := 45 } : Room) s M args below meth c H locs 0 0 (MQ below (va_Ql (fun (r : Int64) (u : (Nat → Value) × (Nat → vp_A)) => r = X0 ∧ u.1 = m0 ∧ u.2 = a0) (gB D cy N q s.heap.size) (gA N q s.heap.size)) args s 0 0 (gA N q s.heap.size)) (F0 M 106 ls []) := by
      intro t8_106 hr8 H locs ls hl hW hS
      subst hr8
      have hs0 := osum_r hs0
      refine lv_iconst (v := 2) hx hb dX7_following_106 (by decide) ?_
      refine lv_aload_n hx hb dX7_following_107 rfl (lv_at hl 0 rfl) ?_
      refine gf7_1 hx hb hG hown hW (o := kr) hkr hgk (v := .int xkr_1) h_xkr_1 gx151 dX7_following_108 ?_
      refine lv_imul hx hb dX7_following_111 ?_
      refine lv_iconst (v := 1) hx hb dX7_following_112 (by decide) ?_
      refine lv_isub hx hb dX7_following_113 ?_
      refine lv_istore (lv' := [(5, .int ((2 * xkr_1) - 1)), (0, .ref (q kr)), (3, .long t8_106)]) hx hb dX7_following_114 hl (by decide) rfl (fun ls hl => ?_)
      obtain ⟨r15, hg15, hs0⟩ := obind hs0
      have hE1_139 : ∀ (t15_139 : Int64 × Int32) (hr15 : Sum.inl t15_139 = r15) (H : Heap) (locs : List Loc) (ls : Array Slot) (hl : lv_has ls 6 [(3, .long t15_139.1), (5, .int t15_139.2)]) (hW : GW D cy (gA N q s.heap.size) N q m0 a0 s H) (hS : va_S (gA N q s.heap.size) s.heap H locs), W p l e ({ frames := 2, cells := 0, slots := 0, locals := 45 } : Room) s M args below meth c H locs 0 0 (MQ below (va_Ql (fun (r : Int64) (u : (Nat → Value) × (Nat → vp_A)) => r = X0 ∧ u.1 = m0 ∧ u.2 = a0) (gB D cy N q s.heap.size) (gA N q s.heap.size)) args s 0 0 (gA N q s.heap.size)) (F0 M 139 ls []) := by
        intro t15_139 hr15 H locs ls hl hW hS
        subst hr15
        have hs0 := osum_l hs0
        refine lv_lload_n hx hb dX7_following_139 rfl (lv_at hl 0 rfl) ?_
        refine lv_lconst (v := 1) hx hb dX7_following_140 (by decide) ?_
        refine lv_iload hx hb dX7_following_141 (lv_at hl 1 rfl) ?_
        refine g_SiR (n := 1) hx hb hml hown hG hW hS [.int t15_139.2] (kX7_seenAt hN t15_139.2) rfl (gd_S gx444 gx313 gx39 gx314) rfl rfl (by decide) ⟨Nat.le_of_ble_eq_true rfl, Nat.le_of_ble_eq_true rfl⟩ rfl hl (Nat.le_of_ble_eq_true rfl) ⟨Nat.zero_le _, Nat.zero_le _⟩ dX7_following_143 (fun H locs hW hS => ?_)
        refine lv_lshl hx hb dX7_following_146 rfl ?_
        refine lv_ladd hx hb dX7_following_147 ?_
        have hs0 := Option.some.inj hs0
        subst hs0
        exact W.lret hx hb hr (fun t ht hw => ⟨⟨_, (m0, a0), rfl, ⟨rfl, rfl, rfl⟩, g_end hW ht hw⟩, hS.F ht⟩) hS.2.2 dX7_following_148 hlocks
      have hE1_166 : ∀ (t15_166 : Int64) (hr15 : Sum.inr (t15_166) = r15) (H : Heap) (locs : List Loc) (ls : Array Slot) (hl : lv_has ls 6 [(0, .ref (q kr)), (3, .long t15_166)]) (hW : GW D cy (gA N q s.heap.size) N q m0 a0 s H) (hS : va_S (gA N q s.heap.size) s.heap H locs), W p l e ({ frames := 2, cells := 0, slots := 0, locals := 45 } : Room) s M args below meth c H locs 0 0 (MQ below (va_Ql (fun (r : Int64) (u : (Nat → Value) × (Nat → vp_A)) => r = X0 ∧ u.1 = m0 ∧ u.2 = a0) (gB D cy N q s.heap.size) (gA N q s.heap.size)) args s 0 0 (gA N q s.heap.size)) (F0 M 166 ls []) := by
        intro t15_166 hr15 H locs ls hl hW hS
        subst hr15
        have hs0 := osum_r hs0
        refine lv_lload_n hx hb dX7_following_166 rfl (lv_at hl 1 rfl) ?_
        refine g_SiR (n := 1) hx hb hml hown hG hW hS [.long t15_166] (kX7_lastOf hN t15_166) rfl (gd_S gx443 gx294 gx39 gx295) rfl rfl (by decide) ⟨Nat.le_of_ble_eq_true rfl, Nat.le_of_ble_eq_true rfl⟩ rfl hl (Nat.le_of_ble_eq_true rfl) ⟨Nat.zero_le _, Nat.zero_le _⟩ dX7_following_167 (fun H locs hW hS => ?_)
        refine lv_iconst (v := 1) hx hb dX7_following_170 (by decide) ?_
        refine lv_iadd hx hb dX7_following_171 ?_
        refine lv_aload_n hx hb dX7_following_172 rfl (lv_at hl 0 rfl) ?_
        refine gf7_1 hx hb hG hown hW (o := kr) hkr hgk (v := .int xkr_1) h_xkr_1 gx151 dX7_following_173 ?_
        refine lv_icmp_ge (tgt := 187) hx hb dX7_following_176 (by decide) (fun c24 => ?_) (fun c24 => ?_)
        · rw [if_pos c24] at hs0
          refine lv_aload_n hx hb dX7_following_187 rfl (lv_at hl 0 rfl) ?_
          refine lv_lload_n hx hb dX7_following_188 rfl (lv_at hl 1 rfl) ?_
          refine lv_ldc2 (v := (-3298534883329)) hx hb hown (hG _ gx299) dX7_following_189 ?_
          refine lv_land hx hb dX7_following_192 ?_
          refine g_VlR (n := 1) hx hb hml hown hG hW hS [.long (t15_166 &&& ((-3298534883329) : Int64))] (kX7_followingSender hN hkr hgk h_xkr_1 h_xkr_2 (t15_166 &&& ((-3298534883329) : Int64))) hkr hgk (by decide) rfl rfl (gd_V gx1029 gx1030 gx1031 gx39 gx1032) rfl rfl (by decide) ⟨Nat.le_of_ble_eq_true rfl, Nat.le_of_ble_eq_true rfl⟩ rfl hl (Nat.le_of_ble_eq_true rfl) ⟨Nat.zero_le _, Nat.zero_le _⟩ dX7_following_193 (fun H locs hW hS => ?_)
          have hs0 := Option.some.inj hs0
          subst hs0
          exact W.lret hx hb hr (fun t ht hw => ⟨⟨_, (m0, a0), rfl, ⟨rfl, rfl, rfl⟩, g_end hW ht hw⟩, hS.F ht⟩) hS.2.2 dX7_following_196 hlocks
        · rw [if_neg c24] at hs0
          refine lv_lload_n hx hb dX7_following_179 rfl (lv_at hl 1 rfl) ?_
          refine lv_ldc2 (v := 1099511627776) hx hb hown (hG _ gx1027) dX7_following_180 ?_
          refine lv_ladd hx hb dX7_following_183 ?_
          refine lv_goto (tgt := 196) hx hb dX7_following_184 (by decide) ?_
          have hs0 := Option.some.inj hs0
          subst hs0
          exact W.lret hx hb hr (fun t ht hw => ⟨⟨_, (m0, a0), rfl, ⟨rfl, rfl, rfl⟩, g_end hW ht hw⟩, hS.F ht⟩) hS.2.2 dX7_following_196 hlocks
      have hL1 : ∀ (n : Nat) (v3k15 : Int64) (v5k15 : Int32) (H : Heap) (locs : List Loc) (ls : Array Slot) (hl : lv_has ls 6 [(0, .ref (q kr)), (3, .long v3k15), (5, .int v5k15)]) (hg15 : gloop (fun u15 : (Int64 × Int32) => fX7_following_S116 F xkr_0 xkr_1 xkr_2 xkr_3 u15.1 u15.2) n (v3k15, v5k15) = some r15) (hW : GW D cy (gA N q s.heap.size) N q m0 a0 s H) (hS : va_S (gA N q s.heap.size) s.heap H locs), W p l e ({ frames := 2, cells := 0, slots := 0, locals := 45 } : Room) s M args below meth c H locs 0 0 (MQ below (va_Ql (fun (r : Int64) (u : (Nat → Value) × (Nat → vp_A)) => r = X0 ∧ u.1 = m0 ∧ u.2 = a0) (gB D cy N q s.heap.size) (gA N q s.heap.size)) args s 0 0 (gA N q s.heap.size)) (F0 M 116 ls []) := by
        intro n
        induction n with
        | zero => intro v3k15 v5k15 H locs ls hl hg15 hW hS; exact (gl_zero hg15).elim
        | succ n ih1 =>
          intro v3k15 v5k15 H locs ls hl hg15 hW hS
          obtain ⟨X1, hs1, hXl1, hXr1⟩ := gl_succ hg15
          have hs1 : fX7_following_S116 F xkr_0 xkr_1 xkr_2 xkr_3 v3k15 v5k15 = some X1 := hs1
          unfold fX7_following_S116 at hs1
          refine lv_iload hx hb dX7_following_116 (lv_at hl 2 rfl) ?_
          refine lv_if_lt (tgt := 166) hx hb dX7_following_118 (by decide) (fun c26 => ?_) (fun c26 => ?_)
          · rw [if_pos c26] at hs1
            exact hE1_166 v3k15 (hXl1 _ (Option.some.inj hs1).symm) _ _ ls (lv_sub hl [0, 1] rfl) hW hS
          · rw [if_neg c26] at hs1
            refine lv_lload_n hx hb dX7_following_121 rfl (lv_at hl 1 rfl) ?_
            refine lv_iload hx hb dX7_following_122 (lv_at hl 2 rfl) ?_
            refine g_SiR (n := 1) hx hb hml hown hG hW hS [.int v5k15] (kX7_seenAt hN v5k15) rfl (gd_S gx444 gx313 gx39 gx314) rfl rfl (by decide) ⟨Nat.le_of_ble_eq_true rfl, Nat.le_of_ble_eq_true rfl⟩ rfl hl (Nat.le_of_ble_eq_true rfl) ⟨Nat.zero_le _, Nat.zero_le _⟩ dX7_following_124 (fun H locs hW hS => ?_)
            refine g_SiR (n := 2) hx hb hml hown hG hW hS [.long v3k15, .int (fX7_seenAt v5k15)] (kX7_digit hN v3k15 (fX7_seenAt v5k15)) rfl (gd_S gx404 gx320 gx39 gx321) rfl rfl (by decide) ⟨Nat.le_of_ble_eq_true rfl, Nat.le_of_ble_eq_true rfl⟩ rfl hl (Nat.le_of_ble_eq_true rfl) ⟨Nat.zero_le _, Nat.zero_le _⟩ dX7_following_127 (fun H locs hW hS => ?_)
            refine lv_iconst (v := 1) hx hb dX7_following_130 (by decide) ?_
            refine lv_iadd hx hb dX7_following_131 ?_
            refine lv_aload_n hx hb dX7_following_132 rfl (lv_at hl 0 rfl) ?_
            refine gf7_3 hx hb hG hown hW (o := kr) hkr hgk (v := .int xkr_3) h_xkr_3 gx153 dX7_following_133 ?_
            refine lv_icmp_ge (tgt := 149) hx hb dX7_following_136 (by decide) (fun c29 => ?_) (fun c29 => ?_)
            · rw [if_pos c29] at hs1
              refine lv_lload_n hx hb dX7_following_149 rfl (lv_at hl 1 rfl) ?_
              refine lv_iload hx hb dX7_following_150 (lv_at hl 2 rfl) ?_
              refine g_SiR (n := 1) hx hb hml hown hG hW hS [.int v5k15] (kX7_seenAt hN v5k15) rfl (gd_S gx444 gx313 gx39 gx314) rfl rfl (by decide) ⟨Nat.le_of_ble_eq_true rfl, Nat.le_of_ble_eq_true rfl⟩ rfl hl (Nat.le_of_ble_eq_true rfl) ⟨Nat.zero_le _, Nat.zero_le _⟩ dX7_following_152 (fun H locs hW hS => ?_)
              refine lv_iconst (v := 0) hx hb dX7_following_155 (by decide) ?_
              refine g_SlR (n := 3) hx hb hml hown hG hW hS [.long v3k15, .int (fX7_seenAt v5k15), .int 0] (kX7_withDigit hN v3k15 (fX7_seenAt v5k15) 0) rfl (gd_S gx1028 gx323 gx39 gx324) rfl rfl (by decide) ⟨Nat.le_of_ble_eq_true rfl, Nat.le_of_ble_eq_true rfl⟩ rfl hl (Nat.le_of_ble_eq_true rfl) ⟨Nat.zero_le _, Nat.zero_le _⟩ dX7_following_156 (fun H locs hW hS => ?_)
              refine lv_lstore_n (lv' := [(3, .long (fX7_withDigit v3k15 (fX7_seenAt v5k15) 0)), (0, .ref (q kr)), (5, .int v5k15)]) hx hb dX7_following_159 rfl hl (by decide) rfl (fun ls hl => ?_)
              refine lv_iinc (v := v5k15 + (-1)) (lv' := [(5, .int (v5k15 + (-1))), (3, .long (fX7_withDigit v3k15 (fX7_seenAt v5k15) 0)), (0, .ref (q kr))]) hx hb dX7_following_160 hl (k := 2) rfl (congrArg (fun z => v5k15 + z) (by decide : Int32.ofInt (-1) = (-1))) (by decide) rfl (fun ls hl => ?_)
              refine lv_goto (tgt := 116) hx hb dX7_following_163 (by decide) ?_
              exact ih1 (fX7_withDigit v3k15 (fX7_seenAt v5k15) 0) (v5k15 + (-1)) _ _ ls (lv_sub hl [2, 1, 0] rfl) (hXr1 _ (Option.some.inj hs1).symm) hW hS
            · rw [if_neg c29] at hs1
              exact hE1_139 (v3k15, v5k15) (hXl1 _ (Option.some.inj hs1).symm) _ _ ls (lv_sub hl [1, 2] rfl) hW hS
      exact hL1 F t8_106 ((2 * xkr_1) - 1) _ _ ls (lv_sub hl [1, 2, 0] rfl) hg15 hW hS
    have hL1 : ∀ (n : Nat) (v3k8 : Int64) (v5k8 : Int32) (H : Heap) (locs : List Loc) (ls : Array Slot) (hl : lv_has ls 6 [(0, .ref (q kr)), (3, .long v3k8), (5, .int v5k8)]) (hg8 : gloop (fun u8 : (Int64 × Int32) => fX7_following_S63 F xkr_0 xkr_1 xkr_2 xkr_3 u8.1 u8.2) n (v3k8, v5k8) = some r8) (hW : GW D cy (gA N q s.heap.size) N q m0 a0 s H) (hS : va_S (gA N q s.heap.size) s.heap H locs), W p l e ({ frames := 2, cells := 0, slots := 0, locals := 45 } : Room) s M args below meth c H locs 0 0 (MQ below (va_Ql (fun (r : Int64) (u : (Nat → Value) × (Nat → vp_A)) => r = X0 ∧ u.1 = m0 ∧ u.2 = a0) (gB D cy N q s.heap.size) (gA N q s.heap.size)) args s 0 0 (gA N q s.heap.size)) (F0 M 63 ls []) := by
      intro n
      induction n with
      | zero => intro v3k8 v5k8 H locs ls hl hg8 hW hS; exact (gl_zero hg8).elim
      | succ n ih1 =>
        intro v3k8 v5k8 H locs ls hl hg8 hW hS
        obtain ⟨X1, hs1, hXl1, hXr1⟩ := gl_succ hg8
        have hs1 : fX7_following_S63 F xkr_0 xkr_1 xkr_2 xkr_3 v3k8 v5k8 = some X1 := hs1
        unfold fX7_following_S63 at hs1
        refine lv_iload hx hb dX7_following_63 (lv_at hl 2 rfl) ?_
        refine lv_if_lt (tgt := 106) hx hb dX7_following_65 (by decide) (fun c32 => ?_) (fun c32 => ?_)
        · rw [if_pos c32] at hs1
          exact hE1_106 v3k8 (hXl1 _ (Option.some.inj hs1).symm) _ _ ls (lv_sub hl [0, 1] rfl) hW hS
        · rw [if_neg c32] at hs1
          refine lv_lload_n hx hb dX7_following_68 rfl (lv_at hl 1 rfl) ?_
          refine g_SiR (n := 1) hx hb hml hown hG hW hS [.long v3k8] (kX7_packetsIn hN v3k8) rfl (gd_S gx438 gx343 gx39 gx344) rfl rfl (by decide) ⟨Nat.le_of_ble_eq_true rfl, Nat.le_of_ble_eq_true rfl⟩ rfl hl (Nat.le_of_ble_eq_true rfl) ⟨Nat.zero_le _, Nat.zero_le _⟩ dX7_following_69 (fun H locs hW hS => ?_)
          refine lv_aload_n hx hb dX7_following_72 rfl (lv_at hl 0 rfl) ?_
          refine gf7_0 hx hb hG hown hW (o := kr) hkr hgk (v := .int xkr_0) h_xkr_0 gx150 dX7_following_73 ?_
          refine lv_icmp_ge (tgt := 89) hx hb dX7_following_76 (by decide) (fun c34 => ?_) (fun c34 => ?_)
          · rw [if_pos c34] at hs1
            refine lv_lload_n hx hb dX7_following_89 rfl (lv_at hl 1 rfl) ?_
            refine lv_iload hx hb dX7_following_90 (lv_at hl 2 rfl) ?_
            refine g_SiR (n := 1) hx hb hml hown hG hW hS [.int v5k8] (kX7_packetsAt hN v5k8) rfl (gd_S gx403 gx340 gx39 gx341) rfl rfl (by decide) ⟨Nat.le_of_ble_eq_true rfl, Nat.le_of_ble_eq_true rfl⟩ rfl hl (Nat.le_of_ble_eq_true rfl) ⟨Nat.zero_le _, Nat.zero_le _⟩ dX7_following_92 (fun H locs hW hS => ?_)
            refine lv_iconst (v := 0) hx hb dX7_following_95 (by decide) ?_
            refine g_SlR (n := 3) hx hb hml hown hG hW hS [.long v3k8, .int (fX7_packetsAt v5k8), .int 0] (kX7_withDigit hN v3k8 (fX7_packetsAt v5k8) 0) rfl (gd_S gx1028 gx323 gx39 gx324) rfl rfl (by decide) ⟨Nat.le_of_ble_eq_true rfl, Nat.le_of_ble_eq_true rfl⟩ rfl hl (Nat.le_of_ble_eq_true rfl) ⟨Nat.zero_le _, Nat.zero_le _⟩ dX7_following_96 (fun H locs hW hS => ?_)
            refine lv_lstore_n (lv' := [(3, .long (fX7_withDigit v3k8 (fX7_packetsAt v5k8) 0)), (0, .ref (q kr)), (5, .int v5k8)]) hx hb dX7_following_99 rfl hl (by decide) rfl (fun ls hl => ?_)
            refine lv_iinc (v := v5k8 + (-1)) (lv' := [(5, .int (v5k8 + (-1))), (3, .long (fX7_withDigit v3k8 (fX7_packetsAt v5k8) 0)), (0, .ref (q kr))]) hx hb dX7_following_100 hl (k := 2) rfl (congrArg (fun z => v5k8 + z) (by decide : Int32.ofInt (-1) = (-1))) (by decide) rfl (fun ls hl => ?_)
            refine lv_goto (tgt := 63) hx hb dX7_following_103 (by decide) ?_
            exact ih1 (fX7_withDigit v3k8 (fX7_packetsAt v5k8) 0) (v5k8 + (-1)) _ _ ls (lv_sub hl [2, 1, 0] rfl) (hXr1 _ (Option.some.inj hs1).symm) hW hS
          · rw [if_neg c34] at hs1
            exact hE1_79 (v3k8, v5k8) (hXl1 _ (Option.some.inj hs1).symm) _ _ ls (lv_sub hl [1, 2] rfl) hW hS
    exact hL1 F t1_53 ((2 * xkr_1) - 1) _ _ ls (lv_sub hl [1, 2, 0] rfl) hg8 hW hS
  have hL1 : ∀ (n : Nat) (v3k1 : Int64) (v5k1 : Int32) (H : Heap) (locs : List Loc) (ls : Array Slot) (hl : lv_has ls 6 [(0, .ref (q kr)), (3, .long v3k1), (5, .int v5k1)]) (hg1 : gloop (fun u1 : (Int64 × Int32) => fX7_following_S10 F xkr_0 xkr_1 xkr_2 xkr_3 u1.1 u1.2) n (v3k1, v5k1) = some r1) (hW : GW D cy (gA N q s.heap.size) N q m0 a0 s H) (hS : va_S (gA N q s.heap.size) s.heap H locs), W p l e ({ frames := 2, cells := 0, slots := 0, locals := 45 } : Room) s M args below meth c H locs 0 0 (MQ below (va_Ql (fun (r : Int64) (u : (Nat → Value) × (Nat → vp_A)) => r = X0 ∧ u.1 = m0 ∧ u.2 = a0) (gB D cy N q s.heap.size) (gA N q s.heap.size)) args s 0 0 (gA N q s.heap.size)) (F0 M 10 ls []) := by
    intro n
    induction n with
    | zero => intro v3k1 v5k1 H locs ls hl hg1 hW hS; exact (gl_zero hg1).elim
    | succ n ih1 =>
      intro v3k1 v5k1 H locs ls hl hg1 hW hS
      obtain ⟨X1, hs1, hXl1, hXr1⟩ := gl_succ hg1
      have hs1 : fX7_following_S10 F xkr_0 xkr_1 xkr_2 xkr_3 v3k1 v5k1 = some X1 := hs1
      unfold fX7_following_S10 at hs1
      refine lv_iload hx hb dX7_following_10 (lv_at hl 2 rfl) ?_
      refine lv_if_lt (tgt := 53) hx hb dX7_following_12 (by decide) (fun c37 => ?_) (fun c37 => ?_)
      · rw [if_pos c37] at hs1
        exact hE1_53 v3k1 (hXl1 _ (Option.some.inj hs1).symm) _ _ ls (lv_sub hl [0, 1] rfl) hW hS
      · rw [if_neg c37] at hs1
        refine lv_lload_n hx hb dX7_following_15 rfl (lv_at hl 1 rfl) ?_
        refine g_SiR (n := 1) hx hb hml hown hG hW hS [.long v3k1] (kX7_lettersIn hN v3k1) rfl (gd_S gx456 gx372 gx39 gx373) rfl rfl (by decide) ⟨Nat.le_of_ble_eq_true rfl, Nat.le_of_ble_eq_true rfl⟩ rfl hl (Nat.le_of_ble_eq_true rfl) ⟨Nat.zero_le _, Nat.zero_le _⟩ dX7_following_16 (fun H locs hW hS => ?_)
        refine lv_aload_n hx hb dX7_following_19 rfl (lv_at hl 0 rfl) ?_
        refine gf7_0 hx hb hG hown hW (o := kr) hkr hgk (v := .int xkr_0) h_xkr_0 gx150 dX7_following_20 ?_
        refine lv_icmp_ge (tgt := 36) hx hb dX7_following_23 (by decide) (fun c39 => ?_) (fun c39 => ?_)
        · rw [if_pos c39] at hs1
          refine lv_lload_n hx hb dX7_following_36 rfl (lv_at hl 1 rfl) ?_
          refine lv_iload hx hb dX7_following_37 (lv_at hl 2 rfl) ?_
          refine g_SiR (n := 1) hx hb hml hown hG hW hS [.int v5k1] (kX7_lettersAt hN v5k1) rfl (gd_S gx405 gx369 gx39 gx370) rfl rfl (by decide) ⟨Nat.le_of_ble_eq_true rfl, Nat.le_of_ble_eq_true rfl⟩ rfl hl (Nat.le_of_ble_eq_true rfl) ⟨Nat.zero_le _, Nat.zero_le _⟩ dX7_following_39 (fun H locs hW hS => ?_)
          refine lv_iconst (v := 0) hx hb dX7_following_42 (by decide) ?_
          refine g_SlR (n := 3) hx hb hml hown hG hW hS [.long v3k1, .int (fX7_lettersAt v5k1), .int 0] (kX7_withDigit hN v3k1 (fX7_lettersAt v5k1) 0) rfl (gd_S gx1028 gx323 gx39 gx324) rfl rfl (by decide) ⟨Nat.le_of_ble_eq_true rfl, Nat.le_of_ble_eq_true rfl⟩ rfl hl (Nat.le_of_ble_eq_true rfl) ⟨Nat.zero_le _, Nat.zero_le _⟩ dX7_following_43 (fun H locs hW hS => ?_)
          refine lv_lstore_n (lv' := [(3, .long (fX7_withDigit v3k1 (fX7_lettersAt v5k1) 0)), (0, .ref (q kr)), (5, .int v5k1)]) hx hb dX7_following_46 rfl hl (by decide) rfl (fun ls hl => ?_)
          refine lv_iinc (v := v5k1 + (-1)) (lv' := [(5, .int (v5k1 + (-1))), (3, .long (fX7_withDigit v3k1 (fX7_lettersAt v5k1) 0)), (0, .ref (q kr))]) hx hb dX7_following_47 hl (k := 2) rfl (congrArg (fun z => v5k1 + z) (by decide : Int32.ofInt (-1) = (-1))) (by decide) rfl (fun ls hl => ?_)
          refine lv_goto (tgt := 10) hx hb dX7_following_50 (by decide) ?_
          exact ih1 (fX7_withDigit v3k1 (fX7_lettersAt v5k1) 0) (v5k1 + (-1)) _ _ ls (lv_sub hl [2, 1, 0] rfl) (hXr1 _ (Option.some.inj hs1).symm) hW hS
        · rw [if_neg c39] at hs1
          exact hE1_26 (v3k1, v5k1) (hXl1 _ (Option.some.inj hs1).symm) _ _ ls (lv_sub hl [1, 2] rfl) hW hS
  exact hL1 F p1 (xkr_1 - 1) _ _ ls (lv_sub hl [2, 1, 0] rfl) hg1 hW hS
