/-! 05.rules (by program): the pure function of each method, its rows, its contract -/
-- java.lang.Long.bitCount (J)I
def fJ13_bitCount_95d88 (p0 : Int64) : Int32 := (((((((((p0 - (((p0.toUInt64 >>> ((1 : Int32).toInt64.toUInt64 &&& Int64.toUInt64 63)).toInt64) &&& 6148914691236517205)) &&& 3689348814741910323) + ((((p0 - (((p0.toUInt64 >>> ((1 : Int32).toInt64.toUInt64 &&& Int64.toUInt64 63)).toInt64) &&& 6148914691236517205)).toUInt64 >>> ((2 : Int32).toInt64.toUInt64 &&& Int64.toUInt64 63)).toInt64) &&& 3689348814741910323)) + (((((p0 - (((p0.toUInt64 >>> ((1 : Int32).toInt64.toUInt64 &&& Int64.toUInt64 63)).toInt64) &&& 6148914691236517205)) &&& 3689348814741910323) + ((((p0 - (((p0.toUInt64 >>> ((1 : Int32).toInt64.toUInt64 &&& Int64.toUInt64 63)).toInt64) &&& 6148914691236517205)).toUInt64 >>> ((2 : Int32).toInt64.toUInt64 &&& Int64.toUInt64 63)).toInt64) &&& 3689348814741910323)).toUInt64 >>> ((4 : Int32).toInt64.toUInt64 &&& Int64.toUInt64 63)).toInt64)) &&& 1085102592571150095) + (((((((p0 - (((p0.toUInt64 >>> ((1 : Int32).toInt64.toUInt64 &&& Int64.toUInt64 63)).toInt64) &&& 6148914691236517205)) &&& 3689348814741910323) + ((((p0 - (((p0.toUInt64 >>> ((1 : Int32).toInt64.toUInt64 &&& Int64.toUInt64 63)).toInt64) &&& 6148914691236517205)).toUInt64 >>> ((2 : Int32).toInt64.toUInt64 &&& Int64.toUInt64 63)).toInt64) &&& 3689348814741910323)) + (((((p0 - (((p0.toUInt64 >>> ((1 : Int32).toInt64.toUInt64 &&& Int64.toUInt64 63)).toInt64) &&& 6148914691236517205)) &&& 3689348814741910323) + ((((p0 - (((p0.toUInt64 >>> ((1 : Int32).toInt64.toUInt64 &&& Int64.toUInt64 63)).toInt64) &&& 6148914691236517205)).toUInt64 >>> ((2 : Int32).toInt64.toUInt64 &&& Int64.toUInt64 63)).toInt64) &&& 3689348814741910323)).toUInt64 >>> ((4 : Int32).toInt64.toUInt64 &&& Int64.toUInt64 63)).toInt64)) &&& 1085102592571150095).toUInt64 >>> ((8 : Int32).toInt64.toUInt64 &&& Int64.toUInt64 63)).toInt64)) + ((((((((p0 - (((p0.toUInt64 >>> ((1 : Int32).toInt64.toUInt64 &&& Int64.toUInt64 63)).toInt64) &&& 6148914691236517205)) &&& 3689348814741910323) + ((((p0 - (((p0.toUInt64 >>> ((1 : Int32).toInt64.toUInt64 &&& Int64.toUInt64 63)).toInt64) &&& 6148914691236517205)).toUInt64 >>> ((2 : Int32).toInt64.toUInt64 &&& Int64.toUInt64 63)).toInt64) &&& 3689348814741910323)) + (((((p0 - (((p0.toUInt64 >>> ((1 : Int32).toInt64.toUInt64 &&& Int64.toUInt64 63)).toInt64) &&& 6148914691236517205)) &&& 3689348814741910323) + ((((p0 - (((p0.toUInt64 >>> ((1 : Int32).toInt64.toUInt64 &&& Int64.toUInt64 63)).toInt64) &&& 6148914691236517205)).toUInt64 >>> ((2 : Int32).toInt64.toUInt64 &&& Int64.toUInt64 63)).toInt64) &&& 3689348814741910323)).toUInt64 >>> ((4 : Int32).toInt64.toUInt64 &&& Int64.toUInt64 63)).toInt64)) &&& 1085102592571150095) + (((((((p0 - (((p0.toUInt64 >>> ((1 : Int32).toInt64.toUInt64 &&& Int64.toUInt64 63)).toInt64) &&& 6148914691236517205)) &&& 3689348814741910323) + ((((p0 - (((p0.toUInt64 >>> ((1 : Int32).toInt64.toUInt64 &&& Int64.toUInt64 63)).toInt64) &&& 6148914691236517205)).toUInt64 >>> ((2 : Int32).toInt64.toUInt64 &&& Int64.toUInt64 63)).toInt64) &&& 3689348814741910323)) + (((((p0 - (((p0.toUInt64 >>> ((1 : Int32).toInt64.toUInt64 &&& Int64.toUInt64 63)).toInt64) &&& 6148914691236517205)) &&& 3689348814741910323) + ((((p0 - (((p0.toUInt64 >>> ((1 : Int32).toInt64.toUInt64 &&& Int64.toUInt64 63)).toInt64) &&& 6148914691236517205)).toUInt64 >>> ((2 : Int32).toInt64.toUInt64 &&& Int64.toUInt64 63)).toInt64) &&& 3689348814741910323)).toUInt64 >>> ((4 : Int32).toInt64.toUInt64 &&& Int64.toUInt64 63)).toInt64)) &&& 1085102592571150095).toUInt64 >>> ((8 : Int32).toInt64.toUInt64 &&& Int64.toUInt64 63)).toInt64)).toUInt64 >>> ((16 : Int32).toInt64.toUInt64 &&& Int64.toUInt64 63)).toInt64)) + (((((((((p0 - (((p0.toUInt64 >>> ((1 : Int32).toInt64.toUInt64 &&& Int64.toUInt64 63)).toInt64) &&& 6148914691236517205)) &&& 3689348814741910323) + ((((p0 - (((p0.toUInt64 >>> ((1 : Int32).toInt64.toUInt64 &&& Int64.toUInt64 63)).toInt64) &&& 6148914691236517205)).toUInt64 >>> ((2 : Int32).toInt64.toUInt64 &&& Int64.toUInt64 63)).toInt64) &&& 3689348814741910323)) + (((((p0 - (((p0.toUInt64 >>> ((1 : Int32).toInt64.toUInt64 &&& Int64.toUInt64 63)).toInt64) &&& 6148914691236517205)) &&& 3689348814741910323) + ((((p0 - (((p0.toUInt64 >>> ((1 : Int32).toInt64.toUInt64 &&& Int64.toUInt64 63)).toInt64) &&& 6148914691236517205)).toUInt64 >>> ((2 : Int32).toInt64.toUInt64 &&& Int64.toUInt64 63)).toInt64) &&& 3689348814741910323)).toUInt64 >>> ((4 : Int32).toInt64.toUInt64 &&& Int64.toUInt64 63)).toInt64)) &&& 1085102592571150095) + (((((((p0 - (((p0.toUInt64 >>> ((1 : Int32).toInt64.toUInt64 &&& Int64.toUInt64 63)).toInt64) &&& 6148914691236517205)) &&& 3689348814741910323) + ((((p0 - (((p0.toUInt64 >>> ((1 : Int32).toInt64.toUInt64 &&& Int64.toUInt64 63)).toInt64) &&& 6148914691236517205)).toUInt64 >>> ((2 : Int32).toInt64.toUInt64 &&& Int64.toUInt64 63)).toInt64) &&& 3689348814741910323)) + (((((p0 - (((p0.toUInt64 >>> ((1 : Int32).toInt64.toUInt64 &&& Int64.toUInt64 63)).toInt64) &&& 6148914691236517205)) &&& 3689348814741910323) + ((((p0 - (((p0.toUInt64 >>> ((1 : Int32).toInt64.toUInt64 &&& Int64.toUInt64 63)).toInt64) &&& 6148914691236517205)).toUInt64 >>> ((2 : Int32).toInt64.toUInt64 &&& Int64.toUInt64 63)).toInt64) &&& 3689348814741910323)).toUInt64 >>> ((4 : Int32).toInt64.toUInt64 &&& Int64.toUInt64 63)).toInt64)) &&& 1085102592571150095).toUInt64 >>> ((8 : Int32).toInt64.toUInt64 &&& Int64.toUInt64 63)).toInt64)) + ((((((((p0 - (((p0.toUInt64 >>> ((1 : Int32).toInt64.toUInt64 &&& Int64.toUInt64 63)).toInt64) &&& 6148914691236517205)) &&& 3689348814741910323) + ((((p0 - (((p0.toUInt64 >>> ((1 : Int32).toInt64.toUInt64 &&& Int64.toUInt64 63)).toInt64) &&& 6148914691236517205)).toUInt64 >>> ((2 : Int32).toInt64.toUInt64 &&& Int64.toUInt64 63)).toInt64) &&& 3689348814741910323)) + (((((p0 - (((p0.toUInt64 >>> ((1 : Int32).toInt64.toUInt64 &&& Int64.toUInt64 63)).toInt64) &&& 6148914691236517205)) &&& 3689348814741910323) + ((((p0 - (((p0.toUInt64 >>> ((1 : Int32).toInt64.toUInt64 &&& Int64.toUInt64 63)).toInt64) &&& 6148914691236517205)).toUInt64 >>> ((2 : Int32).toInt64.toUInt64 &&& Int64.toUInt64 63)).toInt64) &&& 3689348814741910323)).toUInt64 >>> ((4 : Int32).toInt64.toUInt64 &&& Int64.toUInt64 63)).toInt64)) &&& 1085102592571150095) + (((((((p0 - (((p0.toUInt64 >>> ((1 : Int32).toInt64.toUInt64 &&& Int64.toUInt64 63)).toInt64) &&& 6148914691236517205)) &&& 3689348814741910323) + ((((p0 - (((p0.toUInt64 >>> ((1 : Int32).toInt64.toUInt64 &&& Int64.toUInt64 63)).toInt64) &&& 6148914691236517205)).toUInt64 >>> ((2 : Int32).toInt64.toUInt64 &&& Int64.toUInt64 63)).toInt64) &&& 3689348814741910323)) + (((((p0 - (((p0.toUInt64 >>> ((1 : Int32).toInt64.toUInt64 &&& Int64.toUInt64 63)).toInt64) &&& 6148914691236517205)) &&& 3689348814741910323) + ((((p0 - (((p0.toUInt64 >>> ((1 : Int32).toInt64.toUInt64 &&& Int64.toUInt64 63)).toInt64) &&& 6148914691236517205)).toUInt64 >>> ((2 : Int32).toInt64.toUInt64 &&& Int64.toUInt64 63)).toInt64) &&& 3689348814741910323)).toUInt64 >>> ((4 : Int32).toInt64.toUInt64 &&& Int64.toUInt64 63)).toInt64)) &&& 1085102592571150095).toUInt64 >>> ((8 : Int32).toInt64.toUInt64 &&& Int64.toUInt64 63)).toInt64)).toUInt64 >>> ((16 : Int32).toInt64.toUInt64 &&& Int64.toUInt64 63)).toInt64)).toUInt64 >>> ((32 : Int32).toInt64.toUInt64 &&& Int64.toUInt64 63)).toInt64)).toInt32) &&& 127
theorem dJ13_bitCount_95d88_0 : decode cJ13_bitCount_95d88 0 = .ok (.lload_n 0, 1) := by decide +kernel
theorem dJ13_bitCount_95d88_1 : decode cJ13_bitCount_95d88 1 = .ok (.lload_n 0, 1) := by decide +kernel
theorem dJ13_bitCount_95d88_2 : decode cJ13_bitCount_95d88 2 = .ok (.iconst 1, 1) := by decide +kernel
theorem dJ13_bitCount_95d88_3 : decode cJ13_bitCount_95d88 3 = .ok (.lushr, 1) := by decide +kernel
theorem dJ13_bitCount_95d88_4 : decode cJ13_bitCount_95d88 4 = .ok (.ldc2_w 314, 3) := by decide +kernel
theorem dJ13_bitCount_95d88_7 : decode cJ13_bitCount_95d88 7 = .ok (.land, 1) := by decide +kernel
theorem dJ13_bitCount_95d88_8 : decode cJ13_bitCount_95d88 8 = .ok (.lsub, 1) := by decide +kernel
theorem dJ13_bitCount_95d88_9 : decode cJ13_bitCount_95d88 9 = .ok (.lstore_n 0, 1) := by decide +kernel
theorem dJ13_bitCount_95d88_10 : decode cJ13_bitCount_95d88 10 = .ok (.lload_n 0, 1) := by decide +kernel
theorem dJ13_bitCount_95d88_11 : decode cJ13_bitCount_95d88 11 = .ok (.ldc2_w 316, 3) := by decide +kernel
theorem dJ13_bitCount_95d88_14 : decode cJ13_bitCount_95d88 14 = .ok (.land, 1) := by decide +kernel
theorem dJ13_bitCount_95d88_15 : decode cJ13_bitCount_95d88 15 = .ok (.lload_n 0, 1) := by decide +kernel
theorem dJ13_bitCount_95d88_16 : decode cJ13_bitCount_95d88 16 = .ok (.iconst 2, 1) := by decide +kernel
theorem dJ13_bitCount_95d88_17 : decode cJ13_bitCount_95d88 17 = .ok (.lushr, 1) := by decide +kernel
theorem dJ13_bitCount_95d88_18 : decode cJ13_bitCount_95d88 18 = .ok (.ldc2_w 316, 3) := by decide +kernel
theorem dJ13_bitCount_95d88_21 : decode cJ13_bitCount_95d88 21 = .ok (.land, 1) := by decide +kernel
theorem dJ13_bitCount_95d88_22 : decode cJ13_bitCount_95d88 22 = .ok (.ladd, 1) := by decide +kernel
theorem dJ13_bitCount_95d88_23 : decode cJ13_bitCount_95d88 23 = .ok (.lstore_n 0, 1) := by decide +kernel
theorem dJ13_bitCount_95d88_24 : decode cJ13_bitCount_95d88 24 = .ok (.lload_n 0, 1) := by decide +kernel
theorem dJ13_bitCount_95d88_25 : decode cJ13_bitCount_95d88 25 = .ok (.lload_n 0, 1) := by decide +kernel
theorem dJ13_bitCount_95d88_26 : decode cJ13_bitCount_95d88 26 = .ok (.iconst 4, 1) := by decide +kernel
theorem dJ13_bitCount_95d88_27 : decode cJ13_bitCount_95d88 27 = .ok (.lushr, 1) := by decide +kernel
theorem dJ13_bitCount_95d88_28 : decode cJ13_bitCount_95d88 28 = .ok (.ladd, 1) := by decide +kernel
theorem dJ13_bitCount_95d88_29 : decode cJ13_bitCount_95d88 29 = .ok (.ldc2_w 318, 3) := by decide +kernel
theorem dJ13_bitCount_95d88_32 : decode cJ13_bitCount_95d88 32 = .ok (.land, 1) := by decide +kernel
theorem dJ13_bitCount_95d88_33 : decode cJ13_bitCount_95d88 33 = .ok (.lstore_n 0, 1) := by decide +kernel
theorem dJ13_bitCount_95d88_34 : decode cJ13_bitCount_95d88 34 = .ok (.lload_n 0, 1) := by decide +kernel
theorem dJ13_bitCount_95d88_35 : decode cJ13_bitCount_95d88 35 = .ok (.lload_n 0, 1) := by decide +kernel
theorem dJ13_bitCount_95d88_36 : decode cJ13_bitCount_95d88 36 = .ok (.bipush 8, 2) := by decide +kernel
theorem dJ13_bitCount_95d88_38 : decode cJ13_bitCount_95d88 38 = .ok (.lushr, 1) := by decide +kernel
theorem dJ13_bitCount_95d88_39 : decode cJ13_bitCount_95d88 39 = .ok (.ladd, 1) := by decide +kernel
theorem dJ13_bitCount_95d88_40 : decode cJ13_bitCount_95d88 40 = .ok (.lstore_n 0, 1) := by decide +kernel
theorem dJ13_bitCount_95d88_41 : decode cJ13_bitCount_95d88 41 = .ok (.lload_n 0, 1) := by decide +kernel
theorem dJ13_bitCount_95d88_42 : decode cJ13_bitCount_95d88 42 = .ok (.lload_n 0, 1) := by decide +kernel
theorem dJ13_bitCount_95d88_43 : decode cJ13_bitCount_95d88 43 = .ok (.bipush 16, 2) := by decide +kernel
theorem dJ13_bitCount_95d88_45 : decode cJ13_bitCount_95d88 45 = .ok (.lushr, 1) := by decide +kernel
theorem dJ13_bitCount_95d88_46 : decode cJ13_bitCount_95d88 46 = .ok (.ladd, 1) := by decide +kernel
theorem dJ13_bitCount_95d88_47 : decode cJ13_bitCount_95d88 47 = .ok (.lstore_n 0, 1) := by decide +kernel
theorem dJ13_bitCount_95d88_48 : decode cJ13_bitCount_95d88 48 = .ok (.lload_n 0, 1) := by decide +kernel
theorem dJ13_bitCount_95d88_49 : decode cJ13_bitCount_95d88 49 = .ok (.lload_n 0, 1) := by decide +kernel
theorem dJ13_bitCount_95d88_50 : decode cJ13_bitCount_95d88 50 = .ok (.bipush 32, 2) := by decide +kernel
theorem dJ13_bitCount_95d88_52 : decode cJ13_bitCount_95d88 52 = .ok (.lushr, 1) := by decide +kernel
theorem dJ13_bitCount_95d88_53 : decode cJ13_bitCount_95d88 53 = .ok (.ladd, 1) := by decide +kernel
theorem dJ13_bitCount_95d88_54 : decode cJ13_bitCount_95d88 54 = .ok (.lstore_n 0, 1) := by decide +kernel
theorem dJ13_bitCount_95d88_55 : decode cJ13_bitCount_95d88 55 = .ok (.lload_n 0, 1) := by decide +kernel
theorem dJ13_bitCount_95d88_56 : decode cJ13_bitCount_95d88 56 = .ok (.l2i, 1) := by decide +kernel
theorem dJ13_bitCount_95d88_57 : decode cJ13_bitCount_95d88 57 = .ok (.bipush 127, 2) := by decide +kernel
theorem dJ13_bitCount_95d88_59 : decode cJ13_bitCount_95d88 59 = .ok (.iand, 1) := by decide +kernel
theorem dJ13_bitCount_95d88_60 : decode cJ13_bitCount_95d88 60 = .ok (.ireturn, 1) := by decide +kernel
set_option maxHeartbeats 4000000 in
set_option maxRecDepth 100000 in
theorem kJ13_bitCount_95d88 {l : Launch} {D : va_G} {cy : Nat → ClassId} {N : Nat} {q : Nat → Nat} {m0 : Nat → Value} {a0 : Nat → vp_A} {sz : Nat} (hN : 105 ≤ N) (p0 : Int64) : gMi l yJ13_bitCount_95d88 cJ13_bitCount_95d88 2 (some .int) ({ frames := 0, cells := 0, slots := 0, locals := 0 } : Room) D cy N q m0 a0 sz [.long p0] (fun r m' a' => r = (fJ13_bitCount_95d88 p0) ∧ m' = m0 ∧ a' = a0) := by
  generalize hs0 : fJ13_bitCount_95d88 p0 = X0
  refine g_ofi (by decide) (Nat.le_of_ble_eq_true rfl) ?_
  intro p e s M args below meth c hx hb hr hG hown hin hlocks hml hW hS ls hl
  unfold fJ13_bitCount_95d88 at hs0
  refine lv_lload_n hx hb dJ13_bitCount_95d88_0 rfl (lv_at hl 0 rfl) ?_
  refine lv_lload_n hx hb dJ13_bitCount_95d88_1 rfl (lv_at hl 0 rfl) ?_
  refine lv_iconst (v := 1) hx hb dJ13_bitCount_95d88_2 (by decide) ?_
  refine lv_lushr hx hb dJ13_bitCount_95d88_3 rfl ?_
  refine lv_ldc2 (v := 6148914691236517205) hx hb hown (hG _ gx351) dJ13_bitCount_95d88_4 ?_
  refine lv_land hx hb dJ13_bitCount_95d88_7 ?_
  refine lv_lsub hx hb dJ13_bitCount_95d88_8 ?_
  refine lv_lstore_n (lv' := [(0, .long (p0 - (((p0.toUInt64 >>> ((1 : Int32).toInt64.toUInt64 &&& Int64.toUInt64 63)).toInt64) &&& 6148914691236517205)))]) hx hb dJ13_bitCount_95d88_9 rfl hl (by decide) rfl (fun ls hl => ?_)
  refine lv_lload_n hx hb dJ13_bitCount_95d88_10 rfl (lv_at hl 0 rfl) ?_
  refine lv_ldc2 (v := 3689348814741910323) hx hb hown (hG _ gx352) dJ13_bitCount_95d88_11 ?_
  refine lv_land hx hb dJ13_bitCount_95d88_14 ?_
  refine lv_lload_n hx hb dJ13_bitCount_95d88_15 rfl (lv_at hl 0 rfl) ?_
  refine lv_iconst (v := 2) hx hb dJ13_bitCount_95d88_16 (by decide) ?_
  refine lv_lushr hx hb dJ13_bitCount_95d88_17 rfl ?_
  refine lv_ldc2 (v := 3689348814741910323) hx hb hown (hG _ gx352) dJ13_bitCount_95d88_18 ?_
  refine lv_land hx hb dJ13_bitCount_95d88_21 ?_
  refine lv_ladd hx hb dJ13_bitCount_95d88_22 ?_
  refine lv_lstore_n (lv' := [(0, .long (((p0 - (((p0.toUInt64 >>> ((1 : Int32).toInt64.toUInt64 &&& Int64.toUInt64 63)).toInt64) &&& 6148914691236517205)) &&& 3689348814741910323) + ((((p0 - (((p0.toUInt64 >>> ((1 : Int32).toInt64.toUInt64 &&& Int64.toUInt64 63)).toInt64) &&& 6148914691236517205)).toUInt64 >>> ((2 : Int32).toInt64.toUInt64 &&& Int64.toUInt64 63)).toInt64) &&& 3689348814741910323)))]) hx hb dJ13_bitCount_95d88_23 rfl hl (by decide) rfl (fun ls hl => ?_)
  refine lv_lload_n hx hb dJ13_bitCount_95d88_24 rfl (lv_at hl 0 rfl) ?_
  refine lv_lload_n hx hb dJ13_bitCount_95d88_25 rfl (lv_at hl 0 rfl) ?_
  refine lv_iconst (v := 4) hx hb dJ13_bitCount_95d88_26 (by decide) ?_
  refine lv_lushr hx hb dJ13_bitCount_95d88_27 rfl ?_
  refine lv_ladd hx hb dJ13_bitCount_95d88_28 ?_
  refine lv_ldc2 (v := 1085102592571150095) hx hb hown (hG _ gx353) dJ13_bitCount_95d88_29 ?_
  refine lv_land hx hb dJ13_bitCount_95d88_32 ?_
  refine lv_lstore_n (lv' := [(0, .long (((((p0 - (((p0.toUInt64 >>> ((1 : Int32).toInt64.toUInt64 &&& Int64.toUInt64 63)).toInt64) &&& 6148914691236517205)) &&& 3689348814741910323) + ((((p0 - (((p0.toUInt64 >>> ((1 : Int32).toInt64.toUInt64 &&& Int64.toUInt64 63)).toInt64) &&& 6148914691236517205)).toUInt64 >>> ((2 : Int32).toInt64.toUInt64 &&& Int64.toUInt64 63)).toInt64) &&& 3689348814741910323)) + (((((p0 - (((p0.toUInt64 >>> ((1 : Int32).toInt64.toUInt64 &&& Int64.toUInt64 63)).toInt64) &&& 6148914691236517205)) &&& 3689348814741910323) + ((((p0 - (((p0.toUInt64 >>> ((1 : Int32).toInt64.toUInt64 &&& Int64.toUInt64 63)).toInt64) &&& 6148914691236517205)).toUInt64 >>> ((2 : Int32).toInt64.toUInt64 &&& Int64.toUInt64 63)).toInt64) &&& 3689348814741910323)).toUInt64 >>> ((4 : Int32).toInt64.toUInt64 &&& Int64.toUInt64 63)).toInt64)) &&& 1085102592571150095))]) hx hb dJ13_bitCount_95d88_33 rfl hl (by decide) rfl (fun ls hl => ?_)
  refine lv_lload_n hx hb dJ13_bitCount_95d88_34 rfl (lv_at hl 0 rfl) ?_
  refine lv_lload_n hx hb dJ13_bitCount_95d88_35 rfl (lv_at hl 0 rfl) ?_
  refine lv_bipush (v := 8) hx hb dJ13_bitCount_95d88_36 (by decide) ?_
  refine lv_lushr hx hb dJ13_bitCount_95d88_38 rfl ?_
  refine lv_ladd hx hb dJ13_bitCount_95d88_39 ?_
  refine lv_lstore_n (lv' := [(0, .long ((((((p0 - (((p0.toUInt64 >>> ((1 : Int32).toInt64.toUInt64 &&& Int64.toUInt64 63)).toInt64) &&& 6148914691236517205)) &&& 3689348814741910323) + ((((p0 - (((p0.toUInt64 >>> ((1 : Int32).toInt64.toUInt64 &&& Int64.toUInt64 63)).toInt64) &&& 6148914691236517205)).toUInt64 >>> ((2 : Int32).toInt64.toUInt64 &&& Int64.toUInt64 63)).toInt64) &&& 3689348814741910323)) + (((((p0 - (((p0.toUInt64 >>> ((1 : Int32).toInt64.toUInt64 &&& Int64.toUInt64 63)).toInt64) &&& 6148914691236517205)) &&& 3689348814741910323) + ((((p0 - (((p0.toUInt64 >>> ((1 : Int32).toInt64.toUInt64 &&& Int64.toUInt64 63)).toInt64) &&& 6148914691236517205)).toUInt64 >>> ((2 : Int32).toInt64.toUInt64 &&& Int64.toUInt64 63)).toInt64) &&& 3689348814741910323)).toUInt64 >>> ((4 : Int32).toInt64.toUInt64 &&& Int64.toUInt64 63)).toInt64)) &&& 1085102592571150095) + (((((((p0 - (((p0.toUInt64 >>> ((1 : Int32).toInt64.toUInt64 &&& Int64.toUInt64 63)).toInt64) &&& 6148914691236517205)) &&& 3689348814741910323) + ((((p0 - (((p0.toUInt64 >>> ((1 : Int32).toInt64.toUInt64 &&& Int64.toUInt64 63)).toInt64) &&& 6148914691236517205)).toUInt64 >>> ((2 : Int32).toInt64.toUInt64 &&& Int64.toUInt64 63)).toInt64) &&& 3689348814741910323)) + (((((p0 - (((p0.toUInt64 >>> ((1 : Int32).toInt64.toUInt64 &&& Int64.toUInt64 63)).toInt64) &&& 6148914691236517205)) &&& 3689348814741910323) + ((((p0 - (((p0.toUInt64 >>> ((1 : Int32).toInt64.toUInt64 &&& Int64.toUInt64 63)).toInt64) &&& 6148914691236517205)).toUInt64 >>> ((2 : Int32).toInt64.toUInt64 &&& Int64.toUInt64 63)).toInt64) &&& 3689348814741910323)).toUInt64 >>> ((4 : Int32).toInt64.toUInt64 &&& Int64.toUInt64 63)).toInt64)) &&& 1085102592571150095).toUInt64 >>> ((8 : Int32).toInt64.toUInt64 &&& Int64.toUInt64 63)).toInt64)))]) hx hb dJ13_bitCount_95d88_40 rfl hl (by decide) rfl (fun ls hl => ?_)
  refine lv_lload_n hx hb dJ13_bitCount_95d88_41 rfl (lv_at hl 0 rfl) ?_
  refine lv_lload_n hx hb dJ13_bitCount_95d88_42 rfl (lv_at hl 0 rfl) ?_
  refine lv_bipush (v := 16) hx hb dJ13_bitCount_95d88_43 (by decide) ?_
  refine lv_lushr hx hb dJ13_bitCount_95d88_45 rfl ?_
  refine lv_ladd hx hb dJ13_bitCount_95d88_46 ?_
  refine lv_lstore_n (lv' := [(0, .long (((((((p0 - (((p0.toUInt64 >>> ((1 : Int32).toInt64.toUInt64 &&& Int64.toUInt64 63)).toInt64) &&& 6148914691236517205)) &&& 3689348814741910323) + ((((p0 - (((p0.toUInt64 >>> ((1 : Int32).toInt64.toUInt64 &&& Int64.toUInt64 63)).toInt64) &&& 6148914691236517205)).toUInt64 >>> ((2 : Int32).toInt64.toUInt64 &&& Int64.toUInt64 63)).toInt64) &&& 3689348814741910323)) + (((((p0 - (((p0.toUInt64 >>> ((1 : Int32).toInt64.toUInt64 &&& Int64.toUInt64 63)).toInt64) &&& 6148914691236517205)) &&& 3689348814741910323) + ((((p0 - (((p0.toUInt64 >>> ((1 : Int32).toInt64.toUInt64 &&& Int64.toUInt64 63)).toInt64) &&& 6148914691236517205)).toUInt64 >>> ((2 : Int32).toInt64.toUInt64 &&& Int64.toUInt64 63)).toInt64) &&& 3689348814741910323)).toUInt64 >>> ((4 : Int32).toInt64.toUInt64 &&& Int64.toUInt64 63)).toInt64)) &&& 1085102592571150095) + (((((((p0 - (((p0.toUInt64 >>> ((1 : Int32).toInt64.toUInt64 &&& Int64.toUInt64 63)).toInt64) &&& 6148914691236517205)) &&& 3689348814741910323) + ((((p0 - (((p0.toUInt64 >>> ((1 : Int32).toInt64.toUInt64 &&& Int64.toUInt64 63)).toInt64) &&& 6148914691236517205)).toUInt64 >>> ((2 : Int32).toInt64.toUInt64 &&& Int64.toUInt64 63)).toInt64) &&& 3689348814741910323)) + (((((p0 - (((p0.toUInt64 >>> ((1 : Int32).toInt64.toUInt64 &&& Int64.toUInt64 63)).toInt64) &&& 6148914691236517205)) &&& 3689348814741910323) + ((((p0 - (((p0.toUInt64 >>> ((1 : Int32).toInt64.toUInt64 &&& Int64.toUInt64 63)).toInt64) &&& 6148914691236517205)).toUInt64 >>> ((2 : Int32).toInt64.toUInt64 &&& Int64.toUInt64 63)).toInt64) &&& 3689348814741910323)).toUInt64 >>> ((4 : Int32).toInt64.toUInt64 &&& Int64.toUInt64 63)).toInt64)) &&& 1085102592571150095).toUInt64 >>> ((8 : Int32).toInt64.toUInt64 &&& Int64.toUInt64 63)).toInt64)) + ((((((((p0 - (((p0.toUInt64 >>> ((1 : Int32).toInt64.toUInt64 &&& Int64.toUInt64 63)).toInt64) &&& 6148914691236517205)) &&& 3689348814741910323) + ((((p0 - (((p0.toUInt64 >>> ((1 : Int32).toInt64.toUInt64 &&& Int64.toUInt64 63)).toInt64) &&& 6148914691236517205)).toUInt64 >>> ((2 : Int32).toInt64.toUInt64 &&& Int64.toUInt64 63)).toInt64) &&& 3689348814741910323)) + (((((p0 - (((p0.toUInt64 >>> ((1 : Int32).toInt64.toUInt64 &&& Int64.toUInt64 63)).toInt64) &&& 6148914691236517205)) &&& 3689348814741910323) + ((((p0 - (((p0.toUInt64 >>> ((1 : Int32).toInt64.toUInt64 &&& Int64.toUInt64 63)).toInt64) &&& 6148914691236517205)).toUInt64 >>> ((2 : Int32).toInt64.toUInt64 &&& Int64.toUInt64 63)).toInt64) &&& 3689348814741910323)).toUInt64 >>> ((4 : Int32).toInt64.toUInt64 &&& Int64.toUInt64 63)).toInt64)) &&& 1085102592571150095) + (((((((p0 - (((p0.toUInt64 >>> ((1 : Int32).toInt64.toUInt64 &&& Int64.toUInt64 63)).toInt64) &&& 6148914691236517205)) &&& 3689348814741910323) + ((((p0 - (((p0.toUInt64 >>> ((1 : Int32).toInt64.toUInt64 &&& Int64.toUInt64 63)).toInt64) &&& 6148914691236517205)).toUInt64 >>> ((2 : Int32).toInt64.toUInt64 &&& Int64.toUInt64 63)).toInt64) &&& 3689348814741910323)) + (((((p0 - (((p0.toUInt64 >>> ((1 : Int32).toInt64.toUInt64 &&& Int64.toUInt64 63)).toInt64) &&& 6148914691236517205)) &&& 3689348814741910323) + ((((p0 - (((p0.toUInt64 >>> ((1 : Int32).toInt64.toUInt64 &&& Int64.toUInt64 63)).toInt64) &&& 6148914691236517205)).toUInt64 >>> ((2 : Int32).toInt64.toUInt64 &&& Int64.toUInt64 63)).toInt64) &&& 3689348814741910323)).toUInt64 >>> ((4 : Int32).toInt64.toUInt64 &&& Int64.toUInt64 63)).toInt64)) &&& 1085102592571150095).toUInt64 >>> ((8 : Int32).toInt64.toUInt64 &&& Int64.toUInt64 63)).toInt64)).toUInt64 >>> ((16 : Int32).toInt64.toUInt64 &&& Int64.toUInt64 63)).toInt64)))]) hx hb dJ13_bitCount_95d88_47 rfl hl (by decide) rfl (fun ls hl => ?_)
  refine lv_lload_n hx hb dJ13_bitCount_95d88_48 rfl (lv_at hl 0 rfl) ?_
  refine lv_lload_n hx hb dJ13_bitCount_95d88_49 rfl (lv_at hl 0 rfl) ?_
  refine lv_bipush (v := 32) hx hb dJ13_bitCount_95d88_50 (by decide) ?_
  refine lv_lushr hx hb dJ13_bitCount_95d88_52 rfl ?_
  refine lv_ladd hx hb dJ13_bitCount_95d88_53 ?_
  refine lv_lstore_n (lv' := [(0, .long ((((((((p0 - (((p0.toUInt64 >>> ((1 : Int32).toInt64.toUInt64 &&& Int64.toUInt64 63)).toInt64) &&& 6148914691236517205)) &&& 3689348814741910323) + ((((p0 - (((p0.toUInt64 >>> ((1 : Int32).toInt64.toUInt64 &&& Int64.toUInt64 63)).toInt64) &&& 6148914691236517205)).toUInt64 >>> ((2 : Int32).toInt64.toUInt64 &&& Int64.toUInt64 63)).toInt64) &&& 3689348814741910323)) + (((((p0 - (((p0.toUInt64 >>> ((1 : Int32).toInt64.toUInt64 &&& Int64.toUInt64 63)).toInt64) &&& 6148914691236517205)) &&& 3689348814741910323) + ((((p0 - (((p0.toUInt64 >>> ((1 : Int32).toInt64.toUInt64 &&& Int64.toUInt64 63)).toInt64) &&& 6148914691236517205)).toUInt64 >>> ((2 : Int32).toInt64.toUInt64 &&& Int64.toUInt64 63)).toInt64) &&& 3689348814741910323)).toUInt64 >>> ((4 : Int32).toInt64.toUInt64 &&& Int64.toUInt64 63)).toInt64)) &&& 1085102592571150095) + (((((((p0 - (((p0.toUInt64 >>> ((1 : Int32).toInt64.toUInt64 &&& Int64.toUInt64 63)).toInt64) &&& 6148914691236517205)) &&& 3689348814741910323) + ((((p0 - (((p0.toUInt64 >>> ((1 : Int32).toInt64.toUInt64 &&& Int64.toUInt64 63)).toInt64) &&& 6148914691236517205)).toUInt64 >>> ((2 : Int32).toInt64.toUInt64 &&& Int64.toUInt64 63)).toInt64) &&& 3689348814741910323)) + (((((p0 - (((p0.toUInt64 >>> ((1 : Int32).toInt64.toUInt64 &&& Int64.toUInt64 63)).toInt64) &&& 6148914691236517205)) &&& 3689348814741910323) + ((((p0 - (((p0.toUInt64 >>> ((1 : Int32).toInt64.toUInt64 &&& Int64.toUInt64 63)).toInt64) &&& 6148914691236517205)).toUInt64 >>> ((2 : Int32).toInt64.toUInt64 &&& Int64.toUInt64 63)).toInt64) &&& 3689348814741910323)).toUInt64 >>> ((4 : Int32).toInt64.toUInt64 &&& Int64.toUInt64 63)).toInt64)) &&& 1085102592571150095).toUInt64 >>> ((8 : Int32).toInt64.toUInt64 &&& Int64.toUInt64 63)).toInt64)) + ((((((((p0 - (((p0.toUInt64 >>> ((1 : Int32).toInt64.toUInt64 &&& Int64.toUInt64 63)).toInt64) &&& 6148914691236517205)) &&& 3689348814741910323) + ((((p0 - (((p0.toUInt64 >>> ((1 : Int32).toInt64.toUInt64 &&& Int64.toUInt64 63)).toInt64) &&& 6148914691236517205)).toUInt64 >>> ((2 : Int32).toInt64.toUInt64 &&& Int64.toUInt64 63)).toInt64) &&& 3689348814741910323)) + (((((p0 - (((p0.toUInt64 >>> ((1 : Int32).toInt64.toUInt64 &&& Int64.toUInt64 63)).toInt64) &&& 6148914691236517205)) &&& 3689348814741910323) + ((((p0 - (((p0.toUInt64 >>> ((1 : Int32).toInt64.toUInt64 &&& Int64.toUInt64 63)).toInt64) &&& 6148914691236517205)).toUInt64 >>> ((2 : Int32).toInt64.toUInt64 &&& Int64.toUInt64 63)).toInt64) &&& 3689348814741910323)).toUInt64 >>> ((4 : Int32).toInt64.toUInt64 &&& Int64.toUInt64 63)).toInt64)) &&& 1085102592571150095) + (((((((p0 - (((p0.toUInt64 >>> ((1 : Int32).toInt64.toUInt64 &&& Int64.toUInt64 63)).toInt64) &&& 6148914691236517205)) &&& 3689348814741910323) + ((((p0 - (((p0.toUInt64 >>> ((1 : Int32).toInt64.toUInt64 &&& Int64.toUInt64 63)).toInt64) &&& 6148914691236517205)).toUInt64 >>> ((2 : Int32).toInt64.toUInt64 &&& Int64.toUInt64 63)).toInt64) &&& 3689348814741910323)) + (((((p0 - (((p0.toUInt64 >>> ((1 : Int32).toInt64.toUInt64 &&& Int64.toUInt64 63)).toInt64) &&& 6148914691236517205)) &&& 3689348814741910323) + ((((p0 - (((p0.toUInt64 >>> ((1 : Int32).toInt64.toUInt64 &&& Int64.toUInt64 63)).toInt64) &&& 6148914691236517205)).toUInt64 >>> ((2 : Int32).toInt64.toUInt64 &&& Int64.toUInt64 63)).toInt64) &&& 3689348814741910323)).toUInt64 >>> ((4 : Int32).toInt64.toUInt64 &&& Int64.toUInt64 63)).toInt64)) &&& 1085102592571150095).toUInt64 >>> ((8 : Int32).toInt64.toUInt64 &&& Int64.toUInt64 63)).toInt64)).toUInt64 >>> ((16 : Int32).toInt64.toUInt64 &&& Int64.toUInt64 63)).toInt64)) + (((((((((p0 - (((p0.toUInt64 >>> ((1 : Int32).toInt64.toUInt64 &&& Int64.toUInt64 63)).toInt64) &&& 6148914691236517205)) &&& 3689348814741910323) + ((((p0 - (((p0.toUInt64 >>> ((1 : Int32).toInt64.toUInt64 &&& Int64.toUInt64 63)).toInt64) &&& 6148914691236517205)).toUInt64 >>> ((2 : Int32).toInt64.toUInt64 &&& Int64.toUInt64 63)).toInt64) &&& 3689348814741910323)) + (((((p0 - (((p0.toUInt64 >>> ((1 : Int32).toInt64.toUInt64 &&& Int64.toUInt64 63)).toInt64) &&& 6148914691236517205)) &&& 3689348814741910323) + ((((p0 - (((p0.toUInt64 >>> ((1 : Int32).toInt64.toUInt64 &&& Int64.toUInt64 63)).toInt64) &&& 6148914691236517205)).toUInt64 >>> ((2 : Int32).toInt64.toUInt64 &&& Int64.toUInt64 63)).toInt64) &&& 3689348814741910323)).toUInt64 >>> ((4 : Int32).toInt64.toUInt64 &&& Int64.toUInt64 63)).toInt64)) &&& 1085102592571150095) + (((((((p0 - (((p0.toUInt64 >>> ((1 : Int32).toInt64.toUInt64 &&& Int64.toUInt64 63)).toInt64) &&& 6148914691236517205)) &&& 3689348814741910323) + ((((p0 - (((p0.toUInt64 >>> ((1 : Int32).toInt64.toUInt64 &&& Int64.toUInt64 63)).toInt64) &&& 6148914691236517205)).toUInt64 >>> ((2 : Int32).toInt64.toUInt64 &&& Int64.toUInt64 63)).toInt64) &&& 3689348814741910323)) + (((((p0 - (((p0.toUInt64 >>> ((1 : Int32).toInt64.toUInt64 &&& Int64.toUInt64 63)).toInt64) &&& 6148914691236517205)) &&& 3689348814741910323) + ((((p0 - (((p0.toUInt64 >>> ((1 : Int32).toInt64.toUInt64 &&& Int64.toUInt64 63)).toInt64) &&& 6148914691236517205)).toUInt64 >>> ((2 : Int32).toInt64.toUInt64 &&& Int64.toUInt64 63)).toInt64) &&& 3689348814741910323)).toUInt64 >>> ((4 : Int32).toInt64.toUInt64 &&& Int64.toUInt64 63)).toInt64)) &&& 1085102592571150095).toUInt64 >>> ((8 : Int32).toInt64.toUInt64 &&& Int64.toUInt64 63)).toInt64)) + ((((((((p0 - (((p0.toUInt64 >>> ((1 : Int32).toInt64.toUInt64 &&& Int64.toUInt64 63)).toInt64) &&& 6148914691236517205)) &&& 3689348814741910323) + ((((p0 - (((p0.toUInt64 >>> ((1 : Int32).toInt64.toUInt64 &&& Int64.toUInt64 63)).toInt64) &&& 6148914691236517205)).toUInt64 >>> ((2 : Int32).toInt64.toUInt64 &&& Int64.toUInt64 63)).toInt64) &&& 3689348814741910323)) + (((((p0 - (((p0.toUInt64 >>> ((1 : Int32).toInt64.toUInt64 &&& Int64.toUInt64 63)).toInt64) &&& 6148914691236517205)) &&& 3689348814741910323) + ((((p0 - (((p0.toUInt64 >>> ((1 : Int32).toInt64.toUInt64 &&& Int64.toUInt64 63)).toInt64) &&& 6148914691236517205)).toUInt64 >>> ((2 : Int32).toInt64.toUInt64 &&& Int64.toUInt64 63)).toInt64) &&& 3689348814741910323)).toUInt64 >>> ((4 : Int32).toInt64.toUInt64 &&& Int64.toUInt64 63)).toInt64)) &&& 1085102592571150095) + (((((((p0 - (((p0.toUInt64 >>> ((1 : Int32).toInt64.toUInt64 &&& Int64.toUInt64 63)).toInt64) &&& 6148914691236517205)) &&& 3689348814741910323) + ((((p0 - (((p0.toUInt64 >>> ((1 : Int32).toInt64.toUInt64 &&& Int64.toUInt64 63)).toInt64) &&& 6148914691236517205)).toUInt64 >>> ((2 : Int32).toInt64.toUInt64 &&& Int64.toUInt64 63)).toInt64) &&& 3689348814741910323)) + (((((p0 - (((p0.toUInt64 >>> ((1 : Int32).toInt64.toUInt64 &&& Int64.toUInt64 63)).toInt64) &&& 6148914691236517205)) &&& 3689348814741910323) + ((((p0 - (((p0.toUInt64 >>> ((1 : Int32).toInt64.toUInt64 &&& Int64.toUInt64 63)).toInt64) &&& 6148914691236517205)).toUInt64 >>> ((2 : Int32).toInt64.toUInt64 &&& Int64.toUInt64 63)).toInt64) &&& 3689348814741910323)).toUInt64 >>> ((4 : Int32).toInt64.toUInt64 &&& Int64.toUInt64 63)).toInt64)) &&& 1085102592571150095).toUInt64 >>> ((8 : Int32).toInt64.toUInt64 &&& Int64.toUInt64 63)).toInt64)).toUInt64 >>> ((16 : Int32).toInt64.toUInt64 &&& Int64.toUInt64 63)).toInt64)).toUInt64 >>> ((32 : Int32).toInt64.toUInt64 &&& Int64.toUInt64 63)).toInt64)))]) hx hb dJ13_bitCount_95d88_54 rfl hl (by decide) rfl (fun ls hl => ?_)
  refine lv_lload_n hx hb dJ13_bitCount_95d88_55 rfl (lv_at hl 0 rfl) ?_
  refine lv_l2i hx hb dJ13_bitCount_95d88_56 rfl ?_
  refine lv_bipush (v := 127) hx hb dJ13_bitCount_95d88_57 (by decide) ?_
  refine lv_iand hx hb dJ13_bitCount_95d88_59 ?_
  subst hs0
  exact W.zret hx hb hr rfl (fun t ht hw => ⟨⟨_, (m0, a0), rfl, ⟨rfl, rfl, rfl⟩, g_end hW ht hw⟩, hS.F ht⟩) hS.2.2 dJ13_bitCount_95d88_60 hlocks
-- HealLink$Rules.allows (II)Z
def fX7_allows (p0 : Int32) (p1 : Int32) : Int32 := (if p0 = 0 then (if p1 < 1 then 0 else (if 2 < p1 then 0 else 1)) else (if p0 = 1 then (if p1 < 2 then 0 else (if 4 < p1 then 0 else 1)) else (if p0 = 2 then (if p1 < 1 then 0 else (if 7 < p1 then 0 else 1)) else (if p0 = 3 then (if p1 < 1 then 0 else (if 4 < p1 then 0 else 1)) else 0))))
theorem dX7_allows_0 : decode cX7_allows 0 = .ok (.iload_n 0, 1) := by decide +kernel
theorem dX7_allows_1 : decode cX7_allows 1 = .ok (.tableswitch 96 0 3 #[31, 47, 63, 80], 31) := by decide +kernel
theorem dX7_allows_32 : decode cX7_allows 32 = .ok (.iload_n 1, 1) := by decide +kernel
theorem dX7_allows_33 : decode cX7_allows 33 = .ok (.iconst 1, 1) := by decide +kernel
theorem dX7_allows_34 : decode cX7_allows 34 = .ok (.if_icmp .lt 12, 3) := by decide +kernel
theorem dX7_allows_37 : decode cX7_allows 37 = .ok (.iload_n 1, 1) := by decide +kernel
theorem dX7_allows_38 : decode cX7_allows 38 = .ok (.iconst 2, 1) := by decide +kernel
theorem dX7_allows_39 : decode cX7_allows 39 = .ok (.if_icmp .gt 7, 3) := by decide +kernel
theorem dX7_allows_42 : decode cX7_allows 42 = .ok (.iconst 1, 1) := by decide +kernel
theorem dX7_allows_43 : decode cX7_allows 43 = .ok (.goto 4, 3) := by decide +kernel
theorem dX7_allows_46 : decode cX7_allows 46 = .ok (.iconst 0, 1) := by decide +kernel
theorem dX7_allows_47 : decode cX7_allows 47 = .ok (.ireturn, 1) := by decide +kernel
theorem dX7_allows_48 : decode cX7_allows 48 = .ok (.iload_n 1, 1) := by decide +kernel
theorem dX7_allows_49 : decode cX7_allows 49 = .ok (.iconst 2, 1) := by decide +kernel
theorem dX7_allows_50 : decode cX7_allows 50 = .ok (.if_icmp .lt 12, 3) := by decide +kernel
theorem dX7_allows_53 : decode cX7_allows 53 = .ok (.iload_n 1, 1) := by decide +kernel
theorem dX7_allows_54 : decode cX7_allows 54 = .ok (.iconst 4, 1) := by decide +kernel
theorem dX7_allows_55 : decode cX7_allows 55 = .ok (.if_icmp .gt 7, 3) := by decide +kernel
theorem dX7_allows_58 : decode cX7_allows 58 = .ok (.iconst 1, 1) := by decide +kernel
theorem dX7_allows_59 : decode cX7_allows 59 = .ok (.goto 4, 3) := by decide +kernel
theorem dX7_allows_62 : decode cX7_allows 62 = .ok (.iconst 0, 1) := by decide +kernel
theorem dX7_allows_63 : decode cX7_allows 63 = .ok (.ireturn, 1) := by decide +kernel
theorem dX7_allows_64 : decode cX7_allows 64 = .ok (.iload_n 1, 1) := by decide +kernel
theorem dX7_allows_65 : decode cX7_allows 65 = .ok (.iconst 1, 1) := by decide +kernel
theorem dX7_allows_66 : decode cX7_allows 66 = .ok (.if_icmp .lt 13, 3) := by decide +kernel
theorem dX7_allows_69 : decode cX7_allows 69 = .ok (.iload_n 1, 1) := by decide +kernel
theorem dX7_allows_70 : decode cX7_allows 70 = .ok (.bipush 7, 2) := by decide +kernel
theorem dX7_allows_72 : decode cX7_allows 72 = .ok (.if_icmp .gt 7, 3) := by decide +kernel
theorem dX7_allows_75 : decode cX7_allows 75 = .ok (.iconst 1, 1) := by decide +kernel
theorem dX7_allows_76 : decode cX7_allows 76 = .ok (.goto 4, 3) := by decide +kernel
theorem dX7_allows_79 : decode cX7_allows 79 = .ok (.iconst 0, 1) := by decide +kernel
theorem dX7_allows_80 : decode cX7_allows 80 = .ok (.ireturn, 1) := by decide +kernel
theorem dX7_allows_81 : decode cX7_allows 81 = .ok (.iload_n 1, 1) := by decide +kernel
theorem dX7_allows_82 : decode cX7_allows 82 = .ok (.iconst 1, 1) := by decide +kernel
theorem dX7_allows_83 : decode cX7_allows 83 = .ok (.if_icmp .lt 12, 3) := by decide +kernel
theorem dX7_allows_86 : decode cX7_allows 86 = .ok (.iload_n 1, 1) := by decide +kernel
theorem dX7_allows_87 : decode cX7_allows 87 = .ok (.iconst 4, 1) := by decide +kernel
theorem dX7_allows_88 : decode cX7_allows 88 = .ok (.if_icmp .gt 7, 3) := by decide +kernel
theorem dX7_allows_91 : decode cX7_allows 91 = .ok (.iconst 1, 1) := by decide +kernel
theorem dX7_allows_92 : decode cX7_allows 92 = .ok (.goto 4, 3) := by decide +kernel
theorem dX7_allows_95 : decode cX7_allows 95 = .ok (.iconst 0, 1) := by decide +kernel
theorem dX7_allows_96 : decode cX7_allows 96 = .ok (.ireturn, 1) := by decide +kernel
theorem dX7_allows_97 : decode cX7_allows 97 = .ok (.iconst 0, 1) := by decide +kernel
theorem dX7_allows_98 : decode cX7_allows 98 = .ok (.ireturn, 1) := by decide +kernel
set_option maxHeartbeats 4000000 in
set_option maxRecDepth 100000 in
theorem kX7_allows {l : Launch} {D : va_G} {cy : Nat → ClassId} {N : Nat} {q : Nat → Nat} {m0 : Nat → Value} {a0 : Nat → vp_A} {sz : Nat} (hN : 105 ≤ N) (p0 : Int32) (p1 : Int32) : gMi l yX7_allows cX7_allows 2 (some .boolean) ({ frames := 0, cells := 0, slots := 0, locals := 0 } : Room) D cy N q m0 a0 sz [.int p0, .int p1] (fun r m' a' => r = (fX7_allows p0 p1) ∧ m' = m0 ∧ a' = a0) := by
  generalize hs0 : fX7_allows p0 p1 = X0
  refine g_ofi (by decide) (Nat.le_of_ble_eq_true rfl) ?_
  intro p e s M args below meth c hx hb hr hG hown hin hlocks hml hW hS ls hl
  unfold fX7_allows at hs0
  refine lv_iload_n hx hb dX7_allows_0 rfl (lv_at hl 0 rfl) ?_
  by_cases c1 : p0 = 0
  · rw [if_pos c1] at hs0
    refine lv_tableIn (tgt := 32) hx hb dX7_allows_1 (by rw [c1]; decide) (by rw [c1]; decide) (by rw [c1]; rfl) (by decide) ?_
    refine lv_iload_n hx hb dX7_allows_32 rfl (lv_at hl 1 rfl) ?_
    refine lv_iconst (v := 1) hx hb dX7_allows_33 (by decide) ?_
    refine lv_icmp_lt (tgt := 46) hx hb dX7_allows_34 (by decide) (fun c2 => ?_) (fun c2 => ?_)
    · rw [if_pos c2] at hs0
      refine lv_iconst (v := 0) hx hb dX7_allows_46 (by decide) ?_
      subst hs0
      exact W.zret hx hb hr rfl (fun t ht hw => ⟨⟨_, (m0, a0), rfl, ⟨rfl, rfl, rfl⟩, g_end hW ht hw⟩, hS.F ht⟩) hS.2.2 dX7_allows_47 hlocks
    · rw [if_neg c2] at hs0
      refine lv_iload_n hx hb dX7_allows_37 rfl (lv_at hl 1 rfl) ?_
      refine lv_iconst (v := 2) hx hb dX7_allows_38 (by decide) ?_
      refine lv_icmp_gt (tgt := 46) hx hb dX7_allows_39 (by decide) (fun c3 => ?_) (fun c3 => ?_)
      · rw [if_pos c3] at hs0
        refine lv_iconst (v := 0) hx hb dX7_allows_46 (by decide) ?_
        subst hs0
        exact W.zret hx hb hr rfl (fun t ht hw => ⟨⟨_, (m0, a0), rfl, ⟨rfl, rfl, rfl⟩, g_end hW ht hw⟩, hS.F ht⟩) hS.2.2 dX7_allows_47 hlocks
      · rw [if_neg c3] at hs0
        refine lv_iconst (v := 1) hx hb dX7_allows_42 (by decide) ?_
        refine lv_goto (tgt := 47) hx hb dX7_allows_43 (by decide) ?_
        subst hs0
        exact W.zret hx hb hr rfl (fun t ht hw => ⟨⟨_, (m0, a0), rfl, ⟨rfl, rfl, rfl⟩, g_end hW ht hw⟩, hS.F ht⟩) hS.2.2 dX7_allows_47 hlocks
  · rw [if_neg c1] at hs0
    by_cases c4 : p0 = 1
    · rw [if_pos c4] at hs0
      refine lv_tableIn (tgt := 48) hx hb dX7_allows_1 (by rw [c4]; decide) (by rw [c4]; decide) (by rw [c4]; rfl) (by decide) ?_
      refine lv_iload_n hx hb dX7_allows_48 rfl (lv_at hl 1 rfl) ?_
      refine lv_iconst (v := 2) hx hb dX7_allows_49 (by decide) ?_
      refine lv_icmp_lt (tgt := 62) hx hb dX7_allows_50 (by decide) (fun c5 => ?_) (fun c5 => ?_)
      · rw [if_pos c5] at hs0
        refine lv_iconst (v := 0) hx hb dX7_allows_62 (by decide) ?_
        subst hs0
        exact W.zret hx hb hr rfl (fun t ht hw => ⟨⟨_, (m0, a0), rfl, ⟨rfl, rfl, rfl⟩, g_end hW ht hw⟩, hS.F ht⟩) hS.2.2 dX7_allows_63 hlocks
      · rw [if_neg c5] at hs0
        refine lv_iload_n hx hb dX7_allows_53 rfl (lv_at hl 1 rfl) ?_
        refine lv_iconst (v := 4) hx hb dX7_allows_54 (by decide) ?_
        refine lv_icmp_gt (tgt := 62) hx hb dX7_allows_55 (by decide) (fun c6 => ?_) (fun c6 => ?_)
        · rw [if_pos c6] at hs0
          refine lv_iconst (v := 0) hx hb dX7_allows_62 (by decide) ?_
          subst hs0
          exact W.zret hx hb hr rfl (fun t ht hw => ⟨⟨_, (m0, a0), rfl, ⟨rfl, rfl, rfl⟩, g_end hW ht hw⟩, hS.F ht⟩) hS.2.2 dX7_allows_63 hlocks
        · rw [if_neg c6] at hs0
          refine lv_iconst (v := 1) hx hb dX7_allows_58 (by decide) ?_
          refine lv_goto (tgt := 63) hx hb dX7_allows_59 (by decide) ?_
          subst hs0
          exact W.zret hx hb hr rfl (fun t ht hw => ⟨⟨_, (m0, a0), rfl, ⟨rfl, rfl, rfl⟩, g_end hW ht hw⟩, hS.F ht⟩) hS.2.2 dX7_allows_63 hlocks
    · rw [if_neg c4] at hs0
      by_cases c7 : p0 = 2
      · rw [if_pos c7] at hs0
        refine lv_tableIn (tgt := 64) hx hb dX7_allows_1 (by rw [c7]; decide) (by rw [c7]; decide) (by rw [c7]; rfl) (by decide) ?_
        refine lv_iload_n hx hb dX7_allows_64 rfl (lv_at hl 1 rfl) ?_
        refine lv_iconst (v := 1) hx hb dX7_allows_65 (by decide) ?_
        refine lv_icmp_lt (tgt := 79) hx hb dX7_allows_66 (by decide) (fun c8 => ?_) (fun c8 => ?_)
        · rw [if_pos c8] at hs0
          refine lv_iconst (v := 0) hx hb dX7_allows_79 (by decide) ?_
          subst hs0
          exact W.zret hx hb hr rfl (fun t ht hw => ⟨⟨_, (m0, a0), rfl, ⟨rfl, rfl, rfl⟩, g_end hW ht hw⟩, hS.F ht⟩) hS.2.2 dX7_allows_80 hlocks
        · rw [if_neg c8] at hs0
          refine lv_iload_n hx hb dX7_allows_69 rfl (lv_at hl 1 rfl) ?_
          refine lv_bipush (v := 7) hx hb dX7_allows_70 (by decide) ?_
          refine lv_icmp_gt (tgt := 79) hx hb dX7_allows_72 (by decide) (fun c9 => ?_) (fun c9 => ?_)
          · rw [if_pos c9] at hs0
            refine lv_iconst (v := 0) hx hb dX7_allows_79 (by decide) ?_
            subst hs0
            exact W.zret hx hb hr rfl (fun t ht hw => ⟨⟨_, (m0, a0), rfl, ⟨rfl, rfl, rfl⟩, g_end hW ht hw⟩, hS.F ht⟩) hS.2.2 dX7_allows_80 hlocks
          · rw [if_neg c9] at hs0
            refine lv_iconst (v := 1) hx hb dX7_allows_75 (by decide) ?_
            refine lv_goto (tgt := 80) hx hb dX7_allows_76 (by decide) ?_
            subst hs0
            exact W.zret hx hb hr rfl (fun t ht hw => ⟨⟨_, (m0, a0), rfl, ⟨rfl, rfl, rfl⟩, g_end hW ht hw⟩, hS.F ht⟩) hS.2.2 dX7_allows_80 hlocks
      · rw [if_neg c7] at hs0
        by_cases c10 : p0 = 3
        · rw [if_pos c10] at hs0
          refine lv_tableIn (tgt := 81) hx hb dX7_allows_1 (by rw [c10]; decide) (by rw [c10]; decide) (by rw [c10]; rfl) (by decide) ?_
          refine lv_iload_n hx hb dX7_allows_81 rfl (lv_at hl 1 rfl) ?_
          refine lv_iconst (v := 1) hx hb dX7_allows_82 (by decide) ?_
          refine lv_icmp_lt (tgt := 95) hx hb dX7_allows_83 (by decide) (fun c11 => ?_) (fun c11 => ?_)
          · rw [if_pos c11] at hs0
            refine lv_iconst (v := 0) hx hb dX7_allows_95 (by decide) ?_
            subst hs0
            exact W.zret hx hb hr rfl (fun t ht hw => ⟨⟨_, (m0, a0), rfl, ⟨rfl, rfl, rfl⟩, g_end hW ht hw⟩, hS.F ht⟩) hS.2.2 dX7_allows_96 hlocks
          · rw [if_neg c11] at hs0
            refine lv_iload_n hx hb dX7_allows_86 rfl (lv_at hl 1 rfl) ?_
            refine lv_iconst (v := 4) hx hb dX7_allows_87 (by decide) ?_
            refine lv_icmp_gt (tgt := 95) hx hb dX7_allows_88 (by decide) (fun c12 => ?_) (fun c12 => ?_)
            · rw [if_pos c12] at hs0
              refine lv_iconst (v := 0) hx hb dX7_allows_95 (by decide) ?_
              subst hs0
              exact W.zret hx hb hr rfl (fun t ht hw => ⟨⟨_, (m0, a0), rfl, ⟨rfl, rfl, rfl⟩, g_end hW ht hw⟩, hS.F ht⟩) hS.2.2 dX7_allows_96 hlocks
            · rw [if_neg c12] at hs0
              refine lv_iconst (v := 1) hx hb dX7_allows_91 (by decide) ?_
              refine lv_goto (tgt := 96) hx hb dX7_allows_92 (by decide) ?_
              subst hs0
              exact W.zret hx hb hr rfl (fun t ht hw => ⟨⟨_, (m0, a0), rfl, ⟨rfl, rfl, rfl⟩, g_end hW ht hw⟩, hS.F ht⟩) hS.2.2 dX7_allows_96 hlocks
        · rw [if_neg c10] at hs0
          have n1 := ti_ne (n := 0) c1 (by decide)
          have n4 := ti_ne (n := 1) c4 (by decide)
          have n7 := ti_ne (n := 2) c7 (by decide)
          have n10 := ti_ne (n := 3) c10 (by decide)
          refine lv_tableOut (tgt := 97) hx hb dX7_allows_1 (by omega) (by decide) ?_
          refine lv_iconst (v := 0) hx hb dX7_allows_97 (by decide) ?_
          subst hs0
          exact W.zret hx hb hr rfl (fun t ht hw => ⟨⟨_, (m0, a0), rfl, ⟨rfl, rfl, rfl⟩, g_end hW ht hw⟩, hS.F ht⟩) hS.2.2 dX7_allows_98 hlocks
-- HealLink$Rules.seenAt (I)I
def fX7_seenAt (p0 : Int32) : Int32 := 24 + (2 * (7 - p0))
theorem dX7_seenAt_0 : decode cX7_seenAt 0 = .ok (.bipush 24, 2) := by decide +kernel
theorem dX7_seenAt_2 : decode cX7_seenAt 2 = .ok (.iconst 2, 1) := by decide +kernel
theorem dX7_seenAt_3 : decode cX7_seenAt 3 = .ok (.bipush 7, 2) := by decide +kernel
theorem dX7_seenAt_5 : decode cX7_seenAt 5 = .ok (.iload_n 0, 1) := by decide +kernel
theorem dX7_seenAt_6 : decode cX7_seenAt 6 = .ok (.isub, 1) := by decide +kernel
theorem dX7_seenAt_7 : decode cX7_seenAt 7 = .ok (.imul, 1) := by decide +kernel
theorem dX7_seenAt_8 : decode cX7_seenAt 8 = .ok (.iadd, 1) := by decide +kernel
theorem dX7_seenAt_9 : decode cX7_seenAt 9 = .ok (.ireturn, 1) := by decide +kernel
set_option maxHeartbeats 4000000 in
set_option maxRecDepth 100000 in
theorem kX7_seenAt {l : Launch} {D : va_G} {cy : Nat → ClassId} {N : Nat} {q : Nat → Nat} {m0 : Nat → Value} {a0 : Nat → vp_A} {sz : Nat} (hN : 105 ≤ N) (p0 : Int32) : gMi l yX7_seenAt cX7_seenAt 1 (some .int) ({ frames := 0, cells := 0, slots := 0, locals := 0 } : Room) D cy N q m0 a0 sz [.int p0] (fun r m' a' => r = (fX7_seenAt p0) ∧ m' = m0 ∧ a' = a0) := by
  generalize hs0 : fX7_seenAt p0 = X0
  refine g_ofi (by decide) (Nat.le_of_ble_eq_true rfl) ?_
  intro p e s M args below meth c hx hb hr hG hown hin hlocks hml hW hS ls hl
  unfold fX7_seenAt at hs0
  refine lv_bipush (v := 24) hx hb dX7_seenAt_0 (by decide) ?_
  refine lv_iconst (v := 2) hx hb dX7_seenAt_2 (by decide) ?_
  refine lv_bipush (v := 7) hx hb dX7_seenAt_3 (by decide) ?_
  refine lv_iload_n hx hb dX7_seenAt_5 rfl (lv_at hl 0 rfl) ?_
  refine lv_isub hx hb dX7_seenAt_6 ?_
  refine lv_imul hx hb dX7_seenAt_7 ?_
  refine lv_iadd hx hb dX7_seenAt_8 ?_
  subst hs0
  exact W.zret hx hb hr rfl (fun t ht hw => ⟨⟨_, (m0, a0), rfl, ⟨rfl, rfl, rfl⟩, g_end hW ht hw⟩, hS.F ht⟩) hS.2.2 dX7_seenAt_9 hlocks
-- HealLink$Rules.packetsAt (I)I
def fX7_packetsAt (p0 : Int32) : Int32 := 8 + (2 * (7 - p0))
theorem dX7_packetsAt_0 : decode cX7_packetsAt 0 = .ok (.bipush 8, 2) := by decide +kernel
theorem dX7_packetsAt_2 : decode cX7_packetsAt 2 = .ok (.iconst 2, 1) := by decide +kernel
theorem dX7_packetsAt_3 : decode cX7_packetsAt 3 = .ok (.bipush 7, 2) := by decide +kernel
theorem dX7_packetsAt_5 : decode cX7_packetsAt 5 = .ok (.iload_n 0, 1) := by decide +kernel
theorem dX7_packetsAt_6 : decode cX7_packetsAt 6 = .ok (.isub, 1) := by decide +kernel
theorem dX7_packetsAt_7 : decode cX7_packetsAt 7 = .ok (.imul, 1) := by decide +kernel
theorem dX7_packetsAt_8 : decode cX7_packetsAt 8 = .ok (.iadd, 1) := by decide +kernel
theorem dX7_packetsAt_9 : decode cX7_packetsAt 9 = .ok (.ireturn, 1) := by decide +kernel
set_option maxHeartbeats 4000000 in
set_option maxRecDepth 100000 in
theorem kX7_packetsAt {l : Launch} {D : va_G} {cy : Nat → ClassId} {N : Nat} {q : Nat → Nat} {m0 : Nat → Value} {a0 : Nat → vp_A} {sz : Nat} (hN : 105 ≤ N) (p0 : Int32) : gMi l yX7_packetsAt cX7_packetsAt 1 (some .int) ({ frames := 0, cells := 0, slots := 0, locals := 0 } : Room) D cy N q m0 a0 sz [.int p0] (fun r m' a' => r = (fX7_packetsAt p0) ∧ m' = m0 ∧ a' = a0) := by
  generalize hs0 : fX7_packetsAt p0 = X0
  refine g_ofi (by decide) (Nat.le_of_ble_eq_true rfl) ?_
  intro p e s M args below meth c hx hb hr hG hown hin hlocks hml hW hS ls hl
  unfold fX7_packetsAt at hs0
  refine lv_bipush (v := 8) hx hb dX7_packetsAt_0 (by decide) ?_
  refine lv_iconst (v := 2) hx hb dX7_packetsAt_2 (by decide) ?_
  refine lv_bipush (v := 7) hx hb dX7_packetsAt_3 (by decide) ?_
  refine lv_iload_n hx hb dX7_packetsAt_5 rfl (lv_at hl 0 rfl) ?_
  refine lv_isub hx hb dX7_packetsAt_6 ?_
  refine lv_imul hx hb dX7_packetsAt_7 ?_
  refine lv_iadd hx hb dX7_packetsAt_8 ?_
  subst hs0
  exact W.zret hx hb hr rfl (fun t ht hw => ⟨⟨_, (m0, a0), rfl, ⟨rfl, rfl, rfl⟩, g_end hW ht hw⟩, hS.F ht⟩) hS.2.2 dX7_packetsAt_9 hlocks
-- HealLink$Rules.lettersAt (I)I
def fX7_lettersAt (p0 : Int32) : Int32 := 2 * (3 - p0)
theorem dX7_lettersAt_0 : decode cX7_lettersAt 0 = .ok (.iconst 2, 1) := by decide +kernel
theorem dX7_lettersAt_1 : decode cX7_lettersAt 1 = .ok (.iconst 3, 1) := by decide +kernel
theorem dX7_lettersAt_2 : decode cX7_lettersAt 2 = .ok (.iload_n 0, 1) := by decide +kernel
theorem dX7_lettersAt_3 : decode cX7_lettersAt 3 = .ok (.isub, 1) := by decide +kernel
theorem dX7_lettersAt_4 : decode cX7_lettersAt 4 = .ok (.imul, 1) := by decide +kernel
theorem dX7_lettersAt_5 : decode cX7_lettersAt 5 = .ok (.ireturn, 1) := by decide +kernel
set_option maxHeartbeats 4000000 in
set_option maxRecDepth 100000 in
theorem kX7_lettersAt {l : Launch} {D : va_G} {cy : Nat → ClassId} {N : Nat} {q : Nat → Nat} {m0 : Nat → Value} {a0 : Nat → vp_A} {sz : Nat} (hN : 105 ≤ N) (p0 : Int32) : gMi l yX7_lettersAt cX7_lettersAt 1 (some .int) ({ frames := 0, cells := 0, slots := 0, locals := 0 } : Room) D cy N q m0 a0 sz [.int p0] (fun r m' a' => r = (fX7_lettersAt p0) ∧ m' = m0 ∧ a' = a0) := by
  generalize hs0 : fX7_lettersAt p0 = X0
  refine g_ofi (by decide) (Nat.le_of_ble_eq_true rfl) ?_
  intro p e s M args below meth c hx hb hr hG hown hin hlocks hml hW hS ls hl
  unfold fX7_lettersAt at hs0
  refine lv_iconst (v := 2) hx hb dX7_lettersAt_0 (by decide) ?_
  refine lv_iconst (v := 3) hx hb dX7_lettersAt_1 (by decide) ?_
  refine lv_iload_n hx hb dX7_lettersAt_2 rfl (lv_at hl 0 rfl) ?_
  refine lv_isub hx hb dX7_lettersAt_3 ?_
  refine lv_imul hx hb dX7_lettersAt_4 ?_
  subst hs0
  exact W.zret hx hb hr rfl (fun t ht hw => ⟨⟨_, (m0, a0), rfl, ⟨rfl, rfl, rfl⟩, g_end hW ht hw⟩, hS.F ht⟩) hS.2.2 dX7_lettersAt_5 hlocks
-- HealLink$Rules.digit (JI)I
def fX7_digit (p0 : Int64) (p2 : Int32) : Int32 := (((p0.toUInt64 >>> (p2.toInt64.toUInt64 &&& Int64.toUInt64 63)).toInt64).toInt32) &&& 3
theorem dX7_digit_0 : decode cX7_digit 0 = .ok (.lload_n 0, 1) := by decide +kernel
theorem dX7_digit_1 : decode cX7_digit 1 = .ok (.iload_n 2, 1) := by decide +kernel
theorem dX7_digit_2 : decode cX7_digit 2 = .ok (.lushr, 1) := by decide +kernel
theorem dX7_digit_3 : decode cX7_digit 3 = .ok (.l2i, 1) := by decide +kernel
theorem dX7_digit_4 : decode cX7_digit 4 = .ok (.iconst 3, 1) := by decide +kernel
theorem dX7_digit_5 : decode cX7_digit 5 = .ok (.iand, 1) := by decide +kernel
theorem dX7_digit_6 : decode cX7_digit 6 = .ok (.ireturn, 1) := by decide +kernel
set_option maxHeartbeats 4000000 in
set_option maxRecDepth 100000 in
theorem kX7_digit {l : Launch} {D : va_G} {cy : Nat → ClassId} {N : Nat} {q : Nat → Nat} {m0 : Nat → Value} {a0 : Nat → vp_A} {sz : Nat} (hN : 105 ≤ N) (p0 : Int64) (p2 : Int32) : gMi l yX7_digit cX7_digit 3 (some .int) ({ frames := 0, cells := 0, slots := 0, locals := 0 } : Room) D cy N q m0 a0 sz [.long p0, .int p2] (fun r m' a' => r = (fX7_digit p0 p2) ∧ m' = m0 ∧ a' = a0) := by
  generalize hs0 : fX7_digit p0 p2 = X0
  refine g_ofi (by decide) (Nat.le_of_ble_eq_true rfl) ?_
  intro p e s M args below meth c hx hb hr hG hown hin hlocks hml hW hS ls hl
  unfold fX7_digit at hs0
  refine lv_lload_n hx hb dX7_digit_0 rfl (lv_at hl 0 rfl) ?_
  refine lv_iload_n hx hb dX7_digit_1 rfl (lv_at hl 1 rfl) ?_
  refine lv_lushr hx hb dX7_digit_2 rfl ?_
  refine lv_l2i hx hb dX7_digit_3 rfl ?_
  refine lv_iconst (v := 3) hx hb dX7_digit_4 (by decide) ?_
  refine lv_iand hx hb dX7_digit_5 ?_
  subst hs0
  exact W.zret hx hb hr rfl (fun t ht hw => ⟨⟨_, (m0, a0), rfl, ⟨rfl, rfl, rfl⟩, g_end hW ht hw⟩, hS.F ht⟩) hS.2.2 dX7_digit_6 hlocks
-- HealLink$Rules.withDigit (JII)J
def fX7_withDigit (p0 : Int64) (p2 : Int32) (p3 : Int32) : Int64 := (p0 &&& ((3 <<< (p2.toInt64 &&& 63)) ^^^ (-1))) ||| (p3.toInt64 <<< (p2.toInt64 &&& 63))
theorem dX7_withDigit_0 : decode cX7_withDigit 0 = .ok (.lload_n 0, 1) := by decide +kernel
theorem dX7_withDigit_1 : decode cX7_withDigit 1 = .ok (.ldc2_w 31, 3) := by decide +kernel
theorem dX7_withDigit_4 : decode cX7_withDigit 4 = .ok (.iload_n 2, 1) := by decide +kernel
theorem dX7_withDigit_5 : decode cX7_withDigit 5 = .ok (.lshl, 1) := by decide +kernel
theorem dX7_withDigit_6 : decode cX7_withDigit 6 = .ok (.ldc2_w 33, 3) := by decide +kernel
theorem dX7_withDigit_9 : decode cX7_withDigit 9 = .ok (.lxor, 1) := by decide +kernel
theorem dX7_withDigit_10 : decode cX7_withDigit 10 = .ok (.land, 1) := by decide +kernel
theorem dX7_withDigit_11 : decode cX7_withDigit 11 = .ok (.iload_n 3, 1) := by decide +kernel
theorem dX7_withDigit_12 : decode cX7_withDigit 12 = .ok (.i2l, 1) := by decide +kernel
theorem dX7_withDigit_13 : decode cX7_withDigit 13 = .ok (.iload_n 2, 1) := by decide +kernel
theorem dX7_withDigit_14 : decode cX7_withDigit 14 = .ok (.lshl, 1) := by decide +kernel
theorem dX7_withDigit_15 : decode cX7_withDigit 15 = .ok (.lor, 1) := by decide +kernel
theorem dX7_withDigit_16 : decode cX7_withDigit 16 = .ok (.lreturn, 1) := by decide +kernel
set_option maxHeartbeats 4000000 in
set_option maxRecDepth 100000 in
theorem kX7_withDigit {l : Launch} {D : va_G} {cy : Nat → ClassId} {N : Nat} {q : Nat → Nat} {m0 : Nat → Value} {a0 : Nat → vp_A} {sz : Nat} (hN : 105 ≤ N) (p0 : Int64) (p2 : Int32) (p3 : Int32) : gMl l yX7_withDigit cX7_withDigit 4 (some .long) ({ frames := 0, cells := 0, slots := 0, locals := 0 } : Room) D cy N q m0 a0 sz [.long p0, .int p2, .int p3] (fun r m' a' => r = (fX7_withDigit p0 p2 p3) ∧ m' = m0 ∧ a' = a0) := by
  generalize hs0 : fX7_withDigit p0 p2 p3 = X0
  refine g_ofl (by decide) (Nat.le_of_ble_eq_true rfl) ?_
  intro p e s M args below meth c hx hb hr hG hown hin hlocks hml hW hS ls hl
  unfold fX7_withDigit at hs0
  refine lv_lload_n hx hb dX7_withDigit_0 rfl (lv_at hl 0 rfl) ?_
  refine lv_ldc2 (v := 3) hx hb hown (hG _ gx325) dX7_withDigit_1 ?_
  refine lv_iload_n hx hb dX7_withDigit_4 rfl (lv_at hl 1 rfl) ?_
  refine lv_lshl hx hb dX7_withDigit_5 rfl ?_
  refine lv_ldc2 (v := (-1)) hx hb hown (hG _ gx326) dX7_withDigit_6 ?_
  refine lv_lxor hx hb dX7_withDigit_9 ?_
  refine lv_land hx hb dX7_withDigit_10 ?_
  refine lv_iload_n hx hb dX7_withDigit_11 rfl (lv_at hl 2 rfl) ?_
  refine lv_i2l hx hb dX7_withDigit_12 rfl ?_
  refine lv_iload_n hx hb dX7_withDigit_13 rfl (lv_at hl 1 rfl) ?_
  refine lv_lshl hx hb dX7_withDigit_14 rfl ?_
  refine lv_lor hx hb dX7_withDigit_15 ?_
  subst hs0
  exact W.lret hx hb hr (fun t ht hw => ⟨⟨_, (m0, a0), rfl, ⟨rfl, rfl, rfl⟩, g_end hW ht hw⟩, hS.F ht⟩) hS.2.2 dX7_withDigit_16 hlocks
-- HealLink$Rules.labelOf (J)I
def fX7_labelOf (p0 : Int64) : Int32 := (((p0.toUInt64 >>> ((47 : Int32).toInt64.toUInt64 &&& Int64.toUInt64 63)).toInt64).toInt32) &&& 3
theorem dX7_labelOf_0 : decode cX7_labelOf 0 = .ok (.lload_n 0, 1) := by decide +kernel
theorem dX7_labelOf_1 : decode cX7_labelOf 1 = .ok (.bipush 47, 2) := by decide +kernel
theorem dX7_labelOf_3 : decode cX7_labelOf 3 = .ok (.lushr, 1) := by decide +kernel
theorem dX7_labelOf_4 : decode cX7_labelOf 4 = .ok (.l2i, 1) := by decide +kernel
theorem dX7_labelOf_5 : decode cX7_labelOf 5 = .ok (.iconst 3, 1) := by decide +kernel
theorem dX7_labelOf_6 : decode cX7_labelOf 6 = .ok (.iand, 1) := by decide +kernel
theorem dX7_labelOf_7 : decode cX7_labelOf 7 = .ok (.ireturn, 1) := by decide +kernel
set_option maxHeartbeats 4000000 in
set_option maxRecDepth 100000 in
theorem kX7_labelOf {l : Launch} {D : va_G} {cy : Nat → ClassId} {N : Nat} {q : Nat → Nat} {m0 : Nat → Value} {a0 : Nat → vp_A} {sz : Nat} (hN : 105 ≤ N) (p0 : Int64) : gMi l yX7_labelOf cX7_labelOf 2 (some .int) ({ frames := 0, cells := 0, slots := 0, locals := 0 } : Room) D cy N q m0 a0 sz [.long p0] (fun r m' a' => r = (fX7_labelOf p0) ∧ m' = m0 ∧ a' = a0) := by
  generalize hs0 : fX7_labelOf p0 = X0
  refine g_ofi (by decide) (Nat.le_of_ble_eq_true rfl) ?_
  intro p e s M args below meth c hx hb hr hG hown hin hlocks hml hW hS ls hl
  unfold fX7_labelOf at hs0
  refine lv_lload_n hx hb dX7_labelOf_0 rfl (lv_at hl 0 rfl) ?_
  refine lv_bipush (v := 47) hx hb dX7_labelOf_1 (by decide) ?_
  refine lv_lushr hx hb dX7_labelOf_3 rfl ?_
  refine lv_l2i hx hb dX7_labelOf_4 rfl ?_
  refine lv_iconst (v := 3) hx hb dX7_labelOf_5 (by decide) ?_
  refine lv_iand hx hb dX7_labelOf_6 ?_
  subst hs0
  exact W.zret hx hb hr rfl (fun t ht hw => ⟨⟨_, (m0, a0), rfl, ⟨rfl, rfl, rfl⟩, g_end hW ht hw⟩, hS.F ht⟩) hS.2.2 dX7_labelOf_7 hlocks
-- HealLink$Rules.valueOf (J)I
def fX7_valueOf (p0 : Int64) : Int32 := (((p0.toUInt64 >>> ((46 : Int32).toInt64.toUInt64 &&& Int64.toUInt64 63)).toInt64).toInt32) &&& 1
theorem dX7_valueOf_0 : decode cX7_valueOf 0 = .ok (.lload_n 0, 1) := by decide +kernel
theorem dX7_valueOf_1 : decode cX7_valueOf 1 = .ok (.bipush 46, 2) := by decide +kernel
theorem dX7_valueOf_3 : decode cX7_valueOf 3 = .ok (.lushr, 1) := by decide +kernel
theorem dX7_valueOf_4 : decode cX7_valueOf 4 = .ok (.l2i, 1) := by decide +kernel
theorem dX7_valueOf_5 : decode cX7_valueOf 5 = .ok (.iconst 1, 1) := by decide +kernel
theorem dX7_valueOf_6 : decode cX7_valueOf 6 = .ok (.iand, 1) := by decide +kernel
theorem dX7_valueOf_7 : decode cX7_valueOf 7 = .ok (.ireturn, 1) := by decide +kernel
set_option maxHeartbeats 4000000 in
set_option maxRecDepth 100000 in
theorem kX7_valueOf {l : Launch} {D : va_G} {cy : Nat → ClassId} {N : Nat} {q : Nat → Nat} {m0 : Nat → Value} {a0 : Nat → vp_A} {sz : Nat} (hN : 105 ≤ N) (p0 : Int64) : gMi l yX7_valueOf cX7_valueOf 2 (some .int) ({ frames := 0, cells := 0, slots := 0, locals := 0 } : Room) D cy N q m0 a0 sz [.long p0] (fun r m' a' => r = (fX7_valueOf p0) ∧ m' = m0 ∧ a' = a0) := by
  generalize hs0 : fX7_valueOf p0 = X0
  refine g_ofi (by decide) (Nat.le_of_ble_eq_true rfl) ?_
  intro p e s M args below meth c hx hb hr hG hown hin hlocks hml hW hS ls hl
  unfold fX7_valueOf at hs0
  refine lv_lload_n hx hb dX7_valueOf_0 rfl (lv_at hl 0 rfl) ?_
  refine lv_bipush (v := 46) hx hb dX7_valueOf_1 (by decide) ?_
  refine lv_lushr hx hb dX7_valueOf_3 rfl ?_
  refine lv_l2i hx hb dX7_valueOf_4 rfl ?_
  refine lv_iconst (v := 1) hx hb dX7_valueOf_5 (by decide) ?_
  refine lv_iand hx hb dX7_valueOf_6 ?_
  subst hs0
  exact W.zret hx hb hr rfl (fun t ht hw => ⟨⟨_, (m0, a0), rfl, ⟨rfl, rfl, rfl⟩, g_end hW ht hw⟩, hS.F ht⟩) hS.2.2 dX7_valueOf_7 hlocks
-- HealLink$Rules.acksOf (J)I
def fX7_acksOf (p0 : Int64) : Int32 := (((p0.toUInt64 >>> ((43 : Int32).toInt64.toUInt64 &&& Int64.toUInt64 63)).toInt64).toInt32) &&& 7
theorem dX7_acksOf_0 : decode cX7_acksOf 0 = .ok (.lload_n 0, 1) := by decide +kernel
theorem dX7_acksOf_1 : decode cX7_acksOf 1 = .ok (.bipush 43, 2) := by decide +kernel
theorem dX7_acksOf_3 : decode cX7_acksOf 3 = .ok (.lushr, 1) := by decide +kernel
theorem dX7_acksOf_4 : decode cX7_acksOf 4 = .ok (.l2i, 1) := by decide +kernel
theorem dX7_acksOf_5 : decode cX7_acksOf 5 = .ok (.bipush 7, 2) := by decide +kernel
theorem dX7_acksOf_7 : decode cX7_acksOf 7 = .ok (.iand, 1) := by decide +kernel
theorem dX7_acksOf_8 : decode cX7_acksOf 8 = .ok (.ireturn, 1) := by decide +kernel
set_option maxHeartbeats 4000000 in
set_option maxRecDepth 100000 in
theorem kX7_acksOf {l : Launch} {D : va_G} {cy : Nat → ClassId} {N : Nat} {q : Nat → Nat} {m0 : Nat → Value} {a0 : Nat → vp_A} {sz : Nat} (hN : 105 ≤ N) (p0 : Int64) : gMi l yX7_acksOf cX7_acksOf 2 (some .int) ({ frames := 0, cells := 0, slots := 0, locals := 0 } : Room) D cy N q m0 a0 sz [.long p0] (fun r m' a' => r = (fX7_acksOf p0) ∧ m' = m0 ∧ a' = a0) := by
  generalize hs0 : fX7_acksOf p0 = X0
  refine g_ofi (by decide) (Nat.le_of_ble_eq_true rfl) ?_
  intro p e s M args below meth c hx hb hr hG hown hin hlocks hml hW hS ls hl
  unfold fX7_acksOf at hs0
  refine lv_lload_n hx hb dX7_acksOf_0 rfl (lv_at hl 0 rfl) ?_
  refine lv_bipush (v := 43) hx hb dX7_acksOf_1 (by decide) ?_
  refine lv_lushr hx hb dX7_acksOf_3 rfl ?_
  refine lv_l2i hx hb dX7_acksOf_4 rfl ?_
  refine lv_bipush (v := 7) hx hb dX7_acksOf_5 (by decide) ?_
  refine lv_iand hx hb dX7_acksOf_7 ?_
  subst hs0
  exact W.zret hx hb hr rfl (fun t ht hw => ⟨⟨_, (m0, a0), rfl, ⟨rfl, rfl, rfl⟩, g_end hW ht hw⟩, hS.F ht⟩) hS.2.2 dX7_acksOf_8 hlocks
-- HealLink$Rules.lastOf (J)I
def fX7_lastOf (p0 : Int64) : Int32 := (((p0.toUInt64 >>> ((40 : Int32).toInt64.toUInt64 &&& Int64.toUInt64 63)).toInt64).toInt32) &&& 3
theorem dX7_lastOf_0 : decode cX7_lastOf 0 = .ok (.lload_n 0, 1) := by decide +kernel
theorem dX7_lastOf_1 : decode cX7_lastOf 1 = .ok (.bipush 40, 2) := by decide +kernel
theorem dX7_lastOf_3 : decode cX7_lastOf 3 = .ok (.lushr, 1) := by decide +kernel
theorem dX7_lastOf_4 : decode cX7_lastOf 4 = .ok (.l2i, 1) := by decide +kernel
theorem dX7_lastOf_5 : decode cX7_lastOf 5 = .ok (.iconst 3, 1) := by decide +kernel
theorem dX7_lastOf_6 : decode cX7_lastOf 6 = .ok (.iand, 1) := by decide +kernel
theorem dX7_lastOf_7 : decode cX7_lastOf 7 = .ok (.ireturn, 1) := by decide +kernel
set_option maxHeartbeats 4000000 in
set_option maxRecDepth 100000 in
theorem kX7_lastOf {l : Launch} {D : va_G} {cy : Nat → ClassId} {N : Nat} {q : Nat → Nat} {m0 : Nat → Value} {a0 : Nat → vp_A} {sz : Nat} (hN : 105 ≤ N) (p0 : Int64) : gMi l yX7_lastOf cX7_lastOf 2 (some .int) ({ frames := 0, cells := 0, slots := 0, locals := 0 } : Room) D cy N q m0 a0 sz [.long p0] (fun r m' a' => r = (fX7_lastOf p0) ∧ m' = m0 ∧ a' = a0) := by
  generalize hs0 : fX7_lastOf p0 = X0
  refine g_ofi (by decide) (Nat.le_of_ble_eq_true rfl) ?_
  intro p e s M args below meth c hx hb hr hG hown hin hlocks hml hW hS ls hl
  unfold fX7_lastOf at hs0
  refine lv_lload_n hx hb dX7_lastOf_0 rfl (lv_at hl 0 rfl) ?_
  refine lv_bipush (v := 40) hx hb dX7_lastOf_1 (by decide) ?_
  refine lv_lushr hx hb dX7_lastOf_3 rfl ?_
  refine lv_l2i hx hb dX7_lastOf_4 rfl ?_
  refine lv_iconst (v := 3) hx hb dX7_lastOf_5 (by decide) ?_
  refine lv_iand hx hb dX7_lastOf_6 ?_
  subst hs0
  exact W.zret hx hb hr rfl (fun t ht hw => ⟨⟨_, (m0, a0), rfl, ⟨rfl, rfl, rfl⟩, g_end hW ht hw⟩, hS.F ht⟩) hS.2.2 dX7_lastOf_7 hlocks
-- HealLink$Rules.seenIn (J)I
def fX7_seenIn (p0 : Int64) : Int32 := (fJ13_bitCount_95d88 (((p0.toUInt64 >>> ((24 : Int32).toInt64.toUInt64 &&& Int64.toUInt64 63)).toInt64) &&& 21845)) + (2 * (fJ13_bitCount_95d88 (((p0.toUInt64 >>> ((24 : Int32).toInt64.toUInt64 &&& Int64.toUInt64 63)).toInt64) &&& 43690)))
theorem dX7_seenIn_0 : decode cX7_seenIn 0 = .ok (.lload_n 0, 1) := by decide +kernel
theorem dX7_seenIn_1 : decode cX7_seenIn 1 = .ok (.bipush 24, 2) := by decide +kernel
theorem dX7_seenIn_3 : decode cX7_seenIn 3 = .ok (.lushr, 1) := by decide +kernel
theorem dX7_seenIn_4 : decode cX7_seenIn 4 = .ok (.lstore_n 2, 1) := by decide +kernel
theorem dX7_seenIn_5 : decode cX7_seenIn 5 = .ok (.lload_n 2, 1) := by decide +kernel
theorem dX7_seenIn_6 : decode cX7_seenIn 6 = .ok (.ldc2_w 35, 3) := by decide +kernel
theorem dX7_seenIn_9 : decode cX7_seenIn 9 = .ok (.land, 1) := by decide +kernel
theorem dX7_seenIn_10 : decode cX7_seenIn 10 = .ok (.invokestatic 37, 3) := by decide +kernel
theorem dX7_seenIn_13 : decode cX7_seenIn 13 = .ok (.iconst 2, 1) := by decide +kernel
theorem dX7_seenIn_14 : decode cX7_seenIn 14 = .ok (.lload_n 2, 1) := by decide +kernel
theorem dX7_seenIn_15 : decode cX7_seenIn 15 = .ok (.ldc2_w 43, 3) := by decide +kernel
theorem dX7_seenIn_18 : decode cX7_seenIn 18 = .ok (.land, 1) := by decide +kernel
theorem dX7_seenIn_19 : decode cX7_seenIn 19 = .ok (.invokestatic 37, 3) := by decide +kernel
theorem dX7_seenIn_22 : decode cX7_seenIn 22 = .ok (.imul, 1) := by decide +kernel
theorem dX7_seenIn_23 : decode cX7_seenIn 23 = .ok (.iadd, 1) := by decide +kernel
theorem dX7_seenIn_24 : decode cX7_seenIn 24 = .ok (.ireturn, 1) := by decide +kernel
set_option maxHeartbeats 4000000 in
set_option maxRecDepth 100000 in
theorem kX7_seenIn {l : Launch} {D : va_G} {cy : Nat → ClassId} {N : Nat} {q : Nat → Nat} {m0 : Nat → Value} {a0 : Nat → vp_A} {sz : Nat} (hN : 105 ≤ N) (p0 : Int64) : gMi l yX7_seenIn cX7_seenIn 4 (some .int) ({ frames := 1, cells := 0, slots := 0, locals := 21 } : Room) D cy N q m0 a0 sz [.long p0] (fun r m' a' => r = (fX7_seenIn p0) ∧ m' = m0 ∧ a' = a0) := by
  generalize hs0 : fX7_seenIn p0 = X0
  refine g_ofi (by decide) (Nat.le_of_ble_eq_true rfl) ?_
  intro p e s M args below meth c hx hb hr hG hown hin hlocks hml hW hS ls hl
  unfold fX7_seenIn at hs0
  refine lv_lload_n hx hb dX7_seenIn_0 rfl (lv_at hl 0 rfl) ?_
  refine lv_bipush (v := 24) hx hb dX7_seenIn_1 (by decide) ?_
  refine lv_lushr hx hb dX7_seenIn_3 rfl ?_
  refine lv_lstore_n (lv' := [(2, .long ((p0.toUInt64 >>> ((24 : Int32).toInt64.toUInt64 &&& Int64.toUInt64 63)).toInt64)), (0, .long p0)]) hx hb dX7_seenIn_4 rfl hl (by decide) rfl (fun ls hl => ?_)
  refine lv_lload_n hx hb dX7_seenIn_5 rfl (lv_at hl 0 rfl) ?_
  refine lv_ldc2 (v := 21845) hx hb hown (hG _ gx345) dX7_seenIn_6 ?_
  refine lv_land hx hb dX7_seenIn_9 ?_
  refine g_SiR (n := 1) hx hb hml hown hG hW hS [.long (((p0.toUInt64 >>> ((24 : Int32).toInt64.toUInt64 &&& Int64.toUInt64 63)).toInt64) &&& 21845)] (kJ13_bitCount_95d88 hN (((p0.toUInt64 >>> ((24 : Int32).toInt64.toUInt64 &&& Int64.toUInt64 63)).toInt64) &&& 21845)) rfl (gd_S gx347 gx348 gx349 gx350) rfl rfl (by decide) ⟨Nat.le_of_ble_eq_true rfl, Nat.le_of_ble_eq_true rfl⟩ rfl hl (Nat.le_of_ble_eq_true rfl) ⟨Nat.zero_le _, Nat.zero_le _⟩ dX7_seenIn_10 (fun H locs hW hS => ?_)
  refine lv_iconst (v := 2) hx hb dX7_seenIn_13 (by decide) ?_
  refine lv_lload_n hx hb dX7_seenIn_14 rfl (lv_at hl 0 rfl) ?_
  refine lv_ldc2 (v := 43690) hx hb hown (hG _ gx346) dX7_seenIn_15 ?_
  refine lv_land hx hb dX7_seenIn_18 ?_
  refine g_SiR (n := 1) hx hb hml hown hG hW hS [.long (((p0.toUInt64 >>> ((24 : Int32).toInt64.toUInt64 &&& Int64.toUInt64 63)).toInt64) &&& 43690)] (kJ13_bitCount_95d88 hN (((p0.toUInt64 >>> ((24 : Int32).toInt64.toUInt64 &&& Int64.toUInt64 63)).toInt64) &&& 43690)) rfl (gd_S gx347 gx348 gx349 gx350) rfl rfl (by decide) ⟨Nat.le_of_ble_eq_true rfl, Nat.le_of_ble_eq_true rfl⟩ rfl hl (Nat.le_of_ble_eq_true rfl) ⟨Nat.zero_le _, Nat.zero_le _⟩ dX7_seenIn_19 (fun H locs hW hS => ?_)
  refine lv_imul hx hb dX7_seenIn_22 ?_
  refine lv_iadd hx hb dX7_seenIn_23 ?_
  subst hs0
  exact W.zret hx hb hr rfl (fun t ht hw => ⟨⟨_, (m0, a0), rfl, ⟨rfl, rfl, rfl⟩, g_end hW ht hw⟩, hS.F ht⟩) hS.2.2 dX7_seenIn_24 hlocks
-- HealLink$Rules.packetsIn (J)I
def fX7_packetsIn (p0 : Int64) : Int32 := (fJ13_bitCount_95d88 (((p0.toUInt64 >>> ((8 : Int32).toInt64.toUInt64 &&& Int64.toUInt64 63)).toInt64) &&& 21845)) + (2 * (fJ13_bitCount_95d88 (((p0.toUInt64 >>> ((8 : Int32).toInt64.toUInt64 &&& Int64.toUInt64 63)).toInt64) &&& 43690)))
theorem dX7_packetsIn_0 : decode cX7_packetsIn 0 = .ok (.lload_n 0, 1) := by decide +kernel
theorem dX7_packetsIn_1 : decode cX7_packetsIn 1 = .ok (.bipush 8, 2) := by decide +kernel
theorem dX7_packetsIn_3 : decode cX7_packetsIn 3 = .ok (.lushr, 1) := by decide +kernel
theorem dX7_packetsIn_4 : decode cX7_packetsIn 4 = .ok (.lstore_n 2, 1) := by decide +kernel
theorem dX7_packetsIn_5 : decode cX7_packetsIn 5 = .ok (.lload_n 2, 1) := by decide +kernel
theorem dX7_packetsIn_6 : decode cX7_packetsIn 6 = .ok (.ldc2_w 35, 3) := by decide +kernel
theorem dX7_packetsIn_9 : decode cX7_packetsIn 9 = .ok (.land, 1) := by decide +kernel
theorem dX7_packetsIn_10 : decode cX7_packetsIn 10 = .ok (.invokestatic 37, 3) := by decide +kernel
theorem dX7_packetsIn_13 : decode cX7_packetsIn 13 = .ok (.iconst 2, 1) := by decide +kernel
theorem dX7_packetsIn_14 : decode cX7_packetsIn 14 = .ok (.lload_n 2, 1) := by decide +kernel
theorem dX7_packetsIn_15 : decode cX7_packetsIn 15 = .ok (.ldc2_w 43, 3) := by decide +kernel
theorem dX7_packetsIn_18 : decode cX7_packetsIn 18 = .ok (.land, 1) := by decide +kernel
theorem dX7_packetsIn_19 : decode cX7_packetsIn 19 = .ok (.invokestatic 37, 3) := by decide +kernel
theorem dX7_packetsIn_22 : decode cX7_packetsIn 22 = .ok (.imul, 1) := by decide +kernel
theorem dX7_packetsIn_23 : decode cX7_packetsIn 23 = .ok (.iadd, 1) := by decide +kernel
theorem dX7_packetsIn_24 : decode cX7_packetsIn 24 = .ok (.ireturn, 1) := by decide +kernel
set_option maxHeartbeats 4000000 in
set_option maxRecDepth 100000 in
theorem kX7_packetsIn {l : Launch} {D : va_G} {cy : Nat → ClassId} {N : Nat} {q : Nat → Nat} {m0 : Nat → Value} {a0 : Nat → vp_A} {sz : Nat} (hN : 105 ≤ N) (p0 : Int64) : gMi l yX7_packetsIn cX7_packetsIn 4 (some .int) ({ frames := 1, cells := 0, slots := 0, locals := 21 } : Room) D cy N q m0 a0 sz [.long p0] (fun r m' a' => r = (fX7_packetsIn p0) ∧ m' = m0 ∧ a' = a0) := by
  generalize hs0 : fX7_packetsIn p0 = X0
  refine g_ofi (by decide) (Nat.le_of_ble_eq_true rfl) ?_
  intro p e s M args below meth c hx hb hr hG hown hin hlocks hml hW hS ls hl
  unfold fX7_packetsIn at hs0
  refine lv_lload_n hx hb dX7_packetsIn_0 rfl (lv_at hl 0 rfl) ?_
  refine lv_bipush (v := 8) hx hb dX7_packetsIn_1 (by decide) ?_
  refine lv_lushr hx hb dX7_packetsIn_3 rfl ?_
  refine lv_lstore_n (lv' := [(2, .long ((p0.toUInt64 >>> ((8 : Int32).toInt64.toUInt64 &&& Int64.toUInt64 63)).toInt64)), (0, .long p0)]) hx hb dX7_packetsIn_4 rfl hl (by decide) rfl (fun ls hl => ?_)
  refine lv_lload_n hx hb dX7_packetsIn_5 rfl (lv_at hl 0 rfl) ?_
  refine lv_ldc2 (v := 21845) hx hb hown (hG _ gx345) dX7_packetsIn_6 ?_
  refine lv_land hx hb dX7_packetsIn_9 ?_
  refine g_SiR (n := 1) hx hb hml hown hG hW hS [.long (((p0.toUInt64 >>> ((8 : Int32).toInt64.toUInt64 &&& Int64.toUInt64 63)).toInt64) &&& 21845)] (kJ13_bitCount_95d88 hN (((p0.toUInt64 >>> ((8 : Int32).toInt64.toUInt64 &&& Int64.toUInt64 63)).toInt64) &&& 21845)) rfl (gd_S gx347 gx348 gx349 gx350) rfl rfl (by decide) ⟨Nat.le_of_ble_eq_true rfl, Nat.le_of_ble_eq_true rfl⟩ rfl hl (Nat.le_of_ble_eq_true rfl) ⟨Nat.zero_le _, Nat.zero_le _⟩ dX7_packetsIn_10 (fun H locs hW hS => ?_)
  refine lv_iconst (v := 2) hx hb dX7_packetsIn_13 (by decide) ?_
  refine lv_lload_n hx hb dX7_packetsIn_14 rfl (lv_at hl 0 rfl) ?_
  refine lv_ldc2 (v := 43690) hx hb hown (hG _ gx346) dX7_packetsIn_15 ?_
  refine lv_land hx hb dX7_packetsIn_18 ?_
  refine g_SiR (n := 1) hx hb hml hown hG hW hS [.long (((p0.toUInt64 >>> ((8 : Int32).toInt64.toUInt64 &&& Int64.toUInt64 63)).toInt64) &&& 43690)] (kJ13_bitCount_95d88 hN (((p0.toUInt64 >>> ((8 : Int32).toInt64.toUInt64 &&& Int64.toUInt64 63)).toInt64) &&& 43690)) rfl (gd_S gx347 gx348 gx349 gx350) rfl rfl (by decide) ⟨Nat.le_of_ble_eq_true rfl, Nat.le_of_ble_eq_true rfl⟩ rfl hl (Nat.le_of_ble_eq_true rfl) ⟨Nat.zero_le _, Nat.zero_le _⟩ dX7_packetsIn_19 (fun H locs hW hS => ?_)
  refine lv_imul hx hb dX7_packetsIn_22 ?_
  refine lv_iadd hx hb dX7_packetsIn_23 ?_
  subst hs0
  exact W.zret hx hb hr rfl (fun t ht hw => ⟨⟨_, (m0, a0), rfl, ⟨rfl, rfl, rfl⟩, g_end hW ht hw⟩, hS.F ht⟩) hS.2.2 dX7_packetsIn_24 hlocks
-- HealLink$Rules.lettersIn (J)I
def fX7_lettersIn (p0 : Int64) : Int32 := (fJ13_bitCount_95d88 (p0 &&& 85)) + (2 * (fJ13_bitCount_95d88 (p0 &&& 170)))
theorem dX7_lettersIn_0 : decode cX7_lettersIn 0 = .ok (.lload_n 0, 1) := by decide +kernel
theorem dX7_lettersIn_1 : decode cX7_lettersIn 1 = .ok (.ldc2_w 45, 3) := by decide +kernel
theorem dX7_lettersIn_4 : decode cX7_lettersIn 4 = .ok (.land, 1) := by decide +kernel
theorem dX7_lettersIn_5 : decode cX7_lettersIn 5 = .ok (.invokestatic 37, 3) := by decide +kernel
theorem dX7_lettersIn_8 : decode cX7_lettersIn 8 = .ok (.iconst 2, 1) := by decide +kernel
theorem dX7_lettersIn_9 : decode cX7_lettersIn 9 = .ok (.lload_n 0, 1) := by decide +kernel
theorem dX7_lettersIn_10 : decode cX7_lettersIn 10 = .ok (.ldc2_w 47, 3) := by decide +kernel
theorem dX7_lettersIn_13 : decode cX7_lettersIn 13 = .ok (.land, 1) := by decide +kernel
theorem dX7_lettersIn_14 : decode cX7_lettersIn 14 = .ok (.invokestatic 37, 3) := by decide +kernel
theorem dX7_lettersIn_17 : decode cX7_lettersIn 17 = .ok (.imul, 1) := by decide +kernel
theorem dX7_lettersIn_18 : decode cX7_lettersIn 18 = .ok (.iadd, 1) := by decide +kernel
theorem dX7_lettersIn_19 : decode cX7_lettersIn 19 = .ok (.ireturn, 1) := by decide +kernel
set_option maxHeartbeats 4000000 in
set_option maxRecDepth 100000 in
theorem kX7_lettersIn {l : Launch} {D : va_G} {cy : Nat → ClassId} {N : Nat} {q : Nat → Nat} {m0 : Nat → Value} {a0 : Nat → vp_A} {sz : Nat} (hN : 105 ≤ N) (p0 : Int64) : gMi l yX7_lettersIn cX7_lettersIn 2 (some .int) ({ frames := 1, cells := 0, slots := 0, locals := 21 } : Room) D cy N q m0 a0 sz [.long p0] (fun r m' a' => r = (fX7_lettersIn p0) ∧ m' = m0 ∧ a' = a0) := by
  generalize hs0 : fX7_lettersIn p0 = X0
  refine g_ofi (by decide) (Nat.le_of_ble_eq_true rfl) ?_
  intro p e s M args below meth c hx hb hr hG hown hin hlocks hml hW hS ls hl
  unfold fX7_lettersIn at hs0
  refine lv_lload_n hx hb dX7_lettersIn_0 rfl (lv_at hl 0 rfl) ?_
  refine lv_ldc2 (v := 85) hx hb hown (hG _ gx374) dX7_lettersIn_1 ?_
  refine lv_land hx hb dX7_lettersIn_4 ?_
  refine g_SiR (n := 1) hx hb hml hown hG hW hS [.long (p0 &&& 85)] (kJ13_bitCount_95d88 hN (p0 &&& 85)) rfl (gd_S gx347 gx348 gx349 gx350) rfl rfl (by decide) ⟨Nat.le_of_ble_eq_true rfl, Nat.le_of_ble_eq_true rfl⟩ rfl hl (Nat.le_of_ble_eq_true rfl) ⟨Nat.zero_le _, Nat.zero_le _⟩ dX7_lettersIn_5 (fun H locs hW hS => ?_)
  refine lv_iconst (v := 2) hx hb dX7_lettersIn_8 (by decide) ?_
  refine lv_lload_n hx hb dX7_lettersIn_9 rfl (lv_at hl 0 rfl) ?_
  refine lv_ldc2 (v := 170) hx hb hown (hG _ gx375) dX7_lettersIn_10 ?_
  refine lv_land hx hb dX7_lettersIn_13 ?_
  refine g_SiR (n := 1) hx hb hml hown hG hW hS [.long (p0 &&& 170)] (kJ13_bitCount_95d88 hN (p0 &&& 170)) rfl (gd_S gx347 gx348 gx349 gx350) rfl rfl (by decide) ⟨Nat.le_of_ble_eq_true rfl, Nat.le_of_ble_eq_true rfl⟩ rfl hl (Nat.le_of_ble_eq_true rfl) ⟨Nat.zero_le _, Nat.zero_le _⟩ dX7_lettersIn_14 (fun H locs hW hS => ?_)
  refine lv_imul hx hb dX7_lettersIn_17 ?_
  refine lv_iadd hx hb dX7_lettersIn_18 ?_
  subst hs0
  exact W.zret hx hb hr rfl (fun t ht hw => ⟨⟨_, (m0, a0), rfl, ⟨rfl, rfl, rfl⟩, g_end hW ht hw⟩, hS.F ht⟩) hS.2.2 dX7_lettersIn_19 hlocks
-- HealLink$Rules.withoutAcks (J)J
def fX7_withoutAcks (p0 : Int64) : Int64 := p0 &&& (-61572651155457)
theorem dX7_withoutAcks_0 : decode cX7_withoutAcks 0 = .ok (.lload_n 0, 1) := by decide +kernel
theorem dX7_withoutAcks_1 : decode cX7_withoutAcks 1 = .ok (.ldc2_w 53, 3) := by decide +kernel
theorem dX7_withoutAcks_4 : decode cX7_withoutAcks 4 = .ok (.land, 1) := by decide +kernel
theorem dX7_withoutAcks_5 : decode cX7_withoutAcks 5 = .ok (.lreturn, 1) := by decide +kernel
set_option maxHeartbeats 4000000 in
set_option maxRecDepth 100000 in
theorem kX7_withoutAcks {l : Launch} {D : va_G} {cy : Nat → ClassId} {N : Nat} {q : Nat → Nat} {m0 : Nat → Value} {a0 : Nat → vp_A} {sz : Nat} (hN : 105 ≤ N) (p0 : Int64) : gMl l yX7_withoutAcks cX7_withoutAcks 2 (some .long) ({ frames := 0, cells := 0, slots := 0, locals := 0 } : Room) D cy N q m0 a0 sz [.long p0] (fun r m' a' => r = (fX7_withoutAcks p0) ∧ m' = m0 ∧ a' = a0) := by
  generalize hs0 : fX7_withoutAcks p0 = X0
  refine g_ofl (by decide) (Nat.le_of_ble_eq_true rfl) ?_
  intro p e s M args below meth c hx hb hr hG hown hin hlocks hml hW hS ls hl
  unfold fX7_withoutAcks at hs0
  refine lv_lload_n hx hb dX7_withoutAcks_0 rfl (lv_at hl 0 rfl) ?_
  refine lv_ldc2 (v := (-61572651155457)) hx hb hown (hG _ gx995) dX7_withoutAcks_1 ?_
  refine lv_land hx hb dX7_withoutAcks_4 ?_
  subst hs0
  exact W.lret hx hb hr (fun t ht hw => ⟨⟨_, (m0, a0), rfl, ⟨rfl, rfl, rfl⟩, g_end hW ht hw⟩, hS.F ht⟩) hS.2.2 dX7_withoutAcks_5 hlocks
-- HealLink$Rules.withLast (JI)J
def fX7_withLast (p0 : Int64) (p2 : Int32) : Int64 := (p0 &&& (-3298534883329)) ||| (p2.toInt64 <<< ((40 : Int32).toInt64 &&& 63))
theorem dX7_withLast_0 : decode cX7_withLast 0 = .ok (.lload_n 0, 1) := by decide +kernel
theorem dX7_withLast_1 : decode cX7_withLast 1 = .ok (.ldc2_w 55, 3) := by decide +kernel
theorem dX7_withLast_4 : decode cX7_withLast 4 = .ok (.land, 1) := by decide +kernel
theorem dX7_withLast_5 : decode cX7_withLast 5 = .ok (.iload_n 2, 1) := by decide +kernel
theorem dX7_withLast_6 : decode cX7_withLast 6 = .ok (.i2l, 1) := by decide +kernel
theorem dX7_withLast_7 : decode cX7_withLast 7 = .ok (.bipush 40, 2) := by decide +kernel
theorem dX7_withLast_9 : decode cX7_withLast 9 = .ok (.lshl, 1) := by decide +kernel
theorem dX7_withLast_10 : decode cX7_withLast 10 = .ok (.lor, 1) := by decide +kernel
theorem dX7_withLast_11 : decode cX7_withLast 11 = .ok (.lreturn, 1) := by decide +kernel
set_option maxHeartbeats 4000000 in
set_option maxRecDepth 100000 in
theorem kX7_withLast {l : Launch} {D : va_G} {cy : Nat → ClassId} {N : Nat} {q : Nat → Nat} {m0 : Nat → Value} {a0 : Nat → vp_A} {sz : Nat} (hN : 105 ≤ N) (p0 : Int64) (p2 : Int32) : gMl l yX7_withLast cX7_withLast 3 (some .long) ({ frames := 0, cells := 0, slots := 0, locals := 0 } : Room) D cy N q m0 a0 sz [.long p0, .int p2] (fun r m' a' => r = (fX7_withLast p0 p2) ∧ m' = m0 ∧ a' = a0) := by
  generalize hs0 : fX7_withLast p0 p2 = X0
  refine g_ofl (by decide) (Nat.le_of_ble_eq_true rfl) ?_
  intro p e s M args below meth c hx hb hr hG hown hin hlocks hml hW hS ls hl
  unfold fX7_withLast at hs0
  refine lv_lload_n hx hb dX7_withLast_0 rfl (lv_at hl 0 rfl) ?_
  refine lv_ldc2 (v := (-3298534883329)) hx hb hown (hG _ gx299) dX7_withLast_1 ?_
  refine lv_land hx hb dX7_withLast_4 ?_
  refine lv_iload_n hx hb dX7_withLast_5 rfl (lv_at hl 1 rfl) ?_
  refine lv_i2l hx hb dX7_withLast_6 rfl ?_
  refine lv_bipush (v := 40) hx hb dX7_withLast_7 (by decide) ?_
  refine lv_lshl hx hb dX7_withLast_9 rfl ?_
  refine lv_lor hx hb dX7_withLast_10 ?_
  subst hs0
  exact W.lret hx hb hr (fun t ht hw => ⟨⟨_, (m0, a0), rfl, ⟨rfl, rfl, rfl⟩, g_end hW ht hw⟩, hS.F ht⟩) hS.2.2 dX7_withLast_11 hlocks
-- HealLink$Rules.outcomeOf (J)I
def fX7_outcomeOf (p0 : Int64) : Int32 := (((p0.toUInt64 >>> ((52 : Int32).toInt64.toUInt64 &&& Int64.toUInt64 63)).toInt64).toInt32) &&& 7
theorem dX7_outcomeOf_0 : decode cX7_outcomeOf 0 = .ok (.lload_n 0, 1) := by decide +kernel
theorem dX7_outcomeOf_1 : decode cX7_outcomeOf 1 = .ok (.bipush 52, 2) := by decide +kernel
theorem dX7_outcomeOf_3 : decode cX7_outcomeOf 3 = .ok (.lushr, 1) := by decide +kernel
theorem dX7_outcomeOf_4 : decode cX7_outcomeOf 4 = .ok (.l2i, 1) := by decide +kernel
theorem dX7_outcomeOf_5 : decode cX7_outcomeOf 5 = .ok (.bipush 7, 2) := by decide +kernel
theorem dX7_outcomeOf_7 : decode cX7_outcomeOf 7 = .ok (.iand, 1) := by decide +kernel
theorem dX7_outcomeOf_8 : decode cX7_outcomeOf 8 = .ok (.ireturn, 1) := by decide +kernel
set_option maxHeartbeats 4000000 in
set_option maxRecDepth 100000 in
theorem kX7_outcomeOf {l : Launch} {D : va_G} {cy : Nat → ClassId} {N : Nat} {q : Nat → Nat} {m0 : Nat → Value} {a0 : Nat → vp_A} {sz : Nat} (hN : 105 ≤ N) (p0 : Int64) : gMi l yX7_outcomeOf cX7_outcomeOf 2 (some .int) ({ frames := 0, cells := 0, slots := 0, locals := 0 } : Room) D cy N q m0 a0 sz [.long p0] (fun r m' a' => r = (fX7_outcomeOf p0) ∧ m' = m0 ∧ a' = a0) := by
  generalize hs0 : fX7_outcomeOf p0 = X0
  refine g_ofi (by decide) (Nat.le_of_ble_eq_true rfl) ?_
  intro p e s M args below meth c hx hb hr hG hown hin hlocks hml hW hS ls hl
  unfold fX7_outcomeOf at hs0
  refine lv_lload_n hx hb dX7_outcomeOf_0 rfl (lv_at hl 0 rfl) ?_
  refine lv_bipush (v := 52) hx hb dX7_outcomeOf_1 (by decide) ?_
  refine lv_lushr hx hb dX7_outcomeOf_3 rfl ?_
  refine lv_l2i hx hb dX7_outcomeOf_4 rfl ?_
  refine lv_bipush (v := 7) hx hb dX7_outcomeOf_5 (by decide) ?_
  refine lv_iand hx hb dX7_outcomeOf_7 ?_
  subst hs0
  exact W.zret hx hb hr rfl (fun t ht hw => ⟨⟨_, (m0, a0), rfl, ⟨rfl, rfl, rfl⟩, g_end hW ht hw⟩, hS.F ht⟩) hS.2.2 dX7_outcomeOf_8 hlocks
-- HealLink$Rules.limit (I)I
def fX7_limit (xkr_0 : Int32) (xkr_1 : Int32) (xkr_2 : Int32) (xkr_3 : Int32) (p1 : Int32) : Int32 := (if p1 = 0 then xkr_0 else (if p1 = 1 then xkr_1 else (if p1 = 2 then xkr_2 else xkr_3)))
theorem dX7_limit_0 : decode cX7_limit 0 = .ok (.iload_n 1, 1) := by decide +kernel
theorem dX7_limit_1 : decode cX7_limit 1 = .ok (.tableswitch 42 0 2 #[27, 32, 37], 27) := by decide +kernel
theorem dX7_limit_28 : decode cX7_limit 28 = .ok (.aload_n 0, 1) := by decide +kernel
theorem dX7_limit_29 : decode cX7_limit 29 = .ok (.getfield 11, 3) := by decide +kernel
theorem dX7_limit_32 : decode cX7_limit 32 = .ok (.ireturn, 1) := by decide +kernel
theorem dX7_limit_33 : decode cX7_limit 33 = .ok (.aload_n 0, 1) := by decide +kernel
theorem dX7_limit_34 : decode cX7_limit 34 = .ok (.getfield 15, 3) := by decide +kernel
theorem dX7_limit_37 : decode cX7_limit 37 = .ok (.ireturn, 1) := by decide +kernel
theorem dX7_limit_38 : decode cX7_limit 38 = .ok (.aload_n 0, 1) := by decide +kernel
theorem dX7_limit_39 : decode cX7_limit 39 = .ok (.getfield 18, 3) := by decide +kernel
theorem dX7_limit_42 : decode cX7_limit 42 = .ok (.ireturn, 1) := by decide +kernel
theorem dX7_limit_43 : decode cX7_limit 43 = .ok (.aload_n 0, 1) := by decide +kernel
theorem dX7_limit_44 : decode cX7_limit 44 = .ok (.getfield 21, 3) := by decide +kernel
theorem dX7_limit_47 : decode cX7_limit 47 = .ok (.ireturn, 1) := by decide +kernel
set_option maxHeartbeats 4000000 in
set_option maxRecDepth 100000 in
theorem kX7_limit {l : Launch} {D : va_G} {cy : Nat → ClassId} {N : Nat} {q : Nat → Nat} {m0 : Nat → Value} {a0 : Nat → vp_A} {sz : Nat} (hN : 105 ≤ N) {kr : Nat} (hkr : kr < N) (hgk : gk kr = 7) {xkr_0 : Int32} (h_xkr_0 : m0 (100 * kr + 0) = .int xkr_0) {xkr_1 : Int32} (h_xkr_1 : m0 (100 * kr + 1) = .int xkr_1) {xkr_2 : Int32} (h_xkr_2 : m0 (100 * kr + 2) = .int xkr_2) {xkr_3 : Int32} (h_xkr_3 : m0 (100 * kr + 3) = .int xkr_3) (p1 : Int32) : gMi l yX7_limit cX7_limit 2 (some .int) ({ frames := 0, cells := 0, slots := 0, locals := 0 } : Room) D cy N q m0 a0 sz [.ref (q kr), .int p1] (fun r m' a' => r = (fX7_limit xkr_0 xkr_1 xkr_2 xkr_3 p1) ∧ m' = m0 ∧ a' = a0) := by
  generalize hs0 : fX7_limit xkr_0 xkr_1 xkr_2 xkr_3 p1 = X0
  refine g_ofi (by decide) (Nat.le_of_ble_eq_true rfl) ?_
  intro p e s M args below meth c hx hb hr hG hown hin hlocks hml hW hS ls hl
  unfold fX7_limit at hs0
  refine lv_iload_n hx hb dX7_limit_0 rfl (lv_at hl 1 rfl) ?_
  by_cases c1 : p1 = 0
  · rw [if_pos c1] at hs0
    refine lv_tableIn (tgt := 28) hx hb dX7_limit_1 (by rw [c1]; decide) (by rw [c1]; decide) (by rw [c1]; rfl) (by decide) ?_
    refine lv_aload_n hx hb dX7_limit_28 rfl (lv_at hl 0 rfl) ?_
    refine gf7_0 hx hb hG hown hW (o := kr) hkr hgk (v := .int xkr_0) h_xkr_0 gx150 dX7_limit_29 ?_
    subst hs0
    exact W.zret hx hb hr rfl (fun t ht hw => ⟨⟨_, (m0, a0), rfl, ⟨rfl, rfl, rfl⟩, g_end hW ht hw⟩, hS.F ht⟩) hS.2.2 dX7_limit_32 hlocks
  · rw [if_neg c1] at hs0
    by_cases c2 : p1 = 1
    · rw [if_pos c2] at hs0
      refine lv_tableIn (tgt := 33) hx hb dX7_limit_1 (by rw [c2]; decide) (by rw [c2]; decide) (by rw [c2]; rfl) (by decide) ?_
      refine lv_aload_n hx hb dX7_limit_33 rfl (lv_at hl 0 rfl) ?_
      refine gf7_1 hx hb hG hown hW (o := kr) hkr hgk (v := .int xkr_1) h_xkr_1 gx151 dX7_limit_34 ?_
      subst hs0
      exact W.zret hx hb hr rfl (fun t ht hw => ⟨⟨_, (m0, a0), rfl, ⟨rfl, rfl, rfl⟩, g_end hW ht hw⟩, hS.F ht⟩) hS.2.2 dX7_limit_37 hlocks
    · rw [if_neg c2] at hs0
      by_cases c3 : p1 = 2
      · rw [if_pos c3] at hs0
        refine lv_tableIn (tgt := 38) hx hb dX7_limit_1 (by rw [c3]; decide) (by rw [c3]; decide) (by rw [c3]; rfl) (by decide) ?_
        refine lv_aload_n hx hb dX7_limit_38 rfl (lv_at hl 0 rfl) ?_
        refine gf7_2 hx hb hG hown hW (o := kr) hkr hgk (v := .int xkr_2) h_xkr_2 gx152 dX7_limit_39 ?_
        subst hs0
        exact W.zret hx hb hr rfl (fun t ht hw => ⟨⟨_, (m0, a0), rfl, ⟨rfl, rfl, rfl⟩, g_end hW ht hw⟩, hS.F ht⟩) hS.2.2 dX7_limit_42 hlocks
      · rw [if_neg c3] at hs0
        have n1 := ti_ne (n := 0) c1 (by decide)
        have n2 := ti_ne (n := 1) c2 (by decide)
        have n3 := ti_ne (n := 2) c3 (by decide)
        refine lv_tableOut (tgt := 43) hx hb dX7_limit_1 (by omega) (by decide) ?_
        refine lv_aload_n hx hb dX7_limit_43 rfl (lv_at hl 0 rfl) ?_
        refine gf7_3 hx hb hG hown hW (o := kr) hkr hgk (v := .int xkr_3) h_xkr_3 gx153 dX7_limit_44 ?_
        subst hs0
        exact W.zret hx hb hr rfl (fun t ht hw => ⟨⟨_, (m0, a0), rfl, ⟨rfl, rfl, rfl⟩, g_end hW ht hw⟩, hS.F ht⟩) hS.2.2 dX7_limit_47 hlocks
-- HealLink$Rules.atFirst ()J
def fX7_atFirst (xkr_1 : Int32) : Int64 := ((xkr_1 - 1).toInt64) <<< ((40 : Int32).toInt64 &&& 63)
theorem dX7_atFirst_0 : decode cX7_atFirst 0 = .ok (.aload_n 0, 1) := by decide +kernel
theorem dX7_atFirst_1 : decode cX7_atFirst 1 = .ok (.getfield 15, 3) := by decide +kernel
theorem dX7_atFirst_4 : decode cX7_atFirst 4 = .ok (.iconst 1, 1) := by decide +kernel
theorem dX7_atFirst_5 : decode cX7_atFirst 5 = .ok (.isub, 1) := by decide +kernel
theorem dX7_atFirst_6 : decode cX7_atFirst 6 = .ok (.i2l, 1) := by decide +kernel
theorem dX7_atFirst_7 : decode cX7_atFirst 7 = .ok (.bipush 40, 2) := by decide +kernel
theorem dX7_atFirst_9 : decode cX7_atFirst 9 = .ok (.lshl, 1) := by decide +kernel
theorem dX7_atFirst_10 : decode cX7_atFirst 10 = .ok (.lreturn, 1) := by decide +kernel
set_option maxHeartbeats 4000000 in
set_option maxRecDepth 100000 in
theorem kX7_atFirst {l : Launch} {D : va_G} {cy : Nat → ClassId} {N : Nat} {q : Nat → Nat} {m0 : Nat → Value} {a0 : Nat → vp_A} {sz : Nat} (hN : 105 ≤ N) {kr : Nat} (hkr : kr < N) (hgk : gk kr = 7) {xkr_1 : Int32} (h_xkr_1 : m0 (100 * kr + 1) = .int xkr_1) : gMl l yX7_atFirst cX7_atFirst 1 (some .long) ({ frames := 0, cells := 0, slots := 0, locals := 0 } : Room) D cy N q m0 a0 sz [.ref (q kr)] (fun r m' a' => r = (fX7_atFirst xkr_1) ∧ m' = m0 ∧ a' = a0) := by
  generalize hs0 : fX7_atFirst xkr_1 = X0
  refine g_ofl (by decide) (Nat.le_of_ble_eq_true rfl) ?_
  intro p e s M args below meth c hx hb hr hG hown hin hlocks hml hW hS ls hl
  unfold fX7_atFirst at hs0
  refine lv_aload_n hx hb dX7_atFirst_0 rfl (lv_at hl 0 rfl) ?_
  refine gf7_1 hx hb hG hown hW (o := kr) hkr hgk (v := .int xkr_1) h_xkr_1 gx151 dX7_atFirst_1 ?_
  refine lv_iconst (v := 1) hx hb dX7_atFirst_4 (by decide) ?_
  refine lv_isub hx hb dX7_atFirst_5 ?_
  refine lv_i2l hx hb dX7_atFirst_6 rfl ?_
  refine lv_bipush (v := 40) hx hb dX7_atFirst_7 (by decide) ?_
  refine lv_lshl hx hb dX7_atFirst_9 rfl ?_
  subst hs0
  exact W.lret hx hb hr (fun t ht hw => ⟨⟨_, (m0, a0), rfl, ⟨rfl, rfl, rfl⟩, g_end hW ht hw⟩, hS.F ht⟩) hS.2.2 dX7_atFirst_10 hlocks
-- HealLink$Rules.hasLabel (I)Z
def fX7_hasLabel (xkr_1 : Int32) (p1 : Int32) : Int32 := (if p1 < 0 then 0 else (if xkr_1 ≤ p1 then 0 else 1))
theorem dX7_hasLabel_0 : decode cX7_hasLabel 0 = .ok (.iload_n 1, 1) := by decide +kernel
theorem dX7_hasLabel_1 : decode cX7_hasLabel 1 = .ok (.ifCond .lt 15, 3) := by decide +kernel
theorem dX7_hasLabel_4 : decode cX7_hasLabel 4 = .ok (.iload_n 1, 1) := by decide +kernel
theorem dX7_hasLabel_5 : decode cX7_hasLabel 5 = .ok (.aload_n 0, 1) := by decide +kernel
theorem dX7_hasLabel_6 : decode cX7_hasLabel 6 = .ok (.getfield 15, 3) := by decide +kernel
theorem dX7_hasLabel_9 : decode cX7_hasLabel 9 = .ok (.if_icmp .ge 7, 3) := by decide +kernel
theorem dX7_hasLabel_12 : decode cX7_hasLabel 12 = .ok (.iconst 1, 1) := by decide +kernel
theorem dX7_hasLabel_13 : decode cX7_hasLabel 13 = .ok (.goto 4, 3) := by decide +kernel
theorem dX7_hasLabel_16 : decode cX7_hasLabel 16 = .ok (.iconst 0, 1) := by decide +kernel
theorem dX7_hasLabel_17 : decode cX7_hasLabel 17 = .ok (.ireturn, 1) := by decide +kernel
set_option maxHeartbeats 4000000 in
set_option maxRecDepth 100000 in
theorem kX7_hasLabel {l : Launch} {D : va_G} {cy : Nat → ClassId} {N : Nat} {q : Nat → Nat} {m0 : Nat → Value} {a0 : Nat → vp_A} {sz : Nat} (hN : 105 ≤ N) {kr : Nat} (hkr : kr < N) (hgk : gk kr = 7) {xkr_1 : Int32} (h_xkr_1 : m0 (100 * kr + 1) = .int xkr_1) (p1 : Int32) : gMi l yX7_hasLabel cX7_hasLabel 2 (some .boolean) ({ frames := 0, cells := 0, slots := 0, locals := 0 } : Room) D cy N q m0 a0 sz [.ref (q kr), .int p1] (fun r m' a' => r = (fX7_hasLabel xkr_1 p1) ∧ m' = m0 ∧ a' = a0) := by
  generalize hs0 : fX7_hasLabel xkr_1 p1 = X0
  refine g_ofi (by decide) (Nat.le_of_ble_eq_true rfl) ?_
  intro p e s M args below meth c hx hb hr hG hown hin hlocks hml hW hS ls hl
  unfold fX7_hasLabel at hs0
  refine lv_iload_n hx hb dX7_hasLabel_0 rfl (lv_at hl 1 rfl) ?_
  refine lv_if_lt (tgt := 16) hx hb dX7_hasLabel_1 (by decide) (fun c1 => ?_) (fun c1 => ?_)
  · rw [if_pos c1] at hs0
    refine lv_iconst (v := 0) hx hb dX7_hasLabel_16 (by decide) ?_
    subst hs0
    exact W.zret hx hb hr rfl (fun t ht hw => ⟨⟨_, (m0, a0), rfl, ⟨rfl, rfl, rfl⟩, g_end hW ht hw⟩, hS.F ht⟩) hS.2.2 dX7_hasLabel_17 hlocks
  · rw [if_neg c1] at hs0
    refine lv_iload_n hx hb dX7_hasLabel_4 rfl (lv_at hl 1 rfl) ?_
    refine lv_aload_n hx hb dX7_hasLabel_5 rfl (lv_at hl 0 rfl) ?_
    refine gf7_1 hx hb hG hown hW (o := kr) hkr hgk (v := .int xkr_1) h_xkr_1 gx151 dX7_hasLabel_6 ?_
    refine lv_icmp_ge (tgt := 16) hx hb dX7_hasLabel_9 (by decide) (fun c2 => ?_) (fun c2 => ?_)
    · rw [if_pos c2] at hs0
      refine lv_iconst (v := 0) hx hb dX7_hasLabel_16 (by decide) ?_
      subst hs0
      exact W.zret hx hb hr rfl (fun t ht hw => ⟨⟨_, (m0, a0), rfl, ⟨rfl, rfl, rfl⟩, g_end hW ht hw⟩, hS.F ht⟩) hS.2.2 dX7_hasLabel_17 hlocks
    · rw [if_neg c2] at hs0
      refine lv_iconst (v := 1) hx hb dX7_hasLabel_12 (by decide) ?_
      refine lv_goto (tgt := 17) hx hb dX7_hasLabel_13 (by decide) ?_
      subst hs0
      exact W.zret hx hb hr rfl (fun t ht hw => ⟨⟨_, (m0, a0), rfl, ⟨rfl, rfl, rfl⟩, g_end hW ht hw⟩, hS.F ht⟩) hS.2.2 dX7_hasLabel_17 hlocks
-- HealLink$Rules.hasKind (II)Z
def fX7_hasKind (xkr_1 : Int32) (p1 : Int32) (p2 : Int32) : Int32 := (if (fX7_hasLabel xkr_1 p1) = 0 then 0 else (if p2 = 0 then 1 else (if p2 = 1 then 1 else 0)))
theorem dX7_hasKind_0 : decode cX7_hasKind 0 = .ok (.aload_n 0, 1) := by decide +kernel
theorem dX7_hasKind_1 : decode cX7_hasKind 1 = .ok (.iload_n 1, 1) := by decide +kernel
theorem dX7_hasKind_2 : decode cX7_hasKind 2 = .ok (.invokevirtual 27, 3) := by decide +kernel
theorem dX7_hasKind_5 : decode cX7_hasKind 5 = .ok (.ifCond .eq 16, 3) := by decide +kernel
theorem dX7_hasKind_8 : decode cX7_hasKind 8 = .ok (.iload_n 2, 1) := by decide +kernel
theorem dX7_hasKind_9 : decode cX7_hasKind 9 = .ok (.ifCond .eq 8, 3) := by decide +kernel
theorem dX7_hasKind_12 : decode cX7_hasKind 12 = .ok (.iload_n 2, 1) := by decide +kernel
theorem dX7_hasKind_13 : decode cX7_hasKind 13 = .ok (.iconst 1, 1) := by decide +kernel
theorem dX7_hasKind_14 : decode cX7_hasKind 14 = .ok (.if_icmp .ne 7, 3) := by decide +kernel
theorem dX7_hasKind_17 : decode cX7_hasKind 17 = .ok (.iconst 1, 1) := by decide +kernel
theorem dX7_hasKind_18 : decode cX7_hasKind 18 = .ok (.goto 4, 3) := by decide +kernel
theorem dX7_hasKind_21 : decode cX7_hasKind 21 = .ok (.iconst 0, 1) := by decide +kernel
theorem dX7_hasKind_22 : decode cX7_hasKind 22 = .ok (.ireturn, 1) := by decide +kernel
set_option maxHeartbeats 4000000 in
set_option maxRecDepth 100000 in
theorem kX7_hasKind {l : Launch} {D : va_G} {cy : Nat → ClassId} {N : Nat} {q : Nat → Nat} {m0 : Nat → Value} {a0 : Nat → vp_A} {sz : Nat} (hN : 105 ≤ N) {kr : Nat} (hkr : kr < N) (hgk : gk kr = 7) {xkr_1 : Int32} (h_xkr_1 : m0 (100 * kr + 1) = .int xkr_1) (p1 : Int32) (p2 : Int32) : gMi l yX7_hasKind cX7_hasKind 3 (some .boolean) ({ frames := 1, cells := 0, slots := 0, locals := 21 } : Room) D cy N q m0 a0 sz [.ref (q kr), .int p1, .int p2] (fun r m' a' => r = (fX7_hasKind xkr_1 p1 p2) ∧ m' = m0 ∧ a' = a0) := by
  generalize hs0 : fX7_hasKind xkr_1 p1 p2 = X0
  refine g_ofi (by decide) (Nat.le_of_ble_eq_true rfl) ?_
  intro p e s M args below meth c hx hb hr hG hown hin hlocks hml hW hS ls hl
  unfold fX7_hasKind at hs0
  refine lv_aload_n hx hb dX7_hasKind_0 rfl (lv_at hl 0 rfl) ?_
  refine lv_iload_n hx hb dX7_hasKind_1 rfl (lv_at hl 1 rfl) ?_
  refine g_ViR (n := 1) hx hb hml hown hG hW hS [.int p1] (kX7_hasLabel hN hkr hgk h_xkr_1 p1) hkr hgk (by decide) rfl rfl (gd_V gx267 gx268 gx269 gx39 gx270) rfl rfl (by decide) ⟨Nat.le_of_ble_eq_true rfl, Nat.le_of_ble_eq_true rfl⟩ rfl hl (Nat.le_of_ble_eq_true rfl) ⟨Nat.zero_le _, Nat.zero_le _⟩ dX7_hasKind_2 (fun H locs hW hS => ?_)
  refine lv_if_eq (tgt := 21) hx hb dX7_hasKind_5 (by decide) (fun c2 => ?_) (fun c2 => ?_)
  · rw [if_pos c2] at hs0
    refine lv_iconst (v := 0) hx hb dX7_hasKind_21 (by decide) ?_
    subst hs0
    exact W.zret hx hb hr rfl (fun t ht hw => ⟨⟨_, (m0, a0), rfl, ⟨rfl, rfl, rfl⟩, g_end hW ht hw⟩, hS.F ht⟩) hS.2.2 dX7_hasKind_22 hlocks
  · rw [if_neg c2] at hs0
    refine lv_iload_n hx hb dX7_hasKind_8 rfl (lv_at hl 2 rfl) ?_
    refine lv_if_eq (tgt := 17) hx hb dX7_hasKind_9 (by decide) (fun c3 => ?_) (fun c3 => ?_)
    · rw [if_pos c3] at hs0
      refine lv_iconst (v := 1) hx hb dX7_hasKind_17 (by decide) ?_
      refine lv_goto (tgt := 22) hx hb dX7_hasKind_18 (by decide) ?_
      subst hs0
      exact W.zret hx hb hr rfl (fun t ht hw => ⟨⟨_, (m0, a0), rfl, ⟨rfl, rfl, rfl⟩, g_end hW ht hw⟩, hS.F ht⟩) hS.2.2 dX7_hasKind_22 hlocks
    · rw [if_neg c3] at hs0
      refine lv_iload_n hx hb dX7_hasKind_12 rfl (lv_at hl 2 rfl) ?_
      refine lv_iconst (v := 1) hx hb dX7_hasKind_13 (by decide) ?_
      refine lv_icmp_ne (tgt := 21) hx hb dX7_hasKind_14 (by decide) (fun c4 => ?_) (fun c4 => ?_)
      · rw [if_neg c4] at hs0
        refine lv_iconst (v := 0) hx hb dX7_hasKind_21 (by decide) ?_
        subst hs0
        exact W.zret hx hb hr rfl (fun t ht hw => ⟨⟨_, (m0, a0), rfl, ⟨rfl, rfl, rfl⟩, g_end hW ht hw⟩, hS.F ht⟩) hS.2.2 dX7_hasKind_22 hlocks
      · rw [if_pos c4] at hs0
        refine lv_iconst (v := 1) hx hb dX7_hasKind_17 (by decide) ?_
        refine lv_goto (tgt := 22) hx hb dX7_hasKind_18 (by decide) ?_
        subst hs0
        exact W.zret hx hb hr rfl (fun t ht hw => ⟨⟨_, (m0, a0), rfl, ⟨rfl, rfl, rfl⟩, g_end hW ht hw⟩, hS.F ht⟩) hS.2.2 dX7_hasKind_22 hlocks
-- HealLink$Rules.goesOnBy (JI)Z
def fX7_goesOnBy (xkr_2 : Int32) (p1 : Int64) (p3 : Int32) : Int32 := (if (fX7_labelOf p1) = p3 then (if ((fX7_acksOf p1) + 1) < xkr_2 then 0 else 1) else 0)
theorem dX7_goesOnBy_0 : decode cX7_goesOnBy 0 = .ok (.lload_n 1, 1) := by decide +kernel
theorem dX7_goesOnBy_1 : decode cX7_goesOnBy 1 = .ok (.invokestatic 57, 3) := by decide +kernel
theorem dX7_goesOnBy_4 : decode cX7_goesOnBy 4 = .ok (.iload_n 3, 1) := by decide +kernel
theorem dX7_goesOnBy_5 : decode cX7_goesOnBy 5 = .ok (.if_icmp .ne 20, 3) := by decide +kernel
theorem dX7_goesOnBy_8 : decode cX7_goesOnBy 8 = .ok (.lload_n 1, 1) := by decide +kernel
theorem dX7_goesOnBy_9 : decode cX7_goesOnBy 9 = .ok (.invokestatic 60, 3) := by decide +kernel
theorem dX7_goesOnBy_12 : decode cX7_goesOnBy 12 = .ok (.iconst 1, 1) := by decide +kernel
theorem dX7_goesOnBy_13 : decode cX7_goesOnBy 13 = .ok (.iadd, 1) := by decide +kernel
theorem dX7_goesOnBy_14 : decode cX7_goesOnBy 14 = .ok (.aload_n 0, 1) := by decide +kernel
theorem dX7_goesOnBy_15 : decode cX7_goesOnBy 15 = .ok (.getfield 18, 3) := by decide +kernel
theorem dX7_goesOnBy_18 : decode cX7_goesOnBy 18 = .ok (.if_icmp .lt 7, 3) := by decide +kernel
theorem dX7_goesOnBy_21 : decode cX7_goesOnBy 21 = .ok (.iconst 1, 1) := by decide +kernel
theorem dX7_goesOnBy_22 : decode cX7_goesOnBy 22 = .ok (.goto 4, 3) := by decide +kernel
theorem dX7_goesOnBy_25 : decode cX7_goesOnBy 25 = .ok (.iconst 0, 1) := by decide +kernel
theorem dX7_goesOnBy_26 : decode cX7_goesOnBy 26 = .ok (.ireturn, 1) := by decide +kernel
set_option maxHeartbeats 4000000 in
set_option maxRecDepth 100000 in
theorem kX7_goesOnBy {l : Launch} {D : va_G} {cy : Nat → ClassId} {N : Nat} {q : Nat → Nat} {m0 : Nat → Value} {a0 : Nat → vp_A} {sz : Nat} (hN : 105 ≤ N) {kr : Nat} (hkr : kr < N) (hgk : gk kr = 7) {xkr_2 : Int32} (h_xkr_2 : m0 (100 * kr + 2) = .int xkr_2) (p1 : Int64) (p3 : Int32) : gMi l yX7_goesOnBy cX7_goesOnBy 4 (some .boolean) ({ frames := 1, cells := 0, slots := 0, locals := 21 } : Room) D cy N q m0 a0 sz [.ref (q kr), .long p1, .int p3] (fun r m' a' => r = (fX7_goesOnBy xkr_2 p1 p3) ∧ m' = m0 ∧ a' = a0) := by
  generalize hs0 : fX7_goesOnBy xkr_2 p1 p3 = X0
  refine g_ofi (by decide) (Nat.le_of_ble_eq_true rfl) ?_
  intro p e s M args below meth c hx hb hr hG hown hin hlocks hml hW hS ls hl
  unfold fX7_goesOnBy at hs0
  refine lv_lload_n hx hb dX7_goesOnBy_0 rfl (lv_at hl 1 rfl) ?_
  refine g_SiR (n := 1) hx hb hml hown hG hW hS [.long p1] (kX7_labelOf hN p1) rfl (gd_S gx467 gx468 gx39 gx469) rfl rfl (by decide) ⟨Nat.le_of_ble_eq_true rfl, Nat.le_of_ble_eq_true rfl⟩ rfl hl (Nat.le_of_ble_eq_true rfl) ⟨Nat.zero_le _, Nat.zero_le _⟩ dX7_goesOnBy_1 (fun H locs hW hS => ?_)
  refine lv_iload_n hx hb dX7_goesOnBy_4 rfl (lv_at hl 2 rfl) ?_
  refine lv_icmp_ne (tgt := 25) hx hb dX7_goesOnBy_5 (by decide) (fun c2 => ?_) (fun c2 => ?_)
  · rw [if_neg c2] at hs0
    refine lv_iconst (v := 0) hx hb dX7_goesOnBy_25 (by decide) ?_
    subst hs0
    exact W.zret hx hb hr rfl (fun t ht hw => ⟨⟨_, (m0, a0), rfl, ⟨rfl, rfl, rfl⟩, g_end hW ht hw⟩, hS.F ht⟩) hS.2.2 dX7_goesOnBy_26 hlocks
  · rw [if_pos c2] at hs0
    refine lv_lload_n hx hb dX7_goesOnBy_8 rfl (lv_at hl 1 rfl) ?_
    refine g_SiR (n := 1) hx hb hml hown hG hW hS [.long p1] (kX7_acksOf hN p1) rfl (gd_S gx474 gx475 gx39 gx476) rfl rfl (by decide) ⟨Nat.le_of_ble_eq_true rfl, Nat.le_of_ble_eq_true rfl⟩ rfl hl (Nat.le_of_ble_eq_true rfl) ⟨Nat.zero_le _, Nat.zero_le _⟩ dX7_goesOnBy_9 (fun H locs hW hS => ?_)
    refine lv_iconst (v := 1) hx hb dX7_goesOnBy_12 (by decide) ?_
    refine lv_iadd hx hb dX7_goesOnBy_13 ?_
    refine lv_aload_n hx hb dX7_goesOnBy_14 rfl (lv_at hl 0 rfl) ?_
    refine gf7_2 hx hb hG hown hW (o := kr) hkr hgk (v := .int xkr_2) h_xkr_2 gx152 dX7_goesOnBy_15 ?_
    refine lv_icmp_lt (tgt := 25) hx hb dX7_goesOnBy_18 (by decide) (fun c4 => ?_) (fun c4 => ?_)
    · rw [if_pos c4] at hs0
      refine lv_iconst (v := 0) hx hb dX7_goesOnBy_25 (by decide) ?_
      subst hs0
      exact W.zret hx hb hr rfl (fun t ht hw => ⟨⟨_, (m0, a0), rfl, ⟨rfl, rfl, rfl⟩, g_end hW ht hw⟩, hS.F ht⟩) hS.2.2 dX7_goesOnBy_26 hlocks
    · rw [if_neg c4] at hs0
      refine lv_iconst (v := 1) hx hb dX7_goesOnBy_21 (by decide) ?_
      refine lv_goto (tgt := 26) hx hb dX7_goesOnBy_22 (by decide) ?_
      subst hs0
      exact W.zret hx hb hr rfl (fun t ht hw => ⟨⟨_, (m0, a0), rfl, ⟨rfl, rfl, rfl⟩, g_end hW ht hw⟩, hS.F ht⟩) hS.2.2 dX7_goesOnBy_26 hlocks
