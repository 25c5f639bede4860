/-! 08.rows (by program): the pure function of each method, its rows, its contract -/
-- HealLink$Row.empty ()V
def fX6_empty (x2_0 : Int32) (x2_1 : Int64) : Int32 × Int64 := (0, 0)
theorem dX6_empty_0 : decode cX6_empty 0 = .ok (.aload_n 0, 1) := by decide +kernel
theorem dX6_empty_1 : decode cX6_empty 1 = .ok (.iconst 0, 1) := by decide +kernel
theorem dX6_empty_2 : decode cX6_empty 2 = .ok (.putfield 20, 3) := by decide +kernel
theorem dX6_empty_5 : decode cX6_empty 5 = .ok (.aload_n 0, 1) := by decide +kernel
theorem dX6_empty_6 : decode cX6_empty 6 = .ok (.lconst 0, 1) := by decide +kernel
theorem dX6_empty_7 : decode cX6_empty 7 = .ok (.putfield 24, 3) := by decide +kernel
theorem dX6_empty_10 : decode cX6_empty 10 = .ok (.return_, 1) := by decide +kernel
set_option maxHeartbeats 4000000 in
set_option maxRecDepth 100000 in
theorem kX6_empty_2 {l : Launch} {D : va_G} {cy : Nat → ClassId} {N : Nat} {q : Nat → Nat} {m0 : Nat → Value} {a0 : Nat → vp_A} {sz : Nat} (hN : 105 ≤ N) (hsh : SH q m0) {x2_0 : Int32} (h_x2_0 : m0 200 = .int x2_0) {x2_1 : Int64} (h_x2_1 : m0 201 = .long x2_1) : gMv l yX6_empty cX6_empty 1 none ({ frames := 0, cells := 0, slots := 0, locals := 0 } : Room) D cy N q m0 a0 sz [.ref (q 2)] (fun m' a' => m' 200 = .int ((fX6_empty x2_0 x2_1).1) ∧ m' 201 = .long ((fX6_empty x2_0 x2_1).2) ∧ (∀ j, nel j [200, 201] = false → m' j = m0 j) ∧ a' = a0) := by
  generalize hs0 : fX6_empty x2_0 x2_1 = X0
  refine g_ofv (by decide) (Nat.le_of_ble_eq_true rfl) ?_
  intro p e s M args below meth c hx hb hr hG hown hin hlocks hml hW hS ls hl
  unfold fX6_empty at hs0
  have hoff : ∀ j, nel j [200, 201] = false → m0 j = m0 j := off0
  refine lv_aload_n hx hb dX6_empty_0 rfl (lv_at hl 0 rfl) ?_
  refine lv_iconst (v := 0) hx hb dX6_empty_1 (by decide) ?_
  refine gp6_0 hx hb hG hown hW hS (o := 2) (ltN hN 2 rfl) gk2 (v := 0) gx235 dX6_empty_2 (fun m1 H locs hm1 ho1 hW hS => ?_)
  have ho1 := off1 ho1
  have w_x2_0 : m1 200 = .int 0 := hm1
  have w_x2_1 : m1 201 = .long x2_1 := (ho1 201 rfl).trans h_x2_1
  have hoff := offm hoff ho1 (by decide +kernel)
  have hsh := SH.off hsh ho1 (by decide +kernel)
  refine lv_aload_n hx hb dX6_empty_5 rfl (lv_at hl 0 rfl) ?_
  refine lv_lconst (v := 0) hx hb dX6_empty_6 (by decide) ?_
  refine gp6_1 hx hb hG hown hW hS (o := 2) (ltN hN 2 rfl) gk2 (v := 0) gx236 dX6_empty_7 (fun m2 H locs hm2 ho2 hW hS => ?_)
  have ho2 := off1 ho2
  have w_x2_0 : m2 200 = .int 0 := (ho2 200 rfl).trans w_x2_0
  have w_x2_1 : m2 201 = .long 0 := hm2
  have hoff := offm hoff ho2 (by decide +kernel)
  have hsh := SH.off hsh ho2 (by decide +kernel)
  subst hs0
  exact W.vret hx hb hr (fun t ht hw => ⟨⟨(m2, a0), rfl, ⟨w_x2_0, w_x2_1, hoff, rfl⟩, g_end hW ht hw⟩, hS.F ht⟩) hS.2.2 dX6_empty_10 hlocks
-- HealLink$Row.add (I)V
def fX6_add (x2_0 : Int32) (x2_1 : Int64) (p1 : Int32) : Int32 × Int64 := (if 40 < (x2_0 + 1) then 40 else (x2_0 + 1), (x2_1 <<< ((1 : Int32).toInt64 &&& 63)) ||| p1.toInt64)
theorem dX6_add_0 : decode cX6_add 0 = .ok (.aload_n 0, 1) := by decide +kernel
theorem dX6_add_1 : decode cX6_add 1 = .ok (.aload_n 0, 1) := by decide +kernel
theorem dX6_add_2 : decode cX6_add 2 = .ok (.getfield 24, 3) := by decide +kernel
theorem dX6_add_5 : decode cX6_add 5 = .ok (.iconst 1, 1) := by decide +kernel
theorem dX6_add_6 : decode cX6_add 6 = .ok (.lshl, 1) := by decide +kernel
theorem dX6_add_7 : decode cX6_add 7 = .ok (.iload_n 1, 1) := by decide +kernel
theorem dX6_add_8 : decode cX6_add 8 = .ok (.i2l, 1) := by decide +kernel
theorem dX6_add_9 : decode cX6_add 9 = .ok (.lor, 1) := by decide +kernel
theorem dX6_add_10 : decode cX6_add 10 = .ok (.putfield 24, 3) := by decide +kernel
theorem dX6_add_13 : decode cX6_add 13 = .ok (.aload_n 0, 1) := by decide +kernel
theorem dX6_add_14 : decode cX6_add 14 = .ok (.aload_n 0, 1) := by decide +kernel
theorem dX6_add_15 : decode cX6_add 15 = .ok (.getfield 20, 3) := by decide +kernel
theorem dX6_add_18 : decode cX6_add 18 = .ok (.iconst 1, 1) := by decide +kernel
theorem dX6_add_19 : decode cX6_add 19 = .ok (.iadd, 1) := by decide +kernel
theorem dX6_add_20 : decode cX6_add 20 = .ok (.bipush 40, 2) := by decide +kernel
theorem dX6_add_22 : decode cX6_add 22 = .ok (.invokestatic 28, 3) := by decide +kernel
theorem dX6_add_25 : decode cX6_add 25 = .ok (.putfield 20, 3) := by decide +kernel
theorem dX6_add_28 : decode cX6_add 28 = .ok (.return_, 1) := by decide +kernel
set_option maxHeartbeats 4000000 in
set_option maxRecDepth 100000 in
theorem kX6_add_2 {l : Launch} {D : va_G} {cy : Nat → ClassId} {N : Nat} {q : Nat → Nat} {m0 : Nat → Value} {a0 : Nat → vp_A} {sz : Nat} (hN : 105 ≤ N) (hsh : SH q m0) {x2_0 : Int32} (h_x2_0 : m0 200 = .int x2_0) {x2_1 : Int64} (h_x2_1 : m0 201 = .long x2_1) (p1 : Int32) : gMv l yX6_add cX6_add 2 none ({ frames := 1, cells := 0, slots := 0, locals := 21 } : Room) D cy N q m0 a0 sz [.ref (q 2), .int p1] (fun m' a' => m' 200 = .int ((fX6_add x2_0 x2_1 p1).1) ∧ m' 201 = .long ((fX6_add x2_0 x2_1 p1).2) ∧ (∀ j, nel j [200, 201] = false → m' j = m0 j) ∧ a' = a0) := by
  generalize hs0 : fX6_add x2_0 x2_1 p1 = X0
  refine g_ofv (by decide) (Nat.le_of_ble_eq_true rfl) ?_
  intro p e s M args below meth c hx hb hr hG hown hin hlocks hml hW hS ls hl
  unfold fX6_add at hs0
  have hoff : ∀ j, nel j [200, 201] = false → m0 j = m0 j := off0
  refine lv_aload_n hx hb dX6_add_0 rfl (lv_at hl 0 rfl) ?_
  refine lv_aload_n hx hb dX6_add_1 rfl (lv_at hl 0 rfl) ?_
  refine gf6_1 hx hb hG hown hW (o := 2) (ltN hN 2 rfl) gk2 (v := .long x2_1) h_x2_1 gx236 dX6_add_2 ?_
  refine lv_iconst (v := 1) hx hb dX6_add_5 (by decide) ?_
  refine lv_lshl hx hb dX6_add_6 rfl ?_
  refine lv_iload_n hx hb dX6_add_7 rfl (lv_at hl 1 rfl) ?_
  refine lv_i2l hx hb dX6_add_8 rfl ?_
  refine lv_lor hx hb dX6_add_9 ?_
  refine gp6_1 hx hb hG hown hW hS (o := 2) (ltN hN 2 rfl) gk2 (v := ((x2_1 <<< ((1 : Int32).toInt64 &&& 63)) ||| p1.toInt64)) gx236 dX6_add_10 (fun m1 H locs hm1 ho1 hW hS => ?_)
  have ho1 := off1 ho1
  have w_x2_0 : m1 200 = .int x2_0 := (ho1 200 rfl).trans h_x2_0
  have w_x2_1 : m1 201 = .long ((x2_1 <<< ((1 : Int32).toInt64 &&& 63)) ||| p1.toInt64) := hm1
  have hoff := offm hoff ho1 (by decide +kernel)
  have hsh := SH.off hsh ho1 (by decide +kernel)
  refine lv_aload_n hx hb dX6_add_13 rfl (lv_at hl 0 rfl) ?_
  refine lv_aload_n hx hb dX6_add_14 rfl (lv_at hl 0 rfl) ?_
  refine gf6_0 hx hb hG hown hW (o := 2) (ltN hN 2 rfl) gk2 (v := .int x2_0) w_x2_0 gx235 dX6_add_15 ?_
  refine lv_iconst (v := 1) hx hb dX6_add_18 (by decide) ?_
  refine lv_iadd hx hb dX6_add_19 ?_
  refine lv_bipush (v := 40) hx hb dX6_add_20 (by decide) ?_
  refine va_mmin hx hb (hml.trans hl.1.symm) hown (hG _ gx486) (hG _ gx487) (hG _ gx55) (hG _ gx488) (Nat.le_of_ble_eq_true rfl) (Nat.le_of_ble_eq_true rfl) (Nat.zero_le _) (Nat.zero_le _) dX6_add_22 ?_
  refine gp6_0 hx hb hG hown hW hS (o := 2) (ltN hN 2 rfl) gk2 (v := (if 40 < (x2_0 + 1) then 40 else (x2_0 + 1))) gx235 dX6_add_25 (fun m2 H locs hm2 ho2 hW hS => ?_)
  have ho2 := off1 ho2
  have w_x2_0 : m2 200 = .int (if 40 < (x2_0 + 1) then 40 else (x2_0 + 1)) := hm2
  have w_x2_1 : m2 201 = .long ((x2_1 <<< ((1 : Int32).toInt64 &&& 63)) ||| p1.toInt64) := (ho2 201 rfl).trans w_x2_1
  have hoff := offm hoff ho2 (by decide +kernel)
  have hsh := SH.off hsh ho2 (by decide +kernel)
  subst hs0
  exact W.vret hx hb hr (fun t ht hw => ⟨⟨(m2, a0), rfl, ⟨w_x2_0, w_x2_1, hoff, rfl⟩, g_end hW ht hw⟩, hS.F ht⟩) hS.2.2 dX6_add_28 hlocks
-- HealLink$Row.valueAt (I)I
def fX6_valueAt (x2_0 : Int32) (x2_1 : Int64) (p1 : Int32) : Int32 := (if p1 < 0 then (-1) else (if p1 < x2_0 then (((x2_1.toUInt64 >>> (((x2_0 - 1) - p1).toInt64.toUInt64 &&& Int64.toUInt64 63)).toInt64).toInt32) &&& (1 : Int32) else (-1)))
theorem dX6_valueAt_0 : decode cX6_valueAt 0 = .ok (.iload_n 1, 1) := by decide +kernel
theorem dX6_valueAt_1 : decode cX6_valueAt 1 = .ok (.ifCond .lt 11, 3) := by decide +kernel
theorem dX6_valueAt_4 : decode cX6_valueAt 4 = .ok (.iload_n 1, 1) := by decide +kernel
theorem dX6_valueAt_5 : decode cX6_valueAt 5 = .ok (.aload_n 0, 1) := by decide +kernel
theorem dX6_valueAt_6 : decode cX6_valueAt 6 = .ok (.getfield 20, 3) := by decide +kernel
theorem dX6_valueAt_9 : decode cX6_valueAt 9 = .ok (.if_icmp .lt 7, 3) := by decide +kernel
theorem dX6_valueAt_12 : decode cX6_valueAt 12 = .ok (.iconst (-1), 1) := by decide +kernel
theorem dX6_valueAt_13 : decode cX6_valueAt 13 = .ok (.goto 19, 3) := by decide +kernel
theorem dX6_valueAt_16 : decode cX6_valueAt 16 = .ok (.aload_n 0, 1) := by decide +kernel
theorem dX6_valueAt_17 : decode cX6_valueAt 17 = .ok (.getfield 24, 3) := by decide +kernel
theorem dX6_valueAt_20 : decode cX6_valueAt 20 = .ok (.aload_n 0, 1) := by decide +kernel
theorem dX6_valueAt_21 : decode cX6_valueAt 21 = .ok (.getfield 20, 3) := by decide +kernel
theorem dX6_valueAt_24 : decode cX6_valueAt 24 = .ok (.iconst 1, 1) := by decide +kernel
theorem dX6_valueAt_25 : decode cX6_valueAt 25 = .ok (.isub, 1) := by decide +kernel
theorem dX6_valueAt_26 : decode cX6_valueAt 26 = .ok (.iload_n 1, 1) := by decide +kernel
theorem dX6_valueAt_27 : decode cX6_valueAt 27 = .ok (.isub, 1) := by decide +kernel
theorem dX6_valueAt_28 : decode cX6_valueAt 28 = .ok (.lushr, 1) := by decide +kernel
theorem dX6_valueAt_29 : decode cX6_valueAt 29 = .ok (.l2i, 1) := by decide +kernel
theorem dX6_valueAt_30 : decode cX6_valueAt 30 = .ok (.iconst 1, 1) := by decide +kernel
theorem dX6_valueAt_31 : decode cX6_valueAt 31 = .ok (.iand, 1) := by decide +kernel
theorem dX6_valueAt_32 : decode cX6_valueAt 32 = .ok (.ireturn, 1) := by decide +kernel
set_option maxHeartbeats 4000000 in
set_option maxRecDepth 100000 in
theorem kX6_valueAt_2 {l : Launch} {D : va_G} {cy : Nat → ClassId} {N : Nat} {q : Nat → Nat} {m0 : Nat → Value} {a0 : Nat → vp_A} {sz : Nat} (hN : 105 ≤ N) {x2_0 : Int32} (h_x2_0 : m0 200 = .int x2_0) {x2_1 : Int64} (h_x2_1 : m0 201 = .long x2_1) (p1 : Int32) : gMi l yX6_valueAt cX6_valueAt 2 (some .int) ({ frames := 0, cells := 0, slots := 0, locals := 0 } : Room) D cy N q m0 a0 sz [.ref (q 2), .int p1] (fun r m' a' => r = (fX6_valueAt x2_0 x2_1 p1) ∧ m' = m0 ∧ a' = a0) := by
  generalize hs0 : fX6_valueAt x2_0 x2_1 p1 = X0
  refine g_ofi (by decide) (Nat.le_of_ble_eq_true rfl) ?_
  intro p e s M args below meth c hx hb hr hG hown hin hlocks hml hW hS ls hl
  unfold fX6_valueAt at hs0
  refine lv_iload_n hx hb dX6_valueAt_0 rfl (lv_at hl 1 rfl) ?_
  refine lv_if_lt (tgt := 12) hx hb dX6_valueAt_1 (by decide) (fun c1 => ?_) (fun c1 => ?_)
  · rw [if_pos c1] at hs0
    refine lv_iconst (v := (-1)) hx hb dX6_valueAt_12 (by decide) ?_
    refine lv_goto (tgt := 32) hx hb dX6_valueAt_13 (by decide) ?_
    subst hs0
    exact W.zret hx hb hr rfl (fun t ht hw => ⟨⟨_, (m0, a0), rfl, ⟨rfl, rfl, rfl⟩, g_end hW ht hw⟩, hS.F ht⟩) hS.2.2 dX6_valueAt_32 hlocks
  · rw [if_neg c1] at hs0
    refine lv_iload_n hx hb dX6_valueAt_4 rfl (lv_at hl 1 rfl) ?_
    refine lv_aload_n hx hb dX6_valueAt_5 rfl (lv_at hl 0 rfl) ?_
    refine gf6_0 hx hb hG hown hW (o := 2) (ltN hN 2 rfl) gk2 (v := .int x2_0) h_x2_0 gx235 dX6_valueAt_6 ?_
    refine lv_icmp_lt (tgt := 16) hx hb dX6_valueAt_9 (by decide) (fun c2 => ?_) (fun c2 => ?_)
    · rw [if_pos c2] at hs0
      refine lv_aload_n hx hb dX6_valueAt_16 rfl (lv_at hl 0 rfl) ?_
      refine gf6_1 hx hb hG hown hW (o := 2) (ltN hN 2 rfl) gk2 (v := .long x2_1) h_x2_1 gx236 dX6_valueAt_17 ?_
      refine lv_aload_n hx hb dX6_valueAt_20 rfl (lv_at hl 0 rfl) ?_
      refine gf6_0 hx hb hG hown hW (o := 2) (ltN hN 2 rfl) gk2 (v := .int x2_0) h_x2_0 gx235 dX6_valueAt_21 ?_
      refine lv_iconst (v := 1) hx hb dX6_valueAt_24 (by decide) ?_
      refine lv_isub hx hb dX6_valueAt_25 ?_
      refine lv_iload_n hx hb dX6_valueAt_26 rfl (lv_at hl 1 rfl) ?_
      refine lv_isub hx hb dX6_valueAt_27 ?_
      refine lv_lushr hx hb dX6_valueAt_28 rfl ?_
      refine lv_l2i hx hb dX6_valueAt_29 rfl ?_
      refine lv_iconst (v := 1) hx hb dX6_valueAt_30 (by decide) ?_
      refine lv_iand hx hb dX6_valueAt_31 ?_
      subst hs0
      exact W.zret hx hb hr rfl (fun t ht hw => ⟨⟨_, (m0, a0), rfl, ⟨rfl, rfl, rfl⟩, g_end hW ht hw⟩, hS.F ht⟩) hS.2.2 dX6_valueAt_32 hlocks
    · rw [if_neg c2] at hs0
      refine lv_iconst (v := (-1)) hx hb dX6_valueAt_12 (by decide) ?_
      refine lv_goto (tgt := 32) hx hb dX6_valueAt_13 (by decide) ?_
      subst hs0
      exact W.zret hx hb hr rfl (fun t ht hw => ⟨⟨_, (m0, a0), rfl, ⟨rfl, rfl, rfl⟩, g_end hW ht hw⟩, hS.F ht⟩) hS.2.2 dX6_valueAt_32 hlocks
set_option maxHeartbeats 4000000 in
set_option maxRecDepth 100000 in
theorem kX6_empty_5 {l : Launch} {D : va_G} {cy : Nat → ClassId} {N : Nat} {q : Nat → Nat} {m0 : Nat → Value} {a0 : Nat → vp_A} {sz : Nat} (hN : 105 ≤ N) (hsh : SH q m0) {x5_0 : Int32} (h_x5_0 : m0 500 = .int x5_0) {x5_1 : Int64} (h_x5_1 : m0 501 = .long x5_1) : gMv l yX6_empty cX6_empty 1 none ({ frames := 0, cells := 0, slots := 0, locals := 0 } : Room) D cy N q m0 a0 sz [.ref (q 5)] (fun m' a' => m' 500 = .int ((fX6_empty x5_0 x5_1).1) ∧ m' 501 = .long ((fX6_empty x5_0 x5_1).2) ∧ (∀ j, nel j [500, 501] = false → m' j = m0 j) ∧ a' = a0) := by
  generalize hs0 : fX6_empty x5_0 x5_1 = X0
  refine g_ofv (by decide) (Nat.le_of_ble_eq_true rfl) ?_
  intro p e s M args below meth c hx hb hr hG hown hin hlocks hml hW hS ls hl
  unfold fX6_empty at hs0
  have hoff : ∀ j, nel j [500, 501] = false → m0 j = m0 j := off0
  refine lv_aload_n hx hb dX6_empty_0 rfl (lv_at hl 0 rfl) ?_
  refine lv_iconst (v := 0) hx hb dX6_empty_1 (by decide) ?_
  refine gp6_0 hx hb hG hown hW hS (o := 5) (ltN hN 5 rfl) gk5 (v := 0) gx235 dX6_empty_2 (fun m1 H locs hm1 ho1 hW hS => ?_)
  have ho1 := off1 ho1
  have w_x5_0 : m1 500 = .int 0 := hm1
  have w_x5_1 : m1 501 = .long x5_1 := (ho1 501 rfl).trans h_x5_1
  have hoff := offm hoff ho1 (by decide +kernel)
  have hsh := SH.off hsh ho1 (by decide +kernel)
  refine lv_aload_n hx hb dX6_empty_5 rfl (lv_at hl 0 rfl) ?_
  refine lv_lconst (v := 0) hx hb dX6_empty_6 (by decide) ?_
  refine gp6_1 hx hb hG hown hW hS (o := 5) (ltN hN 5 rfl) gk5 (v := 0) gx236 dX6_empty_7 (fun m2 H locs hm2 ho2 hW hS => ?_)
  have ho2 := off1 ho2
  have w_x5_0 : m2 500 = .int 0 := (ho2 500 rfl).trans w_x5_0
  have w_x5_1 : m2 501 = .long 0 := hm2
  have hoff := offm hoff ho2 (by decide +kernel)
  have hsh := SH.off hsh ho2 (by decide +kernel)
  subst hs0
  exact W.vret hx hb hr (fun t ht hw => ⟨⟨(m2, a0), rfl, ⟨w_x5_0, w_x5_1, hoff, rfl⟩, g_end hW ht hw⟩, hS.F ht⟩) hS.2.2 dX6_empty_10 hlocks
set_option maxHeartbeats 4000000 in
set_option maxRecDepth 100000 in
theorem kX6_add_5 {l : Launch} {D : va_G} {cy : Nat → ClassId} {N : Nat} {q : Nat → Nat} {m0 : Nat → Value} {a0 : Nat → vp_A} {sz : Nat} (hN : 105 ≤ N) (hsh : SH q m0) {x5_0 : Int32} (h_x5_0 : m0 500 = .int x5_0) {x5_1 : Int64} (h_x5_1 : m0 501 = .long x5_1) (p1 : Int32) : gMv l yX6_add cX6_add 2 none ({ frames := 1, cells := 0, slots := 0, locals := 21 } : Room) D cy N q m0 a0 sz [.ref (q 5), .int p1] (fun m' a' => m' 500 = .int ((fX6_add x5_0 x5_1 p1).1) ∧ m' 501 = .long ((fX6_add x5_0 x5_1 p1).2) ∧ (∀ j, nel j [500, 501] = false → m' j = m0 j) ∧ a' = a0) := by
  generalize hs0 : fX6_add x5_0 x5_1 p1 = X0
  refine g_ofv (by decide) (Nat.le_of_ble_eq_true rfl) ?_
  intro p e s M args below meth c hx hb hr hG hown hin hlocks hml hW hS ls hl
  unfold fX6_add at hs0
  have hoff : ∀ j, nel j [500, 501] = false → m0 j = m0 j := off0
  refine lv_aload_n hx hb dX6_add_0 rfl (lv_at hl 0 rfl) ?_
  refine lv_aload_n hx hb dX6_add_1 rfl (lv_at hl 0 rfl) ?_
  refine gf6_1 hx hb hG hown hW (o := 5) (ltN hN 5 rfl) gk5 (v := .long x5_1) h_x5_1 gx236 dX6_add_2 ?_
  refine lv_iconst (v := 1) hx hb dX6_add_5 (by decide) ?_
  refine lv_lshl hx hb dX6_add_6 rfl ?_
  refine lv_iload_n hx hb dX6_add_7 rfl (lv_at hl 1 rfl) ?_
  refine lv_i2l hx hb dX6_add_8 rfl ?_
  refine lv_lor hx hb dX6_add_9 ?_
  refine gp6_1 hx hb hG hown hW hS (o := 5) (ltN hN 5 rfl) gk5 (v := ((x5_1 <<< ((1 : Int32).toInt64 &&& 63)) ||| p1.toInt64)) gx236 dX6_add_10 (fun m1 H locs hm1 ho1 hW hS => ?_)
  have ho1 := off1 ho1
  have w_x5_0 : m1 500 = .int x5_0 := (ho1 500 rfl).trans h_x5_0
  have w_x5_1 : m1 501 = .long ((x5_1 <<< ((1 : Int32).toInt64 &&& 63)) ||| p1.toInt64) := hm1
  have hoff := offm hoff ho1 (by decide +kernel)
  have hsh := SH.off hsh ho1 (by decide +kernel)
  refine lv_aload_n hx hb dX6_add_13 rfl (lv_at hl 0 rfl) ?_
  refine lv_aload_n hx hb dX6_add_14 rfl (lv_at hl 0 rfl) ?_
  refine gf6_0 hx hb hG hown hW (o := 5) (ltN hN 5 rfl) gk5 (v := .int x5_0) w_x5_0 gx235 dX6_add_15 ?_
  refine lv_iconst (v := 1) hx hb dX6_add_18 (by decide) ?_
  refine lv_iadd hx hb dX6_add_19 ?_
  refine lv_bipush (v := 40) hx hb dX6_add_20 (by decide) ?_
  refine va_mmin hx hb (hml.trans hl.1.symm) hown (hG _ gx486) (hG _ gx487) (hG _ gx55) (hG _ gx488) (Nat.le_of_ble_eq_true rfl) (Nat.le_of_ble_eq_true rfl) (Nat.zero_le _) (Nat.zero_le _) dX6_add_22 ?_
  refine gp6_0 hx hb hG hown hW hS (o := 5) (ltN hN 5 rfl) gk5 (v := (if 40 < (x5_0 + 1) then 40 else (x5_0 + 1))) gx235 dX6_add_25 (fun m2 H locs hm2 ho2 hW hS => ?_)
  have ho2 := off1 ho2
  have w_x5_0 : m2 500 = .int (if 40 < (x5_0 + 1) then 40 else (x5_0 + 1)) := hm2
  have w_x5_1 : m2 501 = .long ((x5_1 <<< ((1 : Int32).toInt64 &&& 63)) ||| p1.toInt64) := (ho2 501 rfl).trans w_x5_1
  have hoff := offm hoff ho2 (by decide +kernel)
  have hsh := SH.off hsh ho2 (by decide +kernel)
  subst hs0
  exact W.vret hx hb hr (fun t ht hw => ⟨⟨(m2, a0), rfl, ⟨w_x5_0, w_x5_1, hoff, rfl⟩, g_end hW ht hw⟩, hS.F ht⟩) hS.2.2 dX6_add_28 hlocks
set_option maxHeartbeats 4000000 in
set_option maxRecDepth 100000 in
theorem kX6_valueAt_5 {l : Launch} {D : va_G} {cy : Nat → ClassId} {N : Nat} {q : Nat → Nat} {m0 : Nat → Value} {a0 : Nat → vp_A} {sz : Nat} (hN : 105 ≤ N) {x5_0 : Int32} (h_x5_0 : m0 500 = .int x5_0) {x5_1 : Int64} (h_x5_1 : m0 501 = .long x5_1) (p1 : Int32) : gMi l yX6_valueAt cX6_valueAt 2 (some .int) ({ frames := 0, cells := 0, slots := 0, locals := 0 } : Room) D cy N q m0 a0 sz [.ref (q 5), .int p1] (fun r m' a' => r = (fX6_valueAt x5_0 x5_1 p1) ∧ m' = m0 ∧ a' = a0) := by
  generalize hs0 : fX6_valueAt x5_0 x5_1 p1 = X0
  refine g_ofi (by decide) (Nat.le_of_ble_eq_true rfl) ?_
  intro p e s M args below meth c hx hb hr hG hown hin hlocks hml hW hS ls hl
  unfold fX6_valueAt at hs0
  refine lv_iload_n hx hb dX6_valueAt_0 rfl (lv_at hl 1 rfl) ?_
  refine lv_if_lt (tgt := 12) hx hb dX6_valueAt_1 (by decide) (fun c1 => ?_) (fun c1 => ?_)
  · rw [if_pos c1] at hs0
    refine lv_iconst (v := (-1)) hx hb dX6_valueAt_12 (by decide) ?_
    refine lv_goto (tgt := 32) hx hb dX6_valueAt_13 (by decide) ?_
    subst hs0
    exact W.zret hx hb hr rfl (fun t ht hw => ⟨⟨_, (m0, a0), rfl, ⟨rfl, rfl, rfl⟩, g_end hW ht hw⟩, hS.F ht⟩) hS.2.2 dX6_valueAt_32 hlocks
  · rw [if_neg c1] at hs0
    refine lv_iload_n hx hb dX6_valueAt_4 rfl (lv_at hl 1 rfl) ?_
    refine lv_aload_n hx hb dX6_valueAt_5 rfl (lv_at hl 0 rfl) ?_
    refine gf6_0 hx hb hG hown hW (o := 5) (ltN hN 5 rfl) gk5 (v := .int x5_0) h_x5_0 gx235 dX6_valueAt_6 ?_
    refine lv_icmp_lt (tgt := 16) hx hb dX6_valueAt_9 (by decide) (fun c2 => ?_) (fun c2 => ?_)
    · rw [if_pos c2] at hs0
      refine lv_aload_n hx hb dX6_valueAt_16 rfl (lv_at hl 0 rfl) ?_
      refine gf6_1 hx hb hG hown hW (o := 5) (ltN hN 5 rfl) gk5 (v := .long x5_1) h_x5_1 gx236 dX6_valueAt_17 ?_
      refine lv_aload_n hx hb dX6_valueAt_20 rfl (lv_at hl 0 rfl) ?_
      refine gf6_0 hx hb hG hown hW (o := 5) (ltN hN 5 rfl) gk5 (v := .int x5_0) h_x5_0 gx235 dX6_valueAt_21 ?_
      refine lv_iconst (v := 1) hx hb dX6_valueAt_24 (by decide) ?_
      refine lv_isub hx hb dX6_valueAt_25 ?_
      refine lv_iload_n hx hb dX6_valueAt_26 rfl (lv_at hl 1 rfl) ?_
      refine lv_isub hx hb dX6_valueAt_27 ?_
      refine lv_lushr hx hb dX6_valueAt_28 rfl ?_
      refine lv_l2i hx hb dX6_valueAt_29 rfl ?_
      refine lv_iconst (v := 1) hx hb dX6_valueAt_30 (by decide) ?_
      refine lv_iand hx hb dX6_valueAt_31 ?_
      subst hs0
      exact W.zret hx hb hr rfl (fun t ht hw => ⟨⟨_, (m0, a0), rfl, ⟨rfl, rfl, rfl⟩, g_end hW ht hw⟩, hS.F ht⟩) hS.2.2 dX6_valueAt_32 hlocks
    · rw [if_neg c2] at hs0
      refine lv_iconst (v := (-1)) hx hb dX6_valueAt_12 (by decide) ?_
      refine lv_goto (tgt := 32) hx hb dX6_valueAt_13 (by decide) ?_
      subst hs0
      exact W.zret hx hb hr rfl (fun t ht hw => ⟨⟨_, (m0, a0), rfl, ⟨rfl, rfl, rfl⟩, g_end hW ht hw⟩, hS.F ht⟩) hS.2.2 dX6_valueAt_32 hlocks
-- HealLink$Row.commonWith (LHealLink$Row;)I
def fX6_commonWith_J87 (F : Nat) (x2_0 : Int32) (x2_1 : Int64) (x5_0 : Int32) (x5_1 : Int64) (v2 : Int32) (v4j11 : Int32) (v5j11 : Int32) (s0j11 : Int32) (s1j11 : Int32) (A4j11 : Nat → Int32) : Option (((Nat → Int32)) ⊕ (Int32 × Int32 × (Nat → Int32))) := some (Sum.inr (v5j11, v4j11 + 1, (cPut 41 A4j11 s1j11 s0j11)))
def fX6_commonWith_S23 (F : Nat) (x2_0 : Int32) (x2_1 : Int64) (x5_0 : Int32) (x5_1 : Int64) (v2 : Int32) (v3 : Int32) (v4 : Int32) (A4 : Nat → Int32) : Option (((Nat → Int32)) ⊕ (Int32 × Int32 × (Nat → Int32))) := (if x5_0 < v4 then some (Sum.inl A4) else (if (fX6_valueAt x2_0 x2_1 v2) = (fX6_valueAt x5_0 x5_1 (v4 - 1)) then fX6_commonWith_J87 F x2_0 x2_1 x5_0 x5_1 v2 v4 (cAt 41 A4 v4) (v3 + 1) v4 A4 else fX6_commonWith_J87 F x2_0 x2_1 x5_0 x5_1 v2 v4 (cAt 41 A4 v4) (if (cAt 41 A4 v4) < (cAt 41 A4 (v4 - 1)) then (cAt 41 A4 (v4 - 1)) else (cAt 41 A4 v4)) v4 A4))
def fX6_commonWith_S10 (F : Nat) (x2_0 : Int32) (x2_1 : Int64) (x5_0 : Int32) (x5_1 : Int64) (v2 : Int32) (A4 : Nat → Int32) : Option (((Nat → Int32)) ⊕ (Int32 × (Nat → Int32))) := (if x2_0 ≤ v2 then some (Sum.inl A4) else (gloop (fun u4 : (Int32 × Int32 × (Nat → Int32)) => fX6_commonWith_S23 F x2_0 x2_1 x5_0 x5_1 v2 u4.1 u4.2.1 u4.2.2) F (0, 1, A4)).bind (fun t4_99 => some (Sum.inr (v2 + 1, t4_99))))
def fX6_commonWith (F : Nat) (x2_0 : Int32) (x2_1 : Int64) (x5_0 : Int32) (x5_1 : Int64) (A4 : Nat → Int32) : Option (Int32 × (Nat → Int32)) := (gloop (fun u2 : (Int32 × (Nat → Int32)) => fX6_commonWith_S10 F x2_0 x2_1 x5_0 x5_1 u2.1 u2.2) F (0, (cFill 41 A4 0))).bind (fun t2_105 => some ((cAt 41 t2_105 x5_0), t2_105))
theorem dX6_commonWith_0 : decode cX6_commonWith 0 = .ok (.aload_n 0, 1) := by decide +kernel
theorem dX6_commonWith_1 : decode cX6_commonWith 1 = .ok (.getfield 16, 3) := by decide +kernel
theorem dX6_commonWith_4 : decode cX6_commonWith 4 = .ok (.iconst 0, 1) := by decide +kernel
theorem dX6_commonWith_5 : decode cX6_commonWith 5 = .ok (.invokevirtual 34, 3) := by decide +kernel
theorem dX6_commonWith_8 : decode cX6_commonWith 8 = .ok (.iconst 0, 1) := by decide +kernel
theorem dX6_commonWith_9 : decode cX6_commonWith 9 = .ok (.istore_n 2, 1) := by decide +kernel
theorem dX6_commonWith_10 : decode cX6_commonWith 10 = .ok (.iload_n 2, 1) := by decide +kernel
theorem dX6_commonWith_11 : decode cX6_commonWith 11 = .ok (.aload_n 0, 1) := by decide +kernel
theorem dX6_commonWith_12 : decode cX6_commonWith 12 = .ok (.getfield 20, 3) := by decide +kernel
theorem dX6_commonWith_15 : decode cX6_commonWith 15 = .ok (.if_icmp .ge 90, 3) := by decide +kernel
theorem dX6_commonWith_18 : decode cX6_commonWith 18 = .ok (.iconst 0, 1) := by decide +kernel
theorem dX6_commonWith_19 : decode cX6_commonWith 19 = .ok (.istore_n 3, 1) := by decide +kernel
theorem dX6_commonWith_20 : decode cX6_commonWith 20 = .ok (.iconst 1, 1) := by decide +kernel
theorem dX6_commonWith_21 : decode cX6_commonWith 21 = .ok (.istore 4, 2) := by decide +kernel
theorem dX6_commonWith_23 : decode cX6_commonWith 23 = .ok (.iload 4, 2) := by decide +kernel
theorem dX6_commonWith_25 : decode cX6_commonWith 25 = .ok (.aload_n 1, 1) := by decide +kernel
theorem dX6_commonWith_26 : decode cX6_commonWith 26 = .ok (.getfield 20, 3) := by decide +kernel
theorem dX6_commonWith_29 : decode cX6_commonWith 29 = .ok (.if_icmp .gt 70, 3) := by decide +kernel
theorem dX6_commonWith_32 : decode cX6_commonWith 32 = .ok (.aload_n 0, 1) := by decide +kernel
theorem dX6_commonWith_33 : decode cX6_commonWith 33 = .ok (.getfield 16, 3) := by decide +kernel
theorem dX6_commonWith_36 : decode cX6_commonWith 36 = .ok (.iload 4, 2) := by decide +kernel
theorem dX6_commonWith_38 : decode cX6_commonWith 38 = .ok (.invokevirtual 37, 3) := by decide +kernel
theorem dX6_commonWith_41 : decode cX6_commonWith 41 = .ok (.istore 5, 2) := by decide +kernel
theorem dX6_commonWith_43 : decode cX6_commonWith 43 = .ok (.aload_n 0, 1) := by decide +kernel
theorem dX6_commonWith_44 : decode cX6_commonWith 44 = .ok (.getfield 16, 3) := by decide +kernel
theorem dX6_commonWith_47 : decode cX6_commonWith 47 = .ok (.iload 4, 2) := by decide +kernel
theorem dX6_commonWith_49 : decode cX6_commonWith 49 = .ok (.aload_n 0, 1) := by decide +kernel
theorem dX6_commonWith_50 : decode cX6_commonWith 50 = .ok (.iload_n 2, 1) := by decide +kernel
theorem dX6_commonWith_51 : decode cX6_commonWith 51 = .ok (.invokevirtual 41, 3) := by decide +kernel
theorem dX6_commonWith_54 : decode cX6_commonWith 54 = .ok (.aload_n 1, 1) := by decide +kernel
theorem dX6_commonWith_55 : decode cX6_commonWith 55 = .ok (.iload 4, 2) := by decide +kernel
theorem dX6_commonWith_57 : decode cX6_commonWith 57 = .ok (.iconst 1, 1) := by decide +kernel
theorem dX6_commonWith_58 : decode cX6_commonWith 58 = .ok (.isub, 1) := by decide +kernel
theorem dX6_commonWith_59 : decode cX6_commonWith 59 = .ok (.invokevirtual 41, 3) := by decide +kernel
theorem dX6_commonWith_62 : decode cX6_commonWith 62 = .ok (.if_icmp .ne 9, 3) := by decide +kernel
theorem dX6_commonWith_65 : decode cX6_commonWith 65 = .ok (.iload_n 3, 1) := by decide +kernel
theorem dX6_commonWith_66 : decode cX6_commonWith 66 = .ok (.iconst 1, 1) := by decide +kernel
theorem dX6_commonWith_67 : decode cX6_commonWith 67 = .ok (.iadd, 1) := by decide +kernel
theorem dX6_commonWith_68 : decode cX6_commonWith 68 = .ok (.goto 19, 3) := by decide +kernel
theorem dX6_commonWith_71 : decode cX6_commonWith 71 = .ok (.iload 5, 2) := by decide +kernel
theorem dX6_commonWith_73 : decode cX6_commonWith 73 = .ok (.aload_n 0, 1) := by decide +kernel
theorem dX6_commonWith_74 : decode cX6_commonWith 74 = .ok (.getfield 16, 3) := by decide +kernel
theorem dX6_commonWith_77 : decode cX6_commonWith 77 = .ok (.iload 4, 2) := by decide +kernel
theorem dX6_commonWith_79 : decode cX6_commonWith 79 = .ok (.iconst 1, 1) := by decide +kernel
theorem dX6_commonWith_80 : decode cX6_commonWith 80 = .ok (.isub, 1) := by decide +kernel
theorem dX6_commonWith_81 : decode cX6_commonWith 81 = .ok (.invokevirtual 37, 3) := by decide +kernel
theorem dX6_commonWith_84 : decode cX6_commonWith 84 = .ok (.invokestatic 44, 3) := by decide +kernel
theorem dX6_commonWith_87 : decode cX6_commonWith 87 = .ok (.invokevirtual 47, 3) := by decide +kernel
theorem dX6_commonWith_90 : decode cX6_commonWith 90 = .ok (.iload 5, 2) := by decide +kernel
theorem dX6_commonWith_92 : decode cX6_commonWith 92 = .ok (.istore_n 3, 1) := by decide +kernel
theorem dX6_commonWith_93 : decode cX6_commonWith 93 = .ok (.iinc 4 1, 3) := by decide +kernel
theorem dX6_commonWith_96 : decode cX6_commonWith 96 = .ok (.goto (-73), 3) := by decide +kernel
theorem dX6_commonWith_99 : decode cX6_commonWith 99 = .ok (.iinc 2 1, 3) := by decide +kernel
theorem dX6_commonWith_102 : decode cX6_commonWith 102 = .ok (.goto (-92), 3) := by decide +kernel
theorem dX6_commonWith_105 : decode cX6_commonWith 105 = .ok (.aload_n 0, 1) := by decide +kernel
theorem dX6_commonWith_106 : decode cX6_commonWith 106 = .ok (.getfield 16, 3) := by decide +kernel
theorem dX6_commonWith_109 : decode cX6_commonWith 109 = .ok (.aload_n 1, 1) := by decide +kernel
theorem dX6_commonWith_110 : decode cX6_commonWith 110 = .ok (.getfield 20, 3) := by decide +kernel
theorem dX6_commonWith_113 : decode cX6_commonWith 113 = .ok (.invokevirtual 37, 3) := by decide +kernel
theorem dX6_commonWith_116 : decode cX6_commonWith 116 = .ok (.ireturn, 1) := by decide +kernel
set_option maxHeartbeats 4000000 in
set_option maxRecDepth 100000 in
theorem kX6_commonWith_2 {l : Launch} {D : va_G} {cy : Nat → ClassId} {N : Nat} {q : Nat → Nat} {m0 : Nat → Value} {a0 : Nat → vp_A} {sz : Nat} (hN : 105 ≤ N) (hsh : SH q m0) {x2_0 : Int32} (h_x2_0 : m0 200 = .int x2_0) {x2_1 : Int64} (h_x2_1 : m0 201 = .long x2_1) {x5_0 : Int32} (h_x5_0 : m0 500 = .int x5_0) {x5_1 : Int64} (h_x5_1 : m0 501 = .long x5_1) {A4 : Nat → Int32} (h_A4 : a0 4 = (41, .inl A4)) (F : Nat) {X0 : Int32 × (Nat → Int32)} (hs0 : fX6_commonWith F x2_0 x2_1 x5_0 x5_1 A4 = some X0) : gMi l yX6_commonWith cX6_commonWith 6 (some .int) ({ frames := 2, cells := 0, slots := 0, locals := 44 } : Room) D cy N q m0 a0 sz [.ref (q 2), .ref (q 5)] (fun r m' a' => r = X0.1 ∧ m' = m0 ∧ a' 4 = (41, .inl X0.2) ∧ (∀ j, nel j [4] = false → a' j = a0 j)) := by
  refine g_ofi (by decide) (Nat.le_of_ble_eq_true rfl) ?_
  intro p e s M args below meth c hx hb hr hG hown hin hlocks hml hW hS ls hl
  unfold fX6_commonWith at hs0
  have hoffa : ∀ j, nel j [4] = false → a0 j = a0 j := off0
  refine lv_aload_n hx hb dX6_commonWith_0 rfl (lv_at hl 0 rfl) ?_
  refine gf6_2 hx hb hG hown hW (o := 2) (ltN hN 2 rfl) gk2 (v := .ref (q 3)) (sh2_2 hsh) gx48 dX6_commonWith_1 ?_
  refine lv_iconst (v := 0) hx hb dX6_commonWith_4 (by decide) ?_
  refine g_Vv (n := 1) hx hb hml hown hG hW hS [.int 0] (kX2_fill (ltN hN 3 rfl) gk3 (ltN hN 4 rfl) gk4 (sh3_0 hsh) (by decide) h_A4 0) (ltN hN 3 rfl) gk3 (by decide) rfl rfl (gd_V gx1082 gx678 gx679 gx47 gx680) rfl rfl (by decide) ⟨Nat.le_of_ble_eq_true rfl, Nat.le_of_ble_eq_true rfl⟩ rfl hl (Nat.le_of_ble_eq_true rfl) ⟨Nat.zero_le _, Nat.zero_le _⟩ dX6_commonWith_5 (fun m1 a1 H locs hp1 hW hS => ?_)
  obtain ⟨hm1, hp1_A4, hoa1⟩ := hp1
  rw [hm1] at hW
  have w_A4 : a1 4 = (41, .inl (cFill 41 A4 0)) := hp1_A4
  have hoffa := offm hoffa hoa1 (by decide +kernel)
  refine lv_iconst (v := 0) hx hb dX6_commonWith_8 (by decide) ?_
  refine lv_istore_n (lv' := [(2, .int 0), (0, .ref (q 2)), (1, .ref (q 5))]) hx hb dX6_commonWith_9 rfl hl (by decide) rfl (fun ls hl => ?_)
  obtain ⟨r2, hg2, hs0⟩ := obind hs0
  have hE1_105 : ∀ (t2_105 : (Nat → Int32)) (hr2 : t2_105 = r2) (a : Nat → vp_A) (H : Heap) (locs : List Loc) (w_A4 : a 4 = (41, .inl t2_105)) (hoffa : ∀ j, nel j [4] = false → a j = a0 j) (ls : Array Slot) (hl : lv_has ls 6 [(0, .ref (q 2)), (1, .ref (q 5))]) (hW : GW D cy (gA N q s.heap.size) N q m0 a s H) (hS : va_S (gA N q s.heap.size) s.heap H locs), W p l e ({ frames := 2, cells := 0, slots := 0, locals := 44 } : Room) s M args below meth c H locs 0 0 (MQ below (va_Qi (fun (r : Int32) (u : (Nat → Value) × (Nat → vp_A)) => r = X0.1 ∧ u.1 = m0 ∧ u.2 4 = (41, .inl X0.2) ∧ (∀ j, nel j [4] = false → u.2 j = a0 j)) (gB D cy N q s.heap.size) (gA N q s.heap.size)) args s 0 0 (gA N q s.heap.size)) (F0 M 105 ls []) := by
    intro t2_105 hr2 a H locs w_A4 hoffa ls hl hW hS
    subst hr2
    refine lv_aload_n hx hb dX6_commonWith_105 rfl (lv_at hl 0 rfl) ?_
    refine gf6_2 hx hb hG hown hW (o := 2) (ltN hN 2 rfl) gk2 (v := .ref (q 3)) (sh2_2 hsh) gx48 dX6_commonWith_106 ?_
    refine lv_aload_n hx hb dX6_commonWith_109 rfl (lv_at hl 1 rfl) ?_
    refine gf6_0 hx hb hG hown hW (o := 5) (ltN hN 5 rfl) gk5 (v := .int x5_0) h_x5_0 gx235 dX6_commonWith_110 ?_
    refine g_ViR (n := 1) hx hb hml hown hG hW hS [.int x5_0] (kX2_at (ltN hN 3 rfl) gk3 (ltN hN 4 rfl) gk4 (sh3_0 hsh) (by decide) w_A4 x5_0) (ltN hN 3 rfl) gk3 (by decide) rfl rfl (gd_V gx1083 gx564 gx565 gx47 gx566) rfl rfl (by decide) ⟨Nat.le_of_ble_eq_true rfl, Nat.le_of_ble_eq_true rfl⟩ rfl hl (Nat.le_of_ble_eq_true rfl) ⟨Nat.zero_le _, Nat.zero_le _⟩ dX6_commonWith_113 (fun H locs hW hS => ?_)
    have hs0 := Option.some.inj hs0
    subst hs0
    exact W.zret hx hb hr rfl (fun t ht hw => ⟨⟨_, (m0, a), rfl, ⟨rfl, rfl, w_A4, hoffa⟩, g_end hW ht hw⟩, hS.F ht⟩) hS.2.2 dX6_commonWith_116 hlocks
  have hL1 : ∀ (n : Nat) (v2k2 : Int32) (A4k2 : Nat → Int32) (a : Nat → vp_A) (H : Heap) (locs : List Loc) (w_A4 : a 4 = (41, .inl A4k2)) (hoffa : ∀ j, nel j [4] = false → a j = a0 j) (ls : Array Slot) (hl : lv_has ls 6 [(0, .ref (q 2)), (1, .ref (q 5)), (2, .int v2k2)]) (hg2 : gloop (fun u2 : (Int32 × (Nat → Int32)) => fX6_commonWith_S10 F x2_0 x2_1 x5_0 x5_1 u2.1 u2.2) n (v2k2, A4k2) = some r2) (hW : GW D cy (gA N q s.heap.size) N q m0 a s H) (hS : va_S (gA N q s.heap.size) s.heap H locs), W p l e ({ frames := 2, cells := 0, slots := 0, locals := 44 } : Room) s M args below meth c H locs 0 0 (MQ below (va_Qi (fun (r : Int32) (u : (Nat → Value) × (Nat → vp_A)) => r = X0.1 ∧ u.1 = m0 ∧ u.2 4 = (41, .inl X0.2) ∧ (∀ j, nel j [4] = false → u.2 j = a0 j)) (gB D cy N q s.heap.size) (gA N q s.heap.size)) args s 0 0 (gA N q s.heap.size)) (F0 M 10 ls []) := by
    intro n
    induction n with
    | zero => intro v2k2 A4k2 a H locs w_A4 hoffa ls hl hg2 hW hS; exact (gl_zero hg2).elim
    | succ n ih1 =>
      intro v2k2 A4k2 a H locs w_A4 hoffa ls hl hg2 hW hS
      obtain ⟨X1, hs1, hXl1, hXr1⟩ := gl_succ hg2
      have hs1 : fX6_commonWith_S10 F x2_0 x2_1 x5_0 x5_1 v2k2 A4k2 = some X1 := hs1
      unfold fX6_commonWith_S10 at hs1
      refine lv_iload_n hx hb dX6_commonWith_10 rfl (lv_at hl 2 rfl) ?_
      refine lv_aload_n hx hb dX6_commonWith_11 rfl (lv_at hl 0 rfl) ?_
      refine gf6_0 hx hb hG hown hW (o := 2) (ltN hN 2 rfl) gk2 (v := .int x2_0) h_x2_0 gx235 dX6_commonWith_12 ?_
      refine lv_icmp_ge (tgt := 105) hx hb dX6_commonWith_15 (by decide) (fun c22 => ?_) (fun c22 => ?_)
      · rw [if_pos c22] at hs1
        exact hE1_105 A4k2 (hXl1 _ (Option.some.inj hs1).symm) a _ _ w_A4 hoffa ls (lv_sub hl [0, 1] rfl) hW hS
      · rw [if_neg c22] at hs1
        refine lv_iconst (v := 0) hx hb dX6_commonWith_18 (by decide) ?_
        refine lv_istore_n (lv' := [(3, .int 0), (0, .ref (q 2)), (1, .ref (q 5)), (2, .int v2k2)]) hx hb dX6_commonWith_19 rfl hl (by decide) rfl (fun ls hl => ?_)
        refine lv_iconst (v := 1) hx hb dX6_commonWith_20 (by decide) ?_
        refine lv_istore (lv' := [(4, .int 1), (3, .int 0), (0, .ref (q 2)), (1, .ref (q 5)), (2, .int v2k2)]) hx hb dX6_commonWith_21 hl (by decide) rfl (fun ls hl => ?_)
        obtain ⟨r23, hg23, hs1⟩ := obind hs1
        have hE2_99 : ∀ (t23_99 : (Nat → Int32)) (hr23 : t23_99 = r23) (a : Nat → vp_A) (H : Heap) (locs : List Loc) (w_A4 : a 4 = (41, .inl t23_99)) (hoffa : ∀ j, nel j [4] = false → a j = a0 j) (ls : Array Slot) (hl : lv_has ls 6 [(0, .ref (q 2)), (1, .ref (q 5)), (2, .int v2k2)]) (hW : GW D cy (gA N q s.heap.size) N q m0 a s H) (hS : va_S (gA N q s.heap.size) s.heap H locs), W p l e ({ frames := 2, cells := 0, slots := 0, locals := 44 } : Room) s M args below meth c H locs 0 0 (MQ below (va_Qi (fun (r : Int32) (u : (Nat → Value) × (Nat → vp_A)) => r = X0.1 ∧ u.1 = m0 ∧ u.2 4 = (41, .inl X0.2) ∧ (∀ j, nel j [4] = false → u.2 j = a0 j)) (gB D cy N q s.heap.size) (gA N q s.heap.size)) args s 0 0 (gA N q s.heap.size)) (F0 M 99 ls []) := by
          intro t23_99 hr23 a H locs w_A4 hoffa ls hl hW hS
          subst hr23
          refine lv_iinc (v := v2k2 + 1) (lv' := [(2, .int (v2k2 + 1)), (0, .ref (q 2)), (1, .ref (q 5))]) hx hb dX6_commonWith_99 hl (k := 2) rfl rfl (by decide) rfl (fun ls hl => ?_)
          refine lv_goto (tgt := 10) hx hb dX6_commonWith_102 (by decide) ?_
          exact ih1 (v2k2 + 1) t23_99 a _ _ w_A4 hoffa ls (lv_sub hl [1, 2, 0] rfl) (hXr1 _ (Option.some.inj hs1).symm) hW hS
        have hL2 : ∀ (n : Nat) (v3k23 : Int32) (v4k23 : Int32) (A4k23 : Nat → Int32) (a : Nat → vp_A) (H : Heap) (locs : List Loc) (w_A4 : a 4 = (41, .inl A4k23)) (hoffa : ∀ j, nel j [4] = false → a j = a0 j) (ls : Array Slot) (hl : lv_has ls 6 [(0, .ref (q 2)), (1, .ref (q 5)), (2, .int v2k2), (3, .int v3k23), (4, .int v4k23)]) (hg23 : gloop (fun u23 : (Int32 × Int32 × (Nat → Int32)) => fX6_commonWith_S23 F x2_0 x2_1 x5_0 x5_1 v2k2 u23.1 u23.2.1 u23.2.2) n (v3k23, v4k23, A4k23) = some r23) (hW : GW D cy (gA N q s.heap.size) N q m0 a s H) (hS : va_S (gA N q s.heap.size) s.heap H locs), W p l e ({ frames := 2, cells := 0, slots := 0, locals := 44 } : Room) s M args below meth c H locs 0 0 (MQ below (va_Qi (fun (r : Int32) (u : (Nat → Value) × (Nat → vp_A)) => r = X0.1 ∧ u.1 = m0 ∧ u.2 4 = (41, .inl X0.2) ∧ (∀ j, nel j [4] = false → u.2 j = a0 j)) (gB D cy N q s.heap.size) (gA N q s.heap.size)) args s 0 0 (gA N q s.heap.size)) (F0 M 23 ls []) := by
          intro n
          induction n with
          | zero => intro v3k23 v4k23 A4k23 a H locs w_A4 hoffa ls hl hg23 hW hS; exact (gl_zero hg23).elim
          | succ n ih2 =>
            intro v3k23 v4k23 A4k23 a H locs w_A4 hoffa ls hl hg23 hW hS
            obtain ⟨X2, hs2, hXl2, hXr2⟩ := gl_succ hg23
            have hs2 : fX6_commonWith_S23 F x2_0 x2_1 x5_0 x5_1 v2k2 v3k23 v4k23 A4k23 = some X2 := hs2
            unfold fX6_commonWith_S23 at hs2
            have hJ87_2 : ∀ (v4j38 : Int32) (v5j38 : Int32) (s0j38 : Int32) (s1j38 : Int32) (A4j38 : Nat → Int32) (a : Nat → vp_A) (H : Heap) (locs : List Loc) (w_A4 : a 4 = (41, .inl A4j38)) (hoffa : ∀ j, nel j [4] = false → a j = a0 j) (ls : Array Slot) (hl : lv_has ls 6 [(0, .ref (q 2)), (1, .ref (q 5)), (2, .int v2k2), (4, .int v4j38), (5, .int v5j38)]) (hs2 : fX6_commonWith_J87 F x2_0 x2_1 x5_0 x5_1 v2k2 v4j38 v5j38 s0j38 s1j38 A4j38 = some X2) (hW : GW D cy (gA N q s.heap.size) N q m0 a s H) (hS : va_S (gA N q s.heap.size) s.heap H locs), W p l e ({ frames := 2, cells := 0, slots := 0, locals := 44 } : Room) s M args below meth c H locs 0 0 (MQ below (va_Qi (fun (r : Int32) (u : (Nat → Value) × (Nat → vp_A)) => r = X0.1 ∧ u.1 = m0 ∧ u.2 4 = (41, .inl X0.2) ∧ (∀ j, nel j [4] = false → u.2 j = a0 j)) (gB D cy N q s.heap.size) (gA N q s.heap.size)) args s 0 0 (gA N q s.heap.size)) (F0 M 87 ls [.int s0j38, .int s1j38, .ref (q 3)]) := by
              intro v4j38 v5j38 s0j38 s1j38 A4j38 a H locs w_A4 hoffa ls hl hs2 hW hS
              unfold fX6_commonWith_J87 at hs2
              refine g_Vv (n := 2) hx hb hml hown hG hW hS [.int s1j38, .int s0j38] (kX2_put (ltN hN 3 rfl) gk3 (ltN hN 4 rfl) gk4 (sh3_0 hsh) (by decide) w_A4 s1j38 s0j38) (ltN hN 3 rfl) gk3 (by decide) rfl rfl (gd_V gx1088 gx551 gx552 gx47 gx553) rfl rfl (by decide) ⟨Nat.le_of_ble_eq_true rfl, Nat.le_of_ble_eq_true rfl⟩ rfl hl (Nat.le_of_ble_eq_true rfl) ⟨Nat.zero_le _, Nat.zero_le _⟩ dX6_commonWith_87 (fun m39 a39 H locs hp39 hW hS => ?_)
              obtain ⟨hm39, hp39_A4, hoa39⟩ := hp39
              rw [hm39] at hW
              have w_A4 : a39 4 = (41, .inl (cPut 41 A4j38 s1j38 s0j38)) := hp39_A4
              have hoffa := offm hoffa hoa39 (by decide +kernel)
              refine lv_iload hx hb dX6_commonWith_90 (lv_at hl 4 rfl) ?_
              refine lv_istore_n (lv' := [(3, .int v5j38), (0, .ref (q 2)), (1, .ref (q 5)), (2, .int v2k2), (4, .int v4j38), (5, .int v5j38)]) hx hb dX6_commonWith_92 rfl hl (by decide) rfl (fun ls hl => ?_)
              refine lv_iinc (v := v4j38 + 1) (lv' := [(4, .int (v4j38 + 1)), (3, .int v5j38), (0, .ref (q 2)), (1, .ref (q 5)), (2, .int v2k2), (5, .int v5j38)]) hx hb dX6_commonWith_93 hl (k := 4) rfl rfl (by decide) rfl (fun ls hl => ?_)
              refine lv_goto (tgt := 23) hx hb dX6_commonWith_96 (by decide) ?_
              exact ih2 v5j38 (v4j38 + 1) (cPut 41 A4j38 s1j38 s0j38) a39 _ _ w_A4 hoffa ls (lv_sub hl [2, 3, 4, 1, 0] rfl) (hXr2 _ (Option.some.inj hs2).symm) hW hS
            refine lv_iload hx hb dX6_commonWith_23 (lv_at hl 4 rfl) ?_
            refine lv_aload_n hx hb dX6_commonWith_25 rfl (lv_at hl 1 rfl) ?_
            refine gf6_0 hx hb hG hown hW (o := 5) (ltN hN 5 rfl) gk5 (v := .int x5_0) h_x5_0 gx235 dX6_commonWith_26 ?_
            refine lv_icmp_gt (tgt := 99) hx hb dX6_commonWith_29 (by decide) (fun c32 => ?_) (fun c32 => ?_)
            · rw [if_pos c32] at hs2
              exact hE2_99 A4k23 (hXl2 _ (Option.some.inj hs2).symm) a _ _ w_A4 hoffa ls (lv_sub hl [0, 1, 2] rfl) hW hS
            · rw [if_neg c32] at hs2
              refine lv_aload_n hx hb dX6_commonWith_32 rfl (lv_at hl 0 rfl) ?_
              refine gf6_2 hx hb hG hown hW (o := 2) (ltN hN 2 rfl) gk2 (v := .ref (q 3)) (sh2_2 hsh) gx48 dX6_commonWith_33 ?_
              refine lv_iload hx hb dX6_commonWith_36 (lv_at hl 4 rfl) ?_
              refine g_ViR (n := 1) hx hb hml hown hG hW hS [.int v4k23] (kX2_at (ltN hN 3 rfl) gk3 (ltN hN 4 rfl) gk4 (sh3_0 hsh) (by decide) w_A4 v4k23) (ltN hN 3 rfl) gk3 (by decide) rfl rfl (gd_V gx1083 gx564 gx565 gx47 gx566) rfl rfl (by decide) ⟨Nat.le_of_ble_eq_true rfl, Nat.le_of_ble_eq_true rfl⟩ rfl hl (Nat.le_of_ble_eq_true rfl) ⟨Nat.zero_le _, Nat.zero_le _⟩ dX6_commonWith_38 (fun H locs hW hS => ?_)
              refine lv_istore (lv' := [(5, .int (cAt 41 A4k23 v4k23)), (0, .ref (q 2)), (1, .ref (q 5)), (2, .int v2k2), (3, .int v3k23), (4, .int v4k23)]) hx hb dX6_commonWith_41 hl (by decide) rfl (fun ls hl => ?_)
              refine lv_aload_n hx hb dX6_commonWith_43 rfl (lv_at hl 1 rfl) ?_
              refine gf6_2 hx hb hG hown hW (o := 2) (ltN hN 2 rfl) gk2 (v := .ref (q 3)) (sh2_2 hsh) gx48 dX6_commonWith_44 ?_
              refine lv_iload hx hb dX6_commonWith_47 (lv_at hl 5 rfl) ?_
              refine lv_aload_n hx hb dX6_commonWith_49 rfl (lv_at hl 1 rfl) ?_
              refine lv_iload_n hx hb dX6_commonWith_50 rfl (lv_at hl 3 rfl) ?_
              refine g_ViR (n := 1) hx hb hml hown hG hW hS [.int v2k2] (kX6_valueAt_2 hN h_x2_0 h_x2_1 v2k2) (ltN hN 2 rfl) gk2 (by decide) rfl rfl (gd_V gx1084 gx1085 gx1086 gx18 gx1087) rfl rfl (by decide) ⟨Nat.le_of_ble_eq_true rfl, Nat.le_of_ble_eq_true rfl⟩ rfl hl (Nat.le_of_ble_eq_true rfl) ⟨Nat.zero_le _, Nat.zero_le _⟩ dX6_commonWith_51 (fun H locs hW hS => ?_)
              refine lv_aload_n hx hb dX6_commonWith_54 rfl (lv_at hl 2 rfl) ?_
              refine lv_iload hx hb dX6_commonWith_55 (lv_at hl 5 rfl) ?_
              refine lv_iconst (v := 1) hx hb dX6_commonWith_57 (by decide) ?_
              refine lv_isub hx hb dX6_commonWith_58 ?_
              refine g_ViR (n := 1) hx hb hml hown hG hW hS [.int (v4k23 - 1)] (kX6_valueAt_5 hN h_x5_0 h_x5_1 (v4k23 - 1)) (ltN hN 5 rfl) gk5 (by decide) rfl rfl (gd_V gx1084 gx1085 gx1086 gx18 gx1087) rfl rfl (by decide) ⟨Nat.le_of_ble_eq_true rfl, Nat.le_of_ble_eq_true rfl⟩ rfl hl (Nat.le_of_ble_eq_true rfl) ⟨Nat.zero_le _, Nat.zero_le _⟩ dX6_commonWith_59 (fun H locs hW hS => ?_)
              refine lv_icmp_ne (tgt := 71) hx hb dX6_commonWith_62 (by decide) (fun c36 => ?_) (fun c36 => ?_)
              · rw [if_neg c36] at hs2
                refine lv_iload hx hb dX6_commonWith_71 (lv_at hl 0 rfl) ?_
                refine lv_aload_n hx hb dX6_commonWith_73 rfl (lv_at hl 1 rfl) ?_
                refine gf6_2 hx hb hG hown hW (o := 2) (ltN hN 2 rfl) gk2 (v := .ref (q 3)) (sh2_2 hsh) gx48 dX6_commonWith_74 ?_
                refine lv_iload hx hb dX6_commonWith_77 (lv_at hl 5 rfl) ?_
                refine lv_iconst (v := 1) hx hb dX6_commonWith_79 (by decide) ?_
                refine lv_isub hx hb dX6_commonWith_80 ?_
                refine g_ViR (n := 1) hx hb hml hown hG hW hS [.int (v4k23 - 1)] (kX2_at (ltN hN 3 rfl) gk3 (ltN hN 4 rfl) gk4 (sh3_0 hsh) (by decide) w_A4 (v4k23 - 1)) (ltN hN 3 rfl) gk3 (by decide) rfl rfl (gd_V gx1083 gx564 gx565 gx47 gx566) rfl rfl (by decide) ⟨Nat.le_of_ble_eq_true rfl, Nat.le_of_ble_eq_true rfl⟩ rfl hl (Nat.le_of_ble_eq_true rfl) ⟨Nat.zero_le _, Nat.zero_le _⟩ dX6_commonWith_81 (fun H locs hW hS => ?_)
                refine va_mmax hx hb (hml.trans hl.1.symm) hown (hG _ gx1081) (hG _ gx54) (hG _ gx55) (hG _ gx56) (Nat.le_of_ble_eq_true rfl) (Nat.le_of_ble_eq_true rfl) (Nat.zero_le _) (Nat.zero_le _) dX6_commonWith_84 ?_
                exact hJ87_2 v4k23 (cAt 41 A4k23 v4k23) (if (cAt 41 A4k23 v4k23) < (cAt 41 A4k23 (v4k23 - 1)) then (cAt 41 A4k23 (v4k23 - 1)) else (cAt 41 A4k23 v4k23)) v4k23 A4k23 a _ _ w_A4 hoffa ls (lv_sub hl [1, 2, 3, 5, 0] rfl) hs2 hW hS
              · rw [if_pos c36] at hs2
                refine lv_iload_n hx hb dX6_commonWith_65 rfl (lv_at hl 4 rfl) ?_
                refine lv_iconst (v := 1) hx hb dX6_commonWith_66 (by decide) ?_
                refine lv_iadd hx hb dX6_commonWith_67 ?_
                refine lv_goto (tgt := 87) hx hb dX6_commonWith_68 (by decide) ?_
                exact hJ87_2 v4k23 (cAt 41 A4k23 v4k23) (v3k23 + 1) v4k23 A4k23 a _ _ w_A4 hoffa ls (lv_sub hl [1, 2, 3, 5, 0] rfl) hs2 hW hS
        exact hL2 F 0 1 A4k2 a _ _ w_A4 hoffa ls (lv_sub hl [2, 3, 4, 1, 0] rfl) hg23 hW hS
  exact hL1 F 0 (cFill 41 A4 0) a1 _ _ w_A4 hoffa ls (lv_sub hl [1, 2, 0] rfl) hg2 hW hS
-- HealLink$Steps.empty ()V
def fX8_empty (x11_6 : Int32) (x11_7 : Int32) : Int32 × Int32 := (0, 0)
theorem dX8_empty_0 : decode cX8_empty 0 = .ok (.aload_n 0, 1) := by decide +kernel
theorem dX8_empty_1 : decode cX8_empty 1 = .ok (.iconst 0, 1) := by decide +kernel
theorem dX8_empty_2 : decode cX8_empty 2 = .ok (.putfield 35, 3) := by decide +kernel
theorem dX8_empty_5 : decode cX8_empty 5 = .ok (.aload_n 0, 1) := by decide +kernel
theorem dX8_empty_6 : decode cX8_empty 6 = .ok (.iconst 0, 1) := by decide +kernel
theorem dX8_empty_7 : decode cX8_empty 7 = .ok (.putfield 39, 3) := by decide +kernel
theorem dX8_empty_10 : decode cX8_empty 10 = .ok (.return_, 1) := by decide +kernel
set_option maxHeartbeats 4000000 in
set_option maxRecDepth 100000 in
theorem kX8_empty {l : Launch} {D : va_G} {cy : Nat → ClassId} {N : Nat} {q : Nat → Nat} {m0 : Nat → Value} {a0 : Nat → vp_A} {sz : Nat} (hN : 105 ≤ N) (hsh : SH q m0) {x11_6 : Int32} (h_x11_6 : m0 1106 = .int x11_6) {x11_7 : Int32} (h_x11_7 : m0 1107 = .int x11_7) : gMv l yX8_empty cX8_empty 1 none ({ frames := 0, cells := 0, slots := 0, locals := 0 } : Room) D cy N q m0 a0 sz [.ref (q 11)] (fun m' a' => m' 1106 = .int ((fX8_empty x11_6 x11_7).1) ∧ m' 1107 = .int ((fX8_empty x11_6 x11_7).2) ∧ (∀ j, nel j [1106, 1107] = false → m' j = m0 j) ∧ a' = a0) := by
  generalize hs0 : fX8_empty x11_6 x11_7 = X0
  refine g_ofv (by decide) (Nat.le_of_ble_eq_true rfl) ?_
  intro p e s M args below meth c hx hb hr hG hown hin hlocks hml hW hS ls hl
  unfold fX8_empty at hs0
  have hoff : ∀ j, nel j [1106, 1107] = false → m0 j = m0 j := off0
  refine lv_aload_n hx hb dX8_empty_0 rfl (lv_at hl 0 rfl) ?_
  refine lv_iconst (v := 0) hx hb dX8_empty_1 (by decide) ?_
  refine gp8_6 hx hb hG hown hW hS (o := 11) (ltN hN 11 rfl) gk11 (v := 0) gx1148 dX8_empty_2 (fun m1 H locs hm1 ho1 hW hS => ?_)
  have ho1 := off1 ho1
  have w_x11_6 : m1 1106 = .int 0 := hm1
  have w_x11_7 : m1 1107 = .int x11_7 := (ho1 1107 rfl).trans h_x11_7
  have hoff := offm hoff ho1 (by decide +kernel)
  have hsh := SH.off hsh ho1 (by decide +kernel)
  refine lv_aload_n hx hb dX8_empty_5 rfl (lv_at hl 0 rfl) ?_
  refine lv_iconst (v := 0) hx hb dX8_empty_6 (by decide) ?_
  refine gp8_7 hx hb hG hown hW hS (o := 11) (ltN hN 11 rfl) gk11 (v := 0) gx1149 dX8_empty_7 (fun m2 H locs hm2 ho2 hW hS => ?_)
  have ho2 := off1 ho2
  have w_x11_6 : m2 1106 = .int 0 := (ho2 1106 rfl).trans w_x11_6
  have w_x11_7 : m2 1107 = .int 0 := hm2
  have hoff := offm hoff ho2 (by decide +kernel)
  have hsh := SH.off hsh ho2 (by decide +kernel)
  subst hs0
  exact W.vret hx hb hr (fun t ht hw => ⟨⟨(m2, a0), rfl, ⟨w_x11_6, w_x11_7, hoff, rfl⟩, g_end hW ht hw⟩, hS.F ht⟩) hS.2.2 dX8_empty_10 hlocks
-- HealLink$Steps.mayOpen ()Z
def fX8_mayOpen (x11_7 : Int32) : Int32 := (if 4 ≤ x11_7 then 0 else 1)
theorem dX8_mayOpen_0 : decode cX8_mayOpen 0 = .ok (.aload_n 0, 1) := by decide +kernel
theorem dX8_mayOpen_1 : decode cX8_mayOpen 1 = .ok (.getfield 39, 3) := by decide +kernel
theorem dX8_mayOpen_4 : decode cX8_mayOpen 4 = .ok (.iconst 4, 1) := by decide +kernel
theorem dX8_mayOpen_5 : decode cX8_mayOpen 5 = .ok (.if_icmp .ge 7, 3) := by decide +kernel
theorem dX8_mayOpen_8 : decode cX8_mayOpen 8 = .ok (.iconst 1, 1) := by decide +kernel
theorem dX8_mayOpen_9 : decode cX8_mayOpen 9 = .ok (.goto 4, 3) := by decide +kernel
theorem dX8_mayOpen_12 : decode cX8_mayOpen 12 = .ok (.iconst 0, 1) := by decide +kernel
theorem dX8_mayOpen_13 : decode cX8_mayOpen 13 = .ok (.ireturn, 1) := by decide +kernel
set_option maxHeartbeats 4000000 in
set_option maxRecDepth 100000 in
theorem kX8_mayOpen {l : Launch} {D : va_G} {cy : Nat → ClassId} {N : Nat} {q : Nat → Nat} {m0 : Nat → Value} {a0 : Nat → vp_A} {sz : Nat} (hN : 105 ≤ N) {x11_7 : Int32} (h_x11_7 : m0 1107 = .int x11_7) : gMi l yX8_mayOpen cX8_mayOpen 1 (some .boolean) ({ frames := 0, cells := 0, slots := 0, locals := 0 } : Room) D cy N q m0 a0 sz [.ref (q 11)] (fun r m' a' => r = (fX8_mayOpen x11_7) ∧ m' = m0 ∧ a' = a0) := by
  generalize hs0 : fX8_mayOpen x11_7 = X0
  refine g_ofi (by decide) (Nat.le_of_ble_eq_true rfl) ?_
  intro p e s M args below meth c hx hb hr hG hown hin hlocks hml hW hS ls hl
  unfold fX8_mayOpen at hs0
  refine lv_aload_n hx hb dX8_mayOpen_0 rfl (lv_at hl 0 rfl) ?_
  refine gf8_7 hx hb hG hown hW (o := 11) (ltN hN 11 rfl) gk11 (v := .int x11_7) h_x11_7 gx1149 dX8_mayOpen_1 ?_
  refine lv_iconst (v := 4) hx hb dX8_mayOpen_4 (by decide) ?_
  refine lv_icmp_ge (tgt := 12) hx hb dX8_mayOpen_5 (by decide) (fun c1 => ?_) (fun c1 => ?_)
  · rw [if_pos c1] at hs0
    refine lv_iconst (v := 0) hx hb dX8_mayOpen_12 (by decide) ?_
    subst hs0
    exact W.zret hx hb hr rfl (fun t ht hw => ⟨⟨_, (m0, a0), rfl, ⟨rfl, rfl, rfl⟩, g_end hW ht hw⟩, hS.F ht⟩) hS.2.2 dX8_mayOpen_13 hlocks
  · rw [if_neg c1] at hs0
    refine lv_iconst (v := 1) hx hb dX8_mayOpen_8 (by decide) ?_
    refine lv_goto (tgt := 13) hx hb dX8_mayOpen_9 (by decide) ?_
    subst hs0
    exact W.zret hx hb hr rfl (fun t ht hw => ⟨⟨_, (m0, a0), rfl, ⟨rfl, rfl, rfl⟩, g_end hW ht hw⟩, hS.F ht⟩) hS.2.2 dX8_mayOpen_13 hlocks
-- HealLink$Steps.mayClose ()Z
def fX8_mayClose (x11_7 : Int32) : Int32 := (if x11_7 ≤ 0 then 0 else 1)
theorem dX8_mayClose_0 : decode cX8_mayClose 0 = .ok (.aload_n 0, 1) := by decide +kernel
theorem dX8_mayClose_1 : decode cX8_mayClose 1 = .ok (.getfield 39, 3) := by decide +kernel
theorem dX8_mayClose_4 : decode cX8_mayClose 4 = .ok (.ifCond .le 7, 3) := by decide +kernel
theorem dX8_mayClose_7 : decode cX8_mayClose 7 = .ok (.iconst 1, 1) := by decide +kernel
theorem dX8_mayClose_8 : decode cX8_mayClose 8 = .ok (.goto 4, 3) := by decide +kernel
theorem dX8_mayClose_11 : decode cX8_mayClose 11 = .ok (.iconst 0, 1) := by decide +kernel
theorem dX8_mayClose_12 : decode cX8_mayClose 12 = .ok (.ireturn, 1) := by decide +kernel
set_option maxHeartbeats 4000000 in
set_option maxRecDepth 100000 in
theorem kX8_mayClose {l : Launch} {D : va_G} {cy : Nat → ClassId} {N : Nat} {q : Nat → Nat} {m0 : Nat → Value} {a0 : Nat → vp_A} {sz : Nat} (hN : 105 ≤ N) {x11_7 : Int32} (h_x11_7 : m0 1107 = .int x11_7) : gMi l yX8_mayClose cX8_mayClose 1 (some .boolean) ({ frames := 0, cells := 0, slots := 0, locals := 0 } : Room) D cy N q m0 a0 sz [.ref (q 11)] (fun r m' a' => r = (fX8_mayClose x11_7) ∧ m' = m0 ∧ a' = a0) := by
  generalize hs0 : fX8_mayClose x11_7 = X0
  refine g_ofi (by decide) (Nat.le_of_ble_eq_true rfl) ?_
  intro p e s M args below meth c hx hb hr hG hown hin hlocks hml hW hS ls hl
  unfold fX8_mayClose at hs0
  refine lv_aload_n hx hb dX8_mayClose_0 rfl (lv_at hl 0 rfl) ?_
  refine gf8_7 hx hb hG hown hW (o := 11) (ltN hN 11 rfl) gk11 (v := .int x11_7) h_x11_7 gx1149 dX8_mayClose_1 ?_
  refine lv_if_le (tgt := 11) hx hb dX8_mayClose_4 (by decide) (fun c1 => ?_) (fun c1 => ?_)
  · rw [if_pos c1] at hs0
    refine lv_iconst (v := 0) hx hb dX8_mayClose_11 (by decide) ?_
    subst hs0
    exact W.zret hx hb hr rfl (fun t ht hw => ⟨⟨_, (m0, a0), rfl, ⟨rfl, rfl, rfl⟩, g_end hW ht hw⟩, hS.F ht⟩) hS.2.2 dX8_mayClose_12 hlocks
  · rw [if_neg c1] at hs0
    refine lv_iconst (v := 1) hx hb dX8_mayClose_7 (by decide) ?_
    refine lv_goto (tgt := 12) hx hb dX8_mayClose_8 (by decide) ?_
    subst hs0
    exact W.zret hx hb hr rfl (fun t ht hw => ⟨⟨_, (m0, a0), rfl, ⟨rfl, rfl, rfl⟩, g_end hW ht hw⟩, hS.F ht⟩) hS.2.2 dX8_mayClose_12 hlocks
-- HealLink$Steps.add (III)V
def fX8_add (x11_6 : Int32) (A13 : Nat → Int32) (A15 : Nat → Int32) (A17 : Nat → Int32) (p1 : Int32) (p2 : Int32) (p3 : Int32) : Int32 × (Nat → Int32) × (Nat → Int32) × (Nat → Int32) := (if 64 ≤ x11_6 then (x11_6, A13, A15, A17) else (x11_6 + 1, (cPut 64 A13 x11_6 p1), (cPut 64 A15 x11_6 p2), (cPut 64 A17 x11_6 p3)))
theorem dX8_add_0 : decode cX8_add 0 = .ok (.aload_n 0, 1) := by decide +kernel
theorem dX8_add_1 : decode cX8_add 1 = .ok (.getfield 35, 3) := by decide +kernel
theorem dX8_add_4 : decode cX8_add 4 = .ok (.bipush 64, 2) := by decide +kernel
theorem dX8_add_6 : decode cX8_add 6 = .ok (.if_icmp .ge 49, 3) := by decide +kernel
theorem dX8_add_9 : decode cX8_add 9 = .ok (.aload_n 0, 1) := by decide +kernel
theorem dX8_add_10 : decode cX8_add 10 = .ok (.getfield 16, 3) := by decide +kernel
theorem dX8_add_13 : decode cX8_add 13 = .ok (.aload_n 0, 1) := by decide +kernel
theorem dX8_add_14 : decode cX8_add 14 = .ok (.getfield 35, 3) := by decide +kernel
theorem dX8_add_17 : decode cX8_add 17 = .ok (.iload_n 1, 1) := by decide +kernel
theorem dX8_add_18 : decode cX8_add 18 = .ok (.invokevirtual 42, 3) := by decide +kernel
theorem dX8_add_21 : decode cX8_add 21 = .ok (.aload_n 0, 1) := by decide +kernel
theorem dX8_add_22 : decode cX8_add 22 = .ok (.getfield 20, 3) := by decide +kernel
theorem dX8_add_25 : decode cX8_add 25 = .ok (.aload_n 0, 1) := by decide +kernel
theorem dX8_add_26 : decode cX8_add 26 = .ok (.getfield 35, 3) := by decide +kernel
theorem dX8_add_29 : decode cX8_add 29 = .ok (.iload_n 2, 1) := by decide +kernel
theorem dX8_add_30 : decode cX8_add 30 = .ok (.invokevirtual 42, 3) := by decide +kernel
theorem dX8_add_33 : decode cX8_add 33 = .ok (.aload_n 0, 1) := by decide +kernel
theorem dX8_add_34 : decode cX8_add 34 = .ok (.getfield 23, 3) := by decide +kernel
theorem dX8_add_37 : decode cX8_add 37 = .ok (.aload_n 0, 1) := by decide +kernel
theorem dX8_add_38 : decode cX8_add 38 = .ok (.getfield 35, 3) := by decide +kernel
theorem dX8_add_41 : decode cX8_add 41 = .ok (.iload_n 3, 1) := by decide +kernel
theorem dX8_add_42 : decode cX8_add 42 = .ok (.invokevirtual 42, 3) := by decide +kernel
theorem dX8_add_45 : decode cX8_add 45 = .ok (.aload_n 0, 1) := by decide +kernel
theorem dX8_add_46 : decode cX8_add 46 = .ok (.dup, 1) := by decide +kernel
theorem dX8_add_47 : decode cX8_add 47 = .ok (.getfield 35, 3) := by decide +kernel
theorem dX8_add_50 : decode cX8_add 50 = .ok (.iconst 1, 1) := by decide +kernel
theorem dX8_add_51 : decode cX8_add 51 = .ok (.iadd, 1) := by decide +kernel
theorem dX8_add_52 : decode cX8_add 52 = .ok (.putfield 35, 3) := by decide +kernel
theorem dX8_add_55 : decode cX8_add 55 = .ok (.return_, 1) := by decide +kernel
set_option maxHeartbeats 4000000 in
set_option maxRecDepth 100000 in
theorem kX8_add {l : Launch} {D : va_G} {cy : Nat → ClassId} {N : Nat} {q : Nat → Nat} {m0 : Nat → Value} {a0 : Nat → vp_A} {sz : Nat} (hN : 105 ≤ N) (hsh : SH q m0) {x11_6 : Int32} (h_x11_6 : m0 1106 = .int x11_6) {A13 : Nat → Int32} (h_A13 : a0 13 = (64, .inl A13)) {A15 : Nat → Int32} (h_A15 : a0 15 = (64, .inl A15)) {A17 : Nat → Int32} (h_A17 : a0 17 = (64, .inl A17)) (p1 : Int32) (p2 : Int32) (p3 : Int32) : gMv l yX8_add cX8_add 4 none ({ frames := 1, cells := 0, slots := 0, locals := 22 } : Room) D cy N q m0 a0 sz [.ref (q 11), .int p1, .int p2, .int p3] (fun m' a' => m' 1106 = .int ((fX8_add x11_6 A13 A15 A17 p1 p2 p3).1) ∧ (∀ j, nel j [1106] = false → m' j = m0 j) ∧ a' 13 = (64, .inl ((fX8_add x11_6 A13 A15 A17 p1 p2 p3).2.1)) ∧ a' 15 = (64, .inl ((fX8_add x11_6 A13 A15 A17 p1 p2 p3).2.2.1)) ∧ a' 17 = (64, .inl ((fX8_add x11_6 A13 A15 A17 p1 p2 p3).2.2.2)) ∧ (∀ j, nel j [13, 15, 17] = false → a' j = a0 j)) := by
  generalize hs0 : fX8_add x11_6 A13 A15 A17 p1 p2 p3 = X0
  refine g_ofv (by decide) (Nat.le_of_ble_eq_true rfl) ?_
  intro p e s M args below meth c hx hb hr hG hown hin hlocks hml hW hS ls hl
  unfold fX8_add at hs0
  have hoff : ∀ j, nel j [1106] = false → m0 j = m0 j := off0
  have hoffa : ∀ j, nel j [13, 15, 17] = false → a0 j = a0 j := off0
  refine lv_aload_n hx hb dX8_add_0 rfl (lv_at hl 0 rfl) ?_
  refine gf8_6 hx hb hG hown hW (o := 11) (ltN hN 11 rfl) gk11 (v := .int x11_6) h_x11_6 gx1148 dX8_add_1 ?_
  refine lv_bipush (v := 64) hx hb dX8_add_4 (by decide) ?_
  refine lv_icmp_ge (tgt := 55) hx hb dX8_add_6 (by decide) (fun c1 => ?_) (fun c1 => ?_)
  · rw [if_pos c1] at hs0
    subst hs0
    exact W.vret hx hb hr (fun t ht hw => ⟨⟨(m0, a0), rfl, ⟨h_x11_6, hoff, h_A13, h_A15, h_A17, hoffa⟩, g_end hW ht hw⟩, hS.F ht⟩) hS.2.2 dX8_add_55 hlocks
  · rw [if_neg c1] at hs0
    refine lv_aload_n hx hb dX8_add_9 rfl (lv_at hl 0 rfl) ?_
    refine gf8_0 hx hb hG hown hW (o := 11) (ltN hN 11 rfl) gk11 (v := .ref (q 12)) (sh11_0 hsh) gx68 dX8_add_10 ?_
    refine lv_aload_n hx hb dX8_add_13 rfl (lv_at hl 0 rfl) ?_
    refine gf8_6 hx hb hG hown hW (o := 11) (ltN hN 11 rfl) gk11 (v := .int x11_6) h_x11_6 gx1148 dX8_add_14 ?_
    refine lv_iload_n hx hb dX8_add_17 rfl (lv_at hl 1 rfl) ?_
    refine g_Vv (n := 2) hx hb hml hown hG hW hS [.int x11_6, .int p1] (kX2_put (ltN hN 12 rfl) gk12 (ltN hN 13 rfl) gk13 (sh12_0 hsh) (by decide) h_A13 x11_6 p1) (ltN hN 12 rfl) gk12 (by decide) rfl rfl (gd_V gx1177 gx551 gx552 gx47 gx553) rfl rfl (by decide) ⟨Nat.le_of_ble_eq_true rfl, Nat.le_of_ble_eq_true rfl⟩ rfl hl (Nat.le_of_ble_eq_true rfl) ⟨Nat.zero_le _, Nat.zero_le _⟩ dX8_add_18 (fun m2 a2 H locs hp2 hW hS => ?_)
    obtain ⟨hm2, hp2_A13, hoa2⟩ := hp2
    rw [hm2] at hW
    have w_A13 : a2 13 = (64, .inl (cPut 64 A13 x11_6 p1)) := hp2_A13
    have w_A15 : a2 15 = (64, .inl A15) := (hoa2 15 rfl).trans h_A15
    have w_A17 : a2 17 = (64, .inl A17) := (hoa2 17 rfl).trans h_A17
    have hoffa := offm hoffa hoa2 (by decide +kernel)
    refine lv_aload_n hx hb dX8_add_21 rfl (lv_at hl 0 rfl) ?_
    refine gf8_1 hx hb hG hown hW (o := 11) (ltN hN 11 rfl) gk11 (v := .ref (q 14)) (sh11_1 hsh) gx69 dX8_add_22 ?_
    refine lv_aload_n hx hb dX8_add_25 rfl (lv_at hl 0 rfl) ?_
    refine gf8_6 hx hb hG hown hW (o := 11) (ltN hN 11 rfl) gk11 (v := .int x11_6) h_x11_6 gx1148 dX8_add_26 ?_
    refine lv_iload_n hx hb dX8_add_29 rfl (lv_at hl 2 rfl) ?_
    refine g_Vv (n := 2) hx hb hml hown hG hW hS [.int x11_6, .int p2] (kX2_put (ltN hN 14 rfl) gk14 (ltN hN 15 rfl) gk15 (sh14_0 hsh) (by decide) w_A15 x11_6 p2) (ltN hN 14 rfl) gk14 (by decide) rfl rfl (gd_V gx1177 gx551 gx552 gx47 gx553) rfl rfl (by decide) ⟨Nat.le_of_ble_eq_true rfl, Nat.le_of_ble_eq_true rfl⟩ rfl hl (Nat.le_of_ble_eq_true rfl) ⟨Nat.zero_le _, Nat.zero_le _⟩ dX8_add_30 (fun m3 a3 H locs hp3 hW hS => ?_)
    obtain ⟨hm3, hp3_A15, hoa3⟩ := hp3
    rw [hm3] at hW
    have w_A13 : a3 13 = (64, .inl (cPut 64 A13 x11_6 p1)) := (hoa3 13 rfl).trans w_A13
    have w_A15 : a3 15 = (64, .inl (cPut 64 A15 x11_6 p2)) := hp3_A15
    have w_A17 : a3 17 = (64, .inl A17) := (hoa3 17 rfl).trans w_A17
    have hoffa := offm hoffa hoa3 (by decide +kernel)
    refine lv_aload_n hx hb dX8_add_33 rfl (lv_at hl 0 rfl) ?_
    refine gf8_2 hx hb hG hown hW (o := 11) (ltN hN 11 rfl) gk11 (v := .ref (q 16)) (sh11_2 hsh) gx70 dX8_add_34 ?_
    refine lv_aload_n hx hb dX8_add_37 rfl (lv_at hl 0 rfl) ?_
    refine gf8_6 hx hb hG hown hW (o := 11) (ltN hN 11 rfl) gk11 (v := .int x11_6) h_x11_6 gx1148 dX8_add_38 ?_
    refine lv_iload_n hx hb dX8_add_41 rfl (lv_at hl 3 rfl) ?_
    refine g_Vv (n := 2) hx hb hml hown hG hW hS [.int x11_6, .int p3] (kX2_put (ltN hN 16 rfl) gk16 (ltN hN 17 rfl) gk17 (sh16_0 hsh) (by decide) w_A17 x11_6 p3) (ltN hN 16 rfl) gk16 (by decide) rfl rfl (gd_V gx1177 gx551 gx552 gx47 gx553) rfl rfl (by decide) ⟨Nat.le_of_ble_eq_true rfl, Nat.le_of_ble_eq_true rfl⟩ rfl hl (Nat.le_of_ble_eq_true rfl) ⟨Nat.zero_le _, Nat.zero_le _⟩ dX8_add_42 (fun m4 a4 H locs hp4 hW hS => ?_)
    obtain ⟨hm4, hp4_A17, hoa4⟩ := hp4
    rw [hm4] at hW
    have w_A13 : a4 13 = (64, .inl (cPut 64 A13 x11_6 p1)) := (hoa4 13 rfl).trans w_A13
    have w_A15 : a4 15 = (64, .inl (cPut 64 A15 x11_6 p2)) := (hoa4 15 rfl).trans w_A15
    have w_A17 : a4 17 = (64, .inl (cPut 64 A17 x11_6 p3)) := hp4_A17
    have hoffa := offm hoffa hoa4 (by decide +kernel)
    refine lv_aload_n hx hb dX8_add_45 rfl (lv_at hl 0 rfl) ?_
    refine lv_dup hx hb dX8_add_46 rfl ?_
    refine gf8_6 hx hb hG hown hW (o := 11) (ltN hN 11 rfl) gk11 (v := .int x11_6) h_x11_6 gx1148 dX8_add_47 ?_
    refine lv_iconst (v := 1) hx hb dX8_add_50 (by decide) ?_
    refine lv_iadd hx hb dX8_add_51 ?_
    refine gp8_6 hx hb hG hown hW hS (o := 11) (ltN hN 11 rfl) gk11 (v := (x11_6 + 1)) gx1148 dX8_add_52 (fun m5 H locs hm5 ho5 hW hS => ?_)
    have ho5 := off1 ho5
    have w_x11_6 : m5 1106 = .int (x11_6 + 1) := hm5
    have hoff := offm hoff ho5 (by decide +kernel)
    have hsh := SH.off hsh ho5 (by decide +kernel)
    subst hs0
    exact W.vret hx hb hr (fun t ht hw => ⟨⟨(m5, a4), rfl, ⟨w_x11_6, hoff, w_A13, w_A15, w_A17, hoffa⟩, g_end hW ht hw⟩, hS.F ht⟩) hS.2.2 dX8_add_55 hlocks
-- HealLink$Steps.open (I)V
def fX8_open (x11_6 : Int32) (x11_7 : Int32) (A13 : Nat → Int32) (A15 : Nat → Int32) (A17 : Nat → Int32) (A19 : Nat → Int32) (p1 : Int32) : Int32 × Int32 × (Nat → Int32) × (Nat → Int32) × (Nat → Int32) × (Nat → Int32) := (if (fX8_mayOpen x11_7) = 0 then (x11_6, x11_7, A13, A15, A17, A19) else ((fX8_add x11_6 A13 A15 A17 6 p1 x11_6).1, x11_7 + 1, (fX8_add x11_6 A13 A15 A17 6 p1 x11_6).2.1, (fX8_add x11_6 A13 A15 A17 6 p1 x11_6).2.2.1, (fX8_add x11_6 A13 A15 A17 6 p1 x11_6).2.2.2, (cPut 4 A19 x11_7 x11_6)))
theorem dX8_open_0 : decode cX8_open 0 = .ok (.aload_n 0, 1) := by decide +kernel
theorem dX8_open_1 : decode cX8_open 1 = .ok (.invokevirtual 46, 3) := by decide +kernel
theorem dX8_open_4 : decode cX8_open 4 = .ok (.ifCond .eq 39, 3) := by decide +kernel
theorem dX8_open_7 : decode cX8_open 7 = .ok (.aload_n 0, 1) := by decide +kernel
theorem dX8_open_8 : decode cX8_open 8 = .ok (.getfield 26, 3) := by decide +kernel
theorem dX8_open_11 : decode cX8_open 11 = .ok (.aload_n 0, 1) := by decide +kernel
theorem dX8_open_12 : decode cX8_open 12 = .ok (.getfield 39, 3) := by decide +kernel
theorem dX8_open_15 : decode cX8_open 15 = .ok (.aload_n 0, 1) := by decide +kernel
theorem dX8_open_16 : decode cX8_open 16 = .ok (.getfield 35, 3) := by decide +kernel
theorem dX8_open_19 : decode cX8_open 19 = .ok (.invokevirtual 42, 3) := by decide +kernel
theorem dX8_open_22 : decode cX8_open 22 = .ok (.aload_n 0, 1) := by decide +kernel
theorem dX8_open_23 : decode cX8_open 23 = .ok (.dup, 1) := by decide +kernel
theorem dX8_open_24 : decode cX8_open 24 = .ok (.getfield 39, 3) := by decide +kernel
theorem dX8_open_27 : decode cX8_open 27 = .ok (.iconst 1, 1) := by decide +kernel
theorem dX8_open_28 : decode cX8_open 28 = .ok (.iadd, 1) := by decide +kernel
theorem dX8_open_29 : decode cX8_open 29 = .ok (.putfield 39, 3) := by decide +kernel
theorem dX8_open_32 : decode cX8_open 32 = .ok (.aload_n 0, 1) := by decide +kernel
theorem dX8_open_33 : decode cX8_open 33 = .ok (.bipush 6, 2) := by decide +kernel
theorem dX8_open_35 : decode cX8_open 35 = .ok (.iload_n 1, 1) := by decide +kernel
theorem dX8_open_36 : decode cX8_open 36 = .ok (.aload_n 0, 1) := by decide +kernel
theorem dX8_open_37 : decode cX8_open 37 = .ok (.getfield 35, 3) := by decide +kernel
theorem dX8_open_40 : decode cX8_open 40 = .ok (.invokevirtual 50, 3) := by decide +kernel
theorem dX8_open_43 : decode cX8_open 43 = .ok (.return_, 1) := by decide +kernel
set_option maxHeartbeats 4000000 in
set_option maxRecDepth 100000 in
theorem kX8_open {l : Launch} {D : va_G} {cy : Nat → ClassId} {N : Nat} {q : Nat → Nat} {m0 : Nat → Value} {a0 : Nat → vp_A} {sz : Nat} (hN : 105 ≤ N) (hsh : SH q m0) {x11_6 : Int32} (h_x11_6 : m0 1106 = .int x11_6) {x11_7 : Int32} (h_x11_7 : m0 1107 = .int x11_7) {A13 : Nat → Int32} (h_A13 : a0 13 = (64, .inl A13)) {A15 : Nat → Int32} (h_A15 : a0 15 = (64, .inl A15)) {A17 : Nat → Int32} (h_A17 : a0 17 = (64, .inl A17)) {A19 : Nat → Int32} (h_A19 : a0 19 = (4, .inl A19)) (p1 : Int32) : gMv l yX8_open cX8_open 2 none ({ frames := 2, cells := 0, slots := 0, locals := 45 } : Room) D cy N q m0 a0 sz [.ref (q 11), .int p1] (fun m' a' => m' 1106 = .int ((fX8_open x11_6 x11_7 A13 A15 A17 A19 p1).1) ∧ m' 1107 = .int ((fX8_open x11_6 x11_7 A13 A15 A17 A19 p1).2.1) ∧ (∀ j, nel j [1106, 1107] = false → m' j = m0 j) ∧ a' 13 = (64, .inl ((fX8_open x11_6 x11_7 A13 A15 A17 A19 p1).2.2.1)) ∧ a' 15 = (64, .inl ((fX8_open x11_6 x11_7 A13 A15 A17 A19 p1).2.2.2.1)) ∧ a' 17 = (64, .inl ((fX8_open x11_6 x11_7 A13 A15 A17 A19 p1).2.2.2.2.1)) ∧ a' 19 = (4, .inl ((fX8_open x11_6 x11_7 A13 A15 A17 A19 p1).2.2.2.2.2)) ∧ (∀ j, nel j [13, 15, 17, 19] = false → a' j = a0 j)) := by
  generalize hs0 : fX8_open x11_6 x11_7 A13 A15 A17 A19 p1 = X0
  refine g_ofv (by decide) (Nat.le_of_ble_eq_true rfl) ?_
  intro p e s M args below meth c hx hb hr hG hown hin hlocks hml hW hS ls hl
  unfold fX8_open at hs0
  have hoff : ∀ j, nel j [1106, 1107] = false → m0 j = m0 j := off0
  have hoffa : ∀ j, nel j [13, 15, 17, 19] = false → a0 j = a0 j := off0
  refine lv_aload_n hx hb dX8_open_0 rfl (lv_at hl 0 rfl) ?_
  refine g_ViR (n := 0) hx hb hml hown hG hW hS [] (kX8_mayOpen hN h_x11_7) (ltN hN 11 rfl) gk11 (by decide) rfl rfl (gd_V gx1264 gx1257 gx1258 gx27 gx1259) rfl rfl (by decide) ⟨Nat.le_of_ble_eq_true rfl, Nat.le_of_ble_eq_true rfl⟩ rfl hl (Nat.le_of_ble_eq_true rfl) ⟨Nat.zero_le _, Nat.zero_le _⟩ dX8_open_1 (fun H locs hW hS => ?_)
  refine lv_if_eq (tgt := 43) hx hb dX8_open_4 (by decide) (fun c2 => ?_) (fun c2 => ?_)
  · rw [if_pos c2] at hs0
    subst hs0
    exact W.vret hx hb hr (fun t ht hw => ⟨⟨(m0, a0), rfl, ⟨h_x11_6, h_x11_7, hoff, h_A13, h_A15, h_A17, h_A19, hoffa⟩, g_end hW ht hw⟩, hS.F ht⟩) hS.2.2 dX8_open_43 hlocks
  · rw [if_neg c2] at hs0
    refine lv_aload_n hx hb dX8_open_7 rfl (lv_at hl 0 rfl) ?_
    refine gf8_3 hx hb hG hown hW (o := 11) (ltN hN 11 rfl) gk11 (v := .ref (q 18)) (sh11_3 hsh) gx71 dX8_open_8 ?_
    refine lv_aload_n hx hb dX8_open_11 rfl (lv_at hl 0 rfl) ?_
    refine gf8_7 hx hb hG hown hW (o := 11) (ltN hN 11 rfl) gk11 (v := .int x11_7) h_x11_7 gx1149 dX8_open_12 ?_
    refine lv_aload_n hx hb dX8_open_15 rfl (lv_at hl 0 rfl) ?_
    refine gf8_6 hx hb hG hown hW (o := 11) (ltN hN 11 rfl) gk11 (v := .int x11_6) h_x11_6 gx1148 dX8_open_16 ?_
    refine g_Vv (n := 2) hx hb hml hown hG hW hS [.int x11_7, .int x11_6] (kX2_put (ltN hN 18 rfl) gk18 (ltN hN 19 rfl) gk19 (sh18_0 hsh) (by decide) h_A19 x11_7 x11_6) (ltN hN 18 rfl) gk18 (by decide) rfl rfl (gd_V gx1177 gx551 gx552 gx47 gx553) rfl rfl (by decide) ⟨Nat.le_of_ble_eq_true rfl, Nat.le_of_ble_eq_true rfl⟩ rfl hl (Nat.le_of_ble_eq_true rfl) ⟨Nat.zero_le _, Nat.zero_le _⟩ dX8_open_19 (fun m3 a3 H locs hp3 hW hS => ?_)
    obtain ⟨hm3, hp3_A19, hoa3⟩ := hp3
    rw [hm3] at hW
    have w_A13 : a3 13 = (64, .inl A13) := (hoa3 13 rfl).trans h_A13
    have w_A15 : a3 15 = (64, .inl A15) := (hoa3 15 rfl).trans h_A15
    have w_A17 : a3 17 = (64, .inl A17) := (hoa3 17 rfl).trans h_A17
    have w_A19 : a3 19 = (4, .inl (cPut 4 A19 x11_7 x11_6)) := hp3_A19
    have hoffa := offm hoffa hoa3 (by decide +kernel)
    refine lv_aload_n hx hb dX8_open_22 rfl (lv_at hl 0 rfl) ?_
    refine lv_dup hx hb dX8_open_23 rfl ?_
    refine gf8_7 hx hb hG hown hW (o := 11) (ltN hN 11 rfl) gk11 (v := .int x11_7) h_x11_7 gx1149 dX8_open_24 ?_
    refine lv_iconst (v := 1) hx hb dX8_open_27 (by decide) ?_
    refine lv_iadd hx hb dX8_open_28 ?_
    refine gp8_7 hx hb hG hown hW hS (o := 11) (ltN hN 11 rfl) gk11 (v := (x11_7 + 1)) gx1149 dX8_open_29 (fun m4 H locs hm4 ho4 hW hS => ?_)
    have ho4 := off1 ho4
    have w_x11_6 : m4 1106 = .int x11_6 := (ho4 1106 rfl).trans h_x11_6
    have w_x11_7 : m4 1107 = .int (x11_7 + 1) := hm4
    have hoff := offm hoff ho4 (by decide +kernel)
    have hsh := SH.off hsh ho4 (by decide +kernel)
    refine lv_aload_n hx hb dX8_open_32 rfl (lv_at hl 0 rfl) ?_
    refine lv_bipush (v := 6) hx hb dX8_open_33 (by decide) ?_
    refine lv_iload_n hx hb dX8_open_35 rfl (lv_at hl 1 rfl) ?_
    refine lv_aload_n hx hb dX8_open_36 rfl (lv_at hl 0 rfl) ?_
    refine gf8_6 hx hb hG hown hW (o := 11) (ltN hN 11 rfl) gk11 (v := .int x11_6) w_x11_6 gx1148 dX8_open_37 ?_
    refine g_Vv (n := 3) hx hb hml hown hG hW hS [.int 6, .int p1, .int x11_6] (kX8_add hN hsh w_x11_6 w_A13 w_A15 w_A17 6 p1 x11_6) (ltN hN 11 rfl) gk11 (by decide) rfl rfl (gd_V gx1178 gx1179 gx1180 gx27 gx1181) rfl rfl (by decide) ⟨Nat.le_of_ble_eq_true rfl, Nat.le_of_ble_eq_true rfl⟩ rfl hl (Nat.le_of_ble_eq_true rfl) ⟨Nat.zero_le _, Nat.zero_le _⟩ dX8_open_40 (fun m5 a5 H locs hp5 hW hS => ?_)
    obtain ⟨hp5_x11_6, ho5, hp5_A13, hp5_A15, hp5_A17, hoa5⟩ := hp5
    have w_x11_6 : m5 1106 = .int ((fX8_add x11_6 A13 A15 A17 6 p1 x11_6).1) := hp5_x11_6
    have w_x11_7 : m5 1107 = .int (x11_7 + 1) := (ho5 1107 rfl).trans w_x11_7
    have hoff := offm hoff ho5 (by decide +kernel)
    have hsh := SH.off hsh ho5 (by decide +kernel)
    have w_A13 : a5 13 = (64, .inl ((fX8_add x11_6 A13 A15 A17 6 p1 x11_6).2.1)) := hp5_A13
    have w_A15 : a5 15 = (64, .inl ((fX8_add x11_6 A13 A15 A17 6 p1 x11_6).2.2.1)) := hp5_A15
    have w_A17 : a5 17 = (64, .inl ((fX8_add x11_6 A13 A15 A17 6 p1 x11_6).2.2.2)) := hp5_A17
    have w_A19 : a5 19 = (4, .inl (cPut 4 A19 x11_7 x11_6)) := (hoa5 19 rfl).trans w_A19
    have hoffa := offm hoffa hoa5 (by decide +kernel)
    subst hs0
    exact W.vret hx hb hr (fun t ht hw => ⟨⟨(m5, a5), rfl, ⟨w_x11_6, w_x11_7, hoff, w_A13, w_A15, w_A17, w_A19, hoffa⟩, g_end hW ht hw⟩, hS.F ht⟩) hS.2.2 dX8_open_43 hlocks
-- HealLink$Steps.close ()V
def fX8_close (A19 : Nat → Int32) (x11_6 : Int32) (x11_7 : Int32) (A13 : Nat → Int32) (A15 : Nat → Int32) (A17 : Nat → Int32) : Int32 × Int32 × (Nat → Int32) × (Nat → Int32) × (Nat → Int32) := (if (fX8_mayClose x11_7) = 0 then (x11_6, x11_7, A13, A15, A17) else ((fX8_add x11_6 A13 A15 (cPut 64 A17 (cAt 4 A19 (x11_7 - 1)) x11_6) 7 (cAt 4 A19 (x11_7 - 1)) 0).1, x11_7 - 1, (fX8_add x11_6 A13 A15 (cPut 64 A17 (cAt 4 A19 (x11_7 - 1)) x11_6) 7 (cAt 4 A19 (x11_7 - 1)) 0).2.1, (fX8_add x11_6 A13 A15 (cPut 64 A17 (cAt 4 A19 (x11_7 - 1)) x11_6) 7 (cAt 4 A19 (x11_7 - 1)) 0).2.2.1, (fX8_add x11_6 A13 A15 (cPut 64 A17 (cAt 4 A19 (x11_7 - 1)) x11_6) 7 (cAt 4 A19 (x11_7 - 1)) 0).2.2.2))
theorem dX8_close_0 : decode cX8_close 0 = .ok (.aload_n 0, 1) := by decide +kernel
theorem dX8_close_1 : decode cX8_close 1 = .ok (.invokevirtual 54, 3) := by decide +kernel
theorem dX8_close_4 : decode cX8_close 4 = .ok (.ifCond .eq 53, 3) := by decide +kernel
theorem dX8_close_7 : decode cX8_close 7 = .ok (.aload_n 0, 1) := by decide +kernel
theorem dX8_close_8 : decode cX8_close 8 = .ok (.dup, 1) := by decide +kernel
theorem dX8_close_9 : decode cX8_close 9 = .ok (.getfield 39, 3) := by decide +kernel
theorem dX8_close_12 : decode cX8_close 12 = .ok (.iconst 1, 1) := by decide +kernel
theorem dX8_close_13 : decode cX8_close 13 = .ok (.isub, 1) := by decide +kernel
theorem dX8_close_14 : decode cX8_close 14 = .ok (.putfield 39, 3) := by decide +kernel
theorem dX8_close_17 : decode cX8_close 17 = .ok (.aload_n 0, 1) := by decide +kernel
theorem dX8_close_18 : decode cX8_close 18 = .ok (.getfield 23, 3) := by decide +kernel
theorem dX8_close_21 : decode cX8_close 21 = .ok (.aload_n 0, 1) := by decide +kernel
theorem dX8_close_22 : decode cX8_close 22 = .ok (.getfield 26, 3) := by decide +kernel
theorem dX8_close_25 : decode cX8_close 25 = .ok (.aload_n 0, 1) := by decide +kernel
theorem dX8_close_26 : decode cX8_close 26 = .ok (.getfield 39, 3) := by decide +kernel
theorem dX8_close_29 : decode cX8_close 29 = .ok (.invokevirtual 57, 3) := by decide +kernel
theorem dX8_close_32 : decode cX8_close 32 = .ok (.aload_n 0, 1) := by decide +kernel
theorem dX8_close_33 : decode cX8_close 33 = .ok (.getfield 35, 3) := by decide +kernel
theorem dX8_close_36 : decode cX8_close 36 = .ok (.invokevirtual 42, 3) := by decide +kernel
theorem dX8_close_39 : decode cX8_close 39 = .ok (.aload_n 0, 1) := by decide +kernel
theorem dX8_close_40 : decode cX8_close 40 = .ok (.bipush 7, 2) := by decide +kernel
theorem dX8_close_42 : decode cX8_close 42 = .ok (.aload_n 0, 1) := by decide +kernel
theorem dX8_close_43 : decode cX8_close 43 = .ok (.getfield 26, 3) := by decide +kernel
theorem dX8_close_46 : decode cX8_close 46 = .ok (.aload_n 0, 1) := by decide +kernel
theorem dX8_close_47 : decode cX8_close 47 = .ok (.getfield 39, 3) := by decide +kernel
theorem dX8_close_50 : decode cX8_close 50 = .ok (.invokevirtual 57, 3) := by decide +kernel
theorem dX8_close_53 : decode cX8_close 53 = .ok (.iconst 0, 1) := by decide +kernel
theorem dX8_close_54 : decode cX8_close 54 = .ok (.invokevirtual 50, 3) := by decide +kernel
theorem dX8_close_57 : decode cX8_close 57 = .ok (.return_, 1) := by decide +kernel
set_option maxHeartbeats 4000000 in
set_option maxRecDepth 100000 in
theorem kX8_close {l : Launch} {D : va_G} {cy : Nat → ClassId} {N : Nat} {q : Nat → Nat} {m0 : Nat → Value} {a0 : Nat → vp_A} {sz : Nat} (hN : 105 ≤ N) (hsh : SH q m0) {A19 : Nat → Int32} (h_A19 : a0 19 = (4, .inl A19)) {x11_6 : Int32} (h_x11_6 : m0 1106 = .int x11_6) {x11_7 : Int32} (h_x11_7 : m0 1107 = .int x11_7) {A13 : Nat → Int32} (h_A13 : a0 13 = (64, .inl A13)) {A15 : Nat → Int32} (h_A15 : a0 15 = (64, .inl A15)) {A17 : Nat → Int32} (h_A17 : a0 17 = (64, .inl A17)) : gMv l yX8_close cX8_close 1 none ({ frames := 2, cells := 0, slots := 0, locals := 45 } : Room) D cy N q m0 a0 sz [.ref (q 11)] (fun m' a' => m' 1106 = .int ((fX8_close A19 x11_6 x11_7 A13 A15 A17).1) ∧ m' 1107 = .int ((fX8_close A19 x11_6 x11_7 A13 A15 A17).2.1) ∧ (∀ j, nel j [1106, 1107] = false → m' j = m0 j) ∧ a' 13 = (64, .inl ((fX8_close A19 x11_6 x11_7 A13 A15 A17).2.2.1)) ∧ a' 15 = (64, .inl ((fX8_close A19 x11_6 x11_7 A13 A15 A17).2.2.2.1)) ∧ a' 17 = (64, .inl ((fX8_close A19 x11_6 x11_7 A13 A15 A17).2.2.2.2)) ∧ (∀ j, nel j [13, 15, 17] = false → a' j = a0 j)) := by
  generalize hs0 : fX8_close A19 x11_6 x11_7 A13 A15 A17 = X0
  refine g_ofv (by decide) (Nat.le_of_ble_eq_true rfl) ?_
  intro p e s M args below meth c hx hb hr hG hown hin hlocks hml hW hS ls hl
  unfold fX8_close at hs0
  have hoff : ∀ j, nel j [1106, 1107] = false → m0 j = m0 j := off0
  have hoffa : ∀ j, nel j [13, 15, 17] = false → a0 j = a0 j := off0
  refine lv_aload_n hx hb dX8_close_0 rfl (lv_at hl 0 rfl) ?_
  refine g_ViR (n := 0) hx hb hml hown hG hW hS [] (kX8_mayClose hN h_x11_7) (ltN hN 11 rfl) gk11 (by decide) rfl rfl (gd_V gx1175 gx1164 gx1165 gx27 gx1166) rfl rfl (by decide) ⟨Nat.le_of_ble_eq_true rfl, Nat.le_of_ble_eq_true rfl⟩ rfl hl (Nat.le_of_ble_eq_true rfl) ⟨Nat.zero_le _, Nat.zero_le _⟩ dX8_close_1 (fun H locs hW hS => ?_)
  refine lv_if_eq (tgt := 57) hx hb dX8_close_4 (by decide) (fun c2 => ?_) (fun c2 => ?_)
  · rw [if_pos c2] at hs0
    subst hs0
    exact W.vret hx hb hr (fun t ht hw => ⟨⟨(m0, a0), rfl, ⟨h_x11_6, h_x11_7, hoff, h_A13, h_A15, h_A17, hoffa⟩, g_end hW ht hw⟩, hS.F ht⟩) hS.2.2 dX8_close_57 hlocks
  · rw [if_neg c2] at hs0
    refine lv_aload_n hx hb dX8_close_7 rfl (lv_at hl 0 rfl) ?_
    refine lv_dup hx hb dX8_close_8 rfl ?_
    refine gf8_7 hx hb hG hown hW (o := 11) (ltN hN 11 rfl) gk11 (v := .int x11_7) h_x11_7 gx1149 dX8_close_9 ?_
    refine lv_iconst (v := 1) hx hb dX8_close_12 (by decide) ?_
    refine lv_isub hx hb dX8_close_13 ?_
    refine gp8_7 hx hb hG hown hW hS (o := 11) (ltN hN 11 rfl) gk11 (v := (x11_7 - 1)) gx1149 dX8_close_14 (fun m3 H locs hm3 ho3 hW hS => ?_)
    have ho3 := off1 ho3
    have w_x11_6 : m3 1106 = .int x11_6 := (ho3 1106 rfl).trans h_x11_6
    have w_x11_7 : m3 1107 = .int (x11_7 - 1) := hm3
    have hoff := offm hoff ho3 (by decide +kernel)
    have hsh := SH.off hsh ho3 (by decide +kernel)
    refine lv_aload_n hx hb dX8_close_17 rfl (lv_at hl 0 rfl) ?_
    refine gf8_2 hx hb hG hown hW (o := 11) (ltN hN 11 rfl) gk11 (v := .ref (q 16)) (sh11_2 hsh) gx70 dX8_close_18 ?_
    refine lv_aload_n hx hb dX8_close_21 rfl (lv_at hl 0 rfl) ?_
    refine gf8_3 hx hb hG hown hW (o := 11) (ltN hN 11 rfl) gk11 (v := .ref (q 18)) (sh11_3 hsh) gx71 dX8_close_22 ?_
    refine lv_aload_n hx hb dX8_close_25 rfl (lv_at hl 0 rfl) ?_
    refine gf8_7 hx hb hG hown hW (o := 11) (ltN hN 11 rfl) gk11 (v := .int (x11_7 - 1)) w_x11_7 gx1149 dX8_close_26 ?_
    refine g_ViR (n := 1) hx hb hml hown hG hW hS [.int (x11_7 - 1)] (kX2_at (ltN hN 18 rfl) gk18 (ltN hN 19 rfl) gk19 (sh18_0 hsh) (by decide) ((hoffa 19 rfl).trans h_A19) (x11_7 - 1)) (ltN hN 18 rfl) gk18 (by decide) rfl rfl (gd_V gx1176 gx564 gx565 gx47 gx566) rfl rfl (by decide) ⟨Nat.le_of_ble_eq_true rfl, Nat.le_of_ble_eq_true rfl⟩ rfl hl (Nat.le_of_ble_eq_true rfl) ⟨Nat.zero_le _, Nat.zero_le _⟩ dX8_close_29 (fun H locs hW hS => ?_)
    refine lv_aload_n hx hb dX8_close_32 rfl (lv_at hl 0 rfl) ?_
    refine gf8_6 hx hb hG hown hW (o := 11) (ltN hN 11 rfl) gk11 (v := .int x11_6) w_x11_6 gx1148 dX8_close_33 ?_
    refine g_Vv (n := 2) hx hb hml hown hG hW hS [.int (cAt 4 A19 (x11_7 - 1)), .int x11_6] (kX2_put (ltN hN 16 rfl) gk16 (ltN hN 17 rfl) gk17 (sh16_0 hsh) (by decide) h_A17 (cAt 4 A19 (x11_7 - 1)) x11_6) (ltN hN 16 rfl) gk16 (by decide) rfl rfl (gd_V gx1177 gx551 gx552 gx47 gx553) rfl rfl (by decide) ⟨Nat.le_of_ble_eq_true rfl, Nat.le_of_ble_eq_true rfl⟩ rfl hl (Nat.le_of_ble_eq_true rfl) ⟨Nat.zero_le _, Nat.zero_le _⟩ dX8_close_36 (fun m5 a5 H locs hp5 hW hS => ?_)
    obtain ⟨hm5, hp5_A17, hoa5⟩ := hp5
    rw [hm5] at hW
    have w_A13 : a5 13 = (64, .inl A13) := (hoa5 13 rfl).trans h_A13
    have w_A15 : a5 15 = (64, .inl A15) := (hoa5 15 rfl).trans h_A15
    have w_A17 : a5 17 = (64, .inl (cPut 64 A17 (cAt 4 A19 (x11_7 - 1)) x11_6)) := hp5_A17
    have hoffa := offm hoffa hoa5 (by decide +kernel)
    refine lv_aload_n hx hb dX8_close_39 rfl (lv_at hl 0 rfl) ?_
    refine lv_bipush (v := 7) hx hb dX8_close_40 (by decide) ?_
    refine lv_aload_n hx hb dX8_close_42 rfl (lv_at hl 0 rfl) ?_
    refine gf8_3 hx hb hG hown hW (o := 11) (ltN hN 11 rfl) gk11 (v := .ref (q 18)) (sh11_3 hsh) gx71 dX8_close_43 ?_
    refine lv_aload_n hx hb dX8_close_46 rfl (lv_at hl 0 rfl) ?_
    refine gf8_7 hx hb hG hown hW (o := 11) (ltN hN 11 rfl) gk11 (v := .int (x11_7 - 1)) w_x11_7 gx1149 dX8_close_47 ?_
    refine g_ViR (n := 1) hx hb hml hown hG hW hS [.int (x11_7 - 1)] (kX2_at (ltN hN 18 rfl) gk18 (ltN hN 19 rfl) gk19 (sh18_0 hsh) (by decide) ((hoffa 19 rfl).trans h_A19) (x11_7 - 1)) (ltN hN 18 rfl) gk18 (by decide) rfl rfl (gd_V gx1176 gx564 gx565 gx47 gx566) rfl rfl (by decide) ⟨Nat.le_of_ble_eq_true rfl, Nat.le_of_ble_eq_true rfl⟩ rfl hl (Nat.le_of_ble_eq_true rfl) ⟨Nat.zero_le _, Nat.zero_le _⟩ dX8_close_50 (fun H locs hW hS => ?_)
    refine lv_iconst (v := 0) hx hb dX8_close_53 (by decide) ?_
    refine g_Vv (n := 3) hx hb hml hown hG hW hS [.int 7, .int (cAt 4 A19 (x11_7 - 1)), .int 0] (kX8_add hN hsh w_x11_6 w_A13 w_A15 w_A17 7 (cAt 4 A19 (x11_7 - 1)) 0) (ltN hN 11 rfl) gk11 (by decide) rfl rfl (gd_V gx1178 gx1179 gx1180 gx27 gx1181) rfl rfl (by decide) ⟨Nat.le_of_ble_eq_true rfl, Nat.le_of_ble_eq_true rfl⟩ rfl hl (Nat.le_of_ble_eq_true rfl) ⟨Nat.zero_le _, Nat.zero_le _⟩ dX8_close_54 (fun m7 a7 H locs hp7 hW hS => ?_)
    obtain ⟨hp7_x11_6, ho7, hp7_A13, hp7_A15, hp7_A17, hoa7⟩ := hp7
    have w_x11_6 : m7 1106 = .int ((fX8_add x11_6 A13 A15 (cPut 64 A17 (cAt 4 A19 (x11_7 - 1)) x11_6) 7 (cAt 4 A19 (x11_7 - 1)) 0).1) := hp7_x11_6
    have w_x11_7 : m7 1107 = .int (x11_7 - 1) := (ho7 1107 rfl).trans w_x11_7
    have hoff := offm hoff ho7 (by decide +kernel)
    have hsh := SH.off hsh ho7 (by decide +kernel)
    have w_A13 : a7 13 = (64, .inl ((fX8_add x11_6 A13 A15 (cPut 64 A17 (cAt 4 A19 (x11_7 - 1)) x11_6) 7 (cAt 4 A19 (x11_7 - 1)) 0).2.1)) := hp7_A13
    have w_A15 : a7 15 = (64, .inl ((fX8_add x11_6 A13 A15 (cPut 64 A17 (cAt 4 A19 (x11_7 - 1)) x11_6) 7 (cAt 4 A19 (x11_7 - 1)) 0).2.2.1)) := hp7_A15
    have w_A17 : a7 17 = (64, .inl ((fX8_add x11_6 A13 A15 (cPut 64 A17 (cAt 4 A19 (x11_7 - 1)) x11_6) 7 (cAt 4 A19 (x11_7 - 1)) 0).2.2.2)) := hp7_A17
    have hoffa := offm hoffa hoa7 (by decide +kernel)
    subst hs0
    exact W.vret hx hb hr (fun t ht hw => ⟨⟨(m7, a7), rfl, ⟨w_x11_6, w_x11_7, hoff, w_A13, w_A15, w_A17, hoffa⟩, g_end hW ht hw⟩, hS.F ht⟩) hS.2.2 dX8_close_57 hlocks
-- HealLink$Steps.rewind ()V
def fX8_rewind (x11_7 : Int32) (x11_8 : Int32) : Int32 × Int32 := (0, 0)
theorem dX8_rewind_0 : decode cX8_rewind 0 = .ok (.aload_n 0, 1) := by decide +kernel
theorem dX8_rewind_1 : decode cX8_rewind 1 = .ok (.iconst 0, 1) := by decide +kernel
theorem dX8_rewind_2 : decode cX8_rewind 2 = .ok (.putfield 61, 3) := by decide +kernel
theorem dX8_rewind_5 : decode cX8_rewind 5 = .ok (.aload_n 0, 1) := by decide +kernel
theorem dX8_rewind_6 : decode cX8_rewind 6 = .ok (.iconst 0, 1) := by decide +kernel
theorem dX8_rewind_7 : decode cX8_rewind 7 = .ok (.putfield 39, 3) := by decide +kernel
theorem dX8_rewind_10 : decode cX8_rewind 10 = .ok (.return_, 1) := by decide +kernel
set_option maxHeartbeats 4000000 in
set_option maxRecDepth 100000 in
theorem kX8_rewind {l : Launch} {D : va_G} {cy : Nat → ClassId} {N : Nat} {q : Nat → Nat} {m0 : Nat → Value} {a0 : Nat → vp_A} {sz : Nat} (hN : 105 ≤ N) (hsh : SH q m0) {x11_7 : Int32} (h_x11_7 : m0 1107 = .int x11_7) {x11_8 : Int32} (h_x11_8 : m0 1108 = .int x11_8) : gMv l yX8_rewind cX8_rewind 1 none ({ frames := 0, cells := 0, slots := 0, locals := 0 } : Room) D cy N q m0 a0 sz [.ref (q 11)] (fun m' a' => m' 1107 = .int ((fX8_rewind x11_7 x11_8).1) ∧ m' 1108 = .int ((fX8_rewind x11_7 x11_8).2) ∧ (∀ j, nel j [1107, 1108] = false → m' j = m0 j) ∧ a' = a0) := by
  generalize hs0 : fX8_rewind x11_7 x11_8 = X0
  refine g_ofv (by decide) (Nat.le_of_ble_eq_true rfl) ?_
  intro p e s M args below meth c hx hb hr hG hown hin hlocks hml hW hS ls hl
  unfold fX8_rewind at hs0
  have hoff : ∀ j, nel j [1107, 1108] = false → m0 j = m0 j := off0
  refine lv_aload_n hx hb dX8_rewind_0 rfl (lv_at hl 0 rfl) ?_
  refine lv_iconst (v := 0) hx hb dX8_rewind_1 (by decide) ?_
  refine gp8_8 hx hb hG hown hW hS (o := 11) (ltN hN 11 rfl) gk11 (v := 0) gx1274 dX8_rewind_2 (fun m1 H locs hm1 ho1 hW hS => ?_)
  have ho1 := off1 ho1
  have w_x11_7 : m1 1107 = .int x11_7 := (ho1 1107 rfl).trans h_x11_7
  have w_x11_8 : m1 1108 = .int 0 := hm1
  have hoff := offm hoff ho1 (by decide +kernel)
  have hsh := SH.off hsh ho1 (by decide +kernel)
  refine lv_aload_n hx hb dX8_rewind_5 rfl (lv_at hl 0 rfl) ?_
  refine lv_iconst (v := 0) hx hb dX8_rewind_6 (by decide) ?_
  refine gp8_7 hx hb hG hown hW hS (o := 11) (ltN hN 11 rfl) gk11 (v := 0) gx1149 dX8_rewind_7 (fun m2 H locs hm2 ho2 hW hS => ?_)
  have ho2 := off1 ho2
  have w_x11_7 : m2 1107 = .int 0 := hm2
  have w_x11_8 : m2 1108 = .int 0 := (ho2 1108 rfl).trans w_x11_8
  have hoff := offm hoff ho2 (by decide +kernel)
  have hsh := SH.off hsh ho2 (by decide +kernel)
  subst hs0
  exact W.vret hx hb hr (fun t ht hw => ⟨⟨(m2, a0), rfl, ⟨w_x11_7, w_x11_8, hoff, rfl⟩, g_end hW ht hw⟩, hS.F ht⟩) hS.2.2 dX8_rewind_10 hlocks
-- HealLink$Steps.enter (I)V
def fX8_enter_J78 (A15 : Nat → Int32) (A17 : Nat → Int32) (x11_7j3 : Int32) (x11_8j3 : Int32) (A21j3 : Nat → Int32) (A23j3 : Nat → Int32) : Int32 × Int32 × (Nat → Int32) × (Nat → Int32) := (x11_7j3, (cAt 64 A17 x11_8j3) + 1, A21j3, A23j3)
def fX8_enter (A15 : Nat → Int32) (A17 : Nat → Int32) (x11_7 : Int32) (x11_8 : Int32) (A21 : Nat → Int32) (A23 : Nat → Int32) (p1 : Int32) : Int32 × Int32 × (Nat → Int32) × (Nat → Int32) := (if (cAt 64 A15 x11_8) ≤ 0 then fX8_enter_J78 A15 A17 x11_7 x11_8 A21 A23 else (if (fX8_mayOpen x11_7) = 0 then fX8_enter_J78 A15 A17 x11_7 x11_8 A21 A23 else (x11_7 + 1, x11_8 + 1, (cPut 4 A21 x11_7 (cAt 64 A15 x11_8)), (cPut 4 A23 x11_7 p1))))
theorem dX8_enter_0 : decode cX8_enter 0 = .ok (.aload_n 0, 1) := by decide +kernel
theorem dX8_enter_1 : decode cX8_enter 1 = .ok (.getfield 20, 3) := by decide +kernel
theorem dX8_enter_4 : decode cX8_enter 4 = .ok (.aload_n 0, 1) := by decide +kernel
theorem dX8_enter_5 : decode cX8_enter 5 = .ok (.getfield 61, 3) := by decide +kernel
theorem dX8_enter_8 : decode cX8_enter 8 = .ok (.invokevirtual 57, 3) := by decide +kernel
theorem dX8_enter_11 : decode cX8_enter 11 = .ok (.ifCond .le 67, 3) := by decide +kernel
theorem dX8_enter_14 : decode cX8_enter 14 = .ok (.aload_n 0, 1) := by decide +kernel
theorem dX8_enter_15 : decode cX8_enter 15 = .ok (.invokevirtual 46, 3) := by decide +kernel
theorem dX8_enter_18 : decode cX8_enter 18 = .ok (.ifCond .eq 60, 3) := by decide +kernel
theorem dX8_enter_21 : decode cX8_enter 21 = .ok (.aload_n 0, 1) := by decide +kernel
theorem dX8_enter_22 : decode cX8_enter 22 = .ok (.getfield 29, 3) := by decide +kernel
theorem dX8_enter_25 : decode cX8_enter 25 = .ok (.aload_n 0, 1) := by decide +kernel
theorem dX8_enter_26 : decode cX8_enter 26 = .ok (.getfield 39, 3) := by decide +kernel
theorem dX8_enter_29 : decode cX8_enter 29 = .ok (.aload_n 0, 1) := by decide +kernel
theorem dX8_enter_30 : decode cX8_enter 30 = .ok (.getfield 20, 3) := by decide +kernel
theorem dX8_enter_33 : decode cX8_enter 33 = .ok (.aload_n 0, 1) := by decide +kernel
theorem dX8_enter_34 : decode cX8_enter 34 = .ok (.getfield 61, 3) := by decide +kernel
theorem dX8_enter_37 : decode cX8_enter 37 = .ok (.invokevirtual 57, 3) := by decide +kernel
theorem dX8_enter_40 : decode cX8_enter 40 = .ok (.invokevirtual 42, 3) := by decide +kernel
theorem dX8_enter_43 : decode cX8_enter 43 = .ok (.aload_n 0, 1) := by decide +kernel
theorem dX8_enter_44 : decode cX8_enter 44 = .ok (.getfield 32, 3) := by decide +kernel
theorem dX8_enter_47 : decode cX8_enter 47 = .ok (.aload_n 0, 1) := by decide +kernel
theorem dX8_enter_48 : decode cX8_enter 48 = .ok (.getfield 39, 3) := by decide +kernel
theorem dX8_enter_51 : decode cX8_enter 51 = .ok (.iload_n 1, 1) := by decide +kernel
theorem dX8_enter_52 : decode cX8_enter 52 = .ok (.invokevirtual 42, 3) := by decide +kernel
theorem dX8_enter_55 : decode cX8_enter 55 = .ok (.aload_n 0, 1) := by decide +kernel
theorem dX8_enter_56 : decode cX8_enter 56 = .ok (.dup, 1) := by decide +kernel
theorem dX8_enter_57 : decode cX8_enter 57 = .ok (.getfield 39, 3) := by decide +kernel
theorem dX8_enter_60 : decode cX8_enter 60 = .ok (.iconst 1, 1) := by decide +kernel
theorem dX8_enter_61 : decode cX8_enter 61 = .ok (.iadd, 1) := by decide +kernel
theorem dX8_enter_62 : decode cX8_enter 62 = .ok (.putfield 39, 3) := by decide +kernel
theorem dX8_enter_65 : decode cX8_enter 65 = .ok (.aload_n 0, 1) := by decide +kernel
theorem dX8_enter_66 : decode cX8_enter 66 = .ok (.dup, 1) := by decide +kernel
theorem dX8_enter_67 : decode cX8_enter 67 = .ok (.getfield 61, 3) := by decide +kernel
theorem dX8_enter_70 : decode cX8_enter 70 = .ok (.iconst 1, 1) := by decide +kernel
theorem dX8_enter_71 : decode cX8_enter 71 = .ok (.iadd, 1) := by decide +kernel
theorem dX8_enter_72 : decode cX8_enter 72 = .ok (.putfield 61, 3) := by decide +kernel
theorem dX8_enter_75 : decode cX8_enter 75 = .ok (.goto 20, 3) := by decide +kernel
theorem dX8_enter_78 : decode cX8_enter 78 = .ok (.aload_n 0, 1) := by decide +kernel
theorem dX8_enter_79 : decode cX8_enter 79 = .ok (.aload_n 0, 1) := by decide +kernel
theorem dX8_enter_80 : decode cX8_enter 80 = .ok (.getfield 23, 3) := by decide +kernel
theorem dX8_enter_83 : decode cX8_enter 83 = .ok (.aload_n 0, 1) := by decide +kernel
theorem dX8_enter_84 : decode cX8_enter 84 = .ok (.getfield 61, 3) := by decide +kernel
theorem dX8_enter_87 : decode cX8_enter 87 = .ok (.invokevirtual 57, 3) := by decide +kernel
theorem dX8_enter_90 : decode cX8_enter 90 = .ok (.iconst 1, 1) := by decide +kernel
theorem dX8_enter_91 : decode cX8_enter 91 = .ok (.iadd, 1) := by decide +kernel
theorem dX8_enter_92 : decode cX8_enter 92 = .ok (.putfield 61, 3) := by decide +kernel
theorem dX8_enter_95 : decode cX8_enter 95 = .ok (.return_, 1) := by decide +kernel
set_option maxHeartbeats 4000000 in
set_option maxRecDepth 100000 in
theorem kX8_enter {l : Launch} {D : va_G} {cy : Nat → ClassId} {N : Nat} {q : Nat → Nat} {m0 : Nat → Value} {a0 : Nat → vp_A} {sz : Nat} (hN : 105 ≤ N) (hsh : SH q m0) {A15 : Nat → Int32} (h_A15 : a0 15 = (64, .inl A15)) {A17 : Nat → Int32} (h_A17 : a0 17 = (64, .inl A17)) {x11_7 : Int32} (h_x11_7 : m0 1107 = .int x11_7) {x11_8 : Int32} (h_x11_8 : m0 1108 = .int x11_8) {A21 : Nat → Int32} (h_A21 : a0 21 = (4, .inl A21)) {A23 : Nat → Int32} (h_A23 : a0 23 = (4, .inl A23)) (p1 : Int32) : gMv l yX8_enter cX8_enter 2 none ({ frames := 1, cells := 0, slots := 0, locals := 22 } : Room) D cy N q m0 a0 sz [.ref (q 11), .int p1] (fun m' a' => m' 1107 = .int ((fX8_enter A15 A17 x11_7 x11_8 A21 A23 p1).1) ∧ m' 1108 = .int ((fX8_enter A15 A17 x11_7 x11_8 A21 A23 p1).2.1) ∧ (∀ j, nel j [1107, 1108] = false → m' j = m0 j) ∧ a' 21 = (4, .inl ((fX8_enter A15 A17 x11_7 x11_8 A21 A23 p1).2.2.1)) ∧ a' 23 = (4, .inl ((fX8_enter A15 A17 x11_7 x11_8 A21 A23 p1).2.2.2)) ∧ (∀ j, nel j [21, 23] = false → a' j = a0 j)) := by
  generalize hs0 : fX8_enter A15 A17 x11_7 x11_8 A21 A23 p1 = X0
  refine g_ofv (by decide) (Nat.le_of_ble_eq_true rfl) ?_
  intro p e s M args below meth c hx hb hr hG hown hin hlocks hml hW hS ls hl
  unfold fX8_enter at hs0
  have hoff : ∀ j, nel j [1107, 1108] = false → m0 j = m0 j := off0
  have hoffa : ∀ j, nel j [21, 23] = false → a0 j = a0 j := off0
  have hJ78_0 : ∀ (x11_7j3 : Int32) (x11_8j3 : Int32) (A21j3 : Nat → Int32) (A23j3 : Nat → Int32) (m : Nat → Value) (a : Nat → vp_A) (H : Heap) (locs : List Loc) (w_x11_7 : m 1107 = .int x11_7j3) (w_x11_8 : m 1108 = .int x11_8j3) (hoff : ∀ j, nel j [1107, 1108] = false → m j = m0 j) (hsh : SH q m) (w_A21 : a 21 = (4, .inl A21j3)) (w_A23 : a 23 = (4, .inl A23j3)) (hoffa : ∀ j, nel j [21, 23] = false → a j = a0 j) (ls : Array Slot) (hl : lv_has ls 2 [(0, .ref (q 11))]) (hs0 : fX8_enter_J78 A15 A17 x11_7j3 x11_8j3 A21j3 A23j3 = X0) (hW : GW D cy (gA N q s.heap.size) N q m a s H) (hS : va_S (gA N q s.heap.size) s.heap H locs), W p l e ({ frames := 1, cells := 0, slots := 0, locals := 22 } : Room) s M args below meth c H locs 0 0 (MQ below (va_Qv (fun (u : (Nat → Value) × (Nat → vp_A)) => u.1 1107 = .int (X0.1) ∧ u.1 1108 = .int (X0.2.1) ∧ (∀ j, nel j [1107, 1108] = false → u.1 j = m0 j) ∧ u.2 21 = (4, .inl (X0.2.2.1)) ∧ u.2 23 = (4, .inl (X0.2.2.2)) ∧ (∀ j, nel j [21, 23] = false → u.2 j = a0 j)) (gB D cy N q s.heap.size) (gA N q s.heap.size)) args s 0 0 (gA N q s.heap.size)) (F0 M 78 ls []) := by
    intro x11_7j3 x11_8j3 A21j3 A23j3 m a H locs w_x11_7 w_x11_8 hoff hsh w_A21 w_A23 hoffa ls hl hs0 hW hS
    unfold fX8_enter_J78 at hs0
    refine lv_aload_n hx hb dX8_enter_78 rfl (lv_at hl 0 rfl) ?_
    refine lv_aload_n hx hb dX8_enter_79 rfl (lv_at hl 0 rfl) ?_
    refine gf8_2 hx hb hG hown hW (o := 11) (ltN hN 11 rfl) gk11 (v := .ref (q 16)) (sh11_2 hsh) gx70 dX8_enter_80 ?_
    refine lv_aload_n hx hb dX8_enter_83 rfl (lv_at hl 0 rfl) ?_
    refine gf8_8 hx hb hG hown hW (o := 11) (ltN hN 11 rfl) gk11 (v := .int x11_8j3) w_x11_8 gx1274 dX8_enter_84 ?_
    refine g_ViR (n := 1) hx hb hml hown hG hW hS [.int x11_8j3] (kX2_at (ltN hN 16 rfl) gk16 (ltN hN 17 rfl) gk17 (sh16_0 hsh) (by decide) ((hoffa 17 rfl).trans h_A17) x11_8j3) (ltN hN 16 rfl) gk16 (by decide) rfl rfl (gd_V gx1176 gx564 gx565 gx47 gx566) rfl rfl (by decide) ⟨Nat.le_of_ble_eq_true rfl, Nat.le_of_ble_eq_true rfl⟩ rfl hl (Nat.le_of_ble_eq_true rfl) ⟨Nat.zero_le _, Nat.zero_le _⟩ dX8_enter_87 (fun H locs hW hS => ?_)
    refine lv_iconst (v := 1) hx hb dX8_enter_90 (by decide) ?_
    refine lv_iadd hx hb dX8_enter_91 ?_
    refine gp8_8 hx hb hG hown hW hS (o := 11) (ltN hN 11 rfl) gk11 (v := ((cAt 64 A17 x11_8j3) + 1)) gx1274 dX8_enter_92 (fun m12 H locs hm12 ho12 hW hS => ?_)
    have ho12 := off1 ho12
    have w_x11_7 : m12 1107 = .int x11_7j3 := (ho12 1107 rfl).trans w_x11_7
    have w_x11_8 : m12 1108 = .int ((cAt 64 A17 x11_8j3) + 1) := hm12
    have hoff := offm hoff ho12 (by decide +kernel)
    have hsh := SH.off hsh ho12 (by decide +kernel)
    subst hs0
    exact W.vret hx hb hr (fun t ht hw => ⟨⟨(m12, a), rfl, ⟨w_x11_7, w_x11_8, hoff, w_A21, w_A23, hoffa⟩, g_end hW ht hw⟩, hS.F ht⟩) hS.2.2 dX8_enter_95 hlocks
  refine lv_aload_n hx hb dX8_enter_0 rfl (lv_at hl 0 rfl) ?_
  refine gf8_1 hx hb hG hown hW (o := 11) (ltN hN 11 rfl) gk11 (v := .ref (q 14)) (sh11_1 hsh) gx69 dX8_enter_1 ?_
  refine lv_aload_n hx hb dX8_enter_4 rfl (lv_at hl 0 rfl) ?_
  refine gf8_8 hx hb hG hown hW (o := 11) (ltN hN 11 rfl) gk11 (v := .int x11_8) h_x11_8 gx1274 dX8_enter_5 ?_
  refine g_ViR (n := 1) hx hb hml hown hG hW hS [.int x11_8] (kX2_at (ltN hN 14 rfl) gk14 (ltN hN 15 rfl) gk15 (sh14_0 hsh) (by decide) ((hoffa 15 rfl).trans h_A15) x11_8) (ltN hN 14 rfl) gk14 (by decide) rfl rfl (gd_V gx1176 gx564 gx565 gx47 gx566) rfl rfl (by decide) ⟨Nat.le_of_ble_eq_true rfl, Nat.le_of_ble_eq_true rfl⟩ rfl hl (Nat.le_of_ble_eq_true rfl) ⟨Nat.zero_le _, Nat.zero_le _⟩ dX8_enter_8 (fun H locs hW hS => ?_)
  refine lv_if_le (tgt := 78) hx hb dX8_enter_11 (by decide) (fun c2 => ?_) (fun c2 => ?_)
  · rw [if_pos c2] at hs0
    exact hJ78_0 x11_7 x11_8 A21 A23 m0 a0 _ _ h_x11_7 h_x11_8 hoff hsh h_A21 h_A23 hoffa ls (lv_sub hl [0] rfl) hs0 hW hS
  · rw [if_neg c2] at hs0
    refine lv_aload_n hx hb dX8_enter_14 rfl (lv_at hl 0 rfl) ?_
    refine g_ViR (n := 0) hx hb hml hown hG hW hS [] (kX8_mayOpen hN h_x11_7) (ltN hN 11 rfl) gk11 (by decide) rfl rfl (gd_V gx1264 gx1257 gx1258 gx27 gx1259) rfl rfl (by decide) ⟨Nat.le_of_ble_eq_true rfl, Nat.le_of_ble_eq_true rfl⟩ rfl hl (Nat.le_of_ble_eq_true rfl) ⟨Nat.zero_le _, Nat.zero_le _⟩ dX8_enter_15 (fun H locs hW hS => ?_)
    refine lv_if_eq (tgt := 78) hx hb dX8_enter_18 (by decide) (fun c5 => ?_) (fun c5 => ?_)
    · rw [if_pos c5] at hs0
      exact hJ78_0 x11_7 x11_8 A21 A23 m0 a0 _ _ h_x11_7 h_x11_8 hoff hsh h_A21 h_A23 hoffa ls (lv_sub hl [0] rfl) hs0 hW hS
    · rw [if_neg c5] at hs0
      refine lv_aload_n hx hb dX8_enter_21 rfl (lv_at hl 0 rfl) ?_
      refine gf8_4 hx hb hG hown hW (o := 11) (ltN hN 11 rfl) gk11 (v := .ref (q 20)) (sh11_4 hsh) gx72 dX8_enter_22 ?_
      refine lv_aload_n hx hb dX8_enter_25 rfl (lv_at hl 0 rfl) ?_
      refine gf8_7 hx hb hG hown hW (o := 11) (ltN hN 11 rfl) gk11 (v := .int x11_7) h_x11_7 gx1149 dX8_enter_26 ?_
      refine lv_aload_n hx hb dX8_enter_29 rfl (lv_at hl 0 rfl) ?_
      refine gf8_1 hx hb hG hown hW (o := 11) (ltN hN 11 rfl) gk11 (v := .ref (q 14)) (sh11_1 hsh) gx69 dX8_enter_30 ?_
      refine lv_aload_n hx hb dX8_enter_33 rfl (lv_at hl 0 rfl) ?_
      refine gf8_8 hx hb hG hown hW (o := 11) (ltN hN 11 rfl) gk11 (v := .int x11_8) h_x11_8 gx1274 dX8_enter_34 ?_
      refine g_ViR (n := 1) hx hb hml hown hG hW hS [.int x11_8] (kX2_at (ltN hN 14 rfl) gk14 (ltN hN 15 rfl) gk15 (sh14_0 hsh) (by decide) ((hoffa 15 rfl).trans h_A15) x11_8) (ltN hN 14 rfl) gk14 (by decide) rfl rfl (gd_V gx1176 gx564 gx565 gx47 gx566) rfl rfl (by decide) ⟨Nat.le_of_ble_eq_true rfl, Nat.le_of_ble_eq_true rfl⟩ rfl hl (Nat.le_of_ble_eq_true rfl) ⟨Nat.zero_le _, Nat.zero_le _⟩ dX8_enter_37 (fun H locs hW hS => ?_)
      refine g_Vv (n := 2) hx hb hml hown hG hW hS [.int x11_7, .int (cAt 64 A15 x11_8)] (kX2_put (ltN hN 20 rfl) gk20 (ltN hN 21 rfl) gk21 (sh20_0 hsh) (by decide) h_A21 x11_7 (cAt 64 A15 x11_8)) (ltN hN 20 rfl) gk20 (by decide) rfl rfl (gd_V gx1177 gx551 gx552 gx47 gx553) rfl rfl (by decide) ⟨Nat.le_of_ble_eq_true rfl, Nat.le_of_ble_eq_true rfl⟩ rfl hl (Nat.le_of_ble_eq_true rfl) ⟨Nat.zero_le _, Nat.zero_le _⟩ dX8_enter_40 (fun m7 a7 H locs hp7 hW hS => ?_)
      obtain ⟨hm7, hp7_A21, hoa7⟩ := hp7
      rw [hm7] at hW
      have w_A21 : a7 21 = (4, .inl (cPut 4 A21 x11_7 (cAt 64 A15 x11_8))) := hp7_A21
      have w_A23 : a7 23 = (4, .inl A23) := (hoa7 23 rfl).trans h_A23
      have hoffa := offm hoffa hoa7 (by decide +kernel)
      refine lv_aload_n hx hb dX8_enter_43 rfl (lv_at hl 0 rfl) ?_
      refine gf8_5 hx hb hG hown hW (o := 11) (ltN hN 11 rfl) gk11 (v := .ref (q 22)) (sh11_5 hsh) gx73 dX8_enter_44 ?_
      refine lv_aload_n hx hb dX8_enter_47 rfl (lv_at hl 0 rfl) ?_
      refine gf8_7 hx hb hG hown hW (o := 11) (ltN hN 11 rfl) gk11 (v := .int x11_7) h_x11_7 gx1149 dX8_enter_48 ?_
      refine lv_iload_n hx hb dX8_enter_51 rfl (lv_at hl 1 rfl) ?_
      refine g_Vv (n := 2) hx hb hml hown hG hW hS [.int x11_7, .int p1] (kX2_put (ltN hN 22 rfl) gk22 (ltN hN 23 rfl) gk23 (sh22_0 hsh) (by decide) w_A23 x11_7 p1) (ltN hN 22 rfl) gk22 (by decide) rfl rfl (gd_V gx1177 gx551 gx552 gx47 gx553) rfl rfl (by decide) ⟨Nat.le_of_ble_eq_true rfl, Nat.le_of_ble_eq_true rfl⟩ rfl hl (Nat.le_of_ble_eq_true rfl) ⟨Nat.zero_le _, Nat.zero_le _⟩ dX8_enter_52 (fun m8 a8 H locs hp8 hW hS => ?_)
      obtain ⟨hm8, hp8_A23, hoa8⟩ := hp8
      rw [hm8] at hW
      have w_A21 : a8 21 = (4, .inl (cPut 4 A21 x11_7 (cAt 64 A15 x11_8))) := (hoa8 21 rfl).trans w_A21
      have w_A23 : a8 23 = (4, .inl (cPut 4 A23 x11_7 p1)) := hp8_A23
      have hoffa := offm hoffa hoa8 (by decide +kernel)
      refine lv_aload_n hx hb dX8_enter_55 rfl (lv_at hl 0 rfl) ?_
      refine lv_dup hx hb dX8_enter_56 rfl ?_
      refine gf8_7 hx hb hG hown hW (o := 11) (ltN hN 11 rfl) gk11 (v := .int x11_7) h_x11_7 gx1149 dX8_enter_57 ?_
      refine lv_iconst (v := 1) hx hb dX8_enter_60 (by decide) ?_
      refine lv_iadd hx hb dX8_enter_61 ?_
      refine gp8_7 hx hb hG hown hW hS (o := 11) (ltN hN 11 rfl) gk11 (v := (x11_7 + 1)) gx1149 dX8_enter_62 (fun m9 H locs hm9 ho9 hW hS => ?_)
      have ho9 := off1 ho9
      have w_x11_7 : m9 1107 = .int (x11_7 + 1) := hm9
      have w_x11_8 : m9 1108 = .int x11_8 := (ho9 1108 rfl).trans h_x11_8
      have hoff := offm hoff ho9 (by decide +kernel)
      have hsh := SH.off hsh ho9 (by decide +kernel)
      refine lv_aload_n hx hb dX8_enter_65 rfl (lv_at hl 0 rfl) ?_
      refine lv_dup hx hb dX8_enter_66 rfl ?_
      refine gf8_8 hx hb hG hown hW (o := 11) (ltN hN 11 rfl) gk11 (v := .int x11_8) w_x11_8 gx1274 dX8_enter_67 ?_
      refine lv_iconst (v := 1) hx hb dX8_enter_70 (by decide) ?_
      refine lv_iadd hx hb dX8_enter_71 ?_
      refine gp8_8 hx hb hG hown hW hS (o := 11) (ltN hN 11 rfl) gk11 (v := (x11_8 + 1)) gx1274 dX8_enter_72 (fun m10 H locs hm10 ho10 hW hS => ?_)
      have ho10 := off1 ho10
      have w_x11_7 : m10 1107 = .int (x11_7 + 1) := (ho10 1107 rfl).trans w_x11_7
      have w_x11_8 : m10 1108 = .int (x11_8 + 1) := hm10
      have hoff := offm hoff ho10 (by decide +kernel)
      have hsh := SH.off hsh ho10 (by decide +kernel)
      refine lv_goto (tgt := 95) hx hb dX8_enter_75 (by decide) ?_
      subst hs0
      exact W.vret hx hb hr (fun t ht hw => ⟨⟨(m10, a8), rfl, ⟨w_x11_7, w_x11_8, hoff, w_A21, w_A23, hoffa⟩, g_end hW ht hw⟩, hS.F ht⟩) hS.2.2 dX8_enter_95 hlocks
-- HealLink$Steps.leave (I)V
def fX8_leave_J82 (A15 : Nat → Int32) (v2j2 : Int32) (x11_7j2 : Int32) (x11_8j2 : Int32) (A21j2 : Nat → Int32) (A23j2 : Nat → Int32) : Int32 × Int32 × (Nat → Int32) × (Nat → Int32) := (if v2j2 < 0 then 0 else v2j2, x11_8j2 + 1, A21j2, A23j2)
def fX8_leave (A15 : Nat → Int32) (x11_7 : Int32) (x11_8 : Int32) (A21 : Nat → Int32) (A23 : Nat → Int32) (p1 : Int32) : Int32 × Int32 × (Nat → Int32) × (Nat → Int32) := (if (x11_7 - 1) < 0 then fX8_leave_J82 A15 (x11_7 - 1) x11_7 x11_8 A21 A23 else (if (cAt 4 A21 (x11_7 - 1)) ≤ 1 then fX8_leave_J82 A15 (x11_7 - 1) x11_7 x11_8 A21 A23 else (if p1 ≤ (cAt 4 A23 (x11_7 - 1)) then fX8_leave_J82 A15 (x11_7 - 1) x11_7 x11_8 A21 A23 else (x11_7, (cAt 64 A15 x11_8) + 1, (cPut 4 A21 (x11_7 - 1) ((cAt 4 A21 (x11_7 - 1)) - 1)), (cPut 4 A23 (x11_7 - 1) p1)))))
theorem dX8_leave_0 : decode cX8_leave 0 = .ok (.aload_n 0, 1) := by decide +kernel
theorem dX8_leave_1 : decode cX8_leave 1 = .ok (.getfield 39, 3) := by decide +kernel
theorem dX8_leave_4 : decode cX8_leave 4 = .ok (.iconst 1, 1) := by decide +kernel
theorem dX8_leave_5 : decode cX8_leave 5 = .ok (.isub, 1) := by decide +kernel
theorem dX8_leave_6 : decode cX8_leave 6 = .ok (.istore_n 2, 1) := by decide +kernel
theorem dX8_leave_7 : decode cX8_leave 7 = .ok (.iload_n 2, 1) := by decide +kernel
theorem dX8_leave_8 : decode cX8_leave 8 = .ok (.ifCond .lt 74, 3) := by decide +kernel
theorem dX8_leave_11 : decode cX8_leave 11 = .ok (.aload_n 0, 1) := by decide +kernel
theorem dX8_leave_12 : decode cX8_leave 12 = .ok (.getfield 29, 3) := by decide +kernel
theorem dX8_leave_15 : decode cX8_leave 15 = .ok (.iload_n 2, 1) := by decide +kernel
theorem dX8_leave_16 : decode cX8_leave 16 = .ok (.invokevirtual 57, 3) := by decide +kernel
theorem dX8_leave_19 : decode cX8_leave 19 = .ok (.iconst 1, 1) := by decide +kernel
theorem dX8_leave_20 : decode cX8_leave 20 = .ok (.if_icmp .le 62, 3) := by decide +kernel
theorem dX8_leave_23 : decode cX8_leave 23 = .ok (.iload_n 1, 1) := by decide +kernel
theorem dX8_leave_24 : decode cX8_leave 24 = .ok (.aload_n 0, 1) := by decide +kernel
theorem dX8_leave_25 : decode cX8_leave 25 = .ok (.getfield 32, 3) := by decide +kernel
theorem dX8_leave_28 : decode cX8_leave 28 = .ok (.iload_n 2, 1) := by decide +kernel
theorem dX8_leave_29 : decode cX8_leave 29 = .ok (.invokevirtual 57, 3) := by decide +kernel
theorem dX8_leave_32 : decode cX8_leave 32 = .ok (.if_icmp .le 50, 3) := by decide +kernel
theorem dX8_leave_35 : decode cX8_leave 35 = .ok (.aload_n 0, 1) := by decide +kernel
theorem dX8_leave_36 : decode cX8_leave 36 = .ok (.getfield 29, 3) := by decide +kernel
theorem dX8_leave_39 : decode cX8_leave 39 = .ok (.iload_n 2, 1) := by decide +kernel
theorem dX8_leave_40 : decode cX8_leave 40 = .ok (.aload_n 0, 1) := by decide +kernel
theorem dX8_leave_41 : decode cX8_leave 41 = .ok (.getfield 29, 3) := by decide +kernel
theorem dX8_leave_44 : decode cX8_leave 44 = .ok (.iload_n 2, 1) := by decide +kernel
theorem dX8_leave_45 : decode cX8_leave 45 = .ok (.invokevirtual 57, 3) := by decide +kernel
theorem dX8_leave_48 : decode cX8_leave 48 = .ok (.iconst 1, 1) := by decide +kernel
theorem dX8_leave_49 : decode cX8_leave 49 = .ok (.isub, 1) := by decide +kernel
theorem dX8_leave_50 : decode cX8_leave 50 = .ok (.invokevirtual 42, 3) := by decide +kernel
theorem dX8_leave_53 : decode cX8_leave 53 = .ok (.aload_n 0, 1) := by decide +kernel
theorem dX8_leave_54 : decode cX8_leave 54 = .ok (.getfield 32, 3) := by decide +kernel
theorem dX8_leave_57 : decode cX8_leave 57 = .ok (.iload_n 2, 1) := by decide +kernel
theorem dX8_leave_58 : decode cX8_leave 58 = .ok (.iload_n 1, 1) := by decide +kernel
theorem dX8_leave_59 : decode cX8_leave 59 = .ok (.invokevirtual 42, 3) := by decide +kernel
theorem dX8_leave_62 : decode cX8_leave 62 = .ok (.aload_n 0, 1) := by decide +kernel
theorem dX8_leave_63 : decode cX8_leave 63 = .ok (.aload_n 0, 1) := by decide +kernel
theorem dX8_leave_64 : decode cX8_leave 64 = .ok (.getfield 20, 3) := by decide +kernel
theorem dX8_leave_67 : decode cX8_leave 67 = .ok (.aload_n 0, 1) := by decide +kernel
theorem dX8_leave_68 : decode cX8_leave 68 = .ok (.getfield 61, 3) := by decide +kernel
theorem dX8_leave_71 : decode cX8_leave 71 = .ok (.invokevirtual 57, 3) := by decide +kernel
theorem dX8_leave_74 : decode cX8_leave 74 = .ok (.iconst 1, 1) := by decide +kernel
theorem dX8_leave_75 : decode cX8_leave 75 = .ok (.iadd, 1) := by decide +kernel
theorem dX8_leave_76 : decode cX8_leave 76 = .ok (.putfield 61, 3) := by decide +kernel
theorem dX8_leave_79 : decode cX8_leave 79 = .ok (.goto 22, 3) := by decide +kernel
theorem dX8_leave_82 : decode cX8_leave 82 = .ok (.aload_n 0, 1) := by decide +kernel
theorem dX8_leave_83 : decode cX8_leave 83 = .ok (.iload_n 2, 1) := by decide +kernel
theorem dX8_leave_84 : decode cX8_leave 84 = .ok (.iconst 0, 1) := by decide +kernel
theorem dX8_leave_85 : decode cX8_leave 85 = .ok (.invokestatic 70, 3) := by decide +kernel
theorem dX8_leave_88 : decode cX8_leave 88 = .ok (.putfield 39, 3) := by decide +kernel
theorem dX8_leave_91 : decode cX8_leave 91 = .ok (.aload_n 0, 1) := by decide +kernel
theorem dX8_leave_92 : decode cX8_leave 92 = .ok (.dup, 1) := by decide +kernel
theorem dX8_leave_93 : decode cX8_leave 93 = .ok (.getfield 61, 3) := by decide +kernel
theorem dX8_leave_96 : decode cX8_leave 96 = .ok (.iconst 1, 1) := by decide +kernel
theorem dX8_leave_97 : decode cX8_leave 97 = .ok (.iadd, 1) := by decide +kernel
theorem dX8_leave_98 : decode cX8_leave 98 = .ok (.putfield 61, 3) := by decide +kernel
theorem dX8_leave_101 : decode cX8_leave 101 = .ok (.return_, 1) := by decide +kernel
set_option maxHeartbeats 4000000 in
set_option maxRecDepth 100000 in
theorem kX8_leave {l : Launch} {D : va_G} {cy : Nat → ClassId} {N : Nat} {q : Nat → Nat} {m0 : Nat → Value} {a0 : Nat → vp_A} {sz : Nat} (hN : 105 ≤ N) (hsh : SH q m0) {A15 : Nat → Int32} (h_A15 : a0 15 = (64, .inl A15)) {x11_7 : Int32} (h_x11_7 : m0 1107 = .int x11_7) {x11_8 : Int32} (h_x11_8 : m0 1108 = .int x11_8) {A21 : Nat → Int32} (h_A21 : a0 21 = (4, .inl A21)) {A23 : Nat → Int32} (h_A23 : a0 23 = (4, .inl A23)) (p1 : Int32) : gMv l yX8_leave cX8_leave 3 none ({ frames := 1, cells := 0, slots := 0, locals := 22 } : Room) D cy N q m0 a0 sz [.ref (q 11), .int p1] (fun m' a' => m' 1107 = .int ((fX8_leave A15 x11_7 x11_8 A21 A23 p1).1) ∧ m' 1108 = .int ((fX8_leave A15 x11_7 x11_8 A21 A23 p1).2.1) ∧ (∀ j, nel j [1107, 1108] = false → m' j = m0 j) ∧ a' 21 = (4, .inl ((fX8_leave A15 x11_7 x11_8 A21 A23 p1).2.2.1)) ∧ a' 23 = (4, .inl ((fX8_leave A15 x11_7 x11_8 A21 A23 p1).2.2.2)) ∧ (∀ j, nel j [21, 23] = false → a' j = a0 j)) := by
  generalize hs0 : fX8_leave A15 x11_7 x11_8 A21 A23 p1 = X0
  refine g_ofv (by decide) (Nat.le_of_ble_eq_true rfl) ?_
  intro p e s M args below meth c hx hb hr hG hown hin hlocks hml hW hS ls hl
  unfold fX8_leave at hs0
  have hoff : ∀ j, nel j [1107, 1108] = false → m0 j = m0 j := off0
  have hoffa : ∀ j, nel j [21, 23] = false → a0 j = a0 j := off0
  have hJ82_0 : ∀ (v2j2 : Int32) (x11_7j2 : Int32) (x11_8j2 : Int32) (A21j2 : Nat → Int32) (A23j2 : Nat → Int32) (m : Nat → Value) (a : Nat → vp_A) (H : Heap) (locs : List Loc) (w_x11_7 : m 1107 = .int x11_7j2) (w_x11_8 : m 1108 = .int x11_8j2) (hoff : ∀ j, nel j [1107, 1108] = false → m j = m0 j) (hsh : SH q m) (w_A21 : a 21 = (4, .inl A21j2)) (w_A23 : a 23 = (4, .inl A23j2)) (hoffa : ∀ j, nel j [21, 23] = false → a j = a0 j) (ls : Array Slot) (hl : lv_has ls 3 [(0, .ref (q 11)), (2, .int v2j2)]) (hs0 : fX8_leave_J82 A15 v2j2 x11_7j2 x11_8j2 A21j2 A23j2 = X0) (hW : GW D cy (gA N q s.heap.size) N q m a s H) (hS : va_S (gA N q s.heap.size) s.heap H locs), W p l e ({ frames := 1, cells := 0, slots := 0, locals := 22 } : Room) s M args below meth c H locs 0 0 (MQ below (va_Qv (fun (u : (Nat → Value) × (Nat → vp_A)) => u.1 1107 = .int (X0.1) ∧ u.1 1108 = .int (X0.2.1) ∧ (∀ j, nel j [1107, 1108] = false → u.1 j = m0 j) ∧ u.2 21 = (4, .inl (X0.2.2.1)) ∧ u.2 23 = (4, .inl (X0.2.2.2)) ∧ (∀ j, nel j [21, 23] = false → u.2 j = a0 j)) (gB D cy N q s.heap.size) (gA N q s.heap.size)) args s 0 0 (gA N q s.heap.size)) (F0 M 82 ls []) := by
    intro v2j2 x11_7j2 x11_8j2 A21j2 A23j2 m a H locs w_x11_7 w_x11_8 hoff hsh w_A21 w_A23 hoffa ls hl hs0 hW hS
    unfold fX8_leave_J82 at hs0
    refine lv_aload_n hx hb dX8_leave_82 rfl (lv_at hl 0 rfl) ?_
    refine lv_iload_n hx hb dX8_leave_83 rfl (lv_at hl 1 rfl) ?_
    refine lv_iconst (v := 0) hx hb dX8_leave_84 (by decide) ?_
    refine va_mmax hx hb (hml.trans hl.1.symm) hown (hG _ gx1288) (hG _ gx54) (hG _ gx55) (hG _ gx56) (Nat.le_of_ble_eq_true rfl) (Nat.le_of_ble_eq_true rfl) (Nat.zero_le _) (Nat.zero_le _) dX8_leave_85 ?_
    refine gp8_7 hx hb hG hown hW hS (o := 11) (ltN hN 11 rfl) gk11 (v := (if v2j2 < 0 then 0 else v2j2)) gx1149 dX8_leave_88 (fun m12 H locs hm12 ho12 hW hS => ?_)
    have ho12 := off1 ho12
    have w_x11_7 : m12 1107 = .int (if v2j2 < 0 then 0 else v2j2) := hm12
    have w_x11_8 : m12 1108 = .int x11_8j2 := (ho12 1108 rfl).trans w_x11_8
    have hoff := offm hoff ho12 (by decide +kernel)
    have hsh := SH.off hsh ho12 (by decide +kernel)
    refine lv_aload_n hx hb dX8_leave_91 rfl (lv_at hl 0 rfl) ?_
    refine lv_dup hx hb dX8_leave_92 rfl ?_
    refine gf8_8 hx hb hG hown hW (o := 11) (ltN hN 11 rfl) gk11 (v := .int x11_8j2) w_x11_8 gx1274 dX8_leave_93 ?_
    refine lv_iconst (v := 1) hx hb dX8_leave_96 (by decide) ?_
    refine lv_iadd hx hb dX8_leave_97 ?_
    refine gp8_8 hx hb hG hown hW hS (o := 11) (ltN hN 11 rfl) gk11 (v := (x11_8j2 + 1)) gx1274 dX8_leave_98 (fun m13 H locs hm13 ho13 hW hS => ?_)
    have ho13 := off1 ho13
    have w_x11_7 : m13 1107 = .int (if v2j2 < 0 then 0 else v2j2) := (ho13 1107 rfl).trans w_x11_7
    have w_x11_8 : m13 1108 = .int (x11_8j2 + 1) := hm13
    have hoff := offm hoff ho13 (by decide +kernel)
    have hsh := SH.off hsh ho13 (by decide +kernel)
    subst hs0
    exact W.vret hx hb hr (fun t ht hw => ⟨⟨(m13, a), rfl, ⟨w_x11_7, w_x11_8, hoff, w_A21, w_A23, hoffa⟩, g_end hW ht hw⟩, hS.F ht⟩) hS.2.2 dX8_leave_101 hlocks
  refine lv_aload_n hx hb dX8_leave_0 rfl (lv_at hl 0 rfl) ?_
  refine gf8_7 hx hb hG hown hW (o := 11) (ltN hN 11 rfl) gk11 (v := .int x11_7) h_x11_7 gx1149 dX8_leave_1 ?_
  refine lv_iconst (v := 1) hx hb dX8_leave_4 (by decide) ?_
  refine lv_isub hx hb dX8_leave_5 ?_
  refine lv_istore_n (lv' := [(2, .int (x11_7 - 1)), (0, .ref (q 11)), (1, .int p1)]) hx hb dX8_leave_6 rfl hl (by decide) rfl (fun ls hl => ?_)
  refine lv_iload_n hx hb dX8_leave_7 rfl (lv_at hl 0 rfl) ?_
  refine lv_if_lt (tgt := 82) hx hb dX8_leave_8 (by decide) (fun c1 => ?_) (fun c1 => ?_)
  · rw [if_pos c1] at hs0
    exact hJ82_0 (x11_7 - 1) x11_7 x11_8 A21 A23 m0 a0 _ _ h_x11_7 h_x11_8 hoff hsh h_A21 h_A23 hoffa ls (lv_sub hl [1, 0] rfl) hs0 hW hS
  · rw [if_neg c1] at hs0
    refine lv_aload_n hx hb dX8_leave_11 rfl (lv_at hl 1 rfl) ?_
    refine gf8_4 hx hb hG hown hW (o := 11) (ltN hN 11 rfl) gk11 (v := .ref (q 20)) (sh11_4 hsh) gx72 dX8_leave_12 ?_
    refine lv_iload_n hx hb dX8_leave_15 rfl (lv_at hl 0 rfl) ?_
    refine g_ViR (n := 1) hx hb hml hown hG hW hS [.int (x11_7 - 1)] (kX2_at (ltN hN 20 rfl) gk20 (ltN hN 21 rfl) gk21 (sh20_0 hsh) (by decide) h_A21 (x11_7 - 1)) (ltN hN 20 rfl) gk20 (by decide) rfl rfl (gd_V gx1176 gx564 gx565 gx47 gx566) rfl rfl (by decide) ⟨Nat.le_of_ble_eq_true rfl, Nat.le_of_ble_eq_true rfl⟩ rfl hl (Nat.le_of_ble_eq_true rfl) ⟨Nat.zero_le _, Nat.zero_le _⟩ dX8_leave_16 (fun H locs hW hS => ?_)
    refine lv_iconst (v := 1) hx hb dX8_leave_19 (by decide) ?_
    refine lv_icmp_le (tgt := 82) hx hb dX8_leave_20 (by decide) (fun c4 => ?_) (fun c4 => ?_)
    · rw [if_pos c4] at hs0
      exact hJ82_0 (x11_7 - 1) x11_7 x11_8 A21 A23 m0 a0 _ _ h_x11_7 h_x11_8 hoff hsh h_A21 h_A23 hoffa ls (lv_sub hl [1, 0] rfl) hs0 hW hS
    · rw [if_neg c4] at hs0
      refine lv_iload_n hx hb dX8_leave_23 rfl (lv_at hl 2 rfl) ?_
      refine lv_aload_n hx hb dX8_leave_24 rfl (lv_at hl 1 rfl) ?_
      refine gf8_5 hx hb hG hown hW (o := 11) (ltN hN 11 rfl) gk11 (v := .ref (q 22)) (sh11_5 hsh) gx73 dX8_leave_25 ?_
      refine lv_iload_n hx hb dX8_leave_28 rfl (lv_at hl 0 rfl) ?_
      refine g_ViR (n := 1) hx hb hml hown hG hW hS [.int (x11_7 - 1)] (kX2_at (ltN hN 22 rfl) gk22 (ltN hN 23 rfl) gk23 (sh22_0 hsh) (by decide) h_A23 (x11_7 - 1)) (ltN hN 22 rfl) gk22 (by decide) rfl rfl (gd_V gx1176 gx564 gx565 gx47 gx566) rfl rfl (by decide) ⟨Nat.le_of_ble_eq_true rfl, Nat.le_of_ble_eq_true rfl⟩ rfl hl (Nat.le_of_ble_eq_true rfl) ⟨Nat.zero_le _, Nat.zero_le _⟩ dX8_leave_29 (fun H locs hW hS => ?_)
      refine lv_icmp_le (tgt := 82) hx hb dX8_leave_32 (by decide) (fun c6 => ?_) (fun c6 => ?_)
      · rw [if_pos c6] at hs0
        exact hJ82_0 (x11_7 - 1) x11_7 x11_8 A21 A23 m0 a0 _ _ h_x11_7 h_x11_8 hoff hsh h_A21 h_A23 hoffa ls (lv_sub hl [1, 0] rfl) hs0 hW hS
      · rw [if_neg c6] at hs0
        refine lv_aload_n hx hb dX8_leave_35 rfl (lv_at hl 1 rfl) ?_
        refine gf8_4 hx hb hG hown hW (o := 11) (ltN hN 11 rfl) gk11 (v := .ref (q 20)) (sh11_4 hsh) gx72 dX8_leave_36 ?_
        refine lv_iload_n hx hb dX8_leave_39 rfl (lv_at hl 0 rfl) ?_
        refine lv_aload_n hx hb dX8_leave_40 rfl (lv_at hl 1 rfl) ?_
        refine gf8_4 hx hb hG hown hW (o := 11) (ltN hN 11 rfl) gk11 (v := .ref (q 20)) (sh11_4 hsh) gx72 dX8_leave_41 ?_
        refine lv_iload_n hx hb dX8_leave_44 rfl (lv_at hl 0 rfl) ?_
        refine g_ViR (n := 1) hx hb hml hown hG hW hS [.int (x11_7 - 1)] (kX2_at (ltN hN 20 rfl) gk20 (ltN hN 21 rfl) gk21 (sh20_0 hsh) (by decide) h_A21 (x11_7 - 1)) (ltN hN 20 rfl) gk20 (by decide) rfl rfl (gd_V gx1176 gx564 gx565 gx47 gx566) rfl rfl (by decide) ⟨Nat.le_of_ble_eq_true rfl, Nat.le_of_ble_eq_true rfl⟩ rfl hl (Nat.le_of_ble_eq_true rfl) ⟨Nat.zero_le _, Nat.zero_le _⟩ dX8_leave_45 (fun H locs hW hS => ?_)
        refine lv_iconst (v := 1) hx hb dX8_leave_48 (by decide) ?_
        refine lv_isub hx hb dX8_leave_49 ?_
        refine g_Vv (n := 2) hx hb hml hown hG hW hS [.int (x11_7 - 1), .int ((cAt 4 A21 (x11_7 - 1)) - 1)] (kX2_put (ltN hN 20 rfl) gk20 (ltN hN 21 rfl) gk21 (sh20_0 hsh) (by decide) h_A21 (x11_7 - 1) ((cAt 4 A21 (x11_7 - 1)) - 1)) (ltN hN 20 rfl) gk20 (by decide) rfl rfl (gd_V gx1177 gx551 gx552 gx47 gx553) rfl rfl (by decide) ⟨Nat.le_of_ble_eq_true rfl, Nat.le_of_ble_eq_true rfl⟩ rfl hl (Nat.le_of_ble_eq_true rfl) ⟨Nat.zero_le _, Nat.zero_le _⟩ dX8_leave_50 (fun m8 a8 H locs hp8 hW hS => ?_)
        obtain ⟨hm8, hp8_A21, hoa8⟩ := hp8
        rw [hm8] at hW
        have w_A21 : a8 21 = (4, .inl (cPut 4 A21 (x11_7 - 1) ((cAt 4 A21 (x11_7 - 1)) - 1))) := hp8_A21
        have w_A23 : a8 23 = (4, .inl A23) := (hoa8 23 rfl).trans h_A23
        have hoffa := offm hoffa hoa8 (by decide +kernel)
        refine lv_aload_n hx hb dX8_leave_53 rfl (lv_at hl 1 rfl) ?_
        refine gf8_5 hx hb hG hown hW (o := 11) (ltN hN 11 rfl) gk11 (v := .ref (q 22)) (sh11_5 hsh) gx73 dX8_leave_54 ?_
        refine lv_iload_n hx hb dX8_leave_57 rfl (lv_at hl 0 rfl) ?_
        refine lv_iload_n hx hb dX8_leave_58 rfl (lv_at hl 2 rfl) ?_
        refine g_Vv (n := 2) hx hb hml hown hG hW hS [.int (x11_7 - 1), .int p1] (kX2_put (ltN hN 22 rfl) gk22 (ltN hN 23 rfl) gk23 (sh22_0 hsh) (by decide) w_A23 (x11_7 - 1) p1) (ltN hN 22 rfl) gk22 (by decide) rfl rfl (gd_V gx1177 gx551 gx552 gx47 gx553) rfl rfl (by decide) ⟨Nat.le_of_ble_eq_true rfl, Nat.le_of_ble_eq_true rfl⟩ rfl hl (Nat.le_of_ble_eq_true rfl) ⟨Nat.zero_le _, Nat.zero_le _⟩ dX8_leave_59 (fun m9 a9 H locs hp9 hW hS => ?_)
        obtain ⟨hm9, hp9_A23, hoa9⟩ := hp9
        rw [hm9] at hW
        have w_A21 : a9 21 = (4, .inl (cPut 4 A21 (x11_7 - 1) ((cAt 4 A21 (x11_7 - 1)) - 1))) := (hoa9 21 rfl).trans w_A21
        have w_A23 : a9 23 = (4, .inl (cPut 4 A23 (x11_7 - 1) p1)) := hp9_A23
        have hoffa := offm hoffa hoa9 (by decide +kernel)
        refine lv_aload_n hx hb dX8_leave_62 rfl (lv_at hl 1 rfl) ?_
        refine lv_aload_n hx hb dX8_leave_63 rfl (lv_at hl 1 rfl) ?_
        refine gf8_1 hx hb hG hown hW (o := 11) (ltN hN 11 rfl) gk11 (v := .ref (q 14)) (sh11_1 hsh) gx69 dX8_leave_64 ?_
        refine lv_aload_n hx hb dX8_leave_67 rfl (lv_at hl 1 rfl) ?_
        refine gf8_8 hx hb hG hown hW (o := 11) (ltN hN 11 rfl) gk11 (v := .int x11_8) h_x11_8 gx1274 dX8_leave_68 ?_
        refine g_ViR (n := 1) hx hb hml hown hG hW hS [.int x11_8] (kX2_at (ltN hN 14 rfl) gk14 (ltN hN 15 rfl) gk15 (sh14_0 hsh) (by decide) ((hoffa 15 rfl).trans h_A15) x11_8) (ltN hN 14 rfl) gk14 (by decide) rfl rfl (gd_V gx1176 gx564 gx565 gx47 gx566) rfl rfl (by decide) ⟨Nat.le_of_ble_eq_true rfl, Nat.le_of_ble_eq_true rfl⟩ rfl hl (Nat.le_of_ble_eq_true rfl) ⟨Nat.zero_le _, Nat.zero_le _⟩ dX8_leave_71 (fun H locs hW hS => ?_)
        refine lv_iconst (v := 1) hx hb dX8_leave_74 (by decide) ?_
        refine lv_iadd hx hb dX8_leave_75 ?_
        refine gp8_8 hx hb hG hown hW hS (o := 11) (ltN hN 11 rfl) gk11 (v := ((cAt 64 A15 x11_8) + 1)) gx1274 dX8_leave_76 (fun m11 H locs hm11 ho11 hW hS => ?_)
        have ho11 := off1 ho11
        have w_x11_7 : m11 1107 = .int x11_7 := (ho11 1107 rfl).trans h_x11_7
        have w_x11_8 : m11 1108 = .int ((cAt 64 A15 x11_8) + 1) := hm11
        have hoff := offm hoff ho11 (by decide +kernel)
        have hsh := SH.off hsh ho11 (by decide +kernel)
        refine lv_goto (tgt := 101) hx hb dX8_leave_79 (by decide) ?_
        subst hs0
        exact W.vret hx hb hr (fun t ht hw => ⟨⟨(m11, a9), rfl, ⟨w_x11_7, w_x11_8, hoff, w_A21, w_A23, hoffa⟩, g_end hW ht hw⟩, hS.F ht⟩) hS.2.2 dX8_leave_101 hlocks
-- HealLink$Steps.next (I)I
def fX8_next_J91 (F : Nat) (x11_6 : Int32) (A13 : Nat → Int32) (A15 : Nat → Int32) (A17 : Nat → Int32) (v1 : Int32) (v2j10 : Int32) (x11_7j10 : Int32) (x11_8j10 : Int32) (A21j10 : Nat → Int32) (A23j10 : Nat → Int32) : Option (((Int32 × Int32 × (Nat → Int32) × (Nat → Int32)) ⊕ (Int32 × Int32 × (Nat → Int32) × (Nat → Int32))) ⊕ (Int32 × Int32 × Int32 × (Nat → Int32) × (Nat → Int32))) := some (Sum.inr (v2j10 + 1, x11_7j10, x11_8j10, A21j10, A23j10))
def fX8_next_S2 (F : Nat) (x11_6 : Int32) (A13 : Nat → Int32) (A15 : Nat → Int32) (A17 : Nat → Int32) (v1 : Int32) (v2 : Int32) (x11_7 : Int32) (x11_8 : Int32) (A21 : Nat → Int32) (A23 : Nat → Int32) : Option (((Int32 × Int32 × (Nat → Int32) × (Nat → Int32)) ⊕ (Int32 × Int32 × (Nat → Int32) × (Nat → Int32))) ⊕ (Int32 × Int32 × Int32 × (Nat → Int32) × (Nat → Int32))) := (if 1000000 ≤ v2 then some (Sum.inl (Sum.inr ((x11_7, x11_8, A21, A23)))) else (if x11_8 < 0 then some (Sum.inl (Sum.inr ((x11_7, x11_8, A21, A23)))) else (if x11_6 ≤ x11_8 then some (Sum.inl (Sum.inr ((x11_7, x11_8, A21, A23)))) else (if (cAt 64 A13 x11_8) = 6 then fX8_next_J91 F x11_6 A13 A15 A17 v1 v2 ((fX8_enter A15 A17 x11_7 x11_8 A21 A23 v1).1) ((fX8_enter A15 A17 x11_7 x11_8 A21 A23 v1).2.1) ((fX8_enter A15 A17 x11_7 x11_8 A21 A23 v1).2.2.1) ((fX8_enter A15 A17 x11_7 x11_8 A21 A23 v1).2.2.2) else (if (cAt 64 A13 x11_8) = 7 then fX8_next_J91 F x11_6 A13 A15 A17 v1 v2 ((fX8_leave A15 x11_7 x11_8 A21 A23 v1).1) ((fX8_leave A15 x11_7 x11_8 A21 A23 v1).2.1) ((fX8_leave A15 x11_7 x11_8 A21 A23 v1).2.2.1) ((fX8_leave A15 x11_7 x11_8 A21 A23 v1).2.2.2) else some (Sum.inl (Sum.inl (x11_7, x11_8, A21, A23))))))))
def fX8_next (F : Nat) (x11_6 : Int32) (A13 : Nat → Int32) (A15 : Nat → Int32) (A17 : Nat → Int32) (x11_7 : Int32) (x11_8 : Int32) (A21 : Nat → Int32) (A23 : Nat → Int32) (p1 : Int32) : Option (Int32 × Int32 × Int32 × (Nat → Int32) × (Nat → Int32)) := (gloop (fun u1 : (Int32 × Int32 × Int32 × (Nat → Int32) × (Nat → Int32)) => fX8_next_S2 F x11_6 A13 A15 A17 p1 u1.1 u1.2.1 u1.2.2.1 u1.2.2.2.1 u1.2.2.2.2) F (0, x11_7, x11_8, A21, A23)).bind (Sum.elim (fun t1_74 => some ((t1_74.2.1 + 1) - 1, t1_74.1, t1_74.2.1 + 1, t1_74.2.2.1, t1_74.2.2.2)) (fun t1_97 => some ((-1), t1_97.1, t1_97.2.1, t1_97.2.2.1, t1_97.2.2.2)))
theorem dX8_next_0 : decode cX8_next 0 = .ok (.iconst 0, 1) := by decide +kernel
theorem dX8_next_1 : decode cX8_next 1 = .ok (.istore_n 2, 1) := by decide +kernel
theorem dX8_next_2 : decode cX8_next 2 = .ok (.iload_n 2, 1) := by decide +kernel
theorem dX8_next_3 : decode cX8_next 3 = .ok (.ldc 63, 2) := by decide +kernel
theorem dX8_next_5 : decode cX8_next 5 = .ok (.if_icmp .ge 92, 3) := by decide +kernel
theorem dX8_next_8 : decode cX8_next 8 = .ok (.aload_n 0, 1) := by decide +kernel
theorem dX8_next_9 : decode cX8_next 9 = .ok (.getfield 61, 3) := by decide +kernel
theorem dX8_next_12 : decode cX8_next 12 = .ok (.ifCond .lt 85, 3) := by decide +kernel
theorem dX8_next_15 : decode cX8_next 15 = .ok (.aload_n 0, 1) := by decide +kernel
theorem dX8_next_16 : decode cX8_next 16 = .ok (.getfield 61, 3) := by decide +kernel
theorem dX8_next_19 : decode cX8_next 19 = .ok (.aload_n 0, 1) := by decide +kernel
theorem dX8_next_20 : decode cX8_next 20 = .ok (.getfield 35, 3) := by decide +kernel
theorem dX8_next_23 : decode cX8_next 23 = .ok (.if_icmp .ge 74, 3) := by decide +kernel
theorem dX8_next_26 : decode cX8_next 26 = .ok (.aload_n 0, 1) := by decide +kernel
theorem dX8_next_27 : decode cX8_next 27 = .ok (.getfield 16, 3) := by decide +kernel
theorem dX8_next_30 : decode cX8_next 30 = .ok (.aload_n 0, 1) := by decide +kernel
theorem dX8_next_31 : decode cX8_next 31 = .ok (.getfield 61, 3) := by decide +kernel
theorem dX8_next_34 : decode cX8_next 34 = .ok (.invokevirtual 57, 3) := by decide +kernel
theorem dX8_next_37 : decode cX8_next 37 = .ok (.bipush 6, 2) := by decide +kernel
theorem dX8_next_39 : decode cX8_next 39 = .ok (.if_icmp .ne 11, 3) := by decide +kernel
theorem dX8_next_42 : decode cX8_next 42 = .ok (.aload_n 0, 1) := by decide +kernel
theorem dX8_next_43 : decode cX8_next 43 = .ok (.iload_n 1, 1) := by decide +kernel
theorem dX8_next_44 : decode cX8_next 44 = .ok (.invokevirtual 64, 3) := by decide +kernel
theorem dX8_next_47 : decode cX8_next 47 = .ok (.goto 44, 3) := by decide +kernel
theorem dX8_next_50 : decode cX8_next 50 = .ok (.aload_n 0, 1) := by decide +kernel
theorem dX8_next_51 : decode cX8_next 51 = .ok (.getfield 16, 3) := by decide +kernel
theorem dX8_next_54 : decode cX8_next 54 = .ok (.aload_n 0, 1) := by decide +kernel
theorem dX8_next_55 : decode cX8_next 55 = .ok (.getfield 61, 3) := by decide +kernel
theorem dX8_next_58 : decode cX8_next 58 = .ok (.invokevirtual 57, 3) := by decide +kernel
theorem dX8_next_61 : decode cX8_next 61 = .ok (.bipush 7, 2) := by decide +kernel
theorem dX8_next_63 : decode cX8_next 63 = .ok (.if_icmp .ne 11, 3) := by decide +kernel
theorem dX8_next_66 : decode cX8_next 66 = .ok (.aload_n 0, 1) := by decide +kernel
theorem dX8_next_67 : decode cX8_next 67 = .ok (.iload_n 1, 1) := by decide +kernel
theorem dX8_next_68 : decode cX8_next 68 = .ok (.invokevirtual 67, 3) := by decide +kernel
theorem dX8_next_71 : decode cX8_next 71 = .ok (.goto 20, 3) := by decide +kernel
theorem dX8_next_74 : decode cX8_next 74 = .ok (.aload_n 0, 1) := by decide +kernel
theorem dX8_next_75 : decode cX8_next 75 = .ok (.dup, 1) := by decide +kernel
theorem dX8_next_76 : decode cX8_next 76 = .ok (.getfield 61, 3) := by decide +kernel
theorem dX8_next_79 : decode cX8_next 79 = .ok (.iconst 1, 1) := by decide +kernel
theorem dX8_next_80 : decode cX8_next 80 = .ok (.iadd, 1) := by decide +kernel
theorem dX8_next_81 : decode cX8_next 81 = .ok (.putfield 61, 3) := by decide +kernel
theorem dX8_next_84 : decode cX8_next 84 = .ok (.aload_n 0, 1) := by decide +kernel
theorem dX8_next_85 : decode cX8_next 85 = .ok (.getfield 61, 3) := by decide +kernel
theorem dX8_next_88 : decode cX8_next 88 = .ok (.iconst 1, 1) := by decide +kernel
theorem dX8_next_89 : decode cX8_next 89 = .ok (.isub, 1) := by decide +kernel
theorem dX8_next_90 : decode cX8_next 90 = .ok (.ireturn, 1) := by decide +kernel
theorem dX8_next_91 : decode cX8_next 91 = .ok (.iinc 2 1, 3) := by decide +kernel
theorem dX8_next_94 : decode cX8_next 94 = .ok (.goto (-92), 3) := by decide +kernel
theorem dX8_next_97 : decode cX8_next 97 = .ok (.iconst (-1), 1) := by decide +kernel
theorem dX8_next_98 : decode cX8_next 98 = .ok (.ireturn, 1) := by decide +kernel
set_option maxHeartbeats 4000000 in
set_option maxRecDepth 100000 in
theorem kX8_next {l : Launch} {D : va_G} {cy : Nat → ClassId} {N : Nat} {q : Nat → Nat} {m0 : Nat → Value} {a0 : Nat → vp_A} {sz : Nat} (hN : 105 ≤ N) (hsh : SH q m0) {x11_6 : Int32} (h_x11_6 : m0 1106 = .int x11_6) {A13 : Nat → Int32} (h_A13 : a0 13 = (64, .inl A13)) {A15 : Nat → Int32} (h_A15 : a0 15 = (64, .inl A15)) {A17 : Nat → Int32} (h_A17 : a0 17 = (64, .inl A17)) {x11_7 : Int32} (h_x11_7 : m0 1107 = .int x11_7) {x11_8 : Int32} (h_x11_8 : m0 1108 = .int x11_8) {A21 : Nat → Int32} (h_A21 : a0 21 = (4, .inl A21)) {A23 : Nat → Int32} (h_A23 : a0 23 = (4, .inl A23)) (F : Nat) (p1 : Int32) {X0 : Int32 × Int32 × Int32 × (Nat → Int32) × (Nat → Int32)} (hs0 : fX8_next F x11_6 A13 A15 A17 x11_7 x11_8 A21 A23 p1 = some X0) : gMi l yX8_next cX8_next 3 (some .int) ({ frames := 2, cells := 0, slots := 0, locals := 44 } : Room) D cy N q m0 a0 sz [.ref (q 11), .int p1] (fun r m' a' => r = X0.1 ∧ m' 1107 = .int X0.2.1 ∧ m' 1108 = .int X0.2.2.1 ∧ (∀ j, nel j [1107, 1108] = false → m' j = m0 j) ∧ a' 21 = (4, .inl X0.2.2.2.1) ∧ a' 23 = (4, .inl X0.2.2.2.2) ∧ (∀ j, nel j [21, 23] = false → a' j = a0 j)) := by
  refine g_ofi (by decide) (Nat.le_of_ble_eq_true rfl) ?_
  intro p e s M args below meth c hx hb hr hG hown hin hlocks hml hW hS ls hl
  unfold fX8_next at hs0
  have hoff : ∀ j, nel j [1107, 1108] = false → m0 j = m0 j := off0
  have hoffa : ∀ j, nel j [21, 23] = false → a0 j = a0 j := off0
  refine lv_iconst (v := 0) hx hb dX8_next_0 (by decide) ?_
  refine lv_istore_n (lv' := [(2, .int 0), (0, .ref (q 11)), (1, .int p1)]) hx hb dX8_next_1 rfl hl (by decide) rfl (fun ls hl => ?_)
  obtain ⟨r1, hg1, hs0⟩ := obind hs0
  have hE1_74 : ∀ (t1_74 : Int32 × Int32 × (Nat → Int32) × (Nat → Int32)) (hr1 : Sum.inl t1_74 = r1) (m : Nat → Value) (a : Nat → vp_A) (H : Heap) (locs : List Loc) (w_x11_7 : m 1107 = .int t1_74.1) (w_x11_8 : m 1108 = .int t1_74.2.1) (hoff : ∀ j, nel j [1107, 1108] = false → m j = m0 j) (hsh : SH q m) (w_A21 : a 21 = (4, .inl t1_74.2.2.1)) (w_A23 : a 23 = (4, .inl t1_74.2.2.2)) (hoffa : ∀ j, nel j [21, 23] = false → a j = a0 j) (ls : Array Slot) (hl : lv_has ls 3 [(0, .ref (q 11))]) (hW : GW D cy (gA N q s.heap.size) N q m a s H) (hS : va_S (gA N q s.heap.size) s.heap H locs), W p l e ({ frames := 2, cells := 0, slots := 0, locals := 44 } : Room) s M args below meth c H locs 0 0 (MQ below (va_Qi (fun (r : Int32) (u : (Nat → Value) × (Nat → vp_A)) => r = X0.1 ∧ u.1 1107 = .int X0.2.1 ∧ u.1 1108 = .int X0.2.2.1 ∧ (∀ j, nel j [1107, 1108] = false → u.1 j = m0 j) ∧ u.2 21 = (4, .inl X0.2.2.2.1) ∧ u.2 23 = (4, .inl X0.2.2.2.2) ∧ (∀ j, nel j [21, 23] = false → u.2 j = a0 j)) (gB D cy N q s.heap.size) (gA N q s.heap.size)) args s 0 0 (gA N q s.heap.size)) (F0 M 74 ls []) := by
    intro t1_74 hr1 m a H locs w_x11_7 w_x11_8 hoff hsh w_A21 w_A23 hoffa ls hl hW hS
    subst hr1
    have hs0 := osum_l hs0
    refine lv_aload_n hx hb dX8_next_74 rfl (lv_at hl 0 rfl) ?_
    refine lv_dup hx hb dX8_next_75 rfl ?_
    refine gf8_8 hx hb hG hown hW (o := 11) (ltN hN 11 rfl) gk11 (v := .int t1_74.2.1) w_x11_8 gx1274 dX8_next_76 ?_
    refine lv_iconst (v := 1) hx hb dX8_next_79 (by decide) ?_
    refine lv_iadd hx hb dX8_next_80 ?_
    refine gp8_8 hx hb hG hown hW hS (o := 11) (ltN hN 11 rfl) gk11 (v := (t1_74.2.1 + 1)) gx1274 dX8_next_81 (fun m12 H locs hm12 ho12 hW hS => ?_)
    have ho12 := off1 ho12
    have w_x11_7 : m12 1107 = .int t1_74.1 := (ho12 1107 rfl).trans w_x11_7
    have w_x11_8 : m12 1108 = .int (t1_74.2.1 + 1) := hm12
    have hoff := offm hoff ho12 (by decide +kernel)
    have hsh := SH.off hsh ho12 (by decide +kernel)
    refine lv_aload_n hx hb dX8_next_84 rfl (lv_at hl 0 rfl) ?_
    refine gf8_8 hx hb hG hown hW (o := 11) (ltN hN 11 rfl) gk11 (v := .int (t1_74.2.1 + 1)) w_x11_8 gx1274 dX8_next_85 ?_
    refine lv_iconst (v := 1) hx hb dX8_next_88 (by decide) ?_
    refine lv_isub hx hb dX8_next_89 ?_
    have hs0 := Option.some.inj hs0
    subst hs0
    exact W.zret hx hb hr rfl (fun t ht hw => ⟨⟨_, (m12, a), rfl, ⟨rfl, w_x11_7, w_x11_8, hoff, w_A21, w_A23, hoffa⟩, g_end hW ht hw⟩, hS.F ht⟩) hS.2.2 dX8_next_90 hlocks
  have hE1_97 : ∀ (t1_97 : Int32 × Int32 × (Nat → Int32) × (Nat → Int32)) (hr1 : Sum.inr (t1_97) = r1) (m : Nat → Value) (a : Nat → vp_A) (H : Heap) (locs : List Loc) (w_x11_7 : m 1107 = .int t1_97.1) (w_x11_8 : m 1108 = .int t1_97.2.1) (hoff : ∀ j, nel j [1107, 1108] = false → m j = m0 j) (hsh : SH q m) (w_A21 : a 21 = (4, .inl t1_97.2.2.1)) (w_A23 : a 23 = (4, .inl t1_97.2.2.2)) (hoffa : ∀ j, nel j [21, 23] = false → a j = a0 j) (ls : Array Slot) (hl : lv_has ls 3 []) (hW : GW D cy (gA N q s.heap.size) N q m a s H) (hS : va_S (gA N q s.heap.size) s.heap H locs), W p l e ({ frames := 2, cells := 0, slots := 0, locals := 44 } : Room) s M args below meth c H locs 0 0 (MQ below (va_Qi (fun (r : Int32) (u : (Nat → Value) × (Nat → vp_A)) => r = X0.1 ∧ u.1 1107 = .int X0.2.1 ∧ u.1 1108 = .int X0.2.2.1 ∧ (∀ j, nel j [1107, 1108] = false → u.1 j = m0 j) ∧ u.2 21 = (4, .inl X0.2.2.2.1) ∧ u.2 23 = (4, .inl X0.2.2.2.2) ∧ (∀ j, nel j [21, 23] = false → u.2 j = a0 j)) (gB D cy N q s.heap.size) (gA N q s.heap.size)) args s 0 0 (gA N q s.heap.size)) (F0 M 97 ls []) := by
    intro t1_97 hr1 m a H locs w_x11_7 w_x11_8 hoff hsh w_A21 w_A23 hoffa ls hl hW hS
    subst hr1
    have hs0 := osum_r hs0
    refine lv_iconst (v := (-1)) hx hb dX8_next_97 (by decide) ?_
    have hs0 := Option.some.inj hs0
    subst hs0
    exact W.zret hx hb hr rfl (fun t ht hw => ⟨⟨_, (m, a), rfl, ⟨rfl, w_x11_7, w_x11_8, hoff, w_A21, w_A23, hoffa⟩, g_end hW ht hw⟩, hS.F ht⟩) hS.2.2 dX8_next_98 hlocks
  have hL1 : ∀ (n : Nat) (v2k1 : Int32) (x11_7k1 : Int32) (x11_8k1 : Int32) (A21k1 : Nat → Int32) (A23k1 : Nat → Int32) (m : Nat → Value) (a : Nat → vp_A) (H : Heap) (locs : List Loc) (w_x11_7 : m 1107 = .int x11_7k1) (w_x11_8 : m 1108 = .int x11_8k1) (hoff : ∀ j, nel j [1107, 1108] = false → m j = m0 j) (hsh : SH q m) (w_A21 : a 21 = (4, .inl A21k1)) (w_A23 : a 23 = (4, .inl A23k1)) (hoffa : ∀ j, nel j [21, 23] = false → a j = a0 j) (ls : Array Slot) (hl : lv_has ls 3 [(0, .ref (q 11)), (1, .int p1), (2, .int v2k1)]) (hg1 : gloop (fun u1 : (Int32 × Int32 × Int32 × (Nat → Int32) × (Nat → Int32)) => fX8_next_S2 F x11_6 A13 A15 A17 p1 u1.1 u1.2.1 u1.2.2.1 u1.2.2.2.1 u1.2.2.2.2) n (v2k1, x11_7k1, x11_8k1, A21k1, A23k1) = some r1) (hW : GW D cy (gA N q s.heap.size) N q m a s H) (hS : va_S (gA N q s.heap.size) s.heap H locs), W p l e ({ frames := 2, cells := 0, slots := 0, locals := 44 } : Room) s M args below meth c H locs 0 0 (MQ below (va_Qi (fun (r : Int32) (u : (Nat → Value) × (Nat → vp_A)) => r = X0.1 ∧ u.1 1107 = .int X0.2.1 ∧ u.1 1108 = .int X0.2.2.1 ∧ (∀ j, nel j [1107, 1108] = false → u.1 j = m0 j) ∧ u.2 21 = (4, .inl X0.2.2.2.1) ∧ u.2 23 = (4, .inl X0.2.2.2.2) ∧ (∀ j, nel j [21, 23] = false → u.2 j = a0 j)) (gB D cy N q s.heap.size) (gA N q s.heap.size)) args s 0 0 (gA N q s.heap.size)) (F0 M 2 ls []) := by
    intro n
    induction n with
    | zero => intro v2k1 x11_7k1 x11_8k1 A21k1 A23k1 m a H locs w_x11_7 w_x11_8 hoff hsh w_A21 w_A23 hoffa ls hl hg1 hW hS; exact (gl_zero hg1).elim
    | succ n ih1 =>
      intro v2k1 x11_7k1 x11_8k1 A21k1 A23k1 m a H locs w_x11_7 w_x11_8 hoff hsh w_A21 w_A23 hoffa ls hl hg1 hW hS
      obtain ⟨X1, hs1, hXl1, hXr1⟩ := gl_succ hg1
      have hs1 : fX8_next_S2 F x11_6 A13 A15 A17 p1 v2k1 x11_7k1 x11_8k1 A21k1 A23k1 = some X1 := hs1
      unfold fX8_next_S2 at hs1
      have hJ91_1 : ∀ (v2j21 : Int32) (x11_7j21 : Int32) (x11_8j21 : Int32) (A21j21 : Nat → Int32) (A23j21 : Nat → Int32) (m : Nat → Value) (a : Nat → vp_A) (H : Heap) (locs : List Loc) (w_x11_7 : m 1107 = .int x11_7j21) (w_x11_8 : m 1108 = .int x11_8j21) (hoff : ∀ j, nel j [1107, 1108] = false → m j = m0 j) (hsh : SH q m) (w_A21 : a 21 = (4, .inl A21j21)) (w_A23 : a 23 = (4, .inl A23j21)) (hoffa : ∀ j, nel j [21, 23] = false → a j = a0 j) (ls : Array Slot) (hl : lv_has ls 3 [(0, .ref (q 11)), (1, .int p1), (2, .int v2j21)]) (hs1 : fX8_next_J91 F x11_6 A13 A15 A17 p1 v2j21 x11_7j21 x11_8j21 A21j21 A23j21 = some X1) (hW : GW D cy (gA N q s.heap.size) N q m a s H) (hS : va_S (gA N q s.heap.size) s.heap H locs), W p l e ({ frames := 2, cells := 0, slots := 0, locals := 44 } : Room) s M args below meth c H locs 0 0 (MQ below (va_Qi (fun (r : Int32) (u : (Nat → Value) × (Nat → vp_A)) => r = X0.1 ∧ u.1 1107 = .int X0.2.1 ∧ u.1 1108 = .int X0.2.2.1 ∧ (∀ j, nel j [1107, 1108] = false → u.1 j = m0 j) ∧ u.2 21 = (4, .inl X0.2.2.2.1) ∧ u.2 23 = (4, .inl X0.2.2.2.2) ∧ (∀ j, nel j [21, 23] = false → u.2 j = a0 j)) (gB D cy N q s.heap.size) (gA N q s.heap.size)) args s 0 0 (gA N q s.heap.size)) (F0 M 91 ls []) := by
        intro v2j21 x11_7j21 x11_8j21 A21j21 A23j21 m a H locs w_x11_7 w_x11_8 hoff hsh w_A21 w_A23 hoffa ls hl hs1 hW hS
        unfold fX8_next_J91 at hs1
        refine lv_iinc (v := v2j21 + 1) (lv' := [(2, .int (v2j21 + 1)), (0, .ref (q 11)), (1, .int p1)]) hx hb dX8_next_91 hl (k := 2) rfl rfl (by decide) rfl (fun ls hl => ?_)
        refine lv_goto (tgt := 2) hx hb dX8_next_94 (by decide) ?_
        exact ih1 (v2j21 + 1) x11_7j21 x11_8j21 A21j21 A23j21 m a _ _ w_x11_7 w_x11_8 hoff hsh w_A21 w_A23 hoffa ls (lv_sub hl [1, 2, 0] rfl) (hXr1 _ (Option.some.inj hs1).symm) hW hS
      refine lv_iload_n hx hb dX8_next_2 rfl (lv_at hl 2 rfl) ?_
      refine lv_ldc (v := 1000000) hx hb hown (hG _ gx1279) dX8_next_3 ?_
      refine lv_icmp_ge (tgt := 97) hx hb dX8_next_5 (by decide) (fun c13 => ?_) (fun c13 => ?_)
      · rw [if_pos c13] at hs1
        exact hE1_97 (x11_7k1, x11_8k1, A21k1, A23k1) (hXl1 _ (Option.some.inj hs1).symm) m a _ _ w_x11_7 w_x11_8 hoff hsh w_A21 w_A23 hoffa ls (lv_sub hl [] rfl) hW hS
      · rw [if_neg c13] at hs1
        refine lv_aload_n hx hb dX8_next_8 rfl (lv_at hl 0 rfl) ?_
        refine gf8_8 hx hb hG hown hW (o := 11) (ltN hN 11 rfl) gk11 (v := .int x11_8k1) w_x11_8 gx1274 dX8_next_9 ?_
        refine lv_if_lt (tgt := 97) hx hb dX8_next_12 (by decide) (fun c14 => ?_) (fun c14 => ?_)
        · rw [if_pos c14] at hs1
          exact hE1_97 (x11_7k1, x11_8k1, A21k1, A23k1) (hXl1 _ (Option.some.inj hs1).symm) m a _ _ w_x11_7 w_x11_8 hoff hsh w_A21 w_A23 hoffa ls (lv_sub hl [] rfl) hW hS
        · rw [if_neg c14] at hs1
          refine lv_aload_n hx hb dX8_next_15 rfl (lv_at hl 0 rfl) ?_
          refine gf8_8 hx hb hG hown hW (o := 11) (ltN hN 11 rfl) gk11 (v := .int x11_8k1) w_x11_8 gx1274 dX8_next_16 ?_
          refine lv_aload_n hx hb dX8_next_19 rfl (lv_at hl 0 rfl) ?_
          refine gf8_6 hx hb hG hown hW (o := 11) (ltN hN 11 rfl) gk11 (v := .int x11_6) ((hoff 1106 rfl).trans h_x11_6) gx1148 dX8_next_20 ?_
          refine lv_icmp_ge (tgt := 97) hx hb dX8_next_23 (by decide) (fun c15 => ?_) (fun c15 => ?_)
          · rw [if_pos c15] at hs1
            exact hE1_97 (x11_7k1, x11_8k1, A21k1, A23k1) (hXl1 _ (Option.some.inj hs1).symm) m a _ _ w_x11_7 w_x11_8 hoff hsh w_A21 w_A23 hoffa ls (lv_sub hl [] rfl) hW hS
          · rw [if_neg c15] at hs1
            refine lv_aload_n hx hb dX8_next_26 rfl (lv_at hl 0 rfl) ?_
            refine gf8_0 hx hb hG hown hW (o := 11) (ltN hN 11 rfl) gk11 (v := .ref (q 12)) (sh11_0 hsh) gx68 dX8_next_27 ?_
            refine lv_aload_n hx hb dX8_next_30 rfl (lv_at hl 0 rfl) ?_
            refine gf8_8 hx hb hG hown hW (o := 11) (ltN hN 11 rfl) gk11 (v := .int x11_8k1) w_x11_8 gx1274 dX8_next_31 ?_
            refine g_ViR (n := 1) hx hb hml hown hG hW hS [.int x11_8k1] (kX2_at (ltN hN 12 rfl) gk12 (ltN hN 13 rfl) gk13 (sh12_0 hsh) (by decide) ((hoffa 13 rfl).trans h_A13) x11_8k1) (ltN hN 12 rfl) gk12 (by decide) rfl rfl (gd_V gx1176 gx564 gx565 gx47 gx566) rfl rfl (by decide) ⟨Nat.le_of_ble_eq_true rfl, Nat.le_of_ble_eq_true rfl⟩ rfl hl (Nat.le_of_ble_eq_true rfl) ⟨Nat.zero_le _, Nat.zero_le _⟩ dX8_next_34 (fun H locs hW hS => ?_)
            refine lv_bipush (v := 6) hx hb dX8_next_37 (by decide) ?_
            refine lv_icmp_ne (tgt := 50) hx hb dX8_next_39 (by decide) (fun c17 => ?_) (fun c17 => ?_)
            · rw [if_neg c17] at hs1
              refine lv_aload_n hx hb dX8_next_50 rfl (lv_at hl 0 rfl) ?_
              refine gf8_0 hx hb hG hown hW (o := 11) (ltN hN 11 rfl) gk11 (v := .ref (q 12)) (sh11_0 hsh) gx68 dX8_next_51 ?_
              refine lv_aload_n hx hb dX8_next_54 rfl (lv_at hl 0 rfl) ?_
              refine gf8_8 hx hb hG hown hW (o := 11) (ltN hN 11 rfl) gk11 (v := .int x11_8k1) w_x11_8 gx1274 dX8_next_55 ?_
              refine g_ViR (n := 1) hx hb hml hown hG hW hS [.int x11_8k1] (kX2_at (ltN hN 12 rfl) gk12 (ltN hN 13 rfl) gk13 (sh12_0 hsh) (by decide) ((hoffa 13 rfl).trans h_A13) x11_8k1) (ltN hN 12 rfl) gk12 (by decide) rfl rfl (gd_V gx1176 gx564 gx565 gx47 gx566) rfl rfl (by decide) ⟨Nat.le_of_ble_eq_true rfl, Nat.le_of_ble_eq_true rfl⟩ rfl hl (Nat.le_of_ble_eq_true rfl) ⟨Nat.zero_le _, Nat.zero_le _⟩ dX8_next_58 (fun H locs hW hS => ?_)
              refine lv_bipush (v := 7) hx hb dX8_next_61 (by decide) ?_
              refine lv_icmp_ne (tgt := 74) hx hb dX8_next_63 (by decide) (fun c19 => ?_) (fun c19 => ?_)
              · rw [if_neg c19] at hs1
                exact hE1_74 (x11_7k1, x11_8k1, A21k1, A23k1) (hXl1 _ (Option.some.inj hs1).symm) m a _ _ w_x11_7 w_x11_8 hoff hsh w_A21 w_A23 hoffa ls (lv_sub hl [0] rfl) hW hS
              · rw [if_pos c19] at hs1
                refine lv_aload_n hx hb dX8_next_66 rfl (lv_at hl 0 rfl) ?_
                refine lv_iload_n hx hb dX8_next_67 rfl (lv_at hl 1 rfl) ?_
                refine g_Vv (n := 1) hx hb hml hown hG hW hS [.int p1] (kX8_leave hN hsh ((hoffa 15 rfl).trans h_A15) w_x11_7 w_x11_8 w_A21 w_A23 p1) (ltN hN 11 rfl) gk11 (by decide) rfl rfl (gd_V gx1284 gx1285 gx1286 gx27 gx1287) rfl rfl (by decide) ⟨Nat.le_of_ble_eq_true rfl, Nat.le_of_ble_eq_true rfl⟩ rfl hl (Nat.le_of_ble_eq_true rfl) ⟨Nat.zero_le _, Nat.zero_le _⟩ dX8_next_68 (fun m20 a20 H locs hp20 hW hS => ?_)
                obtain ⟨hp20_x11_7, hp20_x11_8, ho20, hp20_A21, hp20_A23, hoa20⟩ := hp20
                have w_x11_7 : m20 1107 = .int ((fX8_leave A15 x11_7k1 x11_8k1 A21k1 A23k1 p1).1) := hp20_x11_7
                have w_x11_8 : m20 1108 = .int ((fX8_leave A15 x11_7k1 x11_8k1 A21k1 A23k1 p1).2.1) := hp20_x11_8
                have hoff := offm hoff ho20 (by decide +kernel)
                have hsh := SH.off hsh ho20 (by decide +kernel)
                have w_A21 : a20 21 = (4, .inl ((fX8_leave A15 x11_7k1 x11_8k1 A21k1 A23k1 p1).2.2.1)) := hp20_A21
                have w_A23 : a20 23 = (4, .inl ((fX8_leave A15 x11_7k1 x11_8k1 A21k1 A23k1 p1).2.2.2)) := hp20_A23
                have hoffa := offm hoffa hoa20 (by decide +kernel)
                refine lv_goto (tgt := 91) hx hb dX8_next_71 (by decide) ?_
                exact hJ91_1 v2k1 ((fX8_leave A15 x11_7k1 x11_8k1 A21k1 A23k1 p1).1) ((fX8_leave A15 x11_7k1 x11_8k1 A21k1 A23k1 p1).2.1) ((fX8_leave A15 x11_7k1 x11_8k1 A21k1 A23k1 p1).2.2.1) ((fX8_leave A15 x11_7k1 x11_8k1 A21k1 A23k1 p1).2.2.2) m20 a20 _ _ w_x11_7 w_x11_8 hoff hsh w_A21 w_A23 hoffa ls (lv_sub hl [0, 1, 2] rfl) hs1 hW hS
            · rw [if_pos c17] at hs1
              refine lv_aload_n hx hb dX8_next_42 rfl (lv_at hl 0 rfl) ?_
              refine lv_iload_n hx hb dX8_next_43 rfl (lv_at hl 1 rfl) ?_
              refine g_Vv (n := 1) hx hb hml hown hG hW hS [.int p1] (kX8_enter hN hsh ((hoffa 15 rfl).trans h_A15) ((hoffa 17 rfl).trans h_A17) w_x11_7 w_x11_8 w_A21 w_A23 p1) (ltN hN 11 rfl) gk11 (by decide) rfl rfl (gd_V gx1280 gx1281 gx1282 gx27 gx1283) rfl rfl (by decide) ⟨Nat.le_of_ble_eq_true rfl, Nat.le_of_ble_eq_true rfl⟩ rfl hl (Nat.le_of_ble_eq_true rfl) ⟨Nat.zero_le _, Nat.zero_le _⟩ dX8_next_44 (fun m22 a22 H locs hp22 hW hS => ?_)
              obtain ⟨hp22_x11_7, hp22_x11_8, ho22, hp22_A21, hp22_A23, hoa22⟩ := hp22
              have w_x11_7 : m22 1107 = .int ((fX8_enter A15 A17 x11_7k1 x11_8k1 A21k1 A23k1 p1).1) := hp22_x11_7
              have w_x11_8 : m22 1108 = .int ((fX8_enter A15 A17 x11_7k1 x11_8k1 A21k1 A23k1 p1).2.1) := hp22_x11_8
              have hoff := offm hoff ho22 (by decide +kernel)
              have hsh := SH.off hsh ho22 (by decide +kernel)
              have w_A21 : a22 21 = (4, .inl ((fX8_enter A15 A17 x11_7k1 x11_8k1 A21k1 A23k1 p1).2.2.1)) := hp22_A21
              have w_A23 : a22 23 = (4, .inl ((fX8_enter A15 A17 x11_7k1 x11_8k1 A21k1 A23k1 p1).2.2.2)) := hp22_A23
              have hoffa := offm hoffa hoa22 (by decide +kernel)
              refine lv_goto (tgt := 91) hx hb dX8_next_47 (by decide) ?_
              exact hJ91_1 v2k1 ((fX8_enter A15 A17 x11_7k1 x11_8k1 A21k1 A23k1 p1).1) ((fX8_enter A15 A17 x11_7k1 x11_8k1 A21k1 A23k1 p1).2.1) ((fX8_enter A15 A17 x11_7k1 x11_8k1 A21k1 A23k1 p1).2.2.1) ((fX8_enter A15 A17 x11_7k1 x11_8k1 A21k1 A23k1 p1).2.2.2) m22 a22 _ _ w_x11_7 w_x11_8 hoff hsh w_A21 w_A23 hoffa ls (lv_sub hl [0, 1, 2] rfl) hs1 hW hS
  exact hL1 F 0 x11_7 x11_8 A21 A23 m0 a0 _ _ h_x11_7 h_x11_8 hoff hsh h_A21 h_A23 hoffa ls (lv_sub hl [1, 2, 0] rfl) hg1 hW hS
-- HealLink$Tape.hasRoom (I)Z
def fX10_hasRoom (x24_0 : Int32) (p1 : Int32) : Int32 := (if 264 < (x24_0 + p1) then 0 else 1)
theorem dX10_hasRoom_0 : decode cX10_hasRoom 0 = .ok (.aload_n 0, 1) := by decide +kernel
theorem dX10_hasRoom_1 : decode cX10_hasRoom 1 = .ok (.getfield 20, 3) := by decide +kernel
theorem dX10_hasRoom_4 : decode cX10_hasRoom 4 = .ok (.iload_n 1, 1) := by decide +kernel
theorem dX10_hasRoom_5 : decode cX10_hasRoom 5 = .ok (.iadd, 1) := by decide +kernel
theorem dX10_hasRoom_6 : decode cX10_hasRoom 6 = .ok (.sipush 264, 3) := by decide +kernel
theorem dX10_hasRoom_9 : decode cX10_hasRoom 9 = .ok (.if_icmp .gt 7, 3) := by decide +kernel
theorem dX10_hasRoom_12 : decode cX10_hasRoom 12 = .ok (.iconst 1, 1) := by decide +kernel
theorem dX10_hasRoom_13 : decode cX10_hasRoom 13 = .ok (.goto 4, 3) := by decide +kernel
theorem dX10_hasRoom_16 : decode cX10_hasRoom 16 = .ok (.iconst 0, 1) := by decide +kernel
theorem dX10_hasRoom_17 : decode cX10_hasRoom 17 = .ok (.ireturn, 1) := by decide +kernel
set_option maxHeartbeats 4000000 in
set_option maxRecDepth 100000 in
theorem kX10_hasRoom {l : Launch} {D : va_G} {cy : Nat → ClassId} {N : Nat} {q : Nat → Nat} {m0 : Nat → Value} {a0 : Nat → vp_A} {sz : Nat} (hN : 105 ≤ N) {x24_0 : Int32} (h_x24_0 : m0 2400 = .int x24_0) (p1 : Int32) : gMi l yX10_hasRoom cX10_hasRoom 2 (some .boolean) ({ frames := 0, cells := 0, slots := 0, locals := 0 } : Room) D cy N q m0 a0 sz [.ref (q 24), .int p1] (fun r m' a' => r = (fX10_hasRoom x24_0 p1) ∧ m' = m0 ∧ a' = a0) := by
  generalize hs0 : fX10_hasRoom x24_0 p1 = X0
  refine g_ofi (by decide) (Nat.le_of_ble_eq_true rfl) ?_
  intro p e s M args below meth c hx hb hr hG hown hin hlocks hml hW hS ls hl
  unfold fX10_hasRoom at hs0
  refine lv_aload_n hx hb dX10_hasRoom_0 rfl (lv_at hl 0 rfl) ?_
  refine gf10_0 hx hb hG hown hW (o := 24) (ltN hN 24 rfl) gk24 (v := .int x24_0) h_x24_0 gx1110 dX10_hasRoom_1 ?_
  refine lv_iload_n hx hb dX10_hasRoom_4 rfl (lv_at hl 1 rfl) ?_
  refine lv_iadd hx hb dX10_hasRoom_5 ?_
  refine lv_sipush (v := 264) hx hb dX10_hasRoom_6 (by decide) ?_
  refine lv_icmp_gt (tgt := 16) hx hb dX10_hasRoom_9 (by decide) (fun c1 => ?_) (fun c1 => ?_)
  · rw [if_pos c1] at hs0
    refine lv_iconst (v := 0) hx hb dX10_hasRoom_16 (by decide) ?_
    subst hs0
    exact W.zret hx hb hr rfl (fun t ht hw => ⟨⟨_, (m0, a0), rfl, ⟨rfl, rfl, rfl⟩, g_end hW ht hw⟩, hS.F ht⟩) hS.2.2 dX10_hasRoom_17 hlocks
  · rw [if_neg c1] at hs0
    refine lv_iconst (v := 1) hx hb dX10_hasRoom_12 (by decide) ?_
    refine lv_goto (tgt := 17) hx hb dX10_hasRoom_13 (by decide) ?_
    subst hs0
    exact W.zret hx hb hr rfl (fun t ht hw => ⟨⟨_, (m0, a0), rfl, ⟨rfl, rfl, rfl⟩, g_end hW ht hw⟩, hS.F ht⟩) hS.2.2 dX10_hasRoom_17 hlocks
-- HealLink$Tape.append (J)V
def fX10_append_S3 (F : Nat) (v1 : Int64) (v3 : Int32) (x24_0 : Int32) (A26 : Nat → Int32) : Option ((Int32 × (Nat → Int32)) ⊕ (Int32 × Int32 × (Nat → Int32))) := (if v3 < 0 then some (Sum.inl (x24_0, A26)) else (if 264 ≤ x24_0 then some (Sum.inl (x24_0, A26)) else some (Sum.inr (v3 + (-8), x24_0 + 1, (cPut 264 A26 x24_0 ((((v1.toUInt64 >>> (v3.toInt64.toUInt64 &&& Int64.toUInt64 63)).toInt64).toInt32) &&& (255 : Int32)))))))
def fX10_append (F : Nat) (x24_0 : Int32) (A26 : Nat → Int32) (p1 : Int64) : Option (Int32 × (Nat → Int32)) := (gloop (fun u1 : (Int32 × Int32 × (Nat → Int32)) => fX10_append_S3 F p1 u1.1 u1.2.1 u1.2.2) F (56, x24_0, A26)).bind (fun t1_52 => some (t1_52.1, t1_52.2))
theorem dX10_append_0 : decode cX10_append 0 = .ok (.bipush 56, 2) := by decide +kernel
theorem dX10_append_2 : decode cX10_append 2 = .ok (.istore_n 3, 1) := by decide +kernel
theorem dX10_append_3 : decode cX10_append 3 = .ok (.iload_n 3, 1) := by decide +kernel
theorem dX10_append_4 : decode cX10_append 4 = .ok (.ifCond .lt 48, 3) := by decide +kernel
theorem dX10_append_7 : decode cX10_append 7 = .ok (.aload_n 0, 1) := by decide +kernel
theorem dX10_append_8 : decode cX10_append 8 = .ok (.getfield 20, 3) := by decide +kernel
theorem dX10_append_11 : decode cX10_append 11 = .ok (.sipush 264, 3) := by decide +kernel
theorem dX10_append_14 : decode cX10_append 14 = .ok (.if_icmp .ge 38, 3) := by decide +kernel
theorem dX10_append_17 : decode cX10_append 17 = .ok (.aload_n 0, 1) := by decide +kernel
theorem dX10_append_18 : decode cX10_append 18 = .ok (.getfield 16, 3) := by decide +kernel
theorem dX10_append_21 : decode cX10_append 21 = .ok (.aload_n 0, 1) := by decide +kernel
theorem dX10_append_22 : decode cX10_append 22 = .ok (.getfield 20, 3) := by decide +kernel
theorem dX10_append_25 : decode cX10_append 25 = .ok (.lload_n 1, 1) := by decide +kernel
theorem dX10_append_26 : decode cX10_append 26 = .ok (.iload_n 3, 1) := by decide +kernel
theorem dX10_append_27 : decode cX10_append 27 = .ok (.lushr, 1) := by decide +kernel
theorem dX10_append_28 : decode cX10_append 28 = .ok (.l2i, 1) := by decide +kernel
theorem dX10_append_29 : decode cX10_append 29 = .ok (.sipush 255, 3) := by decide +kernel
theorem dX10_append_32 : decode cX10_append 32 = .ok (.iand, 1) := by decide +kernel
theorem dX10_append_33 : decode cX10_append 33 = .ok (.invokevirtual 24, 3) := by decide +kernel
theorem dX10_append_36 : decode cX10_append 36 = .ok (.aload_n 0, 1) := by decide +kernel
theorem dX10_append_37 : decode cX10_append 37 = .ok (.dup, 1) := by decide +kernel
theorem dX10_append_38 : decode cX10_append 38 = .ok (.getfield 20, 3) := by decide +kernel
theorem dX10_append_41 : decode cX10_append 41 = .ok (.iconst 1, 1) := by decide +kernel
theorem dX10_append_42 : decode cX10_append 42 = .ok (.iadd, 1) := by decide +kernel
theorem dX10_append_43 : decode cX10_append 43 = .ok (.putfield 20, 3) := by decide +kernel
theorem dX10_append_46 : decode cX10_append 46 = .ok (.iinc 3 (-8), 3) := by decide +kernel
theorem dX10_append_49 : decode cX10_append 49 = .ok (.goto (-46), 3) := by decide +kernel
theorem dX10_append_52 : decode cX10_append 52 = .ok (.return_, 1) := by decide +kernel
set_option maxHeartbeats 4000000 in
set_option maxRecDepth 100000 in
theorem kX10_append {l : Launch} {D : va_G} {cy : Nat → ClassId} {N : Nat} {q : Nat → Nat} {m0 : Nat → Value} {a0 : Nat → vp_A} {sz : Nat} (hN : 105 ≤ N) (hsh : SH q m0) {x24_0 : Int32} (h_x24_0 : m0 2400 = .int x24_0) {A26 : Nat → Int32} (h_A26 : a0 26 = (264, .inl A26)) (F : Nat) (p1 : Int64) {X0 : Int32 × (Nat → Int32)} (hs0 : fX10_append F x24_0 A26 p1 = some X0) : gMv l yX10_append cX10_append 4 none ({ frames := 1, cells := 0, slots := 0, locals := 22 } : Room) D cy N q m0 a0 sz [.ref (q 24), .long p1] (fun m' a' => m' 2400 = .int X0.1 ∧ (∀ j, nel j [2400] = false → m' j = m0 j) ∧ a' 26 = (264, .inl X0.2) ∧ (∀ j, nel j [26] = false → a' j = a0 j)) := by
  refine g_ofv (by decide) (Nat.le_of_ble_eq_true rfl) ?_
  intro p e s M args below meth c hx hb hr hG hown hin hlocks hml hW hS ls hl
  unfold fX10_append at hs0
  have hoff : ∀ j, nel j [2400] = false → m0 j = m0 j := off0
  have hoffa : ∀ j, nel j [26] = false → a0 j = a0 j := off0
  refine lv_bipush (v := 56) hx hb dX10_append_0 (by decide) ?_
  refine lv_istore_n (lv' := [(3, .int 56), (0, .ref (q 24)), (1, .long p1)]) hx hb dX10_append_2 rfl hl (by decide) rfl (fun ls hl => ?_)
  obtain ⟨r1, hg1, hs0⟩ := obind hs0
  have hE1_52 : ∀ (t1_52 : Int32 × (Nat → Int32)) (hr1 : t1_52 = r1) (m : Nat → Value) (a : Nat → vp_A) (H : Heap) (locs : List Loc) (w_x24_0 : m 2400 = .int t1_52.1) (hoff : ∀ j, nel j [2400] = false → m j = m0 j) (hsh : SH q m) (w_A26 : a 26 = (264, .inl t1_52.2)) (hoffa : ∀ j, nel j [26] = false → a j = a0 j) (ls : Array Slot) (hl : lv_has ls 4 []) (hW : GW D cy (gA N q s.heap.size) N q m a s H) (hS : va_S (gA N q s.heap.size) s.heap H locs), W p l e ({ frames := 1, cells := 0, slots := 0, locals := 22 } : Room) s M args below meth c H locs 0 0 (MQ below (va_Qv (fun (u : (Nat → Value) × (Nat → vp_A)) => u.1 2400 = .int X0.1 ∧ (∀ j, nel j [2400] = false → u.1 j = m0 j) ∧ u.2 26 = (264, .inl X0.2) ∧ (∀ j, nel j [26] = false → u.2 j = a0 j)) (gB D cy N q s.heap.size) (gA N q s.heap.size)) args s 0 0 (gA N q s.heap.size)) (F0 M 52 ls []) := by
    intro t1_52 hr1 m a H locs w_x24_0 hoff hsh w_A26 hoffa ls hl hW hS
    subst hr1
    have hs0 := Option.some.inj hs0
    subst hs0
    exact W.vret hx hb hr (fun t ht hw => ⟨⟨(m, a), rfl, ⟨w_x24_0, hoff, w_A26, hoffa⟩, g_end hW ht hw⟩, hS.F ht⟩) hS.2.2 dX10_append_52 hlocks
  have hL1 : ∀ (n : Nat) (v3k1 : Int32) (x24_0k1 : Int32) (A26k1 : Nat → Int32) (m : Nat → Value) (a : Nat → vp_A) (H : Heap) (locs : List Loc) (w_x24_0 : m 2400 = .int x24_0k1) (hoff : ∀ j, nel j [2400] = false → m j = m0 j) (hsh : SH q m) (w_A26 : a 26 = (264, .inl A26k1)) (hoffa : ∀ j, nel j [26] = false → a j = a0 j) (ls : Array Slot) (hl : lv_has ls 4 [(0, .ref (q 24)), (1, .long p1), (3, .int v3k1)]) (hg1 : gloop (fun u1 : (Int32 × Int32 × (Nat → Int32)) => fX10_append_S3 F p1 u1.1 u1.2.1 u1.2.2) n (v3k1, x24_0k1, A26k1) = some r1) (hW : GW D cy (gA N q s.heap.size) N q m a s H) (hS : va_S (gA N q s.heap.size) s.heap H locs), W p l e ({ frames := 1, cells := 0, slots := 0, locals := 22 } : Room) s M args below meth c H locs 0 0 (MQ below (va_Qv (fun (u : (Nat → Value) × (Nat → vp_A)) => u.1 2400 = .int X0.1 ∧ (∀ j, nel j [2400] = false → u.1 j = m0 j) ∧ u.2 26 = (264, .inl X0.2) ∧ (∀ j, nel j [26] = false → u.2 j = a0 j)) (gB D cy N q s.heap.size) (gA N q s.heap.size)) args s 0 0 (gA N q s.heap.size)) (F0 M 3 ls []) := by
    intro n
    induction n with
    | zero => intro v3k1 x24_0k1 A26k1 m a H locs w_x24_0 hoff hsh w_A26 hoffa ls hl hg1 hW hS; exact (gl_zero hg1).elim
    | succ n ih1 =>
      intro v3k1 x24_0k1 A26k1 m a H locs w_x24_0 hoff hsh w_A26 hoffa ls hl hg1 hW hS
      obtain ⟨X1, hs1, hXl1, hXr1⟩ := gl_succ hg1
      have hs1 : fX10_append_S3 F p1 v3k1 x24_0k1 A26k1 = some X1 := hs1
      unfold fX10_append_S3 at hs1
      refine lv_iload_n hx hb dX10_append_3 rfl (lv_at hl 2 rfl) ?_
      refine lv_if_lt (tgt := 52) hx hb dX10_append_4 (by decide) (fun c6 => ?_) (fun c6 => ?_)
      · rw [if_pos c6] at hs1
        exact hE1_52 (x24_0k1, A26k1) (hXl1 _ (Option.some.inj hs1).symm) m a _ _ w_x24_0 hoff hsh w_A26 hoffa ls (lv_sub hl [] rfl) hW hS
      · rw [if_neg c6] at hs1
        refine lv_aload_n hx hb dX10_append_7 rfl (lv_at hl 0 rfl) ?_
        refine gf10_0 hx hb hG hown hW (o := 24) (ltN hN 24 rfl) gk24 (v := .int x24_0k1) w_x24_0 gx1110 dX10_append_8 ?_
        refine lv_sipush (v := 264) hx hb dX10_append_11 (by decide) ?_
        refine lv_icmp_ge (tgt := 52) hx hb dX10_append_14 (by decide) (fun c7 => ?_) (fun c7 => ?_)
        · rw [if_pos c7] at hs1
          exact hE1_52 (x24_0k1, A26k1) (hXl1 _ (Option.some.inj hs1).symm) m a _ _ w_x24_0 hoff hsh w_A26 hoffa ls (lv_sub hl [] rfl) hW hS
        · rw [if_neg c7] at hs1
          refine lv_aload_n hx hb dX10_append_17 rfl (lv_at hl 0 rfl) ?_
          refine gf10_1 hx hb hG hown hW (o := 24) (ltN hN 24 rfl) gk24 (v := .ref (q 25)) (sh24_1 hsh) gx79 dX10_append_18 ?_
          refine lv_aload_n hx hb dX10_append_21 rfl (lv_at hl 0 rfl) ?_
          refine gf10_0 hx hb hG hown hW (o := 24) (ltN hN 24 rfl) gk24 (v := .int x24_0k1) w_x24_0 gx1110 dX10_append_22 ?_
          refine lv_lload_n hx hb dX10_append_25 rfl (lv_at hl 1 rfl) ?_
          refine lv_iload_n hx hb dX10_append_26 rfl (lv_at hl 2 rfl) ?_
          refine lv_lushr hx hb dX10_append_27 rfl ?_
          refine lv_l2i hx hb dX10_append_28 rfl ?_
          refine lv_sipush (v := 255) hx hb dX10_append_29 (by decide) ?_
          refine lv_iand hx hb dX10_append_32 ?_
          refine g_Vv (n := 2) hx hb hml hown hG hW hS [.int x24_0k1, .int ((((p1.toUInt64 >>> (v3k1.toInt64.toUInt64 &&& Int64.toUInt64 63)).toInt64).toInt32) &&& (255 : Int32))] (kX2_put (ltN hN 25 rfl) gk25 (ltN hN 26 rfl) gk26 (sh25_0 hsh) (by decide) w_A26 x24_0k1 ((((p1.toUInt64 >>> (v3k1.toInt64.toUInt64 &&& Int64.toUInt64 63)).toInt64).toInt32) &&& (255 : Int32))) (ltN hN 25 rfl) gk25 (by decide) rfl rfl (gd_V gx1115 gx551 gx552 gx47 gx553) rfl rfl (by decide) ⟨Nat.le_of_ble_eq_true rfl, Nat.le_of_ble_eq_true rfl⟩ rfl hl (Nat.le_of_ble_eq_true rfl) ⟨Nat.zero_le _, Nat.zero_le _⟩ dX10_append_33 (fun m8 a8 H locs hp8 hW hS => ?_)
          obtain ⟨hm8, hp8_A26, hoa8⟩ := hp8
          rw [hm8] at hW
          have w_A26 : a8 26 = (264, .inl (cPut 264 A26k1 x24_0k1 ((((p1.toUInt64 >>> (v3k1.toInt64.toUInt64 &&& Int64.toUInt64 63)).toInt64).toInt32) &&& (255 : Int32)))) := hp8_A26
          have hoffa := offm hoffa hoa8 (by decide +kernel)
          refine lv_aload_n hx hb dX10_append_36 rfl (lv_at hl 0 rfl) ?_
          refine lv_dup hx hb dX10_append_37 rfl ?_
          refine gf10_0 hx hb hG hown hW (o := 24) (ltN hN 24 rfl) gk24 (v := .int x24_0k1) w_x24_0 gx1110 dX10_append_38 ?_
          refine lv_iconst (v := 1) hx hb dX10_append_41 (by decide) ?_
          refine lv_iadd hx hb dX10_append_42 ?_
          refine gp10_0 hx hb hG hown hW hS (o := 24) (ltN hN 24 rfl) gk24 (v := (x24_0k1 + 1)) gx1110 dX10_append_43 (fun m9 H locs hm9 ho9 hW hS => ?_)
          have ho9 := off1 ho9
          have w_x24_0 : m9 2400 = .int (x24_0k1 + 1) := hm9
          have hoff := offm hoff ho9 (by decide +kernel)
          have hsh := SH.off hsh ho9 (by decide +kernel)
          refine lv_iinc (v := v3k1 + (-8)) (lv' := [(3, .int (v3k1 + (-8))), (0, .ref (q 24)), (1, .long p1)]) hx hb dX10_append_46 hl (k := 2) rfl (congrArg (fun z => v3k1 + z) (by decide : Int32.ofInt (-8) = (-8))) (by decide) rfl (fun ls hl => ?_)
          refine lv_goto (tgt := 3) hx hb dX10_append_49 (by decide) ?_
          exact ih1 (v3k1 + (-8)) (x24_0k1 + 1) (cPut 264 A26k1 x24_0k1 ((((p1.toUInt64 >>> (v3k1.toInt64.toUInt64 &&& Int64.toUInt64 63)).toInt64).toInt32) &&& (255 : Int32))) m9 a8 _ _ w_x24_0 hoff hsh w_A26 hoffa ls (lv_sub hl [1, 2, 0] rfl) (hXr1 _ (Option.some.inj hs1).symm) hW hS
  exact hL1 F 56 x24_0 A26 m0 a0 _ _ h_x24_0 hoff hsh h_A26 hoffa ls (lv_sub hl [1, 2, 0] rfl) hg1 hW hS
-- HealLink$Tape.blame (II)V
def fX10_blame (x24_4 : Int32) (p1 : Int32) (p2 : Int32) : Int32 := (if x24_4 = (-1) then (8 * p1) + p2 else x24_4)
theorem dX10_blame_0 : decode cX10_blame 0 = .ok (.aload_n 0, 1) := by decide +kernel
theorem dX10_blame_1 : decode cX10_blame 1 = .ok (.getfield 40, 3) := by decide +kernel
theorem dX10_blame_4 : decode cX10_blame 4 = .ok (.iconst (-1), 1) := by decide +kernel
theorem dX10_blame_5 : decode cX10_blame 5 = .ok (.if_icmp .ne 13, 3) := by decide +kernel
theorem dX10_blame_8 : decode cX10_blame 8 = .ok (.aload_n 0, 1) := by decide +kernel
theorem dX10_blame_9 : decode cX10_blame 9 = .ok (.bipush 8, 2) := by decide +kernel
theorem dX10_blame_11 : decode cX10_blame 11 = .ok (.iload_n 1, 1) := by decide +kernel
theorem dX10_blame_12 : decode cX10_blame 12 = .ok (.imul, 1) := by decide +kernel
theorem dX10_blame_13 : decode cX10_blame 13 = .ok (.iload_n 2, 1) := by decide +kernel
theorem dX10_blame_14 : decode cX10_blame 14 = .ok (.iadd, 1) := by decide +kernel
theorem dX10_blame_15 : decode cX10_blame 15 = .ok (.putfield 40, 3) := by decide +kernel
theorem dX10_blame_18 : decode cX10_blame 18 = .ok (.return_, 1) := by decide +kernel
set_option maxHeartbeats 4000000 in
set_option maxRecDepth 100000 in
theorem kX10_blame {l : Launch} {D : va_G} {cy : Nat → ClassId} {N : Nat} {q : Nat → Nat} {m0 : Nat → Value} {a0 : Nat → vp_A} {sz : Nat} (hN : 105 ≤ N) (hsh : SH q m0) {x24_4 : Int32} (h_x24_4 : m0 2404 = .int x24_4) (p1 : Int32) (p2 : Int32) : gMv l yX10_blame cX10_blame 3 none ({ frames := 0, cells := 0, slots := 0, locals := 0 } : Room) D cy N q m0 a0 sz [.ref (q 24), .int p1, .int p2] (fun m' a' => m' 2404 = .int (fX10_blame x24_4 p1 p2) ∧ (∀ j, nel j [2404] = false → m' j = m0 j) ∧ a' = a0) := by
  generalize hs0 : fX10_blame x24_4 p1 p2 = X0
  refine g_ofv (by decide) (Nat.le_of_ble_eq_true rfl) ?_
  intro p e s M args below meth c hx hb hr hG hown hin hlocks hml hW hS ls hl
  unfold fX10_blame at hs0
  have hoff : ∀ j, nel j [2404] = false → m0 j = m0 j := off0
  refine lv_aload_n hx hb dX10_blame_0 rfl (lv_at hl 0 rfl) ?_
  refine gf10_4 hx hb hG hown hW (o := 24) (ltN hN 24 rfl) gk24 (v := .int x24_4) h_x24_4 gx1143 dX10_blame_1 ?_
  refine lv_iconst (v := (-1)) hx hb dX10_blame_4 (by decide) ?_
  refine lv_icmp_ne (tgt := 18) hx hb dX10_blame_5 (by decide) (fun c1 => ?_) (fun c1 => ?_)
  · rw [if_neg c1] at hs0
    subst hs0
    exact W.vret hx hb hr (fun t ht hw => ⟨⟨(m0, a0), rfl, ⟨h_x24_4, hoff, rfl⟩, g_end hW ht hw⟩, hS.F ht⟩) hS.2.2 dX10_blame_18 hlocks
  · rw [if_pos c1] at hs0
    refine lv_aload_n hx hb dX10_blame_8 rfl (lv_at hl 0 rfl) ?_
    refine lv_bipush (v := 8) hx hb dX10_blame_9 (by decide) ?_
    refine lv_iload_n hx hb dX10_blame_11 rfl (lv_at hl 1 rfl) ?_
    refine lv_imul hx hb dX10_blame_12 ?_
    refine lv_iload_n hx hb dX10_blame_13 rfl (lv_at hl 2 rfl) ?_
    refine lv_iadd hx hb dX10_blame_14 ?_
    refine gp10_4 hx hb hG hown hW hS (o := 24) (ltN hN 24 rfl) gk24 (v := ((8 * p1) + p2)) gx1143 dX10_blame_15 (fun m2 H locs hm2 ho2 hW hS => ?_)
    have ho2 := off1 ho2
    have w_x24_4 : m2 2404 = .int ((8 * p1) + p2) := hm2
    have hoff := offm hoff ho2 (by decide +kernel)
    have hsh := SH.off hsh ho2 (by decide +kernel)
    subst hs0
    exact W.vret hx hb hr (fun t ht hw => ⟨⟨(m2, a0), rfl, ⟨w_x24_4, hoff, rfl⟩, g_end hW ht hw⟩, hS.F ht⟩) hS.2.2 dX10_blame_18 hlocks
-- HealLink$Tape.peek ()I
def fX10_peek (x24_2 : Int32) (x24_3 : Int32) (A26 : Nat → Int32) : Int32 := (if x24_2 ≤ x24_3 then (-1) else (cAt 264 A26 x24_3))
theorem dX10_peek_0 : decode cX10_peek 0 = .ok (.aload_n 0, 1) := by decide +kernel
theorem dX10_peek_1 : decode cX10_peek 1 = .ok (.getfield 37, 3) := by decide +kernel
theorem dX10_peek_4 : decode cX10_peek 4 = .ok (.aload_n 0, 1) := by decide +kernel
theorem dX10_peek_5 : decode cX10_peek 5 = .ok (.getfield 34, 3) := by decide +kernel
theorem dX10_peek_8 : decode cX10_peek 8 = .ok (.if_icmp .ge 17, 3) := by decide +kernel
theorem dX10_peek_11 : decode cX10_peek 11 = .ok (.aload_n 0, 1) := by decide +kernel
theorem dX10_peek_12 : decode cX10_peek 12 = .ok (.getfield 16, 3) := by decide +kernel
theorem dX10_peek_15 : decode cX10_peek 15 = .ok (.aload_n 0, 1) := by decide +kernel
theorem dX10_peek_16 : decode cX10_peek 16 = .ok (.getfield 37, 3) := by decide +kernel
theorem dX10_peek_19 : decode cX10_peek 19 = .ok (.invokevirtual 118, 3) := by decide +kernel
theorem dX10_peek_22 : decode cX10_peek 22 = .ok (.goto 4, 3) := by decide +kernel
theorem dX10_peek_25 : decode cX10_peek 25 = .ok (.iconst (-1), 1) := by decide +kernel
theorem dX10_peek_26 : decode cX10_peek 26 = .ok (.ireturn, 1) := by decide +kernel
set_option maxHeartbeats 4000000 in
set_option maxRecDepth 100000 in
theorem kX10_peek {l : Launch} {D : va_G} {cy : Nat → ClassId} {N : Nat} {q : Nat → Nat} {m0 : Nat → Value} {a0 : Nat → vp_A} {sz : Nat} (hN : 105 ≤ N) (hsh : SH q m0) {x24_2 : Int32} (h_x24_2 : m0 2402 = .int x24_2) {x24_3 : Int32} (h_x24_3 : m0 2403 = .int x24_3) {A26 : Nat → Int32} (h_A26 : a0 26 = (264, .inl A26)) : gMi l yX10_peek cX10_peek 1 (some .int) ({ frames := 1, cells := 0, slots := 0, locals := 21 } : Room) D cy N q m0 a0 sz [.ref (q 24)] (fun r m' a' => r = (fX10_peek x24_2 x24_3 A26) ∧ m' = m0 ∧ a' = a0) := by
  generalize hs0 : fX10_peek x24_2 x24_3 A26 = X0
  refine g_ofi (by decide) (Nat.le_of_ble_eq_true rfl) ?_
  intro p e s M args below meth c hx hb hr hG hown hin hlocks hml hW hS ls hl
  unfold fX10_peek at hs0
  refine lv_aload_n hx hb dX10_peek_0 rfl (lv_at hl 0 rfl) ?_
  refine gf10_3 hx hb hG hown hW (o := 24) (ltN hN 24 rfl) gk24 (v := .int x24_3) h_x24_3 gx1142 dX10_peek_1 ?_
  refine lv_aload_n hx hb dX10_peek_4 rfl (lv_at hl 0 rfl) ?_
  refine gf10_2 hx hb hG hown hW (o := 24) (ltN hN 24 rfl) gk24 (v := .int x24_2) h_x24_2 gx1141 dX10_peek_5 ?_
  refine lv_icmp_ge (tgt := 25) hx hb dX10_peek_8 (by decide) (fun c1 => ?_) (fun c1 => ?_)
  · rw [if_pos c1] at hs0
    refine lv_iconst (v := (-1)) hx hb dX10_peek_25 (by decide) ?_
    subst hs0
    exact W.zret hx hb hr rfl (fun t ht hw => ⟨⟨_, (m0, a0), rfl, ⟨rfl, rfl, rfl⟩, g_end hW ht hw⟩, hS.F ht⟩) hS.2.2 dX10_peek_26 hlocks
  · rw [if_neg c1] at hs0
    refine lv_aload_n hx hb dX10_peek_11 rfl (lv_at hl 0 rfl) ?_
    refine gf10_1 hx hb hG hown hW (o := 24) (ltN hN 24 rfl) gk24 (v := .ref (q 25)) (sh24_1 hsh) gx79 dX10_peek_12 ?_
    refine lv_aload_n hx hb dX10_peek_15 rfl (lv_at hl 0 rfl) ?_
    refine gf10_3 hx hb hG hown hW (o := 24) (ltN hN 24 rfl) gk24 (v := .int x24_3) h_x24_3 gx1142 dX10_peek_16 ?_
    refine g_ViR (n := 1) hx hb hml hown hG hW hS [.int x24_3] (kX2_at (ltN hN 25 rfl) gk25 (ltN hN 26 rfl) gk26 (sh25_0 hsh) (by decide) h_A26 x24_3) (ltN hN 25 rfl) gk25 (by decide) rfl rfl (gd_V gx1158 gx564 gx565 gx47 gx566) rfl rfl (by decide) ⟨Nat.le_of_ble_eq_true rfl, Nat.le_of_ble_eq_true rfl⟩ rfl hl (Nat.le_of_ble_eq_true rfl) ⟨Nat.zero_le _, Nat.zero_le _⟩ dX10_peek_19 (fun H locs hW hS => ?_)
    refine lv_goto (tgt := 26) hx hb dX10_peek_22 (by decide) ?_
    subst hs0
    exact W.zret hx hb hr rfl (fun t ht hw => ⟨⟨_, (m0, a0), rfl, ⟨rfl, rfl, rfl⟩, g_end hW ht hw⟩, hS.F ht⟩) hS.2.2 dX10_peek_26 hlocks
-- HealLink$Tape.skipBlanks ()V
def fX10_skipBlanks_S0 (F : Nat) (x24_2 : Int32) (A26 : Nat → Int32) (x24_3 : Int32) : Option ((Int32) ⊕ (Int32)) := (if x24_2 ≤ x24_3 then some (Sum.inl x24_3) else (if (fX10_peek x24_2 x24_3 A26) = 32 then some (Sum.inr (x24_3 + 1)) else some (Sum.inl x24_3)))
def fX10_skipBlanks (F : Nat) (x24_2 : Int32) (A26 : Nat → Int32) (x24_3 : Int32) : Option (Int32) := (gloop (fun u1 : Int32 => fX10_skipBlanks_S0 F x24_2 A26 u1) F x24_3).bind (fun t1_33 => some t1_33)
theorem dX10_skipBlanks_0 : decode cX10_skipBlanks 0 = .ok (.aload_n 0, 1) := by decide +kernel
theorem dX10_skipBlanks_1 : decode cX10_skipBlanks 1 = .ok (.getfield 37, 3) := by decide +kernel
theorem dX10_skipBlanks_4 : decode cX10_skipBlanks 4 = .ok (.aload_n 0, 1) := by decide +kernel
theorem dX10_skipBlanks_5 : decode cX10_skipBlanks 5 = .ok (.getfield 34, 3) := by decide +kernel
theorem dX10_skipBlanks_8 : decode cX10_skipBlanks 8 = .ok (.if_icmp .ge 25, 3) := by decide +kernel
theorem dX10_skipBlanks_11 : decode cX10_skipBlanks 11 = .ok (.aload_n 0, 1) := by decide +kernel
theorem dX10_skipBlanks_12 : decode cX10_skipBlanks 12 = .ok (.invokevirtual 51, 3) := by decide +kernel
theorem dX10_skipBlanks_15 : decode cX10_skipBlanks 15 = .ok (.bipush 32, 2) := by decide +kernel
theorem dX10_skipBlanks_17 : decode cX10_skipBlanks 17 = .ok (.if_icmp .ne 16, 3) := by decide +kernel
theorem dX10_skipBlanks_20 : decode cX10_skipBlanks 20 = .ok (.aload_n 0, 1) := by decide +kernel
theorem dX10_skipBlanks_21 : decode cX10_skipBlanks 21 = .ok (.dup, 1) := by decide +kernel
theorem dX10_skipBlanks_22 : decode cX10_skipBlanks 22 = .ok (.getfield 37, 3) := by decide +kernel
theorem dX10_skipBlanks_25 : decode cX10_skipBlanks 25 = .ok (.iconst 1, 1) := by decide +kernel
theorem dX10_skipBlanks_26 : decode cX10_skipBlanks 26 = .ok (.iadd, 1) := by decide +kernel
theorem dX10_skipBlanks_27 : decode cX10_skipBlanks 27 = .ok (.putfield 37, 3) := by decide +kernel
theorem dX10_skipBlanks_30 : decode cX10_skipBlanks 30 = .ok (.goto (-30), 3) := by decide +kernel
theorem dX10_skipBlanks_33 : decode cX10_skipBlanks 33 = .ok (.return_, 1) := by decide +kernel
set_option maxHeartbeats 4000000 in
set_option maxRecDepth 100000 in
theorem kX10_skipBlanks {l : Launch} {D : va_G} {cy : Nat → ClassId} {N : Nat} {q : Nat → Nat} {m0 : Nat → Value} {a0 : Nat → vp_A} {sz : Nat} (hN : 105 ≤ N) (hsh : SH q m0) {x24_2 : Int32} (h_x24_2 : m0 2402 = .int x24_2) {A26 : Nat → Int32} (h_A26 : a0 26 = (264, .inl A26)) {x24_3 : Int32} (h_x24_3 : m0 2403 = .int x24_3) (F : Nat) {X0 : Int32} (hs0 : fX10_skipBlanks F x24_2 A26 x24_3 = some X0) : gMv l yX10_skipBlanks cX10_skipBlanks 1 none ({ frames := 2, cells := 0, slots := 0, locals := 41 } : Room) D cy N q m0 a0 sz [.ref (q 24)] (fun m' a' => m' 2403 = .int X0 ∧ (∀ j, nel j [2403] = false → m' j = m0 j) ∧ a' = a0) := by
  refine g_ofv (by decide) (Nat.le_of_ble_eq_true rfl) ?_
  intro p e s M args below meth c hx hb hr hG hown hin hlocks hml hW hS ls hl
  unfold fX10_skipBlanks at hs0
  have hoff : ∀ j, nel j [2403] = false → m0 j = m0 j := off0
  obtain ⟨r1, hg1, hs0⟩ := obind hs0
  have hE1_33 : ∀ (t1_33 : Int32) (hr1 : t1_33 = r1) (m : Nat → Value) (H : Heap) (locs : List Loc) (w_x24_3 : m 2403 = .int t1_33) (hoff : ∀ j, nel j [2403] = false → m j = m0 j) (hsh : SH q m) (ls : Array Slot) (hl : lv_has ls 1 []) (hW : GW D cy (gA N q s.heap.size) N q m a0 s H) (hS : va_S (gA N q s.heap.size) s.heap H locs), W p l e ({ frames := 2, cells := 0, slots := 0, locals := 41 } : Room) s M args below meth c H locs 0 0 (MQ below (va_Qv (fun (u : (Nat → Value) × (Nat → vp_A)) => u.1 2403 = .int X0 ∧ (∀ j, nel j [2403] = false → u.1 j = m0 j) ∧ u.2 = a0) (gB D cy N q s.heap.size) (gA N q s.heap.size)) args s 0 0 (gA N q s.heap.size)) (F0 M 33 ls []) := by
    intro t1_33 hr1 m H locs w_x24_3 hoff hsh ls hl hW hS
    subst hr1
    have hs0 := Option.some.inj hs0
    subst hs0
    exact W.vret hx hb hr (fun t ht hw => ⟨⟨(m, a0), rfl, ⟨w_x24_3, hoff, rfl⟩, g_end hW ht hw⟩, hS.F ht⟩) hS.2.2 dX10_skipBlanks_33 hlocks
  have hL1 : ∀ (n : Nat) (x24_3k1 : Int32) (m : Nat → Value) (H : Heap) (locs : List Loc) (w_x24_3 : m 2403 = .int x24_3k1) (hoff : ∀ j, nel j [2403] = false → m j = m0 j) (hsh : SH q m) (ls : Array Slot) (hl : lv_has ls 1 [(0, .ref (q 24))]) (hg1 : gloop (fun u1 : Int32 => fX10_skipBlanks_S0 F x24_2 A26 u1) n x24_3k1 = some r1) (hW : GW D cy (gA N q s.heap.size) N q m a0 s H) (hS : va_S (gA N q s.heap.size) s.heap H locs), W p l e ({ frames := 2, cells := 0, slots := 0, locals := 41 } : Room) s M args below meth c H locs 0 0 (MQ below (va_Qv (fun (u : (Nat → Value) × (Nat → vp_A)) => u.1 2403 = .int X0 ∧ (∀ j, nel j [2403] = false → u.1 j = m0 j) ∧ u.2 = a0) (gB D cy N q s.heap.size) (gA N q s.heap.size)) args s 0 0 (gA N q s.heap.size)) (F0 M 0 ls []) := by
    intro n
    induction n with
    | zero => intro x24_3k1 m H locs w_x24_3 hoff hsh ls hl hg1 hW hS; exact (gl_zero hg1).elim
    | succ n ih1 =>
      intro x24_3k1 m H locs w_x24_3 hoff hsh ls hl hg1 hW hS
      obtain ⟨X1, hs1, hXl1, hXr1⟩ := gl_succ hg1
      have hs1 : fX10_skipBlanks_S0 F x24_2 A26 x24_3k1 = some X1 := hs1
      unfold fX10_skipBlanks_S0 at hs1
      refine lv_aload_n hx hb dX10_skipBlanks_0 rfl (lv_at hl 0 rfl) ?_
      refine gf10_3 hx hb hG hown hW (o := 24) (ltN hN 24 rfl) gk24 (v := .int x24_3k1) w_x24_3 gx1142 dX10_skipBlanks_1 ?_
      refine lv_aload_n hx hb dX10_skipBlanks_4 rfl (lv_at hl 0 rfl) ?_
      refine gf10_2 hx hb hG hown hW (o := 24) (ltN hN 24 rfl) gk24 (v := .int x24_2) ((hoff 2402 rfl).trans h_x24_2) gx1141 dX10_skipBlanks_5 ?_
      refine lv_icmp_ge (tgt := 33) hx hb dX10_skipBlanks_8 (by decide) (fun c6 => ?_) (fun c6 => ?_)
      · rw [if_pos c6] at hs1
        exact hE1_33 x24_3k1 (hXl1 _ (Option.some.inj hs1).symm) m _ _ w_x24_3 hoff hsh ls (lv_sub hl [] rfl) hW hS
      · rw [if_neg c6] at hs1
        refine lv_aload_n hx hb dX10_skipBlanks_11 rfl (lv_at hl 0 rfl) ?_
        refine g_ViR (n := 0) hx hb hml hown hG hW hS [] (kX10_peek hN hsh ((hoff 2402 rfl).trans h_x24_2) w_x24_3 h_A26) (ltN hN 24 rfl) gk24 (by decide) rfl rfl (gd_V gx1154 gx1155 gx1156 gx31 gx1157) rfl rfl (by decide) ⟨Nat.le_of_ble_eq_true rfl, Nat.le_of_ble_eq_true rfl⟩ rfl hl (Nat.le_of_ble_eq_true rfl) ⟨Nat.zero_le _, Nat.zero_le _⟩ dX10_skipBlanks_12 (fun H locs hW hS => ?_)
        refine lv_bipush (v := 32) hx hb dX10_skipBlanks_15 (by decide) ?_
        refine lv_icmp_ne (tgt := 33) hx hb dX10_skipBlanks_17 (by decide) (fun c8 => ?_) (fun c8 => ?_)
        · rw [if_neg c8] at hs1
          exact hE1_33 x24_3k1 (hXl1 _ (Option.some.inj hs1).symm) m _ _ w_x24_3 hoff hsh ls (lv_sub hl [] rfl) hW hS
        · rw [if_pos c8] at hs1
          refine lv_aload_n hx hb dX10_skipBlanks_20 rfl (lv_at hl 0 rfl) ?_
          refine lv_dup hx hb dX10_skipBlanks_21 rfl ?_
          refine gf10_3 hx hb hG hown hW (o := 24) (ltN hN 24 rfl) gk24 (v := .int x24_3k1) w_x24_3 gx1142 dX10_skipBlanks_22 ?_
          refine lv_iconst (v := 1) hx hb dX10_skipBlanks_25 (by decide) ?_
          refine lv_iadd hx hb dX10_skipBlanks_26 ?_
          refine gp10_3 hx hb hG hown hW hS (o := 24) (ltN hN 24 rfl) gk24 (v := (x24_3k1 + 1)) gx1142 dX10_skipBlanks_27 (fun m9 H locs hm9 ho9 hW hS => ?_)
          have ho9 := off1 ho9
          have w_x24_3 : m9 2403 = .int (x24_3k1 + 1) := hm9
          have hoff := offm hoff ho9 (by decide +kernel)
          have hsh := SH.off hsh ho9 (by decide +kernel)
          refine lv_goto (tgt := 0) hx hb dX10_skipBlanks_30 (by decide) ?_
          exact ih1 (x24_3k1 + 1) m9 _ _ w_x24_3 hoff hsh ls (lv_sub hl [0] rfl) (hXr1 _ (Option.some.inj hs1).symm) hW hS
  exact hL1 F x24_3 m0 _ _ h_x24_3 hoff hsh ls (lv_sub hl [0] rfl) hg1 hW hS
-- HealLink$Tape.expect (C)V
def fX10_expect (F : Nat) (x24_2 : Int32) (A26 : Nat → Int32) (x24_3 : Int32) (x24_4 : Int32) (p1 : Int32) : Option (Int32 × Int32) := ((fX10_skipBlanks F x24_2 A26 x24_3).bind (fun r1 => (if (fX10_peek x24_2 r1 A26) = p1 then some (r1 + 1, x24_4) else some (r1, (fX10_blame x24_4 r1 1)))))
theorem dX10_expect_0 : decode cX10_expect 0 = .ok (.aload_n 0, 1) := by decide +kernel
theorem dX10_expect_1 : decode cX10_expect 1 = .ok (.invokevirtual 48, 3) := by decide +kernel
theorem dX10_expect_4 : decode cX10_expect 4 = .ok (.aload_n 0, 1) := by decide +kernel
theorem dX10_expect_5 : decode cX10_expect 5 = .ok (.invokevirtual 51, 3) := by decide +kernel
theorem dX10_expect_8 : decode cX10_expect 8 = .ok (.iload_n 1, 1) := by decide +kernel
theorem dX10_expect_9 : decode cX10_expect 9 = .ok (.if_icmp .ne 16, 3) := by decide +kernel
theorem dX10_expect_12 : decode cX10_expect 12 = .ok (.aload_n 0, 1) := by decide +kernel
theorem dX10_expect_13 : decode cX10_expect 13 = .ok (.dup, 1) := by decide +kernel
theorem dX10_expect_14 : decode cX10_expect 14 = .ok (.getfield 37, 3) := by decide +kernel
theorem dX10_expect_17 : decode cX10_expect 17 = .ok (.iconst 1, 1) := by decide +kernel
theorem dX10_expect_18 : decode cX10_expect 18 = .ok (.iadd, 1) := by decide +kernel
theorem dX10_expect_19 : decode cX10_expect 19 = .ok (.putfield 37, 3) := by decide +kernel
theorem dX10_expect_22 : decode cX10_expect 22 = .ok (.goto 12, 3) := by decide +kernel
theorem dX10_expect_25 : decode cX10_expect 25 = .ok (.aload_n 0, 1) := by decide +kernel
theorem dX10_expect_26 : decode cX10_expect 26 = .ok (.aload_n 0, 1) := by decide +kernel
theorem dX10_expect_27 : decode cX10_expect 27 = .ok (.getfield 37, 3) := by decide +kernel
theorem dX10_expect_30 : decode cX10_expect 30 = .ok (.iconst 1, 1) := by decide +kernel
theorem dX10_expect_31 : decode cX10_expect 31 = .ok (.invokevirtual 67, 3) := by decide +kernel
theorem dX10_expect_34 : decode cX10_expect 34 = .ok (.return_, 1) := by decide +kernel
set_option maxHeartbeats 4000000 in
set_option maxRecDepth 100000 in
theorem kX10_expect {l : Launch} {D : va_G} {cy : Nat → ClassId} {N : Nat} {q : Nat → Nat} {m0 : Nat → Value} {a0 : Nat → vp_A} {sz : Nat} (hN : 105 ≤ N) (hsh : SH q m0) {x24_2 : Int32} (h_x24_2 : m0 2402 = .int x24_2) {A26 : Nat → Int32} (h_A26 : a0 26 = (264, .inl A26)) {x24_3 : Int32} (h_x24_3 : m0 2403 = .int x24_3) {x24_4 : Int32} (h_x24_4 : m0 2404 = .int x24_4) (F : Nat) (p1 : Int32) {X0 : Int32 × Int32} (hs0 : fX10_expect F x24_2 A26 x24_3 x24_4 p1 = some X0) : gMv l yX10_expect cX10_expect 2 none ({ frames := 3, cells := 0, slots := 0, locals := 61 } : Room) D cy N q m0 a0 sz [.ref (q 24), .int p1] (fun m' a' => m' 2403 = .int X0.1 ∧ m' 2404 = .int X0.2 ∧ (∀ j, nel j [2403, 2404] = false → m' j = m0 j) ∧ a' = a0) := by
  refine g_ofv (by decide) (Nat.le_of_ble_eq_true rfl) ?_
  intro p e s M args below meth c hx hb hr hG hown hin hlocks hml hW hS ls hl
  unfold fX10_expect at hs0
  have hoff : ∀ j, nel j [2403, 2404] = false → m0 j = m0 j := off0
  refine lv_aload_n hx hb dX10_expect_0 rfl (lv_at hl 0 rfl) ?_
  obtain ⟨r1, hf1, hs0⟩ := obind hs0
  refine g_Vv (n := 0) hx hb hml hown hG hW hS [] (kX10_skipBlanks hN hsh ((hoff 2402 rfl).trans h_x24_2) h_A26 h_x24_3 F hf1) (ltN hN 24 rfl) gk24 (by decide) rfl rfl (gd_V gx1150 gx1151 gx1152 gx31 gx1153) rfl rfl (by decide) ⟨Nat.le_of_ble_eq_true rfl, Nat.le_of_ble_eq_true rfl⟩ rfl hl (Nat.le_of_ble_eq_true rfl) ⟨Nat.zero_le _, Nat.zero_le _⟩ dX10_expect_1 (fun m1 a1 H locs hp1 hW hS => ?_)
  obtain ⟨hp1_x24_3, ho1, ha1⟩ := hp1
  rw [ha1] at hW
  have w_x24_3 : m1 2403 = .int r1 := hp1_x24_3
  have w_x24_4 : m1 2404 = .int x24_4 := (ho1 2404 rfl).trans h_x24_4
  have hoff := offm hoff ho1 (by decide +kernel)
  have hsh := SH.off hsh ho1 (by decide +kernel)
  refine lv_aload_n hx hb dX10_expect_4 rfl (lv_at hl 0 rfl) ?_
  refine g_ViR (n := 0) hx hb hml hown hG hW hS [] (kX10_peek hN hsh ((hoff 2402 rfl).trans h_x24_2) w_x24_3 h_A26) (ltN hN 24 rfl) gk24 (by decide) rfl rfl (gd_V gx1154 gx1155 gx1156 gx31 gx1157) rfl rfl (by decide) ⟨Nat.le_of_ble_eq_true rfl, Nat.le_of_ble_eq_true rfl⟩ rfl hl (Nat.le_of_ble_eq_true rfl) ⟨Nat.zero_le _, Nat.zero_le _⟩ dX10_expect_5 (fun H locs hW hS => ?_)
  refine lv_iload_n hx hb dX10_expect_8 rfl (lv_at hl 1 rfl) ?_
  refine lv_icmp_ne (tgt := 25) hx hb dX10_expect_9 (by decide) (fun c3 => ?_) (fun c3 => ?_)
  · rw [if_neg c3] at hs0
    refine lv_aload_n hx hb dX10_expect_25 rfl (lv_at hl 0 rfl) ?_
    refine lv_aload_n hx hb dX10_expect_26 rfl (lv_at hl 0 rfl) ?_
    refine gf10_3 hx hb hG hown hW (o := 24) (ltN hN 24 rfl) gk24 (v := .int r1) w_x24_3 gx1142 dX10_expect_27 ?_
    refine lv_iconst (v := 1) hx hb dX10_expect_30 (by decide) ?_
    refine g_Vv (n := 2) hx hb hml hown hG hW hS [.int r1, .int 1] (kX10_blame hN hsh w_x24_4 r1 1) (ltN hN 24 rfl) gk24 (by decide) rfl rfl (gd_V gx1167 gx1168 gx1169 gx31 gx1170) rfl rfl (by decide) ⟨Nat.le_of_ble_eq_true rfl, Nat.le_of_ble_eq_true rfl⟩ rfl hl (Nat.le_of_ble_eq_true rfl) ⟨Nat.zero_le _, Nat.zero_le _⟩ dX10_expect_31 (fun m4 a4 H locs hp4 hW hS => ?_)
    obtain ⟨hp4_x24_4, ho4, ha4⟩ := hp4
    rw [ha4] at hW
    have w_x24_3 : m4 2403 = .int r1 := (ho4 2403 rfl).trans w_x24_3
    have w_x24_4 : m4 2404 = .int (fX10_blame x24_4 r1 1) := hp4_x24_4
    have hoff := offm hoff ho4 (by decide +kernel)
    have hsh := SH.off hsh ho4 (by decide +kernel)
    have hs0 := Option.some.inj hs0
    subst hs0
    exact W.vret hx hb hr (fun t ht hw => ⟨⟨(m4, a0), rfl, ⟨w_x24_3, w_x24_4, hoff, rfl⟩, g_end hW ht hw⟩, hS.F ht⟩) hS.2.2 dX10_expect_34 hlocks
  · rw [if_pos c3] at hs0
    refine lv_aload_n hx hb dX10_expect_12 rfl (lv_at hl 0 rfl) ?_
    refine lv_dup hx hb dX10_expect_13 rfl ?_
    refine gf10_3 hx hb hG hown hW (o := 24) (ltN hN 24 rfl) gk24 (v := .int r1) w_x24_3 gx1142 dX10_expect_14 ?_
    refine lv_iconst (v := 1) hx hb dX10_expect_17 (by decide) ?_
    refine lv_iadd hx hb dX10_expect_18 ?_
    refine gp10_3 hx hb hG hown hW hS (o := 24) (ltN hN 24 rfl) gk24 (v := (r1 + 1)) gx1142 dX10_expect_19 (fun m5 H locs hm5 ho5 hW hS => ?_)
    have ho5 := off1 ho5
    have w_x24_3 : m5 2403 = .int (r1 + 1) := hm5
    have w_x24_4 : m5 2404 = .int x24_4 := (ho5 2404 rfl).trans w_x24_4
    have hoff := offm hoff ho5 (by decide +kernel)
    have hsh := SH.off hsh ho5 (by decide +kernel)
    refine lv_goto (tgt := 34) hx hb dX10_expect_22 (by decide) ?_
    have hs0 := Option.some.inj hs0
    subst hs0
    exact W.vret hx hb hr (fun t ht hw => ⟨⟨(m5, a0), rfl, ⟨w_x24_3, w_x24_4, hoff, rfl⟩, g_end hW ht hw⟩, hS.F ht⟩) hS.2.2 dX10_expect_34 hlocks
-- HealLink$Tape.readNumber (II)I
def fX10_readNumber_S12 (F : Nat) (x24_2 : Int32) (A26 : Nat → Int32) (v1 : Int32) (v2 : Int32) (v3 : Int32) (x24_4 : Int32) (v4 : Int32) (x24_3 : Int32) : Option ((Int32 × Int32) ⊕ (Int32 × Int32)) := (if x24_2 ≤ x24_3 then some (Sum.inl (v4, x24_3)) else (if (fX10_peek x24_2 x24_3 A26) < 48 then some (Sum.inl (v4, x24_3)) else (if 57 < (fX10_peek x24_2 x24_3 A26) then some (Sum.inl (v4, x24_3)) else some (Sum.inr (if 1000 < (((10 * v4) + (fX10_peek x24_2 x24_3 A26)) - 48) then 1000 else (((10 * v4) + (fX10_peek x24_2 x24_3 A26)) - 48), x24_3 + 1)))))
def fX10_readNumber_J117 (F : Nat) (x24_2 : Int32) (A26 : Nat → Int32) (v3j20 : Int32) (v4j20 : Int32) (x24_3j20 : Int32) (x24_4j20 : Int32) : Option (Int32 × Int32 × Int32) := some (v4j20, x24_3j20, (fX10_blame x24_4j20 v3j20 2))
def fX10_readNumber_J75 (F : Nat) (x24_2 : Int32) (A26 : Nat → Int32) (v1j10 : Int32) (v2j10 : Int32) (v3j10 : Int32) (v4j10 : Int32) (x24_3j10 : Int32) (x24_4j10 : Int32) : Option (Int32 × Int32 × Int32) := (if x24_3j10 = v3j10 then some (v4j10, x24_3j10, (fX10_blame x24_4j10 x24_3j10 1)) else (if 2 < (x24_3j10 - v3j10) then fX10_readNumber_J117 F x24_2 A26 v3j10 v4j10 x24_3j10 x24_4j10 else (if v4j10 < v1j10 then fX10_readNumber_J117 F x24_2 A26 v3j10 v4j10 x24_3j10 x24_4j10 else (if v4j10 ≤ v2j10 then some (v4j10, x24_3j10, x24_4j10) else fX10_readNumber_J117 F x24_2 A26 v3j10 v4j10 x24_3j10 x24_4j10))))
def fX10_readNumber (F : Nat) (x24_2 : Int32) (A26 : Nat → Int32) (x24_3 : Int32) (x24_4 : Int32) (p1 : Int32) (p2 : Int32) : Option (Int32 × Int32 × Int32) := ((fX10_skipBlanks F x24_2 A26 x24_3).bind (fun r1 => (gloop (fun u2 : (Int32 × Int32) => fX10_readNumber_S12 F x24_2 A26 p1 p2 r1 x24_4 u2.1 u2.2) F (0, r1)).bind (fun t2_75 => fX10_readNumber_J75 F x24_2 A26 p1 p2 r1 t2_75.1 t2_75.2 x24_4)))
theorem dX10_readNumber_0 : decode cX10_readNumber 0 = .ok (.aload_n 0, 1) := by decide +kernel
theorem dX10_readNumber_1 : decode cX10_readNumber 1 = .ok (.invokevirtual 48, 3) := by decide +kernel
theorem dX10_readNumber_4 : decode cX10_readNumber 4 = .ok (.aload_n 0, 1) := by decide +kernel
theorem dX10_readNumber_5 : decode cX10_readNumber 5 = .ok (.getfield 37, 3) := by decide +kernel
theorem dX10_readNumber_8 : decode cX10_readNumber 8 = .ok (.istore_n 3, 1) := by decide +kernel
theorem dX10_readNumber_9 : decode cX10_readNumber 9 = .ok (.iconst 0, 1) := by decide +kernel
theorem dX10_readNumber_10 : decode cX10_readNumber 10 = .ok (.istore 4, 2) := by decide +kernel
theorem dX10_readNumber_12 : decode cX10_readNumber 12 = .ok (.aload_n 0, 1) := by decide +kernel
theorem dX10_readNumber_13 : decode cX10_readNumber 13 = .ok (.getfield 37, 3) := by decide +kernel
theorem dX10_readNumber_16 : decode cX10_readNumber 16 = .ok (.aload_n 0, 1) := by decide +kernel
theorem dX10_readNumber_17 : decode cX10_readNumber 17 = .ok (.getfield 34, 3) := by decide +kernel
theorem dX10_readNumber_20 : decode cX10_readNumber 20 = .ok (.if_icmp .ge 55, 3) := by decide +kernel
theorem dX10_readNumber_23 : decode cX10_readNumber 23 = .ok (.aload_n 0, 1) := by decide +kernel
theorem dX10_readNumber_24 : decode cX10_readNumber 24 = .ok (.invokevirtual 51, 3) := by decide +kernel
theorem dX10_readNumber_27 : decode cX10_readNumber 27 = .ok (.bipush 48, 2) := by decide +kernel
theorem dX10_readNumber_29 : decode cX10_readNumber 29 = .ok (.if_icmp .lt 46, 3) := by decide +kernel
theorem dX10_readNumber_32 : decode cX10_readNumber 32 = .ok (.aload_n 0, 1) := by decide +kernel
theorem dX10_readNumber_33 : decode cX10_readNumber 33 = .ok (.invokevirtual 51, 3) := by decide +kernel
theorem dX10_readNumber_36 : decode cX10_readNumber 36 = .ok (.bipush 57, 2) := by decide +kernel
theorem dX10_readNumber_38 : decode cX10_readNumber 38 = .ok (.if_icmp .gt 37, 3) := by decide +kernel
theorem dX10_readNumber_41 : decode cX10_readNumber 41 = .ok (.bipush 10, 2) := by decide +kernel
theorem dX10_readNumber_43 : decode cX10_readNumber 43 = .ok (.iload 4, 2) := by decide +kernel
theorem dX10_readNumber_45 : decode cX10_readNumber 45 = .ok (.imul, 1) := by decide +kernel
theorem dX10_readNumber_46 : decode cX10_readNumber 46 = .ok (.aload_n 0, 1) := by decide +kernel
theorem dX10_readNumber_47 : decode cX10_readNumber 47 = .ok (.invokevirtual 51, 3) := by decide +kernel
theorem dX10_readNumber_50 : decode cX10_readNumber 50 = .ok (.iadd, 1) := by decide +kernel
theorem dX10_readNumber_51 : decode cX10_readNumber 51 = .ok (.bipush 48, 2) := by decide +kernel
theorem dX10_readNumber_53 : decode cX10_readNumber 53 = .ok (.isub, 1) := by decide +kernel
theorem dX10_readNumber_54 : decode cX10_readNumber 54 = .ok (.sipush 1000, 3) := by decide +kernel
theorem dX10_readNumber_57 : decode cX10_readNumber 57 = .ok (.invokestatic 28, 3) := by decide +kernel
theorem dX10_readNumber_60 : decode cX10_readNumber 60 = .ok (.istore 4, 2) := by decide +kernel
theorem dX10_readNumber_62 : decode cX10_readNumber 62 = .ok (.aload_n 0, 1) := by decide +kernel
theorem dX10_readNumber_63 : decode cX10_readNumber 63 = .ok (.dup, 1) := by decide +kernel
theorem dX10_readNumber_64 : decode cX10_readNumber 64 = .ok (.getfield 37, 3) := by decide +kernel
theorem dX10_readNumber_67 : decode cX10_readNumber 67 = .ok (.iconst 1, 1) := by decide +kernel
theorem dX10_readNumber_68 : decode cX10_readNumber 68 = .ok (.iadd, 1) := by decide +kernel
theorem dX10_readNumber_69 : decode cX10_readNumber 69 = .ok (.putfield 37, 3) := by decide +kernel
theorem dX10_readNumber_72 : decode cX10_readNumber 72 = .ok (.goto (-60), 3) := by decide +kernel
theorem dX10_readNumber_75 : decode cX10_readNumber 75 = .ok (.aload_n 0, 1) := by decide +kernel
theorem dX10_readNumber_76 : decode cX10_readNumber 76 = .ok (.getfield 37, 3) := by decide +kernel
theorem dX10_readNumber_79 : decode cX10_readNumber 79 = .ok (.iload_n 3, 1) := by decide +kernel
theorem dX10_readNumber_80 : decode cX10_readNumber 80 = .ok (.if_icmp .ne 15, 3) := by decide +kernel
theorem dX10_readNumber_83 : decode cX10_readNumber 83 = .ok (.aload_n 0, 1) := by decide +kernel
theorem dX10_readNumber_84 : decode cX10_readNumber 84 = .ok (.aload_n 0, 1) := by decide +kernel
theorem dX10_readNumber_85 : decode cX10_readNumber 85 = .ok (.getfield 37, 3) := by decide +kernel
theorem dX10_readNumber_88 : decode cX10_readNumber 88 = .ok (.iconst 1, 1) := by decide +kernel
theorem dX10_readNumber_89 : decode cX10_readNumber 89 = .ok (.invokevirtual 67, 3) := by decide +kernel
theorem dX10_readNumber_92 : decode cX10_readNumber 92 = .ok (.goto 31, 3) := by decide +kernel
theorem dX10_readNumber_95 : decode cX10_readNumber 95 = .ok (.aload_n 0, 1) := by decide +kernel
theorem dX10_readNumber_96 : decode cX10_readNumber 96 = .ok (.getfield 37, 3) := by decide +kernel
theorem dX10_readNumber_99 : decode cX10_readNumber 99 = .ok (.iload_n 3, 1) := by decide +kernel
theorem dX10_readNumber_100 : decode cX10_readNumber 100 = .ok (.isub, 1) := by decide +kernel
theorem dX10_readNumber_101 : decode cX10_readNumber 101 = .ok (.iconst 2, 1) := by decide +kernel
theorem dX10_readNumber_102 : decode cX10_readNumber 102 = .ok (.if_icmp .gt 15, 3) := by decide +kernel
theorem dX10_readNumber_105 : decode cX10_readNumber 105 = .ok (.iload 4, 2) := by decide +kernel
theorem dX10_readNumber_107 : decode cX10_readNumber 107 = .ok (.iload_n 1, 1) := by decide +kernel
theorem dX10_readNumber_108 : decode cX10_readNumber 108 = .ok (.if_icmp .lt 9, 3) := by decide +kernel
theorem dX10_readNumber_111 : decode cX10_readNumber 111 = .ok (.iload 4, 2) := by decide +kernel
theorem dX10_readNumber_113 : decode cX10_readNumber 113 = .ok (.iload_n 2, 1) := by decide +kernel
theorem dX10_readNumber_114 : decode cX10_readNumber 114 = .ok (.if_icmp .le 9, 3) := by decide +kernel
theorem dX10_readNumber_117 : decode cX10_readNumber 117 = .ok (.aload_n 0, 1) := by decide +kernel
theorem dX10_readNumber_118 : decode cX10_readNumber 118 = .ok (.iload_n 3, 1) := by decide +kernel
theorem dX10_readNumber_119 : decode cX10_readNumber 119 = .ok (.iconst 2, 1) := by decide +kernel
theorem dX10_readNumber_120 : decode cX10_readNumber 120 = .ok (.invokevirtual 67, 3) := by decide +kernel
theorem dX10_readNumber_123 : decode cX10_readNumber 123 = .ok (.iload 4, 2) := by decide +kernel
theorem dX10_readNumber_125 : decode cX10_readNumber 125 = .ok (.ireturn, 1) := by decide +kernel
set_option maxHeartbeats 4000000 in
set_option maxRecDepth 100000 in
theorem kX10_readNumber {l : Launch} {D : va_G} {cy : Nat → ClassId} {N : Nat} {q : Nat → Nat} {m0 : Nat → Value} {a0 : Nat → vp_A} {sz : Nat} (hN : 105 ≤ N) (hsh : SH q m0) {x24_2 : Int32} (h_x24_2 : m0 2402 = .int x24_2) {A26 : Nat → Int32} (h_A26 : a0 26 = (264, .inl A26)) {x24_3 : Int32} (h_x24_3 : m0 2403 = .int x24_3) {x24_4 : Int32} (h_x24_4 : m0 2404 = .int x24_4) (F : Nat) (p1 : Int32) (p2 : Int32) {X0 : Int32 × Int32 × Int32} (hs0 : fX10_readNumber F x24_2 A26 x24_3 x24_4 p1 p2 = some X0) : gMi l yX10_readNumber cX10_readNumber 5 (some .int) ({ frames := 3, cells := 0, slots := 0, locals := 61 } : Room) D cy N q m0 a0 sz [.ref (q 24), .int p1, .int p2] (fun r m' a' => r = X0.1 ∧ m' 2403 = .int X0.2.1 ∧ m' 2404 = .int X0.2.2 ∧ (∀ j, nel j [2403, 2404] = false → m' j = m0 j) ∧ a' = a0) := by
  refine g_ofi (by decide) (Nat.le_of_ble_eq_true rfl) ?_
  intro p e s M args below meth c hx hb hr hG hown hin hlocks hml hW hS ls hl
  unfold fX10_readNumber at hs0
  have hoff : ∀ j, nel j [2403, 2404] = false → m0 j = m0 j := off0
  have hJ117_0 : ∀ (v3j20 : Int32) (v4j20 : Int32) (x24_3j20 : Int32) (x24_4j20 : Int32) (m : Nat → Value) (H : Heap) (locs : List Loc) (w_x24_3 : m 2403 = .int x24_3j20) (w_x24_4 : m 2404 = .int x24_4j20) (hoff : ∀ j, nel j [2403, 2404] = false → m j = m0 j) (hsh : SH q m) (ls : Array Slot) (hl : lv_has ls 5 [(0, .ref (q 24)), (3, .int v3j20), (4, .int v4j20)]) (hs0 : fX10_readNumber_J117 F x24_2 A26 v3j20 v4j20 x24_3j20 x24_4j20 = some X0) (hW : GW D cy (gA N q s.heap.size) N q m a0 s H) (hS : va_S (gA N q s.heap.size) s.heap H locs), W p l e ({ frames := 3, cells := 0, slots := 0, locals := 61 } : Room) s M args below meth c H locs 0 0 (MQ below (va_Qi (fun (r : Int32) (u : (Nat → Value) × (Nat → vp_A)) => r = X0.1 ∧ u.1 2403 = .int X0.2.1 ∧ u.1 2404 = .int X0.2.2 ∧ (∀ j, nel j [2403, 2404] = false → u.1 j = m0 j) ∧ u.2 = a0) (gB D cy N q s.heap.size) (gA N q s.heap.size)) args s 0 0 (gA N q s.heap.size)) (F0 M 117 ls []) := by
    intro v3j20 v4j20 x24_3j20 x24_4j20 m H locs w_x24_3 w_x24_4 hoff hsh ls hl hs0 hW hS
    unfold fX10_readNumber_J117 at hs0
    refine lv_aload_n hx hb dX10_readNumber_117 rfl (lv_at hl 0 rfl) ?_
    refine lv_iload_n hx hb dX10_readNumber_118 rfl (lv_at hl 1 rfl) ?_
    refine lv_iconst (v := 2) hx hb dX10_readNumber_119 (by decide) ?_
    refine g_Vv (n := 2) hx hb hml hown hG hW hS [.int v3j20, .int 2] (kX10_blame hN hsh w_x24_4 v3j20 2) (ltN hN 24 rfl) gk24 (by decide) rfl rfl (gd_V gx1167 gx1168 gx1169 gx31 gx1170) rfl rfl (by decide) ⟨Nat.le_of_ble_eq_true rfl, Nat.le_of_ble_eq_true rfl⟩ rfl hl (Nat.le_of_ble_eq_true rfl) ⟨Nat.zero_le _, Nat.zero_le _⟩ dX10_readNumber_120 (fun m24 a24 H locs hp24 hW hS => ?_)
    obtain ⟨hp24_x24_4, ho24, ha24⟩ := hp24
    rw [ha24] at hW
    have w_x24_3 : m24 2403 = .int x24_3j20 := (ho24 2403 rfl).trans w_x24_3
    have w_x24_4 : m24 2404 = .int (fX10_blame x24_4j20 v3j20 2) := hp24_x24_4
    have hoff := offm hoff ho24 (by decide +kernel)
    have hsh := SH.off hsh ho24 (by decide +kernel)
    refine lv_iload hx hb dX10_readNumber_123 (lv_at hl 2 rfl) ?_
    have hs0 := Option.some.inj hs0
    subst hs0
    exact W.zret hx hb hr rfl (fun t ht hw => ⟨⟨_, (m24, a0), rfl, ⟨rfl, w_x24_3, w_x24_4, hoff, rfl⟩, g_end hW ht hw⟩, hS.F ht⟩) hS.2.2 dX10_readNumber_125 hlocks
  have hJ75_0 : ∀ (v1j10 : Int32) (v2j10 : Int32) (v3j10 : Int32) (v4j10 : Int32) (x24_3j10 : Int32) (x24_4j10 : Int32) (m : Nat → Value) (H : Heap) (locs : List Loc) (w_x24_3 : m 2403 = .int x24_3j10) (w_x24_4 : m 2404 = .int x24_4j10) (hoff : ∀ j, nel j [2403, 2404] = false → m j = m0 j) (hsh : SH q m) (ls : Array Slot) (hl : lv_has ls 5 [(0, .ref (q 24)), (1, .int v1j10), (2, .int v2j10), (3, .int v3j10), (4, .int v4j10)]) (hs0 : fX10_readNumber_J75 F x24_2 A26 v1j10 v2j10 v3j10 v4j10 x24_3j10 x24_4j10 = some X0) (hW : GW D cy (gA N q s.heap.size) N q m a0 s H) (hS : va_S (gA N q s.heap.size) s.heap H locs), W p l e ({ frames := 3, cells := 0, slots := 0, locals := 61 } : Room) s M args below meth c H locs 0 0 (MQ below (va_Qi (fun (r : Int32) (u : (Nat → Value) × (Nat → vp_A)) => r = X0.1 ∧ u.1 2403 = .int X0.2.1 ∧ u.1 2404 = .int X0.2.2 ∧ (∀ j, nel j [2403, 2404] = false → u.1 j = m0 j) ∧ u.2 = a0) (gB D cy N q s.heap.size) (gA N q s.heap.size)) args s 0 0 (gA N q s.heap.size)) (F0 M 75 ls []) := by
    intro v1j10 v2j10 v3j10 v4j10 x24_3j10 x24_4j10 m H locs w_x24_3 w_x24_4 hoff hsh ls hl hs0 hW hS
    unfold fX10_readNumber_J75 at hs0
    refine lv_aload_n hx hb dX10_readNumber_75 rfl (lv_at hl 0 rfl) ?_
    refine gf10_3 hx hb hG hown hW (o := 24) (ltN hN 24 rfl) gk24 (v := .int x24_3j10) w_x24_3 gx1142 dX10_readNumber_76 ?_
    refine lv_iload_n hx hb dX10_readNumber_79 rfl (lv_at hl 3 rfl) ?_
    refine lv_icmp_ne (tgt := 95) hx hb dX10_readNumber_80 (by decide) (fun c18 => ?_) (fun c18 => ?_)
    · rw [if_neg c18] at hs0
      refine lv_aload_n hx hb dX10_readNumber_95 rfl (lv_at hl 0 rfl) ?_
      refine gf10_3 hx hb hG hown hW (o := 24) (ltN hN 24 rfl) gk24 (v := .int x24_3j10) w_x24_3 gx1142 dX10_readNumber_96 ?_
      refine lv_iload_n hx hb dX10_readNumber_99 rfl (lv_at hl 3 rfl) ?_
      refine lv_isub hx hb dX10_readNumber_100 ?_
      refine lv_iconst (v := 2) hx hb dX10_readNumber_101 (by decide) ?_
      refine lv_icmp_gt (tgt := 117) hx hb dX10_readNumber_102 (by decide) (fun c19 => ?_) (fun c19 => ?_)
      · rw [if_pos c19] at hs0
        exact hJ117_0 v3j10 v4j10 x24_3j10 x24_4j10 m _ _ w_x24_3 w_x24_4 hoff hsh ls (lv_sub hl [0, 3, 4] rfl) hs0 hW hS
      · rw [if_neg c19] at hs0
        refine lv_iload hx hb dX10_readNumber_105 (lv_at hl 4 rfl) ?_
        refine lv_iload_n hx hb dX10_readNumber_107 rfl (lv_at hl 1 rfl) ?_
        refine lv_icmp_lt (tgt := 117) hx hb dX10_readNumber_108 (by decide) (fun c21 => ?_) (fun c21 => ?_)
        · rw [if_pos c21] at hs0
          exact hJ117_0 v3j10 v4j10 x24_3j10 x24_4j10 m _ _ w_x24_3 w_x24_4 hoff hsh ls (lv_sub hl [0, 3, 4] rfl) hs0 hW hS
        · rw [if_neg c21] at hs0
          refine lv_iload hx hb dX10_readNumber_111 (lv_at hl 4 rfl) ?_
          refine lv_iload_n hx hb dX10_readNumber_113 rfl (lv_at hl 2 rfl) ?_
          refine lv_icmp_le (tgt := 123) hx hb dX10_readNumber_114 (by decide) (fun c22 => ?_) (fun c22 => ?_)
          · rw [if_pos c22] at hs0
            refine lv_iload hx hb dX10_readNumber_123 (lv_at hl 4 rfl) ?_
            have hs0 := Option.some.inj hs0
            subst hs0
            exact W.zret hx hb hr rfl (fun t ht hw => ⟨⟨_, (m, a0), rfl, ⟨rfl, w_x24_3, w_x24_4, hoff, rfl⟩, g_end hW ht hw⟩, hS.F ht⟩) hS.2.2 dX10_readNumber_125 hlocks
          · rw [if_neg c22] at hs0
            exact hJ117_0 v3j10 v4j10 x24_3j10 x24_4j10 m _ _ w_x24_3 w_x24_4 hoff hsh ls (lv_sub hl [0, 3, 4] rfl) hs0 hW hS
    · rw [if_pos c18] at hs0
      refine lv_aload_n hx hb dX10_readNumber_83 rfl (lv_at hl 0 rfl) ?_
      refine lv_aload_n hx hb dX10_readNumber_84 rfl (lv_at hl 0 rfl) ?_
      refine gf10_3 hx hb hG hown hW (o := 24) (ltN hN 24 rfl) gk24 (v := .int x24_3j10) w_x24_3 gx1142 dX10_readNumber_85 ?_
      refine lv_iconst (v := 1) hx hb dX10_readNumber_88 (by decide) ?_
      refine g_Vv (n := 2) hx hb hml hown hG hW hS [.int x24_3j10, .int 1] (kX10_blame hN hsh w_x24_4 x24_3j10 1) (ltN hN 24 rfl) gk24 (by decide) rfl rfl (gd_V gx1167 gx1168 gx1169 gx31 gx1170) rfl rfl (by decide) ⟨Nat.le_of_ble_eq_true rfl, Nat.le_of_ble_eq_true rfl⟩ rfl hl (Nat.le_of_ble_eq_true rfl) ⟨Nat.zero_le _, Nat.zero_le _⟩ dX10_readNumber_89 (fun m23 a23 H locs hp23 hW hS => ?_)
      obtain ⟨hp23_x24_4, ho23, ha23⟩ := hp23
      rw [ha23] at hW
      have w_x24_3 : m23 2403 = .int x24_3j10 := (ho23 2403 rfl).trans w_x24_3
      have w_x24_4 : m23 2404 = .int (fX10_blame x24_4j10 x24_3j10 1) := hp23_x24_4
      have hoff := offm hoff ho23 (by decide +kernel)
      have hsh := SH.off hsh ho23 (by decide +kernel)
      refine lv_goto (tgt := 123) hx hb dX10_readNumber_92 (by decide) ?_
      refine lv_iload hx hb dX10_readNumber_123 (lv_at hl 4 rfl) ?_
      have hs0 := Option.some.inj hs0
      subst hs0
      exact W.zret hx hb hr rfl (fun t ht hw => ⟨⟨_, (m23, a0), rfl, ⟨rfl, w_x24_3, w_x24_4, hoff, rfl⟩, g_end hW ht hw⟩, hS.F ht⟩) hS.2.2 dX10_readNumber_125 hlocks
  refine lv_aload_n hx hb dX10_readNumber_0 rfl (lv_at hl 0 rfl) ?_
  obtain ⟨r1, hf1, hs0⟩ := obind hs0
  refine g_Vv (n := 0) hx hb hml hown hG hW hS [] (kX10_skipBlanks hN hsh ((hoff 2402 rfl).trans h_x24_2) h_A26 h_x24_3 F hf1) (ltN hN 24 rfl) gk24 (by decide) rfl rfl (gd_V gx1150 gx1151 gx1152 gx31 gx1153) rfl rfl (by decide) ⟨Nat.le_of_ble_eq_true rfl, Nat.le_of_ble_eq_true rfl⟩ rfl hl (Nat.le_of_ble_eq_true rfl) ⟨Nat.zero_le _, Nat.zero_le _⟩ dX10_readNumber_1 (fun m1 a1 H locs hp1 hW hS => ?_)
  obtain ⟨hp1_x24_3, ho1, ha1⟩ := hp1
  rw [ha1] at hW
  have w_x24_3 : m1 2403 = .int r1 := hp1_x24_3
  have w_x24_4 : m1 2404 = .int x24_4 := (ho1 2404 rfl).trans h_x24_4
  have hoff := offm hoff ho1 (by decide +kernel)
  have hsh := SH.off hsh ho1 (by decide +kernel)
  refine lv_aload_n hx hb dX10_readNumber_4 rfl (lv_at hl 0 rfl) ?_
  refine gf10_3 hx hb hG hown hW (o := 24) (ltN hN 24 rfl) gk24 (v := .int r1) w_x24_3 gx1142 dX10_readNumber_5 ?_
  refine lv_istore_n (lv' := [(3, .int r1), (0, .ref (q 24)), (1, .int p1), (2, .int p2)]) hx hb dX10_readNumber_8 rfl hl (by decide) rfl (fun ls hl => ?_)
  refine lv_iconst (v := 0) hx hb dX10_readNumber_9 (by decide) ?_
  refine lv_istore (lv' := [(4, .int 0), (3, .int r1), (0, .ref (q 24)), (1, .int p1), (2, .int p2)]) hx hb dX10_readNumber_10 hl (by decide) rfl (fun ls hl => ?_)
  obtain ⟨r2, hg2, hs0⟩ := obind hs0
  have hE1_75 : ∀ (t2_75 : Int32 × Int32) (hr2 : t2_75 = r2) (m : Nat → Value) (H : Heap) (locs : List Loc) (w_x24_3 : m 2403 = .int t2_75.2) (w_x24_4 : m 2404 = .int x24_4) (hoff : ∀ j, nel j [2403, 2404] = false → m j = m0 j) (hsh : SH q m) (ls : Array Slot) (hl : lv_has ls 5 [(0, .ref (q 24)), (1, .int p1), (2, .int p2), (3, .int r1), (4, .int t2_75.1)]) (hW : GW D cy (gA N q s.heap.size) N q m a0 s H) (hS : va_S (gA N q s.heap.size) s.heap H locs), W p l e ({ frames := 3, cells := 0, slots := 0, locals := 61 } : Room) s M args below meth c H locs 0 0 (MQ below (va_Qi (fun (r : Int32) (u : (Nat → Value) × (Nat → vp_A)) => r = X0.1 ∧ u.1 2403 = .int X0.2.1 ∧ u.1 2404 = .int X0.2.2 ∧ (∀ j, nel j [2403, 2404] = false → u.1 j = m0 j) ∧ u.2 = a0) (gB D cy N q s.heap.size) (gA N q s.heap.size)) args s 0 0 (gA N q s.heap.size)) (F0 M 75 ls []) := by
    intro t2_75 hr2 m H locs w_x24_3 w_x24_4 hoff hsh ls hl hW hS
    subst hr2
    exact hJ75_0 p1 p2 r1 t2_75.1 t2_75.2 x24_4 m _ _ w_x24_3 w_x24_4 hoff hsh ls (lv_sub hl [0, 1, 2, 3, 4] rfl) hs0 hW hS
  have hL1 : ∀ (n : Nat) (v4k2 : Int32) (x24_3k2 : Int32) (m : Nat → Value) (H : Heap) (locs : List Loc) (w_x24_3 : m 2403 = .int x24_3k2) (w_x24_4 : m 2404 = .int x24_4) (hoff : ∀ j, nel j [2403, 2404] = false → m j = m0 j) (hsh : SH q m) (ls : Array Slot) (hl : lv_has ls 5 [(0, .ref (q 24)), (1, .int p1), (2, .int p2), (3, .int r1), (4, .int v4k2)]) (hg2 : gloop (fun u2 : (Int32 × Int32) => fX10_readNumber_S12 F x24_2 A26 p1 p2 r1 x24_4 u2.1 u2.2) n (v4k2, x24_3k2) = some r2) (hW : GW D cy (gA N q s.heap.size) N q m a0 s H) (hS : va_S (gA N q s.heap.size) s.heap H locs), W p l e ({ frames := 3, cells := 0, slots := 0, locals := 61 } : Room) s M args below meth c H locs 0 0 (MQ below (va_Qi (fun (r : Int32) (u : (Nat → Value) × (Nat → vp_A)) => r = X0.1 ∧ u.1 2403 = .int X0.2.1 ∧ u.1 2404 = .int X0.2.2 ∧ (∀ j, nel j [2403, 2404] = false → u.1 j = m0 j) ∧ u.2 = a0) (gB D cy N q s.heap.size) (gA N q s.heap.size)) args s 0 0 (gA N q s.heap.size)) (F0 M 12 ls []) := by
    intro n
    induction n with
    | zero => intro v4k2 x24_3k2 m H locs w_x24_3 w_x24_4 hoff hsh ls hl hg2 hW hS; exact (gl_zero hg2).elim
    | succ n ih1 =>
      intro v4k2 x24_3k2 m H locs w_x24_3 w_x24_4 hoff hsh ls hl hg2 hW hS
      obtain ⟨X1, hs1, hXl1, hXr1⟩ := gl_succ hg2
      have hs1 : fX10_readNumber_S12 F x24_2 A26 p1 p2 r1 x24_4 v4k2 x24_3k2 = some X1 := hs1
      unfold fX10_readNumber_S12 at hs1
      refine lv_aload_n hx hb dX10_readNumber_12 rfl (lv_at hl 0 rfl) ?_
      refine gf10_3 hx hb hG hown hW (o := 24) (ltN hN 24 rfl) gk24 (v := .int x24_3k2) w_x24_3 gx1142 dX10_readNumber_13 ?_
      refine lv_aload_n hx hb dX10_readNumber_16 rfl (lv_at hl 0 rfl) ?_
      refine gf10_2 hx hb hG hown hW (o := 24) (ltN hN 24 rfl) gk24 (v := .int x24_2) ((hoff 2402 rfl).trans h_x24_2) gx1141 dX10_readNumber_17 ?_
      refine lv_icmp_ge (tgt := 75) hx hb dX10_readNumber_20 (by decide) (fun c11 => ?_) (fun c11 => ?_)
      · rw [if_pos c11] at hs1
        exact hE1_75 (v4k2, x24_3k2) (hXl1 _ (Option.some.inj hs1).symm) m _ _ w_x24_3 w_x24_4 hoff hsh ls (lv_sub hl [0, 1, 2, 3, 4] rfl) hW hS
      · rw [if_neg c11] at hs1
        refine lv_aload_n hx hb dX10_readNumber_23 rfl (lv_at hl 0 rfl) ?_
        refine g_ViR (n := 0) hx hb hml hown hG hW hS [] (kX10_peek hN hsh ((hoff 2402 rfl).trans h_x24_2) w_x24_3 h_A26) (ltN hN 24 rfl) gk24 (by decide) rfl rfl (gd_V gx1154 gx1155 gx1156 gx31 gx1157) rfl rfl (by decide) ⟨Nat.le_of_ble_eq_true rfl, Nat.le_of_ble_eq_true rfl⟩ rfl hl (Nat.le_of_ble_eq_true rfl) ⟨Nat.zero_le _, Nat.zero_le _⟩ dX10_readNumber_24 (fun H locs hW hS => ?_)
        refine lv_bipush (v := 48) hx hb dX10_readNumber_27 (by decide) ?_
        refine lv_icmp_lt (tgt := 75) hx hb dX10_readNumber_29 (by decide) (fun c13 => ?_) (fun c13 => ?_)
        · rw [if_pos c13] at hs1
          exact hE1_75 (v4k2, x24_3k2) (hXl1 _ (Option.some.inj hs1).symm) m _ _ w_x24_3 w_x24_4 hoff hsh ls (lv_sub hl [0, 1, 2, 3, 4] rfl) hW hS
        · rw [if_neg c13] at hs1
          refine lv_aload_n hx hb dX10_readNumber_32 rfl (lv_at hl 0 rfl) ?_
          refine g_ViR (n := 0) hx hb hml hown hG hW hS [] (kX10_peek hN hsh ((hoff 2402 rfl).trans h_x24_2) w_x24_3 h_A26) (ltN hN 24 rfl) gk24 (by decide) rfl rfl (gd_V gx1154 gx1155 gx1156 gx31 gx1157) rfl rfl (by decide) ⟨Nat.le_of_ble_eq_true rfl, Nat.le_of_ble_eq_true rfl⟩ rfl hl (Nat.le_of_ble_eq_true rfl) ⟨Nat.zero_le _, Nat.zero_le _⟩ dX10_readNumber_33 (fun H locs hW hS => ?_)
          refine lv_bipush (v := 57) hx hb dX10_readNumber_36 (by decide) ?_
          refine lv_icmp_gt (tgt := 75) hx hb dX10_readNumber_38 (by decide) (fun c15 => ?_) (fun c15 => ?_)
          · rw [if_pos c15] at hs1
            exact hE1_75 (v4k2, x24_3k2) (hXl1 _ (Option.some.inj hs1).symm) m _ _ w_x24_3 w_x24_4 hoff hsh ls (lv_sub hl [0, 1, 2, 3, 4] rfl) hW hS
          · rw [if_neg c15] at hs1
            refine lv_bipush (v := 10) hx hb dX10_readNumber_41 (by decide) ?_
            refine lv_iload hx hb dX10_readNumber_43 (lv_at hl 4 rfl) ?_
            refine lv_imul hx hb dX10_readNumber_45 ?_
            refine lv_aload_n hx hb dX10_readNumber_46 rfl (lv_at hl 0 rfl) ?_
            refine g_ViR (n := 0) hx hb hml hown hG hW hS [] (kX10_peek hN hsh ((hoff 2402 rfl).trans h_x24_2) w_x24_3 h_A26) (ltN hN 24 rfl) gk24 (by decide) rfl rfl (gd_V gx1154 gx1155 gx1156 gx31 gx1157) rfl rfl (by decide) ⟨Nat.le_of_ble_eq_true rfl, Nat.le_of_ble_eq_true rfl⟩ rfl hl (Nat.le_of_ble_eq_true rfl) ⟨Nat.zero_le _, Nat.zero_le _⟩ dX10_readNumber_47 (fun H locs hW hS => ?_)
            refine lv_iadd hx hb dX10_readNumber_50 ?_
            refine lv_bipush (v := 48) hx hb dX10_readNumber_51 (by decide) ?_
            refine lv_isub hx hb dX10_readNumber_53 ?_
            refine lv_sipush (v := 1000) hx hb dX10_readNumber_54 (by decide) ?_
            refine va_mmin hx hb (hml.trans hl.1.symm) hown (hG _ gx1140) (hG _ gx487) (hG _ gx55) (hG _ gx488) (Nat.le_of_ble_eq_true rfl) (Nat.le_of_ble_eq_true rfl) (Nat.zero_le _) (Nat.zero_le _) dX10_readNumber_57 ?_
            refine lv_istore (lv' := [(4, .int (if 1000 < (((10 * v4k2) + (fX10_peek x24_2 x24_3k2 A26)) - 48) then 1000 else (((10 * v4k2) + (fX10_peek x24_2 x24_3k2 A26)) - 48))), (0, .ref (q 24)), (1, .int p1), (2, .int p2), (3, .int r1)]) hx hb dX10_readNumber_60 hl (by decide) rfl (fun ls hl => ?_)
            refine lv_aload_n hx hb dX10_readNumber_62 rfl (lv_at hl 1 rfl) ?_
            refine lv_dup hx hb dX10_readNumber_63 rfl ?_
            refine gf10_3 hx hb hG hown hW (o := 24) (ltN hN 24 rfl) gk24 (v := .int x24_3k2) w_x24_3 gx1142 dX10_readNumber_64 ?_
            refine lv_iconst (v := 1) hx hb dX10_readNumber_67 (by decide) ?_
            refine lv_iadd hx hb dX10_readNumber_68 ?_
            refine gp10_3 hx hb hG hown hW hS (o := 24) (ltN hN 24 rfl) gk24 (v := (x24_3k2 + 1)) gx1142 dX10_readNumber_69 (fun m17 H locs hm17 ho17 hW hS => ?_)
            have ho17 := off1 ho17
            have w_x24_3 : m17 2403 = .int (x24_3k2 + 1) := hm17
            have w_x24_4 : m17 2404 = .int x24_4 := (ho17 2404 rfl).trans w_x24_4
            have hoff := offm hoff ho17 (by decide +kernel)
            have hsh := SH.off hsh ho17 (by decide +kernel)
            refine lv_goto (tgt := 12) hx hb dX10_readNumber_72 (by decide) ?_
            exact ih1 (if 1000 < (((10 * v4k2) + (fX10_peek x24_2 x24_3k2 A26)) - 48) then 1000 else (((10 * v4k2) + (fX10_peek x24_2 x24_3k2 A26)) - 48)) (x24_3k2 + 1) m17 _ _ w_x24_3 w_x24_4 hoff hsh ls (lv_sub hl [1, 2, 3, 4, 0] rfl) (hXr1 _ (Option.some.inj hs1).symm) hW hS
  exact hL1 F 0 r1 m1 _ _ w_x24_3 w_x24_4 hoff hsh ls (lv_sub hl [2, 3, 4, 1, 0] rfl) hg2 hW hS
-- HealLink$Tape.readClose (LHealLink$Steps;)V
def fX10_readClose (F : Nat) (x24_2 : Int32) (A19 : Nat → Int32) (A26 : Nat → Int32) (x11_6 : Int32) (x11_7 : Int32) (x24_3 : Int32) (x24_4 : Int32) (A13 : Nat → Int32) (A15 : Nat → Int32) (A17 : Nat → Int32) : Option (Int32 × Int32 × Int32 × Int32 × (Nat → Int32) × (Nat → Int32) × (Nat → Int32)) := (if (fX8_mayClose x11_7) = 0 then some (x11_6, x11_7, x24_3, (fX10_blame x24_4 x24_3 1), A13, A15, A17) else ((fX10_expect F x24_2 A26 (x24_3 + 1) x24_4 59).bind (fun r5 => some ((fX8_close A19 x11_6 x11_7 A13 A15 A17).1, (fX8_close A19 x11_6 x11_7 A13 A15 A17).2.1, r5.1, r5.2, (fX8_close A19 x11_6 x11_7 A13 A15 A17).2.2.1, (fX8_close A19 x11_6 x11_7 A13 A15 A17).2.2.2.1, (fX8_close A19 x11_6 x11_7 A13 A15 A17).2.2.2.2))))
theorem dX10_readClose_0 : decode cX10_readClose 0 = .ok (.aload_n 1, 1) := by decide +kernel
theorem dX10_readClose_1 : decode cX10_readClose 1 = .ok (.invokevirtual 63, 3) := by decide +kernel
theorem dX10_readClose_4 : decode cX10_readClose 4 = .ok (.ifCond .ne 13, 3) := by decide +kernel
theorem dX10_readClose_7 : decode cX10_readClose 7 = .ok (.aload_n 0, 1) := by decide +kernel
theorem dX10_readClose_8 : decode cX10_readClose 8 = .ok (.aload_n 0, 1) := by decide +kernel
theorem dX10_readClose_9 : decode cX10_readClose 9 = .ok (.getfield 37, 3) := by decide +kernel
theorem dX10_readClose_12 : decode cX10_readClose 12 = .ok (.iconst 1, 1) := by decide +kernel
theorem dX10_readClose_13 : decode cX10_readClose 13 = .ok (.invokevirtual 67, 3) := by decide +kernel
theorem dX10_readClose_16 : decode cX10_readClose 16 = .ok (.return_, 1) := by decide +kernel
theorem dX10_readClose_17 : decode cX10_readClose 17 = .ok (.aload_n 1, 1) := by decide +kernel
theorem dX10_readClose_18 : decode cX10_readClose 18 = .ok (.invokevirtual 70, 3) := by decide +kernel
theorem dX10_readClose_21 : decode cX10_readClose 21 = .ok (.aload_n 0, 1) := by decide +kernel
theorem dX10_readClose_22 : decode cX10_readClose 22 = .ok (.dup, 1) := by decide +kernel
theorem dX10_readClose_23 : decode cX10_readClose 23 = .ok (.getfield 37, 3) := by decide +kernel
theorem dX10_readClose_26 : decode cX10_readClose 26 = .ok (.iconst 1, 1) := by decide +kernel
theorem dX10_readClose_27 : decode cX10_readClose 27 = .ok (.iadd, 1) := by decide +kernel
theorem dX10_readClose_28 : decode cX10_readClose 28 = .ok (.putfield 37, 3) := by decide +kernel
theorem dX10_readClose_31 : decode cX10_readClose 31 = .ok (.aload_n 0, 1) := by decide +kernel
theorem dX10_readClose_32 : decode cX10_readClose 32 = .ok (.bipush 59, 2) := by decide +kernel
theorem dX10_readClose_34 : decode cX10_readClose 34 = .ok (.invokevirtual 73, 3) := by decide +kernel
theorem dX10_readClose_37 : decode cX10_readClose 37 = .ok (.return_, 1) := by decide +kernel
set_option maxHeartbeats 4000000 in
set_option maxRecDepth 100000 in
theorem kX10_readClose {l : Launch} {D : va_G} {cy : Nat → ClassId} {N : Nat} {q : Nat → Nat} {m0 : Nat → Value} {a0 : Nat → vp_A} {sz : Nat} (hN : 105 ≤ N) (hsh : SH q m0) {x24_2 : Int32} (h_x24_2 : m0 2402 = .int x24_2) {A19 : Nat → Int32} (h_A19 : a0 19 = (4, .inl A19)) {A26 : Nat → Int32} (h_A26 : a0 26 = (264, .inl A26)) {x11_6 : Int32} (h_x11_6 : m0 1106 = .int x11_6) {x11_7 : Int32} (h_x11_7 : m0 1107 = .int x11_7) {x24_3 : Int32} (h_x24_3 : m0 2403 = .int x24_3) {x24_4 : Int32} (h_x24_4 : m0 2404 = .int x24_4) {A13 : Nat → Int32} (h_A13 : a0 13 = (64, .inl A13)) {A15 : Nat → Int32} (h_A15 : a0 15 = (64, .inl A15)) {A17 : Nat → Int32} (h_A17 : a0 17 = (64, .inl A17)) (F : Nat) {X0 : Int32 × Int32 × Int32 × Int32 × (Nat → Int32) × (Nat → Int32) × (Nat → Int32)} (hs0 : fX10_readClose F x24_2 A19 A26 x11_6 x11_7 x24_3 x24_4 A13 A15 A17 = some X0) : gMv l yX10_readClose cX10_readClose 2 none ({ frames := 4, cells := 0, slots := 0, locals := 82 } : Room) D cy N q m0 a0 sz [.ref (q 24), .ref (q 11)] (fun m' a' => m' 1106 = .int X0.1 ∧ m' 1107 = .int X0.2.1 ∧ m' 2403 = .int X0.2.2.1 ∧ m' 2404 = .int X0.2.2.2.1 ∧ (∀ j, nel j [1106, 1107, 2403, 2404] = false → m' j = m0 j) ∧ a' 13 = (64, .inl X0.2.2.2.2.1) ∧ a' 15 = (64, .inl X0.2.2.2.2.2.1) ∧ a' 17 = (64, .inl X0.2.2.2.2.2.2) ∧ (∀ j, nel j [13, 15, 17] = false → a' j = a0 j)) := by
  refine g_ofv (by decide) (Nat.le_of_ble_eq_true rfl) ?_
  intro p e s M args below meth c hx hb hr hG hown hin hlocks hml hW hS ls hl
  unfold fX10_readClose at hs0
  have hoff : ∀ j, nel j [1106, 1107, 2403, 2404] = false → m0 j = m0 j := off0
  have hoffa : ∀ j, nel j [13, 15, 17] = false → a0 j = a0 j := off0
  refine lv_aload_n hx hb dX10_readClose_0 rfl (lv_at hl 1 rfl) ?_
  refine g_ViR (n := 0) hx hb hml hown hG hW hS [] (kX8_mayClose hN h_x11_7) (ltN hN 11 rfl) gk11 (by decide) rfl rfl (gd_V gx1163 gx1164 gx1165 gx27 gx1166) rfl rfl (by decide) ⟨Nat.le_of_ble_eq_true rfl, Nat.le_of_ble_eq_true rfl⟩ rfl hl (Nat.le_of_ble_eq_true rfl) ⟨Nat.zero_le _, Nat.zero_le _⟩ dX10_readClose_1 (fun H locs hW hS => ?_)
  refine lv_if_ne (tgt := 17) hx hb dX10_readClose_4 (by decide) (fun c2 => ?_) (fun c2 => ?_)
  · rw [if_neg c2] at hs0
    refine lv_aload_n hx hb dX10_readClose_17 rfl (lv_at hl 1 rfl) ?_
    refine g_Vv (n := 0) hx hb hml hown hG hW hS [] (kX8_close hN hsh ((hoffa 19 rfl).trans h_A19) h_x11_6 h_x11_7 h_A13 h_A15 h_A17) (ltN hN 11 rfl) gk11 (by decide) rfl rfl (gd_V gx1171 gx1172 gx1173 gx27 gx1174) rfl rfl (by decide) ⟨Nat.le_of_ble_eq_true rfl, Nat.le_of_ble_eq_true rfl⟩ rfl hl (Nat.le_of_ble_eq_true rfl) ⟨Nat.zero_le _, Nat.zero_le _⟩ dX10_readClose_18 (fun m3 a3 H locs hp3 hW hS => ?_)
    obtain ⟨hp3_x11_6, hp3_x11_7, ho3, hp3_A13, hp3_A15, hp3_A17, hoa3⟩ := hp3
    have w_x11_6 : m3 1106 = .int ((fX8_close A19 x11_6 x11_7 A13 A15 A17).1) := hp3_x11_6
    have w_x11_7 : m3 1107 = .int ((fX8_close A19 x11_6 x11_7 A13 A15 A17).2.1) := hp3_x11_7
    have w_x24_3 : m3 2403 = .int x24_3 := (ho3 2403 rfl).trans h_x24_3
    have w_x24_4 : m3 2404 = .int x24_4 := (ho3 2404 rfl).trans h_x24_4
    have hoff := offm hoff ho3 (by decide +kernel)
    have hsh := SH.off hsh ho3 (by decide +kernel)
    have w_A13 : a3 13 = (64, .inl ((fX8_close A19 x11_6 x11_7 A13 A15 A17).2.2.1)) := hp3_A13
    have w_A15 : a3 15 = (64, .inl ((fX8_close A19 x11_6 x11_7 A13 A15 A17).2.2.2.1)) := hp3_A15
    have w_A17 : a3 17 = (64, .inl ((fX8_close A19 x11_6 x11_7 A13 A15 A17).2.2.2.2)) := hp3_A17
    have hoffa := offm hoffa hoa3 (by decide +kernel)
    refine lv_aload_n hx hb dX10_readClose_21 rfl (lv_at hl 0 rfl) ?_
    refine lv_dup hx hb dX10_readClose_22 rfl ?_
    refine gf10_3 hx hb hG hown hW (o := 24) (ltN hN 24 rfl) gk24 (v := .int x24_3) w_x24_3 gx1142 dX10_readClose_23 ?_
    refine lv_iconst (v := 1) hx hb dX10_readClose_26 (by decide) ?_
    refine lv_iadd hx hb dX10_readClose_27 ?_
    refine gp10_3 hx hb hG hown hW hS (o := 24) (ltN hN 24 rfl) gk24 (v := (x24_3 + 1)) gx1142 dX10_readClose_28 (fun m4 H locs hm4 ho4 hW hS => ?_)
    have ho4 := off1 ho4
    have w_x11_6 : m4 1106 = .int ((fX8_close A19 x11_6 x11_7 A13 A15 A17).1) := (ho4 1106 rfl).trans w_x11_6
    have w_x11_7 : m4 1107 = .int ((fX8_close A19 x11_6 x11_7 A13 A15 A17).2.1) := (ho4 1107 rfl).trans w_x11_7
    have w_x24_3 : m4 2403 = .int (x24_3 + 1) := hm4
    have w_x24_4 : m4 2404 = .int x24_4 := (ho4 2404 rfl).trans w_x24_4
    have hoff := offm hoff ho4 (by decide +kernel)
    have hsh := SH.off hsh ho4 (by decide +kernel)
    refine lv_aload_n hx hb dX10_readClose_31 rfl (lv_at hl 0 rfl) ?_
    refine lv_bipush (v := 59) hx hb dX10_readClose_32 (by decide) ?_
    obtain ⟨r5, hf5, hs0⟩ := obind hs0
    refine g_Vv (n := 1) hx hb hml hown hG hW hS [.int 59] (kX10_expect hN hsh ((hoff 2402 rfl).trans h_x24_2) ((hoffa 26 rfl).trans h_A26) w_x24_3 w_x24_4 F 59 hf5) (ltN hN 24 rfl) gk24 (by decide) rfl rfl (gd_V gx1182 gx1183 gx1184 gx31 gx1185) rfl rfl (by decide) ⟨Nat.le_of_ble_eq_true rfl, Nat.le_of_ble_eq_true rfl⟩ rfl hl (Nat.le_of_ble_eq_true rfl) ⟨Nat.zero_le _, Nat.zero_le _⟩ dX10_readClose_34 (fun m5 a5 H locs hp5 hW hS => ?_)
    obtain ⟨hp5_x24_3, hp5_x24_4, ho5, ha5⟩ := hp5
    rw [ha5] at hW
    have w_x11_6 : m5 1106 = .int ((fX8_close A19 x11_6 x11_7 A13 A15 A17).1) := (ho5 1106 rfl).trans w_x11_6
    have w_x11_7 : m5 1107 = .int ((fX8_close A19 x11_6 x11_7 A13 A15 A17).2.1) := (ho5 1107 rfl).trans w_x11_7
    have w_x24_3 : m5 2403 = .int r5.1 := hp5_x24_3
    have w_x24_4 : m5 2404 = .int r5.2 := hp5_x24_4
    have hoff := offm hoff ho5 (by decide +kernel)
    have hsh := SH.off hsh ho5 (by decide +kernel)
    have hs0 := Option.some.inj hs0
    subst hs0
    exact W.vret hx hb hr (fun t ht hw => ⟨⟨(m5, a3), rfl, ⟨w_x11_6, w_x11_7, w_x24_3, w_x24_4, hoff, w_A13, w_A15, w_A17, hoffa⟩, g_end hW ht hw⟩, hS.F ht⟩) hS.2.2 dX10_readClose_37 hlocks
  · rw [if_pos c2] at hs0
    refine lv_aload_n hx hb dX10_readClose_7 rfl (lv_at hl 0 rfl) ?_
    refine lv_aload_n hx hb dX10_readClose_8 rfl (lv_at hl 0 rfl) ?_
    refine gf10_3 hx hb hG hown hW (o := 24) (ltN hN 24 rfl) gk24 (v := .int x24_3) h_x24_3 gx1142 dX10_readClose_9 ?_
    refine lv_iconst (v := 1) hx hb dX10_readClose_12 (by decide) ?_
    refine g_Vv (n := 2) hx hb hml hown hG hW hS [.int x24_3, .int 1] (kX10_blame hN hsh h_x24_4 x24_3 1) (ltN hN 24 rfl) gk24 (by decide) rfl rfl (gd_V gx1167 gx1168 gx1169 gx31 gx1170) rfl rfl (by decide) ⟨Nat.le_of_ble_eq_true rfl, Nat.le_of_ble_eq_true rfl⟩ rfl hl (Nat.le_of_ble_eq_true rfl) ⟨Nat.zero_le _, Nat.zero_le _⟩ dX10_readClose_13 (fun m6 a6 H locs hp6 hW hS => ?_)
    obtain ⟨hp6_x24_4, ho6, ha6⟩ := hp6
    rw [ha6] at hW
    have w_x11_6 : m6 1106 = .int x11_6 := (ho6 1106 rfl).trans h_x11_6
    have w_x11_7 : m6 1107 = .int x11_7 := (ho6 1107 rfl).trans h_x11_7
    have w_x24_3 : m6 2403 = .int x24_3 := (ho6 2403 rfl).trans h_x24_3
    have w_x24_4 : m6 2404 = .int (fX10_blame x24_4 x24_3 1) := hp6_x24_4
    have hoff := offm hoff ho6 (by decide +kernel)
    have hsh := SH.off hsh ho6 (by decide +kernel)
    have hs0 := Option.some.inj hs0
    subst hs0
    exact W.vret hx hb hr (fun t ht hw => ⟨⟨(m6, a0), rfl, ⟨w_x11_6, w_x11_7, w_x24_3, w_x24_4, hoff, h_A13, h_A15, h_A17, hoffa⟩, g_end hW ht hw⟩, hS.F ht⟩) hS.2.2 dX10_readClose_16 hlocks
-- HealLink$Tape.readAgain (ILHealLink$Steps;)V
def fX10_readAgain (F : Nat) (x24_2 : Int32) (A26 : Nat → Int32) (x11_6 : Int32) (x11_7 : Int32) (x24_3 : Int32) (x24_4 : Int32) (A13 : Nat → Int32) (A15 : Nat → Int32) (A17 : Nat → Int32) (A19 : Nat → Int32) (p1 : Int32) : Option (Int32 × Int32 × Int32 × Int32 × (Nat → Int32) × (Nat → Int32) × (Nat → Int32) × (Nat → Int32)) := (if (fX8_mayOpen x11_7) = 0 then some (x11_6, x11_7, x24_3, (fX10_blame x24_4 p1 3), A13, A15, A17, A19) else ((fX10_readNumber F x24_2 A26 x24_3 x24_4 0 30).bind (fun r3 => ((fX10_expect F x24_2 A26 r3.2.1 r3.2.2 91).bind (fun r4 => some ((fX8_open x11_6 x11_7 A13 A15 A17 A19 r3.1).1, (fX8_open x11_6 x11_7 A13 A15 A17 A19 r3.1).2.1, r4.1, r4.2, (fX8_open x11_6 x11_7 A13 A15 A17 A19 r3.1).2.2.1, (fX8_open x11_6 x11_7 A13 A15 A17 A19 r3.1).2.2.2.1, (fX8_open x11_6 x11_7 A13 A15 A17 A19 r3.1).2.2.2.2.1, (fX8_open x11_6 x11_7 A13 A15 A17 A19 r3.1).2.2.2.2.2))))))
theorem dX10_readAgain_0 : decode cX10_readAgain 0 = .ok (.aload_n 2, 1) := by decide +kernel
theorem dX10_readAgain_1 : decode cX10_readAgain 1 = .ok (.invokevirtual 90, 3) := by decide +kernel
theorem dX10_readAgain_4 : decode cX10_readAgain 4 = .ok (.ifCond .ne 10, 3) := by decide +kernel
theorem dX10_readAgain_7 : decode cX10_readAgain 7 = .ok (.aload_n 0, 1) := by decide +kernel
theorem dX10_readAgain_8 : decode cX10_readAgain 8 = .ok (.iload_n 1, 1) := by decide +kernel
theorem dX10_readAgain_9 : decode cX10_readAgain 9 = .ok (.iconst 3, 1) := by decide +kernel
theorem dX10_readAgain_10 : decode cX10_readAgain 10 = .ok (.invokevirtual 67, 3) := by decide +kernel
theorem dX10_readAgain_13 : decode cX10_readAgain 13 = .ok (.return_, 1) := by decide +kernel
theorem dX10_readAgain_14 : decode cX10_readAgain 14 = .ok (.aload_n 0, 1) := by decide +kernel
theorem dX10_readAgain_15 : decode cX10_readAgain 15 = .ok (.iconst 0, 1) := by decide +kernel
theorem dX10_readAgain_16 : decode cX10_readAgain 16 = .ok (.bipush 30, 2) := by decide +kernel
theorem dX10_readAgain_18 : decode cX10_readAgain 18 = .ok (.invokevirtual 84, 3) := by decide +kernel
theorem dX10_readAgain_21 : decode cX10_readAgain 21 = .ok (.istore_n 3, 1) := by decide +kernel
theorem dX10_readAgain_22 : decode cX10_readAgain 22 = .ok (.aload_n 0, 1) := by decide +kernel
theorem dX10_readAgain_23 : decode cX10_readAgain 23 = .ok (.bipush 91, 2) := by decide +kernel
theorem dX10_readAgain_25 : decode cX10_readAgain 25 = .ok (.invokevirtual 73, 3) := by decide +kernel
theorem dX10_readAgain_28 : decode cX10_readAgain 28 = .ok (.aload_n 2, 1) := by decide +kernel
theorem dX10_readAgain_29 : decode cX10_readAgain 29 = .ok (.iload_n 3, 1) := by decide +kernel
theorem dX10_readAgain_30 : decode cX10_readAgain 30 = .ok (.invokevirtual 93, 3) := by decide +kernel
theorem dX10_readAgain_33 : decode cX10_readAgain 33 = .ok (.return_, 1) := by decide +kernel
set_option maxHeartbeats 4000000 in
set_option maxRecDepth 100000 in
theorem kX10_readAgain {l : Launch} {D : va_G} {cy : Nat → ClassId} {N : Nat} {q : Nat → Nat} {m0 : Nat → Value} {a0 : Nat → vp_A} {sz : Nat} (hN : 105 ≤ N) (hsh : SH q m0) {x24_2 : Int32} (h_x24_2 : m0 2402 = .int x24_2) {A26 : Nat → Int32} (h_A26 : a0 26 = (264, .inl A26)) {x11_6 : Int32} (h_x11_6 : m0 1106 = .int x11_6) {x11_7 : Int32} (h_x11_7 : m0 1107 = .int x11_7) {x24_3 : Int32} (h_x24_3 : m0 2403 = .int x24_3) {x24_4 : Int32} (h_x24_4 : m0 2404 = .int x24_4) {A13 : Nat → Int32} (h_A13 : a0 13 = (64, .inl A13)) {A15 : Nat → Int32} (h_A15 : a0 15 = (64, .inl A15)) {A17 : Nat → Int32} (h_A17 : a0 17 = (64, .inl A17)) {A19 : Nat → Int32} (h_A19 : a0 19 = (4, .inl A19)) (F : Nat) (p1 : Int32) {X0 : Int32 × Int32 × Int32 × Int32 × (Nat → Int32) × (Nat → Int32) × (Nat → Int32) × (Nat → Int32)} (hs0 : fX10_readAgain F x24_2 A26 x11_6 x11_7 x24_3 x24_4 A13 A15 A17 A19 p1 = some X0) : gMv l yX10_readAgain cX10_readAgain 4 none ({ frames := 4, cells := 0, slots := 0, locals := 85 } : Room) D cy N q m0 a0 sz [.ref (q 24), .int p1, .ref (q 11)] (fun m' a' => m' 1106 = .int X0.1 ∧ m' 1107 = .int X0.2.1 ∧ m' 2403 = .int X0.2.2.1 ∧ m' 2404 = .int X0.2.2.2.1 ∧ (∀ j, nel j [1106, 1107, 2403, 2404] = false → m' j = m0 j) ∧ a' 13 = (64, .inl X0.2.2.2.2.1) ∧ a' 15 = (64, .inl X0.2.2.2.2.2.1) ∧ a' 17 = (64, .inl X0.2.2.2.2.2.2.1) ∧ a' 19 = (4, .inl X0.2.2.2.2.2.2.2) ∧ (∀ j, nel j [13, 15, 17, 19] = false → a' j = a0 j)) := by
  refine g_ofv (by decide) (Nat.le_of_ble_eq_true rfl) ?_
  intro p e s M args below meth c hx hb hr hG hown hin hlocks hml hW hS ls hl
  unfold fX10_readAgain at hs0
  have hoff : ∀ j, nel j [1106, 1107, 2403, 2404] = false → m0 j = m0 j := off0
  have hoffa : ∀ j, nel j [13, 15, 17, 19] = false → a0 j = a0 j := off0
  refine lv_aload_n hx hb dX10_readAgain_0 rfl (lv_at hl 2 rfl) ?_
  refine g_ViR (n := 0) hx hb hml hown hG hW hS [] (kX8_mayOpen hN h_x11_7) (ltN hN 11 rfl) gk11 (by decide) rfl rfl (gd_V gx1256 gx1257 gx1258 gx27 gx1259) rfl rfl (by decide) ⟨Nat.le_of_ble_eq_true rfl, Nat.le_of_ble_eq_true rfl⟩ rfl hl (Nat.le_of_ble_eq_true rfl) ⟨Nat.zero_le _, Nat.zero_le _⟩ dX10_readAgain_1 (fun H locs hW hS => ?_)
  refine lv_if_ne (tgt := 14) hx hb dX10_readAgain_4 (by decide) (fun c2 => ?_) (fun c2 => ?_)
  · rw [if_neg c2] at hs0
    refine lv_aload_n hx hb dX10_readAgain_14 rfl (lv_at hl 0 rfl) ?_
    refine lv_iconst (v := 0) hx hb dX10_readAgain_15 (by decide) ?_
    refine lv_bipush (v := 30) hx hb dX10_readAgain_16 (by decide) ?_
    obtain ⟨r3, hf3, hs0⟩ := obind hs0
    refine g_Vi (n := 2) hx hb hml hown hG hW hS [.int 0, .int 30] (kX10_readNumber hN hsh ((hoff 2402 rfl).trans h_x24_2) ((hoffa 26 rfl).trans h_A26) h_x24_3 h_x24_4 F 0 30 hf3) (ltN hN 24 rfl) gk24 (by decide) rfl rfl (gd_V gx1248 gx1249 gx1250 gx31 gx1251) rfl rfl (by decide) ⟨Nat.le_of_ble_eq_true rfl, Nat.le_of_ble_eq_true rfl⟩ rfl hl (Nat.le_of_ble_eq_true rfl) ⟨Nat.zero_le _, Nat.zero_le _⟩ dX10_readAgain_18 (fun x3 m3 a3 H locs hp3 hW hS => ?_)
    obtain ⟨hx3, hp3_x24_3, hp3_x24_4, ho3, ha3⟩ := hp3
    subst hx3
    rw [ha3] at hW
    have w_x11_6 : m3 1106 = .int x11_6 := (ho3 1106 rfl).trans h_x11_6
    have w_x11_7 : m3 1107 = .int x11_7 := (ho3 1107 rfl).trans h_x11_7
    have w_x24_3 : m3 2403 = .int r3.2.1 := hp3_x24_3
    have w_x24_4 : m3 2404 = .int r3.2.2 := hp3_x24_4
    have hoff := offm hoff ho3 (by decide +kernel)
    have hsh := SH.off hsh ho3 (by decide +kernel)
    refine lv_istore_n (lv' := [(3, .int r3.1), (0, .ref (q 24)), (1, .int p1), (2, .ref (q 11))]) hx hb dX10_readAgain_21 rfl hl (by decide) rfl (fun ls hl => ?_)
    refine lv_aload_n hx hb dX10_readAgain_22 rfl (lv_at hl 1 rfl) ?_
    refine lv_bipush (v := 91) hx hb dX10_readAgain_23 (by decide) ?_
    obtain ⟨r4, hf4, hs0⟩ := obind hs0
    refine g_Vv (n := 1) hx hb hml hown hG hW hS [.int 91] (kX10_expect hN hsh ((hoff 2402 rfl).trans h_x24_2) ((hoffa 26 rfl).trans h_A26) w_x24_3 w_x24_4 F 91 hf4) (ltN hN 24 rfl) gk24 (by decide) rfl rfl (gd_V gx1182 gx1183 gx1184 gx31 gx1185) rfl rfl (by decide) ⟨Nat.le_of_ble_eq_true rfl, Nat.le_of_ble_eq_true rfl⟩ rfl hl (Nat.le_of_ble_eq_true rfl) ⟨Nat.zero_le _, Nat.zero_le _⟩ dX10_readAgain_25 (fun m4 a4 H locs hp4 hW hS => ?_)
    obtain ⟨hp4_x24_3, hp4_x24_4, ho4, ha4⟩ := hp4
    rw [ha4] at hW
    have w_x11_6 : m4 1106 = .int x11_6 := (ho4 1106 rfl).trans w_x11_6
    have w_x11_7 : m4 1107 = .int x11_7 := (ho4 1107 rfl).trans w_x11_7
    have w_x24_3 : m4 2403 = .int r4.1 := hp4_x24_3
    have w_x24_4 : m4 2404 = .int r4.2 := hp4_x24_4
    have hoff := offm hoff ho4 (by decide +kernel)
    have hsh := SH.off hsh ho4 (by decide +kernel)
    refine lv_aload_n hx hb dX10_readAgain_28 rfl (lv_at hl 3 rfl) ?_
    refine lv_iload_n hx hb dX10_readAgain_29 rfl (lv_at hl 0 rfl) ?_
    refine g_Vv (n := 1) hx hb hml hown hG hW hS [.int r3.1] (kX8_open hN hsh w_x11_6 w_x11_7 h_A13 h_A15 h_A17 h_A19 r3.1) (ltN hN 11 rfl) gk11 (by decide) rfl rfl (gd_V gx1260 gx1261 gx1262 gx27 gx1263) rfl rfl (by decide) ⟨Nat.le_of_ble_eq_true rfl, Nat.le_of_ble_eq_true rfl⟩ rfl hl (Nat.le_of_ble_eq_true rfl) ⟨Nat.zero_le _, Nat.zero_le _⟩ dX10_readAgain_30 (fun m5 a5 H locs hp5 hW hS => ?_)
    obtain ⟨hp5_x11_6, hp5_x11_7, ho5, hp5_A13, hp5_A15, hp5_A17, hp5_A19, hoa5⟩ := hp5
    have w_x11_6 : m5 1106 = .int ((fX8_open x11_6 x11_7 A13 A15 A17 A19 r3.1).1) := hp5_x11_6
    have w_x11_7 : m5 1107 = .int ((fX8_open x11_6 x11_7 A13 A15 A17 A19 r3.1).2.1) := hp5_x11_7
    have w_x24_3 : m5 2403 = .int r4.1 := (ho5 2403 rfl).trans w_x24_3
    have w_x24_4 : m5 2404 = .int r4.2 := (ho5 2404 rfl).trans w_x24_4
    have hoff := offm hoff ho5 (by decide +kernel)
    have hsh := SH.off hsh ho5 (by decide +kernel)
    have w_A13 : a5 13 = (64, .inl ((fX8_open x11_6 x11_7 A13 A15 A17 A19 r3.1).2.2.1)) := hp5_A13
    have w_A15 : a5 15 = (64, .inl ((fX8_open x11_6 x11_7 A13 A15 A17 A19 r3.1).2.2.2.1)) := hp5_A15
    have w_A17 : a5 17 = (64, .inl ((fX8_open x11_6 x11_7 A13 A15 A17 A19 r3.1).2.2.2.2.1)) := hp5_A17
    have w_A19 : a5 19 = (4, .inl ((fX8_open x11_6 x11_7 A13 A15 A17 A19 r3.1).2.2.2.2.2)) := hp5_A19
    have hoffa := offm hoffa hoa5 (by decide +kernel)
    have hs0 := Option.some.inj hs0
    subst hs0
    exact W.vret hx hb hr (fun t ht hw => ⟨⟨(m5, a5), rfl, ⟨w_x11_6, w_x11_7, w_x24_3, w_x24_4, hoff, w_A13, w_A15, w_A17, w_A19, hoffa⟩, g_end hW ht hw⟩, hS.F ht⟩) hS.2.2 dX10_readAgain_33 hlocks
  · rw [if_pos c2] at hs0
    refine lv_aload_n hx hb dX10_readAgain_7 rfl (lv_at hl 0 rfl) ?_
    refine lv_iload_n hx hb dX10_readAgain_8 rfl (lv_at hl 1 rfl) ?_
    refine lv_iconst (v := 3) hx hb dX10_readAgain_9 (by decide) ?_
    refine g_Vv (n := 2) hx hb hml hown hG hW hS [.int p1, .int 3] (kX10_blame hN hsh h_x24_4 p1 3) (ltN hN 24 rfl) gk24 (by decide) rfl rfl (gd_V gx1167 gx1168 gx1169 gx31 gx1170) rfl rfl (by decide) ⟨Nat.le_of_ble_eq_true rfl, Nat.le_of_ble_eq_true rfl⟩ rfl hl (Nat.le_of_ble_eq_true rfl) ⟨Nat.zero_le _, Nat.zero_le _⟩ dX10_readAgain_10 (fun m6 a6 H locs hp6 hW hS => ?_)
    obtain ⟨hp6_x24_4, ho6, ha6⟩ := hp6
    rw [ha6] at hW
    have w_x11_6 : m6 1106 = .int x11_6 := (ho6 1106 rfl).trans h_x11_6
    have w_x11_7 : m6 1107 = .int x11_7 := (ho6 1107 rfl).trans h_x11_7
    have w_x24_3 : m6 2403 = .int x24_3 := (ho6 2403 rfl).trans h_x24_3
    have w_x24_4 : m6 2404 = .int (fX10_blame x24_4 p1 3) := hp6_x24_4
    have hoff := offm hoff ho6 (by decide +kernel)
    have hsh := SH.off hsh ho6 (by decide +kernel)
    have hs0 := Option.some.inj hs0
    subst hs0
    exact W.vret hx hb hr (fun t ht hw => ⟨⟨(m6, a0), rfl, ⟨w_x11_6, w_x11_7, w_x24_3, w_x24_4, hoff, h_A13, h_A15, h_A17, h_A19, hoffa⟩, g_end hW ht hw⟩, hS.F ht⟩) hS.2.2 dX10_readAgain_13 hlocks
